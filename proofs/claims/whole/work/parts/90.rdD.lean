/-! the class: sums and truths read -/
def FC (I I' : Nat → Nat → Int32) : Prop := F1 [13] [3, 4, 5, 6, 10, 11, 12] I I'
def CE (P : Nat) (I : Nat → Nat → Int32) (t : Nat → Nat) (n : Nat) (m : Bool) (x : Er ⊕ Ex) : Prop := ∃ (z : Zt) (ll : Nat), zr z = xt x ∧ CX I t n z ∧ I 1 8 = (if m then 1 else 0) ∧ I 1 10 = nI ll ∧ ll + P ≤ z.2.2.1 ∧ ∀ s, x = .inr s → s.2.length = ll ∧ ∀ i v, s.2[i]? = some v → I 13 i = cst m v
def RcC (l : Launch) (G : Gh) (M : Mt) (dep : Nat) (t : Nat → Nat) (n : Nat) (m : Bool) (d : Nat) (f : Ex → Er ⊕ Ex) : Prop := ∀ (k P : Nat) (I : Nat → Nat → Int32) (J : Nat → Nat → Int64) (R : Nat → Nat → Option Nat) (S : Nat → Nat × Nat) (nx : Nat) (x : Er ⊕ Ex), CF R S nx → CE P I t n m x → Cal l G (k + dep) 0 0 M [.ref 1, .int (nI d)] (I, J, R, S, nx) (fun r μ' => r = .inl none ∧ ∃ I', μ' = (I', J, R, S, nx) ∧ FC I I' ∧ CE P I' t n m (xb x f))
theorem zr_i {z : Zt} {s : Tok} (h : zr z = .inr s) : z = (none, s) := by
  obtain ⟨_ | e, s'⟩ := z
  · have : s' = s := Sum.inr.inj h
    rw [this]
  · cases h
theorem zr_l {z : Zt} {e : Er} (h : zr z = .inl e) : z.1 = some e := by
  obtain ⟨_ | e', s'⟩ := z
  · cases h
  · have : e' = e := Sum.inl.inj h
    rw [this]
theorem slt_w {m : Bool} {tk j : Nat} (h : xw m tk = some j) : slt m j = tk - 300 ∧ 300 ≤ tk ∧ tk ≤ 320 ∧ j ≤ 6 := by
  have := xw_lt h
  unfold xw at h
  cases m
  · simp only [Bool.false_eq_true, if_false] at h
    split at h
    · obtain rfl := Option.some.inj h; rename_i c; rw [c]; decide
    split at h
    · obtain rfl := Option.some.inj h; rename_i c; rw [c]; decide
    split at h
    · obtain rfl := Option.some.inj h; rename_i c; rw [c]; decide
    split at h
    · obtain rfl := Option.some.inj h; rename_i c; rw [c]; decide
    split at h
    · obtain rfl := Option.some.inj h; rename_i c; rw [c]; decide
    split at h
    · obtain rfl := Option.some.inj h; rename_i c; rw [c]; decide
    cases h
  · simp only [if_true] at h
    split at h
    · obtain rfl := Option.some.inj h; rename_i c; rw [c]; decide
    split at h
    · obtain rfl := Option.some.inj h; rename_i c; rw [c]; decide
    split at h
    · obtain rfl := Option.some.inj h; rename_i c; rw [c]; decide
    split at h
    · obtain rfl := Option.some.inj h; rename_i c; rw [c]; decide
    split at h
    · obtain rfl := Option.some.inj h; rename_i c; rw [c]; decide
    split at h
    · obtain rfl := Option.some.inj h; rename_i c; rw [c]; decide
    split at h
    · obtain rfl := Option.some.inj h; rename_i c; rw [c]; decide
    cases h
theorem xw_n {m : Bool} {tk : Nat} : xw m tk = none ↔ (if m then tk ≠ 301 ∧ tk ≠ 318 ∧ tk ≠ 310 ∧ tk ≠ 319 ∧ tk ≠ 320 ∧ tk ≠ 306 ∧ tk ≠ 300 else tk ≠ 314 ∧ tk ≠ 315 ∧ tk ≠ 316 ∧ tk ≠ 306 ∧ tk ≠ 317 ∧ tk ≠ 300) := by
  unfold xw
  cases m <;> simp only [Bool.false_eq_true, if_false, if_true] <;> (repeat' split) <;> simp_all
section A
variable {l : Launch} {G : Gh} {k : Nat} {I : Nat → Nat → Int32} {J : Nat → Nat → Int64} {R : Nat → Nat → Option Nat} {S : Nat → Nat × Nat} {nx : Nat} {κ : Nat → Nat} {hb pb : Nat}
theorem FC.t {I1 I2 : Nat → Nat → Int32} (h : FC I I1) (h2 : FC I1 I2) : FC I I2 := F1.t h h2
variable {t : Nat → Nat} {n d F : Nat} {m : Bool} {x : Er ⊕ Ex}
theorem CE.tx {P : Nat} (h : CE P I t n m x) : Tx t n := by
  obtain ⟨z, ll, _, h2, _⟩ := h; exact h2.tx
theorem CE.wk {P P' : Nat} (h : CE P I t n m x) (hP : P' ≤ P) : CE P' I t n m x := by
  obtain ⟨z, ll, h1, h2, h3, h4, h5, h6⟩ := h
  exact ⟨z, ll, h1, h2, h3, h4, by omega, h6⟩
theorem CE.z {P : Nat} {s : Ex} (h : CE P I t n m (.inr s)) : CX I t n (none, s.1) ∧ I 1 8 = (if m then 1 else 0) ∧ I 1 10 = nI s.2.length ∧ (∀ i v, s.2[i]? = some v → I 13 i = cst m v) ∧ s.2.length + P ≤ s.1.2.1 := by
  obtain ⟨z, ll, h1, h2, h3, h4, h5, h6⟩ := h
  have e := zr_i (s := s.1) h1
  rw [e] at h2 h5
  obtain ⟨g1, g2⟩ := h6 s rfl
  exact ⟨h2, h3, by rw [g1]; exact h4, g2, by rw [g1]; exact h5⟩
theorem CE.wf {P : Nat} {s : Ex} (h : CE P I t n m (.inr s)) : Wf t n s.1 := h.z.1.wf
theorem CE.yes {P : Nat} {s : Ex} (h : CE P I t n m (.inr s)) : I 1 11 = 0 := h.z.1.2.2.1
theorem CE.no {P : Nat} {e : Er} (h : CE P I t n m (.inl e)) : ¬ I 1 11 = 0 := by
  obtain ⟨z, ll, h1, h2, _⟩ := h
  have := zr_l (e := e) h1
  rw [h2.bad, this]; exact fun g => by cases g
theorem CE.tok {P : Nat} {s : Ex} (h : CE P I t n m (.inr s)) {c : Nat} (hc : c < 1000) : (I 1 4 = nI c) = (s.1.2.2.1 = c) := h.z.1.tok hc
theorem CE.b10 {P : Nat} (h : CE P I t n m x) (g : ¬ Int32.ofNat 900 ≤ I 1 10) : vp_in (I 1 10) 900 := by
  obtain ⟨z, ll, h1, h2, h3, h4, h5, h6⟩ := h
  have hg := h2.g
  have hx := h2.tx.1
  rw [h4] at g ⊢
  refine vp_in_nI ?_ (by decide)
  by_cases c : ll < 900
  · exact c
  · exact absurd (nI_le (a := 900) (by omega) (by omega)) g
theorem FC.ok {fs : List Nat} {I1 : Nat → Nat → Int32} (h : F1 [] fs I I1) (hf : ∀ a ∈ fs, a ∈ [3, 4, 5, 6, 10, 11, 12]) : FC I I1 := F1.wk h (by simp) hf
/-- a step of tokens alone -/
theorem CE.go {P' ll : Nat} {fs : List Nat} {I' : Nat → Nat → Int32} {x' : Er ⊕ Ex} {z' : Zt} (h8 : I 1 8 = (if m then 1 else 0)) (h10 : I 1 10 = nI ll) (hst : ∀ s, x = .inr s → s.2.length = ll ∧ ∀ i v, s.2[i]? = some v → I 13 i = cst m v) (hF : F1 [] fs I I') (hf : 8 ∉ fs ∧ 10 ∉ fs) (hz : CX I' t n z') (he : zr z' = xt x') (hle : ll + P' ≤ z'.2.2.1) (hx : ∀ s', x' = .inr s' → ∃ s, x = .inr s ∧ s'.2 = s.2) : CE P' I' t n m x' := by
  refine ⟨z', ll, he, hz, by rw [hF.2 8 hf.1]; exact h8, by rw [hF.2 10 hf.2]; exact h10, hle, fun s' hs' => ?_⟩
  obtain ⟨s, e1, e2⟩ := hx s' hs'
  rw [e2, hF.1 13 (by decide) (by simp)]
  exact hst s e1
theorem adv_p {P : Nat} (w : CF R S nx) (hG : GT G) (h : CE P I t n m x) (h7 : ¬ I 1 4 = (257 : Int32)) : Cal l G (k + 6) 0 0 mX6_advance [.ref 1] (I, J, R, S, nx) (fun r μ' => r = .inl none ∧ ∃ I', μ' = (I', J, R, S, nx) ∧ FC I I' ∧ CE (P + 1) I' t n m (xb x (fun s => .inr (xad t n s)))) := by
  obtain ⟨z, ll, h1, h2, h3, h4, h5, h6⟩ := h
  rw [show (257 : Int32) = nI 257 from rfl, h2.tok (by decide)] at h7
  have hg := h2.g.2.2.1.resolve_left h7
  have ha : z.2.1 ≤ (ynx t n z.2.1).2.1 := (h2.wf.ad h2.tx).2.1
  refine (adv_z w hG h2).mono (fun r μ' ⟨e, I', e2, g1, g2⟩ => ⟨e, I', e2, FC.ok g1 (by decide), CE.go (x := x) h3 h4 h6 g1 (by decide) g2 ?_ ?_ (fun s' hs => ?_)⟩)
  · rw [zr_ad, h1]; cases x <;> rfl
  · show ll + (P + 1) ≤ (ynx t n z.2.1).2.1; omega
  · cases x with
    | inl e => cases hs
    | inr s => obtain rfl := Sum.inr.inj hs; exact ⟨s, rfl, rfl⟩
theorem must_k {P c : Nat} (w : CF R S nx) (hG : GT G) (h : CE P I t n m x) (hc : c < 1000) : Cal l G (k + 7) 0 0 mX6_take [.ref 1, .int (nI c)] (I, J, R, S, nx) (fun r μ' => r = .inl none ∧ ∃ I', μ' = (I', J, R, S, nx) ∧ FC I I' ∧ CE P I' t n m (xb x (xmust t n c))) := by
  obtain ⟨z, ll, h1, h2, h3, h4, h5, h6⟩ := h
  have ha : z.2.1 ≤ (ynx t n z.2.1).2.1 := (h2.wf.ad h2.tx).2.1
  have hg := h2.g.1
  refine (take_z w hG h2 hc).mono (fun r μ' ⟨e, I', e2, g1, g2⟩ => ⟨e, I', e2, FC.ok g1 (by decide), CE.go (x := x) h3 h4 h6 g1 (by decide) g2 ?_ ?_ (fun s' hs => ?_)⟩)
  · rw [zr_mu, h1]
    cases x with
    | inl e => rfl
    | inr s =>
      show ymust t n c s.1 = xt (xmust t n c s)
      unfold ymust xmust
      by_cases cc : s.1.2.2.1 = c
      · rw [if_pos cc, if_pos cc]; rfl
      · rw [if_neg cc, if_neg cc]; rfl
  · unfold zmu
    split
    · show ll + P ≤ (ynx t n z.2.1).2.1; omega
    · show ll + P ≤ z.2.2.1; omega
  · cases x with
    | inl e => cases hs
    | inr s =>
      have hs2 : xmust t n c s = .inr s' := hs
      unfold xmust at hs2
      by_cases cc : s.1.2.2.1 = c
      · rw [if_pos cc] at hs2
        obtain rfl := Sum.inr.inj hs2
        exact ⟨s, rfl, rfl⟩
      · rw [if_neg cc] at hs2; cases hs2
theorem refuse_k {P : Nat} (h : CE P I t n m x) : FC I (w_X6_refuse I) ∧ CE P (w_X6_refuse I) t n m (xb x (fun s => .inl (qbl 2 s.1))) := by
  obtain ⟨z, ll, h1, h2, h3, h4, h5, h6⟩ := h
  have hr := refuse_z h2
  refine ⟨FC.ok hr.1 (by decide), CE.go (x := x) h3 h4 h6 hr.1 (by decide) hr.2 ?_ h5 (fun s' hs => ?_)⟩
  · rw [zr_rf, h1]; cases x <;> rfl
  · cases x <;> cases hs
theorem fail_k {P : Nat} {s : Ex} (h : CE P I t n m (.inr s)) : FC I (w_X6_fail I (4 : Int32)) ∧ CE P (w_X6_fail I (4 : Int32)) t n m (.inl (4, s.1.2.1)) := by
  obtain ⟨h2, h3, h4, h5, h6⟩ := h.z
  have hr := fail_z (kd := 4) h2 (by decide)
  exact ⟨FC.ok hr.1 (by decide), CE.go (x := .inr s) h3 h4 (fun s' hs => by obtain rfl := Sum.inr.inj hs; exact ⟨rfl, h5⟩) hr.1 (by decide) hr.2 rfl h6 (fun s' hs => by cases hs)⟩
/-- room is there: what a step put does to the memory -/
theorem put_m {ll : Nat} {v : Int32} (hl : I 1 10 = nI ll) (h9 : ll < 900) : w_X6_put I v = up2 (up2 I 13 ll v) 1 10 (nI (ll + 1)) := by
  unfold w_X6_put
  rw [hl, if_neg (show ¬ Int32.ofNat 900 ≤ nI ll from nI_ge (b := 900) h9 (by decide)), nI_clamp (by omega), nI_1]
theorem put_f {v : Int32} : F1 [13] [10] I (w_X6_put I v) := by
  unfold w_X6_put
  split
  · exact F1.rf
  · exact (F1.rf.up (by decide) (by decide)).uf (by decide)
theorem put_at {ll i : Nat} {v : Int32} : up2 (up2 I 13 ll v) 1 10 (nI (ll + 1)) 13 i = if i = ll then v else I 13 i := by
  simp [up2]
theorem put_st {ll v : Nat} {c : Int32} {st : List Nat} (hc : c = cst m v) (hl : st.length = ll) (h : ∀ i u, st[i]? = some u → I 13 i = cst m u) : (st ++ [v]).length = ll + 1 ∧ ∀ i u, (st ++ [v])[i]? = some u → up2 (up2 I 13 ll c) 1 10 (nI (ll + 1)) 13 i = cst m u := by
  refine ⟨by rw [List.length_append]; simp [hl], fun i u hu => ?_⟩
  rw [put_at]
  by_cases ci : i = ll
  · rw [if_pos ci]
    rw [ci, ← hl, List.getElem?_append_right (Nat.le_refl _)] at hu
    simp at hu
    rw [hc, hu]
  · rw [if_neg ci]
    by_cases ci2 : i < st.length
    · rw [List.getElem?_append_left ci2] at hu; exact h i u hu
    · rw [List.getElem?_append_right (by omega), List.getElem?_eq_none (by simp; omega)] at hu; cases hu
theorem put_e {P v : Nat} {c : Int32} (hc : c = cst m v) (h : CE (P + 1) I t n m x) : FC I (w_X6_put I c) ∧ CE P (w_X6_put I c) t n m (xb x (fun s => .inr (xput v s))) := by
  have hF : F1 [13] [10] I (w_X6_put I c) := put_f
  refine ⟨F1.wk hF (by decide) (by decide), ?_⟩
  obtain ⟨z, ll, h1, h2, h3, h4, h5, h6⟩ := h
  have hg := h2.g
  have hx := h2.tx.1
  have hm := put_m (v := c) h4 (by omega)
  refine ⟨z, ll + 1, ?_, h2.f1 hF (by decide) (by decide), by rw [hF.2 8 (by decide)]; exact h3, by rw [hm]; simp [up2], by omega, fun s' hs => ?_⟩
  · rw [h1]; cases x <;> rfl
  · cases x with
    | inl e => cases hs
    | inr s =>
      obtain rfl := Sum.inr.inj hs
      obtain ⟨g1, g2⟩ := h6 s rfl
      rw [hm]
      exact put_st hc g1 g2
/-- a step put, then the next token -/
theorem puta_e {P : Nat} {s : Ex} {v : Nat} {c : Int32} (w : CF R S nx) (hG : GT G) (hc : c = cst m v) (h : CE P I t n m (.inr s)) (h7 : s.1.2.2.1 ≠ 257) : Cal l G (k + 6) 0 0 mX6_advance [.ref 1] (w_X6_put I c, J, R, S, nx) (fun r μ' => r = .inl none ∧ ∃ I', μ' = (I', J, R, S, nx) ∧ FC I I' ∧ CE P I' t n m (.inr (xput v (xad t n s)))) := by
  obtain ⟨h2, h3, h4, h5, h6⟩ := h.z
  have hF : F1 [13] [10] I (w_X6_put I c) := put_f
  have hx := h2.tx
  have hg : s.1.2.1 ≤ s.1.1 ∧ s.1.1 ≤ n ∧ (s.1.2.2.1 = 257 ∨ s.1.2.1 < s.1.1) ∧ _ := h2.g
  have hlt := hg.2.2.1.resolve_left h7
  have h9 := hx.1
  have hm := put_m (v := c) h4 (by omega)
  have a1 : s.1.1 ≤ (ynx t n s.1.1).2.1 := (h2.wf.ad hx).2.1
  refine (adv_z w hG (h2.f1 hF (by decide) (by decide))).mono (fun r μ' ⟨e, I', e2, g1, g2⟩ => ⟨e, I', e2, (F1.wk hF (by decide) (by decide)).t (F1.wk g1 (by decide) (by decide)), (none, ynx t n s.1.1), s.2.length + 1, rfl, g2, by rw [g1.2 8 (by decide), hF.2 8 (by decide)]; exact h3, by rw [g1.2 10 (by decide), hm]; simp [up2], ?_, fun s' hs => ?_⟩)
  · show s.2.length + 1 + P ≤ (ynx t n s.1.1).2.1; omega
  · obtain rfl := Sum.inr.inj hs
    rw [g1.1 13 (by decide) (by decide), hm]
    exact put_st hc rfl h5
theorem deeper_c {P : Nat} {s : Ex} (w : CF R S nx) (hG : GT G) (h : CE P I t n m (.inr s)) (hd : d ≤ 6) (h7 : s.1.2.2.1 ≠ 257) : Cal l G (k + 7) 0 0 mX6_goesDeeper [.ref 1, .int (nI d)] (I, J, R, S, nx) (fun r μ' => r = .inl (some (.int (if d = 6 then 0 else 1))) ∧ ∃ I', μ' = (I', J, R, S, nx) ∧ FC I I' ∧ if d = 6 then CE P I' t n m (.inl (4, s.1.2.1)) else CE (P + 1) I' t n m (.inr (xad t n s))) := by
  have e6 : (nI d < (6 : Int32)) = (d < 6) := propext (nI_ltI (b := 6) (by omega) (by decide))
  by_cases c : d = 6
  · have d1 : ¬ nI d < (6 : Int32) := by rw [e6]; omega
    simp only [if_pos c]
    have hf := fail_k h
    refine Cal.of rfl (by decide +kernel) (by simp) (Nat.le_of_ble_eq_true rfl) rfl (sX6_goesDeeper_0 (P1 := fun _ _ => True) w ?_ ?_ ?_) <;> intros <;> (first | exact absurd (by with_reducible assumption) d1 | exact absurd d1 (by with_reducible assumption) | skip)
    exact ⟨rfl, _, rfl, hf⟩
  · have d1 : nI d < (6 : Int32) := by rw [e6]; omega
    simp only [if_neg c]
    refine Cal.of rfl (by decide +kernel) (by simp) (Nat.le_of_ble_eq_true rfl) rfl (sX6_goesDeeper_0 (P1 := fun I I' => FC I I' ∧ CE (P + 1) I' t n m (.inr (xad t n s))) w ?_ ?_ ?_) <;> intros <;> (first | exact absurd (by with_reducible assumption) d1 | exact absurd d1 (by with_reducible assumption) | skip)
    · exact adv_p (x := .inr s) w hG h (by rw [show (257 : Int32) = nI 257 from rfl, h.tok (by decide)]; exact h7)
    · rename_i I1 h1; exact ⟨rfl, _, rfl, h1⟩
/-- behind a token that was passed the reader stands farther -/
theorem beh_s {f : Ex → Er ⊕ Ex} {v : Ex → Nat} {s s' : Ex} (hx : Tx t n) (hf : Gd t n f) (h : Wf t n s.1) (h7 : s.1.2.2.1 ≠ 257) (hs : xb (f (xad t n s)) (fun s' => .inr (xput (v s) s')) = .inr s') : s.1.2.1 < s'.1.2.1 := by
  cases hq : f (xad t n s) with
  | inl e => rw [hq] at hs; cases hs
  | inr s1 =>
    rw [hq] at hs
    have e : xput (v s) s1 = s' := Sum.inr.inj hs
    have h1 := ((hf (xad t n s) (xad_r h hx).1).2 s1 hq).2
    have a1 : s.1.1 ≤ (ynx t n s.1.1).2.1 := (h.ad hx).2.1
    have a2 : (ynx t n s.1.1).2.1 ≤ s1.1.2.1 := h1.2.2.1
    have hg := (h.g hx).2.2.1.resolve_left h7
    rw [← e]
    show s.1.2.1 < s1.1.2.1
    omega
theorem cloop {P0 : Nat} {c : Ex → Bool} {b : Ex → Er ⊕ Ex} {W : Nat → (Nat → Nat → Int32) → Prop} {P : (Nat → Nat → Int32) → Prop} {I0 : Nat → Nat → Int32} (hx : Tx t n) (hF : n < F) (hc : ∀ s : Ex, c s = true → s.1.2.2.1 ≠ 257) (hg : ∀ s : Ex, Wf t n s.1 → c s = true → ∀ s', b s = .inr s' → s.1.2.1 < s'.1.2.1)
    (hexit : ∀ (i : Nat) (I1 : Nat → Nat → Int32) (x : Er ⊕ Ex), FC I0 I1 → CE P0 I1 t n m x → (∀ s, x = .inr s → c s = false) → P I1 → W i I1)
    (hbody : ∀ (i : Nat) (I1 : Nat → Nat → Int32) (s : Ex), i < 900 → FC I0 I1 → CE P0 I1 t n m (.inr s) → c s = true → (∀ I2, FC I0 I2 → CE P0 I2 t n m (b s) → W (i + 1) I2) → W i I1) :
    ∀ (f i : Nat) (I1 : Nat → Nat → Int32) (x : Er ⊕ Ex), FC I0 I1 → CE P0 I1 t n m x → (∀ s, x = .inr s → F ≤ f + s.1.2.1 ∧ i ≤ s.1.2.1) → (∀ I2, FC I0 I2 → CE P0 I2 t n m (xb x (xlp c b f)) → P I2) → W i I1 := by
  intro f
  induction f with
  | zero =>
    intro i I1 x hf hC hs hP
    cases x with
    | inl e => exact hexit i I1 _ hf hC (fun s h => by cases h) (hP I1 hf hC)
    | inr s =>
      have := hs s rfl
      have hg := hC.wf.g hx
      omega
  | succ f ih =>
    intro i I1 x hf hC hs hP
    cases x with
    | inl e => exact hexit i I1 _ hf hC (fun s h => by cases h) (hP I1 hf hC)
    | inr s =>
      cases hcs : c s with
      | false => exact hexit i I1 _ hf hC (fun s' h => by obtain rfl := Sum.inr.inj h; exact hcs) (hP I1 hf (by show CE P0 I1 t n m (xlp c b (f + 1) s); rw [xlp_n hcs]; exact hC))
      | true =>
        have hh := hs s rfl
        have hgg := hC.wf.g hx
        have h7 := hgg.2.2.1.resolve_left (hc s hcs)
        have h9 := hx.1
        refine hbody i I1 s (by omega) hf hC hcs (fun I2 hf2 hC2 => ih (i + 1) I2 (b s) hf2 hC2 (fun s' hs' => ?_) (fun I3 hf3 hC3 => hP I3 hf3 ?_))
        · have := hg s hC.wf hcs s' hs'; omega
        · show CE P0 I3 t n m (xlp c b (f + 1) s)
          rw [xlp_y hcs]; exact hC3
theorem term_k {fu : Ex → Er ⊕ Ex} {dy : Nat} (hG : GT G) (hx : Tx t n) (hF : n < F) (hdy : 39 ≤ dy) (hg : Gd t n fu) (hi : RcC l G mX6_readAtom dy t n m d fu) : RcC l G mX6_readTerm (dy + 1) t n m d (fun s => xb (fu s) (xlp (fun s => decide (s.1.2.2.1 = 42)) (fun s => xb (fu (xad t n s)) (fun s' => .inr (xput 12 s'))) F)) := by
  intro k P I J R S nx x w h
  obtain ⟨kk, hkk⟩ : ∃ kk, k + (dy + 1) = kk + 40 := ⟨k + dy - 39, by omega⟩
  rw [hkk]
  have hi' : ∀ (Q : Nat) (I1 : Nat → Nat → Int32) (y : Er ⊕ Ex), CE Q I1 t n m y → Cal l G (kk + 39) 0 0 mX6_readAtom [.ref 1, .int (nI d)] (I1, J, R, S, nx) (fun r μ' => r = .inl none ∧ ∃ I', μ' = (I', J, R, S, nx) ∧ FC I1 I' ∧ CE Q I' t n m (xb y fu)) := by
    intro Q I1 y h1
    have := hi k Q I1 J R S nx y w h1
    rw [show k + dy = kk + 39 by omega] at this
    exact this
  refine Cal.of rfl (by decide +kernel) (by simp) (Nat.le_of_ble_eq_true rfl) rfl (sX6_readTerm_0 (k := kk) (P1 := fun I I' => FC I I' ∧ CE P I' t n m (xb x fu)) w (hi' P I x h) (fun I1 h1 => ?_))
  refine cloop (P0 := P) (c := fun s => decide (s.1.2.2.1 = 42)) (b := fun s => xb (fu (xad t n s)) (fun s' => .inr (xput 12 s'))) (F := F) (I0 := I) (W := fun i I1 => hX6_readTerm_7 l G kk _ (nI d) (nI i) (I1, J, R, S, nx)) (P := fun I' => FC I I' ∧ CE P I' t n m (xb x (fun s => xb (fu s) (xlp (fun s => decide (s.1.2.2.1 = 42)) (fun s => xb (fu (xad t n s)) (fun s' => .inr (xput 12 s'))) F)))) hx hF ?_ ?_ ?_ ?_ F 0 I1 _ h1.1 h1.2 (fun s _ => ⟨by omega, Nat.zero_le _⟩) (fun I2 g1 g2 => ⟨g1, ?_⟩)
  · intro s g
    have g' : decide (s.1.2.2.1 = 42) = true := g
    rw [decide_eq_true_eq] at g'; omega
  · intro s hw g s' hs'
    have g' : decide (s.1.2.2.1 = 42) = true := g
    rw [decide_eq_true_eq] at g'
    exact beh_s (v := fun _ => 12) hx hg hw (by omega) hs'
  · intro i I1 y hf hC hn hP
    have no : ¬ (I1 1 11 = 0 ∧ I1 1 4 = (42 : Int32)) := by
      intro ⟨g1, g2⟩
      cases y with
      | inl e => exact hC.no g1
      | inr s =>
        have g3 := hn s rfl
        rw [show (42 : Int32) = nI 42 from rfl, hC.tok (by decide)] at g2
        have g3' : decide (s.1.2.2.1 = 42) = false := g3
        rw [decide_eq_false_iff_not] at g3'
        exact g3' g2
    exact sX6_readTerm_7 (P1 := fun _ _ => True) (P2 := fun _ _ => True) w (fun _ => ⟨rfl, _, rfl, hP⟩) (fun _ _ => ⟨rfl, _, rfl, hP⟩) (fun _ _ _ => ⟨rfl, _, rfl, hP⟩) (fun _ a b => (no ⟨a, b⟩).elim) (fun _ a b => (no ⟨a, b⟩).elim) (fun _ a b => (no ⟨a, b⟩).elim) (fun _ a b => (no ⟨a, b⟩).elim)
  · intro i I1 s hi9 hf hC hcs hk
    have hcs' : decide (s.1.2.2.1 = 42) = true := hcs
    rw [decide_eq_true_eq] at hcs'
    have h7 : s.1.2.2.1 ≠ 257 := by omega
    have c1 : ¬ (900 : Int32) ≤ nI i := nI_ge (b := 900) hi9 (by decide)
    have c2 : I1 1 11 = 0 := hC.yes
    have c3 : I1 1 4 = (42 : Int32) := by rw [show (42 : Int32) = nI 42 from rfl, hC.tok (by decide)]; exact hcs'
    refine sX6_readTerm_7 (P1 := fun I I' => FC I I' ∧ CE (P + 1) I' t n m (.inr (xad t n s))) (P2 := fun I I' => FC I I' ∧ CE (P + 1) I' t n m (fu (xad t n s))) w (fun g => absurd g c1) (fun _ g => absurd c2 g) (fun _ _ g => absurd c3 g) (fun _ _ _ => adv_p (k := kk + 33) (x := .inr s) w hG hC (by rw [show (257 : Int32) = nI 257 from rfl, hC.tok (by decide)]; exact h7)) (fun _ _ _ I2 h2 => hi' (P + 1) I2 (.inr (xad t n s)) h2.2) (fun _ _ _ I2 h2 I3 h3 g => h3.2.b10 g) (fun _ _ _ I2 h2 I3 h3 => ?_)
    have hp := put_e (v := 12) (c := (-3 : Int32)) (by cases m <;> rfl) h3.2
    rw [nI_1]; exact hk _ (((hf.t h2.1).t h3.1).t hp.1) hp.2
  · cases x with
    | inl e => exact g2
    | inr s => exact g2
theorem both_k {fu : Ex → Er ⊕ Ex} {dy : Nat} (hG : GT G) (hx : Tx t n) (hF : n < F) (hdy : 39 ≤ dy) (hg : Gd t n fu) (hi : RcC l G mX6_readUnit dy t n m d fu) : RcC l G mX6_readBoth (dy + 1) t n m d (fun s => xb (fu s) (xlp (fun s => decide (s.1.2.2.1 = 312)) (fun s => xb (fu (xad t n s)) (fun s' => .inr (xput 16 s'))) F)) := by
  intro k P I J R S nx x w h
  obtain ⟨kk, hkk⟩ : ∃ kk, k + (dy + 1) = kk + 40 := ⟨k + dy - 39, by omega⟩
  rw [hkk]
  have hi' : ∀ (Q : Nat) (I1 : Nat → Nat → Int32) (y : Er ⊕ Ex), CE Q I1 t n m y → Cal l G (kk + 39) 0 0 mX6_readUnit [.ref 1, .int (nI d)] (I1, J, R, S, nx) (fun r μ' => r = .inl none ∧ ∃ I', μ' = (I', J, R, S, nx) ∧ FC I1 I' ∧ CE Q I' t n m (xb y fu)) := by
    intro Q I1 y h1
    have := hi k Q I1 J R S nx y w h1
    rw [show k + dy = kk + 39 by omega] at this
    exact this
  refine Cal.of rfl (by decide +kernel) (by simp) (Nat.le_of_ble_eq_true rfl) rfl (sX6_readBoth_0 (k := kk) (P1 := fun I I' => FC I I' ∧ CE P I' t n m (xb x fu)) w (hi' P I x h) (fun I1 h1 => ?_))
  refine cloop (P0 := P) (c := fun s => decide (s.1.2.2.1 = 312)) (b := fun s => xb (fu (xad t n s)) (fun s' => .inr (xput 16 s'))) (F := F) (I0 := I) (W := fun i I1 => hX6_readBoth_7 l G kk _ (nI d) (nI i) (I1, J, R, S, nx)) (P := fun I' => FC I I' ∧ CE P I' t n m (xb x (fun s => xb (fu s) (xlp (fun s => decide (s.1.2.2.1 = 312)) (fun s => xb (fu (xad t n s)) (fun s' => .inr (xput 16 s'))) F)))) hx hF ?_ ?_ ?_ ?_ F 0 I1 _ h1.1 h1.2 (fun s _ => ⟨by omega, Nat.zero_le _⟩) (fun I2 g1 g2 => ⟨g1, ?_⟩)
  · intro s g
    have g' : decide (s.1.2.2.1 = 312) = true := g
    rw [decide_eq_true_eq] at g'; omega
  · intro s hw g s' hs'
    have g' : decide (s.1.2.2.1 = 312) = true := g
    rw [decide_eq_true_eq] at g'
    exact beh_s (v := fun _ => 16) hx hg hw (by omega) hs'
  · intro i I1 y hf hC hn hP
    have no : ¬ (I1 1 11 = 0 ∧ I1 1 4 = (312 : Int32)) := by
      intro ⟨g1, g2⟩
      cases y with
      | inl e => exact hC.no g1
      | inr s =>
        have g3 := hn s rfl
        rw [show (312 : Int32) = nI 312 from rfl, hC.tok (by decide)] at g2
        have g3' : decide (s.1.2.2.1 = 312) = false := g3
        rw [decide_eq_false_iff_not] at g3'
        exact g3' g2
    exact sX6_readBoth_7 (P1 := fun _ _ => True) (P2 := fun _ _ => True) w (fun _ => ⟨rfl, _, rfl, hP⟩) (fun _ _ => ⟨rfl, _, rfl, hP⟩) (fun _ _ _ => ⟨rfl, _, rfl, hP⟩) (fun _ a b => (no ⟨a, b⟩).elim) (fun _ a b => (no ⟨a, b⟩).elim) (fun _ a b => (no ⟨a, b⟩).elim) (fun _ a b => (no ⟨a, b⟩).elim)
  · intro i I1 s hi9 hf hC hcs hk
    have hcs' : decide (s.1.2.2.1 = 312) = true := hcs
    rw [decide_eq_true_eq] at hcs'
    have h7 : s.1.2.2.1 ≠ 257 := by omega
    have c1 : ¬ (900 : Int32) ≤ nI i := nI_ge (b := 900) hi9 (by decide)
    have c2 : I1 1 11 = 0 := hC.yes
    have c3 : I1 1 4 = (312 : Int32) := by rw [show (312 : Int32) = nI 312 from rfl, hC.tok (by decide)]; exact hcs'
    refine sX6_readBoth_7 (P1 := fun I I' => FC I I' ∧ CE (P + 1) I' t n m (.inr (xad t n s))) (P2 := fun I I' => FC I I' ∧ CE (P + 1) I' t n m (fu (xad t n s))) w (fun g => absurd g c1) (fun _ g => absurd c2 g) (fun _ _ g => absurd c3 g) (fun _ _ _ => adv_p (k := kk + 33) (x := .inr s) w hG hC (by rw [show (257 : Int32) = nI 257 from rfl, hC.tok (by decide)]; exact h7)) (fun _ _ _ I2 h2 => hi' (P + 1) I2 (.inr (xad t n s)) h2.2) (fun _ _ _ I2 h2 I3 h3 g => h3.2.b10 g) (fun _ _ _ I2 h2 I3 h3 => ?_)
    have hp := put_e (v := 16) (c := (-7 : Int32)) (by cases m <;> rfl) h3.2
    rw [nI_1]; exact hk _ (((hf.t h2.1).t h3.1).t hp.1) hp.2
  · cases x with
    | inl e => exact g2
    | inr s => exact g2
theorem truth_k {fu : Ex → Er ⊕ Ex} {dy : Nat} (hG : GT G) (hx : Tx t n) (hF : n < F) (hdy : 39 ≤ dy) (hg : Gd t n fu) (hi : RcC l G mX6_readBoth dy t n m d fu) : RcC l G mX6_readTruth (dy + 1) t n m d (fun s => xb (fu s) (xlp (fun s => decide (s.1.2.2.1 = 311)) (fun s => xb (fu (xad t n s)) (fun s' => .inr (xput 17 s'))) F)) := by
  intro k P I J R S nx x w h
  obtain ⟨kk, hkk⟩ : ∃ kk, k + (dy + 1) = kk + 40 := ⟨k + dy - 39, by omega⟩
  rw [hkk]
  have hi' : ∀ (Q : Nat) (I1 : Nat → Nat → Int32) (y : Er ⊕ Ex), CE Q I1 t n m y → Cal l G (kk + 39) 0 0 mX6_readBoth [.ref 1, .int (nI d)] (I1, J, R, S, nx) (fun r μ' => r = .inl none ∧ ∃ I', μ' = (I', J, R, S, nx) ∧ FC I1 I' ∧ CE Q I' t n m (xb y fu)) := by
    intro Q I1 y h1
    have := hi k Q I1 J R S nx y w h1
    rw [show k + dy = kk + 39 by omega] at this
    exact this
  refine Cal.of rfl (by decide +kernel) (by simp) (Nat.le_of_ble_eq_true rfl) rfl (sX6_readTruth_0 (k := kk) (P1 := fun I I' => FC I I' ∧ CE P I' t n m (xb x fu)) w (hi' P I x h) (fun I1 h1 => ?_))
  refine cloop (P0 := P) (c := fun s => decide (s.1.2.2.1 = 311)) (b := fun s => xb (fu (xad t n s)) (fun s' => .inr (xput 17 s'))) (F := F) (I0 := I) (W := fun i I1 => hX6_readTruth_7 l G kk _ (nI d) (nI i) (I1, J, R, S, nx)) (P := fun I' => FC I I' ∧ CE P I' t n m (xb x (fun s => xb (fu s) (xlp (fun s => decide (s.1.2.2.1 = 311)) (fun s => xb (fu (xad t n s)) (fun s' => .inr (xput 17 s'))) F)))) hx hF ?_ ?_ ?_ ?_ F 0 I1 _ h1.1 h1.2 (fun s _ => ⟨by omega, Nat.zero_le _⟩) (fun I2 g1 g2 => ⟨g1, ?_⟩)
  · intro s g
    have g' : decide (s.1.2.2.1 = 311) = true := g
    rw [decide_eq_true_eq] at g'; omega
  · intro s hw g s' hs'
    have g' : decide (s.1.2.2.1 = 311) = true := g
    rw [decide_eq_true_eq] at g'
    exact beh_s (v := fun _ => 17) hx hg hw (by omega) hs'
  · intro i I1 y hf hC hn hP
    have no : ¬ (I1 1 11 = 0 ∧ I1 1 4 = (311 : Int32)) := by
      intro ⟨g1, g2⟩
      cases y with
      | inl e => exact hC.no g1
      | inr s =>
        have g3 := hn s rfl
        rw [show (311 : Int32) = nI 311 from rfl, hC.tok (by decide)] at g2
        have g3' : decide (s.1.2.2.1 = 311) = false := g3
        rw [decide_eq_false_iff_not] at g3'
        exact g3' g2
    exact sX6_readTruth_7 (P1 := fun _ _ => True) (P2 := fun _ _ => True) w (fun _ => ⟨rfl, _, rfl, hP⟩) (fun _ _ => ⟨rfl, _, rfl, hP⟩) (fun _ _ _ => ⟨rfl, _, rfl, hP⟩) (fun _ a b => (no ⟨a, b⟩).elim) (fun _ a b => (no ⟨a, b⟩).elim) (fun _ a b => (no ⟨a, b⟩).elim) (fun _ a b => (no ⟨a, b⟩).elim)
  · intro i I1 s hi9 hf hC hcs hk
    have hcs' : decide (s.1.2.2.1 = 311) = true := hcs
    rw [decide_eq_true_eq] at hcs'
    have h7 : s.1.2.2.1 ≠ 257 := by omega
    have c1 : ¬ (900 : Int32) ≤ nI i := nI_ge (b := 900) hi9 (by decide)
    have c2 : I1 1 11 = 0 := hC.yes
    have c3 : I1 1 4 = (311 : Int32) := by rw [show (311 : Int32) = nI 311 from rfl, hC.tok (by decide)]; exact hcs'
    refine sX6_readTruth_7 (P1 := fun I I' => FC I I' ∧ CE (P + 1) I' t n m (.inr (xad t n s))) (P2 := fun I I' => FC I I' ∧ CE (P + 1) I' t n m (fu (xad t n s))) w (fun g => absurd g c1) (fun _ g => absurd c2 g) (fun _ _ g => absurd c3 g) (fun _ _ _ => adv_p (k := kk + 33) (x := .inr s) w hG hC (by rw [show (257 : Int32) = nI 257 from rfl, hC.tok (by decide)]; exact h7)) (fun _ _ _ I2 h2 => hi' (P + 1) I2 (.inr (xad t n s)) h2.2) (fun _ _ _ I2 h2 I3 h3 g => h3.2.b10 g) (fun _ _ _ I2 h2 I3 h3 => ?_)
    have hp := put_e (v := 17) (c := (-8 : Int32)) (by cases m <;> rfl) h3.2
    rw [nI_1]; exact hk _ (((hf.t h2.1).t h3.1).t hp.1) hp.2
  · cases x with
    | inl e => exact g2
    | inr s => exact g2
theorem sum_k {fu : Ex → Er ⊕ Ex} {dy : Nat} (hG : GT G) (hx : Tx t n) (hF : n < F) (hdy : 39 ≤ dy) (hg : Gd t n fu) (hi : RcC l G mX6_readTerm dy t n m d fu) : RcC l G mX6_readSum (dy + 1) t n m d (fun s => xb (fu s) (xlp (fun s => decide (s.1.2.2.1 = 43 ∨ s.1.2.2.1 = 45)) (fun s => xb (fu (xad t n s)) (fun s' => .inr (xput (if s.1.2.2.1 = 43 then 10 else 11) s'))) F)) := by
  intro k P I J R S nx x w h
  obtain ⟨kk, hkk⟩ : ∃ kk, k + (dy + 1) = kk + 40 := ⟨k + dy - 39, by omega⟩
  rw [hkk]
  have hi' : ∀ (Q : Nat) (I1 : Nat → Nat → Int32) (y : Er ⊕ Ex), CE Q I1 t n m y → Cal l G (kk + 39) 0 0 mX6_readTerm [.ref 1, .int (nI d)] (I1, J, R, S, nx) (fun r μ' => r = .inl none ∧ ∃ I', μ' = (I', J, R, S, nx) ∧ FC I1 I' ∧ CE Q I' t n m (xb y fu)) := by
    intro Q I1 y h1
    have := hi k Q I1 J R S nx y w h1
    rw [show k + dy = kk + 39 by omega] at this
    exact this
  refine Cal.of rfl (by decide +kernel) (by simp) (Nat.le_of_ble_eq_true rfl) rfl (sX6_readSum_0 (k := kk) (P1 := fun I I' => FC I I' ∧ CE P I' t n m (xb x fu)) w (hi' P I x h) (fun I1 h1 => ?_))
  refine cloop (P0 := P) (c := fun s => decide (s.1.2.2.1 = 43 ∨ s.1.2.2.1 = 45)) (b := fun s => xb (fu (xad t n s)) (fun s' => .inr (xput (if s.1.2.2.1 = 43 then 10 else 11) s'))) (F := F) (I0 := I) (W := fun i I1 => hX6_readSum_7 l G kk _ (nI d) (nI i) (I1, J, R, S, nx)) (P := fun I' => FC I I' ∧ CE P I' t n m (xb x (fun s => xb (fu s) (xlp (fun s => decide (s.1.2.2.1 = 43 ∨ s.1.2.2.1 = 45)) (fun s => xb (fu (xad t n s)) (fun s' => .inr (xput (if s.1.2.2.1 = 43 then 10 else 11) s'))) F)))) hx hF ?_ ?_ ?_ ?_ F 0 I1 _ h1.1 h1.2 (fun s _ => ⟨by omega, Nat.zero_le _⟩) (fun I2 g1 g2 => ⟨g1, ?_⟩)
  · intro s g
    have g' : decide (s.1.2.2.1 = 43 ∨ s.1.2.2.1 = 45) = true := g
    rw [decide_eq_true_eq] at g'; omega
  · intro s hw g s' hs'
    have g' : decide (s.1.2.2.1 = 43 ∨ s.1.2.2.1 = 45) = true := g
    rw [decide_eq_true_eq] at g'
    exact beh_s (v := fun s => if s.1.2.2.1 = 43 then 10 else 11) hx hg hw (by omega) hs'
  · intro i I1 y hf hC hn hP
    have no : I1 1 11 = 0 → ¬ I1 1 4 = (43 : Int32) ∧ ¬ I1 1 4 = (45 : Int32) := by
      intro g1
      cases y with
      | inl e => exact absurd g1 hC.no
      | inr s =>
        have g3 := hn s rfl
        rw [show (43 : Int32) = nI 43 from rfl, show (45 : Int32) = nI 45 from rfl, hC.tok (by decide), hC.tok (by decide)]
        have g3' : decide (s.1.2.2.1 = 43 ∨ s.1.2.2.1 = 45) = false := g3
        rw [decide_eq_false_iff_not] at g3'
        omega
    exact sX6_readSum_7 w (fun _ => ⟨rfl, _, rfl, hP⟩) (fun _ _ => ⟨rfl, _, rfl, hP⟩) (fun _ a b => absurd b (no a).1) (fun _ _ _ _ => ⟨rfl, _, rfl, hP⟩) (fun _ a _ b => absurd b (no a).2)
  · intro i I1 s hi9 hf hC hcs hk
    have hcs' : decide (s.1.2.2.1 = 43 ∨ s.1.2.2.1 = 45) = true := hcs
    rw [decide_eq_true_eq] at hcs'
    have h7 : s.1.2.2.1 ≠ 257 := by omega
    have c1 : ¬ (900 : Int32) ≤ nI i := nI_ge (b := 900) hi9 (by decide)
    have c2 : I1 1 11 = 0 := hC.yes
    have t43 : (I1 1 4 = (43 : Int32)) = (s.1.2.2.1 = 43) := hC.tok (c := 43) (by decide)
    have t45 : (I1 1 4 = (45 : Int32)) = (s.1.2.2.1 = 45) := hC.tok (c := 45) (by decide)
    have go : hX6_readSum_39 l G kk (fun r μ' => r = .inl none ∧ ∃ I', μ' = (I', J, R, S, nx) ∧ (FC I I' ∧ CE P I' t n m (xb x (fun s => xb (fu s) (xlp (fun s => decide (s.1.2.2.1 = 43 ∨ s.1.2.2.1 = 45)) (fun s => xb (fu (xad t n s)) (fun s' => .inr (xput (if s.1.2.2.1 = 43 then 10 else 11) s'))) F))))) (nI d) (nI i) (I1, J, R, S, nx) := by
      refine sX6_readSum_39 (P1 := fun I I' => FC I I' ∧ CE (P + 1) I' t n m (.inr (xad t n s))) (P2 := fun I I' => FC I I' ∧ CE (P + 1) I' t n m (fu (xad t n s))) w (adv_p (k := kk + 33) (x := .inr s) w hG hC (by rw [show (257 : Int32) = nI 257 from rfl, hC.tok (by decide)]; exact h7)) (fun I2 h2 => hi' (P + 1) I2 (.inr (xad t n s)) h2.2) (fun I2 h2 I3 h3 => ?_)
      refine sX6_readSum_53 w (fun _ g => h3.2.b10 g) ?_ (fun _ g => h3.2.b10 g) ?_
      · intro g
        rw [t43] at g
        have hp := put_e (v := 11) (c := (-2 : Int32)) (by cases m <;> rfl) h3.2
        rw [nI_1]; refine hk _ (((hf.t h2.1).t h3.1).t hp.1) ?_
        show CE P _ t n m (xb (fu (xad t n s)) (fun s' => .inr (xput (if s.1.2.2.1 = 43 then 10 else 11) s')))
        rw [if_neg g]; exact hp.2
      · intro g
        rw [t43] at g
        have hp := put_e (v := 10) (c := (-1 : Int32)) (by cases m <;> rfl) h3.2
        rw [nI_1]; refine hk _ (((hf.t h2.1).t h3.1).t hp.1) ?_
        show CE P _ t n m (xb (fu (xad t n s)) (fun s' => .inr (xput (if s.1.2.2.1 = 43 then 10 else 11) s')))
        rw [if_pos g]; exact hp.2
    exact sX6_readSum_7 w (fun g => absurd g c1) (fun _ g => absurd c2 g) (fun _ _ _ => go) (fun _ _ a b => by rw [t43] at a; rw [t45] at b; omega) (fun _ _ _ _ => go)
  · cases x with
    | inl e => exact g2
    | inr s => exact g2
end A
