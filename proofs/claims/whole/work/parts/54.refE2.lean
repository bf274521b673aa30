/-! the reference: expressions read -/
def mN (m : Bool) : Nat := if m then 4 else 3
def mA (m : Bool) : Nat := if m then 1472 else 572
def KT (I : Nat → Nat → Int32) (tel : Nat → Nat) : Prop := ∀ i, i < 2380 → I 45 i = nI (tel i)
def xt (x : Er ⊕ Ex) : Er ⊕ Tok := xb x (fun s => .inr s.1)
def EX (I : Nat → Nat → Int32) (t : Nat → Nat) (n : Nat) (m : Bool) (tel : Nat → Nat) (d : Nat) (x : Er ⊕ Ex) : Prop := PX I t n (xt x) ∧ (I 43 17 = nI (mN m) ∧ I 43 18 = nI (mA m)) ∧ match x with
  | .inl _ => True
  | .inr s => KT I (ylw tel (mN m) (mA m) s.2) ∧ s.2.length ≤ s.1.2.1 ∧ I 43 16 = nI d
def FE (I I' : Nat → Nat → Int32) : Prop := Fz [45] [8, 9, 10, 11, 12, 13, 16] I I'
section A
variable {l : Launch} {G : Gh} {k : Nat} {I : Nat → Nat → Int32} {J : Nat → Nat → Int64} {R : Nat → Nat → Option Nat} {S : Nat → Nat × Nat} {nx : Nat} {κ : Nat → Nat} {hb pb : Nat}
variable {t tel : Nat → Nat} {n d F : Nat} {m : Bool} {x : Er ⊕ Ex}
theorem FE.rf : FE I I := Fz.rf
theorem FE.tr {I1 I2 : Nat → Nat → Int32} (h : FE I I1) (h2 : FE I1 I2) : FE I I2 := Fz.t h h2
theorem FE.ok {I1 : Nat → Nat → Int32} (h : Fz [] [8, 9, 10, 11, 12, 13] I I1) : FE I I1 := Fz.wk h (by decide) (by decide)
/-- a token further on, the steps as they were -/
theorem EX.tk {I' : Nat → Nat → Int32} {x' : Er ⊕ Ex} (h : EX I t n m tel d x) (hF : Fz [] [8, 9, 10, 11, 12, 13] I I') (hP : PX I' t n (xt x')) (hx : ∀ s', x' = .inr s' → ∃ s, x = .inr s ∧ s'.2 = s.2 ∧ s.1.2.1 ≤ s'.1.2.1) : EX I' t n m tel d x' := by
  refine ⟨hP, ⟨by rw [hF.2 17 (by decide)]; exact h.2.1.1, by rw [hF.2 18 (by decide)]; exact h.2.1.2⟩, ?_⟩
  cases x' with
  | inl e => trivial
  | inr s' =>
    obtain ⟨s, rfl, h1, h2⟩ := hx s' rfl
    obtain ⟨g1, g2, g3⟩ := h.2.2
    refine ⟨fun i hi => ?_, by rw [h1]; omega, by rw [hF.2 16 (by decide)]; exact g3⟩
    rw [h1, hF.1 45 (by decide) (by decide)]; exact g1 i hi
theorem EX.wf {s : Ex} (h : EX I t n m tel d (.inr s)) : Wf t n s.1 := h.1.2.2
theorem EX.tx (h : EX I t n m tel d x) : Tx t n := h.1.1.tx
theorem EX.any {e : Er} {d' : Nat} (h : EX I t n m tel d (.inl e)) : EX I t n m tel d' (.inl e) := ⟨h.1, h.2.1, trivial⟩
theorem ylw_put {many at1 : Nat} {st : List Nat} {v i : Nat} (hm : many < at1) : ylw tel many at1 (st ++ [v]) i = if i = many then st.length + 1 else if i = at1 + st.length then v else ylw tel many at1 st i := by
  unfold ylw
  by_cases c1 : i = many
  · rw [if_pos c1, if_pos c1]; simp
  · rw [if_neg c1, if_neg c1]
    by_cases c2 : i = at1 + st.length
    · rw [if_pos c2, if_pos (by rw [List.length_append]; simp; omega), List.getD_eq_getElem?_getD, List.getElem?_append_right (by omega), show i - at1 - st.length = 0 by omega]; rfl
    · rw [if_neg c2]
      by_cases c3 : at1 ≤ i ∧ i < at1 + st.length
      · rw [if_pos c3, if_pos (by rw [List.length_append]; simp; omega), List.getD_eq_getElem?_getD, List.getElem?_append_left (by omega), ← List.getD_eq_getElem?_getD, if_neg c1]
      · rw [if_neg c3, if_neg (by rw [List.length_append]; simp; omega), if_neg c1]
theorem laysS_r {v : Nat} (w : MW R S nx) (h : EX I t n m tel d x) (hs : ∀ s, x = .inr s → s.2.length < s.1.2.1) : Cal l G k 0 0 mX12_laysStep [.ref 43, .int (nI v)] (I, J, R, S, nx) (fun r μ' => r = .inl none ∧ ∃ I', μ' = (I', J, R, S, nx) ∧ FE I I' ∧ EX I' t n m tel d (xb x (fun s => .inr (xput v s)))) := by
  cases x with
  | inl e =>
    have c1 : ¬ I 43 12 = 0 := fun g => by obtain ⟨s, hs⟩ := h.1.bad.mp g; cases hs
    refine (p_X12_laysStep w (fun g => absurd g c1) (fun g => absurd g c1) (fun g => absurd g c1) (fun g => absurd g c1)).mono (fun r μ' hq => ⟨hq.1, _, hq.2, ?_⟩)
    unfold w_X12_laysStep
    rw [if_neg c1]
    exact ⟨FE.rf, h⟩
  | inr s =>
    obtain ⟨h1, ⟨h17, h18⟩, hK, hl, h16⟩ := h
    have hs1 := hs s rfl
    have hg := h1.2.2.g h1.1.tx
    have hn : n ≤ 900 := h1.1.tx.1
    have hgl : s.1.2.1 ≤ s.1.1 ∧ s.1.1 ≤ n := ⟨hg.1, hg.2.1⟩
    have c1 : I 43 12 = 0 := h1.2.1.2.2.2.2
    have hmn : mN m = 3 ∨ mN m = 4 := by cases m <;> simp [mN]
    have hma : mA m = 572 ∨ mA m = 1472 := by cases m <;> simp [mA]
    have em : I 45 (mN m) = nI s.2.length := by rw [hK (mN m) (by omega)]; congr 1; unfold ylw; rw [if_pos rfl]
    have e17 : (I 43 17).toNatClampNeg = mN m := by rw [h17, nI_clamp (by omega)]
    have ea : I 43 18 + I 45 (I 43 17).toNatClampNeg = nI (mA m + s.2.length) := by rw [e17, em, h18, nI_add]
    have b1 : vp_in (I 43 17) 2380 := by rw [h17]; exact vp_in_nI (by omega) (by decide)
    have b2 : vp_in (I 43 18 + I 45 (I 43 17).toNatClampNeg) 2380 := by rw [ea]; exact vp_in_nI (by omega) (by decide)
    refine (p_X12_laysStep w (fun _ => b1) (fun _ => b2) (fun _ => b1) (fun _ => b1)).mono (fun r μ' hq => ⟨hq.1, _, hq.2, ?_⟩)
    have ew : w_X12_laysStep I (nI v) = up2 (up2 I 45 (mA m + s.2.length) (nI v)) 45 (mN m) (nI (s.2.length + 1)) := by
      unfold w_X12_laysStep
      rw [if_pos c1, ea, e17, nI_clamp (by omega)]
      have : up2 I 45 (mA m + s.2.length) (nI v) 45 (mN m) = nI s.2.length := by
        have hne : mN m ≠ mA m + s.2.length := by omega
        simp only [up2, if_true, if_neg hne]; exact em
      rw [this, nI_1]
    rw [ew]
    have hF : Fz [45] [] I (up2 (up2 I 45 (mA m + s.2.length) (nI v)) 45 (mN m) (nI (s.2.length + 1))) := (Fz.rf.up (by decide) (by decide)).up (by decide) (by decide)
    refine ⟨Fz.wk hF (by decide) (by decide), h1.fz hF (by decide) (by decide), ⟨by rw [hF.2 17 (by decide)]; exact h17, by rw [hF.2 18 (by decide)]; exact h18⟩, fun i hi => ?_, ?_, by rw [hF.2 16 (by decide)]; exact h16⟩
    · show up2 (up2 I 45 (mA m + s.2.length) (nI v)) 45 (mN m) (nI (s.2.length + 1)) 45 i = nI (ylw tel (mN m) (mA m) (s.2 ++ [v]) i)
      rw [ylw_put (by omega)]
      simp only [up2, if_true]
      by_cases c2 : i = mN m
      · rw [if_pos c2, if_pos c2]
      · rw [if_neg c2, if_neg c2]
        by_cases c3 : i = mA m + s.2.length
        · rw [if_pos c3, if_pos c3]
        · rw [if_neg c3, if_neg c3]; exact hK i hi
    · show (s.2 ++ [v]).length ≤ s.1.2.1
      rw [List.length_append]; simp; omega
theorem reads_e {s : Ex} (w : MW R S nx) (h : EX I t n m tel d (.inr s)) : Cal l G (k + 1) 0 0 mX12_readsOn [.ref 43] (I, J, R, S, nx) (fun r μ' => r = .inl none ∧ ∃ I', μ' = (I', J, R, S, nx) ∧ FE I I' ∧ EX I' t n m tel d (.inr (xad t n s))) := by
  refine (reads_p (s := s.1) w h.1).mono (fun r μ' ⟨e, I', e2, h1, h2⟩ => ⟨e, I', e2, FE.ok h1, h.tk h1 h2 (fun s' hs => ?_)⟩)
  obtain rfl := Sum.inr.inj hs
  have := h.wf.ad h.tx
  have hg := h.wf.g h.tx
  exact ⟨s, rfl, rfl, by show s.1.2.1 ≤ (ynx t n s.1.1).2.1; omega⟩
theorem must_e {c : Nat} (w : MW R S nx) (h : EX I t n m tel d x) (hc : c < 256) (hs : qsgn c = true) : Cal l G (k + 2) 0 0 mX12_mustSign [.ref 43, .int (nI c)] (I, J, R, S, nx) (fun r μ' => r = .inl none ∧ ∃ I', μ' = (I', J, R, S, nx) ∧ FE I I' ∧ EX I' t n m tel d (xb x (xmust t n c))) := by
  refine (mustSign_r w h.1 hc hs).mono (fun r μ' ⟨e, I', e2, h1, h2⟩ => ⟨e, I', e2, FE.ok h1, ?_⟩)
  cases x with
  | inl e => exact h.tk h1 h2 (fun s' hs => by cases hs)
  | inr s =>
    have h2' : PX I' t n (ymust t n c s.1) := h2
    show EX I' t n m tel d (xmust t n c s)
    unfold xmust
    unfold ymust at h2'
    by_cases e : s.1.2.2.1 = c
    · rw [if_pos e]
      rw [if_pos e] at h2'
      refine h.tk h1 h2' (fun s' hs => ?_)
      obtain rfl := Sum.inr.inj hs
      have := h.wf.ad h.tx
      have hg := h.wf.g h.tx
      exact ⟨s, rfl, rfl, by show s.1.2.1 ≤ (ynx t n s.1.1).2.1; omega⟩
    · rw [if_neg e]
      rw [if_neg e] at h2'
      exact h.tk h1 h2' (fun s' hs => by cases hs)
theorem goesIn_r {s : Ex} (w : MW R S nx) (h : EX I t n m tel d (.inr s)) (hd : d ≤ 6) (h8 : s.1.2.2.1 ≠ 258) : Cal l G (k + 2) 0 0 mX12_goesIn [.ref 43] (I, J, R, S, nx) (fun r μ' => r = .inl none ∧ ∃ I', μ' = (I', J, R, S, nx) ∧ FE I I' ∧ EX I' t n m tel (d + 1) (if d = 6 then .inl (4, s.1.2.1) else .inr (xad t n s))) := by
  have h16 := h.2.2.2.2
  have hb := h.1.bad
  by_cases c : d = 6
  · rw [if_pos c]
    have d1 : I 43 16 = (6 : Int32) := by rw [h16, c]; rfl
    obtain ⟨b1, b2⟩ := blames_n (k := 4) (s := s.1) h.1 (by decide)
    have c3 : ¬ w_X12_blames I (4 : Int32) 43 12 = 0 := fun g => by obtain ⟨s, hs⟩ := b2.bad.mp g; cases hs
    rw [show qbl 4 s.1 = (4, s.1.2.1) by unfold qbl; rw [if_neg h8]] at b2
    refine Cal.of rfl (by decide +kernel) (by simp) (Nat.le_of_ble_eq_true rfl) rfl (sX12_goesIn_0 w ?_ ?_) <;> intros <;> (first | exact absurd (by with_reducible assumption) d1 | exact absurd d1 (by with_reducible assumption) | skip)
    refine sX12_goesIn_14 (P1 := fun _ _ => True) w ?_ ?_ ?_ <;> intros <;> (first | exact absurd (by with_reducible assumption) c3 | exact absurd c3 (by with_reducible assumption) | skip)
    have hF : Fz [] [12, 13, 16] I (up2 (w_X12_blames I (4 : Int32)) 43 16 (w_X12_blames I (4 : Int32) 43 16 + (1 : Int32))) := (Fz.wk b1 (by decide) (by decide)).uf (by decide)
    have hF2 : Fz [] [16] (w_X12_blames I (4 : Int32)) (up2 (w_X12_blames I (4 : Int32)) 43 16 (w_X12_blames I (4 : Int32) 43 16 + (1 : Int32))) := Fz.rf.uf (by decide)
    exact ⟨rfl, _, rfl, Fz.wk hF (by decide) (by decide), b2.fz hF2 (by decide) (by decide), ⟨by rw [hF.2 17 (by decide)]; exact h.2.1.1, by rw [hF.2 18 (by decide)]; exact h.2.1.2⟩, trivial⟩
  · rw [if_neg c]
    have d1 : ¬ I 43 16 = (6 : Int32) := by rw [h16, show (6 : Int32) = nI 6 from rfl, nI_eq (by omega) (by decide)]; exact c
    have c1 : I 43 12 = 0 := hb.mpr ⟨_, rfl⟩
    have hF2 : Fz [] [16] I (up2 I 43 16 (I 43 16 + (1 : Int32))) := Fz.rf.uf (by decide)
    have h' : EX (up2 I 43 16 (I 43 16 + (1 : Int32))) t n m tel (d + 1) (.inr s) := ⟨h.1.fz hF2 (by decide) (by decide), ⟨by rw [hF2.2 17 (by decide)]; exact h.2.1.1, by rw [hF2.2 18 (by decide)]; exact h.2.1.2⟩, fun i hi => by rw [hF2.1 45 (by decide) (by decide)]; exact h.2.2.1 i hi, h.2.2.2.1, by simp [up2]; rw [h16, nI_1]⟩
    refine Cal.of rfl (by decide +kernel) (by simp) (Nat.le_of_ble_eq_true rfl) rfl (sX12_goesIn_0 w ?_ ?_) <;> intros <;> (first | exact absurd (by with_reducible assumption) d1 | exact absurd d1 (by with_reducible assumption) | skip)
    refine sX12_goesIn_14 (P1 := fun I I' => FE I I' ∧ EX I' t n m tel (d + 1) (.inr (xad t n s))) w ?_ ?_ ?_ <;> intros <;> (first | exact absurd (by with_reducible assumption) c1 | exact absurd c1 (by with_reducible assumption) | skip)
    · exact reads_e w h'
    · rename_i I1 h1; exact ⟨rfl, _, rfl, FE.tr (Fz.wk hF2 (by decide) (by decide)) h1.1, h1.2⟩
theorem out_e (h : EX I t n m tel (d + 1) x) : FE I (up2 I 43 16 (I 43 16 - (1 : Int32))) ∧ EX (up2 I 43 16 (I 43 16 - (1 : Int32))) t n m tel d x := by
  have hF2 : Fz [] [16] I (up2 I 43 16 (I 43 16 - (1 : Int32))) := Fz.rf.uf (by decide)
  refine ⟨Fz.wk hF2 (by decide) (by decide), h.1.fz hF2 (by decide) (by decide), ⟨by rw [hF2.2 17 (by decide)]; exact h.2.1.1, by rw [hF2.2 18 (by decide)]; exact h.2.1.2⟩, ?_⟩
  have h0 := h.2.2
  cases x with
  | inl e => trivial
  | inr s =>
    refine ⟨fun i hi => by rw [hF2.1 45 (by decide) (by decide)]; exact h0.1 i hi, h0.2.1, ?_⟩
    simp [up2]; rw [h0.2.2, show (1 : Int32) = nI 1 from rfl, pk_sub (by omega)]; rfl
theorem took_n {si : Nat} {s : Tok} (w : MW R S nx) (hG : GT G) (h : PX I t n (.inr s)) (hsi : 14 ≤ si ∧ si < 35) (hn : s.2.2.1 ≠ 300 + wno si) : Cal l G (k + 6) 0 0 mX12_took [.ref 43, .retAddr si] (I, J, R, S, nx) (fun r μ' => r = .inl (some (.int ((0 : Int32)))) ∧ ∃ I', μ' = (I', J, R, S, nx) ∧ Fz [] [8, 9, 10, 11, 12, 13] I I' ∧ PX I' t n (.inr s)) := by
  have := took_r (l := l) (k := k) (J := J) w hG h hsi
  have hq : tis (300 + wno si) (.inr s) = false := by show decide (s.2.2.1 = 300 + wno si) = false; rw [decide_eq_false_iff_not]; exact hn
  unfold ttk at this
  rw [hq] at this
  exact this
theorem took_y {si : Nat} {s : Tok} (w : MW R S nx) (hG : GT G) (h : PX I t n (.inr s)) (hsi : 14 ≤ si ∧ si < 35) (hn : s.2.2.1 = 300 + wno si) : Cal l G (k + 6) 0 0 mX12_took [.ref 43, .retAddr si] (I, J, R, S, nx) (fun r μ' => r = .inl (some (.int ((1 : Int32)))) ∧ ∃ I', μ' = (I', J, R, S, nx) ∧ Fz [] [8, 9, 10, 11, 12, 13] I I' ∧ PX I' t n (.inr (ynx t n s.1))) := by
  have := took_r (l := l) (k := k) (J := J) w hG h hsi
  have hq : tis (300 + wno si) (.inr s) = true := by show decide (s.2.2.1 = 300 + wno si) = true; rw [decide_eq_true_eq]; exact hn
  unfold ttk at this
  rw [hq] at this
  exact this
def FK (I I' : Nat → Nat → Int32) : Prop := Fz [] [8, 9, 10, 11, 12, 13] I I'
theorem FK.tr {I1 I2 : Nat → Nat → Int32} (h : FK I I1) (h2 : FK I1 I2) : FK I I2 := Fz.t h h2
theorem degreeWord_r {s : Tok} (w : MW R S nx) (hG : GT G) (h : PX I t n (.inr s)) : Cal l G (k + 7) 0 0 mX12_degreeWord [.ref 43] (I, J, R, S, nx) (fun r μ' => r = .inl (some (.int (match xw false s.2.2.1 with | some j => nI j | none => -1))) ∧ ∃ I', μ' = (I', J, R, S, nx) ∧ Fz [] [8, 9, 10, 11, 12, 13] I I' ∧ PX I' t n (.inr (match xw false s.2.2.1 with | some _ => ynx t n s.1 | none => s))) := by
  have z1 : ¬ (1 : Int32) = 0 := by decide
  have z0 : (0 : Int32) = 0 := rfl
  by_cases c1 : s.2.2.1 = 314
  · rw [show xw false s.2.2.1 = some 0 by rw [c1]; rfl]
    refine Cal.of rfl (by decide +kernel) (by simp) (Nat.le_of_ble_eq_true rfl) rfl (sX12_degreeWord_0 (u1 := 1) (u2 := 0) (u3 := 0) (u4 := 0) (u5 := 0) (u6 := 0) (P1 := fun I I' => FK I I' ∧ PX I' t n (.inr (ynx t n s.1))) (P2 := fun I I' => True) (P3 := fun I I' => True) (P4 := fun I I' => True) (P5 := fun I I' => True) (P6 := fun I I' => True) w ?_ ?_ ?_ ?_ ?_ ?_ ?_ ?_ ?_ ?_ ?_ ?_ ?_) <;> intros <;> (first | exact absurd (by with_reducible assumption) z1 | exact absurd z1 (by with_reducible assumption) | exact absurd (by with_reducible assumption) z0 | exact absurd z0 (by with_reducible assumption) | skip)
    · exact took_y w hG h (by decide) c1
    · rename_i I1 h1 _; exact ⟨rfl, _, rfl, h1.1, h1.2⟩
  · by_cases c2 : s.2.2.1 = 315
    · rw [show xw false s.2.2.1 = some 1 by rw [c2]; rfl]
      refine Cal.of rfl (by decide +kernel) (by simp) (Nat.le_of_ble_eq_true rfl) rfl (sX12_degreeWord_0 (u1 := 0) (u2 := 1) (u3 := 0) (u4 := 0) (u5 := 0) (u6 := 0) (P1 := fun I I' => FK I I' ∧ PX I' t n (.inr s)) (P2 := fun I I' => FK I I' ∧ PX I' t n (.inr (ynx t n s.1))) (P3 := fun I I' => True) (P4 := fun I I' => True) (P5 := fun I I' => True) (P6 := fun I I' => True) w ?_ ?_ ?_ ?_ ?_ ?_ ?_ ?_ ?_ ?_ ?_ ?_ ?_) <;> intros <;> (first | exact absurd (by with_reducible assumption) z1 | exact absurd z1 (by with_reducible assumption) | exact absurd (by with_reducible assumption) z0 | exact absurd z0 (by with_reducible assumption) | skip)
      · exact took_n w hG h (by decide) c1
      · rename_i I1 h1 _; exact took_y w hG h1.2 (by decide) c2
      · rename_i I1 h1 _ I2 h2 _; exact ⟨rfl, _, rfl, (h1.1).tr h2.1, h2.2⟩
    · by_cases c3 : s.2.2.1 = 316
      · rw [show xw false s.2.2.1 = some 2 by rw [c3]; rfl]
        refine Cal.of rfl (by decide +kernel) (by simp) (Nat.le_of_ble_eq_true rfl) rfl (sX12_degreeWord_0 (u1 := 0) (u2 := 0) (u3 := 1) (u4 := 0) (u5 := 0) (u6 := 0) (P1 := fun I I' => FK I I' ∧ PX I' t n (.inr s)) (P2 := fun I I' => FK I I' ∧ PX I' t n (.inr s)) (P3 := fun I I' => FK I I' ∧ PX I' t n (.inr (ynx t n s.1))) (P4 := fun I I' => True) (P5 := fun I I' => True) (P6 := fun I I' => True) w ?_ ?_ ?_ ?_ ?_ ?_ ?_ ?_ ?_ ?_ ?_ ?_ ?_) <;> intros <;> (first | exact absurd (by with_reducible assumption) z1 | exact absurd z1 (by with_reducible assumption) | exact absurd (by with_reducible assumption) z0 | exact absurd z0 (by with_reducible assumption) | skip)
        · exact took_n w hG h (by decide) c1
        · rename_i I1 h1 _; exact took_n w hG h1.2 (by decide) c2
        · rename_i I1 h1 _ I2 h2 _; exact took_y w hG h2.2 (by decide) c3
        · rename_i I1 h1 _ I2 h2 _ I3 h3 _; exact ⟨rfl, _, rfl, ((h1.1).tr h2.1).tr h3.1, h3.2⟩
      · by_cases c4 : s.2.2.1 = 306
        · rw [show xw false s.2.2.1 = some 3 by rw [c4]; rfl]
          refine Cal.of rfl (by decide +kernel) (by simp) (Nat.le_of_ble_eq_true rfl) rfl (sX12_degreeWord_0 (u1 := 0) (u2 := 0) (u3 := 0) (u4 := 1) (u5 := 0) (u6 := 0) (P1 := fun I I' => FK I I' ∧ PX I' t n (.inr s)) (P2 := fun I I' => FK I I' ∧ PX I' t n (.inr s)) (P3 := fun I I' => FK I I' ∧ PX I' t n (.inr s)) (P4 := fun I I' => FK I I' ∧ PX I' t n (.inr (ynx t n s.1))) (P5 := fun I I' => True) (P6 := fun I I' => True) w ?_ ?_ ?_ ?_ ?_ ?_ ?_ ?_ ?_ ?_ ?_ ?_ ?_) <;> intros <;> (first | exact absurd (by with_reducible assumption) z1 | exact absurd z1 (by with_reducible assumption) | exact absurd (by with_reducible assumption) z0 | exact absurd z0 (by with_reducible assumption) | skip)
          · exact took_n w hG h (by decide) c1
          · rename_i I1 h1 _; exact took_n w hG h1.2 (by decide) c2
          · rename_i I1 h1 _ I2 h2 _; exact took_n w hG h2.2 (by decide) c3
          · rename_i I1 h1 _ I2 h2 _ I3 h3 _; exact took_y w hG h3.2 (by decide) c4
          · rename_i I1 h1 _ I2 h2 _ I3 h3 _ I4 h4 _; exact ⟨rfl, _, rfl, (((h1.1).tr h2.1).tr h3.1).tr h4.1, h4.2⟩
        · by_cases c5 : s.2.2.1 = 317
          · rw [show xw false s.2.2.1 = some 4 by rw [c5]; rfl]
            refine Cal.of rfl (by decide +kernel) (by simp) (Nat.le_of_ble_eq_true rfl) rfl (sX12_degreeWord_0 (u1 := 0) (u2 := 0) (u3 := 0) (u4 := 0) (u5 := 1) (u6 := 0) (P1 := fun I I' => FK I I' ∧ PX I' t n (.inr s)) (P2 := fun I I' => FK I I' ∧ PX I' t n (.inr s)) (P3 := fun I I' => FK I I' ∧ PX I' t n (.inr s)) (P4 := fun I I' => FK I I' ∧ PX I' t n (.inr s)) (P5 := fun I I' => FK I I' ∧ PX I' t n (.inr (ynx t n s.1))) (P6 := fun I I' => True) w ?_ ?_ ?_ ?_ ?_ ?_ ?_ ?_ ?_ ?_ ?_ ?_ ?_) <;> intros <;> (first | exact absurd (by with_reducible assumption) z1 | exact absurd z1 (by with_reducible assumption) | exact absurd (by with_reducible assumption) z0 | exact absurd z0 (by with_reducible assumption) | skip)
            · exact took_n w hG h (by decide) c1
            · rename_i I1 h1 _; exact took_n w hG h1.2 (by decide) c2
            · rename_i I1 h1 _ I2 h2 _; exact took_n w hG h2.2 (by decide) c3
            · rename_i I1 h1 _ I2 h2 _ I3 h3 _; exact took_n w hG h3.2 (by decide) c4
            · rename_i I1 h1 _ I2 h2 _ I3 h3 _ I4 h4 _; exact took_y w hG h4.2 (by decide) c5
            · rename_i I1 h1 _ I2 h2 _ I3 h3 _ I4 h4 _ I5 h5 _; exact ⟨rfl, _, rfl, ((((h1.1).tr h2.1).tr h3.1).tr h4.1).tr h5.1, h5.2⟩
          · by_cases c6 : s.2.2.1 = 300
            · rw [show xw false s.2.2.1 = some 5 by rw [c6]; rfl]
              refine Cal.of rfl (by decide +kernel) (by simp) (Nat.le_of_ble_eq_true rfl) rfl (sX12_degreeWord_0 (u1 := 0) (u2 := 0) (u3 := 0) (u4 := 0) (u5 := 0) (u6 := 1) (P1 := fun I I' => FK I I' ∧ PX I' t n (.inr s)) (P2 := fun I I' => FK I I' ∧ PX I' t n (.inr s)) (P3 := fun I I' => FK I I' ∧ PX I' t n (.inr s)) (P4 := fun I I' => FK I I' ∧ PX I' t n (.inr s)) (P5 := fun I I' => FK I I' ∧ PX I' t n (.inr s)) (P6 := fun I I' => FK I I' ∧ PX I' t n (.inr (ynx t n s.1))) w ?_ ?_ ?_ ?_ ?_ ?_ ?_ ?_ ?_ ?_ ?_ ?_ ?_) <;> intros <;> (first | exact absurd (by with_reducible assumption) z1 | exact absurd z1 (by with_reducible assumption) | exact absurd (by with_reducible assumption) z0 | exact absurd z0 (by with_reducible assumption) | skip)
              · exact took_n w hG h (by decide) c1
              · rename_i I1 h1 _; exact took_n w hG h1.2 (by decide) c2
              · rename_i I1 h1 _ I2 h2 _; exact took_n w hG h2.2 (by decide) c3
              · rename_i I1 h1 _ I2 h2 _ I3 h3 _; exact took_n w hG h3.2 (by decide) c4
              · rename_i I1 h1 _ I2 h2 _ I3 h3 _ I4 h4 _; exact took_n w hG h4.2 (by decide) c5
              · rename_i I1 h1 _ I2 h2 _ I3 h3 _ I4 h4 _ I5 h5 _; exact took_y w hG h5.2 (by decide) c6
              · rename_i I1 h1 _ I2 h2 _ I3 h3 _ I4 h4 _ I5 h5 _ I6 h6 _; exact ⟨rfl, _, rfl, (((((h1.1).tr h2.1).tr h3.1).tr h4.1).tr h5.1).tr h6.1, h6.2⟩
            · rw [show xw false s.2.2.1 = none by unfold xw; simp only [Bool.false_eq_true, if_false, if_true]; rw [if_neg c1, if_neg c2, if_neg c3, if_neg c4, if_neg c5, if_neg c6]]
              refine Cal.of rfl (by decide +kernel) (by simp) (Nat.le_of_ble_eq_true rfl) rfl (sX12_degreeWord_0 (u1 := 0) (u2 := 0) (u3 := 0) (u4 := 0) (u5 := 0) (u6 := 0) (P1 := fun I I' => FK I I' ∧ PX I' t n (.inr s)) (P2 := fun I I' => FK I I' ∧ PX I' t n (.inr s)) (P3 := fun I I' => FK I I' ∧ PX I' t n (.inr s)) (P4 := fun I I' => FK I I' ∧ PX I' t n (.inr s)) (P5 := fun I I' => FK I I' ∧ PX I' t n (.inr s)) (P6 := fun I I' => FK I I' ∧ PX I' t n (.inr s)) w ?_ ?_ ?_ ?_ ?_ ?_ ?_ ?_ ?_ ?_ ?_ ?_ ?_) <;> intros <;> (first | exact absurd (by with_reducible assumption) z1 | exact absurd z1 (by with_reducible assumption) | exact absurd (by with_reducible assumption) z0 | exact absurd z0 (by with_reducible assumption) | skip)
              · exact took_n w hG h (by decide) c1
              · rename_i I1 h1 _; exact took_n w hG h1.2 (by decide) c2
              · rename_i I1 h1 _ I2 h2 _; exact took_n w hG h2.2 (by decide) c3
              · rename_i I1 h1 _ I2 h2 _ I3 h3 _; exact took_n w hG h3.2 (by decide) c4
              · rename_i I1 h1 _ I2 h2 _ I3 h3 _ I4 h4 _; exact took_n w hG h4.2 (by decide) c5
              · rename_i I1 h1 _ I2 h2 _ I3 h3 _ I4 h4 _ I5 h5 _; exact took_n w hG h5.2 (by decide) c6
              · rename_i I1 h1 _ I2 h2 _ I3 h3 _ I4 h4 _ I5 h5 _ I6 h6 _; exact ⟨rfl, _, rfl, (((((h1.1).tr h2.1).tr h3.1).tr h4.1).tr h5.1).tr h6.1, h6.2⟩
theorem prevailWord_r {s : Tok} (w : MW R S nx) (hG : GT G) (h : PX I t n (.inr s)) : Cal l G (k + 7) 0 0 mX12_prevailWord [.ref 43] (I, J, R, S, nx) (fun r μ' => r = .inl (some (.int (match xw true s.2.2.1 with | some j => nI j | none => -1))) ∧ ∃ I', μ' = (I', J, R, S, nx) ∧ Fz [] [8, 9, 10, 11, 12, 13] I I' ∧ PX I' t n (.inr (match xw true s.2.2.1 with | some _ => ynx t n s.1 | none => s))) := by
  have z1 : ¬ (1 : Int32) = 0 := by decide
  have z0 : (0 : Int32) = 0 := rfl
  by_cases c1 : s.2.2.1 = 301
  · rw [show xw true s.2.2.1 = some 0 by rw [c1]; rfl]
    refine Cal.of rfl (by decide +kernel) (by simp) (Nat.le_of_ble_eq_true rfl) rfl (sX12_prevailWord_0 (u1 := 1) (u2 := 0) (u3 := 0) (u4 := 0) (u5 := 0) (u6 := 0) (u7 := 0) (P1 := fun I I' => FK I I' ∧ PX I' t n (.inr (ynx t n s.1))) (P2 := fun I I' => True) (P3 := fun I I' => True) (P4 := fun I I' => True) (P5 := fun I I' => True) (P6 := fun I I' => True) (P7 := fun I I' => True) w ?_ ?_ ?_ ?_ ?_ ?_ ?_ ?_ ?_ ?_ ?_ ?_ ?_ ?_ ?_) <;> intros <;> (first | exact absurd (by with_reducible assumption) z1 | exact absurd z1 (by with_reducible assumption) | exact absurd (by with_reducible assumption) z0 | exact absurd z0 (by with_reducible assumption) | skip)
    · exact took_y w hG h (by decide) c1
    · rename_i I1 h1 _; exact ⟨rfl, _, rfl, h1.1, h1.2⟩
  · by_cases c2 : s.2.2.1 = 318
    · rw [show xw true s.2.2.1 = some 1 by rw [c2]; rfl]
      refine Cal.of rfl (by decide +kernel) (by simp) (Nat.le_of_ble_eq_true rfl) rfl (sX12_prevailWord_0 (u1 := 0) (u2 := 1) (u3 := 0) (u4 := 0) (u5 := 0) (u6 := 0) (u7 := 0) (P1 := fun I I' => FK I I' ∧ PX I' t n (.inr s)) (P2 := fun I I' => FK I I' ∧ PX I' t n (.inr (ynx t n s.1))) (P3 := fun I I' => True) (P4 := fun I I' => True) (P5 := fun I I' => True) (P6 := fun I I' => True) (P7 := fun I I' => True) w ?_ ?_ ?_ ?_ ?_ ?_ ?_ ?_ ?_ ?_ ?_ ?_ ?_ ?_ ?_) <;> intros <;> (first | exact absurd (by with_reducible assumption) z1 | exact absurd z1 (by with_reducible assumption) | exact absurd (by with_reducible assumption) z0 | exact absurd z0 (by with_reducible assumption) | skip)
      · exact took_n w hG h (by decide) c1
      · rename_i I1 h1 _; exact took_y w hG h1.2 (by decide) c2
      · rename_i I1 h1 _ I2 h2 _; exact ⟨rfl, _, rfl, (h1.1).tr h2.1, h2.2⟩
    · by_cases c3 : s.2.2.1 = 310
      · rw [show xw true s.2.2.1 = some 2 by rw [c3]; rfl]
        refine Cal.of rfl (by decide +kernel) (by simp) (Nat.le_of_ble_eq_true rfl) rfl (sX12_prevailWord_0 (u1 := 0) (u2 := 0) (u3 := 1) (u4 := 0) (u5 := 0) (u6 := 0) (u7 := 0) (P1 := fun I I' => FK I I' ∧ PX I' t n (.inr s)) (P2 := fun I I' => FK I I' ∧ PX I' t n (.inr s)) (P3 := fun I I' => FK I I' ∧ PX I' t n (.inr (ynx t n s.1))) (P4 := fun I I' => True) (P5 := fun I I' => True) (P6 := fun I I' => True) (P7 := fun I I' => True) w ?_ ?_ ?_ ?_ ?_ ?_ ?_ ?_ ?_ ?_ ?_ ?_ ?_ ?_ ?_) <;> intros <;> (first | exact absurd (by with_reducible assumption) z1 | exact absurd z1 (by with_reducible assumption) | exact absurd (by with_reducible assumption) z0 | exact absurd z0 (by with_reducible assumption) | skip)
        · exact took_n w hG h (by decide) c1
        · rename_i I1 h1 _; exact took_n w hG h1.2 (by decide) c2
        · rename_i I1 h1 _ I2 h2 _; exact took_y w hG h2.2 (by decide) c3
        · rename_i I1 h1 _ I2 h2 _ I3 h3 _; exact ⟨rfl, _, rfl, ((h1.1).tr h2.1).tr h3.1, h3.2⟩
      · by_cases c4 : s.2.2.1 = 319
        · rw [show xw true s.2.2.1 = some 3 by rw [c4]; rfl]
          refine Cal.of rfl (by decide +kernel) (by simp) (Nat.le_of_ble_eq_true rfl) rfl (sX12_prevailWord_0 (u1 := 0) (u2 := 0) (u3 := 0) (u4 := 1) (u5 := 0) (u6 := 0) (u7 := 0) (P1 := fun I I' => FK I I' ∧ PX I' t n (.inr s)) (P2 := fun I I' => FK I I' ∧ PX I' t n (.inr s)) (P3 := fun I I' => FK I I' ∧ PX I' t n (.inr s)) (P4 := fun I I' => FK I I' ∧ PX I' t n (.inr (ynx t n s.1))) (P5 := fun I I' => True) (P6 := fun I I' => True) (P7 := fun I I' => True) w ?_ ?_ ?_ ?_ ?_ ?_ ?_ ?_ ?_ ?_ ?_ ?_ ?_ ?_ ?_) <;> intros <;> (first | exact absurd (by with_reducible assumption) z1 | exact absurd z1 (by with_reducible assumption) | exact absurd (by with_reducible assumption) z0 | exact absurd z0 (by with_reducible assumption) | skip)
          · exact took_n w hG h (by decide) c1
          · rename_i I1 h1 _; exact took_n w hG h1.2 (by decide) c2
          · rename_i I1 h1 _ I2 h2 _; exact took_n w hG h2.2 (by decide) c3
          · rename_i I1 h1 _ I2 h2 _ I3 h3 _; exact took_y w hG h3.2 (by decide) c4
          · rename_i I1 h1 _ I2 h2 _ I3 h3 _ I4 h4 _; exact ⟨rfl, _, rfl, (((h1.1).tr h2.1).tr h3.1).tr h4.1, h4.2⟩
        · by_cases c5 : s.2.2.1 = 320
          · rw [show xw true s.2.2.1 = some 4 by rw [c5]; rfl]
            refine Cal.of rfl (by decide +kernel) (by simp) (Nat.le_of_ble_eq_true rfl) rfl (sX12_prevailWord_0 (u1 := 0) (u2 := 0) (u3 := 0) (u4 := 0) (u5 := 1) (u6 := 0) (u7 := 0) (P1 := fun I I' => FK I I' ∧ PX I' t n (.inr s)) (P2 := fun I I' => FK I I' ∧ PX I' t n (.inr s)) (P3 := fun I I' => FK I I' ∧ PX I' t n (.inr s)) (P4 := fun I I' => FK I I' ∧ PX I' t n (.inr s)) (P5 := fun I I' => FK I I' ∧ PX I' t n (.inr (ynx t n s.1))) (P6 := fun I I' => True) (P7 := fun I I' => True) w ?_ ?_ ?_ ?_ ?_ ?_ ?_ ?_ ?_ ?_ ?_ ?_ ?_ ?_ ?_) <;> intros <;> (first | exact absurd (by with_reducible assumption) z1 | exact absurd z1 (by with_reducible assumption) | exact absurd (by with_reducible assumption) z0 | exact absurd z0 (by with_reducible assumption) | skip)
            · exact took_n w hG h (by decide) c1
            · rename_i I1 h1 _; exact took_n w hG h1.2 (by decide) c2
            · rename_i I1 h1 _ I2 h2 _; exact took_n w hG h2.2 (by decide) c3
            · rename_i I1 h1 _ I2 h2 _ I3 h3 _; exact took_n w hG h3.2 (by decide) c4
            · rename_i I1 h1 _ I2 h2 _ I3 h3 _ I4 h4 _; exact took_y w hG h4.2 (by decide) c5
            · rename_i I1 h1 _ I2 h2 _ I3 h3 _ I4 h4 _ I5 h5 _; exact ⟨rfl, _, rfl, ((((h1.1).tr h2.1).tr h3.1).tr h4.1).tr h5.1, h5.2⟩
          · by_cases c6 : s.2.2.1 = 306
            · rw [show xw true s.2.2.1 = some 5 by rw [c6]; rfl]
              refine Cal.of rfl (by decide +kernel) (by simp) (Nat.le_of_ble_eq_true rfl) rfl (sX12_prevailWord_0 (u1 := 0) (u2 := 0) (u3 := 0) (u4 := 0) (u5 := 0) (u6 := 1) (u7 := 0) (P1 := fun I I' => FK I I' ∧ PX I' t n (.inr s)) (P2 := fun I I' => FK I I' ∧ PX I' t n (.inr s)) (P3 := fun I I' => FK I I' ∧ PX I' t n (.inr s)) (P4 := fun I I' => FK I I' ∧ PX I' t n (.inr s)) (P5 := fun I I' => FK I I' ∧ PX I' t n (.inr s)) (P6 := fun I I' => FK I I' ∧ PX I' t n (.inr (ynx t n s.1))) (P7 := fun I I' => True) w ?_ ?_ ?_ ?_ ?_ ?_ ?_ ?_ ?_ ?_ ?_ ?_ ?_ ?_ ?_) <;> intros <;> (first | exact absurd (by with_reducible assumption) z1 | exact absurd z1 (by with_reducible assumption) | exact absurd (by with_reducible assumption) z0 | exact absurd z0 (by with_reducible assumption) | skip)
              · exact took_n w hG h (by decide) c1
              · rename_i I1 h1 _; exact took_n w hG h1.2 (by decide) c2
              · rename_i I1 h1 _ I2 h2 _; exact took_n w hG h2.2 (by decide) c3
              · rename_i I1 h1 _ I2 h2 _ I3 h3 _; exact took_n w hG h3.2 (by decide) c4
              · rename_i I1 h1 _ I2 h2 _ I3 h3 _ I4 h4 _; exact took_n w hG h4.2 (by decide) c5
              · rename_i I1 h1 _ I2 h2 _ I3 h3 _ I4 h4 _ I5 h5 _; exact took_y w hG h5.2 (by decide) c6
              · rename_i I1 h1 _ I2 h2 _ I3 h3 _ I4 h4 _ I5 h5 _ I6 h6 _; exact ⟨rfl, _, rfl, (((((h1.1).tr h2.1).tr h3.1).tr h4.1).tr h5.1).tr h6.1, h6.2⟩
            · by_cases c7 : s.2.2.1 = 300
              · rw [show xw true s.2.2.1 = some 6 by rw [c7]; rfl]
                refine Cal.of rfl (by decide +kernel) (by simp) (Nat.le_of_ble_eq_true rfl) rfl (sX12_prevailWord_0 (u1 := 0) (u2 := 0) (u3 := 0) (u4 := 0) (u5 := 0) (u6 := 0) (u7 := 1) (P1 := fun I I' => FK I I' ∧ PX I' t n (.inr s)) (P2 := fun I I' => FK I I' ∧ PX I' t n (.inr s)) (P3 := fun I I' => FK I I' ∧ PX I' t n (.inr s)) (P4 := fun I I' => FK I I' ∧ PX I' t n (.inr s)) (P5 := fun I I' => FK I I' ∧ PX I' t n (.inr s)) (P6 := fun I I' => FK I I' ∧ PX I' t n (.inr s)) (P7 := fun I I' => FK I I' ∧ PX I' t n (.inr (ynx t n s.1))) w ?_ ?_ ?_ ?_ ?_ ?_ ?_ ?_ ?_ ?_ ?_ ?_ ?_ ?_ ?_) <;> intros <;> (first | exact absurd (by with_reducible assumption) z1 | exact absurd z1 (by with_reducible assumption) | exact absurd (by with_reducible assumption) z0 | exact absurd z0 (by with_reducible assumption) | skip)
                · exact took_n w hG h (by decide) c1
                · rename_i I1 h1 _; exact took_n w hG h1.2 (by decide) c2
                · rename_i I1 h1 _ I2 h2 _; exact took_n w hG h2.2 (by decide) c3
                · rename_i I1 h1 _ I2 h2 _ I3 h3 _; exact took_n w hG h3.2 (by decide) c4
                · rename_i I1 h1 _ I2 h2 _ I3 h3 _ I4 h4 _; exact took_n w hG h4.2 (by decide) c5
                · rename_i I1 h1 _ I2 h2 _ I3 h3 _ I4 h4 _ I5 h5 _; exact took_n w hG h5.2 (by decide) c6
                · rename_i I1 h1 _ I2 h2 _ I3 h3 _ I4 h4 _ I5 h5 _ I6 h6 _; exact took_y w hG h6.2 (by decide) c7
                · rename_i I1 h1 _ I2 h2 _ I3 h3 _ I4 h4 _ I5 h5 _ I6 h6 _ I7 h7 _; exact ⟨rfl, _, rfl, ((((((h1.1).tr h2.1).tr h3.1).tr h4.1).tr h5.1).tr h6.1).tr h7.1, h7.2⟩
              · rw [show xw true s.2.2.1 = none by unfold xw; simp only [Bool.false_eq_true, if_false, if_true]; rw [if_neg c1, if_neg c2, if_neg c3, if_neg c4, if_neg c5, if_neg c6, if_neg c7]]
                refine Cal.of rfl (by decide +kernel) (by simp) (Nat.le_of_ble_eq_true rfl) rfl (sX12_prevailWord_0 (u1 := 0) (u2 := 0) (u3 := 0) (u4 := 0) (u5 := 0) (u6 := 0) (u7 := 0) (P1 := fun I I' => FK I I' ∧ PX I' t n (.inr s)) (P2 := fun I I' => FK I I' ∧ PX I' t n (.inr s)) (P3 := fun I I' => FK I I' ∧ PX I' t n (.inr s)) (P4 := fun I I' => FK I I' ∧ PX I' t n (.inr s)) (P5 := fun I I' => FK I I' ∧ PX I' t n (.inr s)) (P6 := fun I I' => FK I I' ∧ PX I' t n (.inr s)) (P7 := fun I I' => FK I I' ∧ PX I' t n (.inr s)) w ?_ ?_ ?_ ?_ ?_ ?_ ?_ ?_ ?_ ?_ ?_ ?_ ?_ ?_ ?_) <;> intros <;> (first | exact absurd (by with_reducible assumption) z1 | exact absurd z1 (by with_reducible assumption) | exact absurd (by with_reducible assumption) z0 | exact absurd z0 (by with_reducible assumption) | skip)
                · exact took_n w hG h (by decide) c1
                · rename_i I1 h1 _; exact took_n w hG h1.2 (by decide) c2
                · rename_i I1 h1 _ I2 h2 _; exact took_n w hG h2.2 (by decide) c3
                · rename_i I1 h1 _ I2 h2 _ I3 h3 _; exact took_n w hG h3.2 (by decide) c4
                · rename_i I1 h1 _ I2 h2 _ I3 h3 _ I4 h4 _; exact took_n w hG h4.2 (by decide) c5
                · rename_i I1 h1 _ I2 h2 _ I3 h3 _ I4 h4 _ I5 h5 _; exact took_n w hG h5.2 (by decide) c6
                · rename_i I1 h1 _ I2 h2 _ I3 h3 _ I4 h4 _ I5 h5 _ I6 h6 _; exact took_n w hG h6.2 (by decide) c7
                · rename_i I1 h1 _ I2 h2 _ I3 h3 _ I4 h4 _ I5 h5 _ I6 h6 _ I7 h7 _; exact ⟨rfl, _, rfl, ((((((h1.1).tr h2.1).tr h3.1).tr h4.1).tr h5.1).tr h6.1).tr h7.1, h7.2⟩
end A
