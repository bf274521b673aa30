/-! the reference: words, signs, numbers read -/
def wno (i : Nat) : Nat := [0, 7, 1, 8, 9, 10, 4, 5, 6, 2, 14, 15, 16, 17, 18, 19, 20, 3, 13, 12, 11].getD (i - 14) 21
theorem tx_wno : ∀ i, i < 35 → 14 ≤ i → wno i < 21 ∧ tx i = (wds.getD (wno i) []).map nI := by decide +kernel
theorem wds_ok : ∀ j, j < 21 → ∀ c ∈ wds.getD j [], c < 256 := by decide +kernel
theorem wds_len : ∀ j, j < 21 → (wds.getD j []).length ≤ 8 ∧ 1 ≤ (wds.getD j []).length := by decide +kernel
def tis (c : Nat) (x : Er ⊕ Tok) : Bool := match x with
  | .inr s => decide (s.2.2.1 = c)
  | .inl _ => false
/-- what was read so far: a fault, or a token -/
def PX (I : Nat → Nat → Int32) (t : Nat → Nat) (n : Nat) (x : Er ⊕ Tok) : Prop := RT I t n ∧ match x with
  | .inl e => I 43 12 = nI e.1 ∧ I 43 13 = nI e.2 ∧ Eg n e
  | .inr s => RK I s ∧ Wf t n s
section A
variable {l : Launch} {G : Gh} {k : Nat} {I : Nat → Nat → Int32} {J : Nat → Nat → Int64} {R : Nat → Nat → Option Nat} {S : Nat → Nat × Nat} {nx : Nat} {κ : Nat → Nat} {hb pb : Nat}
variable {t : Nat → Nat} {n : Nat} {x : Er ⊕ Tok}
theorem RT.tx (h : RT I t n) : Tx t n := h.2.2
theorem PX.fz {rs fs : List Nat} {I' : Nat → Nat → Int32} (h : PX I t n x) (hF : Fz rs fs I I') (h1 : 48 ∉ rs) (h2 : 7 ∉ fs ∧ 8 ∉ fs ∧ 9 ∉ fs ∧ 10 ∉ fs ∧ 11 ∉ fs ∧ 12 ∉ fs ∧ 13 ∉ fs) : PX I' t n x := by
  refine ⟨h.1.fz hF h1 h2.1, ?_⟩
  have h0 := h.2
  cases x with
  | inl e => exact ⟨by rw [hF.2 12 h2.2.2.2.2.2.1]; exact h0.1, by rw [hF.2 13 h2.2.2.2.2.2.2]; exact h0.2.1, h0.2.2⟩
  | inr s => exact ⟨h0.1.fz hF ⟨h2.2.1, h2.2.2.1, h2.2.2.2.1, h2.2.2.2.2.1, h2.2.2.2.2.2.1⟩, h0.2⟩
theorem PX.bad (h : PX I t n x) : (I 43 12 = 0) ↔ ∃ s, x = .inr s := by
  have h0 := h.2
  cases x with
  | inl e =>
    constructor
    · intro g
      rw [h0.1] at g
      have := h0.2.2
      exact absurd g (nI_ne0 (by have := this.1; omega) (by have := this.2.1; omega))
    · rintro ⟨s, hs⟩; cases hs
  | inr s => exact ⟨fun _ => ⟨s, rfl⟩, fun _ => h0.1.2.2.2.2⟩
/-- the reference's token tells the sign -/
theorem rtk_sgn {s : Tok} (hw : Wf t n s) (hx : Tx t n) {c : Nat} (hc : c < 256) (hs : qsgn c = true) : rtk s.2.2.1 = c ↔ s.2.2.1 = c := by
  have hc2 : c ≠ 0 ∧ c ≠ 1 ∧ c ≠ 2 ∧ c ≠ 3 := by
    refine ⟨?_, ?_, ?_, ?_⟩ <;> intro e <;> rw [e] at hs <;> exact absurd hs (by decide)
  unfold rtk
  rcases hw.tok hx with h | h | h
  · rcases h with h | h | h <;> rw [h] <;> simp <;> omega
  · rw [if_neg (by omega), if_neg (by omega), if_neg (by omega), if_pos h.1]; omega
  · rw [if_neg (by omega), if_neg (by omega), if_neg (by omega), if_neg (by omega)]
theorem rtk_k {s : Tok} (hw : Wf t n s) (hx : Tx t n) : (rtk s.2.2.1 = 3 ↔ s.2.2.1 = 258) ∧ (rtk s.2.2.1 = 2 ↔ s.2.2.1 = 256) ∧ (rtk s.2.2.1 = 1 ↔ 299 ≤ s.2.2.1) ∧ (rtk s.2.2.1 = 0 ↔ s.2.2.1 = 257) ∧ rtk s.2.2.1 < 256 := by
  unfold rtk
  rcases hw.tok hx with h | h | h
  · rcases h with h | h | h <;> rw [h] <;> decide
  · rw [if_neg (by omega), if_neg (by omega), if_neg (by omega), if_pos h.1]
    refine ⟨?_, ?_, ?_, ?_, by decide⟩ <;> constructor <;> intro g <;> omega
  · have hs := h.2
    have hc2 : s.2.2.1 ≠ 0 ∧ s.2.2.1 ≠ 1 ∧ s.2.2.1 ≠ 2 ∧ s.2.2.1 ≠ 3 := by
      refine ⟨?_, ?_, ?_, ?_⟩ <;> intro e <;> rw [e] at hs <;> exact absurd hs (by decide)
    rw [if_neg (by omega), if_neg (by omega), if_neg (by omega), if_neg (by omega)]
    refine ⟨?_, ?_, ?_, ?_, h.1⟩ <;> constructor <;> intro g <;> omega
theorem isSign_n {c : Nat} (h : PX I t n x) (hc : c < 256) (hs : qsgn c = true) : v_X12_isSign I (nI c) = if tis c x then 1 else 0 := by
  unfold v_X12_isSign
  have h0 := h.2
  cases x with
  | inl e => rw [if_neg (fun g => by obtain ⟨s, hs⟩ := h.bad.mp g; cases hs)]; rfl
  | inr s =>
    rw [if_pos h0.1.2.2.2.2, h0.1.2.2.1]
    have hk := rtk_sgn h0.2 h.1.tx hc hs
    have hl := (rtk_k h0.2 h.1.tx).2.2.2.2
    unfold tis
    by_cases e : s.2.2.1 = c
    · rw [if_pos (by rw [hk.mpr e]), if_pos (by rw [decide_eq_true_eq]; exact e)]
    · rw [if_neg (fun g => e (hk.mp ((nI_eq (by omega) (by omega)).mp g))), if_neg (by rw [decide_eq_true_eq]; exact e)]
theorem blames_n {k : Nat} {s : Tok} (h : PX I t n (.inr s)) (hk : 1 ≤ k ∧ k ≤ 4) : Fz [] [12, 13] I (w_X12_blames I (nI k)) ∧ PX (w_X12_blames I (nI k)) t n (.inl (qbl k s)) := by
  have h0 := h.2
  have hk3 := (rtk_k h0.2 h.1.tx).1
  have hl := (rtk_k h0.2 h.1.tx).2.2.2.2
  have hgood := qbl_g h0.2 h.1.tx hk
  unfold w_X12_blames
  rw [if_pos h0.1.2.2.2.2, h0.1.2.2.1, h0.1.2.1]
  have go : ∀ v : Int32, v = nI (qbl k s).1 → Fz [] [12, 13] I (up2 (up2 I 43 12 v) 43 13 (nI s.2.1)) ∧ PX (up2 (up2 I 43 12 v) 43 13 (nI s.2.1)) t n (.inl (qbl k s)) := by
    intro v hv
    have hF : Fz [] [12, 13] I (up2 (up2 I 43 12 v) 43 13 (nI s.2.1)) := (Fz.rf.uf (by decide)).uf (by decide)
    exact ⟨hF, h.1.fz hF (by decide) (by decide), by simp [up2, hv], by simp [up2]; rfl, hgood⟩
  by_cases c : s.2.2.1 = 258
  · rw [if_pos (by rw [hk3.mpr c]; rfl)]
    exact go _ (by show (1 : Int32) = nI (if s.2.2.1 = 258 then 1 else k); rw [if_pos c]; rfl)
  · have g3 : ¬ nI (rtk s.2.2.1) = (3 : Int32) := fun g => c (hk3.mp ((nI_eq (b := 3) (by omega) (by decide)).mp g))
    rw [if_neg g3]
    exact go _ (by show nI k = nI (if s.2.2.1 = 258 then 1 else k); rw [if_neg c])
theorem blames_b {v : Int32} {e : Er} (h : PX I t n (.inl e)) : w_X12_blames I v = I := by
  unfold w_X12_blames
  rw [if_neg (fun g => by obtain ⟨s, hs⟩ := h.bad.mp g; cases hs)]
theorem reads_p {s : Tok} (w : MW R S nx) (h : PX I t n (.inr s)) : Cal l G (k + 1) 0 0 mX12_readsOn [.ref 43] (I, J, R, S, nx) (fun r μ' => r = .inl none ∧ ∃ I', μ' = (I', J, R, S, nx) ∧ Fz [] [8, 9, 10, 11, 12, 13] I I' ∧ PX I' t n (.inr (ynx t n s.1))) := by
  have h0 := h.2
  have hg := h0.2.g h.1.tx
  refine (readsOn_r w h.1 h0.1.1 hg.2.1 h0.1.2.2.2.2).mono (fun r μ' ⟨e, I', e2, h1, h2⟩ => ⟨e, I', e2, h1.wk (by decide) (by decide), h.1.fz h1 (by decide) (by decide), h2, ⟨s.1, hg.2.1, rfl⟩⟩)
theorem getD_map {w : List Nat} {i : Nat} (h : i < w.length) : (w.map nI).getD i 0 = nI (w.getD i 0) := by
  rw [List.getD_eq_getElem?_getD, List.getD_eq_getElem?_getD, List.getElem?_map, List.getElem?_eq_getElem h]; rfl
theorem isWord_r {si : Nat} (w : MW R S nx) (hG : GT G) (h : PX I t n x) (hsi : 14 ≤ si ∧ si < 35) : Cal l G (k + 5) 0 0 mX12_isWord [.ref 43, .retAddr si] (I, J, R, S, nx) (fun r μ' => r = .inl (some (.int (if tis (300 + wno si) x then 1 else 0))) ∧ ∃ I', μ' = (I', J, R, S, nx) ∧ I' = I) := by
  obtain ⟨hw1, hw2⟩ := tx_wno si hsi.2 hsi.1
  obtain ⟨wd, hwd⟩ : ∃ wd, wds.getD (wno si) [] = wd := ⟨_, rfl⟩
  have hwl := wds_len _ hw1
  have hwo := wds_ok _ hw1
  have hwi := qwc_iff _ hw1
  rw [hwd] at hw2 hwl hwo hwi
  have hlen : (tx si).length = wd.length := by rw [hw2, List.length_map]
  have h0 := h.2
  have z0 : (0 : Int32) = 0 := rfl
  have no : ∀ i : Nat, tis (300 + wno si) x = false → hX12_isWord_39 l G k (fun r μ' => r = .inl (some (.int (if tis (300 + wno si) x then 1 else 0))) ∧ ∃ I', μ' = (I', J, R, S, nx) ∧ I' = I) si (0 : Int32) (nI i) (I, J, R, S, nx) := by
    intro i hq
    rw [hq]
    refine sX12_isWord_39 hG hsi.2 w ?_ ?_ ?_ ?_ ?_ ?_ ?_ ?_ <;> intros <;> (first | exact absurd (by with_reducible assumption) z0 | exact absurd z0 (by with_reducible assumption) | skip)
    · exact ⟨rfl, _, rfl, rfl⟩
    · rfl
  cases x with
  | inl e =>
    have c1 : ¬ I 43 12 = 0 := fun g => by obtain ⟨s, hs⟩ := h.bad.mp g; cases hs
    refine Cal.of rfl (by decide +kernel) (by simp) (Nat.le_of_ble_eq_true rfl) rfl (sX12_isWord_0 hG hsi.2 w ?_ ?_ ?_ ?_) <;> intros <;> (first | exact absurd (by with_reducible assumption) c1 | exact absurd c1 (by with_reducible assumption) | skip)
    exact no 0 rfl
  | inr s =>
    have c1 : I 43 12 = 0 := h0.1.2.2.2.2
    have hk1 := (rtk_k h0.2 h.1.tx).2.2.1
    have hl := (rtk_k h0.2 h.1.tx).2.2.2.2
    by_cases c2 : 299 ≤ s.2.2.1
    · have d2 : I 43 10 = (1 : Int32) := by rw [h0.1.2.2.1, hk1.mpr c2]; rfl
      -- a word
      obtain ⟨h', hh, hs⟩ := h0.2
      obtain ⟨b, hb, hc⟩ := ynx_cases t n h'
      rw [← hs] at hc
      have hx := h.1.tx
      rcases hc with ⟨h1, e⟩ | ⟨h1, h2, e, he, hx2⟩ | ⟨h1, h2, h3, e, he, hx2⟩ | ⟨h1, h2, h3, hx2⟩
      · rw [e] at c2; exact absurd c2 (by show ¬ 299 ≤ 257; decide)
      · have hl2 := qsk_le (fun j => qlet (t j)) (n - b) b
        rw [← he] at hl2
        have hn := hx.1
        have e8 : I 43 8 = nI e := by rw [h0.1.1, hx2]
        have e9 : I 43 9 = nI b := by rw [h0.1.2.1, hx2]
        have htk : s.2.2.1 = qwc (qwrd t b e) := by rw [hx2]
        have htis : tis (300 + wno si) (.inr s) = decide (qwrd t b e = wd) := by
          show decide (s.2.2.1 = 300 + wno si) = _
          rw [htk, decide_eq_decide]; exact hwi _
        have hql : (qwrd t b e).length = e - b := by unfold qwrd; simp
        have hqi : ∀ i, i < e - b → (qwrd t b e)[i]? = some (t (b + i)) := fun i hi => by unfold qwrd; rw [List.getElem?_map, List.getElem?_range hi]; rfl
        have ed : I 43 8 - I 43 9 = nI (e - b) := by rw [e8, e9, pk_sub hl2.1]
        by_cases c3 : e - b = wd.length
        · have d3 : I 43 8 - I 43 9 = nI (tx si).length := by rw [ed, hlen, c3]
          refine Cal.of rfl (by decide +kernel) (by simp) (Nat.le_of_ble_eq_true rfl) rfl (sX12_isWord_0 hG hsi.2 w ?_ ?_ ?_ ?_) <;> intros <;> (first | exact absurd (by with_reducible assumption) c1 | exact absurd c1 (by with_reducible assumption) | exact absurd (by with_reducible assumption) d2 | exact absurd d2 (by with_reducible assumption) | exact absurd (by with_reducible assumption) d3 | exact absurd d3 (by with_reducible assumption) | skip)
          refine upto (σ := Int32) (W := fun i b1 => hX12_isWord_39 l G k _ si b1 (nI i) (I, J, R, S, nx)) (P := fun i b1 => (b1 = 1 ∧ ∀ j, j < i → t (b + j) = wd.getD j 0) ∨ (b1 = 0 ∧ tis (300 + wno si) (.inr s) = false)) wd.length ?_ ?_ (i := 0) (s := 1) (Nat.zero_le _) (Or.inl ⟨rfl, fun j hj => absurd hj (Nat.not_lt_zero j)⟩)
          · intro b1 hb1
            rcases hb1 with ⟨rfl, hq⟩ | ⟨rfl, hq⟩
            · have d4 : ¬ (1 : Int32) = 0 := by decide
              have d5 : nI (tx si).length ≤ nI wd.length := by rw [hlen]; exact nI_le (Nat.le_refl _) (by omega)
              refine sX12_isWord_39 hG hsi.2 w ?_ ?_ ?_ ?_ ?_ ?_ ?_ ?_ <;> intros <;> (first | exact absurd (by with_reducible assumption) d4 | exact absurd d4 (by with_reducible assumption) | exact absurd (by with_reducible assumption) d5 | exact absurd d5 (by with_reducible assumption) | skip)
              · refine ⟨?_, _, rfl, rfl⟩
                rw [htis, if_pos]
                rw [decide_eq_true_eq]
                apply List.ext_getElem?
                intro i
                by_cases ci : i < wd.length
                · rw [hqi i (by omega), hq i ci, List.getD_eq_getElem?_getD, List.getElem?_eq_getElem ci]; rfl
                · rw [List.getElem?_eq_none (by rw [hql]; omega), List.getElem?_eq_none (by omega)]
              · rfl
            · exact no _ hq
          · intro i b1 hi hb1 ih
            rcases hb1 with ⟨rfl, hq⟩ | ⟨rfl, hq⟩
            · have d4 : ¬ (1 : Int32) = 0 := by decide
              have d5 : ¬ nI (tx si).length ≤ nI i := by rw [hlen]; exact nI_ge hi (by omega)
              have ev : I 48 (I 43 9 + nI i).toNatClampNeg = nI (t (b + i)) := by rw [e9, nI_add, nI_clamp (by omega)]; exact h.1.2.1 (b + i) (by omega)
              have et : (tx si).getD (nI i).toNatClampNeg 0 = nI (wd.getD i 0) := by rw [nI_clamp (by omega), hw2]; exact getD_map hi
              have hwi2 : wd.getD i 0 < 256 := hwo _ (by rw [List.getD_eq_getElem?_getD, List.getElem?_eq_getElem hi]; exact List.getElem_mem hi)
              have hti := hx.2 (b + i) (by omega)
              have eq1 : (I 48 (I 43 9 + nI i).toNatClampNeg = (tx si).getD (nI i).toNatClampNeg 0) = (t (b + i) = wd.getD i 0) := by rw [ev, et]; exact propext (nI_eq (by omega) (by omega))
              refine sX12_isWord_39 hG hsi.2 w ?_ ?_ ?_ ?_ ?_ ?_ ?_ ?_ <;> intros <;> (first | exact absurd (by with_reducible assumption) d4 | exact absurd d4 (by with_reducible assumption) | exact absurd (by with_reducible assumption) d5 | exact absurd d5 (by with_reducible assumption) | skip)
              · rw [e9, nI_add]; exact vp_in_nI (by omega) (by decide)
              · exact vp_in_nI (by rw [hlen]; exact hi) (by rw [hlen]; omega)
              · rename_i hne
                rw [eq1] at hne
                rw [nI_1]
                refine ih 0 (Or.inr ⟨rfl, ?_⟩)
                rw [htis, decide_eq_false_iff_not]
                intro g
                have := hqi i (by omega)
                rw [g, List.getElem?_eq_getElem hi] at this
                exact hne (by rw [List.getD_eq_getElem?_getD, List.getElem?_eq_getElem hi]; exact (Option.some.inj this).symm)
              · rename_i hne
                rw [eq1] at hne
                rw [nI_1]
                refine ih 1 (Or.inl ⟨rfl, fun j hj => ?_⟩)
                by_cases cj : j = i
                · rw [cj]; exact hne
                · exact hq j (by omega)
            · exact no _ hq
        · have d3 : ¬ I 43 8 - I 43 9 = nI (tx si).length := by rw [ed, hlen, nI_eq (by omega) (by omega)]; exact c3
          refine Cal.of rfl (by decide +kernel) (by simp) (Nat.le_of_ble_eq_true rfl) rfl (sX12_isWord_0 hG hsi.2 w ?_ ?_ ?_ ?_) <;> intros <;> (first | exact absurd (by with_reducible assumption) c1 | exact absurd c1 (by with_reducible assumption) | exact absurd (by with_reducible assumption) d2 | exact absurd d2 (by with_reducible assumption) | exact absurd (by with_reducible assumption) d3 | exact absurd d3 (by with_reducible assumption) | skip)
          refine no 0 ?_
          rw [htis, decide_eq_false_iff_not]
          intro g
          rw [g] at hql; exact c3 hql.symm
      · rw [hx2] at c2
        have c2' : 299 ≤ (if 3 < e - b then 258 else 256) := c2
        split at c2' <;> omega
      · rw [hx2] at c2
        have c2' : 299 ≤ (if qsgn (t b) then t b else 258) := c2
        have := hx.2 b h1
        split at c2' <;> omega
    · have d2 : ¬ I 43 10 = (1 : Int32) := by rw [h0.1.2.2.1]; exact fun g => c2 (hk1.mp ((nI_eq (b := 1) (by omega) (by decide)).mp g))
      refine Cal.of rfl (by decide +kernel) (by simp) (Nat.le_of_ble_eq_true rfl) rfl (sX12_isWord_0 hG hsi.2 w ?_ ?_ ?_ ?_) <;> intros <;> (first | exact absurd (by with_reducible assumption) c1 | exact absurd c1 (by with_reducible assumption) | exact absurd (by with_reducible assumption) d2 | exact absurd d2 (by with_reducible assumption) | skip)
      refine no 0 ?_
      show decide (s.2.2.1 = 300 + wno si) = false
      rw [decide_eq_false_iff_not]; omega
/-- a word taken, if it stands there -/
def ttk (t : Nat → Nat) (n c : Nat) (x : Er ⊕ Tok) : Er ⊕ Tok := if tis c x then xb x (fun s => .inr (ynx t n s.1)) else x
theorem took_r {si : Nat} (w : MW R S nx) (hG : GT G) (h : PX I t n x) (hsi : 14 ≤ si ∧ si < 35) : Cal l G (k + 6) 0 0 mX12_took [.ref 43, .retAddr si] (I, J, R, S, nx) (fun r μ' => r = .inl (some (.int (if tis (300 + wno si) x then 1 else 0))) ∧ ∃ I', μ' = (I', J, R, S, nx) ∧ Fz [] [8, 9, 10, 11, 12, 13] I I' ∧ PX I' t n (ttk t n (300 + wno si) x)) := by
  have hW := isWord_r (l := l) (k := k) (J := J) w hG h hsi
  cases hq : tis (300 + wno si) x with
  | false =>
    rw [hq] at hW
    have z0 : (if false = true then (1 : Int32) else 0) = 0 := rfl
    unfold ttk
    rw [hq]
    refine Cal.of rfl (by decide +kernel) (by simp) (Nat.le_of_ble_eq_true rfl) rfl (sX12_took_0 (P1 := fun I I' => I' = I) (P2 := fun _ _ => True) w hW ?_ ?_ ?_ ?_ ?_) <;> intros <;> (first | exact absurd (by with_reducible assumption) z0 | exact absurd z0 (by with_reducible assumption) | skip)
    · rename_i I1 h1 _; subst h1; exact ⟨rfl, _, rfl, Fz.rf, h⟩
    · rfl
  | true =>
    rw [hq] at hW
    have z0 : ¬ (if true = true then (1 : Int32) else 0) = 0 := by decide
    cases x with
    | inl e => cases hq
    | inr s =>
      unfold ttk
      rw [hq]
      refine Cal.of rfl (by decide +kernel) (by simp) (Nat.le_of_ble_eq_true rfl) rfl (sX12_took_0 (P1 := fun I I' => I' = I) (P2 := fun I I' => Fz [] [8, 9, 10, 11, 12, 13] I I' ∧ PX I' t n (.inr (ynx t n s.1))) w hW ?_ ?_ ?_ ?_ ?_) <;> intros <;> (first | exact absurd (by with_reducible assumption) z0 | exact absurd z0 (by with_reducible assumption) | skip)
      · rename_i I1 h1 _; subst h1; exact reads_p w h
      · rename_i I1 h1 _ I2 h2; subst h1; exact ⟨rfl, _, rfl, h2⟩
      · rfl
theorem mustSign_r {c : Nat} (w : MW R S nx) (h : PX I t n x) (hc : c < 256) (hs : qsgn c = true) : Cal l G (k + 2) 0 0 mX12_mustSign [.ref 43, .int (nI c)] (I, J, R, S, nx) (fun r μ' => r = .inl none ∧ ∃ I', μ' = (I', J, R, S, nx) ∧ Fz [] [8, 9, 10, 11, 12, 13] I I' ∧ PX I' t n (xb x (ymust t n c))) := by
  have h0 := h.2
  cases x with
  | inl e =>
    have c1 : ¬ I 43 12 = 0 := fun g => by obtain ⟨s, hs⟩ := h.bad.mp g; cases hs
    have eb : w_X12_blames I (2 : Int32) = I := blames_b h
    have c1' : ¬ w_X12_blames I (2 : Int32) 43 12 = 0 := by rw [eb]; exact c1
    refine Cal.of rfl (by decide +kernel) (by simp) (Nat.le_of_ble_eq_true rfl) rfl (sX12_mustSign_0 (P1 := fun _ _ => True) (P2 := fun _ _ => True) w ?_ ?_ ?_ ?_ ?_ ?_) <;> intros <;> (first | exact absurd (by with_reducible assumption) c1 | exact absurd c1 (by with_reducible assumption) | exact absurd (by with_reducible assumption) c1' | exact absurd c1' (by with_reducible assumption) | skip)
    · exact ⟨rfl, _, rfl, Fz.rf, h⟩
    · rw [eb]; exact ⟨rfl, _, rfl, Fz.rf, h⟩
  | inr s =>
    have c1 : I 43 12 = 0 := h0.1.2.2.2.2
    have hk := rtk_sgn h0.2 h.1.tx hc hs
    have hl := (rtk_k h0.2 h.1.tx).2.2.2.2
    show Cal l G (k + 2) 0 0 mX12_mustSign [.ref 43, .int (nI c)] (I, J, R, S, nx) (fun r μ' => r = .inl none ∧ ∃ I', μ' = (I', J, R, S, nx) ∧ Fz [] [8, 9, 10, 11, 12, 13] I I' ∧ PX I' t n (ymust t n c s))
    unfold ymust
    by_cases e : s.2.2.1 = c
    · have d2 : I 43 10 = nI c := by rw [h0.1.2.2.1, hk.mpr e]
      rw [if_pos e]
      refine Cal.of rfl (by decide +kernel) (by simp) (Nat.le_of_ble_eq_true rfl) rfl (sX12_mustSign_0 (P1 := fun I I' => Fz [] [8, 9, 10, 11, 12, 13] I I' ∧ PX I' t n (.inr (ynx t n s.1))) (P2 := fun _ _ => True) w ?_ ?_ ?_ ?_ ?_ ?_) <;> intros <;> (first | exact absurd (by with_reducible assumption) c1 | exact absurd c1 (by with_reducible assumption) | exact absurd (by with_reducible assumption) d2 | exact absurd d2 (by with_reducible assumption) | skip)
      · exact reads_p w h
      · rename_i I1 h1; exact ⟨rfl, _, rfl, h1⟩
    · have d2 : ¬ I 43 10 = nI c := by rw [h0.1.2.2.1]; exact fun g => e (hk.mp ((nI_eq (by omega) (by omega)).mp g))
      rw [if_neg e]
      obtain ⟨b1, b2⟩ := blames_n (k := 2) h (by decide)
      have c3 : ¬ w_X12_blames I (2 : Int32) 43 12 = 0 := fun g => by obtain ⟨s, hs⟩ := b2.bad.mp g; cases hs
      refine Cal.of rfl (by decide +kernel) (by simp) (Nat.le_of_ble_eq_true rfl) rfl (sX12_mustSign_0 (P1 := fun _ _ => True) (P2 := fun _ _ => True) w ?_ ?_ ?_ ?_ ?_ ?_) <;> intros <;> (first | exact absurd (by with_reducible assumption) d2 | exact absurd d2 (by with_reducible assumption) | exact absurd (by with_reducible assumption) c3 | exact absurd c3 (by with_reducible assumption) | skip)
      exact ⟨rfl, _, rfl, b1.wk (by decide) (by decide), b2⟩
/-- the number taken -/
def tnv (lo : Nat) (r : Er ⊕ (Nat × Tok)) : Int32 := match r with
  | .inl _ => nI lo
  | .inr v => nI v.1
def tsn (r : Er ⊕ (Nat × Tok)) : Er ⊕ Tok := xb r (fun v => .inr v.2)
theorem number_r {lo hi : Nat} {y : Int32} (w : MW R S nx) (h : PX I t n x) (hlo : lo < 1000) (hhi : hi ≤ 1000) (hy : y.toInt = (hi : Int) - 1) : Cal l G (k + 2) 0 0 mX12_number [.ref 43, .int (nI lo), .int y] (I, J, R, S, nx) (fun r μ' => r = .inl (some (.int (tnv lo (xb x (ynum t n lo hi))))) ∧ ∃ I', μ' = (I', J, R, S, nx) ∧ Fz [] [8, 9, 10, 11, 12, 13] I I' ∧ PX I' t n (tsn (xb x (ynum t n lo hi)))) := by
  have h0 := h.2
  cases x with
  | inl e =>
    have c1 : ¬ I 43 12 = 0 := fun g => by obtain ⟨s, hs⟩ := h.bad.mp g; cases hs
    have eb : ∀ v, w_X12_blames I v = I := fun v => blames_b h
    have fin : hX12_number_36 l G k (fun r μ' => r = .inl (some (.int (tnv lo (xb (.inl e : Er ⊕ Tok) (ynum t n lo hi))))) ∧ ∃ I', μ' = (I', J, R, S, nx) ∧ Fz [] [8, 9, 10, 11, 12, 13] I I' ∧ PX I' t n (tsn (xb (.inl e : Er ⊕ Tok) (ynum t n lo hi)))) (nI lo) (I, J, R, S, nx) := by
      refine sX12_number_36 (P1 := fun _ _ => True) w ?_ ?_ ?_ ?_ ?_ <;> intros <;> (first | exact absurd (by with_reducible assumption) c1 | exact absurd c1 (by with_reducible assumption) | skip)
      exact ⟨rfl, _, rfl, Fz.rf, h⟩
    refine Cal.of rfl (by decide +kernel) (by simp) (Nat.le_of_ble_eq_true rfl) rfl (sX12_number_0 w ?_ ?_ ?_) <;> intros
    · exact fin
    · rw [eb]; exact fin
    · rw [eb]; exact fin
  | inr s =>
    have c1 : I 43 12 = 0 := h0.1.2.2.2.2
    have hk2 := (rtk_k h0.2 h.1.tx).2.1
    have hl := (rtk_k h0.2 h.1.tx).2.2.2.2
    have hg := h0.2.g h.1.tx
    show Cal l G (k + 2) 0 0 mX12_number [.ref 43, .int (nI lo), .int y] (I, J, R, S, nx) (fun r μ' => r = .inl (some (.int (tnv lo (ynum t n lo hi s)))) ∧ ∃ I', μ' = (I', J, R, S, nx) ∧ Fz [] [8, 9, 10, 11, 12, 13] I I' ∧ PX I' t n (tsn (ynum t n lo hi s)))
    unfold ynum
    have bl : ∀ k, 1 ≤ k ∧ k ≤ 4 → hX12_number_36 l G k (fun r μ' => True) (nI lo) (I, J, R, S, nx) → True := fun _ _ _ => trivial
    have bad : ∀ q : Nat, 1 ≤ q ∧ q ≤ 4 → hX12_number_36 l G k (fun r μ' => r = .inl (some (.int (tnv lo (.inl (qbl q s))))) ∧ ∃ I', μ' = (I', J, R, S, nx) ∧ Fz [] [8, 9, 10, 11, 12, 13] I I' ∧ PX I' t n (tsn (.inl (qbl q s)))) (nI lo) (w_X12_blames I (nI q), J, R, S, nx) := by
      intro q hq
      obtain ⟨b1, b2⟩ := blames_n (k := q) h hq
      have c3 : ¬ w_X12_blames I (nI q) 43 12 = 0 := fun g => by obtain ⟨s, hs⟩ := b2.bad.mp g; cases hs
      refine sX12_number_36 (P1 := fun _ _ => True) w ?_ ?_ ?_ ?_ ?_ <;> intros <;> (first | exact absurd (by with_reducible assumption) c3 | exact absurd c3 (by with_reducible assumption) | skip)
      exact ⟨rfl, _, rfl, b1.wk (by decide) (by decide), b2⟩
    by_cases e : s.2.2.1 = 256
    · have d2 : I 43 10 = (2 : Int32) := by rw [h0.1.2.2.1, hk2.mpr e]; rfl
      have e11 : I 43 11 = nI s.2.2.2 := h0.1.2.2.2.1 e
      have hv := hg.2.2.2.2 e
      have ew : (v_X12_within (Int32.toInt64 (I 43 11)) (Int32.toInt64 (nI lo)) (Int32.toInt64 y) = 0) = ¬ (lo ≤ s.2.2.2 ∧ s.2.2.2 < hi) := by
        rw [e11, wi_t, Int32.toInt_toInt64, Int32.toInt_toInt64, Int32.toInt_toInt64, nI_toInt (by omega), nI_toInt (by omega), hy, ifI]
        exact propext (not_congr (by omega))
      rw [if_pos e]
      by_cases c : lo ≤ s.2.2.2 ∧ s.2.2.2 < hi
      · have d3 : ¬ v_X12_within (Int32.toInt64 (I 43 11)) (Int32.toInt64 (nI lo)) (Int32.toInt64 y) = 0 := by rw [ew]; exact not_not_intro c
        rw [if_pos c]
        refine Cal.of rfl (by decide +kernel) (by simp) (Nat.le_of_ble_eq_true rfl) rfl (sX12_number_0 w ?_ ?_ ?_) <;> intros <;> (first | exact absurd (by with_reducible assumption) d2 | exact absurd d2 (by with_reducible assumption) | exact absurd (by with_reducible assumption) d3 | exact absurd d3 (by with_reducible assumption) | skip)
        refine sX12_number_36 (P1 := fun I I' => Fz [] [8, 9, 10, 11, 12, 13] I I' ∧ PX I' t n (.inr (ynx t n s.1))) w ?_ ?_ ?_ ?_ ?_ <;> intros <;> (first | exact absurd (by with_reducible assumption) c1 | exact absurd c1 (by with_reducible assumption) | skip)
        · exact reads_p w h
        · rename_i I1 h1 hx; exact absurd (h1.2.bad.mpr ⟨_, rfl⟩) hx
        · rename_i I1 h1 hx; exact ⟨by rw [e11]; rfl, _, rfl, h1⟩
      · have d3 : v_X12_within (Int32.toInt64 (I 43 11)) (Int32.toInt64 (nI lo)) (Int32.toInt64 y) = 0 := by rw [ew]; exact c
        rw [if_neg c]
        refine Cal.of rfl (by decide +kernel) (by simp) (Nat.le_of_ble_eq_true rfl) rfl (sX12_number_0 w ?_ ?_ ?_) <;> intros <;> (first | exact absurd (by with_reducible assumption) d2 | exact absurd d2 (by with_reducible assumption) | exact absurd (by with_reducible assumption) d3 | exact absurd d3 (by with_reducible assumption) | skip)
        have := bad 3 (by decide)
        rw [show qbl 3 s = (3, s.2.1) by unfold qbl; rw [if_neg (by omega)]] at this
        exact this
    · have d2 : ¬ I 43 10 = (2 : Int32) := by rw [h0.1.2.2.1]; exact fun g => e (hk2.mp ((nI_eq (b := 2) (by omega) (by decide)).mp g))
      rw [if_neg e]
      refine Cal.of rfl (by decide +kernel) (by simp) (Nat.le_of_ble_eq_true rfl) rfl (sX12_number_0 w ?_ ?_ ?_) <;> intros <;> (first | exact absurd (by with_reducible assumption) d2 | exact absurd d2 (by with_reducible assumption) | skip)
      exact bad 2 (by decide)
theorem mustWord_r {si : Nat} (w : MW R S nx) (hG : GT G) (h : PX I t n x) (hsi : 14 ≤ si ∧ si < 35) : Cal l G (k + 7) 0 0 mX12_mustWord [.ref 43, .retAddr si] (I, J, R, S, nx) (fun r μ' => r = .inl none ∧ ∃ I', μ' = (I', J, R, S, nx) ∧ Fz [] [8, 9, 10, 11, 12, 13] I I' ∧ PX I' t n (xb x (ymust t n (300 + wno si)))) := by
  have hW := took_r (l := l) (k := k) (J := J) w hG h hsi
  unfold ttk at hW
  cases hq : tis (300 + wno si) x with
  | false =>
    rw [hq] at hW
    have z0 : (if false = true then (1 : Int32) else 0) = 0 := rfl
    refine Cal.of rfl (by decide +kernel) (by simp) (Nat.le_of_ble_eq_true rfl) rfl (sX12_mustWord_0 (P1 := fun I I' => Fz [] [8, 9, 10, 11, 12, 13] I I' ∧ PX I' t n x) w hW ?_ ?_) <;> intros <;> (first | exact absurd (by with_reducible assumption) z0 | exact absurd z0 (by with_reducible assumption) | skip)
    rename_i I1 h1 _
    cases x with
    | inl e => rw [blames_b h1.2]; exact ⟨rfl, _, rfl, h1⟩
    | inr s =>
      obtain ⟨b1, b2⟩ := blames_n (k := 2) h1.2 (by decide)
      have hne : ¬ s.2.2.1 = 300 + wno si := by
        have : decide (s.2.2.1 = 300 + wno si) = false := hq
        rw [decide_eq_false_iff_not] at this; exact this
      refine ⟨rfl, _, rfl, h1.1.tr b1 (by decide) (by decide), ?_⟩
      show PX _ t n (ymust t n (300 + wno si) s)
      unfold ymust
      rw [if_neg hne]; exact b2
  | true =>
    rw [hq] at hW
    have z0 : ¬ (if true = true then (1 : Int32) else 0) = 0 := by decide
    cases x with
    | inl e => cases hq
    | inr s =>
      have he : s.2.2.1 = 300 + wno si := by
        have : decide (s.2.2.1 = 300 + wno si) = true := hq
        rw [decide_eq_true_eq] at this; exact this
      refine Cal.of rfl (by decide +kernel) (by simp) (Nat.le_of_ble_eq_true rfl) rfl (sX12_mustWord_0 (P1 := fun I I' => Fz [] [8, 9, 10, 11, 12, 13] I I' ∧ PX I' t n (.inr (ynx t n s.1))) w hW ?_ ?_) <;> intros <;> (first | exact absurd (by with_reducible assumption) z0 | exact absurd z0 (by with_reducible assumption) | skip)
      rename_i I1 h1 _
      refine ⟨rfl, _, rfl, h1.1, ?_⟩
      show PX _ t n (ymust t n (300 + wno si) s)
      unfold ymust
      rw [if_pos he]; exact h1.2
end A
