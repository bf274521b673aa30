/-! the class: thermometers -/
/-- of all the greatest number of one and the same -/
def qmc (g : Nat → Nat) (n : Nat) : Nat → Nat
  | 0 => 0
  | i + 1 => max (qmc g n i) (fa_cnt (fun j => decide (g j = g i)) n)
theorem cnt_mono {p : Nat → Bool} {i n : Nat} (h : i ≤ n) : fa_cnt p i ≤ fa_cnt p n := by
  induction n with
  | zero => rw [show i = 0 by omega]; exact Nat.le_refl _
  | succ n ih =>
    by_cases c : i = n + 1
    · rw [c]; exact Nat.le_refl _
    · have := ih (by omega)
      refine Nat.le_trans this ?_
      rw [show fa_cnt p (n + 1) = fa_cnt p n + if p n then 1 else 0 from rfl]; omega
theorem qml_ge {g : Nat → Nat} : ∀ {n i : Nat}, i < n → fa_cnt (fun j => decide (g j = g i)) (i + 1) ≤ qml g n
  | 0, i, h => absurd h (Nat.not_lt_zero _)
  | n + 1, i, h => by
    unfold qml
    by_cases c : i = n
    · subst c; omega
    · have := qml_ge (g := g) (n := n) (i := i) (by omega); omega
theorem cnt_last {g : Nat → Nat} {v : Nat} : ∀ n, (∃ i, i < n ∧ g i = v) → ∃ i, i < n ∧ g i = v ∧ fa_cnt (fun j => decide (g j = v)) (i + 1) = fa_cnt (fun j => decide (g j = v)) n
  | 0, ⟨i, h, _⟩ => absurd h (Nat.not_lt_zero _)
  | n + 1, ⟨i, h1, h2⟩ => by
    by_cases c : g n = v
    · exact ⟨n, by omega, c, rfl⟩
    · have hi : i ≠ n := fun e => c (by rw [← e]; exact h2)
      obtain ⟨j, q1, q2, q3⟩ := cnt_last (g := g) (v := v) n ⟨i, by omega, h2⟩
      exact ⟨j, by omega, q2, by rw [q3, fa_cnt_no (decide_eq_false_iff_not.mpr c)]⟩
theorem qmc_le {g : Nat → Nat} {n : Nat} : ∀ i, i ≤ n → qmc g n i ≤ qml g n
  | 0, _ => Nat.zero_le _
  | i + 1, h => by
    have h1 := qmc_le (g := g) (n := n) i (by omega)
    obtain ⟨j, q1, q2, q3⟩ := cnt_last (g := g) (v := g i) n ⟨i, by omega, rfl⟩
    have h2 := qml_ge (g := g) q1
    rw [q2, q3] at h2
    unfold qmc; omega
theorem qml_lec {g : Nat → Nat} {n : Nat} : ∀ i, i ≤ n → qml g i ≤ qmc g n i
  | 0, _ => Nat.le_refl _
  | i + 1, h => by
    have h1 := qml_lec (g := g) (n := n) i (by omega)
    have h2 := cnt_mono (p := fun j => decide (g j = g i)) h
    unfold qml qmc; omega
theorem qmc_ml (g : Nat → Nat) (n : Nat) : qmc g n n = qml g n := Nat.le_antisymm (qmc_le n (Nat.le_refl _)) (qml_lec n (Nat.le_refl _))
section A
variable {l : Launch} {G : Gh} {k : Nat} {I : Nat → Nat → Int32} {J : Nat → Nat → Int64} {R : Nat → Nat → Option Nat} {S : Nat → Nat × Nat} {nx : Nat} {κ : Nat → Nat} {hb pb : Nat}
theorem finedBy_t {kd wn hh : Nat} {z : Int} {L dl pl ld lp : Nat} (w : CF R S nx) (wL : R 14 0 = some L) (wl : LW R S nx L dl pl ld lp) (h : CK I κ L dl pl ld lp) (ho : qok hb pb κ) (hhb : hb < 2 ^ 29) {T : Nat} (wT : TW1 R S nx T) (ap : AP T 4 L dl pl) (hk : kd < 10) (hw : wn < 5) (hh2 : hh < 2 ^ 30) (hz : -1000 ≤ z ∧ z ≤ 1000) : Cal l G (k + 3) 0 0 mX8_finedBy [.ref T, .int (nI (qac κ kd)), .int (nI wn), .int (nI hh), .int (zI z)] (I, J, R, S, nx) (fun r μ' => r = .inl (some (.int (nI (qfin κ (qcode κ wn (qkept z) hh (qac κ kd)))))) ∧ ∃ I', μ' = (I', J, R, S, nx) ∧ Fr [27, 28, 29] I I' ∧ CK I' κ L dl pl ld lp) := by
  have hac := qac_lt ho kd
  have hcl := qcode_lt κ wn (qkept z) hh (qac κ kd) ho.2.1
  refine Cal.of rfl (by decide +kernel) (by simp) (Nat.le_of_ble_eq_true rfl) rfl (sX8_finedBy_0 (u1 := nI (qcode κ wn (qkept z) hh (qac κ kd))) (u2 := nI (qfin κ (qcode κ wn (qkept z) hh (qac κ kd)))) (P1 := fun I I' => Fr [27, 28, 29] I I' ∧ CK I' κ L dl pl ld lp) (P2 := fun I I' => I' = I) w wL wT wl ?_ ?_ ?_)
  · rw [kept_c (by omega)]; exact inForce_c w wL wl h ho hhb hw hh2 (qkept_le _) (by omega)
  · intro I1 h1; exact finesOf_c wl h1.2.2.1 ho.2.1 (by omega)
  · intro I1 h1 I2 h2; subst h2; exact ⟨rfl, _, rfl, h1⟩
/-- what was seen, told in a tray -/
def TR (I : Nat → Nat → Int32) (J : Nat → Nat → Int64) (R : Nat → Nat → Option Nat) (S : Nat → Nat × Nat) (nx t tn m : Nat) (f : Nat → Int) : Prop := (t < nx ∧ t < 72 ∧ t ∉ [27, 28, 29] ∧ (S t).1 = 9 ∧ R t 2 = some tn ∧ S tn = (101, 30) ∧ tn < nx) ∧ I t 1 = nI m ∧ m ≤ 24 ∧ ∀ i, i < m → (J tn i).toInt = f i
def DT (I : Nat → Nat → Int32) (κ : Nat → Nat) (T wn m : Nat) (f : Nat → Int) : Prop := ∀ j, j < m → f j ≠ -1 → I (T + 1) j = nI (qdeg κ wn (κ 54 - 1 - j))
theorem fits_t {kd wn t tn m : Nat} {f : Nat → Int} {d : Int} {L dl pl ld lp : Nat} (w : CF R S nx) (wL : R 14 0 = some L) (wl : LW R S nx L dl pl ld lp) (h : CK I κ L dl pl ld lp) (ho : qok hb pb κ) (hhb : hb < 2 ^ 29) {T : Nat} (wT : TW1 R S nx T) (ap : AP T 4 L dl pl) (hk : kd < 10) (hw : wn < 5) (hd : -20 ≤ d ∧ d ≤ 20) (ht : TR I J R S nx t tn m f) (hv : ∀ i, i < m → f i ≠ -1 → i < κ 54) (hD : DT I κ T wn m f) : Cal l G (k + 4) 0 0 mX8_fits [.ref T, .ref t, .int (nI kd), .int (nI wn), .int (zI d)] (I, J, R, S, nx) (fun r μ' => r = .inl (some (.int (if qfit κ f kd wn m d then 1 else 0))) ∧ ∃ I', μ' = (I', J, R, S, nx) ∧ Fr [27, 28, 29] I I' ∧ CK I' κ L dl pl ld lp) := by
  have h54 : κ 54 ≤ hb := ho.2.2.2.2.2.2.2.2.2.2.1
  obtain ⟨⟨t1, t2, t3, t4, t5, t6, t7⟩, tm, tl, tj⟩ := ht
  have hT0 := ap.1
  refine Cal.of rfl (by decide +kernel) (by simp) (Nat.le_of_ble_eq_true rfl) rfl (sX8_fits_0 (u1 := nI (qac κ kd)) (P1 := fun I I' => I' = I) w wT (actsOf_c (k := k + 2) w wL wl h ho hhb hk) (fun I1 h1 => ?_))
  subst h1
  refine upto (W := fun i I3 => hX8_fits_13 l G k _ T t (nI wn) (zI d) (nI (qac κ kd)) (nI i) (I3, J, R, S, nx)) (P := fun i I3 => Fr [27, 28, 29] I1 I3 ∧ CK I3 κ L dl pl ld lp ∧ ∀ j, j < i → (f j = -1 ∨ f j = (qfin κ (qcd κ kd wn (κ 54 - 1 - j) d) : Int))) m ?_ ?_ (i := 0) (Nat.zero_le _) ⟨Fr.rf, h, fun j hj => absurd hj (Nat.not_lt_zero _)⟩
  · intro I3 ⟨hF, hK, hf⟩
    have c1 : I3 t 1 ≤ nI m := by rw [hF t t3, tm]; exact nI_le (Nat.le_refl _) (by omega)
    refine sX8_fits_13 (u1 := 0) (P1 := fun _ _ => True) t6 t7 t1 t5 t4 w wT ?_ ?_ ?_ ?_ ?_ ?_ ?_ ?_ <;> intros <;> (first | exact absurd (by with_reducible assumption) c1 | exact absurd c1 (by with_reducible assumption) | skip)
    exact ⟨by rw [if_pos (qfit_iff.mpr hf)], _, rfl, hF, hK⟩
  · intro i I3 hi ⟨hF, hK, hf⟩ ih
    have c1 : ¬ I3 t 1 ≤ nI i := by rw [hF t t3, tm]; exact nI_ge hi (by omega)
    have c2 : ¬ (24 : Int32) ≤ nI i := nI_ge (b := 24) (by omega) (by decide)
    have e1 : (lg_cmp (J tn (nI i).toNatClampNeg) (-1 : Int64) = 0) = (f i = -1) := by rw [lgz.2.2.2, nI_clamp (by omega), tj i hi]; rfl
    have hfl := qfin_le ho (qcd κ kd wn (κ 54 - 1 - i) d)
    have e2 : (lg_cmp (J tn (nI i).toNatClampNeg) (Int32.toInt64 (nI (qfin κ (qcd κ kd wn (κ 54 - 1 - i) d)))) = 0) = (f i = (qfin κ (qcd κ kd wn (κ 54 - 1 - i) d) : Int)) := by rw [lgz.2.2.2, nI_clamp (by omega), tj i hi, n64 (by omega)]
    have hq := qdeg_le κ wn (κ 54 - 1 - i)
    have nxt : ∀ (q : f i = -1 ∨ f i = (qfin κ (qcd κ kd wn (κ 54 - 1 - i) d) : Int)), ∀ j, j < i + 1 → (f j = -1 ∨ f j = (qfin κ (qcd κ kd wn (κ 54 - 1 - j) d) : Int)) := fun q j hj => by
      by_cases c : j = i
      · rw [c]; exact q
      · exact hf j (by omega)
    refine sX8_fits_13 (u1 := nI (qfin κ (qcd κ kd wn (κ 54 - 1 - i) d))) (P1 := fun I I' => Fr [27, 28, 29] I I' ∧ CK I' κ L dl pl ld lp) t6 t7 t1 t5 t4 w wT ?_ ?_ ?_ ?_ ?_ ?_ ?_ ?_ <;> intros <;> (first | exact absurd (by with_reducible assumption) c1 | exact absurd c1 (by with_reducible assumption) | exact absurd (by with_reducible assumption) c2 | exact absurd c2 (by with_reducible assumption) | skip)
    · exact vp_in_nI (by omega) (by decide)
    · rename_i g; rw [e1] at g
      rw [nI_1]; exact ih I3 ⟨hF, hK, nxt (Or.inl g)⟩
    · exact vp_in_nI (by omega) (by decide)
    · rename_i g; rw [e1] at g
      have h5 := hv i hi g
      rw [hK.1.h.1, nI_sub1 (by omega), pk_sub (by omega), nI_clamp (by omega), hF (T + 1) (by simp; omega), hD i hi g, nI_z (qdeg κ wn (κ 54 - 1 - i)), zI_add, ← qcd_ac]
      exact finedBy_t w wL wl hK ho hhb wT ap hk hw (by omega) (by omega)
    · rename_i g I4 h4 g2; rw [e2] at g2
      rw [nI_1]; exact ih I4 ⟨hF.tr h4.1 (by decide), h4.2, nxt (Or.inr g2)⟩
    · rename_i g I4 h4 g2; rw [e1] at g; rw [e2] at g2
      refine ⟨?_, _, rfl, hF.tr h4.1 (by decide), h4.2⟩
      rw [if_neg (fun q => (qfit_iff.mp q i hi).elim g g2)]
def LT (I : Nat → Nat → Int32) (T : Nat) (bs : List Int) : Prop := I T 4 = nI bs.length ∧ ∀ i v, bs[i]? = some v → I (T + 3) i = zI v
theorem qfit_mn {f : Nat → Int} {kd wn m : Nat} {d : Int} (hv : ∀ i, i < m → f i ≠ -1 → i < κ 54) : qfit κ f kd wn m d = qfit κ f kd wn (min m (κ 54)) d := by
  rw [Bool.eq_iff_iff, qfit_iff, qfit_iff]
  constructor
  · intro g i hi; exact g i (by omega)
  · intro g i hi
    by_cases c : f i = -1
    · exact Or.inl c
    · exact g i (by have := hv i hi c; omega)
theorem find_t {kd wn t tn m : Nat} {f : Nat → Int} {L dl pl ld lp : Nat} (w : CF R S nx) (wL : R 14 0 = some L) (wl : LW R S nx L dl pl ld lp) (h : CK I κ L dl pl ld lp) (ho : qok hb pb κ) (hhb : hb < 2 ^ 29) {T : Nat} (wT : TW1 R S nx T) (ap : AP T 4 L dl pl) (hk : kd < 10) (hw : wn < 5) (ht : TR I J R S nx t tn m f) (hv : ∀ i, i < m → f i ≠ -1 → i < κ 54) : Cal l G (k + 5) 0 0 mX8_find [.ref T, .ref t, .int (nI kd), .int (nI wn)] (I, J, R, S, nx) (fun r μ' => r = .inl none ∧ ∃ I', μ' = (I', J, R, S, nx) ∧ Fr [27, 28, 29, T, T + 1, T + 3] I I' ∧ CK I' κ L dl pl ld lp ∧ LT I' T (qbr (qfit κ f kd wn (min m (κ 54))) 41)) := by
  have h54 : κ 54 ≤ hb := ho.2.2.2.2.2.2.2.2.2.2.1
  obtain ⟨⟨t1, t2, t3, t4, t5, t6, t7⟩, tm, tl, tj⟩ := id ht
  have hT0 := ap.1
  have trF : ∀ I3, Fr [27, 28, 29, T, T + 1, T + 3] I I3 → TR I3 J R S nx t tn m f := fun I3 hF => ⟨⟨t1, t2, t3, t4, t5, t6, t7⟩, by rw [hF t (by simp at t3 ⊢; omega)]; exact tm, tl, tj⟩
  obtain ⟨p, hp⟩ : ∃ p, qfit κ f kd wn (min m (κ 54)) = p := ⟨_, rfl⟩
  have hpi : ∀ d, qfit κ f kd wn m d = p d := fun d => by rw [qfit_mn hv]; exact congrFun hp d
  rw [hp]
  -- by how much
  have two : ∀ I3, Fr [27, 28, 29, T, T + 1, T + 3] I I3 → CK I3 κ L dl pl ld lp → DT I3 κ T wn m f → hX8_find_77 l G k (fun r μ' => r = .inl none ∧ ∃ I', μ' = (I', J, R, S, nx) ∧ Fr [27, 28, 29, T, T + 1, T + 3] I I' ∧ CK I' κ L dl pl ld lp ∧ LT I' T (qbr p 41)) T t (nI kd) (nI wn) (-20 : Int32) ((up2 I3 T 4 (0 : Int32)), J, R, S, nx) := by
    intro I3 hF hK hD
    suffices hgo : hX8_find_77 l G k (fun r μ' => r = .inl none ∧ ∃ I', μ' = (I', J, R, S, nx) ∧ Fr [27, 28, 29, T, T + 1, T + 3] I I' ∧ CK I' κ L dl pl ld lp ∧ LT I' T (qbr p 41)) T t (nI kd) (nI wn) (zI (((0 : Nat) : Int) - 20)) ((up2 I3 T 4 (0 : Int32)), J, R, S, nx) from hgo
    refine upto (W := fun i I4 => hX8_find_77 l G k _ T t (nI kd) (nI wn) (zI ((i : Int) - 20)) (I4, J, R, S, nx)) (P := fun i I4 => Fr [27, 28, 29, T, T + 1, T + 3] I I4 ∧ CK I4 κ L dl pl ld lp ∧ DT I4 κ T wn m f ∧ LT I4 T (qbr p i)) 41 ?_ ?_ (i := 0) (Nat.zero_le _) ⟨hF.up (by simp), hK.dy ap (by omega), fun j q1 q2 => ?_, ?_, fun i v q => by cases q⟩
    · intro I4 ⟨gF, gK, gD, gL⟩
      have c1 : (20 : Int32) < zI (((41 : Nat) : Int) - 20) := by decide
      refine sX8_find_77 (u1 := 0) (P1 := fun _ _ => True) wT ?_ ?_ ?_ ?_ ?_ <;> intros <;> (first | exact absurd (by with_reducible assumption) c1 | exact absurd c1 (by with_reducible assumption) | skip)
      exact ⟨rfl, _, rfl, gF, gK, gL⟩
    · intro i I4 hi ⟨gF, gK, gD, gL⟩ ih
      have c1 : ¬ (20 : Int32) < zI ((i : Int) - 20) := by rw [fa_lt, zI_toInt (by omega), show (20 : Int32).toInt = 20 by decide]; omega
      have ez : zI ((i : Int) - 20) + (1 : Int32) = zI (((i + 1 : Nat) : Int) - 20) := by
        rw [show (1 : Int32) = zI 1 from rfl, zI_add]; congr 1; omega
      have hbl := qbr_len p i
      have qs : qbr p (i + 1) = if p ((i : Int) - 20) then qbr p i ++ [(i : Int) - 20] else qbr p i := rfl
      refine sX8_find_77 (u1 := if p ((i : Int) - 20) then 1 else 0) (P1 := fun I I' => Fr [27, 28, 29] I I' ∧ CK I' κ L dl pl ld lp) wT ?_ ?_ ?_ ?_ ?_ <;> intros <;> (first | exact absurd (by with_reducible assumption) c1 | exact absurd c1 (by with_reducible assumption) | skip)
      · rw [← hpi]; exact fits_t w wL wl gK ho hhb wT ap hk hw (by omega) (trF I4 gF) hv gD
      · rename_i I5 h5 g; rw [ifI] at g
        rw [ez]
        refine ih I5 ⟨gF.tr h5.1 (by simp), h5.2, fun j q1 q2 => by rw [h5.1 _ (by simp; omega)]; exact gD j q1 q2, ?_⟩
        rw [qs, if_neg g]
        exact ⟨by rw [h5.1 _ (by simp; omega)]; exact gL.1, fun i v q => by rw [h5.1 _ (by simp; omega)]; exact gL.2 i v q⟩
      · rename_i I5 h5 g
        rw [h5.1 T (by simp; omega), gL.1]; exact vp_in_nI (by omega) (by decide)
      · rename_i I5 h5 g; rw [ifI, Decidable.not_not] at g
        have eT : I5 T 4 = nI (qbr p i).length := by rw [h5.1 T (by simp; omega)]; exact gL.1
        rw [ez, eT, nI_clamp (by omega), show (up2 I5 (T + 3) (qbr p i).length (zI ((i : Int) - 20))) T 4 = nI (qbr p i).length by simp [up2]; exact eT, nI_1]
        have hF5 : Fr [27, 28, 29, T, T + 1, T + 3] I I5 := gF.tr h5.1 (by simp)
        refine ih _ ⟨(hF5.up (by simp)).up (by simp), (h5.2.dy ap (by omega)).dy ap (by omega), fun j q1 q2 => ?_, ?_⟩
        · simp only [up2, if_neg (show ¬ T + 1 = T by omega), if_neg (show ¬ T + 1 = T + 3 by omega)]
          rw [h5.1 _ (by simp; omega)]; exact gD j q1 q2
        · rw [qs, if_pos g]
          refine ⟨by simp [up2], fun j v q => ?_⟩
          simp only [up2, if_neg (show ¬ T + 3 = T by omega), if_true]
          by_cases c : j = (qbr p i).length
          · subst c
            rw [if_pos rfl]
            simp at q
            rw [q]
          · rw [if_neg c]
            have hj : j < (qbr p i).length := by
              have := (List.getElem?_eq_some_iff.mp q).1
              simp at this; omega
            rw [List.getElem?_append_left hj] at q
            rw [h5.1 _ (by simp; omega)]; exact gL.2 j v q
    · simp only [up2, if_neg (show ¬ T + 1 = T by omega)]; exact hD j q1 q2
    · simp [up2]; rfl
  refine Cal.of rfl (by decide +kernel) (by simp) (Nat.le_of_ble_eq_true rfl) rfl (sX8_find_0 wT ?_)
  refine upto (W := fun i I3 => hX8_find_3 l G k _ T t (nI kd) (nI wn) (nI i) (I3, J, R, S, nx)) (P := fun i I3 => Fr [27, 28, 29, T, T + 1, T + 3] I I3 ∧ CK I3 κ L dl pl ld lp ∧ ∀ j, j < i → f j ≠ -1 → I3 (T + 1) j = nI (qdeg κ wn (κ 54 - 1 - j))) m ?_ ?_ (i := 0) (Nat.zero_le _) ⟨Fr.rf, h, fun j hj => absurd hj (Nat.not_lt_zero _)⟩
  · intro I3 ⟨hF, hK, hD⟩
    have c1 : I3 t 1 ≤ nI m := by rw [(trF I3 hF).2.1]; exact nI_le (Nat.le_refl _) (by omega)
    refine sX8_find_3 (u1 := 0) (P1 := fun _ _ => True) t6 t7 t1 t5 t4 w wT ?_ ?_ ?_ ?_ ?_ ?_ ?_ <;> intros <;> (first | exact absurd (by with_reducible assumption) c1 | exact absurd c1 (by with_reducible assumption) | skip)
    exact two I3 hF hK hD
  · intro i I3 hi ⟨hF, hK, hD⟩ ih
    have c1 : ¬ I3 t 1 ≤ nI i := by rw [(trF I3 hF).2.1]; exact nI_ge hi (by omega)
    have c2 : ¬ (24 : Int32) ≤ nI i := nI_ge (b := 24) (by omega) (by decide)
    have e1 : (lg_cmp (J tn (nI i).toNatClampNeg) (-1 : Int64) = 0) = (f i = -1) := by rw [lgz.2.2.2, nI_clamp (by omega), tj i hi]; rfl
    refine sX8_find_3 (u1 := nI (qdeg κ wn (κ 54 - 1 - i))) (P1 := fun I I' => Fr [27, 28] I I' ∧ CK I' κ L dl pl ld lp) t6 t7 t1 t5 t4 w wT ?_ ?_ ?_ ?_ ?_ ?_ ?_ <;> intros <;> (first | exact absurd (by with_reducible assumption) c1 | exact absurd c1 (by with_reducible assumption) | exact absurd (by with_reducible assumption) c2 | exact absurd c2 (by with_reducible assumption) | skip)
    · exact vp_in_nI (by omega) (by decide)
    · rename_i g; rw [e1] at g
      rw [nI_1]
      refine ih I3 ⟨hF, hK, fun j hj q => ?_⟩
      by_cases c : j = i
      · rw [c] at q; exact absurd g q
      · exact hD j (by omega) q
    · rename_i g; rw [e1] at g
      have h5 := hv i hi g
      rw [hK.1.h.1, nI_sub1 (by omega), pk_sub (by omega)]
      exact degreeIn_c (k := k + 2) w wL wl hK ho hhb hw (by omega)
    · exact vp_in_nI (by omega) (by decide)
    · rename_i g I4 h4
      rw [nI_1, nI_clamp (by omega)]
      refine ih _ ⟨(hF.tr (r3 := [27, 28, 29, T, T + 1, T + 3]) h4.1 (by simp)).up (by simp), h4.2.dy ap (by omega), fun j hj q => ?_⟩
      by_cases c : j = i
      · subst c; simp [up2]
      · simp only [up2, if_true, if_neg c]
        rw [h4.1 _ (by simp; omega)]; exact hD j (by omega) q
theorem mostAlike_t {T n : Nat} {g : Nat → Nat} (wT : TW1 R S nx T) (hn : n ≤ 41) (h4 : I T 4 = nI n) (hg : ∀ j, j < n → I (T + 2) j = nI (g j)) (hgl : ∀ j, g j < 2 ^ 20) : Cal l G k 0 0 mX8_mostAlike [.ref T] (I, J, R, S, nx) (fun r μ' => r = .inl (some (.int (nI (qml g n)))) ∧ ∃ I', μ' = (I', J, R, S, nx) ∧ I' = I) := by
  rw [← qmc_ml]
  refine Cal.of rfl (by decide +kernel) (by simp) (Nat.le_of_ble_eq_true rfl) rfl (sX8_mostAlike_0 wT ?_)
  refine upto (σ := Unit) (W := fun i _ => hX8_mostAlike_4 l G k _ T (nI (qmc g n i)) (nI i) (I, J, R, S, nx)) (P := fun _ _ => True) n ?_ ?_ (i := 0) (s := ()) (Nat.zero_le _) trivial
  · intro _ _
    have c1 : I T 4 ≤ nI n := by rw [h4]; exact nI_le (Nat.le_refl _) (by omega)
    refine sX8_mostAlike_4 wT ?_ ?_ <;> intros <;> (first | exact absurd (by with_reducible assumption) c1 | exact absurd c1 (by with_reducible assumption) | skip)
    exact ⟨rfl, _, rfl, rfl⟩
  · intro i _ hi _ ih
    have c1 : ¬ I T 4 ≤ nI i := by rw [h4]; exact nI_ge hi (by omega)
    refine sX8_mostAlike_4 wT ?_ ?_ <;> intros <;> (first | exact absurd (by with_reducible assumption) c1 | exact absurd c1 (by with_reducible assumption) | skip)
    obtain ⟨p, hp⟩ : ∃ p, (fun j => decide (g j = g i)) = p := ⟨_, rfl⟩
    have hpj : ∀ j, decide (g j = g i) = p j := fun j => congrFun hp j
    have hle : ∀ j, j ≤ n → qmc g n j ≤ n := fun j hj => by have := qmc_le (g := g) (n := n) j hj; have := qml_le g n; omega
    refine upto (σ := Unit) (W := fun j _ => hX8_mostAlike_17 l G k _ T (nI (qmc g n i)) (nI i) (nI (fa_cnt p j)) (nI j) (I, J, R, S, nx)) (P := fun _ _ => True) n ?_ ?_ (i := 0) (s := ()) (Nat.zero_le _) trivial
    · intro _ _
      have d1 : I T 4 ≤ nI n := by rw [h4]; exact nI_le (Nat.le_refl _) (by omega)
      refine sX8_mostAlike_17 wT ?_ ?_ ?_ ?_ ?_ <;> intros <;> (first | exact absurd (by with_reducible assumption) d1 | exact absurd d1 (by with_reducible assumption) | skip)
      have hx := ih () trivial
      have hcl := fa_cnt_le p n
      have hql := hle i (by omega)
      have em : (if nI (qmc g n i) < nI (fa_cnt p n) then nI (fa_cnt p n) else nI (qmc g n i)) = nI (qmc g n (i + 1)) := by
        rw [show qmc g n (i + 1) = max (qmc g n i) (fa_cnt p n) by rw [← hp]; rfl]
        by_cases c : qmc g n i < fa_cnt p n
        · rw [if_pos (nI_lt c (by omega))]; congr 1; omega
        · rw [if_neg (nI_nlt (by omega) (by omega))]; congr 1; omega
      rw [em, nI_1]; exact hx
    · intro j _ hj _ jh
      have d1 : ¬ I T 4 ≤ nI j := by rw [h4]; exact nI_ge hj (by omega)
      have hx := jh () trivial
      have gj := hgl j
      have gi := hgl i
      have e1 : (I (T + 2) (nI j).toNatClampNeg = I (T + 2) (nI i).toNatClampNeg) = (g j = g i) := by
        rw [nI_clamp (by omega), nI_clamp (by omega), hg j hj, hg i hi]; exact propext (nI_eq (by omega) (by omega))
      refine sX8_mostAlike_17 wT ?_ ?_ ?_ ?_ ?_ <;> intros <;> (first | exact absurd (by with_reducible assumption) d1 | exact absurd d1 (by with_reducible assumption) | skip)
      · exact vp_in_nI (by omega) (by decide)
      · exact vp_in_nI (by omega) (by decide)
      · rename_i q; rw [e1] at q
        rw [fa_cnt_no (by rw [← hpj]; exact decide_eq_false_iff_not.mpr q)] at hx
        rw [nI_1]; exact hx
      · rename_i q; rw [e1] at q
        rw [fa_cnt_yes (by rw [← hpj]; exact decide_eq_true_eq.mpr q)] at hx
        rw [nI_1, nI_1]; exact hx
theorem tellingHour_t {kd wn : Nat} {bs : List Int} {L dl pl ld lp : Nat} (w : CF R S nx) (wL : R 14 0 = some L) (wl : LW R S nx L dl pl ld lp) (h : CK I κ L dl pl ld lp) (ho : qok hb pb κ) (hhb : hb < 2 ^ 29) {T : Nat} (wT : TW1 R S nx T) (ap : AP T 4 L dl pl) (hk : kd < 10) (hw : wn < 5) (hbl : bs.length ≤ 41) (hbi : ∀ v ∈ bs, -20 ≤ v ∧ v < 21) (hL : LT I T bs) : Cal l G (k + 4) 0 0 mX8_tellingHour [.ref T, .int (nI kd), .int (nI wn)] (I, J, R, S, nx) (fun r μ' => r = .inl (some (.int (if bs.length = 0 then -1 else jP (qlk (fun q => qml (qbf κ bs kd wn q) bs.length) 25).1))) ∧ ∃ I', μ' = (I', J, R, S, nx) ∧ Fr [27, 28, 29, T + 2] I I' ∧ CK I' κ L dl pl ld lp) := by
  have h54 : κ 54 ≤ hb := ho.2.2.2.2.2.2.2.2.2.2.1
  have hT0 := ap.1
  obtain ⟨M, hM⟩ : ∃ M, (fun q => qml (qbf κ bs kd wn q) bs.length) = M := ⟨_, rfl⟩
  have hMi : ∀ q, qml (qbf κ bs kd wn q) bs.length = M q := fun q => congrFun hM q
  have hMl : ∀ q, M q ≤ 41 := fun q => by rw [← hMi]; exact Nat.le_trans (qml_le _ _) hbl
  rw [hM]
  have lks : ∀ i, qlk M (i + 1) = if M i < (qlk M i).2 then (some i, M i) else qlk M i := fun i => rfl
  refine Cal.of rfl (by decide +kernel) (by simp) (Nat.le_of_ble_eq_true rfl) rfl (sX8_tellingHour_0 (u1 := nI (qac κ kd)) (P1 := fun I I' => I' = I) w wT (actsOf_c (k := k + 2) w wL wl h ho hhb hk) (fun I1 h1 => ?_))
  subst h1
  by_cases c0 : bs.length = 0
  · have d0 : I1 T 4 ≤ 0 := by rw [hL.1, c0]; decide
    have d1 : ¬ (24 : Int32) < 0 := by decide
    rw [if_pos c0]
    refine sX8_tellingHour_24 (u1 := 0) (P1 := fun _ _ => True) w wT ?_ ?_ ?_ ?_ <;> intros <;> (first | exact absurd (by with_reducible assumption) d0 | exact absurd d0 (by with_reducible assumption) | exact absurd (by with_reducible assumption) d1 | exact absurd d1 (by with_reducible assumption) | skip)
    exact ⟨rfl, _, rfl, Fr.rf, h⟩
  · rw [if_neg c0]
    have cls : ∀ s : Option Nat × Nat, s.1 = none ∧ s.2 = 536870912 ∨ s.2 ≤ 41 → (if s.1 = none then 42 else s.2) ≤ 42 := fun s g => by
      split
      · omega
      · rcases g with g | g
        · rename_i q; exact absurd g.1 q
        · omega
    refine upto (W := fun i (s : (Option Nat × Nat) × (Nat → Nat → Int32)) => hX8_tellingHour_24 l G k _ T (nI wn) (nI (qac κ kd)) (jP s.1.1) (nI (if s.1.1 = none then 42 else s.1.2)) (nI i) (s.2, J, R, S, nx)) (P := fun i s => s.1 = qlk M i ∧ (s.1.1 = none ∧ s.1.2 = 536870912 ∨ s.1.2 ≤ 41 ∧ s.1.1 ≠ none) ∧ Fr [27, 28, 29, T + 2] I1 s.2 ∧ CK s.2 κ L dl pl ld lp) 25 ?_ ?_ (i := 0) (s := ((none, 536870912), I1)) (Nat.zero_le _) ⟨rfl, Or.inl ⟨rfl, rfl⟩, Fr.rf, h⟩
    · intro ⟨s, I3⟩ ⟨he, _, hF, hK⟩
      dsimp only at he hF hK ⊢
      have d1 : (24 : Int32) < nI 25 := by decide
      refine sX8_tellingHour_24 (u1 := 0) (P1 := fun _ _ => True) w wT ?_ ?_ ?_ ?_ <;> intros <;> (first | exact absurd (by with_reducible assumption) d1 | exact absurd d1 (by with_reducible assumption) | skip)
      exact ⟨by rw [he], _, rfl, hF, hK⟩
    · intro i ⟨s, I3⟩ hi ⟨he, hsv, hF, hK⟩ ih
      dsimp only at he hsv hF hK ⊢
      have d1 : ¬ (24 : Int32) < nI i := nI_nlt (b := i) (a := 24) (by omega) (by decide)
      have eT : I3 T 4 = nI bs.length := by rw [hF T (by simp; omega)]; exact hL.1
      have d2 : ¬ I3 T 4 ≤ 0 := by rw [eT]; exact nI_ge (a := 0) (by omega) (by omega)
      refine sX8_tellingHour_24 (u1 := nI (qdeg κ wn (κ 54 + i))) (P1 := fun I I' => Fr [27, 28] I I' ∧ CK I' κ L dl pl ld lp) w wT ?_ ?_ ?_ ?_ <;> intros <;> (first | exact absurd (by with_reducible assumption) d1 | exact absurd d1 (by with_reducible assumption) | exact absurd (by with_reducible assumption) d2 | exact absurd d2 (by with_reducible assumption) | skip)
      · rw [hK.1.h.1, nI_add]; exact degreeIn_c (k := k + 1) w wL wl hK ho hhb hw (by omega)
      rename_i I4 h4
      rw [hK.1.h.1, nI_add]
      obtain ⟨g, hg⟩ : ∃ g, qbf κ bs kd wn i = g := ⟨_, rfl⟩
      have hgi : ∀ j, qfin κ (qcd κ kd wn (κ 54 + i) ((bs[j]?).getD 0)) = g j := fun j => congrFun hg j
      have hgl : ∀ j, g j ≤ 792 := fun j => by rw [← hgi]; exact qfin_le ho _
      have hMg : qml g bs.length = M i := by rw [← hMi, hg]
      have hF4 : Fr [27, 28, 29, T + 2] I1 I4 := hF.tr h4.1 (by simp)
      refine upto (W := fun j I5 => hX8_tellingHour_67 l G k _ T (nI wn) (nI (qac κ kd)) (jP s.1) (nI (if s.1 = none then 42 else s.2)) (nI i) (nI (κ 54 + i)) (nI (qdeg κ wn (κ 54 + i))) (nI j) (I5, J, R, S, nx)) (P := fun j I5 => Fr [27, 28, 29, T + 2] I1 I5 ∧ CK I5 κ L dl pl ld lp ∧ ∀ q, q < j → I5 (T + 2) q = nI (g q)) bs.length ?_ ?_ (i := 0) (Nat.zero_le _) ⟨hF4, h4.2, fun q hq => absurd hq (Nat.not_lt_zero _)⟩
      · intro I5 ⟨gF, gK, gv⟩
        have eT5 : I5 T 4 = nI bs.length := by rw [gF T (by simp; omega)]; exact hL.1
        have d3 : I5 T 4 ≤ nI bs.length := by rw [eT5]; exact nI_le (Nat.le_refl _) (by omega)
        have ml := hMl i
        have sl : (if s.1 = none then 42 else s.2) ≤ 42 := cls s (hsv.imp id (fun q => q.1))
        have ec : (nI (if s.1 = none then 42 else s.2) ≤ nI (M i)) = ¬ (M i < s.2) := by
          rw [show (nI (if s.1 = none then 42 else s.2) ≤ nI (M i)) = ((if s.1 = none then 42 else s.2) ≤ M i) from propext (nI_leI (by omega) (by omega))]
          apply propext
          rcases hsv with g | g
          · rw [if_pos g.1, g.2]; omega
          · rw [if_neg g.2]; omega
        refine sX8_tellingHour_67 (u1 := nI (M i)) (u2 := 0) (P1 := fun I I' => I' = I) (P2 := fun _ _ => True) wT ?_ ?_ ?_ ?_ ?_ ?_ ?_ <;> intros <;> (first | exact absurd (by with_reducible assumption) d3 | exact absurd d3 (by with_reducible assumption) | skip)
        · rw [← hMg]; exact mostAlike_t wT hbl eT5 gv (fun j => by have := hgl j; omega)
        · rename_i I6 h6 q; subst h6
          rw [ec] at q
          rw [nI_1]
          exact ih (s, I6) ⟨by rw [lks, ← he, if_neg q], hsv, gF, gK⟩
        · rename_i I6 h6 q; subst h6
          rw [ec, Decidable.not_not] at q
          rw [nI_1]
          exact ih ((some i, M i), I6) ⟨by rw [lks, ← he, if_pos q], Or.inr ⟨ml, by simp⟩, gF, gK⟩
      · intro j I5 hj ⟨gF, gK, gv⟩ jh
        have eT5 : I5 T 4 = nI bs.length := by rw [gF T (by simp; omega)]; exact hL.1
        have d3 : ¬ I5 T 4 ≤ nI j := by rw [eT5]; exact nI_ge hj (by omega)
        obtain ⟨v, hv⟩ : ∃ v, bs[j]? = some v := ⟨bs[j], List.getElem?_eq_getElem hj⟩
        have hvb := hbi v (List.mem_of_getElem? hv)
        have ev : I5 (T + 3) (nI j).toNatClampNeg = zI v := by rw [nI_clamp (by omega), gF (T + 3) (by simp; omega)]; exact hL.2 j v hv
        have hq := qdeg_le κ wn (κ 54 + i)
        refine sX8_tellingHour_67 (u1 := 0) (u2 := nI (g j)) (P1 := fun _ _ => True) (P2 := fun I I' => Fr [27, 28, 29] I I' ∧ CK I' κ L dl pl ld lp) wT ?_ ?_ ?_ ?_ ?_ ?_ ?_ <;> intros <;> (first | exact absurd (by with_reducible assumption) d3 | exact absurd d3 (by with_reducible assumption) | skip)
        · exact vp_in_nI (by omega) (by decide)
        · rw [ev, nI_z (qdeg κ wn (κ 54 + i)), zI_add, ← hgi, hv, Option.getD_some, ← qcd_ac]
          exact finedBy_t w wL wl gK ho hhb wT ap hk hw (by omega) (by omega)
        · exact vp_in_nI (by omega) (by decide)
        · rename_i I6 h6
          rw [nI_1, nI_clamp (by omega)]
          refine jh _ ⟨(gF.tr (r3 := [27, 28, 29, T + 2]) h6.1 (by simp)).up (by simp), h6.2.dy ap (by omega), fun q hq => ?_⟩
          by_cases c : q = j
          · subst c; simp [up2]
          · simp only [up2, if_true, if_neg c]
            rw [h6.1 _ (by simp; omega)]; exact gv q (by omega)
end A
