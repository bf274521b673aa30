/-! the reference: widening, the heaviest act -/
def qlo (f : Nat → Nat) : Nat → Nat
  | 0 => 99
  | i + 1 => if f i < qlo f i then f i else qlo f i
def qhi (f : Nat → Nat) : Nat → Nat
  | 0 => 0
  | i + 1 => if qhi f i < f i then f i else qhi f i
theorem qlo_le (f : Nat → Nat) : ∀ i, qlo f i ≤ 99
  | 0 => Nat.le_refl _
  | i + 1 => by unfold qlo; have := qlo_le f i; split <;> omega
theorem qhi_le {f : Nat → Nat} (hf : ∀ i, f i ≤ 99) : ∀ i, qhi f i ≤ 99
  | 0 => Nat.zero_le _
  | i + 1 => by unfold qhi; have := qhi_le hf i; have := hf i; split <;> omega
theorem qlo_s (f : Nat → Nat) (i : Nat) : qlo f (i + 1) = if f i < qlo f i then f i else qlo f i := rfl
theorem qhi_s (f : Nat → Nat) (i : Nat) : qhi f (i + 1) = if qhi f i < f i then f i else qhi f i := rfl
theorem max0 {a b : Nat} (ha : a < 2 ^ 30) (hb : b < 2 ^ 30) : (if (0 : Int32) < nI a - nI b then nI a - nI b else (0 : Int32)) = nI (a - b) := by
  rw [nI_z, nI_z, zI_sub]
  have e : ((0 : Int32) < zI ((a : Int) - b)) = (b < a) := by
    rw [fa_lt, zI_toInt (by omega), show (0 : Int32).toInt = 0 by decide]; exact propext (by omega)
  simp only [e]
  split
  · exact congrArg zI (show (a : Int) - b = ((a - b : Nat) : Int) by omega)
  · rw [show a - b = 0 by omega]; rfl
section A
variable {l : Launch} {G : Gh} {k : Nat} {I : Nat → Nat → Int32} {J : Nat → Nat → Int64} {R : Nat → Nat → Option Nat} {S : Nat → Nat × Nat} {nx : Nat} {κ : Nat → Nat} {hb pb : Nat}
def qdn (κ : Nat → Nat) (wn : Nat) : Nat → Nat := fun j => qdeg κ wn (κ 54 + j)
def aWiden (κ : Nat → Nat) (x1 x2 : Int32) : Nat × Int32 := if gL x1 (κ 2) ∧ gL x2 (κ 1) then (0, nI ((κ (37 + cN x1) - qlo (qdn κ (cN x2)) 24) + (qhi (qdn κ (cN x2)) 24 - κ (45 + cN x1)))) else (1, 0)
theorem widen_r {x1 x2 : Int32} (w : MW R S nx) (hK : Kn I κ) (ho : qok hb pb κ) (hhb : hb < 2 ^ 29) : Cal l G (k + 5) 0 0 mX12_widen [.ref 43, .int x1, .int x2] (I, J, R, S, nx) (fun r μ' => r = .inl (some (.int ((aWiden κ x1 x2).2))) ∧ ∃ I', μ' = (I', J, R, S, nx) ∧ PU (aWiden κ x1 x2).1 κ I I') := by
  have h1w := ho.1
  have h2w := ho.2.1
  have h54 : κ 54 ≤ hb := ho.2.2.2.2.2.2.2.2.2.2.1
  by_cases g1 : gL x1 (κ 2)
  · have c1 := cAt hK ho g1
    by_cases g2 : gL x2 (κ 1)
    · have c2 := cWt hK ho g2
      rw [show aWiden κ x1 x2 = (0, nI ((κ (37 + cN x1) - qlo (qdn κ (cN x2)) 24) + (qhi (qdn κ (cN x2)) 24 - κ (45 + cN x1)))) by unfold aWiden; rw [if_pos ⟨g1, g2⟩]]
      dsimp only
      obtain ⟨a, rfl, ha, ea⟩ := g1.n (by omega)
      obtain ⟨b, rfl, hb2, eb⟩ := g2.n (by omega)
      rw [ea, eb]
      obtain ⟨f, hf⟩ : ∃ f, qdn κ b = f := ⟨_, rfl⟩
      have hfi : ∀ i, qdeg κ b (κ 54 + i) = f i := fun i => congrFun hf i
      have hfl : ∀ i, f i ≤ 99 := fun i => by rw [← hfi]; exact qdeg_le _ _ _
      rw [hf]
      refine Cal.of rfl (by decide +kernel) (by simp) (Nat.le_of_ble_eq_true rfl) rfl (sX12_widen_0 (P1 := fun I I' => Fr [49, 50, 52] I I' ∧ laidD I' κ b (κ 54) 24) w ?_ ?_ ?_ ?_) <;> intros <;> (first | exact absurd (by with_reducible assumption) c1 | exact absurd c1 (by with_reducible assumption) | exact absurd (by with_reducible assumption) c2 | exact absurd c2 (by with_reducible assumption) | skip)
      · rw [hK.h (by decide)]; exact laysDegrees_r (n := 24) w hK.up4 ho hhb (by omega) (by omega) (by omega)
      · rename_i I1 h1
        have hK1 := hK.up4.fr h1.1 (by decide)
        have hA := ho.2.2.2.2.2.2.2.2.1 a (by omega)
        refine upto (σ := Unit) (W := fun i _ => hX12_widen_59 l G k _ (nI a) (nI (qlo f i)) (nI (qhi f i)) (nI i) (I1, J, R, S, nx)) (P := fun i _ => True) 24 ?_ ?_ (i := 0) (s := ()) (Nat.zero_le _) trivial
        · intro _ _
          have c3 : (24 : Int32) ≤ nI 24 := by decide
          have e1 : (37 : Int32) + nI a = nI (37 + a) := nI_add 37 _
          have e2 : (45 : Int32) + nI a = nI (45 + a) := nI_add 45 _
          have l1 := qlo_le f 24
          have l2 := qhi_le hfl 24
          refine sX12_widen_59 w ?_ ?_ ?_ ?_ ?_ ?_ <;> intros <;> (first | exact absurd (by with_reducible assumption) c3 | exact absurd c3 (by with_reducible assumption) | skip)
          · rw [e1]; exact vp_in_nI (by omega) (by decide)
          · rw [e2]; exact vp_in_nI (by omega) (by decide)
          · rw [e1, e2, nI_clamp (by omega), nI_clamp (by omega), hK1 _ (by omega), hK1 _ (by omega), max0 (by omega) (by omega), max0 (by omega) (by omega), nI_add]
            exact ⟨rfl, _, rfl, PU.ok rfl h1.1 (by decide) (by decide) hK1⟩
        · intro i _ hi _ ih
          have c3 : ¬ (24 : Int32) ≤ nI i := nI_ge (b := 24) hi (by decide)
          have l0 := hfl i
          have l1 := qlo_le f i
          have l2 := qhi_le hfl i
          have e52 : I1 52 (nI i).toNatClampNeg = nI (f i) := by rw [nI_clamp (by omega), ← hfi]; exact h1.2 i hi
          refine sX12_widen_59 w ?_ ?_ ?_ ?_ ?_ ?_ <;> intros <;> (first | exact absurd (by with_reducible assumption) c3 | exact absurd c3 (by with_reducible assumption) | skip)
          · exact vp_in_nI (by omega) (by decide)
          · exact vp_in_nI (by omega) (by decide)
          · rw [e52, nI_1]
            have x1 : (if nI (f i) < nI (qlo f i) then nI (f i) else nI (qlo f i)) = nI (qlo f (i + 1)) := by
              rw [qlo_s]; simp only [nI_ltI (show f i < 2 ^ 31 by omega) (show qlo f i < 2 ^ 31 by omega)]; split <;> rfl
            have x2 : (if nI (qhi f i) < nI (f i) then nI (f i) else nI (qhi f i)) = nI (qhi f (i + 1)) := by
              rw [qhi_s]; simp only [nI_ltI (show qhi f i < 2 ^ 31 by omega) (show f i < 2 ^ 31 by omega)]; split <;> rfl
            rw [x1, x2]; exact ih () trivial
    · have c2 := cWf hK ho g2
      rw [show aWiden κ x1 x2 = (1, 0) by unfold aWiden; rw [if_neg (fun h => g2 h.2)]]
      refine Cal.of rfl (by decide +kernel) (by simp) (Nat.le_of_ble_eq_true rfl) rfl (sX12_widen_0 (P1 := fun I I' => True) w ?_ ?_ ?_ ?_) <;> intros <;> (first | exact absurd (by with_reducible assumption) c1 | exact absurd c1 (by with_reducible assumption) | exact absurd (by with_reducible assumption) c2 | exact absurd c2 (by with_reducible assumption) | skip)
      exact ⟨rfl, _, rfl, PU.fail hK rfl⟩
  · have c1 := cAf hK ho g1
    rw [show aWiden κ x1 x2 = (1, 0) by unfold aWiden; rw [if_neg (fun h => g1 h.1)]]
    refine Cal.of rfl (by decide +kernel) (by simp) (Nat.le_of_ble_eq_true rfl) rfl (sX12_widen_0 (P1 := fun I I' => True) w ?_ ?_ ?_ ?_) <;> intros <;> (first | exact absurd (by with_reducible assumption) c1 | exact absurd c1 (by with_reducible assumption) | skip)
    exact ⟨rfl, _, rfl, PU.fail hK rfl⟩
/-- in how many hours of the day a kind is barred by some acts -/
def qbk (κ : Nat → Nat) (wn kd sm : Nat) : Nat → Bool := fun j => decide (qcode κ wn (qdeg κ wn (κ 54 + j)) (κ 54 + j) sm &&& qkind κ kd ≠ 0)
theorem barredBy_r {wn kd sm : Nat} (w : MW R S nx) (hK : Kn I κ) (ho : qok hb pb κ) (hhb : hb < 2 ^ 29) (hw : wn < 5) (hkd : kd < 2 ^ 31) (hs : sm < 2 ^ 31) (hD : laidD I κ wn (κ 54) 24) : Cal l G (k + 5) 0 0 mX12_barredBy [.ref 43, .int (nI wn), .int (nI kd), .int (nI sm)] (I, J, R, S, nx) (fun r μ' => r = .inl (some (.int (nI (fa_cnt (qbk κ wn kd sm) 24)))) ∧ ∃ I', μ' = (I', J, R, S, nx) ∧ Fr [49, 50] I I') := by
  have h54 : κ 54 ≤ hb := ho.2.2.2.2.2.2.2.2.2.2.1
  obtain ⟨p, hp⟩ : ∃ p, qbk κ wn kd sm = p := ⟨_, rfl⟩
  have hpi : ∀ i, qbk κ wn kd sm i = p i := fun i => congrFun hp i
  rw [hp]
  refine Cal.of rfl (by decide +kernel) (by simp) (Nat.le_of_ble_eq_true rfl) rfl (sX12_barredBy_0 (u1 := nI (qkind κ kd)) (P1 := fun I I' => I' = I) w (r_ofKind w hK ho hkd).eqI (fun I1 h => ?_))
  subst h
  refine upto (W := fun i I2 => hX12_barredBy_13 l G k _ (nI wn) (nI sm) (nI (qkind κ kd)) (nI (fa_cnt p i)) (nI i) (I2, J, R, S, nx)) (P := fun i I2 => Fr [49, 50] I1 I2) 24 ?_ ?_ (i := 0) (Nat.zero_le _) Fr.rf
  · intro I2 hF
    have c1 : (24 : Int32) ≤ nI 24 := by decide
    refine sX12_barredBy_13 (u1 := 0) (P1 := fun _ _ => True) w ?_ ?_ ?_ ?_ ?_ <;> intros <;> (first | exact absurd (by with_reducible assumption) c1 | exact absurd c1 (by with_reducible assumption) | skip)
    exact ⟨rfl, _, rfl, hF⟩
  · intro i I2 hi hF ih
    have hK2 := hK.fr hF (by decide)
    have c1 : ¬ (24 : Int32) ≤ nI i := nI_ge (b := 24) hi (by decide)
    have hq := qdeg_le κ wn (κ 54 + i)
    have e52 : I2 52 (nI i).toNatClampNeg = nI (qdeg κ wn (κ 54 + i)) := by rw [nI_clamp (by omega), hF 52 (by decide)]; exact hD i hi
    have hlt : qcode κ wn (qdeg κ wn (κ 54 + i)) (κ 54 + i) sm &&& qkind κ kd < 256 := Nat.and_lt_two_pow (n := 8) _ (qkind_lt ho kd)
    refine sX12_barredBy_13 (u1 := nI (qcode κ wn (qdeg κ wn (κ 54 + i)) (κ 54 + i) sm)) (P1 := fun I I' => Fr [49, 50] I I') w ?_ ?_ ?_ ?_ ?_ <;> intros <;> (first | exact absurd (by with_reducible assumption) c1 | exact absurd c1 (by with_reducible assumption) | skip)
    · exact vp_in_nI (by omega) (by decide)
    · rw [e52, hK2.h (by decide), nI_add]
      exact codeAt_r w hK2 ho hw (by omega) (by omega) hs
    · rename_i I3 h3 h0
      rw [fa_and] at h0
      have hq : p i = true := by rw [← hpi]; unfold qbk; simp only [decide_eq_true_eq]; exact fun hz => h0 (by rw [hz]; rfl)
      have := ih I3 (hF.tr h3 (by decide))
      rw [show fa_cnt p (i + 1) = fa_cnt p i + 1 from fa_cnt_yes hq] at this
      rw [nI_1, nI_1]; exact this
    · rename_i I3 h3 h0
      rw [fa_and] at h0
      have hz := (nI_eq (b := 0) (by omega) (by decide)).mp h0
      have hq : p i = false := by rw [← hpi]; unfold qbk; simp [hz]
      have := ih I3 (hF.tr h3 (by decide))
      rw [show fa_cnt p (i + 1) = fa_cnt p i from fa_cnt_no hq] at this
      rw [nI_1, show (0 : Int32) = nI 0 from rfl, nI_add]; exact this
/-- how many hours fewer are barred without an act -/
def qfew (κ : Nat → Nat) (wn a : Nat) : Int := (fa_cnt (qbk κ wn (κ (66 + a)) (qall κ)) 24 : Int) - fa_cnt (qbk κ wn (κ (66 + a)) (qall κ &&& (255 ^^^ 2 ^ a))) 24
def qhv (al : Nat) (f : Nat → Int) : Nat → Option Nat × Int
  | 0 => (none, 0)
  | i + 1 => if al.testBit i ∧ (qhv al f i).2 < f i then (some i, f i) else qhv al f i
theorem qhv_s (al : Nat) (f : Nat → Int) (i : Nat) : qhv al f (i + 1) = if al.testBit i ∧ (qhv al f i).2 < f i then (some i, f i) else qhv al f i := rfl
theorem qhv_b {al : Nat} {f : Nat → Int} (hf : ∀ i, -24 ≤ f i ∧ f i ≤ 24) : ∀ i, -24 ≤ (qhv al f i).2 ∧ (qhv al f i).2 ≤ 24
  | 0 => by simp [qhv]
  | i + 1 => by
    rw [qhv_s]
    split
    · exact hf i
    · exact qhv_b hf i
def aHeavy (κ : Nat → Nat) (x : Int32) : Nat × Int32 := if gL x (κ 1) then (0, jP (qhv (qall κ) (qfew κ (cN x)) (κ 2)).1) else (1, 0)
theorem acts_n (h : Kn I κ) : v_X12_acts I = nI (κ 2) := h 2 (by decide)
theorem heaviest_r {x : Int32} (w : MW R S nx) (hK : Kn I κ) (ho : qok hb pb κ) (hhb : hb < 2 ^ 29) : Cal l G (k + 6) 0 0 mX12_heaviest [.ref 43, .int x] (I, J, R, S, nx) (fun r μ' => r = .inl (some (.int ((aHeavy κ x).2))) ∧ ∃ I', μ' = (I', J, R, S, nx) ∧ PU (aHeavy κ x).1 κ I I') := by
  have h1w := ho.1
  have h2w := ho.2.1
  have h54 : κ 54 ≤ hb := ho.2.2.2.2.2.2.2.2.2.2.1
  by_cases g : gL x (κ 1)
  · have c1 := cWt4 (v := (0 : Int32)) hK ho g
    rw [show aHeavy κ x = (0, jP (qhv (qall κ) (qfew κ (cN x)) (κ 2)).1) by unfold aHeavy; rw [if_pos g]]
    dsimp only
    obtain ⟨b, rfl, hb2, eb⟩ := g.n (by omega)
    rw [eb]
    obtain ⟨f, hf⟩ : ∃ f, qfew κ b = f := ⟨_, rfl⟩
    have hfi : ∀ i, qfew κ b i = f i := fun i => congrFun hf i
    have hfb : ∀ i, -24 ≤ f i ∧ f i ≤ 24 := fun i => by
      rw [← hfi]; unfold qfew
      have := fa_cnt_le (qbk κ b (κ (66 + i)) (qall κ)) 24
      have := fa_cnt_le (qbk κ b (κ (66 + i)) (qall κ &&& (255 ^^^ 2 ^ i))) 24
      omega
    rw [hf]
    have hal := qall_lt ho
    refine Cal.of rfl (by decide +kernel) (by simp) (Nat.le_of_ble_eq_true rfl) rfl (sX12_heaviest_0 (P1 := fun I I' => Fr [49, 50, 52] I I' ∧ laidD I' κ b (κ 54) 24) w ?_ ?_ ?_) <;> intros <;> (first | exact absurd (by with_reducible assumption) c1 | exact absurd c1 (by with_reducible assumption) | skip)
    · rw [hK.h (by decide)]; exact laysDegrees_r (n := 24) w hK.up4 ho hhb (by omega) (by omega) (by omega)
    · rename_i I1 h1
      refine upto (W := fun i (s : (Option Nat × Int) × (Nat → Nat → Int32)) => hX12_heaviest_41 l G k _ (nI b) (jP s.1.1) (zI s.1.2) (nI i) (s.2, J, R, S, nx)) (P := fun i s => s.1 = qhv (qall κ) f i ∧ Fr [49, 50, 52] (up2 I 43 4 (0 : Int32)) s.2 ∧ laidD s.2 κ b (κ 54) 24) (κ 2) ?_ ?_ (i := 0) (s := ((none, 0), I1)) (Nat.zero_le _) ⟨rfl, h1.1, h1.2⟩
      · intro ⟨o, I2⟩ ⟨he, hF, hD⟩
        dsimp only at he hF hD ⊢
        have hK2 := hK.up4.fr hF (by decide)
        have c2 : v_X12_acts I2 ≤ nI (κ 2) := by rw [acts_n hK2]; exact nI_le (Nat.le_refl _) (by omega)
        refine sX12_heaviest_41 (u1 := 0) (u2 := 0) (P1 := fun _ _ => True) (P2 := fun _ _ => True) w ?_ ?_ ?_ ?_ ?_ ?_ ?_ ?_ <;> intros <;> (first | exact absurd (by with_reducible assumption) c2 | exact absurd c2 (by with_reducible assumption) | skip)
        exact ⟨by rw [he], _, rfl, PU.ok rfl hF (by decide) (by decide) hK2⟩
      · intro i ⟨o, I2⟩ hi ⟨he, hF, hD⟩ ih
        dsimp only at he hF hD ⊢
        have hK2 := hK.up4.fr hF (by decide)
        have c2 : ¬ v_X12_acts I2 ≤ nI i := by rw [acts_n hK2]; exact nI_ge hi (by omega)
        have eh : v_X12_has (v_X12_allActs I2) (nI i) = if (qall κ).testBit i then 1 else 0 := by rw [all_n hK2 ho]; exact has_n (by omega) (by omega)
        by_cases ht : (qall κ).testBit i = true
        · have c3 : ¬ v_X12_has (v_X12_allActs I2) (nI i) = 0 := by rw [eh, if_pos ht]; decide
          have e66 : (66 : Int32) + nI i = nI (66 + i) := nI_add 66 _
          have hkd := (ho.2.2.2.2.2.2.2.2.1 i (by omega)).2.2.1
          have ob := qhv_b (al := qall κ) hfb i
          rw [← he] at ob
          have fb := hfb i
          have es : nI (fa_cnt (qbk κ b (κ (66 + i)) (qall κ)) 24) - nI (fa_cnt (qbk κ b (κ (66 + i)) (qall κ &&& (255 ^^^ 2 ^ i))) 24) = zI (f i) := by rw [nI_z, nI_z, zI_sub, ← hfi]; rfl
          have elt : (zI o.2 < zI (f i)) = (o.2 < f i) := by rw [fa_lt, zI_toInt (by omega), zI_toInt (by omega)]
          refine sX12_heaviest_41 (u1 := nI (fa_cnt (qbk κ b (κ (66 + i)) (qall κ)) 24)) (u2 := nI (fa_cnt (qbk κ b (κ (66 + i)) (qall κ &&& (255 ^^^ 2 ^ i))) 24)) (P1 := fun I I' => Fr [49, 50] I I') (P2 := fun I I' => Fr [49, 50] I I') w ?_ ?_ ?_ ?_ ?_ ?_ ?_ ?_ <;> intros <;> (first | exact absurd (by with_reducible assumption) c2 | exact absurd c2 (by with_reducible assumption) | exact absurd (by with_reducible assumption) c3 | exact absurd c3 (by with_reducible assumption) | skip)
          · rw [e66]; exact vp_in_nI (by omega) (by decide)
          · rw [e66, nI_clamp (by omega), hK2 _ (by omega), all_n hK2 ho]
            exact barredBy_r w hK2 ho hhb (by omega) (by omega) (by omega) hD
          · rw [e66]; exact vp_in_nI (by omega) (by decide)
          · rename_i I3 h3
            have hK3 := hK2.fr h3 (by decide)
            rw [e66, nI_clamp (by omega), hK3 _ (by omega), all_n hK3 ho, shl_n (by omega), nt_and hal (Nat.pow_lt_pow_right (by decide) (by omega : i < 8))]
            exact barredBy_r w hK3 ho hhb (by omega) (by omega) (Nat.lt_of_le_of_lt Nat.and_le_left (by omega)) (fun q hq => by rw [h3 52 (by decide)]; exact hD q hq)
          · rename_i I3 h3 I4 h4 hl
            rw [es, elt] at hl
            rw [es, nI_1]
            have h34 : Fr [49, 50] I2 I4 := h3.tr h4 (by decide)
            exact ih ((some i, f i), I4) ⟨by rw [qhv_s, ← he, if_pos ⟨ht, hl⟩], hF.tr h34 (by decide), fun q hq => by show I4 52 q = _; rw [h34 52 (by decide)]; exact hD q hq⟩
          · rename_i I3 h3 I4 h4 hl
            rw [es, elt] at hl
            rw [nI_1]
            have h34 : Fr [49, 50] I2 I4 := h3.tr h4 (by decide)
            exact ih (o, I4) ⟨by rw [qhv_s, ← he, if_neg (fun h => hl h.2)], hF.tr h34 (by decide), fun q hq => by show I4 52 q = _; rw [h34 52 (by decide)]; exact hD q hq⟩
        · have c3 : v_X12_has (v_X12_allActs I2) (nI i) = 0 := by rw [eh, if_neg ht]
          refine sX12_heaviest_41 (u1 := 0) (u2 := 0) (P1 := fun _ _ => True) (P2 := fun _ _ => True) w ?_ ?_ ?_ ?_ ?_ ?_ ?_ ?_ <;> intros <;> (first | exact absurd (by with_reducible assumption) c2 | exact absurd c2 (by with_reducible assumption) | exact absurd (by with_reducible assumption) c3 | exact absurd c3 (by with_reducible assumption) | skip)
          rw [nI_1]
          exact ih (o, I2) ⟨by rw [qhv_s, ← he, if_neg (fun h => ht h.1)], hF, hD⟩
  · have c1 := cWf4 (v := (0 : Int32)) hK ho g
    rw [show aHeavy κ x = (1, 0) by unfold aHeavy; rw [if_neg g]]
    refine Cal.of rfl (by decide +kernel) (by simp) (Nat.le_of_ble_eq_true rfl) rfl (sX12_heaviest_0 (P1 := fun I I' => True) w ?_ ?_ ?_) <;> intros <;> (first | exact absurd (by with_reducible assumption) c1 | exact absurd c1 (by with_reducible assumption) | skip)
    exact ⟨rfl, _, rfl, PU.fail2 hK rfl⟩
end A
