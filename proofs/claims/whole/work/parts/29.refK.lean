/-! the reference: told deeds, seasons -/
theorem up2_2 {α : Type} {f : Nat → Nat → α} {a i : Nat} {u v : α} : up2 (up2 f a i u) a i v = up2 f a i v := by
  funext b j; unfold up2; split
  · split <;> rfl
  · rfl
theorem lN_of {x : Int64} (h : 0 ≤ x.toInt) (h2 : x.toInt < 2147483648) : x = lN x.toInt.toNat := by
  apply Int64.toInt_inj.mp
  rw [lN_toInt (by omega)]; omega
theorem gL64 (x : Int64) {n : Nat} (hn : n < 2 ^ 31) : v_X12_within x (0 : Int64) (Int32.toInt64 (nI n - (1 : Int32))) = if 0 ≤ x.toInt ∧ x.toInt < (n : Int) then 1 else 0 := by
  rw [wi_t, Int32.toInt_toInt64, show (0 : Int64).toInt = 0 by decide, show nI n - (1 : Int32) = zI ((n : Int) - 1) from zI_sub n 1, zI_toInt (by omega)]
  have : (x.toInt ≤ (n : Int) - 1) = (x.toInt < (n : Int)) := propext (by omega)
  simp only [this]
theorem Fr.wk {r1 r2 : List Nat} {I I' : Nat → Nat → Int32} (h : Fr r1 I I') (hs : ∀ a ∈ r1, a ∈ r2) : Fr r2 I I' := fun a ha => h a (fun g => ha (hs a g))
theorem Fr.tr {r1 r2 r3 : List Nat} {I I1 I2 : Nat → Nat → Int32} (h : Fr r1 I I1) (h2 : Fr r2 I1 I2) (hs : ∀ a ∈ r1 ++ r2, a ∈ r3) : Fr r3 I I2 := h.trans h2 (fun a ha => hs a (List.mem_append.mpr ha))
section A
variable {l : Launch} {G : Gh} {k : Nat} {I : Nat → Nat → Int32} {J : Nat → Nat → Int64} {R : Nat → Nat → Option Nat} {S : Nat → Nat × Nat} {nx : Nat} {κ : Nat → Nat} {hb pb : Nat}
theorem gW64 (x : Int64) (hK : Kn I κ) (ho : qok hb pb κ) : (v_X12_isWard I x = 0) = ¬ (0 ≤ x.toInt ∧ x.toInt < (κ 1 : Int)) := by
  have h1 : v_X12_wards I = nI (κ 1) := hK 1 (by decide)
  show (v_X12_within x (0 : Int64) (Int32.toInt64 (v_X12_wards I - (1 : Int32))) = 0) = _
  rw [h1, gL64 x (by have := ho.1; omega)]; exact propext ifI
theorem gA64 (x : Int64) (hK : Kn I κ) (ho : qok hb pb κ) : (v_X12_isAct I x = 0) = ¬ (0 ≤ x.toInt ∧ x.toInt < (κ 2 : Int)) := by
  have h1 : v_X12_acts I = nI (κ 2) := hK 2 (by decide)
  show (v_X12_within x (0 : Int64) (Int32.toInt64 (v_X12_acts I - (1 : Int32))) = 0) = _
  rw [h1, gL64 x (by have := ho.2.1; omega)]; exact propext ifI
theorem wiN (x : Int64) {a b : Nat} (ha : a < 2 ^ 31) (hb : b < 2 ^ 31) : (v_X12_within x (lN a) (lN b) = 0) = ¬ ((a : Int) ≤ x.toInt ∧ x.toInt ≤ (b : Int)) := by
  rw [wi_t, lN_toInt ha, lN_toInt hb]; exact propext ifI
theorem whyTold_n (x : Int64) (hK : Kn I κ) (ho : qok hb pb κ) : v_X12_whyTold I x = nI (qwhy κ x.toInt) := by
  have h1 := ho.1
  have h2 := ho.2.1
  have h53 : κ 53 < 256 := ho.2.2.2.2.2.2.2.2.2.1
  have e0 : (lg_cmp x (-1 : Int64) = 0) = (x.toInt = -1) := by rw [lg_cmp_eq]; exact propext (fa_eq64 _ _)
  have e1 : (v_X12_within x (0 : Int64) (9999 : Int64) = 0) = ¬ ((0 : Int) ≤ x.toInt ∧ x.toInt ≤ 9999) := wiN x (a := 0) (b := 9999) (by decide) (by decide)
  have e2 : (v_X12_within x (20000 : Int64) (20999 : Int64) = 0) = ¬ ((20000 : Int) ≤ x.toInt ∧ x.toInt ≤ 20999) := wiN x (a := 20000) (b := 20999) (by decide) (by decide)
  have e3 : (v_X12_within x (30000 : Int64) (30999 : Int64) = 0) = ¬ ((30000 : Int) ≤ x.toInt ∧ x.toInt ≤ 30999) := wiN x (a := 30000) (b := 30999) (by decide) (by decide)
  have e4 : (v_X12_within x (40000 : Int64) (40099 : Int64) = 0) = ¬ ((40000 : Int) ≤ x.toInt ∧ x.toInt ≤ 40099) := wiN x (a := 40000) (b := 40099) (by decide) (by decide)
  unfold v_X12_whyTold qwhy
  simp only [e0, e1, e2, e3, e4, gW64 _ hK ho, gA64 _ hK ho]
  by_cases c0 : x.toInt = -1
  · rw [if_pos c0, if_pos c0]; rfl
  · rw [if_neg c0, if_neg c0]
    by_cases c1 : (0 : Int) ≤ x.toInt ∧ x.toInt ≤ 9999
    · rw [if_neg (not_not_intro c1), if_pos c1]
      obtain ⟨n, hn, en⟩ : ∃ n, n ≤ 9999 ∧ x = lN n := ⟨x.toInt.toNat, by omega, lN_of c1.1 (by omega)⟩
      have f1 : (x / (100 : Int64)) - (x / (100 : Int64)) / (10 : Int64) * (10 : Int64) = lN (n / 100 % 10) := by
        rw [en, show (100 : Int64) = lN 100 from rfl, show (10 : Int64) = lN 10 from rfl, pk_lDiv (by omega) (by decide) (by decide), pk_lRem (by omega) (by decide) (by decide)]
      have f2 : x - x / (100 : Int64) * (100 : Int64) = lN (n % 100) := by
        rw [en, show (100 : Int64) = lN 100 from rfl, pk_lRem (by omega) (by decide) (by decide)]
      have f3 : x.toInt.toNat = n := by rw [en, lN_toInt (by omega)]; omega
      have f4 : (v_X12_within (lN (n % 100)) (1 : Int64) (24 : Int64) = 0) = ¬ ((1 : Int) ≤ ((n % 100 : Nat) : Int) ∧ ((n % 100 : Nat) : Int) ≤ 24) := by
        have := wiN (lN (n % 100)) (a := 1) (b := 24) (by decide) (by decide)
        rw [lN_toInt (by omega)] at this
        exact this
      rw [f1, f2, f3]
      simp only [f4]
      rw [lN_toInt (by omega)]
      by_cases c2 : n / 100 % 10 < κ 1
      · rw [if_neg (by omega)]
        by_cases c3 : 1 ≤ n % 100 ∧ n % 100 ≤ 24
        · rw [if_neg (by omega), if_pos ⟨c2, c3⟩]; rfl
        · rw [if_pos (by omega), if_neg (fun h => c3 h.2)]; rfl
      · rw [if_pos (by omega), if_neg (fun h => c2 h.1)]; rfl
    · rw [if_pos c1, if_neg c1]
      have mid : (20000 ≤ x.toInt ∧ x.toInt ≤ 20999) ∨ (30000 ≤ x.toInt ∧ x.toInt ≤ 30999) → (if ¬ (0 ≤ ((x - x / (10000 : Int64) * (10000 : Int64)) / (100 : Int64)).toInt ∧ ((x - x / (10000 : Int64) * (10000 : Int64)) / (100 : Int64)).toInt < (κ 1 : Int)) then (1 : Int32) else (if 0 < lg_cmp (x - x / (100 : Int64) * (100 : Int64)) (60 : Int64) then (1 : Int32) else 0)) = nI (if x.toInt.toNat % 10000 / 100 < κ 1 ∧ x.toInt.toNat % 100 ≤ 60 then 0 else 1) := by
        intro c2
        obtain ⟨n, hn, en⟩ : ∃ n, n ≤ 39999 ∧ x = lN n := ⟨x.toInt.toNat, by omega, lN_of (by omega) (by omega)⟩
        have f1 : (x - x / (10000 : Int64) * (10000 : Int64)) / (100 : Int64) = lN (n % 10000 / 100) := by
          rw [en, show (100 : Int64) = lN 100 from rfl, show (10000 : Int64) = lN 10000 from rfl, pk_lRem (by omega) (by decide) (by decide), pk_lDiv (by omega) (by decide) (by decide)]
        have f2 : x - x / (100 : Int64) * (100 : Int64) = lN (n % 100) := by
          rw [en, show (100 : Int64) = lN 100 from rfl, pk_lRem (by omega) (by decide) (by decide)]
        have f3 : x.toInt.toNat = n := by rw [en, lN_toInt (by omega)]; omega
        have f4 : (0 < lg_cmp (lN (n % 100)) (60 : Int64)) = (60 < n % 100) := by
          rw [lg_cmp_gt]; exact propext (lN_lt (a := 60) (by decide) (by omega))
        rw [f1, f2, f3]
        simp only [f4]
        rw [lN_toInt (by omega)]
        by_cases c3 : n % 10000 / 100 < κ 1
        · rw [if_neg (by omega)]
          by_cases c4 : n % 100 ≤ 60
          · rw [if_neg (by omega), if_pos ⟨c3, c4⟩]; rfl
          · rw [if_pos (by omega), if_neg (fun h => c4 h.2)]; rfl
        · rw [if_pos (by omega), if_neg (fun h => c3 h.1)]; rfl
      by_cases c2 : 20000 ≤ x.toInt ∧ x.toInt ≤ 20999
      · rw [if_neg (not_not_intro c2), if_pos (Or.inl c2), mid (Or.inl c2)]
      · rw [if_pos c2]
        by_cases c3 : 30000 ≤ x.toInt ∧ x.toInt ≤ 30999
        · rw [if_neg (not_not_intro c3), if_pos (Or.inr c3), mid (Or.inr c3)]
        · rw [if_pos c3, if_neg (show ¬ (((20000 : Int) ≤ x.toInt ∧ x.toInt ≤ 20999) ∨ ((30000 : Int) ≤ x.toInt ∧ x.toInt ≤ 30999)) from fun h => h.elim c2 c3)]
          by_cases c4 : 40000 ≤ x.toInt ∧ x.toInt ≤ 40099
          · rw [if_neg (not_not_intro c4)]
            obtain ⟨n, hn, en⟩ : ∃ n, (40000 ≤ n ∧ n ≤ 40099) ∧ x = lN n := ⟨x.toInt.toNat, by omega, lN_of (by omega) (by omega)⟩
            have f1 : x - (40000 : Int64) = lN (n - 40000) := by rw [en, show (40000 : Int64) = lN 40000 from rfl, lN_sub (by omega)]
            have f2 : x.toInt32 - (40000 : Int32) = nI (n - 40000) := by rw [en, lN_i, show (40000 : Int32) = nI 40000 from rfl, pk_sub (by omega)]
            have f3 : x.toInt = (n : Int) := by rw [en, lN_toInt (by omega)]
            rw [f1, f2, f3, lN_toInt (by omega), hK.h (by decide)]
            by_cases c5 : n - 40000 < κ 2
            · rw [if_neg (show ¬ ¬ ((0 : Int) ≤ ((n - 40000 : Nat) : Int) ∧ ((n - 40000 : Nat) : Int) < (κ 2 : Int)) by omega), if_pos (show (40000 : Int) ≤ (n : Int) ∧ (n : Int) < 40000 + (κ 2 : Int) by omega), has_n (by omega) (by omega)]
              simp only [ifI]
              rw [show ((n : Int)).toNat = n by omega]
              by_cases c6 : (κ 53).testBit (n - 40000) = true
              · rw [if_neg (not_not_intro c6), if_pos c6]; rfl
              · rw [if_pos c6, if_neg c6]; rfl
            · rw [if_pos (show ¬ ((0 : Int) ≤ ((n - 40000 : Nat) : Int) ∧ ((n - 40000 : Nat) : Int) < (κ 2 : Int)) by omega), if_neg (show ¬ ((40000 : Int) ≤ (n : Int) ∧ (n : Int) < 40000 + (κ 2 : Int)) by omega)]; rfl
          · rw [if_pos c4, if_neg (show ¬ ((40000 : Int) ≤ x.toInt ∧ x.toInt < 40000 + (κ 2 : Int)) by omega)]; rfl
theorem doesDeed_r {kd wn ls : Nat} (w : MW R S nx) (hK : Kn I κ) (ho : qok hb pb κ) (hhb : hb < 2 ^ 29) (hkd : kd < 2 ^ 31) (hw : wn < 5) (hls : 1 ≤ ls ∧ ls ≤ 24) : Cal l G (k + 7) 0 0 mX12_doesDeed [.ref 43, .int (nI kd), .int (nI wn), .int (nI ls)] (I, J, R, S, nx) (fun r μ' => r = .inl (some (.int (nI (qcost κ kd wn (κ 54) ls)))) ∧ ∃ I', μ' = (I', J, R, S, nx) ∧ Fr [44, 49, 50, 51, 52, 53, 54] I I' ∧ Kn I' (qdeed κ kd wn ls)) := by
  have hm := qms_le (κ := κ) hls.1
  refine Cal.of rfl (by decide +kernel) (by simp) (Nat.le_of_ble_eq_true rfl) rfl (sX12_doesDeed_0 (u2 := nI (qcost κ kd wn (κ 54) ls)) (P1 := fun I I' => Fr [49, 50, 51, 52, 53, 54] I I' ∧ laidR I' κ 0 kd wn (κ 54) ls 0) (P2 := fun I I' => I' = I) w ?_ ?_ ?_)
  · exact (laysHours_r (row := 0) w hK ho hhb hw (by omega) hkd (by omega)).mono (fun r μ' ⟨e, I', e2, h1, _, _, h4, _⟩ => ⟨e, I', e2, h1, h4⟩)
  · intro I1 hp
    have := fineOf_r (l := l) (G := G) (k := k + 6) (J := J) (row := 0) (n := 0) (ls := ls) (N := ls) (f := fun j => qfin κ (qcd κ kd wn (κ 54 + j) 0)) w (hK.fr hp.1 (by decide)) ho (by omega) (by omega) (by omega) (by omega) (fun j hj => (hp.2 j hj).1)
    simp only [Nat.zero_add] at this
    exact this
  · intro I1 hp I2 h2
    subst h2
    have hK2 := hK.fr hp.1 (by decide)
    refine ⟨rfl, _, rfl, ((hp.1.trans Fr.rf (r2 := []) (r3 := [44, 49, 50, 51, 52, 53, 54]) (by simp)).up (by decide)).up (by decide), ?_⟩
    exact (hK2.up (by rw [hK2.h (by decide), nI_add])).up (by rw [hK2.h (by decide), nI_add])
theorem does_r {v : Int} (w : MW R S nx) (hK : Kn I κ) (ho : qok hb pb κ) (hhb : hb < 2 ^ 29) (hv : qwhy κ v = 0) : Cal l G (k + 8) 0 0 mX12_does [.ref 43, .int (zI v)] (I, J, R, S, nx) (fun r μ' => r = .inl none ∧ ∃ I', μ' = (I', J, R, S, nx) ∧ Fr [44, 49, 50, 51, 52, 53, 54] I I' ∧ Kn I' (qdoes κ v)) := by
  have h1 := ho.1
  have h2 := ho.2.1
  unfold qwhy at hv
  unfold qdoes
  by_cases c1 : v = -1
  · rw [if_pos c1, c1]
    have d1 : zI (-1) = (-1 : Int32) := by decide
    refine Cal.of rfl (by decide +kernel) (by simp) (Nat.le_of_ble_eq_true rfl) rfl (sX12_does_0 (u1 := 0) (P1 := fun _ _ => True) w ?_ ?_ ?_ ?_ ?_ ?_ ?_ ?_ ?_ ?_ ?_ ?_ ?_ ?_) <;> intros <;> (first | exact absurd (by with_reducible assumption) d1 | exact absurd d1 (by with_reducible assumption) | skip)
    exact ⟨rfl, _, rfl, Fr.rf.up (by decide), hK.up (by rw [hK.h (by decide)]; exact nI_add _ 1)⟩
  · rw [if_neg c1] at hv ⊢
    have hr : 0 ≤ v ∧ v < 2147483648 := by
      refine Classical.byContradiction (fun hc => ?_)
      rw [if_neg (by omega), if_neg (by omega), if_neg (by omega)] at hv
      cases hv
    obtain ⟨n, rfl⟩ : ∃ n : Nat, v = (n : Int) := ⟨v.toNat, by omega⟩
    rw [show zI (n : Int) = nI n from rfl]
    simp only [Int.toNat_natCast] at hv ⊢
    have d1 : ¬ nI n = (-1 : Int32) := by
      rw [fa_eq, nI_toInt (by omega)]
      rw [show (-1 : Int32).toInt = -1 by decide]; omega
    by_cases c2 : (n : Int) < 20000
    · have d2 : ¬ (20000 : Int32) ≤ nI n := nI_ge (b := 20000) (by omega) (by decide)
      rw [if_pos c2]
      have hv2 : n / 100 % 10 < κ 1 ∧ 1 ≤ n % 100 ∧ n % 100 ≤ 24 := by
        refine Classical.byContradiction (fun hc => ?_)
        by_cases c3 : (0 : Int) ≤ n ∧ (n : Int) ≤ 9999
        · rw [if_pos c3, if_neg hc] at hv; cases hv
        · rw [if_neg c3, if_neg (by omega), if_neg (by omega)] at hv; cases hv
      have e1 : nI n / (1000 : Int32) = nI (n / 1000) := pk_div (d := 1000) (by omega) (by decide) (by decide)
      have e2 : nI n / (100 : Int32) - nI n / (100 : Int32) / (10 : Int32) * (10 : Int32) = nI (n / 100 % 10) := by
        rw [show nI n / (100 : Int32) = nI (n / 100) from pk_div (d := 100) (by omega) (by decide) (by decide)]
        exact pk_rem (d := 10) (by omega) (by decide) (by decide)
      have e3 : nI n - nI n / (100 : Int32) * (100 : Int32) = nI (n % 100) := pk_rem (d := 100) (by omega) (by decide) (by decide)
      refine Cal.of rfl (by decide +kernel) (by simp) (Nat.le_of_ble_eq_true rfl) rfl (sX12_does_0 (u1 := nI (qcost κ (n / 1000) (n / 100 % 10) (κ 54) (n % 100))) (P1 := fun I I' => Fr [44, 49, 50, 51, 52, 53, 54] I I' ∧ Kn I' (qdeed κ (n / 1000) (n / 100 % 10) (n % 100))) w ?_ ?_ ?_ ?_ ?_ ?_ ?_ ?_ ?_ ?_ ?_ ?_ ?_ ?_) <;> intros <;> (first | exact absurd (by with_reducible assumption) d1 | exact absurd d1 (by with_reducible assumption) | exact absurd (by with_reducible assumption) d2 | exact absurd d2 (by with_reducible assumption) | skip)
      · rw [e1, e2, e3]; exact doesDeed_r w hK ho hhb (by omega) (by omega) hv2.2
      · rename_i I1 h; exact ⟨rfl, _, rfl, h⟩
    · have d2 : (20000 : Int32) ≤ nI n := nI_le (a := 20000) (by omega) (by omega)
      rw [if_neg c2]
      by_cases c3 : (n : Int) < 40000
      · have d3 : ¬ (40000 : Int32) ≤ nI n := nI_ge (b := 40000) (by omega) (by decide)
        rw [if_pos c3]
        have hv2 : n % 10000 / 100 < κ 1 ∧ n % 100 ≤ 60 := by
          refine Classical.byContradiction (fun hc => ?_)
          rw [if_neg (by omega)] at hv
          by_cases c4 : ((20000 : Int) ≤ n ∧ (n : Int) ≤ 20999) ∨ ((30000 : Int) ≤ n ∧ (n : Int) ≤ 30999)
          · rw [if_pos c4, if_neg hc] at hv; cases hv
          · rw [if_neg c4, if_neg (by omega)] at hv; cases hv
        have e1 : (nI n - nI n / (10000 : Int32) * (10000 : Int32)) / (100 : Int32) = nI (n % 10000 / 100) := by
          rw [show nI n - nI n / (10000 : Int32) * (10000 : Int32) = nI (n % 10000) from pk_rem (d := 10000) (by omega) (by decide) (by decide)]
          exact pk_div (d := 100) (by omega) (by decide) (by decide)
        have e3 : nI n - nI n / (100 : Int32) * (100 : Int32) = nI (n % 100) := pk_rem (d := 100) (by omega) (by decide) (by decide)
        have bd : ∀ c, c < 40 → vp_in (nI c + nI (n % 10000 / 100)) 2380 := fun c hc => vinA c _ 2380 (by omega) (by decide)
        by_cases c4 : (n : Int) < 30000
        · have d4 : ¬ (30000 : Int32) ≤ nI n := nI_ge (b := 30000) (by omega) (by decide)
          rw [if_pos c4]
          refine Cal.of rfl (by decide +kernel) (by simp) (Nat.le_of_ble_eq_true rfl) rfl (sX12_does_0 (u1 := 0) (P1 := fun _ _ => True) w ?_ ?_ ?_ ?_ ?_ ?_ ?_ ?_ ?_ ?_ ?_ ?_ ?_ ?_) <;> intros <;> (first | exact absurd (by with_reducible assumption) d1 | exact absurd d1 (by with_reducible assumption) | exact absurd (by with_reducible assumption) d2 | exact absurd d2 (by with_reducible assumption) | exact absurd (by with_reducible assumption) d3 | exact absurd d3 (by with_reducible assumption) | exact absurd (by with_reducible assumption) d4 | exact absurd d4 (by with_reducible assumption) | skip)
          · rw [e1]; exact bd 7 (by decide)
          · rw [e1]; exact bd 12 (by decide)
          · rw [e1]; exact bd 17 (by decide)
          · rw [e1]; exact bd 17 (by decide)
          · rw [e1, e3]
            have hx := laysOn_n (what := 7) (wn := n % 10000 / 100) (dg := n % 100) (hrs := 6) hK (by omega) (by omega)
            exact ⟨rfl, _, rfl, hx.1.trans Fr.rf (r2 := []) (by simp), hx.2⟩
        · have d4 : (30000 : Int32) ≤ nI n := nI_le (a := 30000) (by omega) (by omega)
          rw [if_neg c4]
          refine Cal.of rfl (by decide +kernel) (by simp) (Nat.le_of_ble_eq_true rfl) rfl (sX12_does_0 (u1 := 0) (P1 := fun _ _ => True) w ?_ ?_ ?_ ?_ ?_ ?_ ?_ ?_ ?_ ?_ ?_ ?_ ?_ ?_) <;> intros <;> (first | exact absurd (by with_reducible assumption) d1 | exact absurd d1 (by with_reducible assumption) | exact absurd (by with_reducible assumption) d2 | exact absurd d2 (by with_reducible assumption) | exact absurd (by with_reducible assumption) d3 | exact absurd d3 (by with_reducible assumption) | exact absurd (by with_reducible assumption) d4 | exact absurd d4 (by with_reducible assumption) | skip)
          · rw [e1]; exact bd 22 (by decide)
          · rw [e1]; exact bd 27 (by decide)
          · rw [e1]; exact bd 32 (by decide)
          · rw [e1]; exact bd 32 (by decide)
          · rw [e1, e3]
            have hx := laysOn_n (what := 22) (wn := n % 10000 / 100) (dg := n % 100) (hrs := 6) hK (by omega) (by omega)
            exact ⟨rfl, _, rfl, hx.1.trans Fr.rf (r2 := []) (by simp), hx.2⟩
      · have d3 : (40000 : Int32) ≤ nI n := nI_le (a := 40000) (by omega) (by omega)
        rw [if_neg c3]
        have hv2 : n < 40000 + κ 2 := by
          refine Classical.byContradiction (fun hc => ?_)
          rw [if_neg (by omega), if_neg (by omega), if_neg (by omega)] at hv; cases hv
        refine Cal.of rfl (by decide +kernel) (by simp) (Nat.le_of_ble_eq_true rfl) rfl (sX12_does_0 (u1 := 0) (P1 := fun _ _ => True) w ?_ ?_ ?_ ?_ ?_ ?_ ?_ ?_ ?_ ?_ ?_ ?_ ?_ ?_) <;> intros <;> (first | exact absurd (by with_reducible assumption) d1 | exact absurd d1 (by with_reducible assumption) | exact absurd (by with_reducible assumption) d2 | exact absurd d2 (by with_reducible assumption) | exact absurd (by with_reducible assumption) d3 | exact absurd d3 (by with_reducible assumption) | skip)
        rw [show nI n - (40000 : Int32) = nI (n - 40000) from pk_sub (b := 40000) (by omega), shl_n (by omega)]
        exact ⟨rfl, _, rfl, Fr.rf.up (by decide), hK.up (by rw [hK.h (by decide), fa_or])⟩
end A
