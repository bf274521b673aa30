/-! the reference's small methods, in terms of the specification -/
theorem wi_eq (x lo hi : Int64) : v_X12_within x lo hi = if lo ≤ x ∧ x ≤ hi then 1 else 0 := by
  unfold v_X12_within
  simp only [lg_cmp_lt, lg_cmp_gt]
  have h1 := fa_lt64 x lo
  have h3 := fa_le64 lo x
  have h4 := fa_le64 x hi
  have h2 := fa_lt64 hi x
  by_cases c1 : x < lo
  · rw [if_pos c1, if_neg (fun h => by have := h3.mp h.1; have := h1.mp c1; omega)]
  · rw [if_neg c1]
    have e1 : lo ≤ x := h3.mpr (by have := (not_congr h1).mp c1; omega)
    by_cases c2 : hi < x
    · rw [if_pos c2, if_neg (fun h => by have := h4.mp h.2; have := h2.mp c2; omega)]
    · rw [if_neg c2, if_pos ⟨e1, h4.mpr (by have := (not_congr h2).mp c2; omega)⟩]
theorem bset_s (p : Nat → Bool) (n : Nat) : bset p (n + 1) = bset p n ||| (if p n then 2 ^ n else 0) := rfl
theorem qsum_s (f : Nat → Nat) (n : Nat) : qsum f (n + 1) = qsum f n + f n := rfl
theorem wi_n {a b c : Nat} (ha : a < 2 ^ 31) (hb : b < 2 ^ 31) (hc : c < 2 ^ 31) : v_X12_within (lN a) (lN b) (lN c) = if b ≤ a ∧ a ≤ c then 1 else 0 := by
  rw [wi_eq]
  simp only [lN_le hb ha, lN_le ha hc]
theorem has_n {s i : Nat} (hs : s < 2 ^ 31) (hi : i < 31) : v_X12_has (nI s) (nI i) = if s.testBit i then 1 else 0 := by
  unfold v_X12_has
  have h1 : nI i &&& 31 = nI i := by
    rw [show (31 : Int32) = nI (2 ^ 5 - 1) from rfl, fa_mask, Nat.mod_eq_of_lt (by omega)]
  have h2 : ((nI i).toBitVec.smod 32).toNat = i := by
    have : ∀ i, i < 31 → ((nI i).toBitVec.smod 32).toNat = i := by decide +kernel
    exact this i hi
  rw [h1, pk_shrN hs (nI i) i h2, show (1 : Int32) = nI (2 ^ 1 - 1) from rfl, fa_mask]
  have h3 : s / 2 ^ i % 2 ^ 1 < 2 := Nat.mod_lt _ (by decide)
  rw [Nat.testBit_eq_decide_div_mod_eq]
  by_cases h : s / 2 ^ i % 2 = 1
  · simp [h]
  · have h4 : ¬ nI (s / 2 ^ i % 2 ^ 1) = nI (2 ^ 1 - 1) := by
      rw [nI_eq (by omega) (by decide)]; simpa using h
    simp [h, h4]
theorem shl_n {i : Nat} (hi : i < 31) : (1 : Int32) <<< (nI i &&& 31) = nI (2 ^ i) := by
  have : ∀ i, i < 31 → (1 : Int32) <<< (nI i &&& 31) = nI (2 ^ i) := by decide +kernel
  exact this i hi
theorem vinA (c i N : Nat) (h : c + i < N) (hN : N < 2 ^ 31) : vp_in (nI c + nI i) N := by
  rw [nI_add]; exact vp_in_nI h hN
theorem clA (c i : Nat) (h : c + i < 2 ^ 31) : (nI c + nI i).toNatClampNeg = c + i := by
  rw [nI_add]; exact nI_clamp h
theorem ifI {p : Prop} [Decidable p] : ((if p then (1 : Int32) else 0) = 0) ↔ ¬ p := by
  by_cases h : p <;> simp [h]
section A
variable {l : Launch} {G : Gh} {k : Nat} {I : Nat → Nat → Int32} {J : Nat → Nat → Int64} {R : Nat → Nat → Option Nat} {S : Nat → Nat × Nat} {nx : Nat} {κ : Nat → Nat} {hb pb : Nat}
theorem kn_at (h : Kn I κ) (c i : Nat) (hi : c + i < 2380) : I 44 (nI c + nI i).toNatClampNeg = nI (κ (c + i)) := by
  rw [clA c i (by omega)]; exact h _ hi
theorem r_size {s : Nat} (hs : s < 256) : Cal l G k 0 0 mX12_size [.int (nI s)] (I, J, R, S, nx) (fun r μ' => r = .inl (some (.int (nI (qpop s)))) ∧ μ' = (I, J, R, S, nx)) := by
  refine Cal.of rfl (by decide +kernel) (by simp) (Nat.le_of_ble_eq_true rfl) rfl (sX12_size_0 ?_)
  have key : ∀ (t n : Nat), t < 256 → n + qpop t = qpop s → WP l G k 0 0 mX12_size (fun r μ' => r = .inl (some (.int (nI (qpop s)))) ∧ μ' = (I, J, R, S, nx)) 4 [none, some (.int (nI n)), some (.int (nI t))] [] (I, J, R, S, nx) 0 0 := by
    intro t
    induction t using Nat.strongRecOn with
    | ind t ih =>
      intro n ht hn
      refine sX12_size_4 (fun h0 => ?_) (fun h0 => ?_)
      · have : t = 0 := (nI_eq (by omega) (by decide)).mp (show nI t = nI 0 from h0)
        subst this
        rw [qpop_0] at hn
        exact ⟨by rw [← hn]; rfl, rfl⟩
      · have ht0 : t ≠ 0 := fun h => h0 (by rw [h]; rfl)
        obtain ⟨h1, h2⟩ := qpop_step t ht ht0
        have e1 : nI t &&& (nI t - (1 : Int32)) = nI (t &&& (t - 1)) := by
          rw [show (1 : Int32) = nI 1 from rfl, pk_sub (by omega), fa_and]
        rw [e1, show nI n + (1 : Int32) = nI (n + 1) from nI_1 n]
        exact ih _ h2 (n + 1) (by omega) (by omega)
  exact key s 0 hs (by omega)
theorem r_ofKind {kd : Nat} (w : MW R S nx) (hK : Kn I κ) (ho : qok hb pb κ) (hkd : kd < 2 ^ 31) : Cal l G (k + 1) 0 0 mX12_ofKind [.ref 43, .int (nI kd)] (I, J, R, S, nx) (fun r μ' => r = .inl (some (.int (nI (qkind κ kd)))) ∧ μ' = (I, J, R, S, nx)) := by
  refine Cal.of rfl (by decide +kernel) (by simp) (Nat.le_of_ble_eq_true rfl) rfl (sX12_ofKind_0 ?_)
  have ha : v_X12_acts I = nI (κ 2) := hK 2 (by decide)
  have ha8 : κ 2 ≤ 8 := ho.2.1
  have key : ∀ (d i : Nat), i + d = κ 2 → WP l G (k + 1) 0 0 mX12_ofKind (fun r μ' => r = .inl (some (.int (nI (qkind κ kd)))) ∧ μ' = (I, J, R, S, nx)) 4 [some (.ref 43), some (.int (nI kd)), some (.int (nI (bset (fun a => decide (κ (66 + a) = kd)) i))), some (.int (nI i))] [] (I, J, R, S, nx) 0 0 := by
    intro d
    induction d with
    | zero =>
      intro i hi
      refine sX12_ofKind_4 w (fun _ => ?_) (fun h => absurd ?_ h) (fun h => absurd ?_ h) (fun h => absurd ?_ h)
      · rw [show i = κ 2 by omega]; exact ⟨rfl, rfl⟩
      all_goals (rw [ha]; exact nI_le (by omega) (by omega))
    | succ d ih =>
      intro i hi
      have hk := kn_at hK 66 i (by omega)
      have hkl := (ho.2.2.2.2.2.2.2.2.1 i (by omega)).2.2.1
      refine sX12_ofKind_4 w (fun h => absurd (show nI (κ 2) ≤ nI i by rw [← ha]; exact h) (nI_ge (by omega) (by omega))) (fun _ => vinA 66 i 2380 (by omega) (by decide)) (fun _ h => ?_) (fun _ h => ?_)
      · rw [show (66 : Int32) = nI 66 from rfl, hk, nI_eq (by omega) hkd] at h
        have e : nI (bset (fun a => decide (κ (66 + a) = kd)) i) ||| (0 : Int32) = nI (bset (fun a => decide (κ (66 + a) = kd)) (i + 1)) := by
          rw [show (0 : Int32) = nI 0 from rfl, fa_or, bset_s]; simp [h]
        rw [e, show nI i + (1 : Int32) = nI (i + 1) from nI_1 i]
        exact ih (i + 1) (by omega)
      · rw [show (66 : Int32) = nI 66 from rfl, hk, nI_eq (by omega) hkd] at h
        have e : nI (bset (fun a => decide (κ (66 + a) = kd)) i) ||| (1 : Int32) <<< (nI i &&& 31) = nI (bset (fun a => decide (κ (66 + a) = kd)) (i + 1)) := by
          rw [shl_n (by omega), fa_or, bset_s]; simp [h]
        rw [e, show nI i + (1 : Int32) = nI (i + 1) from nI_1 i]
        exact ih (i + 1) (by omega)
  exact key (κ 2) 0 (by omega)
end A
