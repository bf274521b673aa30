/-! the reference: what is told of wards, acts, counts; trays, images -/
section A
variable {l : Launch} {G : Gh} {k : Nat} {I : Nat → Nat → Int32} {J : Nat → Nat → Int64} {R : Nat → Nat → Option Nat} {S : Nat → Nat × Nat} {nx : Nat} {κ : Nat → Nat} {hb pb : Nat}
theorem max0_n {a b : Nat} (ha : a < 2 ^ 30) (hb : b < 2 ^ 30) : (if (0 : Int32) < nI a - nI b then nI a - nI b else (0 : Int32)) = nI (a - b) := by
  by_cases c : b < a
  · have h : (0 : Int32) < nI (a - b) := nI_lt (a := 0) (b := a - b) (by omega) (by omega)
    rw [pk_sub (by omega), if_pos h]
  · have : ¬ (0 : Int32) < nI a - nI b := by
      rw [nI_z, nI_z, zI_sub, fa_lt, zI_toInt (by omega), show (0 : Int32).toInt = 0 by decide]; omega
    rw [if_neg this, show a - b = 0 by omega]; rfl
def aWard (κ : Nat → Nat) (x y : Int32) : Nat × Int32 := if gL x (κ 1) then (if gR y 0 5 then (0, if y = 0 then nI (κ (56 + cN x)) else if y = 1 then nI (κ (61 + cN x)) else if y = 2 then nI (qlaid κ 7 (cN x) (κ 54)) else if y = 3 then nI (qlaid κ 22 (cN x) (κ 54)) else if y = 4 then nI (κ (17 + cN x) - κ 54) else nI (κ (32 + cN x) - κ 54)) else (2, 0)) else (1, 0)
theorem ward_r {x y : Int32} (w : MW R S nx) (hK : Kn I κ) (ho : qok hb pb κ) (hhb : hb < 2 ^ 29) : Cal l G (k + 2) 0 0 mX12_ward [.ref 43, .int x, .int y] (I, J, R, S, nx) (fun r μ' => r = .inl (some (.int ((aWard κ x y).2))) ∧ ∃ I', μ' = (I', J, R, S, nx) ∧ PU (aWard κ x y).1 κ I I') := by
  have h1 := ho.1
  have h54 : κ 54 ≤ hb := ho.2.2.2.2.2.2.2.2.2.2.1
  have nb := nb_wi (Int32.toInt64 x) (0 : Int64) (Int32.toInt64 ((v_X12_wards I) - (1 : Int32)))
  by_cases g1 : gL x (κ 1)
  · have c1 := cWt hK ho g1
    by_cases g2 : gR y 0 5
    · have c2 : ¬ v_X12_within (Int32.toInt64 y) (0 : Int64) (5 : Int64) = 0 := cRt g2 (by decide) (by decide)
      rw [show aWard κ x y = (0, if y = 0 then nI (κ (56 + cN x)) else if y = 1 then nI (κ (61 + cN x)) else if y = 2 then nI (qlaid κ 7 (cN x) (κ 54)) else if y = 3 then nI (qlaid κ 22 (cN x) (κ 54)) else if y = 4 then nI (κ (17 + cN x) - κ 54) else nI (κ (32 + cN x) - κ 54)) by unfold aWard; rw [if_pos g1, if_pos g2]]
      obtain ⟨a, rfl, ha, ea⟩ := g1.n (by omega)
      rw [ea]
      have hq := ho.2.2.2.2.2.2.2.1 a (by omega)
      have e : ∀ m : Nat, m + a < 2380 → I 44 ((nI m + nI a).toNatClampNeg) = nI (κ (m + a)) := fun m hm => by rw [nI_add, nI_clamp (by omega)]; exact hK _ hm
      have hi : ∀ m : Nat, m + a < 2380 → vp_in (nI m + nI a) 2380 := fun m hm => by rw [nI_add]; exact vp_in_nI (by omega) (by decide)
      have q17 : κ (17 + a) < 2 ^ 30 := by have := hq.2.2.1; rw [show 7 + 10 + a = 17 + a by omega] at this; omega
      have q32 : κ (32 + a) < 2 ^ 30 := by have := hq.2.2.2.2.2.1; rw [show 22 + 10 + a = 32 + a by omega] at this; omega
      have out : ∀ v : Int32, v = (if y = 0 then nI (κ (56 + a)) else if y = 1 then nI (κ (61 + a)) else if y = 2 then nI (qlaid κ 7 a (κ 54)) else if y = 3 then nI (qlaid κ 22 a (κ 54)) else if y = 4 then nI (κ (17 + a) - κ 54) else nI (κ (32 + a) - κ 54)) → ((Sum.inl (some (.int v)) : Res) = .inl (some (.int (if y = 0 then nI (κ (56 + a)) else if y = 1 then nI (κ (61 + a)) else if y = 2 then nI (qlaid κ 7 a (κ 54)) else if y = 3 then nI (qlaid κ 22 a (κ 54)) else if y = 4 then nI (κ (17 + a) - κ 54) else nI (κ (32 + a) - κ 54)))) ∧ ∃ I', ((up2 I 43 4 (0 : Int32), J, R, S, nx) : Mem) = (I', J, R, S, nx) ∧ PU 0 κ I I') := fun v hv => ⟨by rw [hv], _, rfl, PU.fail hK rfl⟩
      refine Cal.of rfl (by decide +kernel) (by simp) (Nat.le_of_ble_eq_true rfl) rfl (sX12_ward_0 w nb ?_ ?_ ?_ ?_ ?_ ?_ ?_ ?_ ?_ ?_ ?_ ?_ ?_ ?_ ?_ ?_ ?_ ?_) <;> intros <;> (first | exact absurd (by with_reducible assumption) c1 | exact absurd c1 (by with_reducible assumption) | exact absurd (by with_reducible assumption) c2 | exact absurd c2 (by with_reducible assumption) | skip)
      · exact hi 32 (by omega)
      · rename_i h3
        refine out _ ?_
        have hn : ∀ c : Int32, ¬ ((Int32.toInt c) < 0 ∨ 4 < (Int32.toInt c)) → ¬ y = c := fun c hc h => hc (h ▸ h3)
        rw [if_neg (hn 0 (by decide)), if_neg (hn 1 (by decide)), if_neg (hn 2 (by decide)), if_neg (hn 3 (by decide)), if_neg (hn 4 (by decide)), hK.h (i := 54) (by decide)]
        rw [show (32 : Int32) = nI 32 from rfl, e 32 (by omega)]; exact max0_n q32 (by omega)
      · exact hi 56 (by omega)
      · rename_i h3; exact out _ (by rw [if_pos h3]; exact e 56 (by omega))
      · exact hi 61 (by omega)
      · rename_i h3; exact out _ (by subst h3; exact e 61 (by omega))
      · exact hi 12 (by omega)
      · exact hi 17 (by omega)
      · exact hi 7 (by omega)
      · rename_i h3; refine out _ ?_; subst h3; rw [hK.h (by decide)]; exact laid_n (what := 7) hK.up4 (by omega) (Nat.lt_of_le_of_lt hq.2.1 (by omega)) (Nat.lt_of_le_of_lt hq.2.2.1 (by omega)) (by omega)
      · exact hi 27 (by omega)
      · exact hi 32 (by omega)
      · exact hi 22 (by omega)
      · rename_i h3; refine out _ ?_; subst h3; rw [hK.h (by decide)]; exact laid_n (what := 22) hK.up4 (by omega) (Nat.lt_of_le_of_lt hq.2.2.2.2.1 (by omega)) (Nat.lt_of_le_of_lt hq.2.2.2.2.2.1 (by omega)) (by omega)
      · exact hi 17 (by omega)
      · rename_i h3; refine out _ ?_; subst h3; rw [hK.h (i := 54) (by decide), show (17 : Int32) = nI 17 from rfl, e 17 (by omega)]; exact max0_n q17 (by omega)
    · have c2 : v_X12_within (Int32.toInt64 y) (0 : Int64) (5 : Int64) = 0 := cRf g2 (by decide) (by decide)
      rw [show aWard κ x y = (2, 0) by unfold aWard; rw [if_pos g1, if_neg g2]]
      refine Cal.of rfl (by decide +kernel) (by simp) (Nat.le_of_ble_eq_true rfl) rfl (sX12_ward_0 w nb ?_ ?_ ?_ ?_ ?_ ?_ ?_ ?_ ?_ ?_ ?_ ?_ ?_ ?_ ?_ ?_ ?_ ?_) <;> intros <;> (first | exact absurd (by with_reducible assumption) c1 | exact absurd c1 (by with_reducible assumption) | exact absurd (by with_reducible assumption) c2 | exact absurd c2 (by with_reducible assumption) | skip)
      exact ⟨rfl, _, rfl, PU.fail hK rfl⟩
  · have c1 := cWf hK ho g1
    rw [show aWard κ x y = (1, 0) by unfold aWard; rw [if_neg g1]]
    refine Cal.of rfl (by decide +kernel) (by simp) (Nat.le_of_ble_eq_true rfl) rfl (sX12_ward_0 w nb ?_ ?_ ?_ ?_ ?_ ?_ ?_ ?_ ?_ ?_ ?_ ?_ ?_ ?_ ?_ ?_ ?_ ?_) <;> intros <;> (first | exact absurd (by with_reducible assumption) c1 | exact absurd c1 (by with_reducible assumption) | skip)
    exact ⟨rfl, _, rfl, PU.fail hK rfl⟩
def aAct (κ : Nat → Nat) (x y : Int32) : Nat × Int32 := if gL x (κ 2) then (if gR y 0 4 then (0, if y = 0 then nI (κ (66 + cN x)) else if y = 1 then nI (κ (37 + cN x)) else if y = 2 then nI (κ (45 + cN x)) else if y = 3 then nI (κ (74 + cN x)) else if (κ 53).testBit (cN x) then 1 else 0) else (2, 0)) else (1, 0)
theorem act_r {x y : Int32} (w : MW R S nx) (hK : Kn I κ) (ho : qok hb pb κ) (hhb : hb < 2 ^ 29) : Cal l G (k + 2) 0 0 mX12_act [.ref 43, .int x, .int y] (I, J, R, S, nx) (fun r μ' => r = .inl (some (.int ((aAct κ x y).2))) ∧ ∃ I', μ' = (I', J, R, S, nx) ∧ PU (aAct κ x y).1 κ I I') := by
  have h2 := ho.2.1
  have h53 : κ 53 < 256 := ho.2.2.2.2.2.2.2.2.2.1
  have nb := nb_wi (Int32.toInt64 x) (0 : Int64) (Int32.toInt64 ((v_X12_acts I) - (1 : Int32)))
  by_cases g1 : gL x (κ 2)
  · have c1 := cAt hK ho g1
    by_cases g2 : gR y 0 4
    · have c2 : ¬ v_X12_within (Int32.toInt64 y) (0 : Int64) (4 : Int64) = 0 := cRt g2 (by decide) (by decide)
      rw [show aAct κ x y = (0, if y = 0 then nI (κ (66 + cN x)) else if y = 1 then nI (κ (37 + cN x)) else if y = 2 then nI (κ (45 + cN x)) else if y = 3 then nI (κ (74 + cN x)) else if (κ 53).testBit (cN x) then 1 else 0) by unfold aAct; rw [if_pos g1, if_pos g2]]
      obtain ⟨a, rfl, ha, ea⟩ := g1.n (by omega)
      rw [ea]
      have e : ∀ m : Nat, m + a < 2380 → I 44 ((nI m + nI a).toNatClampNeg) = nI (κ (m + a)) := fun m hm => by rw [nI_add, nI_clamp (by omega)]; exact hK _ hm
      have hi : ∀ m : Nat, m + a < 2380 → vp_in (nI m + nI a) 2380 := fun m hm => by rw [nI_add]; exact vp_in_nI (by omega) (by decide)
      have eh : v_X12_has (I 44 53) (nI a) = if (κ 53).testBit a then 1 else 0 := by rw [hK.h (by decide)]; exact has_n (by omega) (by omega)
      have out : ∀ v : Int32, v = (if y = 0 then nI (κ (66 + a)) else if y = 1 then nI (κ (37 + a)) else if y = 2 then nI (κ (45 + a)) else if y = 3 then nI (κ (74 + a)) else if (κ 53).testBit a then 1 else 0) → ((Sum.inl (some (.int v)) : Res) = .inl (some (.int (if y = 0 then nI (κ (66 + a)) else if y = 1 then nI (κ (37 + a)) else if y = 2 then nI (κ (45 + a)) else if y = 3 then nI (κ (74 + a)) else if (κ 53).testBit a then 1 else 0))) ∧ ∃ I', ((up2 I 43 4 (0 : Int32), J, R, S, nx) : Mem) = (I', J, R, S, nx) ∧ PU 0 κ I I') := fun v hv => ⟨by rw [hv], _, rfl, PU.fail hK rfl⟩
      have last : ((Int32.toInt y) < 0 ∨ 3 < (Int32.toInt y)) → (if y = 0 then nI (κ (66 + a)) else if y = 1 then nI (κ (37 + a)) else if y = 2 then nI (κ (45 + a)) else if y = 3 then nI (κ (74 + a)) else if (κ 53).testBit a then 1 else 0) = if (κ 53).testBit a then 1 else 0 := fun h3 => by
        rw [if_neg (fun h => absurd h3 (by rw [h]; decide)), if_neg (fun h => absurd h3 (by rw [h]; decide)), if_neg (fun h => absurd h3 (by rw [h]; decide)), if_neg (fun h => absurd h3 (by rw [h]; decide))]
      refine Cal.of rfl (by decide +kernel) (by simp) (Nat.le_of_ble_eq_true rfl) rfl (sX12_act_0 w nb ?_ ?_ ?_ ?_ ?_ ?_ ?_ ?_ ?_ ?_ ?_ ?_) <;> intros <;> (first | exact absurd (by with_reducible assumption) c1 | exact absurd c1 (by with_reducible assumption) | exact absurd (by with_reducible assumption) c2 | exact absurd c2 (by with_reducible assumption) | skip)
      · rename_i h3 h4; rw [eh, ifI] at h4; exact out _ (by rw [last h3, if_neg h4])
      · rename_i h3 h4; rw [eh, ifI, Decidable.not_not] at h4; exact out _ (by rw [last h3, if_pos h4])
      · exact hi 66 (by omega)
      · rename_i h3; exact out _ (by subst h3; exact e 66 (by omega))
      · exact hi 37 (by omega)
      · rename_i h3; exact out _ (by subst h3; exact e 37 (by omega))
      · exact hi 45 (by omega)
      · rename_i h3; exact out _ (by subst h3; exact e 45 (by omega))
      · exact hi 74 (by omega)
      · rename_i h3; exact out _ (by subst h3; exact e 74 (by omega))
    · have c2 : v_X12_within (Int32.toInt64 y) (0 : Int64) (4 : Int64) = 0 := cRf g2 (by decide) (by decide)
      rw [show aAct κ x y = (2, 0) by unfold aAct; rw [if_pos g1, if_neg g2]]
      refine Cal.of rfl (by decide +kernel) (by simp) (Nat.le_of_ble_eq_true rfl) rfl (sX12_act_0 w nb ?_ ?_ ?_ ?_ ?_ ?_ ?_ ?_ ?_ ?_ ?_ ?_) <;> intros <;> (first | exact absurd (by with_reducible assumption) c1 | exact absurd c1 (by with_reducible assumption) | exact absurd (by with_reducible assumption) c2 | exact absurd c2 (by with_reducible assumption) | skip)
      exact ⟨rfl, _, rfl, PU.fail hK rfl⟩
  · have c1 := cAf hK ho g1
    rw [show aAct κ x y = (1, 0) by unfold aAct; rw [if_neg g1]]
    refine Cal.of rfl (by decide +kernel) (by simp) (Nat.le_of_ble_eq_true rfl) rfl (sX12_act_0 w nb ?_ ?_ ?_ ?_ ?_ ?_ ?_ ?_ ?_ ?_ ?_ ?_) <;> intros <;> (first | exact absurd (by with_reducible assumption) c1 | exact absurd c1 (by with_reducible assumption) | skip)
    exact ⟨rfl, _, rfl, PU.fail hK rfl⟩
theorem fault_r {x : Int32} (w : MW R S nx) (hK : Kn I κ) : Cal l G k 0 0 mX12_fault [.ref 43, .int x] (I, J, R, S, nx) (fun r μ' => r = .inl (some (.int (if x = 0 then I 43 14 else if x = 1 then I 43 15 else -1))) ∧ ∃ I', μ' = (I', J, R, S, nx) ∧ PU 0 κ I I') := by
  refine Cal.of rfl (by decide +kernel) (by simp) (Nat.le_of_ble_eq_true rfl) rfl (sX12_fault_0 w ?_ ?_ ?_)
  · intro h1 h2; exact ⟨by rw [if_neg h1, if_neg h2], _, rfl, PU.fail hK rfl⟩
  · intro h1 h2; exact ⟨by rw [if_neg h1, if_pos h2], _, rfl, PU.fail hK rfl⟩
  · intro h1; exact ⟨by rw [if_pos h1], _, rfl, PU.fail hK rfl⟩
def aCount (κ : Nat → Nat) (tp x : Int32) : Int32 := if x = 0 then nI (κ 0) else if x = 1 then nI (κ 1) else if x = 2 then nI (κ 2) else if x = 3 then nI (qpop (qall κ)) else if x = 4 then nI (κ 54) else if x = 5 then nI (κ 55) else if x = 6 then nI (κ 6) else if x = 7 then nI (κ 5) else if x = 8 then tp else -1
theorem count_r {x : Int32} (w : MW R S nx) (hK : Kn I κ) (ho : qok hb pb κ) (hhb : hb < 2 ^ 29) : Cal l G (k + 2) 0 0 mX12_count [.ref 43, .int x] (I, J, R, S, nx) (fun r μ' => r = .inl (some (.int (aCount κ (I 43 6) x))) ∧ ∃ I', μ' = (I', J, R, S, nx) ∧ PU 0 κ I I') := by
  have out : ∀ v : Int32, v = aCount κ (I 43 6) x → ((Sum.inl (some (.int v)) : Res) = .inl (some (.int (aCount κ (I 43 6) x))) ∧ ∃ I', ((up2 I 43 4 (0 : Int32), J, R, S, nx) : Mem) = (I', J, R, S, nx) ∧ PU 0 κ I I') := fun v hv => ⟨by rw [hv], _, rfl, PU.fail hK rfl⟩
  refine Cal.of rfl (by decide +kernel) (by simp) (Nat.le_of_ble_eq_true rfl) rfl (sX12_count_0 (u1 := nI (qpop (qall κ))) (P1 := fun I I' => I' = I) w ?_ ?_ ?_ ?_ ?_ ?_ ?_ ?_ ?_ ?_ ?_)
  · intro h
    refine out _ ?_
    unfold aCount
    iterate 9 rw [if_neg (fun e => absurd h (by rw [e]; decide))]
  · intro h; subst h; exact out _ (hK.h (by decide))
  · intro h; subst h; exact out _ (wards_n hK.up4)
  · intro h; subst h; exact out _ (hK.up4.h (by decide))
  · intro h; rw [all_n hK.up4 ho]; exact (r_size (qall_lt ho)).eqI
  · intro h I1 h1; subst h1; subst h; exact out _ rfl
  · intro h; subst h; exact out _ (hK.h (by decide))
  · intro h; subst h; exact out _ (hK.h (by decide))
  · intro h; subst h; exact out _ (hK.h (by decide))
  · intro h; subst h; exact out _ (hK.h (by decide))
  · intro h; subst h; exact out _ rfl
/-- rows of trays alone -/
def TU (n : Nat) (I I' : Nat → Nat → Int32) : Prop := Ps [68, 69] I I' ∧ I' 43 4 = nI n ∧ I' 44 = I 44
def UT (J J' : Nat → Nat → Int64) : Prop := ∀ a, a ≠ 70 → J' a = J a
theorem UT.rf : UT J J := fun _ _ => rfl
theorem UT.up {J' : Nat → Nat → Int64} {i : Nat} {v : Int64} (h : UT J J') : UT J (up2 J' 70 i v) := fun a ha => by
  rw [← h a ha]; funext j; simp [up2, ha]
theorem TU.fail {n : Nat} {v : Int32} (hv : v = nI n) : TU n I (up2 I 43 4 v) := ⟨Ps.up43 (by decide), by simp [up2, hv], by funext j; simp [up2]⟩
theorem TU.ps {n : Nat} {I' : Nat → Nat → Int32} (h : PU n κ I I') (h2 : I' 44 = I 44) : TU n I I' := ⟨⟨fun a x y z => by
  by_cases c : a = 44
  · rw [c]; exact h2
  · exact h.1.1 a x (by simp [c]) z, h.1.2⟩, h.2.1, h2⟩
def aTray (τ tm : Nat → Nat) (tn : Nat → Nat → Int64) (x y z : Int32) : Nat × (Nat → Nat) × (Nat → Nat) × (Nat → Nat → Int64) := if gR x 0 3 then (if gR y 0 3 ∧ gR z 0 30 then (0, qset τ (cN x) (cN y + 1), qset tm (cN x) (cN z), fun t i => if t = cN x then 0 else tn t i) else (2, τ, tm, tn)) else (1, τ, tm, tn)
theorem tray_r {x y z : Int32} {τ tm : Nat → Nat} {tn : Nat → Nat → Int64} (w : MW R S nx) (hT : Tk I J τ tm tn) : Cal l G (k + 2) 0 0 mX12_tray [.ref 43, .int x, .int y, .int z] (I, J, R, S, nx) (fun r μ' => r = .inl none ∧ ∃ I' J', μ' = (I', J', R, S, nx) ∧ TU (aTray τ tm tn x y z).1 I I' ∧ UT J J' ∧ Tk I' J' (aTray τ tm tn x y z).2.1 (aTray τ tm tn x y z).2.2.1 (aTray τ tm tn x y z).2.2.2) := by
  have e : (v_X12_isTray x = 0) = ¬ gR x 0 3 := gR0 (by decide) (by decide)
  by_cases g1 : gR x 0 3
  · have c1 : ¬ v_X12_isTray x = 0 := by rw [e]; exact not_not_intro g1
    by_cases g2 : gR y 0 3
    · have c2 : ¬ v_X12_within (Int32.toInt64 y) (0 : Int64) (3 : Int64) = 0 := cRt g2 (by decide) (by decide)
      by_cases g3 : gR z 0 30
      · have c3 : ¬ v_X12_within (Int32.toInt64 z) (0 : Int64) (30 : Int64) = 0 := cRt g3 (by decide) (by decide)
        rw [show aTray τ tm tn x y z = (0, qset τ (cN x) (cN y + 1), qset tm (cN x) (cN z), fun t i => if t = cN x then 0 else tn t i) by unfold aTray; rw [if_pos g1, if_pos ⟨g2, g3⟩]]
        obtain ⟨a, rfl, _, ha, ea⟩ := g1.n (by omega)
        obtain ⟨b, rfl, _, hb, eb⟩ := g2.n (by omega)
        obtain ⟨c, rfl, _, hc, ec⟩ := g3.n (by omega)
        rw [ea, eb, ec]
        refine Cal.of rfl (by decide +kernel) (by simp) (Nat.le_of_ble_eq_true rfl) rfl (sX12_tray_0 w ?_ ?_ ?_ ?_ ?_ ?_) <;> intros <;> (first | exact absurd (by with_reducible assumption) c1 | exact absurd c1 (by with_reducible assumption) | exact absurd (by with_reducible assumption) c2 | exact absurd c2 (by with_reducible assumption) | exact absurd (by with_reducible assumption) c3 | exact absurd c3 (by with_reducible assumption) | skip)
        · exact vp_in_nI (by omega) (by decide)
        · exact vp_in_nI (by omega) (by decide)
        · rw [nI_clamp (by omega)]
          have hI : ∀ J1 : Nat → Nat → Int64, (∀ t, t < 4 → t ≠ a → ∀ i, i < 30 → J1 70 (30 * t + i) = J 70 (30 * t + i)) → (∀ i, i < 30 → J1 70 (30 * a + i) = 0) → Tk (up2 (up2 (up2 I 43 4 (0 : Int32)) 68 a (nI b)) 69 a (nI c)) J1 (qset τ a (b + 1)) (qset tm a c) (fun t i => if t = a then 0 else tn t i) := by
            intro J1 h1 h2 t ht
            obtain ⟨q1, q2, q3, q4, q5⟩ := hT t ht
            by_cases ct : t = a
            · subst ct
              simp only [up2, qset]
              refine ⟨by simp, by simp, by simp; omega, by simp; omega, fun i hi => ?_⟩
              simp; exact h2 i hi
            · simp only [up2, qset]
              refine ⟨by simp [ct]; exact q1, by simp [ct]; exact q2, by simp [ct]; exact q3, by simp [ct]; exact q4, fun i hi => ?_⟩
              simp [ct]; rw [h1 t ht ct i hi]; exact q5 i hi
          refine upto (W := fun i J1 => hX12_tray_69 l G k _ (nI a) (nI i) (up2 (up2 (up2 I 43 4 (0 : Int32)) 68 a (nI b)) 69 a (nI c), J1, R, S, nx)) (P := fun i J1 => UT J J1 ∧ (∀ t, t < 4 → t ≠ a → ∀ i, i < 30 → J1 70 (30 * t + i) = J 70 (30 * t + i)) ∧ (∀ j, j < i → J1 70 (30 * a + j) = 0)) 30 ?_ ?_ (i := 0) (Nat.zero_le _) ⟨UT.rf, fun _ _ _ _ _ => rfl, fun j hj => absurd hj (Nat.not_lt_zero j)⟩
          · intro J1 ⟨h1, h2, h3⟩
            have d1 : (30 : Int32) ≤ nI 30 := by decide
            refine sX12_tray_69 w ?_ ?_ ?_ <;> intros <;> (first | exact absurd (by with_reducible assumption) d1 | exact absurd d1 (by with_reducible assumption) | skip)
            refine ⟨rfl, _, _, rfl, ⟨⟨fun b x y z => ?_, fun f hf => ?_⟩, ?_, ?_⟩, h1, hI J1 h2 h3⟩
            · have n68 : b ≠ 68 := fun h => y (by rw [h]; decide)
              have n69 : b ≠ 69 := fun h => y (by rw [h]; decide)
              funext j; simp [up2, n68, n69, z]
            · have : f ≠ 4 := by omega
              simp [up2, this]
            · simp [up2]; rfl
            · funext j; simp [up2]
          · intro i J1 hi ⟨h1, h2, h3⟩ ih
            have d1 : ¬ (30 : Int32) ≤ nI i := nI_ge (b := 30) hi (by decide)
            have e30 : (30 : Int32) * nI a + nI i = nI (30 * a + i) := by rw [show (30 : Int32) = nI 30 from rfl, pk_mul, nI_add]
            refine sX12_tray_69 w ?_ ?_ ?_ <;> intros <;> (first | exact absurd (by with_reducible assumption) d1 | exact absurd d1 (by with_reducible assumption) | skip)
            · rw [e30]; exact vp_in_nI (by omega) (by decide)
            · rw [e30, nI_clamp (by omega), nI_1]
              refine ih _ ⟨h1.up, fun t ht ct j hj => ?_, fun j hj => ?_⟩
              · have : 30 * t + j ≠ 30 * a + i := by omega
                simp only [up2, if_true, if_neg this]; exact h2 t ht ct j hj
              · by_cases cj : j = i
                · subst cj; simp [up2]
                · have : 30 * a + j ≠ 30 * a + i := by omega
                  simp only [up2, if_true, if_neg this]; exact h3 j (by omega)
      · have c3 : v_X12_within (Int32.toInt64 z) (0 : Int64) (30 : Int64) = 0 := cRf g3 (by decide) (by decide)
        rw [show aTray τ tm tn x y z = (2, τ, tm, tn) by unfold aTray; rw [if_pos g1, if_neg (fun h => g3 h.2)]]
        refine Cal.of rfl (by decide +kernel) (by simp) (Nat.le_of_ble_eq_true rfl) rfl (sX12_tray_0 w ?_ ?_ ?_ ?_ ?_ ?_) <;> intros <;> (first | exact absurd (by with_reducible assumption) c1 | exact absurd c1 (by with_reducible assumption) | exact absurd (by with_reducible assumption) c2 | exact absurd c2 (by with_reducible assumption) | exact absurd (by with_reducible assumption) c3 | exact absurd c3 (by with_reducible assumption) | skip)
        exact ⟨rfl, _, _, rfl, TU.fail rfl, UT.rf, hT.up43⟩
    · have c2 : v_X12_within (Int32.toInt64 y) (0 : Int64) (3 : Int64) = 0 := cRf g2 (by decide) (by decide)
      rw [show aTray τ tm tn x y z = (2, τ, tm, tn) by unfold aTray; rw [if_pos g1, if_neg (fun h => g2 h.1)]]
      refine Cal.of rfl (by decide +kernel) (by simp) (Nat.le_of_ble_eq_true rfl) rfl (sX12_tray_0 w ?_ ?_ ?_ ?_ ?_ ?_) <;> intros <;> (first | exact absurd (by with_reducible assumption) c1 | exact absurd c1 (by with_reducible assumption) | exact absurd (by with_reducible assumption) c2 | exact absurd c2 (by with_reducible assumption) | skip)
      exact ⟨rfl, _, _, rfl, TU.fail rfl, UT.rf, hT.up43⟩
  · have c1 : v_X12_isTray x = 0 := by rw [e]; exact g1
    rw [show aTray τ tm tn x y z = (1, τ, tm, tn) by unfold aTray; rw [if_neg g1]]
    refine Cal.of rfl (by decide +kernel) (by simp) (Nat.le_of_ble_eq_true rfl) rfl (sX12_tray_0 w ?_ ?_ ?_ ?_ ?_ ?_) <;> intros <;> (first | exact absurd (by with_reducible assumption) c1 | exact absurd c1 (by with_reducible assumption) | skip)
    exact ⟨rfl, _, _, rfl, TU.fail rfl, UT.rf, hT.up43⟩
/-- a number cut to a sort -/
def qcut (s : Nat) (v : Int64) : Int64 := (v <<< (Int32.toInt64 ((64 : Int32) - ((8 : Int32) <<< (nI s &&& 31))) &&& 63)) >>> (Int32.toInt64 ((64 : Int32) - ((8 : Int32) <<< (nI s &&& 31))) &&& 63)
def tset (tn : Nat → Nat → Int64) (t i : Nat) (v : Int64) : Nat → Nat → Int64 := fun t' i' => if t' = t ∧ i' = i then v else tn t' i'
theorem cut_n {a i : Nat} {v : Int64} {τ tm : Nat → Nat} {tn : Nat → Nat → Int64} (hT : Tk I J τ tm tn) (ha : a < 4) (hi : i < 30) (h0 : τ a ≠ 0) : v_X12_cut I J (nI a) (nI i) v = qcut (τ a - 1) v ∧ UT J (j_X12_cut I J (nI a) (nI i) v) ∧ Tk I (j_X12_cut I J (nI a) (nI i) v) τ tm (tset tn a i (qcut (τ a - 1) v)) := by
  have e30 : (30 : Int32) * nI a + nI i = nI (30 * a + i) := by rw [show (30 : Int32) = nI 30 from rfl, pk_mul, nI_add]
  have e68 : I 68 (nI a).toNatClampNeg = nI (τ a - 1) := by rw [nI_clamp (by omega), (hT a ha).1, if_neg h0]
  have ej : j_X12_cut I J (nI a) (nI i) v = up2 J 70 (30 * a + i) (qcut (τ a - 1) v) := by
    unfold j_X12_cut qcut; rw [e30, e68, nI_clamp (by omega)]
  have ev : v_X12_cut I J (nI a) (nI i) v = (up2 J 70 (30 * a + i) (qcut (τ a - 1) v)) 70 (30 * a + i) := by
    unfold v_X12_cut qcut; rw [e30, e68, nI_clamp (by omega)]
  rw [ej]
  refine ⟨by rw [ev]; simp [up2], UT.rf.up, fun t ht => ?_⟩
  obtain ⟨q1, q2, q3, q4, q5⟩ := hT t ht
  refine ⟨q1, q2, q3, q4, fun j hj => ?_⟩
  unfold tset
  by_cases c : t = a ∧ j = i
  · obtain ⟨rfl, rfl⟩ := c; simp [up2]
  · have : 30 * t + j ≠ 30 * a + i := by omega
    rw [if_neg c]
    simp only [up2, if_true, if_neg this]; exact q5 j hj
def aWrite (τ tm : Nat → Nat) (tn : Nat → Nat → Int64) (x y : Int32) (v : Int64) : (Nat × Int64) × (Nat → Nat → Int64) := if gT τ x = 0 then (if gL y (tm (cN x)) then ((0, qcut (τ (cN x) - 1) v), tset tn (cN x) (cN y) (qcut (τ (cN x) - 1) v)) else ((3, 0), tn)) else ((gT τ x, 0), tn)
theorem write_r {x y : Int32} {v : Int64} {τ tm : Nat → Nat} {tn : Nat → Nat → Int64} (w : MW R S nx) (hT : Tk I J τ tm tn) : Cal l G (k + 3) 0 0 mX12_write [.ref 43, .int x, .int y, .long v] (I, J, R, S, nx) (fun r μ' => r = .inl (some (.long (aWrite τ tm tn x y v).1.2)) ∧ ∃ I' J', μ' = (I', J', R, S, nx) ∧ TU (aWrite τ tm tn x y v).1.1 I I' ∧ UT J J' ∧ Tk I' J' τ tm (aWrite τ tm tn x y v).2) := by
  have eT := gT_n (x := x) hT
  have nb := nb_wi (Int32.toInt64 x) (0 : Int64) (3 : Int64)
  have hle := gT_le τ x
  by_cases g : gT τ x = 0
  · have d1 : v_X12_trayFault I x ≤ 0 := by rw [eT, g]; decide
    have d1' : v_X12_trayFault I x = 0 := by rw [eT, g]; rfl
    obtain ⟨a, rfl, ha, ea, h0⟩ := gT0 g
    obtain ⟨_, h69, h30, _, _⟩ := hT a ha
    have e69 : I 69 (nI a).toNatClampNeg = nI (tm a) := by rw [nI_clamp (by omega)]; exact h69
    have eL : (v_X12_within (Int32.toInt64 y) (0 : Int64) (Int32.toInt64 (I 69 (nI a).toNatClampNeg - (1 : Int32))) = 0) = ¬ gL y (tm a) := by rw [e69, gLk y (by omega)]; exact propext ifI
    by_cases g2 : gL y (tm a)
    · have d2 : ¬ v_X12_within (Int32.toInt64 y) (0 : Int64) (Int32.toInt64 (I 69 (nI a).toNatClampNeg - (1 : Int32))) = 0 := by rw [eL]; exact not_not_intro g2
      rw [show aWrite τ tm tn (nI a) y v = ((0, qcut (τ a - 1) v), tset tn a (cN y) (qcut (τ a - 1) v)) by unfold aWrite; rw [if_pos g, ea, if_pos g2]]
      obtain ⟨b, rfl, hb, eb⟩ := g2.n (by omega)
      rw [eb]
      have e30 : (30 : Int32) * nI a + nI b = nI (30 * a + b) := by rw [show (30 : Int32) = nI 30 from rfl, pk_mul, nI_add]
      obtain ⟨k1, k2, k3⟩ := cut_n (v := v) (hT.up43 (f := 4) (v := v_X12_trayFault I (nI a))) ha (by omega : b < 30) h0
      refine Cal.of rfl (by decide +kernel) (by simp) (Nat.le_of_ble_eq_true rfl) rfl (sX12_write_0 w nb ?_ ?_ ?_ ?_ ?_ ?_ ?_ ?_) <;> intros <;> (first | exact absurd (by with_reducible assumption) d1 | exact absurd d1 (by with_reducible assumption) | exact absurd (by with_reducible assumption) d2 | exact absurd d2 (by with_reducible assumption) | skip)
      · exact vp_in_nI (by omega) (by decide)
      · exact vp_in_nI (by omega) (by decide)
      · exact vp_in_nI (by omega) (by decide)
      · rw [e30]; exact vp_in_nI (by omega) (by decide)
      · rw [e30]; exact vp_in_nI (by omega) (by decide)
      · exact ⟨by rw [k1], _, _, rfl, TU.fail (by rw [d1']; rfl), k2, k3⟩
    · have d2 : v_X12_within (Int32.toInt64 y) (0 : Int64) (Int32.toInt64 (I 69 (nI a).toNatClampNeg - (1 : Int32))) = 0 := by rw [eL]; exact g2
      rw [show aWrite τ tm tn (nI a) y v = ((3, 0), tn) by unfold aWrite; rw [if_pos g, ea, if_neg g2]]
      refine Cal.of rfl (by decide +kernel) (by simp) (Nat.le_of_ble_eq_true rfl) rfl (sX12_write_0 w nb ?_ ?_ ?_ ?_ ?_ ?_ ?_ ?_) <;> intros <;> (first | exact absurd (by with_reducible assumption) d1 | exact absurd d1 (by with_reducible assumption) | exact absurd (by with_reducible assumption) d2 | exact absurd d2 (by with_reducible assumption) | skip)
      · exact vp_in_nI (by omega) (by decide)
      · exact vp_in_nI (by omega) (by decide)
      · rw [d1']
        refine ⟨rfl, _, _, rfl, ?_, UT.rf, ?_⟩
        · unfold w_X12_fails; rw [up2_2]; exact TU.fail rfl
        · unfold w_X12_fails; rw [up2_2]; exact hT.up43
  · have d1 : ¬ v_X12_trayFault I x ≤ 0 := by rw [eT]; exact nI_nle (by omega) (by omega)
    rw [show aWrite τ tm tn x y v = ((gT τ x, 0), tn) by unfold aWrite; rw [if_neg g]]
    refine Cal.of rfl (by decide +kernel) (by simp) (Nat.le_of_ble_eq_true rfl) rfl (sX12_write_0 w nb ?_ ?_ ?_ ?_ ?_ ?_ ?_ ?_) <;> intros <;> (first | exact absurd (by with_reducible assumption) d1 | exact absurd d1 (by with_reducible assumption) | skip)
    · rename_i h; exact tr_b h
    · exact ⟨rfl, _, _, rfl, TU.fail eT, UT.rf, hT.up43⟩
def qcpy (κ : Nat → Nat) (s wn a : Nat) (tn : Nat → Nat → Int64) : Nat → Nat → Nat → Int64
  | 0 => tn
  | i + 1 => tset (qcpy κ s wn a tn i) a i (qcut s (lN (qdeg κ wn (κ 54 + i))))
def aCopy (κ τ tm : Nat → Nat) (tn : Nat → Nat → Int64) (x y : Int32) : (Nat × Int32) × (Nat → Nat → Int64) := if gR x 0 3 ∧ gL y (κ 1) then (if τ (cN x) = 0 then ((2, 0), tn) else ((0, nI (tm (cN x))), qcpy κ (τ (cN x) - 1) (cN y) (cN x) tn (tm (cN x)))) else ((1, 0), tn)
theorem copy_r {x y : Int32} {τ tm : Nat → Nat} {tn : Nat → Nat → Int64} (w : MW R S nx) (hK : Kn I κ) (ho : qok hb pb κ) (hhb : hb < 2 ^ 29) (hT : Tk I J τ tm tn) : Cal l G (k + 4) 0 0 mX12_copy [.ref 43, .int x, .int y] (I, J, R, S, nx) (fun r μ' => r = .inl (some (.int (aCopy κ τ tm tn x y).1.2)) ∧ ∃ I' J', μ' = (I', J', R, S, nx) ∧ TU (aCopy κ τ tm tn x y).1.1 I I' ∧ UT J J' ∧ Tk I' J' τ tm (aCopy κ τ tm tn x y).2) := by
  have e : (v_X12_isTray x = 0) = ¬ gR x 0 3 := gR0 (by decide) (by decide)
  have h1w := ho.1
  have h54 : κ 54 ≤ hb := ho.2.2.2.2.2.2.2.2.2.2.1
  by_cases g1 : gR x 0 3
  · have c1 : ¬ v_X12_isTray x = 0 := by rw [e]; exact not_not_intro g1
    by_cases g2 : gL y (κ 1)
    · have c2 := cWt hK ho g2
      obtain ⟨a, rfl, _, ha, ea⟩ := g1.n (by omega)
      obtain ⟨h68, h69, h30, hτ, _⟩ := hT a (by omega)
      have e68 : I 68 (nI a).toNatClampNeg = if τ a = 0 then -1 else nI (τ a - 1) := by rw [nI_clamp (by omega)]; exact h68
      by_cases g3 : τ a = 0
      · have c3 : I 68 (nI a).toNatClampNeg = (-1 : Int32) := by rw [e68, if_pos g3]
        rw [show aCopy κ τ tm tn (nI a) y = ((2, 0), tn) by unfold aCopy; rw [if_pos ⟨g1, g2⟩, ea, if_pos g3]]
        refine Cal.of rfl (by decide +kernel) (by simp) (Nat.le_of_ble_eq_true rfl) rfl (sX12_copy_0 w ?_ ?_ ?_ ?_ ?_) <;> intros <;> (first | exact absurd (by with_reducible assumption) c1 | exact absurd c1 (by with_reducible assumption) | exact absurd (by with_reducible assumption) c2 | exact absurd c2 (by with_reducible assumption) | exact absurd (by with_reducible assumption) c3 | exact absurd c3 (by with_reducible assumption) | skip)
        · exact vp_in_nI (by omega) (by decide)
        · exact ⟨rfl, _, _, rfl, TU.fail rfl, UT.rf, hT.up43⟩
      · have c3 : ¬ I 68 (nI a).toNatClampNeg = (-1 : Int32) := by rw [e68, if_neg g3]; exact nI_ne_m1 (by omega)
        rw [show aCopy κ τ tm tn (nI a) y = ((0, nI (tm a)), qcpy κ (τ a - 1) (cN y) a tn (tm a)) by unfold aCopy; rw [if_pos ⟨g1, g2⟩, ea, if_neg g3]]
        obtain ⟨b, rfl, hb1, eb⟩ := g2.n (by omega)
        rw [eb]
        refine Cal.of rfl (by decide +kernel) (by simp) (Nat.le_of_ble_eq_true rfl) rfl (sX12_copy_0 w ?_ ?_ ?_ ?_ ?_) <;> intros <;> (first | exact absurd (by with_reducible assumption) c1 | exact absurd c1 (by with_reducible assumption) | exact absurd (by with_reducible assumption) c2 | exact absurd c2 (by with_reducible assumption) | exact absurd (by with_reducible assumption) c3 | exact absurd c3 (by with_reducible assumption) | skip)
        · exact vp_in_nI (by omega) (by decide)
        · refine upto (W := fun i (s : (Nat → Nat → Int32) × (Nat → Nat → Int64)) => hX12_copy_50 l G k _ (nI a) (nI b) (nI i) (s.1, s.2, R, S, nx)) (P := fun i s => Fr [49, 50] (up2 I 43 4 (0 : Int32)) s.1 ∧ UT J s.2 ∧ Tk s.1 s.2 τ tm (qcpy κ (τ a - 1) b a tn i)) (tm a) ?_ ?_ (i := 0) (s := (up2 I 43 4 (0 : Int32), J)) (Nat.zero_le _) ⟨Fr.rf, UT.rf, hT.up43⟩
          · intro ⟨I1, J1⟩ ⟨hF, hU, hT1⟩
            dsimp only at hF hU hT1 ⊢
            have e69 : I1 69 (nI a).toNatClampNeg = nI (tm a) := by rw [nI_clamp (by omega)]; exact (hT1 a (by omega)).2.1
            have d1 : I1 69 (nI a).toNatClampNeg ≤ nI (tm a) := by rw [e69]; exact nI_le (Nat.le_refl _) (by omega)
            refine sX12_copy_50 (u1 := 0) (P1 := fun _ _ => True) w ?_ ?_ ?_ ?_ ?_ ?_ ?_ ?_ <;> intros <;> (first | exact absurd (by with_reducible assumption) d1 | exact absurd d1 (by with_reducible assumption) | skip)
            · exact vp_in_nI (by omega) (by decide)
            · exact vp_in_nI (by omega) (by decide)
            · exact ⟨by rw [e69], _, _, rfl, TU.ps (PU.ok rfl hF (by decide) (by decide) (hK.up4.fr hF (by decide))) (by rw [hF 44 (by decide)]; funext j; simp [up2]), hU, hT1⟩
          · intro i ⟨I1, J1⟩ hi ⟨hF, hU, hT1⟩ ih
            dsimp only at hF hU hT1 ⊢
            have e69 : I1 69 (nI a).toNatClampNeg = nI (tm a) := by rw [nI_clamp (by omega)]; exact (hT1 a (by omega)).2.1
            have d1 : ¬ I1 69 (nI a).toNatClampNeg ≤ nI i := by rw [e69]; exact nI_ge hi (by omega)
            have e30 : (30 : Int32) * nI a + nI i = nI (30 * a + i) := by rw [show (30 : Int32) = nI 30 from rfl, pk_mul, nI_add]
            have hK1 := hK.up4.fr hF (by decide)
            refine sX12_copy_50 (u1 := nI (qdeg κ b (κ 54 + i))) (P1 := fun I I' => Fr [49, 50] I I') w ?_ ?_ ?_ ?_ ?_ ?_ ?_ ?_ <;> intros <;> (first | exact absurd (by with_reducible assumption) d1 | exact absurd d1 (by with_reducible assumption) | skip)
            · exact vp_in_nI (by omega) (by decide)
            · rw [hK1.h (by decide), nI_add]; exact r_degreeIn w hK1 ho hhb (by omega) (by omega)
            · exact vp_in_nI (by omega) (by decide)
            · rw [e30]; exact vp_in_nI (by omega) (by decide)
            · rw [e30]; exact vp_in_nI (by omega) (by decide)
            · rename_i I2 h2
              have hT2 : Tk I2 J1 τ tm (qcpy κ (τ a - 1) b a tn i) := hT1.fr h2 (by decide)
              have hqd := qdeg_le κ b (κ 54 + i)
              obtain ⟨_, k2, k3⟩ := cut_n (v := lN (qdeg κ b (κ 54 + i))) hT2 (by omega : a < 4) (by omega : i < 30) g3
              rw [nI_1, show Int32.toInt64 (nI (qdeg κ b (κ 54 + i))) = lN (qdeg κ b (κ 54 + i)) from nI_l (by omega)]
              exact ih (I2, _) ⟨hF.tr h2 (by decide), fun z hz => (k2 z hz).trans (hU z hz), k3⟩
    · have c2 := cWf hK ho g2
      rw [show aCopy κ τ tm tn x y = ((1, 0), tn) by unfold aCopy; rw [if_neg (fun h => g2 h.2)]]
      refine Cal.of rfl (by decide +kernel) (by simp) (Nat.le_of_ble_eq_true rfl) rfl (sX12_copy_0 w ?_ ?_ ?_ ?_ ?_) <;> intros <;> (first | exact absurd (by with_reducible assumption) c1 | exact absurd c1 (by with_reducible assumption) | exact absurd (by with_reducible assumption) c2 | exact absurd c2 (by with_reducible assumption) | skip)
      exact ⟨rfl, _, _, rfl, TU.fail rfl, UT.rf, hT.up43⟩
  · have c1 : v_X12_isTray x = 0 := by rw [e]; exact g1
    rw [show aCopy κ τ tm tn x y = ((1, 0), tn) by unfold aCopy; rw [if_neg (fun h => g1 h.1)]]
    refine Cal.of rfl (by decide +kernel) (by simp) (Nat.le_of_ble_eq_true rfl) rfl (sX12_copy_0 w ?_ ?_ ?_ ?_ ?_) <;> intros <;> (first | exact absurd (by with_reducible assumption) c1 | exact absurd c1 (by with_reducible assumption) | skip)
    exact ⟨rfl, _, _, rfl, TU.fail rfl, UT.rf, hT.up43⟩
/-- images -/
def Im (I : Nat → Nat → Int32) (ι : Nat → Option (Nat → Nat)) : Prop := ∀ i, i < 3 → match ι i with
  | none => I 47 i = 0
  | some σ => I 47 i = 1 ∧ ∀ j, j < 2380 → I 46 (2380 * i + j) = nI (σ j)
def aImage (κ : Nat → Nat) (ι : Nat → Option (Nat → Nat)) (x : Int32) : Nat × (Nat → Option (Nat → Nat)) := if gR x 0 2 then (0, fun i => if i = cN x then some κ else ι i) else (1, ι)
def IU (n : Nat) (I I' : Nat → Nat → Int32) : Prop := Ps [46, 47] I I' ∧ I' 43 4 = nI n
theorem Im.up43 {f : Nat} {v : Int32} {ι : Nat → Option (Nat → Nat)} (h : Im I ι) : Im (up2 I 43 f v) ι := by
  intro i hi
  have := h i hi
  simpa [up2] using this
theorem image_r {x : Int32} {ι : Nat → Option (Nat → Nat)} (w : MW R S nx) (hK : Kn I κ) (hI : Im I ι) : Cal l G (k + 1) 0 0 mX12_image [.ref 43, .int x] (I, J, R, S, nx) (fun r μ' => r = .inl none ∧ ∃ I', μ' = (I', J, R, S, nx) ∧ IU (aImage κ ι x).1 I I' ∧ Im I' (aImage κ ι x).2) := by
  by_cases g1 : gR x 0 2
  · have c1 : ¬ v_X12_within (Int32.toInt64 x) (0 : Int64) (2 : Int64) = 0 := cRt g1 (by decide) (by decide)
    rw [show aImage κ ι x = (0, fun i => if i = cN x then some κ else ι i) by unfold aImage; rw [if_pos g1]]
    obtain ⟨a, rfl, _, ha, ea⟩ := g1.n (by omega)
    rw [ea]
    refine Cal.of rfl (by decide +kernel) (by simp) (Nat.le_of_ble_eq_true rfl) rfl (sX12_image_0 w ?_ ?_ ?_) <;> intros <;> (first | exact absurd (by with_reducible assumption) c1 | exact absurd c1 (by with_reducible assumption) | skip)
    · exact vp_in_nI (by omega) (by decide)
    · rw [nI_clamp (by omega)]
      refine upto (W := fun i I1 => hX12_image_38 l G k _ (nI a) (nI i) (I1, J, R, S, nx)) (P := fun i I1 => Fz [46, 47] [4] I I1 ∧ I1 43 4 = 0 ∧ I1 47 a = 1 ∧ (∀ t, t ≠ a → I1 47 t = I 47 t) ∧ (∀ j, j < i → I1 46 (2380 * a + j) = nI (κ j)) ∧ (∀ t j, t ≠ a → j < 2380 → I1 46 (2380 * t + j) = I 46 (2380 * t + j))) 2380 ?_ ?_ (i := 0) (Nat.zero_le _) ⟨(Fz.rf.uf (by decide)).up (by decide) (by decide), by simp [up2], by simp [up2], fun t ht => by simp [up2, ht], fun j hj => absurd hj (Nat.not_lt_zero j), fun t j ht hj => by simp [up2]⟩
      · intro I1 ⟨hF, h4, h47, h47', h46, h46'⟩
        have d1 : (2380 : Int32) ≤ nI 2380 := by decide
        refine sX12_image_38 w ?_ ?_ ?_ ?_ <;> intros <;> (first | exact absurd (by with_reducible assumption) d1 | exact absurd d1 (by with_reducible assumption) | skip)
        refine ⟨rfl, _, rfl, ⟨⟨fun b x y z => hF.1 b z y, fun f hf => hF.2 f (by simp; omega)⟩, h4⟩, fun t ht => ?_⟩
        by_cases ct : t = a
        · subst ct; simp only [if_true]; exact ⟨h47, h46⟩
        · simp only [if_neg ct]
          have := hI t ht
          rw [h47' t ct]
          cases hq : ι t with
          | none => rw [hq] at this; exact this
          | some σ => rw [hq] at this; exact ⟨this.1, fun j hj => by rw [h46' t j ct hj]; exact this.2 j hj⟩
      · intro i I1 hi ⟨hF, h4, h47, h47', h46, h46'⟩ ih
        have d1 : ¬ (2380 : Int32) ≤ nI i := nI_ge (b := 2380) hi (by decide)
        have e1 : (2380 : Int32) * nI a + nI i = nI (2380 * a + i) := by rw [show (2380 : Int32) = nI 2380 from rfl, pk_mul, nI_add]
        refine sX12_image_38 w ?_ ?_ ?_ ?_ <;> intros <;> (first | exact absurd (by with_reducible assumption) d1 | exact absurd d1 (by with_reducible assumption) | skip)
        · exact vp_in_nI (by omega) (by decide)
        · rw [e1]; exact vp_in_nI (by omega) (by decide)
        · rw [e1, nI_clamp (by omega), nI_clamp (by omega), nI_1]
          refine ih _ ⟨hF.up (by decide) (by decide), by simpa [up2] using h4, by simpa [up2] using h47, fun t ht => by simpa [up2] using h47' t ht, fun j hj => ?_, fun t j ht hj => ?_⟩
          · by_cases cj : j = i
            · subst cj
              simp only [up2, if_true]
              rw [hF.1 44 (by decide) (by decide)]; exact hK j hi
            · have : 2380 * a + j ≠ 2380 * a + i := by omega
              simp only [up2, if_true, if_neg this]; exact h46 j (by omega)
          · have : 2380 * t + j ≠ 2380 * a + i := by omega
            simp only [up2, if_true, if_neg this]; exact h46' t j ht hj
  · have c1 : v_X12_within (Int32.toInt64 x) (0 : Int64) (2 : Int64) = 0 := cRf g1 (by decide) (by decide)
    rw [show aImage κ ι x = (1, ι) by unfold aImage; rw [if_neg g1]]
    refine Cal.of rfl (by decide +kernel) (by simp) (Nat.le_of_ble_eq_true rfl) rfl (sX12_image_0 w ?_ ?_ ?_) <;> intros <;> (first | exact absurd (by with_reducible assumption) c1 | exact absurd c1 (by with_reducible assumption) | skip)
    exact ⟨rfl, _, rfl, ⟨Ps.up43 (by decide), by simp [up2]; rfl⟩, hI.up43⟩
def aRest (κ : Nat → Nat) (ι : Nat → Option (Nat → Nat)) (x : Int32) : Nat × (Nat → Nat) := if gR x 0 2 then (match ι (cN x) with | none => (2, κ) | some σ => (0, σ)) else (1, κ)
theorem restore_r {x : Int32} {ι : Nat → Option (Nat → Nat)} (w : MW R S nx) (hK : Kn I κ) (hI : Im I ι) : Cal l G (k + 1) 0 0 mX12_restore [.ref 43, .int x] (I, J, R, S, nx) (fun r μ' => r = .inl none ∧ ∃ I', μ' = (I', J, R, S, nx) ∧ PU (aRest κ ι x).1 (aRest κ ι x).2 I I') := by
  by_cases g1 : gR x 0 2
  · have c1 : ¬ v_X12_within (Int32.toInt64 x) (0 : Int64) (2 : Int64) = 0 := cRt g1 (by decide) (by decide)
    obtain ⟨a, rfl, _, ha, ea⟩ := g1.n (by omega)
    have hIa := hI a (by omega)
    cases hq : ι a with
    | none =>
      rw [show aRest κ ι (nI a) = (2, κ) by unfold aRest; rw [if_pos g1, ea, hq]]
      rw [hq] at hIa
      have c2 : I 47 (nI a).toNatClampNeg = 0 := by rw [nI_clamp (by omega)]; exact hIa
      refine Cal.of rfl (by decide +kernel) (by simp) (Nat.le_of_ble_eq_true rfl) rfl (sX12_restore_0 w ?_ ?_ ?_ ?_) <;> intros <;> (first | exact absurd (by with_reducible assumption) c1 | exact absurd c1 (by with_reducible assumption) | exact absurd (by with_reducible assumption) c2 | exact absurd c2 (by with_reducible assumption) | skip)
      · exact vp_in_nI (by omega) (by decide)
      · exact ⟨rfl, _, rfl, PU.fail hK rfl⟩
    | some σ =>
      rw [show aRest κ ι (nI a) = (0, σ) by unfold aRest; rw [if_pos g1, ea, hq]]
      rw [hq] at hIa
      have c2 : ¬ I 47 (nI a).toNatClampNeg = 0 := by rw [nI_clamp (by omega), hIa.1]; decide
      refine Cal.of rfl (by decide +kernel) (by simp) (Nat.le_of_ble_eq_true rfl) rfl (sX12_restore_0 w ?_ ?_ ?_ ?_) <;> intros <;> (first | exact absurd (by with_reducible assumption) c1 | exact absurd c1 (by with_reducible assumption) | exact absurd (by with_reducible assumption) c2 | exact absurd c2 (by with_reducible assumption) | skip)
      · exact vp_in_nI (by omega) (by decide)
      · refine upto (W := fun i I1 => hX12_restore_44 l G k _ (nI a) (nI i) (I1, J, R, S, nx)) (P := fun i I1 => Fr [44] (up2 I 43 4 (0 : Int32)) I1 ∧ ∀ j, j < i → I1 44 j = nI (σ j)) 2380 ?_ ?_ (i := 0) (Nat.zero_le _) ⟨Fr.rf, fun j hj => absurd hj (Nat.not_lt_zero j)⟩
        · intro I1 ⟨hF, h44⟩
          have d1 : (2380 : Int32) ≤ nI 2380 := by decide
          refine sX12_restore_44 w ?_ ?_ ?_ ?_ <;> intros <;> (first | exact absurd (by with_reducible assumption) d1 | exact absurd d1 (by with_reducible assumption) | skip)
          exact ⟨rfl, _, rfl, PU.ok rfl hF (by decide) (by decide) h44⟩
        · intro i I1 hi ⟨hF, h44⟩ ih
          have d1 : ¬ (2380 : Int32) ≤ nI i := nI_ge (b := 2380) hi (by decide)
          have e1 : (2380 : Int32) * nI a + nI i = nI (2380 * a + i) := by rw [show (2380 : Int32) = nI 2380 from rfl, pk_mul, nI_add]
          refine sX12_restore_44 w ?_ ?_ ?_ ?_ <;> intros <;> (first | exact absurd (by with_reducible assumption) d1 | exact absurd d1 (by with_reducible assumption) | skip)
          · rw [e1]; exact vp_in_nI (by omega) (by decide)
          · exact vp_in_nI (by omega) (by decide)
          · rw [e1, nI_clamp (by omega), nI_clamp (by omega), nI_1]
            refine ih _ ⟨hF.up (by decide), fun j hj => ?_⟩
            by_cases cj : j = i
            · subst cj
              simp only [up2, if_true]
              rw [hF 46 (by decide)]
              have := hIa.2 j hi
              simpa [up2] using this
            · simp only [up2, if_true, if_neg cj]; exact h44 j (by omega)
  · have c1 : v_X12_within (Int32.toInt64 x) (0 : Int64) (2 : Int64) = 0 := cRf g1 (by decide) (by decide)
    rw [show aRest κ ι x = (1, κ) by unfold aRest; rw [if_neg g1]]
    refine Cal.of rfl (by decide +kernel) (by simp) (Nat.le_of_ble_eq_true rfl) rfl (sX12_restore_0 w ?_ ?_ ?_ ?_) <;> intros <;> (first | exact absurd (by with_reducible assumption) c1 | exact absurd c1 (by with_reducible assumption) | skip)
    exact ⟨rfl, _, rfl, PU.fail hK rfl⟩
end A
