/-! the reference: repeal, hours, done, undo, judge, perform -/
section A
variable {l : Launch} {G : Gh} {k : Nat} {I : Nat → Nat → Int32} {J : Nat → Nat → Int64} {R : Nat → Nat → Option Nat} {S : Nat → Nat × Nat} {nx : Nat} {κ : Nat → Nat} {hb pb : Nat}
def kRep (κ : Nat → Nat) (x : Int32) : Nat → Nat := qrep (qkeep κ) (cN x)
def aRepeal (κ : Nat → Nat) (x : Int32) : (Nat × Int32) × (Nat → Nat) := if gL x (κ 2) then (if (κ 53).testBit (cN x) then ((2, 0), κ) else ((0, nI (qpop (qall (kRep κ x)))), kRep κ x)) else ((1, 0), κ)
theorem repeal_r {x : Int32} (w : MW R S nx) (hK : Kn I κ) (hs : sok hb pb κ) (hhb : hb < 2 ^ 28) : Cal l G (k + 2) 0 0 mX12_repeal [.ref 43, .int x] (I, J, R, S, nx) (fun r μ' => r = .inl (some (.int ((aRepeal κ x).1.2))) ∧ ∃ I', μ' = (I', J, R, S, nx) ∧ PU (aRepeal κ x).1.1 (aRepeal κ x).2 I I') := by
  have ho := hs.q
  have h2 := ho.2.1
  have h53 : κ 53 < 256 := ho.2.2.2.2.2.2.2.2.2.1
  by_cases g1 : gL x (κ 2)
  · have c1 := cAt hK ho g1
    have g1' := g1
    obtain ⟨a, rfl, ha, ea⟩ := g1.n (by omega)
    have e : v_X12_has (I 44 53) (nI a) = if (κ 53).testBit a then 1 else 0 := by rw [hK.h (by decide)]; exact has_n (by omega) (by omega)
    by_cases g2 : (κ 53).testBit a = true
    · have c2 : ¬ v_X12_has (I 44 53) (nI a) = 0 := by rw [e, if_pos g2]; decide
      rw [show aRepeal κ (nI a) = ((2, 0), κ) by unfold aRepeal; rw [if_pos g1', ea, if_pos g2]]
      refine Cal.of rfl (by decide +kernel) (by simp) (Nat.le_of_ble_eq_true rfl) rfl (sX12_repeal_0 (u2 := 0) (P1 := fun _ _ => True) (P2 := fun _ _ => True) w ?_ ?_ ?_ ?_ ?_) <;> intros <;> (first | exact absurd (by with_reducible assumption) c1 | exact absurd c1 (by with_reducible assumption) | exact absurd (by with_reducible assumption) c2 | exact absurd c2 (by with_reducible assumption) | skip)
      exact ⟨rfl, _, rfl, PU.fail hK rfl⟩
    · have c2 : v_X12_has (I 44 53) (nI a) = 0 := by rw [e, if_neg g2]
      rw [show aRepeal κ (nI a) = ((0, nI (qpop (qall (kRep κ (nI a))))), kRep κ (nI a)) by unfold aRepeal; rw [if_pos g1', ea, if_neg g2]]
      unfold kRep
      rw [ea]
      have hL := hs.keep.rep (a := a) (by omega)
      have kx : ∀ I1, Kn I1 (qkeep κ) → Kn (up2 I1 44 53 (I1 44 53 ||| (1 : Int32) <<< (nI a &&& 31))) (qrep (qkeep κ) a) := fun I1 h => h.up (by rw [h.h (by decide), shl_n (by omega), fa_or])
      refine Cal.of rfl (by decide +kernel) (by simp) (Nat.le_of_ble_eq_true rfl) rfl (sX12_repeal_0 (u2 := nI (qpop (qall (qrep (qkeep κ) a)))) (P1 := fun I I' => Fr [44] I I' ∧ Kn I' (qkeep κ)) (P2 := fun I I' => I' = I) w ?_ ?_ ?_ ?_ ?_) <;> intros <;> (first | exact absurd (by with_reducible assumption) c1 | exact absurd c1 (by with_reducible assumption) | exact absurd (by with_reducible assumption) c2 | exact absurd c2 (by with_reducible assumption) | skip)
      · exact keeps_r w hK.up4 hs.2.1
      · rename_i I1 h
        rw [all_n (kx I1 h.2) hL.q]
        exact (r_size (qall_lt hL.q)).eqI
      · rename_i I1 h I2 h2
        subst h2
        exact ⟨rfl, _, rfl, PU.ok rfl (h.1.up (by decide)) (by decide) (by decide) (kx I1 h.2)⟩
  · have c1 := cAf hK ho g1
    rw [show aRepeal κ x = ((1, 0), κ) by unfold aRepeal; rw [if_neg g1]]
    refine Cal.of rfl (by decide +kernel) (by simp) (Nat.le_of_ble_eq_true rfl) rfl (sX12_repeal_0 (u2 := 0) (P1 := fun _ _ => True) (P2 := fun _ _ => True) w ?_ ?_ ?_ ?_ ?_) <;> intros <;> (first | exact absurd (by with_reducible assumption) c1 | exact absurd c1 (by with_reducible assumption) | skip)
    exact ⟨rfl, _, rfl, PU.fail hK rfl⟩
theorem PU.fail2 {n : Nat} {v : Int32} (hK : Kn I κ) (hv : v = nI n) : PU n κ I (w_X12_fails (up2 I 43 4 (0 : Int32)) v) := by
  unfold w_X12_fails; rw [up2_2]; exact PU.fail hK hv
def aHours (κ : Nat → Nat) (x : Int32) : (Nat × Int32) × (Nat → Nat) := if gR x 1 99 then ((0, nI (κ 54 + cN x)), qhour (qkeep κ) (cN x)) else ((1, 0), κ)
theorem hours_r {x : Int32} (w : MW R S nx) (hK : Kn I κ) (hs : sok hb pb κ) (hhb : hb < 2 ^ 28) : Cal l G (k + 1) 0 0 mX12_hours [.ref 43, .int x] (I, J, R, S, nx) (fun r μ' => r = .inl (some (.int ((aHours κ x).1.2))) ∧ ∃ I', μ' = (I', J, R, S, nx) ∧ PU (aHours κ x).1.1 (aHours κ x).2 I I') := by
  by_cases g : gR x 1 99
  · have c1 : ¬ v_X12_within (Int32.toInt64 x) (1 : Int64) (99 : Int64) = 0 := cRt g (by decide) (by decide)
    rw [show aHours κ x = ((0, nI (κ 54 + cN x)), qhour (qkeep κ) (cN x)) by unfold aHours; rw [if_pos g]]
    obtain ⟨a, rfl, _, ha, ea⟩ := g.n (by omega)
    rw [ea]
    have e54 : qkeep κ 54 = κ 54 := qkeep_low (by decide) (by decide)
    refine Cal.of rfl (by decide +kernel) (by simp) (Nat.le_of_ble_eq_true rfl) rfl (sX12_hours_0 (P1 := fun I I' => Fr [44] I I' ∧ Kn I' (qkeep κ)) w ?_ ?_ ?_) <;> intros <;> (first | exact absurd (by with_reducible assumption) c1 | exact absurd c1 (by with_reducible assumption) | skip)
    · exact keeps_r w hK.up4 hs.2.1
    · rename_i I1 h
      refine ⟨by rw [h.2.h (by decide), nI_add, e54], _, rfl, PU.ok rfl (h.1.up (by decide)) (by decide) (by decide) (h.2.up (by rw [h.2.h (by decide), nI_add]))⟩
  · have c1 : v_X12_within (Int32.toInt64 x) (1 : Int64) (99 : Int64) = 0 := cRf g (by decide) (by decide)
    rw [show aHours κ x = ((1, 0), κ) by unfold aHours; rw [if_neg g]]
    refine Cal.of rfl (by decide +kernel) (by simp) (Nat.le_of_ble_eq_true rfl) rfl (sX12_hours_0 (P1 := fun _ _ => True) w ?_ ?_ ?_) <;> intros <;> (first | exact absurd (by with_reducible assumption) c1 | exact absurd c1 (by with_reducible assumption) | skip)
    exact ⟨rfl, _, rfl, PU.fail2 hK rfl⟩
def kDone (κ : Nat → Nat) (x1 x2 x3 : Int32) : Nat → Nat := qdeed (qkeep κ) (cN x1) (cN x2) (cN x3)
def aDone (κ : Nat → Nat) (x1 x2 x3 : Int32) : (Nat × Int32) × (Nat → Nat) := if gD κ x1 x2 0 x3 = 0 then ((0, nI (qcost (qkeep κ) (cN x1) (cN x2) (κ 54) (cN x3))), kDone κ x1 x2 x3) else ((gD κ x1 x2 0 x3, 0), κ)
theorem done_r {x1 x2 x3 : Int32} (w : MW R S nx) (hK : Kn I κ) (hs : sok hb pb κ) (hhb : hb < 2 ^ 28) : Cal l G (k + 8) 0 0 mX12_done [.ref 43, .int x1, .int x2, .int x3] (I, J, R, S, nx) (fun r μ' => r = .inl (some (.int ((aDone κ x1 x2 x3).1.2))) ∧ ∃ I', μ' = (I', J, R, S, nx) ∧ PU (aDone κ x1 x2 x3).1.1 (aDone κ x1 x2 x3).2 I I') := by
  have ho := hs.q
  obtain ⟨o1, o2⟩ := out_n (x1 := x1) (x2 := x2) (x3 := 0) (x4 := x3) hK ho
  by_cases g : gD κ x1 x2 0 x3 = 0
  · rw [show aDone κ x1 x2 x3 = ((0, nI (qcost (qkeep κ) (cN x1) (cN x2) (κ 54) (cN x3))), kDone κ x1 x2 x3) by unfold aDone; rw [if_pos g]]
    unfold kDone
    rw [if_pos g] at o1
    rw [g] at o2
    obtain ⟨a, b, c, d, rfl, rfl, _, rfl, ha, hb1, hb2, hc, hd1, hd, ea, eb, ec, ed⟩ := gD0 ho g
    rw [ea, eb, ed]
    have e54 : qkeep κ 54 = κ 54 := qkeep_low (by decide) (by decide)
    refine Cal.of rfl (by decide +kernel) (by simp) (Nat.le_of_ble_eq_true rfl) rfl (sX12_done_0 (u2 := nI (qcost (qkeep κ) a b (κ 54) d)) (P1 := fun I I' => Fr [44] I I' ∧ Kn I' (qkeep κ)) (P2 := fun I I' => Fr [44, 49, 50, 51, 52, 53, 54] I I' ∧ Kn I' (qdeed (qkeep κ) a b d)) w ?_ ?_ ?_ ?_) <;> intros <;> (first | exact absurd (by with_reducible assumption) o1 | exact absurd o1 (by with_reducible assumption) | skip)
    · rw [o2]; exact keeps_r w hK.up4 hs.2.1
    · rename_i I1 h
      rw [← e54]
      exact doesDeed_r w h.2 hs.keep.q (by omega) (by omega) hb2 ⟨hd1, hd⟩
    · rename_i I1 h I2 h2
      rw [o2] at h
      exact ⟨rfl, _, rfl, PU.ok rfl (h.1.tr h2.1 (r3 := [44, 49, 50, 51, 52, 53, 54]) (by decide)) (by decide) (by decide) h2.2⟩
  · rw [show aDone κ x1 x2 x3 = ((gD κ x1 x2 0 x3, 0), κ) by unfold aDone; rw [if_neg g]]
    rw [if_neg g] at o1
    have o3 : ¬ v_X12_isDeedOut I x1 x2 (0 : Int32) x3 = 0 := by rw [o1]; decide
    refine Cal.of rfl (by decide +kernel) (by simp) (Nat.le_of_ble_eq_true rfl) rfl (sX12_done_0 (u2 := 0) (P1 := fun I I' => True) (P2 := fun I I' => True) w ?_ ?_ ?_ ?_) <;> intros <;> (first | exact absurd (by with_reducible assumption) o3 | exact absurd o3 (by with_reducible assumption) | skip)
    rw [o2]
    exact ⟨rfl, _, rfl, PU.fail hK rfl⟩
def aUndo (κ : Nat → Nat) (x : Int32) : (Nat × Int32) × (Nat → Nat) := if gR x 1 (κ 5) then ((0, nI (κ 5 - cN x)), qundo κ (cN x)) else ((1, 0), κ)
theorem undo_r {x : Int32} (w : MW R S nx) (hK : Kn I κ) (hs : sok hb pb κ) (hhb : hb < 2 ^ 28) : Cal l G (k + 1) 0 0 mX12_undo [.ref 43, .int x] (I, J, R, S, nx) (fun r μ' => r = .inl (some (.int ((aUndo κ x).1.2))) ∧ ∃ I', μ' = (I', J, R, S, nx) ∧ PU (aUndo κ x).1.1 (aUndo κ x).2 I I') := by
  have h5 := hs.2.1
  by_cases g : gR x 1 (κ 5)
  · have c1 : ¬ v_X12_within (Int32.toInt64 x) (1 : Int64) (10 : Int64) = 0 := cRt (a := 1) (b := 10) ⟨g.1, by have := g.2; omega⟩ (by decide) (by decide)
    rw [show aUndo κ x = ((0, nI (κ 5 - cN x)), qundo κ (cN x)) by unfold aUndo; rw [if_pos g]]
    obtain ⟨a, rfl, ha1, ha, ea⟩ := g.n (by omega)
    rw [ea]
    have c2 : nI a ≤ I 44 5 := by rw [hK.h (by decide)]; exact nI_le (by omega) (by omega)
    refine Cal.of rfl (by decide +kernel) (by simp) (Nat.le_of_ble_eq_true rfl) rfl (sX12_undo_0 w ?_ ?_ ?_) <;> intros <;> (first | exact absurd (by with_reducible assumption) c1 | exact absurd c1 (by with_reducible assumption) | exact absurd (by with_reducible assumption) c2 | exact absurd c2 (by with_reducible assumption) | skip)
    have hK0 : Kn (up2 (up2 I 43 4 (0 : Int32)) 44 5 (I 44 5 - nI a)) (qset κ 5 (κ 5 - a)) := hK.up4.up (by rw [hK.h (by decide), pk_sub ha])
    refine upto (W := fun i I1 => hX12_undo_45 l G k _ (nI i) (I1, J, R, S, nx)) (P := fun i I1 => Fr [44] (up2 I 43 4 (0 : Int32)) I1 ∧ Kn I1 (qcp (qset κ 5 (κ 5 - a)) (qset κ 5 (κ 5 - a)) 7 (82 + 49 * (κ 5 - a)) i)) 49 ?_ ?_ (i := 0) (Nat.zero_le _) ⟨Fr.rf.up (by decide), hK0.cp0⟩
    · intro I1 ⟨hF, hK1⟩
      have d1 : (49 : Int32) ≤ nI 49 := by decide
      refine sX12_undo_45 w ?_ ?_ ?_ ?_ <;> intros <;> (first | exact absurd (by with_reducible assumption) d1 | exact absurd d1 (by with_reducible assumption) | skip)
      refine ⟨by rw [hK1.h (by decide), qcp_out (by omega), qset_eq], _, rfl, PU.ok rfl hF (by decide) (by decide) (hK1.congr (fun i hi => ?_))⟩
      show qundo κ a i = _
      unfold qundo
      by_cases e5 : i = 5
      · rw [if_pos e5, qcp_out (by omega), e5, qset_eq]
      · rw [if_neg e5]
        by_cases e7 : 7 ≤ i ∧ i < 56
        · rw [if_pos e7, qcp_in (by omega), qset_ne (by omega)]
        · rw [if_neg e7, qcp_out (by omega), qset_ne e5]
    · intro i I1 hi ⟨hF, hK1⟩ ih
      have d1 : ¬ (49 : Int32) ≤ nI i := nI_ge (b := 49) hi (by decide)
      have e5 : I1 44 5 = nI (κ 5 - a) := by rw [hK1.h (by decide), qcp_out (by omega), qset_eq]
      have e1 : (7 : Int32) + nI i = nI (7 + i) := nI_add 7 i
      have e2 : ((82 : Int32) + (49 : Int32) * I1 44 5) + nI i = nI (82 + 49 * (κ 5 - a) + i) := by
        rw [e5, show (49 : Int32) = nI 49 from rfl, pk_mul, show (82 : Int32) = nI 82 from rfl, nI_add, nI_add]
      refine sX12_undo_45 w ?_ ?_ ?_ ?_ <;> intros <;> (first | exact absurd (by with_reducible assumption) d1 | exact absurd d1 (by with_reducible assumption) | skip)
      · rw [e2]; exact vp_in_nI (by omega) (by decide)
      · rw [e1]; exact vp_in_nI (by omega) (by decide)
      · rw [e1, e2, nI_clamp (by omega), nI_clamp (by omega), nI_1]
        exact ih _ ⟨hF.up (by decide), hK1.cpS (by rw [hK1 _ (by omega), qcp_out (by omega)])⟩
  · rw [show aUndo κ x = ((1, 0), κ) by unfold aUndo; rw [if_neg g]]
    by_cases g2 : gR x 1 10
    · have c1 : ¬ v_X12_within (Int32.toInt64 x) (1 : Int64) (10 : Int64) = 0 := cRt g2 (by decide) (by decide)
      have c2 : ¬ x ≤ I 44 5 := by
        obtain ⟨a, rfl, ha1, ha, ea⟩ := g2.n (by omega)
        rw [hK.h (by decide)]
        refine nI_ge (Nat.lt_of_not_le (fun hc => g ?_)) (by omega)
        unfold gR
        rw [nI_toInt (by omega)]; omega
      refine Cal.of rfl (by decide +kernel) (by simp) (Nat.le_of_ble_eq_true rfl) rfl (sX12_undo_0 w ?_ ?_ ?_) <;> intros <;> (first | exact absurd (by with_reducible assumption) c1 | exact absurd c1 (by with_reducible assumption) | exact absurd (by with_reducible assumption) c2 | exact absurd c2 (by with_reducible assumption) | skip)
      exact ⟨rfl, _, rfl, PU.fail2 hK rfl⟩
    · have c1 : v_X12_within (Int32.toInt64 x) (1 : Int64) (10 : Int64) = 0 := cRf g2 (by decide) (by decide)
      refine Cal.of rfl (by decide +kernel) (by simp) (Nat.le_of_ble_eq_true rfl) rfl (sX12_undo_0 w ?_ ?_ ?_) <;> intros <;> (first | exact absurd (by with_reducible assumption) c1 | exact absurd c1 (by with_reducible assumption) | skip)
      exact ⟨rfl, _, rfl, PU.fail2 hK rfl⟩
/-! trays -/
def Tk (I : Nat → Nat → Int32) (J : Nat → Nat → Int64) (τ tm : Nat → Nat) (tn : Nat → Nat → Int64) : Prop := ∀ t, t < 4 → I 68 t = (if τ t = 0 then -1 else nI (τ t - 1)) ∧ I 69 t = nI (tm t) ∧ tm t ≤ 30 ∧ τ t ≤ 4 ∧ ∀ i, i < 30 → J 70 (30 * t + i) = tn t i
def gT (τ : Nat → Nat) (x : Int32) : Nat := if gR x 0 3 then (if τ (cN x) = 0 then 2 else 0) else 1
theorem gT_n {x : Int32} {τ tm : Nat → Nat} {tn : Nat → Nat → Int64} (hT : Tk I J τ tm tn) : v_X12_trayFault I x = nI (gT τ x) := by
  unfold v_X12_trayFault gT
  have e : (v_X12_isTray x = 0) = ¬ gR x 0 3 := gR0 (by decide) (by decide)
  simp only [e]
  by_cases g : gR x 0 3
  · rw [if_neg (not_not_intro g), if_pos g]
    obtain ⟨a, rfl, _, ha, ea⟩ := g.n (by omega)
    have h := (hT a (by omega)).1
    have h4 := (hT a (by omega)).2.2.2.1
    rw [nI_clamp (by omega), ea, h]
    by_cases c : τ a = 0
    · rw [if_pos c, if_pos c]; rfl
    · rw [if_neg c, if_neg c, if_neg (by rw [fa_eq, nI_toInt (by omega), show (-1 : Int32).toInt = -1 by decide]; omega)]; rfl
  · rw [if_pos g, if_neg g]; rfl
theorem gT0 {x : Int32} {τ : Nat → Nat} (h : gT τ x = 0) : ∃ a, x = nI a ∧ a < 4 ∧ cN x = a ∧ τ a ≠ 0 := by
  unfold gT at h
  split at h
  · rename_i g
    obtain ⟨a, rfl, _, ha, ea⟩ := g.n (by omega)
    rw [ea] at h
    split at h
    · cases h
    · exact ⟨a, rfl, by omega, ea, by assumption⟩
  · cases h
theorem gT_le (τ : Nat → Nat) (x : Int32) : gT τ x ≤ 2 := by
  unfold gT
  split
  · split <;> omega
  · omega
theorem tr_b {x : Int32} (h : ¬ v_X12_isTray x = 0) : vp_in x 4 := by
  have e : (v_X12_isTray x = 0) = ¬ gR x 0 3 := gR0 (by decide) (by decide)
  rw [e, Decidable.not_not] at h
  obtain ⟨a, rfl, _, ha, ea⟩ := h.n (by omega)
  exact vp_in_nI (by omega) (by decide)
/-! judge: told deeds carried out up to the first that can't be -/
def qjud (f : Nat → Int) (κ : Nat → Nat) : Nat → (Nat → Nat) × Option Nat
  | 0 => (κ, none)
  | i + 1 => match qjud f κ i with
    | (κ', some p) => (κ', some p)
    | (κ', none) => if qwhy κ' (f i) = 0 then (qdoes κ' (f i), none) else (κ', some i)
theorem qdoes_out {v : Int} {i : Nat} (hv : qwhy κ v = 0) (hl : κ 1 ≤ 5) (hi : i < 7 ∨ 56 ≤ i) : qdoes κ v i = κ i := by
  unfold qwhy at hv
  unfold qdoes
  split
  · exact qset_ne (by omega)
  · rename_i c1
    rw [if_neg c1] at hv
    split
    · unfold qdeed; rw [qset_ne (by omega), qset_ne (by omega)]
    · rename_i c2
      split
      · rename_i c3
        have hv2 : v.toNat % 10000 / 100 < κ 1 := by
          refine Classical.byContradiction (fun hc => ?_)
          rw [if_neg (by omega)] at hv
          split at hv
          · rw [if_neg (fun h => hc h.1)] at hv; cases hv
          · rw [if_neg (by omega)] at hv; cases hv
        unfold qlay
        split <;> rw [qset_ne (by omega), qset_ne (by omega), qset_ne (by omega)]
      · exact qset_ne (by omega)
theorem qjud_s (f : Nat → Int) (κ : Nat → Nat) (i : Nat) : qjud f κ (i + 1) = match qjud f κ i with
    | (κ', some p) => (κ', some p)
    | (κ', none) => if qwhy κ' (f i) = 0 then (qdoes κ' (f i), none) else (κ', some i) := rfl
theorem qjud_go {f : Nat → Int} {i : Nat} {κ' : Nat → Nat} (h : qjud f κ i = (κ', none)) (hw : qwhy κ' (f i) = 0) : qjud f κ (i + 1) = (qdoes κ' (f i), none) := by
  rw [qjud_s, h]; simp [hw]
theorem qjud_no {f : Nat → Int} {i : Nat} {κ' : Nat → Nat} (h : qjud f κ i = (κ', none)) (hw : qwhy κ' (f i) ≠ 0) : qjud f κ (i + 1) = (κ', some i) := by
  rw [qjud_s, h]; simp [hw]
theorem qjud_stay {f : Nat → Int} {i p : Nat} {κ' : Nat → Nat} (h : qjud f κ i = (κ', some p)) : ∀ d, qjud f κ (i + d) = (κ', some p)
  | 0 => h
  | d + 1 => by rw [← Nat.add_assoc, qjud_s, qjud_stay h d]
def jP (pl : Option Nat) : Int32 := match pl with | none => -1 | some p => nI p
def jW (f : Nat → Int) (κ' : Nat → Nat) (pl : Option Nat) : Int32 := match pl with | none => 0 | some p => nI (qwhy κ' (f p))
def jAns (f : Nat → Int) (s : (Nat → Nat) × Option Nat) (what : Nat) : Int32 :=
  if what = 0 then jP s.2
  else if what = 1 then jW f s.1 s.2
  else if what = 2 then nI (s.1 54) else nI (s.1 55)
def tf (tn : Nat → Nat → Int64) (t : Nat) : Nat → Int := fun i => (tn t i).toInt
def aJudge (κ τ tm : Nat → Nat) (tn : Nat → Nat → Int64) (x y : Int32) : Nat × Int32 := if gT τ x = 0 then (if gR y 0 3 then (0, jAns (tf tn (cN x)) (qjud (tf tn (cN x)) κ (tm (cN x))) (cN y)) else (3, 0)) else (gT τ x, 0)
theorem qwhy_le (κ : Nat → Nat) (v : Int) : qwhy κ v ≤ 2 := by
  unfold qwhy; repeat' split
  all_goals omega
theorem wh_r {v : Int} (h : qwhy κ v = 0) (h2 : κ 2 ≤ 8) : -1 ≤ v ∧ v < 100000 := by
  refine Classical.byContradiction (fun hc => ?_)
  unfold qwhy at h
  rw [if_neg (by omega), if_neg (by omega), if_neg (by omega), if_neg (by omega)] at h
  cases h
theorem judge_end {κ0 κ' : Nat → Nat} {I0 : Nat → Nat → Int32} {f : Nat → Int} {b : Nat} {x3 x4 : Int32} {pl : Option Nat} (w : MW R S nx) (hK : Kn I κ') (hF : Fr [44, 49, 50, 51, 52, 53, 54, 55] (up2 I0 43 4 (0 : Int32)) I) (h55 : ∀ j, j < 49 → I 55 j = nI (κ0 (7 + j))) (hst : ∀ i, (i < 7 ∨ 56 ≤ i) → κ' i = κ0 i) (hb : b ≤ 3)
    (e3 : x3 = jP pl) (e4 : x4 = jW f κ' pl) :
    hX12_judge_122 l G k (fun r μ' => r = .inl (some (.int (jAns f (κ', pl) b))) ∧ ∃ I', μ' = (I', J, R, S, nx) ∧ PU 0 κ0 I0 I') (nI b) x3 x4 (I, J, R, S, nx) := by
  have fin : ∀ I1, (Fr [44] I I1 ∧ Kn I1 (qcp κ' κ0 7 7 49)) → PU 0 κ0 I0 I1 := by
    intro I1 h
    refine PU.ok rfl (hF.tr h.1 (r3 := [44, 49, 50, 51, 52, 53, 54, 55]) (by decide)) (by decide) (by decide) (h.2.congr (fun i hi => ?_))
    by_cases c : 7 ≤ i ∧ i < 7 + 49
    · rw [qcp_in c]; congr 1; omega
    · rw [qcp_out c, hst i (by omega)]
  have n0 : (nI b = 0) = (b = 0) := propext (nI_eq (b := 0) (by omega) (by decide))
  have n1 : (nI b = (1 : Int32)) = (b = 1) := propext (nI_eq (b := 1) (by omega) (by decide))
  have n2 : (nI b = (2 : Int32)) = (b = 2) := propext (nI_eq (b := 2) (by omega) (by decide))
  refine sX12_judge_122 (P1 := fun I I' => Fr [44] I I' ∧ Kn I' (qcp κ' κ0 7 7 49)) w (putsBack_r w hK h55) ?_ ?_ ?_ ?_
  · intro I1 h c0 c1 c2
    rw [n0] at c0; rw [n1] at c1; rw [n2] at c2
    exact ⟨by unfold jAns; rw [if_neg c0, if_neg c1, if_neg c2, hK.h (by decide)], _, rfl, fin I1 h⟩
  · intro I1 h c0 c1 c2
    rw [n0] at c0; rw [n1] at c1; rw [n2] at c2
    exact ⟨by unfold jAns; rw [if_neg c0, if_neg c1, if_pos c2, hK.h (by decide)], _, rfl, fin I1 h⟩
  · intro I1 h c0 c1
    rw [n0] at c0; rw [n1] at c1
    exact ⟨by unfold jAns; rw [if_neg c0, if_pos c1, e4], _, rfl, fin I1 h⟩
  · intro I1 h c0
    rw [n0] at c0
    exact ⟨by unfold jAns; rw [if_pos c0, e3], _, rfl, fin I1 h⟩
theorem judge_r {x y : Int32} {τ tm : Nat → Nat} {tn : Nat → Nat → Int64} (w : MW R S nx) (hK : Kn I κ) (hs : sok hb pb κ) (hhb : hb < 2 ^ 28) (hT : Tk I J τ tm tn) : Cal l G (k + 9) 0 0 mX12_judge [.ref 43, .int x, .int y] (I, J, R, S, nx) (fun r μ' => r = .inl (some (.int ((aJudge κ τ tm tn x y).2))) ∧ ∃ I', μ' = (I', J, R, S, nx) ∧ PU (aJudge κ τ tm tn x y).1 κ I I') := by
  have eT := gT_n (x := x) hT
  have hle := gT_le τ x
  by_cases g : gT τ x = 0
  · have d1 : v_X12_trayFault I x = 0 := by rw [eT, g]; rfl
    have d2 : v_X12_trayFault I x ≤ 0 := by rw [d1]; decide
    obtain ⟨a, rfl, ha, ea, _⟩ := gT0 g
    by_cases g2 : gR y 0 3
    · have c1 : ¬ v_X12_within (Int32.toInt64 y) (0 : Int64) (3 : Int64) = 0 := cRt g2 (by decide) (by decide)
      rw [show aJudge κ τ tm tn (nI a) y = (0, jAns (tf tn (cN (nI a))) (qjud (tf tn (cN (nI a))) κ (tm (cN (nI a)))) (cN y)) by unfold aJudge; rw [if_pos g, if_pos g2]]
      obtain ⟨b, rfl, _, hb3, eb⟩ := g2.n (by omega)
      rw [ea, eb]
      refine Cal.of rfl (by decide +kernel) (by simp) (Nat.le_of_ble_eq_true rfl) rfl (sX12_judge_0 (P1 := fun _ _ => True) (P2 := fun I I' => Fr [55] I I' ∧ ∀ j, j < 49 → I' 55 j = nI (κ (7 + j))) w ?_ ?_ ?_ ?_ ?_ ?_ ?_ ?_) <;> intros <;> (first | exact absurd (by with_reducible assumption) c1 | exact absurd c1 (by with_reducible assumption) | exact absurd (by with_reducible assumption) d1 | exact absurd d1 (by with_reducible assumption) | exact absurd (by with_reducible assumption) d2 | exact absurd d2 (by with_reducible assumption) | skip)
      · rename_i h; exact tr_b h
      · exact putsAside_r w hK.up4
      · rename_i I0 h0
        rw [d1] at h0
        have hm := (hT a ha).2.2.1
        refine upto (W := fun i I1 => hX12_judge_54 l G k _ (nI a) (nI b) (-1 : Int32) (0 : Int32) (nI i) (I1, J, R, S, nx)) (P := fun i I1 => ∃ κ', qjud (tf tn a) κ i = (κ', none) ∧ Fr [44, 49, 50, 51, 52, 53, 54, 55] (up2 I 43 4 (0 : Int32)) I1 ∧ (∀ j, j < 49 → I1 55 j = nI (κ (7 + j))) ∧ Kn I1 κ' ∧ sok (hb + 24 * i) (pb + 19008 * i) κ' ∧ (∀ i, (i < 7 ∨ 56 ≤ i) → κ' i = κ i)) (tm a) ?_ ?_ (i := 0) (Nat.zero_le _) ⟨κ, rfl, h0.1.wk (by decide), h0.2, hK.up4.fr h0.1 (by decide), hs, fun _ _ => rfl⟩
        · intro I1 ⟨κ', hq, hF, h55, hK1, hs1, hst⟩
          have e69 : I1 69 (nI a).toNatClampNeg ≤ nI (tm a) := by
            rw [nI_clamp (by omega), hF 69 (by decide)]
            simp only [up2, show (69 : Nat) ≠ 43 by decide, if_false]
            rw [(hT a ha).2.1]; exact nI_le (by omega) (by omega)
          refine sX12_judge_54 (P1 := fun _ _ => True) w (vp_in_nI ha (by decide)) ?_ ?_ ?_ ?_ ?_ ?_ ?_ <;> intros <;> (first | exact absurd (by with_reducible assumption) e69 | exact absurd e69 (by with_reducible assumption) | skip)
          rw [hq]
          exact judge_end w hK1 hF h55 hst hb3 rfl rfl
        · intro i I1 hi ⟨κ', hq, hF, h55, hK1, hs1, hst⟩ ih
          have f69 : ∀ I2, Fr [44, 49, 50, 51, 52, 53, 54, 55] (up2 I 43 4 (0 : Int32)) I2 → I2 69 (nI a).toNatClampNeg = nI (tm a) := by
            intro I2 hF2
            rw [nI_clamp (by omega), hF2 69 (by decide)]
            simp only [up2, show (69 : Nat) ≠ 43 by decide, if_false]
            exact (hT a ha).2.1
          have e69 : ¬ I1 69 (nI a).toNatClampNeg ≤ nI i := by rw [f69 I1 hF]; exact nI_ge hi (by omega)
          have e30 : (30 : Int32) * nI a + nI i = nI (30 * a + i) := by rw [show (30 : Int32) = nI 30 from rfl, pk_mul, nI_add]
          have eJ : J 70 ((30 : Int32) * nI a + nI i).toNatClampNeg = tn a i := by rw [e30, nI_clamp (by omega)]; exact (hT a ha).2.2.2.2 i (by omega)
          have bJ : vp_in ((30 : Int32) * nI a + nI i) 120 := by rw [e30]; exact vp_in_nI (by omega) (by decide)
          have ew : v_X12_whyTold I1 (J 70 ((30 : Int32) * nI a + nI i).toNatClampNeg) = nI (qwhy κ' (tf tn a i)) := by rw [eJ]; exact whyTold_n _ hK1 hs1.q
          have m1 : ((-1 : Int32) = (-1 : Int32)) := rfl
          by_cases cw : qwhy κ' (tf tn a i) = 0
          · have dw : v_X12_whyTold I1 (J 70 ((30 : Int32) * nI a + nI i).toNatClampNeg) = 0 := by rw [ew, cw]; rfl
            refine sX12_judge_54 (P1 := fun I I' => Fr [44, 49, 50, 51, 52, 53, 54] I I' ∧ Kn I' (qdoes κ' (tf tn a i))) w (vp_in_nI ha (by decide)) ?_ ?_ ?_ ?_ ?_ ?_ ?_ <;> intros <;> (first | exact absurd (by with_reducible assumption) e69 | exact absurd e69 (by with_reducible assumption) | exact absurd (by with_reducible assumption) m1 | exact absurd m1 (by with_reducible assumption) | exact absurd (by with_reducible assumption) dw | exact absurd dw (by with_reducible assumption) | skip)
            · exact bJ
            · exact bJ
            · have hr := wh_r cw hs1.1.2.1
              rw [eJ, l_to32 (show -2147483648 ≤ (tn a i).toInt ∧ (tn a i).toInt < 2147483648 by have : tf tn a i = (tn a i).toInt := rfl; omega)]
              exact does_r w hK1 hs1.q (by omega) cw
            · rename_i I2 h2
              rw [dw, nI_1]
              refine ih I2 ⟨qdoes κ' (tf tn a i), qjud_go hq cw, hF.tr h2.1 (by decide), fun j hj => by rw [h2.1 55 (by decide)]; exact h55 j hj, h2.2, ?_, fun j hj => ?_⟩
              · exact (hs1.does cw).mono (by omega) (by omega)
              · rw [qdoes_out cw hs1.1.1 hj]; exact hst j hj
          · have dw : ¬ v_X12_whyTold I1 (J 70 ((30 : Int32) * nI a + nI i).toNatClampNeg) = 0 := by
              rw [ew]; exact nI_ne0 (by omega) (by have := qwhy_le κ' (tf tn a i); omega)
            have m2 : ¬ nI i = (-1 : Int32) := by rw [fa_eq, nI_toInt (by omega), show (-1 : Int32).toInt = -1 by decide]; omega
            refine sX12_judge_54 (P1 := fun _ _ => True) w (vp_in_nI ha (by decide)) ?_ ?_ ?_ ?_ ?_ ?_ ?_ <;> intros <;> (first | exact absurd (by with_reducible assumption) e69 | exact absurd e69 (by with_reducible assumption) | exact absurd (by with_reducible assumption) m1 | exact absurd m1 (by with_reducible assumption) | exact absurd (by with_reducible assumption) dw | exact absurd dw (by with_reducible assumption) | skip)
            · exact bJ
            · rw [ew]
              have he := qjud_stay (qjud_no hq cw) (tm a - (i + 1))
              rw [show i + 1 + (tm a - (i + 1)) = tm a by omega] at he
              rw [he]
              refine sX12_judge_54 (P1 := fun _ _ => True) w (vp_in_nI ha (by decide)) ?_ ?_ ?_ ?_ ?_ ?_ ?_ <;> intros <;> (first | exact absurd (by with_reducible assumption) m2 | exact absurd m2 (by with_reducible assumption) | skip)
              · exact judge_end w hK1 hF h55 hst hb3 rfl rfl
              · exact judge_end w hK1 hF h55 hst hb3 rfl rfl
    · have c1 : v_X12_within (Int32.toInt64 y) (0 : Int64) (3 : Int64) = 0 := cRf g2 (by decide) (by decide)
      rw [show aJudge κ τ tm tn (nI a) y = (3, 0) by unfold aJudge; rw [if_pos g, if_neg g2]]
      refine Cal.of rfl (by decide +kernel) (by simp) (Nat.le_of_ble_eq_true rfl) rfl (sX12_judge_0 (P1 := fun _ _ => True) (P2 := fun _ _ => True) w ?_ ?_ ?_ ?_ ?_ ?_ ?_ ?_) <;> intros <;> (first | exact absurd (by with_reducible assumption) c1 | exact absurd c1 (by with_reducible assumption) | exact absurd (by with_reducible assumption) d1 | exact absurd d1 (by with_reducible assumption) | exact absurd (by with_reducible assumption) d2 | exact absurd d2 (by with_reducible assumption) | skip)
      · rename_i h; exact tr_b h
      · rw [up2_2]; exact ⟨rfl, _, rfl, PU.fail hK rfl⟩
  · rw [show aJudge κ τ tm tn x y = (gT τ x, 0) by unfold aJudge; rw [if_neg g]]
    have d1 : ¬ v_X12_trayFault I x = 0 := by rw [eT]; exact nI_ne0 (by omega) (by omega)
    have d2 : ¬ v_X12_trayFault I x ≤ 0 := by rw [eT]; exact nI_nle (by omega) (by omega)
    refine Cal.of rfl (by decide +kernel) (by simp) (Nat.le_of_ble_eq_true rfl) rfl (sX12_judge_0 (P1 := fun _ _ => True) (P2 := fun _ _ => True) w ?_ ?_ ?_ ?_ ?_ ?_ ?_ ?_) <;> intros <;> (first | exact absurd (by with_reducible assumption) d1 | exact absurd d1 (by with_reducible assumption) | exact absurd (by with_reducible assumption) d2 | exact absurd d2 (by with_reducible assumption) | skip)
    · rename_i h; exact tr_b h
    · rw [eT]; exact ⟨rfl, _, rfl, PU.fail hK rfl⟩
end A
