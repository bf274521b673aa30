/-! the class: what was seen -/
def SnQ (c y : Nat) (μ : Mem) : Res → Mem → Prop := fun r μ' => (c = 0 ∧ r = .inl (some (.ref y)) ∧ μ' = μ) ∨ (c ≠ 0 ∧ ∃ n', r = .inr ([eNS, eIS, eIA].getD (c - 1) "") ∧ μ.2.2.2.2 ≤ n' ∧ μ' = thr μ n')
section A
variable {l : Launch} {G : Gh} {k : Nat} {I : Nat → Nat → Int32} {J : Nat → Nat → Int64} {R : Nat → Nat → Option Nat} {S : Nat → Nat × Nat} {nx : Nat} {κ : Nat → Nat} {hb pb : Nat}
variable {ι : Nat → Option (Nat → Nat)} {τ tm : Nat → Nat} {tn : Nat → Nat → Int64} {tp : Nat} {fk fp : Int32} {t : Nat → Nat} {ow : Nat → Nat} {L dl pl ld lp : Nat}
theorem lgs {x : Int64} {y : Int64} : (lg_cmp x y < 0) = (x.toInt < y.toInt) := lgz.1
theorem gRq {v : Int32} {m : Nat} (e : v = nI m) (h : 1 ≤ m ∧ m ≤ 24) : gR v 1 24 := by
  unfold gR; rw [e, nI_toInt (by omega)]; omega
theorem lge {x : Int64} {y : Int64} : (lg_cmp x y = 0) = (x.toInt = y.toInt) := lgz.2.2.2
theorem lgl {x : Int64} {y : Int64} : (lg_cmp x y ≤ 0) = (x.toInt ≤ y.toInt) := by
  have h := (lgz (x := x) (y := y)).2.1
  rw [fa_lt, show (0 : Int32).toInt = 0 by decide] at h
  rw [fa_le, show (0 : Int32).toInt = 0 by decide]
  apply propext
  constructor
  · intro q; exact Classical.byContradiction (fun c => by have := h.mpr (by omega); omega)
  · intro q; exact Classical.byContradiction (fun c => by have := h.mp (by omega); omega)
theorem needSeen_c {x1 : Int32} {x2 : Int32} {x3 : Int32} (hl0 : l.stackTraces = false) (hC : CI (I, J, R, S, nx) (κ, ι, (τ, tm, tn), (t, tp), fk, fp)) (hs : sok hb pb κ) (hhb : hb < 2 ^ 28) : Cal l G (k + 2) 6 36 mX11_needSeen [.ref 0, .int x1, .int x2, .int x3] (I, J, R, S, nx) (SnQ (gS κ τ tm tn x1 x2 x3) (35 + 2 * cN x1) (I, J, R, S, nx)) := by
  have hC0 := hC
  obtain ⟨ow, L, dl, pl, ld, lp, hR, wL, hL, hN, hV, hP⟩ := hC
  have hR : CR I J R S nx ow ι τ tm tn t tp fk fp := hR
  have wL : R 14 0 = some L := wL
  have hL : LdC I R S nx ow L κ dl pl ld lp := hL
  have hN : CN I κ := hN
  have hV : PV I κ := hV
  have hP : PS I 30 31 κ := hP
  have w : CF R S nx := hR.1
  have wl : LW R S nx L dl pl ld lp := hL.1
  have h : CK I κ L dl pl ld lp := ⟨hN, hL.2.1, hV⟩
  have ho := hs.q
  have h1w : κ 1 ≤ 5 := ho.1
  have h2a : κ 2 ≤ 8 := ho.2.1
  have h54 : κ 54 ≤ hb := ho.2.2.2.2.2.2.2.2.2.2.1
  have e1 : I L 1 = nI (κ 1) := h.2.1.1.2.1
  have e2 : I L 2 = nI (κ 2) := h.2.1.1.2.2.1
  have kt := ndT x1
  by_cases gt : gR x1 0 3
  · have ct : nd_trayAt x1 = none := by rw [kt, if_pos gt]
    have gt1 := gt
    obtain ⟨a, rfl, _, ha, ea⟩ := gt.n (by decide)
    have hTr := hR.2.1 a (by omega)
    have k0 : nd_needWard (I L 1) x3 = (if gL x3 (κ 1) then none else some eNS) := (by rw [e1]; exact ndW (by omega))
    have k1 : nd_needPlaced (I (35 + 2 * a) 1) = (if τ a ≠ 0 then none else some eIS) := (ndP hTr.1 hTr.2.2.1.2)
    have k2 : nd_needKind x2 = (if gR x2 0 9 then none else some eIA) := (ndI (a := 0) (b := 9) (by decide) (by decide))
    have k3 : nd_needWithin (I (35 + 2 * a) 1) (1 : Int32) (24 : Int32) = (if gR (I (35 + 2 * a) 1) 1 24 then none else some eIA) := (ndI (a := 1) (b := 24) (by decide) (by decide))
    by_cases g0 : gL x3 (κ 1)
    · by_cases g1 : τ a ≠ 0
      · by_cases g2 : gR x2 0 9
        · by_cases g3 : gR (I (35 + 2 * a) 1) 1 24
          · have c0 : nd_needWard (I L 1) x3 = none := by rw [k0, if_pos g0]
            have c1 : nd_needPlaced (I (35 + 2 * a) 1) = none := by rw [k1, if_pos g1]
            have c2 : nd_needKind x2 = none := by rw [k2, if_pos g2]
            have c3 : nd_needWithin (I (35 + 2 * a) 1) (1 : Int32) (24 : Int32) = none := by rw [k3, if_pos g3]
            rw [show gS κ τ tm tn (nI a) x2 x3 = gS κ τ tm tn (nI a) x2 x3 by rfl]
            refine Cal.of rfl (by decide +kernel) (by simp) (Nat.le_of_ble_eq_true rfl) rfl (sX11_needSeen_0 hl0 w wL wl (by decide) (ndy ct) (by decide) (ty (by omega) fun hy => ndy c0) (by decide) (ty (by omega) fun hy _ => ndy c1) (by decide) (ty (by omega) fun hy _ _ => ndy c2) (by decide) (ty (by omega) fun hy _ _ _ => ndy c3) (ty (by omega) fun hy _ _ _ _ => ?_))
            · have hm30 : tm a ≤ 30 := hTr.2.2.1.2
              have eT : I (35 + 2 * a) 1 = nI (tm a) := by rw [hTr.1, if_neg g1]
              have hm : 1 ≤ tm a ∧ tm a ≤ 24 := by
                have := g3
                unfold gR at this; rw [eT, nI_toInt (by omega)] at this; omega
              have eS : ∀ hq : qss κ tm tn a = true, gS κ τ tm tn (nI a) x2 x3 = 0 := fun hq => by unfold gS; rw [if_pos ⟨gt1, g0⟩, ea, if_neg g1, if_pos ⟨g2, hq⟩]
              have eN : ∀ hq : ¬ qss κ tm tn a = true, gS κ τ tm tn (nI a) x2 x3 = 3 := fun hq => by unfold gS; rw [if_pos ⟨gt1, g0⟩, ea, if_neg g1, if_neg (fun g => hq g.2)]
              have thr3 : ∀ hq : ¬ qss κ tm tn a = true, ∀ n', nx ≤ n' → SnQ (gS κ τ tm tn (nI a) x2 x3) (35 + 2 * cN (nI a)) (I, J, R, S, nx) (.inr "java/lang/IllegalArgumentException") (thr (I, J, R, S, nx) n') := fun hq n' hn => by
                rw [eN hq]; exact Or.inr ⟨by decide, n', rfl, hn, rfl⟩
              refine upto (σ := Unit) (W := fun i _ => hX11_needSeen_35 l G k 6 36 _ (35 + 2 * a) (nI i) (I, J, R, S, nx) (6 - 1 - 1 - 1 - 1 - 1) (36 - 6 - 6 - 6 - 6 - 6)) (P := fun i _ => ∀ j, j < i → (-1 ≤ (tn a j).toInt ∧ (tn a j).toInt ≤ if j < κ 54 then 792 else -1)) (tm a) ?_ ?_ (i := 0) (s := ()) (Nat.zero_le _) (fun j hj => absurd hj (Nat.not_lt_zero j))
              · intro _ hq
                have c0 : I (35 + 2 * a) 1 ≤ nI (tm a) := by rw [eT]; exact nI_le (Nat.le_refl _) (by omega)
                refine sX11_needSeen_35 hy.2.2.2.2.2.1 hy.2.2.2.2.2.2 hy.2.2.1 hy.2.2.2.2.1 hy.2.2.2.1 w (fun _ => ?_) (fun c => absurd c0 c) (fun c => absurd c0 c) (fun c => absurd c0 c)
                exact Or.inl ⟨eS (qss_iff.mpr ⟨hm, hq⟩), by rw [ea], rfl⟩
              · intro i _ hi hq ih
                have c0 : ¬ I (35 + 2 * a) 1 ≤ nI i := by rw [eT]; exact nI_ge hi (by omega)
                have eJ : J (35 + 2 * a + 1) (nI i).toNatClampNeg = tn a i := by rw [nI_clamp (by omega), show 35 + 2 * a + 1 = 36 + 2 * a by omega]; exact hTr.2.2.2 i (by omega)
                have le54 : (I 25 0 ≤ nI i) = (κ 54 ≤ i) := by rw [h.1.h.1]; exact propext (nI_leI (by omega) (by omega))
                have nx1 : (-1 ≤ (tn a i).toInt ∧ (tn a i).toInt ≤ if i < κ 54 then 792 else -1) → hX11_needSeen_35 l G k 6 36 (SnQ (gS κ τ tm tn (nI a) x2 x3) (35 + 2 * cN (nI a)) (I, J, R, S, nx)) (35 + 2 * a) (nI i + 1) (I, J, R, S, nx) (6 - 1 - 1 - 1 - 1 - 1) (36 - 6 - 6 - 6 - 6 - 6) := fun hv => by
                  rw [nI_1]
                  refine ih () (fun j hj => ?_)
                  by_cases cj : j = i
                  · rw [cj]; exact hv
                  · exact hq j (by omega)
                have bad : ¬ (-1 ≤ (tn a i).toInt ∧ (tn a i).toInt ≤ if i < κ 54 then 792 else -1) → ¬ qss κ tm tn a = true := fun hv hz => hv ((qss_iff.mp hz).2 i hi)
                have m1 : (-1 : Int64).toInt = -1 := by decide
                have m0 : (0 : Int64).toInt = 0 := by decide
                have m2 : (792 : Int64).toInt = 792 := by decide
                have eq1 : (lg_cmp (tn a i) (-1 : Int64) = 0) = ((tn a i).toInt = -1) := by rw [lge, m1]
                have lt0 : (lg_cmp (tn a i) (0 : Int64) < 0) = ((tn a i).toInt < 0) := by rw [lgs, m0]
                have le2 : (lg_cmp (tn a i) (792 : Int64) ≤ 0) = ((tn a i).toInt ≤ 792) := by rw [lgl, m2]
                have go : ∀ s0 : Int32, (s0 = 0 ↔ κ 54 ≤ i) → hX11_needSeen_74 l G k 6 36 (SnQ (gS κ τ tm tn (nI a) x2 x3) (35 + 2 * cN (nI a)) (I, J, R, S, nx)) (35 + 2 * a) (nI i) (tn a i) s0 (I, J, R, S, nx) (6 - 1 - 1 - 1 - 1 - 1) (36 - 6 - 6 - 6 - 6 - 6) := fun s0 hs0 => by
                  refine sX11_needSeen_74 hl0 (fun g => nx1 ?_) (fun g g2 n' hn => thr3 (bad ?_) n' hn) (by decide) (fun g g2 g3 n' hn => thr3 (bad ?_) n' hn) (by decide) (fun g g2 g3 g4 => nx1 ?_) (fun g g2 g3 g4 n' hn => thr3 (bad ?_) n' hn) (by decide)
                  · rw [eq1] at g; rw [g]; exact ⟨by omega, by split <;> omega⟩
                  · rw [eq1] at g; rw [hs0] at g2; rw [if_neg (by omega)]; omega
                  · rw [eq1] at g; rw [lt0] at g3; omega
                  · rw [hs0] at g2; rw [lt0] at g3; rw [le2] at g4; rw [if_pos (by omega)]; omega
                  · rw [le2] at g4; split <;> omega
                refine sX11_needSeen_35 hy.2.2.2.2.2.1 hy.2.2.2.2.2.2 hy.2.2.1 hy.2.2.2.2.1 hy.2.2.2.1 w (fun c => absurd c c0) (fun _ => vp_in_nI (by omega) (by decide)) (fun _ g => ?_) (fun _ g => ?_)
                · rw [eJ]; rw [le54] at g; exact go 0 ⟨fun _ => g, fun _ => rfl⟩
                · rw [eJ]; rw [le54] at g; exact go 1 ⟨fun c => absurd c (by decide), fun c => absurd c g⟩
          · have c0 : nd_needWard (I L 1) x3 = none := by rw [k0, if_pos g0]
            have c1 : nd_needPlaced (I (35 + 2 * a) 1) = none := by rw [k1, if_pos g1]
            have c2 : nd_needKind x2 = none := by rw [k2, if_pos g2]
            have c3 : nd_needWithin (I (35 + 2 * a) 1) (1 : Int32) (24 : Int32) = some eIA := by rw [k3, if_neg g3]
            rw [show gS κ τ tm tn (nI a) x2 x3 = 3 by unfold gS; rw [if_pos ⟨gt1, g0⟩, ea, if_neg g1, if_neg (fun g => g3 (gRq (hTr.1.trans (if_neg g1)) (qss_iff.mp g.2).1))]]
            exact Cal.of rfl (by decide +kernel) (by simp) (Nat.le_of_ble_eq_true rfl) rfl (sX11_needSeen_0 hl0 w wL wl (by decide) (ndy ct) (by decide) (ty (by omega) fun hy => ndy c0) (by decide) (ty (by omega) fun hy _ => ndy c1) (by decide) (ty (by omega) fun hy _ _ => ndy c2) (by decide) (ty (by omega) fun hy _ _ _ => ndn c3 (fun n' hn => Or.inr ⟨by decide, n', rfl, hn, rfl⟩)) (ty (by omega) fun hy _ _ _ g => ndx c3 g))
        · have c0 : nd_needWard (I L 1) x3 = none := by rw [k0, if_pos g0]
          have c1 : nd_needPlaced (I (35 + 2 * a) 1) = none := by rw [k1, if_pos g1]
          have c2 : nd_needKind x2 = some eIA := by rw [k2, if_neg g2]
          rw [show gS κ τ tm tn (nI a) x2 x3 = 3 by unfold gS; rw [if_pos ⟨gt1, g0⟩, ea, if_neg g1, if_neg (fun g => g2 g.1)]]
          exact Cal.of rfl (by decide +kernel) (by simp) (Nat.le_of_ble_eq_true rfl) rfl (sX11_needSeen_0 hl0 w wL wl (by decide) (ndy ct) (by decide) (ty (by omega) fun hy => ndy c0) (by decide) (ty (by omega) fun hy _ => ndy c1) (by decide) (ty (by omega) fun hy _ _ => ndn c2 (fun n' hn => Or.inr ⟨by decide, n', rfl, hn, rfl⟩)) (by decide) (ty (by omega) fun hy _ _ g => ndx c2 g) (ty (by omega) fun hy _ _ g => ndx c2 g))
      · have c0 : nd_needWard (I L 1) x3 = none := by rw [k0, if_pos g0]
        have c1 : nd_needPlaced (I (35 + 2 * a) 1) = some eIS := by rw [k1, if_neg g1]
        rw [show gS κ τ tm tn (nI a) x2 x3 = 2 by unfold gS; rw [if_pos ⟨gt1, g0⟩, ea, if_pos (Decidable.not_not.mp g1)]]
        exact Cal.of rfl (by decide +kernel) (by simp) (Nat.le_of_ble_eq_true rfl) rfl (sX11_needSeen_0 hl0 w wL wl (by decide) (ndy ct) (by decide) (ty (by omega) fun hy => ndy c0) (by decide) (ty (by omega) fun hy _ => ndn c1 (fun n' hn => Or.inr ⟨by decide, n', rfl, hn, rfl⟩)) (by decide) (ty (by omega) fun hy _ g => ndx c1 g) (by decide) (ty (by omega) fun hy _ g => ndx c1 g) (ty (by omega) fun hy _ g => ndx c1 g))
    · have c0 : nd_needWard (I L 1) x3 = some eNS := by rw [k0, if_neg g0]
      rw [show gS κ τ tm tn (nI a) x2 x3 = 1 by unfold gS; rw [if_neg (fun g => g0 g.2)]]
      exact Cal.of rfl (by decide +kernel) (by simp) (Nat.le_of_ble_eq_true rfl) rfl (sX11_needSeen_0 hl0 w wL wl (by decide) (ndy ct) (by decide) (ty (by omega) fun hy => ndn c0 (fun n' hn => Or.inr ⟨by decide, n', rfl, hn, rfl⟩)) (by decide) (ty (by omega) fun hy g => ndx c0 g) (by decide) (ty (by omega) fun hy g => ndx c0 g) (by decide) (ty (by omega) fun hy g => ndx c0 g) (ty (by omega) fun hy g => ndx c0 g))
  · have ct : nd_trayAt x1 = some eNS := by rw [kt, if_neg gt]
    rw [show gS κ τ tm tn x1 x2 x3 = 1 by unfold gS; rw [if_neg (fun g => gt g.1)]]
    exact Cal.of rfl (by decide +kernel) (by simp) (Nat.le_of_ble_eq_true rfl) rfl (sX11_needSeen_0 hl0 w wL wl (by decide) (ndn ct (fun n' hn => Or.inr ⟨by decide, n', rfl, hn, rfl⟩)) (by decide) (fun y hy => absurd (taG hy) gt) (by decide) (fun y hy => absurd (taG hy) gt) (by decide) (fun y hy => absurd (taG hy) gt) (by decide) (fun y hy => absurd (taG hy) gt) (fun y hy => absurd (taG hy) gt))
end A
