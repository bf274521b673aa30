/-! the class: its answers -/
def ansR (Es : List String) (a : Nat × Int32) : Res := if a.1 = 0 then .inl (some (.int a.2)) else .inr (Es.getD (a.1 - 1) "")
def ansJ (Es : List String) (a : Nat × Int64) : Res := if a.1 = 0 then .inl (some (.long a.2)) else .inr (Es.getD (a.1 - 1) "")
theorem ndW {n : Nat} {x : Int32} (hn : n < 2 ^ 31) : nd_needWard (nI n) x = if gL x n then none else some eNS := by
  unfold nd_needWard; rw [nI_toInt hn]
theorem ndI {a b : Nat} {x : Int32} (ha : a < 2 ^ 31) (hb : b < 2 ^ 31) : nd_needWithin x (nI a) (nI b) = if gR x a b then none else some eIA := by
  unfold nd_needWithin; rw [nI_toInt ha, nI_toInt hb]
theorem ndD {n : Nat} {x1 x2 x3 : Int32} (hn : n < 2 ^ 31) : nd_needDeed (nI n) x1 x2 x3 = if gL x2 n then (if gR x1 0 9 ∧ gR x3 1 24 then none else some eIA) else some eNS := by
  unfold nd_needDeed nd_needKind
  have q1 : nd_needWithin x1 (0 : Int32) (9 : Int32) = if gR x1 0 9 then none else some eIA := ndI (a := 0) (b := 9) (by decide) (by decide)
  have q2 : nd_needWithin x3 (1 : Int32) (24 : Int32) = if gR x3 1 24 then none else some eIA := ndI (a := 1) (b := 24) (by decide) (by decide)
  rw [ndW hn, q1, q2]
  by_cases c1 : gL x2 n
  · rw [if_pos c1, if_pos c1]
    by_cases c2 : gR x1 0 9
    · rw [if_pos c2]
      by_cases c3 : gR x3 1 24
      · rw [if_pos c3, if_pos (show gR x1 0 9 ∧ gR x3 1 24 from ⟨c2, c3⟩)]; rfl
      · rw [if_neg c3, if_neg (show ¬ (gR x1 0 9 ∧ gR x3 1 24) from fun g => c3 g.2)]; rfl
    · rw [if_neg c2, if_neg (show ¬ (gR x1 0 9 ∧ gR x3 1 24) from fun g => c2 g.1)]; split <;> rfl
  · rw [if_neg c1, if_neg c1]; rfl
theorem ndY {n : Nat} {x1 x2 x3 : Int32} (hn : n < 2 ^ 31) : nd_needWay (nI n) x1 x2 x3 = if gL x2 n ∧ gL x3 n then (if gR x1 0 9 then none else some eIA) else some eNS := by
  unfold nd_needWay nd_needKind
  have q1 : nd_needWithin x1 (0 : Int32) (9 : Int32) = if gR x1 0 9 then none else some eIA := ndI (a := 0) (b := 9) (by decide) (by decide)
  rw [ndW hn, ndW hn, q1]
  by_cases c1 : gL x2 n
  · rw [if_pos c1]
    by_cases c2 : gL x3 n
    · rw [if_pos c2, if_pos (show gL x2 n ∧ gL x3 n from ⟨c1, c2⟩)]; split <;> rfl
    · rw [if_neg c2, if_neg (show ¬ (gL x2 n ∧ gL x3 n) from fun g => c2 g.2)]; rfl
  · rw [if_neg c1, if_neg (show ¬ (gL x2 n ∧ gL x3 n) from fun g => c1 g.1)]; rfl
theorem ndy {nd : Option String} {nx : Nat} {P : String → Nat → Prop} (h : nd = none) : ∀ E n', nd = some E → nx ≤ n' → P E n' := fun E n' g => by rw [h] at g; cases g
theorem ndn {nd : Option String} {nx : Nat} {P : String → Nat → Prop} {E0 : String} (h : nd = some E0) (hp : ∀ n', nx ≤ n' → P E0 n') : ∀ E n', nd = some E → nx ≤ n' → P E n' := fun E n' g hn => by rw [h] at g; rw [← Option.some.inj g]; exact hp n' hn
theorem ndx {nd : Option String} {X : Prop} {E0 : String} (h : nd = some E0) (g : nd = none) : X := by rw [h] at g; cases g
section A
variable {l : Launch} {G : Gh} {k : Nat} {I : Nat → Nat → Int32} {J : Nat → Nat → Int64} {R : Nat → Nat → Option Nat} {S : Nat → Nat × Nat} {nx : Nat} {κ : Nat → Nat} {hb pb : Nat}
variable {ι : Nat → Option (Nat → Nat)} {τ tm : Nat → Nat} {tn : Nat → Nat → Int64} {tp : Nat} {fk fp : Int32} {t : Nat → Nat}
theorem gD_0 {x1 x2 x3 x4 : Int32} (h1 : gL x2 (κ 1)) (h2 : gR x1 0 9 ∧ gR x3 0 999 ∧ gR x4 1 24) : gD κ x1 x2 x3 x4 = 0 := by unfold gD; rw [if_pos h1, if_pos h2]
theorem gD_1 {x1 x2 x3 x4 : Int32} (h1 : ¬ gL x2 (κ 1)) : gD κ x1 x2 x3 x4 = 1 := by unfold gD; rw [if_neg h1]
theorem gD_2 {x1 x2 x3 x4 : Int32} (h1 : gL x2 (κ 1)) (h2 : ¬ (gR x1 0 9 ∧ gR x3 0 999 ∧ gR x4 1 24)) : gD κ x1 x2 x3 x4 = 2 := by unfold gD; rw [if_pos h1, if_neg h2]
theorem CI.same {st : St} (h : CI (I, J, R, S, nx) st) : KF (I, J, R, S, nx) (I, J, R, S, nx) ∧ CI (I, J, R, S, nx) st := ⟨KF.rf, h⟩
theorem scr3 {ow : Nat → Nat} : ∀ a ∈ [27, 28, 29], Scr ow a := by
  intro a ha
  simp at ha
  exact Or.inl (by omega)
theorem scr2 {ow : Nat → Nat} : ∀ a ∈ [27, 28], Scr ow a := by
  intro a ha
  simp at ha
  exact Or.inl (by omega)
theorem degree_p {x1 : Int32} {x2 : Int32} (hl0 : l.stackTraces = false) (hC : CI (I, J, R, S, nx) (κ, ι, (τ, tm, tn), (t, tp), fk, fp)) (hs : sok hb pb κ) (hhb : hb < 2 ^ 28) : Cal l G (k + 3) 40 14000 mX11_degree [.ref 0, .int x1, .int x2] (I, J, R, S, nx) (CQ (I, J, R, S, nx) (ansR [eNS, eIA] (aDegree κ x1 x2)) (κ, ι, (τ, tm, tn), (t, tp), fk, fp)) := by
  have hC0 := hC
  obtain ⟨ow, L, dl, pl, ld, lp, hR, wL, hL, hN, hV, hP⟩ := hC
  have hR : CR I J R S nx ow ι τ tm tn t tp fk fp := hR
  have wL : R 14 0 = some L := wL
  have hL : LdC I R S nx ow L κ dl pl ld lp := hL
  have hN : CN I κ := hN
  have hV : PV I κ := hV
  have hP : PS I 30 31 κ := hP
  have w : CF R S nx := hR.1
  have wl : LW R S nx L dl pl ld lp := hL.1
  have h : CK I κ L dl pl ld lp := ⟨hN, hL.2.1, hV⟩
  have ho := hs.q
  have h1w : κ 1 ≤ 5 := ho.1
  have h2a : κ 2 ≤ 8 := ho.2.1
  have h54 : κ 54 ≤ hb := ho.2.2.2.2.2.2.2.2.2.2.1
  have e1 : I L 1 = nI (κ 1) := h.2.1.1.2.1
  have e2 : I L 2 = nI (κ 2) := h.2.1.1.2.2.1
  have k0 : nd_needWard (I L 1) x1 = (if gL x1 (κ 1) then none else some eNS) := (by rw [e1]; exact ndW (by omega))
  have k1 : nd_needWithin x2 (0 : Int32) (999 : Int32) = (if gR x2 0 999 then none else some eIA) := (ndI (a := 0) (b := 999) (by decide) (by decide))
  by_cases g0 : gL x1 (κ 1)
  · by_cases g1 : gR x2 0 999
    · have c0 : nd_needWard (I L 1) x1 = none := by rw [k0, if_pos g0]
      have c1 : nd_needWithin x2 (0 : Int32) (999 : Int32) = none := by rw [k1, if_pos g1]
      rw [show aDegree κ x1 x2 = (0, nI (qdeg κ (cN x1) (κ 54 + cN x2))) by unfold aDegree; rw [if_pos g0, if_pos g1]]
      refine Cal.of rfl (by decide +kernel) (by simp) (Nat.le_of_ble_eq_true rfl) rfl (sX11_degree_0 (u1 := nI (qdeg κ (cN x1) (κ 54 + cN x2))) (P1 := fun I I' => Fr [27, 28] I I' ∧ CK I' κ L dl pl ld lp) hl0 w wL wl (by decide) (ndy c0) (by decide) (fun _ => ndy c1) (fun _ _ => ?_) (fun _ _ => ?_))
      · obtain ⟨a, rfl, ha, ea⟩ := g0.n (by omega)
        obtain ⟨b, rfl, _, hb2, eb⟩ := g1.n (by omega)
        rw [ea, eb, h.1.h.1, nI_add]
        exact degreeIn_c w wL wl h ho (by omega) (by omega) (by omega)
      · intro I1 h1
        exact ⟨rfl, CI.step hR wL hL h1.1 scr2 h1.2 (hP.fr h1.1 (by decide) (by decide))⟩
    · have c0 : nd_needWard (I L 1) x1 = none := by rw [k0, if_pos g0]
      have c1 : nd_needWithin x2 (0 : Int32) (999 : Int32) = some eIA := by rw [k1, if_neg g1]
      rw [show aDegree κ x1 x2 = (2, 0) by unfold aDegree; rw [if_pos g0, if_neg g1]]
      exact Cal.of rfl (by decide +kernel) (by simp) (Nat.le_of_ble_eq_true rfl) rfl (sX11_degree_0 (u1 := 0) (P1 := fun _ _ => True) hl0 w wL wl (by decide) (ndy c0) (by decide) (fun _ => ndn c1 (fun n' hn => ⟨rfl, CI.thr hC0 hn⟩)) (fun _ g => ndx c1 g) (fun _ g => ndx c1 g))
  · have c0 : nd_needWard (I L 1) x1 = some eNS := by rw [k0, if_neg g0]
    rw [show aDegree κ x1 x2 = (1, 0) by unfold aDegree; rw [if_neg g0]]
    exact Cal.of rfl (by decide +kernel) (by simp) (Nat.le_of_ble_eq_true rfl) rfl (sX11_degree_0 (u1 := 0) (P1 := fun _ _ => True) hl0 w wL wl (by decide) (ndn c0 (fun n' hn => ⟨rfl, CI.thr hC0 hn⟩)) (by decide) (fun g => ndx c0 g) (fun g => ndx c0 g) (fun g => ndx c0 g))
theorem code_p {x1 : Int32} {x2 : Int32} (hl0 : l.stackTraces = false) (hC : CI (I, J, R, S, nx) (κ, ι, (τ, tm, tn), (t, tp), fk, fp)) (hs : sok hb pb κ) (hhb : hb < 2 ^ 28) : Cal l G (k + 4) 40 14000 mX11_code [.ref 0, .int x1, .int x2] (I, J, R, S, nx) (CQ (I, J, R, S, nx) (ansR [eNS, eIA] (aCode κ x1 x2)) (κ, ι, (τ, tm, tn), (t, tp), fk, fp)) := by
  have hC0 := hC
  obtain ⟨ow, L, dl, pl, ld, lp, hR, wL, hL, hN, hV, hP⟩ := hC
  have hR : CR I J R S nx ow ι τ tm tn t tp fk fp := hR
  have wL : R 14 0 = some L := wL
  have hL : LdC I R S nx ow L κ dl pl ld lp := hL
  have hN : CN I κ := hN
  have hV : PV I κ := hV
  have hP : PS I 30 31 κ := hP
  have w : CF R S nx := hR.1
  have wl : LW R S nx L dl pl ld lp := hL.1
  have h : CK I κ L dl pl ld lp := ⟨hN, hL.2.1, hV⟩
  have ho := hs.q
  have h1w : κ 1 ≤ 5 := ho.1
  have h2a : κ 2 ≤ 8 := ho.2.1
  have h54 : κ 54 ≤ hb := ho.2.2.2.2.2.2.2.2.2.2.1
  have e1 : I L 1 = nI (κ 1) := h.2.1.1.2.1
  have e2 : I L 2 = nI (κ 2) := h.2.1.1.2.2.1
  have k0 : nd_needWard (I L 1) x1 = (if gL x1 (κ 1) then none else some eNS) := (by rw [e1]; exact ndW (by omega))
  have k1 : nd_needWithin x2 (0 : Int32) (999 : Int32) = (if gR x2 0 999 then none else some eIA) := (ndI (a := 0) (b := 999) (by decide) (by decide))
  by_cases g0 : gL x1 (κ 1)
  · by_cases g1 : gR x2 0 999
    · have c0 : nd_needWard (I L 1) x1 = none := by rw [k0, if_pos g0]
      have c1 : nd_needWithin x2 (0 : Int32) (999 : Int32) = none := by rw [k1, if_pos g1]
      rw [show aCode κ x1 x2 = (0, nI (qcin κ (cN x1) (κ 54 + cN x2))) by unfold aCode; rw [if_pos g0, if_pos g1]; rfl]
      refine Cal.of rfl (by decide +kernel) (by simp) (Nat.le_of_ble_eq_true rfl) rfl (sX11_code_0 (u1 := nI (qcin κ (cN x1) (κ 54 + cN x2))) (P1 := fun I I' => Fr [27, 28, 29] I I' ∧ CK I' κ L dl pl ld lp) hl0 w wL wl (by decide) (ndy c0) (by decide) (fun _ => ndy c1) (fun _ _ => ?_) (fun _ _ => ?_))
      · obtain ⟨a, rfl, ha, ea⟩ := g0.n (by omega)
        obtain ⟨b, rfl, _, hb2, eb⟩ := g1.n (by omega)
        rw [ea, eb, h.1.h.1, nI_add]
        exact codeIn_c w wL wl h ho (by omega) (by omega) (by omega)
      · intro I1 h1
        exact ⟨rfl, CI.step hR wL hL h1.1 scr3 h1.2 (hP.fr h1.1 (by decide) (by decide))⟩
    · have c0 : nd_needWard (I L 1) x1 = none := by rw [k0, if_pos g0]
      have c1 : nd_needWithin x2 (0 : Int32) (999 : Int32) = some eIA := by rw [k1, if_neg g1]
      rw [show aCode κ x1 x2 = (2, 0) by unfold aCode; rw [if_pos g0, if_neg g1]]
      exact Cal.of rfl (by decide +kernel) (by simp) (Nat.le_of_ble_eq_true rfl) rfl (sX11_code_0 (u1 := 0) (P1 := fun _ _ => True) hl0 w wL wl (by decide) (ndy c0) (by decide) (fun _ => ndn c1 (fun n' hn => ⟨rfl, CI.thr hC0 hn⟩)) (fun _ g => ndx c1 g) (fun _ g => ndx c1 g))
  · have c0 : nd_needWard (I L 1) x1 = some eNS := by rw [k0, if_neg g0]
    rw [show aCode κ x1 x2 = (1, 0) by unfold aCode; rw [if_neg g0]]
    exact Cal.of rfl (by decide +kernel) (by simp) (Nat.le_of_ble_eq_true rfl) rfl (sX11_code_0 (u1 := 0) (P1 := fun _ _ => True) hl0 w wL wl (by decide) (ndn c0 (fun n' hn => ⟨rfl, CI.thr hC0 hn⟩)) (by decide) (fun g => ndx c0 g) (fun g => ndx c0 g) (fun g => ndx c0 g))
theorem fine_p {x1 : Int32} {x2 : Int32} {x3 : Int32} {x4 : Int32} (hl0 : l.stackTraces = false) (hC : CI (I, J, R, S, nx) (κ, ι, (τ, tm, tn), (t, tp), fk, fp)) (hs : sok hb pb κ) (hhb : hb < 2 ^ 28) : Cal l G (k + 4) 40 14000 mX11_fine [.ref 0, .int x1, .int x2, .int x3, .int x4] (I, J, R, S, nx) (CQ (I, J, R, S, nx) (ansR [eNS, eIA] (aFine κ x1 x2 x3 x4)) (κ, ι, (τ, tm, tn), (t, tp), fk, fp)) := by
  have hC0 := hC
  obtain ⟨ow, L, dl, pl, ld, lp, hR, wL, hL, hN, hV, hP⟩ := hC
  have hR : CR I J R S nx ow ι τ tm tn t tp fk fp := hR
  have wL : R 14 0 = some L := wL
  have hL : LdC I R S nx ow L κ dl pl ld lp := hL
  have hN : CN I κ := hN
  have hV : PV I κ := hV
  have hP : PS I 30 31 κ := hP
  have w : CF R S nx := hR.1
  have wl : LW R S nx L dl pl ld lp := hL.1
  have h : CK I κ L dl pl ld lp := ⟨hN, hL.2.1, hV⟩
  have ho := hs.q
  have h1w : κ 1 ≤ 5 := ho.1
  have h2a : κ 2 ≤ 8 := ho.2.1
  have h54 : κ 54 ≤ hb := ho.2.2.2.2.2.2.2.2.2.2.1
  have e1 : I L 1 = nI (κ 1) := h.2.1.1.2.1
  have e2 : I L 2 = nI (κ 2) := h.2.1.1.2.2.1
  have k0 : nd_needDeed (I L 1) x1 x2 x4 = (if gL x2 (κ 1) then (if gR x1 0 9 ∧ gR x4 1 24 then none else some eIA) else some eNS) := (by rw [e1]; exact ndD (by omega))
  have k1 : nd_needWithin x3 (0 : Int32) (999 : Int32) = (if gR x3 0 999 then none else some eIA) := (ndI (a := 0) (b := 999) (by decide) (by decide))
  by_cases g0 : gL x2 (κ 1)
  · by_cases g1 : gR x1 0 9 ∧ gR x4 1 24
    · by_cases g2 : gR x3 0 999
      · have c0 : nd_needDeed (I L 1) x1 x2 x4 = none := by rw [k0, if_pos g0, if_pos g1]
        have c1 : nd_needWithin x3 (0 : Int32) (999 : Int32) = none := by rw [k1, if_pos g2]
        rw [show aFine κ x1 x2 x3 x4 = (0, nI (qcost κ (cN x1) (cN x2) (κ 54 + cN x3) (cN x4))) by unfold aFine; rw [gD_0 g0 ⟨g1.1, g2, g1.2⟩]; rfl]
        refine Cal.of rfl (by decide +kernel) (by simp) (Nat.le_of_ble_eq_true rfl) rfl (sX11_fine_0 (u1 := nI (qcost κ (cN x1) (cN x2) (κ 54 + cN x3) (cN x4))) (P1 := fun I I' => Fr [27, 28, 29] I I' ∧ CK I' κ L dl pl ld lp) hl0 w wL wl (by decide) (ndy c0) (by decide) (fun _ => ndy c1) (fun _ _ => ?_) (fun _ _ => ?_))
        · obtain ⟨a, rfl, _, ha, ea⟩ := g1.1.n (by omega)
          obtain ⟨b, rfl, hb2, eb⟩ := g0.n (by omega)
          obtain ⟨c, rfl, _, hc, ec⟩ := g2.n (by omega)
          obtain ⟨d, rfl, hd1, hd, ed⟩ := g1.2.n (by omega)
          rw [ea, eb, ec, ed, h.1.h.1, nI_add]
          exact fineOfDeed_c w wL wl h ho (by omega) (by omega) (by omega) (by omega) ⟨hd1, hd⟩
        · intro I1 h1
          exact ⟨rfl, CI.step hR wL hL h1.1 scr3 h1.2 (hP.fr h1.1 (by decide) (by decide))⟩
      · have c0 : nd_needDeed (I L 1) x1 x2 x4 = none := by rw [k0, if_pos g0, if_pos g1]
        have c1 : nd_needWithin x3 (0 : Int32) (999 : Int32) = some eIA := by rw [k1, if_neg g2]
        rw [show aFine κ x1 x2 x3 x4 = (2, 0) by unfold aFine; rw [gD_2 g0 (fun g => g2 g.2.1)]; rfl]
        exact Cal.of rfl (by decide +kernel) (by simp) (Nat.le_of_ble_eq_true rfl) rfl (sX11_fine_0 (u1 := 0) (P1 := fun _ _ => True) hl0 w wL wl (by decide) (ndy c0) (by decide) (fun _ => ndn c1 (fun n' hn => ⟨rfl, CI.thr hC0 hn⟩)) (fun _ g => ndx c1 g) (fun _ g => ndx c1 g))
    · have c0 : nd_needDeed (I L 1) x1 x2 x4 = some eIA := by rw [k0, if_pos g0, if_neg g1]
      rw [show aFine κ x1 x2 x3 x4 = (2, 0) by unfold aFine; rw [gD_2 g0 (fun g => g1 ⟨g.1, g.2.2⟩)]; rfl]
      exact Cal.of rfl (by decide +kernel) (by simp) (Nat.le_of_ble_eq_true rfl) rfl (sX11_fine_0 (u1 := 0) (P1 := fun _ _ => True) hl0 w wL wl (by decide) (ndn c0 (fun n' hn => ⟨rfl, CI.thr hC0 hn⟩)) (by decide) (fun g => ndx c0 g) (fun g => ndx c0 g) (fun g => ndx c0 g))
  · have c0 : nd_needDeed (I L 1) x1 x2 x4 = some eNS := by rw [k0, if_neg g0]
    rw [show aFine κ x1 x2 x3 x4 = (1, 0) by unfold aFine; rw [gD_1 g0]; rfl]
    exact Cal.of rfl (by decide +kernel) (by simp) (Nat.le_of_ble_eq_true rfl) rfl (sX11_fine_0 (u1 := 0) (P1 := fun _ _ => True) hl0 w wL wl (by decide) (ndn c0 (fun n' hn => ⟨rfl, CI.thr hC0 hn⟩)) (by decide) (fun g => ndx c0 g) (fun g => ndx c0 g) (fun g => ndx c0 g))
end A
