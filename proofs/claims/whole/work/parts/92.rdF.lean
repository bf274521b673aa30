/-! the class: wards and acts read -/
/-- a land as it is being read: what it holds of the told row f -/
def LLw (I : Nat → Nat → Int32) (f : Nat → Nat) (dl pl ld lp : Nat) : Prop := (ld = f 3 ∧ ∀ i, i < f 3 → I dl i = cst false (f (572 + i))) ∧ (lp = f 4 ∧ ∀ i, i < f 4 → I pl i = cst true (f (1472 + i)))
def LL (I : Nat → Nat → Int32) (f : Nat → Nat) (L dl pl ld lp : Nat) : Prop := (I L 0 = nI (f 0) ∧ I L 1 = nI (f 1) ∧ I L 2 = nI (f 2) ∧ I L 3 = nI (f 54) ∧ I L 4 = nI (f 6)) ∧ (∀ u, u < 5 → I (L + 1) u = nI (f (56 + u)) ∧ I (L + 2) u = nI (f (61 + u))) ∧ (∀ a, a < 8 → I (L + 3) a = nI (f (66 + a)) ∧ I (L + 4) a = nI (f (74 + a)) ∧ I (L + 5) a = nI (f (37 + a)) ∧ I (L + 6) a = nI (f (45 + a))) ∧ (∀ kd, kd < 10 → I (L + 7) kd = nI (qkind f kd)) ∧ LLw I f dl pl ld lp
/-- where the land lies -/
def LPl (L dl pl : Nat) : Prop := 72 ≤ L ∧ L + 8 ≤ dl ∧ L + 8 ≤ pl
def rowsL (L : Nat) : List Nat := [L, L + 1, L + 2, L + 3, L + 4, L + 5, L + 6, L + 7]
def FW (L : Nat) (I I' : Nat → Nat → Int32) : Prop := F1 (rowsL L) [3, 4, 5, 6, 11, 12] I I'
theorem qkind_g {f g : Nat → Nat} {kd : Nat} (h2 : f 2 ≤ 8) (h : ∀ i, (i = 2 ∨ (66 ≤ i ∧ i < 74)) → g i = f i) : qkind g kd = qkind f kd := by
  unfold qkind
  rw [h 2 (Or.inl rfl)]
  exact bset_congr (fun a ha => by rw [h (66 + a) (by omega)])
theorem ybs_s {t : Nat → Nat} {n w f set : Nat} {s : Tok} : ybs t n w (f + 1) set s = xb (ynum t n 0 w s) (fun r => if r.2.2.2.1 = 256 then ybs t n w f (set ||| 2 ^ r.1) r.2 else .inr (set ||| 2 ^ r.1, r.2)) := rfl
theorem zr_bm {t : Nat → Nat} {n c : Nat} {z : Zt} {e : Er} (h : zr z = .inl e) : zr (zmu t n c z) = .inl e := by rw [zr_mu, h]; rfl
theorem zr_bn {t : Nat → Nat} {n lo hi : Nat} {z : Zt} {e : Er} (h : zr z = .inl e) : zr (znu t n lo hi z).2 = .inl e := by rw [zr_nu.1, h]; rfl
theorem znu_y {t : Nat → Nat} {n lo hi : Nat} {z : Zt} (h : (znu t n lo hi z).2.1 = none) : ∃ s, zr z = .inr s ∧ ynum t n lo hi s = .inr ((znu t n lo hi z).1, (znu t n lo hi z).2.2) := by
  have h1 := (zr_nu (t := t) (n := n) (lo := lo) (hi := hi) (z := z)).1
  have h2 := (zr_nu (t := t) (n := n) (lo := lo) (hi := hi) (z := z)).2
  have h3 : zr (znu t n lo hi z).2 = .inr (znu t n lo hi z).2.2 := by unfold zr; rw [h]
  cases hz : zr z with
  | inl e => rw [hz] at h1; rw [h3] at h1; cases h1
  | inr s =>
    refine ⟨s, rfl, ?_⟩
    rw [hz] at h1 h2
    have h1' : zr (znu t n lo hi z).2 = xb (ynum t n lo hi s) (fun v => .inr v.2) := h1
    cases hq : ynum t n lo hi s with
    | inl e => rw [hq, h3] at h1'; cases h1'
    | inr r =>
      rw [hq, h3] at h1'
      rw [h2 r hq, Sum.inr.inj h1']
section A
variable {l : Launch} {G : Gh} {k : Nat} {I : Nat → Nat → Int32} {J : Nat → Nat → Int64} {R : Nat → Nat → Option Nat} {S : Nat → Nat × Nat} {nx : Nat} {κ : Nat → Nat} {hb pb : Nat}
variable {t : Nat → Nat} {n F : Nat} {z : Zt} {L dl pl ld lp : Nat} {f : Nat → Nat}
theorem LL.f1 {rs fs : List Nat} {I' : Nat → Nat → Int32} (h : LL I f L dl pl ld lp) (hp : LPl L dl pl) (hF : F1 rs fs I I') (hr : ∀ a ∈ rs, a < 72) : LL I' f L dl pl ld lp := by
  obtain ⟨p1, p2, p3⟩ := hp
  have e : ∀ a, 72 ≤ a → I' a = I a := fun a ha => hF.1 a (by omega) (fun g => by have := hr a g; omega)
  obtain ⟨h1, h2, h3, h4, h5, h6⟩ := h
  unfold LL LLw
  rw [e L p1, e (L + 1) (by omega), e (L + 2) (by omega), e (L + 3) (by omega), e (L + 4) (by omega), e (L + 5) (by omega), e (L + 6) (by omega), e (L + 7) (by omega), e dl (by omega), e pl (by omega)]
  exact ⟨h1, h2, h3, h4, h5, h6⟩
theorem LL.w {g : Nat → Nat} (h : LLw I f dl pl ld lp) (e : ∀ i, (i = 3 ∨ i = 4 ∨ 572 ≤ i) → g i = f i) : LLw I g dl pl ld lp := by
  obtain ⟨⟨h1, h2⟩, h3, h4⟩ := h
  unfold LLw
  rw [e 3 (by omega), e 4 (by omega)]
  exact ⟨⟨h1, fun i hi => by rw [e (572 + i) (by omega)]; exact h2 i hi⟩, h3, fun i hi => by rw [e (1472 + i) (by omega)]; exact h4 i hi⟩
theorem bad0 (h : CX I t n z) {e : Er} (hz : zr z = .inl e) : ¬ I 1 11 = 0 := by rw [h.bad, zr_l hz]; exact fun g => by cases g
/-- beside, with some told already -/
def BS (I : Nat → Nat → Int32) (f : Nat → Nat) (L wn set : Nat) : Prop := ∀ u, u < 5 → I (L + 2) u = nI (if u = wn then set else if u < wn ∧ set.testBit u = true then f (61 + u) ||| 2 ^ wn else f (61 + u))
theorem readBeside_c {wn set : Nat} (w : CF R S nx) (wR : R 1 7 = some L) (wl : LW R S nx L dl pl ld lp) (hL : 72 ≤ L) (hG : GT G) (h : CX I t n z) (hw : wn < 5) (hB : z.1 = none → BS I f L wn set) : Cal l G (k + 8) 0 0 mX6_readBeside [.ref 1, .int (nI wn)] (I, J, R, S, nx) (fun r μ' => r = .inl none ∧ ∃ I', μ' = (I', J, R, S, nx) ∧ F1 [L + 2] [3, 4, 5, 6, 11, 12] I I' ∧ CX I' t n (znu t n 0 wn z).2 ∧ ((znu t n 0 wn z).2.1 = none → BS I' f L wn (set ||| 2 ^ (znu t n 0 wn z).1) ∧ (znu t n 0 wn z).1 < wn)) := by
  have hy : (nI wn - (1 : Int32)).toInt = (wn : Int) - 1 := by rw [show (1 : Int32) = nI 1 from rfl, nI_z, nI_z, zI_sub, zI_toInt (by omega)]; rfl
  have hn := takeNumber_z (l := l) (k := k) (J := J) (lo := 0) (hi := wn) w hG h (by decide) (by omega) hy
  have hok : (znu t n 0 wn z).2.1 = none → z.1 = none ∧ (znu t n 0 wn z).1 < wn := fun g => by
    obtain ⟨s, h1, h2⟩ := znu_y g
    exact ⟨by rw [zr_i h1], (ynum_lt h2).2.1⟩
  obtain ⟨vz, hvz⟩ : ∃ vz, znu t n 0 wn z = vz := ⟨_, rfl⟩
  rw [hvz] at hn hok ⊢
  have hb : ∀ I1 : Nat → Nat → Int32, (F1 [] [3, 4, 5, 6, 11, 12] I I1 ∧ CX I1 t n vz.2) → I1 1 11 = 0 → vp_in (nI vz.1) 5 := fun I1 h1 g => by
    rw [h1.2.bad] at g
    exact vp_in_nI (by have := (hok g).2; omega) (by decide)
  refine Cal.of rfl (by decide +kernel) (by simp) (Nat.le_of_ble_eq_true rfl) rfl (sX6_readBeside_0 (u1 := nI vz.1) (P1 := fun I I' => F1 [] [3, 4, 5, 6, 11, 12] I I' ∧ CX I' t n vz.2) w wR wl hn ?_ (fun _ _ _ => vp_in_nI hw (by decide)) (fun _ _ _ => vp_in_nI hw (by decide)) hb hb ?_)
  · intro I1 h1 g
    refine ⟨rfl, _, rfl, h1.1.wk (by simp) (fun _ h => h), h1.2, fun g2 => ?_⟩
    rw [h1.2.bad] at g
    exact absurd g2 g
  · intro I1 h1 g
    have g' := g
    rw [h1.2.bad] at g'
    obtain ⟨o1, o2⟩ := hok g'
    have hB1 := hB o1
    have eL : I1 (L + 2) = I (L + 2) := h1.1.1 _ (by omega) (by simp)
    have hB2 : BS I1 f L wn set := fun u hu => by rw [eL]; exact hB1 u hu
    rw [nI_clamp (by omega), nI_clamp (by omega), shl_n (by omega), shl_n (by omega)]
    have hF : ∀ v1 v2 : Int32, F1 [L + 2] [3, 4, 5, 6, 11, 12] I1 (up2 (up2 I1 (L + 2) wn v1) (L + 2) vz.1 v2) := fun v1 v2 => (F1.rf.up (by simp) (by omega)).up (by simp) (by omega)
    refine ⟨rfl, _, rfl, (h1.1.wk (by simp) (fun _ h => h)).t (hF _ _), ?_, fun _ => ⟨fun u hu => ?_, o2⟩⟩
    · have hF2 : ∀ v1 v2 : Int32, F1 [L + 2] [] I1 (up2 (up2 I1 (L + 2) wn v1) (L + 2) vz.1 v2) := fun v1 v2 => (F1.rf.up (by simp) (by omega)).up (by simp) (by omega)
      exact h1.2.f1 (hF2 _ _) (by simp; omega) (by simp)
    · have hwv : vz.1 ≠ wn := by omega
      simp only [up2, if_true]
      rw [if_neg hwv]
      have bW := hB2 wn hw
      have bV := hB2 vz.1 (by omega)
      rw [if_pos rfl] at bW
      rw [if_neg hwv] at bV
      have tb : (set ||| 2 ^ vz.1).testBit u = (set.testBit u || decide (vz.1 = u)) := by rw [Nat.testBit_or, Nat.testBit_two_pow]
      by_cases cu : u = vz.1
      · subst cu
        have hyy : vz.1 < wn ∧ (set ||| 2 ^ vz.1).testBit vz.1 = true := ⟨o2, by rw [tb]; simp⟩
        rw [if_pos rfl, if_neg hwv, if_pos hyy, bV, fa_or]
        congr 1
        by_cases cb : vz.1 < wn ∧ set.testBit vz.1 = true
        · rw [if_pos cb, Nat.or_assoc, Nat.or_self]
        · rw [if_neg cb]
      · rw [if_neg cu]
        by_cases cw : u = wn
        · subst cw
          rw [if_pos rfl, if_pos rfl, bW, fa_or]
        · rw [if_neg cw, if_neg cw, hB2 u hu, if_neg cw]
          have : (set ||| 2 ^ vz.1).testBit u = set.testBit u := by rw [tb]; simp [Ne.symm cu]
          rw [this]
theorem readWard_c {s : Tok} (w : CF R S nx) (wR : R 1 7 = some L) (wl : LW R S nx L dl pl ld lp) (hp : LPl L dl pl) (hG : GT G) (hF : n < F) (h : CX I t n (none, s)) (hl : LL I f L dl pl ld lp) (hz : Z1 f) (h2 : f 2 ≤ 8) : Cal l G (k + 9) 0 0 mX6_readWard [.ref 1] (I, J, R, S, nx) (fun r μ' => r = .inl none ∧ ∃ I', μ' = (I', J, R, S, nx) ∧ FW L I I' ∧ ∃ z', CX I' t n z' ∧ zr z' = lt1 (yward t n F (s, f)) ∧ ∀ s', yward t n F (s, f) = .inr s' → LL I' s'.2 L dl pl ld lp) := by
  obtain ⟨p1, p2, p3⟩ := hp
  have hx := h.tx
  obtain ⟨wn, hwn⟩ : ∃ wn, f 1 = wn := ⟨_, rfl⟩
  have e1 : I L 1 = nI wn := by rw [← hwn]; exact hl.1.2.1
  have hw5 : wn ≤ 5 := by rw [← hwn]; exact hz.1
  have elt : (I L 1 < (5 : Int32)) = (wn < 5) := by rw [e1]; exact propext (nI_ltI (b := 5) (by omega) (by decide))
  obtain ⟨Y, hY⟩ : ∃ Y, yward t n F (s, f) = Y := ⟨_, rfl⟩
  have hY2 := hY
  unfold yward at hY2
  rw [show (s, f).2 1 = wn from hwn] at hY2
  rw [hY]
  by_cases c5 : wn = 5
  · have d1 : ¬ I L 1 < (5 : Int32) := by rw [elt]; omega
    rw [if_pos c5] at hY2
    have hf := fail_z (kd := 4) h (by decide)
    refine Cal.of rfl (by decide +kernel) (by simp) (Nat.le_of_ble_eq_true rfl) rfl (sX6_readWard_0 (u2 := 0) (P1 := fun _ _ => True) (P2 := fun _ _ => True) (P3 := fun _ _ => True) (P4 := fun _ _ => True) w wR wl ?_ ?_ ?_ ?_ ?_ ?_ ?_ ?_ ?_) <;> intros <;> (first | exact absurd (by with_reducible assumption) d1 | exact absurd d1 (by with_reducible assumption) | skip)
    refine ⟨rfl, _, rfl, hf.1.wk (by simp) (by decide), _, hf.2, by rw [← hY2]; rfl, fun s' hs => by rw [← hY2] at hs; cases hs⟩
  · have hw : wn < 5 := by omega
    have d1 : I L 1 < (5 : Int32) := by rw [elt]; exact hw
    rw [if_neg c5] at hY2
    -- the degree
    obtain ⟨z1, hz1⟩ : ∃ z1, zad t n (none, s) = z1 := ⟨_, rfl⟩
    obtain ⟨v2, hv2⟩ : ∃ v2, znu t n 0 100 z1 = v2 := ⟨_, rfl⟩
    have hzr1 : zr z1 = .inr (ynx t n s.1) := by rw [← hz1]; rfl
    have nu2 := zr_nu (t := t) (n := n) (lo := 0) (hi := 100) (z := z1)
    rw [hv2, hzr1] at nu2
    have nu2' : zr v2.2 = xb (ynum t n 0 100 (ynx t n s.1)) (fun v => .inr v.2) := nu2.1
    have hA1 := adv_z (l := l) (k := k + 2) (J := J) w hG h
    rw [hz1] at hA1
    have hA2 : ∀ I1 : Nat → Nat → Int32, (F1 [] [3, 4, 5, 6] I I1 ∧ CX I1 t n z1) → Cal l G (k + 8) 0 0 mX6_takeNumber [.ref 1, .int (0 : Int32), .int (99 : Int32)] (I1, J, R, S, nx) (fun r μ' => r = .inl (some (.int (nI v2.1))) ∧ ∃ I', μ' = (I', J, R, S, nx) ∧ F1 [] [3, 4, 5, 6, 11, 12] I1 I' ∧ CX I' t n v2.2) := by
      intro I1 h1
      have := takeNumber_z (l := l) (k := k + 1) (J := J) (lo := 0) (hi := 100) (y := 99) w hG h1.2 (by decide) (by decide) (by decide)
      rw [hv2] at this
      exact this
    -- after the degree
    have aft : ∀ I1 I2 : Nat → Nat → Int32, (F1 [] [3, 4, 5, 6] I I1 ∧ CX I1 t n z1) → (F1 [] [3, 4, 5, 6, 11, 12] I1 I2 ∧ CX I2 t n v2.2) → FW L I (up2 I2 (L + 1) (I L 1).toNatClampNeg (nI v2.1)) ∧ CX (up2 I2 (L + 1) (I L 1).toNatClampNeg (nI v2.1)) t n v2.2 ∧ (∀ a, a ≠ 1 → a ≠ L + 1 → (up2 I2 (L + 1) (I L 1).toNatClampNeg (nI v2.1)) a = I a) ∧ (∀ u, (up2 I2 (L + 1) (I L 1).toNatClampNeg (nI v2.1)) (L + 1) u = if u = wn then nI v2.1 else I (L + 1) u) := by
      intro I1 I2 h1 h2
      have hFa : F1 [] [3, 4, 5, 6, 11, 12] I I2 := (h1.1.wk (fun _ h => h) (by decide)).t h2.1
      rw [e1, nI_clamp (by omega)]
      have hF1 : F1 [L + 1] [3, 4, 5, 6, 11, 12] I (up2 I2 (L + 1) wn (nI v2.1)) := (hFa.wk (by simp) (fun _ h => h)).up (by simp) (by omega)
      have hF2 : F1 [L + 1] [] I2 (up2 I2 (L + 1) wn (nI v2.1)) := F1.rf.up (by simp) (by omega)
      refine ⟨hF1.wk (by simp [rowsL]) (fun _ h => h), h2.2.f1 hF2 (by simp; omega) (by simp), fun a a1 a2 => hF1.1 a a1 (by simpa using a2), fun u => ?_⟩
      simp only [up2, if_true]
      rw [hFa.1 (L + 1) (by omega) (by simp)]
    -- the end
    have fin : ∀ (I5 : Nat → Nat → Int32) (z5 : Zt) (bs : Nat) (st : Nat), FW L I I5 → CX I5 t n z5 → zr z5 = lt1 Y → (∀ s', Y = .inr s' → s'.2 = ytw f wn bs st ∧ BS I5 f L wn st ∧ (∀ u, I5 (L + 1) u = if u = wn then nI bs else I (L + 1) u) ∧ ∀ a, a ≠ 1 → a ≠ L + 1 → a ≠ L + 2 → I5 a = I a) → hX6_readWard_102 l G k (fun r μ' => r = .inl none ∧ ∃ I', μ' = (I', J, R, S, nx) ∧ FW L I I' ∧ ∃ z', CX I' t n z' ∧ zr z' = lt1 Y ∧ ∀ s', Y = .inr s' → LL I' s'.2 L dl pl ld lp) (I5, J, R, S, nx) := by
      intro I5 z5 bs st hFW hC hzr hok
      refine sX6_readWard_102 w wR wl ?_
      have hF1 : F1 [L] [] I5 (up2 I5 L 1 (I5 L 1 + (1 : Int32))) := F1.rf.up (by simp) (by omega)
      refine ⟨rfl, _, rfl, hFW.t (hF1.wk (by simp [rowsL]) (by simp)), z5, hC.f1 hF1 (by simp; omega) (by simp), hzr, fun s' hs => ?_⟩
      obtain ⟨k1, k2, k3, k4⟩ := hok s' hs
      rw [k1]
      have e' : ∀ a, a ≠ L → (up2 I5 L 1 (I5 L 1 + (1 : Int32))) a = I5 a := fun a ha => by funext j; unfold up2; rw [if_neg ha]
      have eL0 : ∀ j, j ≠ 1 → (up2 I5 L 1 (I5 L 1 + (1 : Int32))) L j = I L j := fun j hj => by
        rw [up2_row]; show (if j = 1 then _ else _) = _; rw [if_neg hj, k4 L (by omega) (by omega) (by omega)]
      have eL1 : (up2 I5 L 1 (I5 L 1 + (1 : Int32))) L 1 = nI (wn + 1) := by
        rw [up2_row]; show (if 1 = 1 then _ else _) = _; rw [if_pos rfl, k4 L (by omega) (by omega) (by omega), e1, nI_1]
      have oth : ∀ i, i ≠ 1 → ¬ (56 ≤ i ∧ i < 66) → ytw f wn bs st i = f i := fun i h1 h2 => by
        unfold ytw; rw [if_neg h1, if_neg (by omega), if_neg (by omega), if_neg (by omega)]
      obtain ⟨q1, q2, q3, q4, q5⟩ := hl
      refine ⟨⟨?_, ?_, ?_, ?_, ?_⟩, fun u hu => ⟨?_, ?_⟩, fun a ha => ?_, fun kd hk => ?_, ?_⟩
      · rw [eL0 0 (by decide), oth 0 (by decide) (by omega)]; exact q1.1
      · rw [eL1, ytw_1]
      · rw [eL0 2 (by decide), oth 2 (by decide) (by omega)]; exact q1.2.2.1
      · rw [eL0 3 (by decide), oth 54 (by decide) (by omega)]; exact q1.2.2.2.1
      · rw [eL0 4 (by decide), oth 6 (by decide) (by omega)]; exact q1.2.2.2.2
      · rw [e' (L + 1) (by omega), k3 u]
        by_cases cu : u = wn
        · rw [if_pos cu]
          unfold ytw
          rw [if_neg (show ¬ 56 + u = 1 by omega), if_pos (show 56 + u = 56 + wn by omega)]
        · rw [if_neg cu]
          unfold ytw
          rw [if_neg (show ¬ 56 + u = 1 by omega), if_neg (show ¬ 56 + u = 56 + wn by omega), if_neg (show ¬ 56 + u = 61 + wn by omega), if_neg (by omega)]; exact (q2 u hu).1
      · rw [e' (L + 2) (by omega), k2 u hu, ytw_61 hw hu]
      · rw [e' (L + 3) (by omega), e' (L + 4) (by omega), e' (L + 5) (by omega), e' (L + 6) (by omega), k4 (L + 3) (by omega) (by omega) (by omega), k4 (L + 4) (by omega) (by omega) (by omega), k4 (L + 5) (by omega) (by omega) (by omega), k4 (L + 6) (by omega) (by omega) (by omega), oth (66 + a) (by omega) (by omega), oth (74 + a) (by omega) (by omega), oth (37 + a) (by omega) (by omega), oth (45 + a) (by omega) (by omega)]
        exact q3 a ha
      · rw [e' (L + 7) (by omega), k4 (L + 7) (by omega) (by omega) (by omega), qkind_g (f := f) h2 (fun i hi => oth i (by omega) (by omega))]
        exact q4 kd hk
      · refine LL.w (f := f) ?_ (fun i hi => oth i (by omega) (by omega))
        unfold LLw
        rw [e' dl (by omega), e' pl (by omega), k4 dl (by omega) (by omega) (by omega), k4 pl (by omega) (by omega) (by omega)]
        exact q5
    have BS0 : BS I f L wn 0 := fun u hu => by
      rw [(hl.2.1 u hu).2]
      by_cases cu : u = wn
      · rw [if_pos cu]; rw [hz.2.2.2.2 u hu (by omega)]
      · rw [if_neg cu, if_neg (by simp)]
    have BS.of : ∀ {I5 I6 : Nat → Nat → Int32} {st : Nat}, BS I5 f L wn st → I6 (L + 2) = I5 (L + 2) → BS I6 f L wn st := fun h e u hu => by rw [e]; exact h u hu
    refine Cal.of rfl (by decide +kernel) (by simp) (Nat.le_of_ble_eq_true rfl) rfl (sX6_readWard_0 (u2 := nI v2.1) (P1 := fun I I' => F1 [] [3, 4, 5, 6] I I' ∧ CX I' t n z1) (P2 := fun I I' => F1 [] [3, 4, 5, 6, 11, 12] I I' ∧ CX I' t n v2.2) (P3 := fun I I' => F1 [] [3, 4, 5, 6] I I' ∧ CX I' t n (zad t n v2.2)) (P4 := fun I I' => F1 [L + 2] [3, 4, 5, 6, 11, 12] I I' ∧ CX I' t n (znu t n 0 wn (zad t n v2.2)).2 ∧ ((znu t n 0 wn (zad t n v2.2)).2.1 = none → BS I' f L wn (0 ||| 2 ^ (znu t n 0 wn (zad t n v2.2)).1) ∧ (znu t n 0 wn (zad t n v2.2)).1 < wn)) w wR wl (fun _ => hA1) (fun _ I1 h1 => hA2 I1 h1) (fun _ _ _ _ _ => by rw [e1]; exact vp_in_nI hw (by decide)) ?_ ?_ ?_ ?_ ?_ ?_) <;> intros <;> (first | exact absurd (by with_reducible assumption) d1 | exact absurd d1 (by with_reducible assumption) | skip)
    · -- a fault
      rename_i I1 h1 I2 h2' g
      obtain ⟨a1, a2, a3, a4⟩ := aft I1 I2 h1 h2'
      rw [a2.bad] at g
      obtain ⟨e, he⟩ : ∃ e, v2.2.1 = some e := by
        cases hq : v2.2.1 with
        | none => exact absurd hq g
        | some e => exact ⟨e, rfl⟩
      have hzl : zr v2.2 = .inl e := by unfold zr; rw [he]
      rw [hzl] at nu2'
      have hYe : Y = .inl e := by
        rw [← hY2]
        cases hq : ynum t n 0 100 (ynx t n s.1) with
        | inl e' =>
          rw [hq] at nu2'
          have : e = e' := Sum.inl.inj nu2'
          rw [this]; rfl
        | inr r => rw [hq] at nu2'; cases nu2'
      exact fin _ v2.2 0 0 a1 a2 (by rw [hzl, hYe]; rfl) (fun s' hs => by rw [hYe] at hs; cases hs)
    · -- nothing beside
      rename_i I1 h1 I2 h2' g g7
      obtain ⟨a1, a2, a3, a4⟩ := aft I1 I2 h1 h2'
      rw [a2.bad] at g
      rw [show (307 : Int32) = nI 307 from rfl, a2.tok (by decide)] at g7
      have hzi : zr v2.2 = .inr v2.2.2 := by unfold zr; rw [g]
      rw [hzi] at nu2'
      cases hq : ynum t n 0 100 (ynx t n s.1) with
      | inl e' => rw [hq] at nu2'; cases nu2'
      | inr r =>
        rw [hq] at nu2' hY2
        have er : v2.2.2 = r.2 := Sum.inr.inj nu2'
        have ev : v2.1 = r.1 := nu2.2 r hq
        have hYe : Y = .inr (v2.2.2, ytw f wn v2.1 0) := by
          rw [← hY2, er, ev]
          show xb (if r.2.2.2.1 = 307 then _ else _) _ = _
          rw [if_neg (by rw [← er]; exact g7)]; rfl
        refine fin _ v2.2 v2.1 0 a1 a2 (by rw [hzi, hYe]; rfl) (fun s' hs => ?_)
        rw [hYe] at hs
        rw [← Sum.inr.inj hs]
        exact ⟨rfl, BS.of BS0 (a3 (L + 2) (by omega) (by omega)), a4, fun a x1 x2 _ => a3 a x1 x2⟩
    · rename_i I1 h1 I2 h2' g g7
      obtain ⟨a1, a2, a3, a4⟩ := aft I1 I2 h1 h2'
      exact adv_z (k := k + 2) w hG a2
    · rename_i I1 h1 I2 h2' g g7 I3 h3
      obtain ⟨a1, a2, a3, a4⟩ := aft I1 I2 h1 h2'
      rw [e1]
      exact readBeside_c w wR wl p1 hG h3.2 hw (fun _ => BS.of BS0 ((h3.1.1 (L + 2) (by omega) (by simp)).trans (a3 (L + 2) (by omega) (by omega))))
    · rename_i I1 h1 I2 h2' g g7 I3 h3 I4 h4
      obtain ⟨a1, a2, a3, a4⟩ := aft I1 I2 h1 h2'
      rw [a2.bad] at g
      rw [show (307 : Int32) = nI 307 from rfl, a2.tok (by decide)] at g7
      have hzi : zr v2.2 = .inr v2.2.2 := by unfold zr; rw [g]
      rw [hzi] at nu2'
      cases hq : ynum t n 0 100 (ynx t n s.1) with
      | inl e' => rw [hq] at nu2'; cases nu2'
      | inr r =>
        rw [hq] at nu2' hY2
        have er : v2.2.2 = r.2 := Sum.inr.inj nu2'
        have ev : v2.1 = r.1 := nu2.2 r hq
        have hYe : Y = xb (ybs t n wn F 0 (ynx t n v2.2.2.1)) (fun r2 => .inr (r2.2, ytw f wn v2.1 r2.1)) := by
          rw [← hY2, er, ev]
          show xb (if r.2.2.2.1 = 307 then _ else _) _ = _
          rw [if_pos (by rw [← er]; exact g7)]
        -- the others
        have loop : ∀ (q i : Nat) (I5 : Nat → Nat → Int32) (z5 : Zt) (st : Nat), FW L I I5 → CX I5 t n z5 → (∀ a, a ≠ 1 → a ≠ L + 1 → a ≠ L + 2 → I5 a = I a) → (∀ u, I5 (L + 1) u = if u = wn then nI v2.1 else I (L + 1) u) → (z5.1 = none → BS I5 f L wn st ∧ F ≤ q + z5.2.2.1 ∧ i ≤ z5.2.2.1) → Y = xb (xb (zr z5) (fun s => if s.2.2.1 = 256 then ybs t n wn q st s else .inr (st, s))) (fun r2 => .inr (r2.2, ytw f wn v2.1 r2.1)) →
            hX6_readWard_67 l G k (fun r μ' => r = .inl none ∧ ∃ I', μ' = (I', J, R, S, nx) ∧ FW L I I' ∧ ∃ z', CX I' t n z' ∧ zr z' = lt1 Y ∧ ∀ s', Y = .inr s' → LL I' s'.2 L dl pl ld lp) (nI wn) (nI i) (I5, J, R, S, nx) := by
          have stop : ∀ (I5 : Nat → Nat → Int32) (z5 : Zt) (st : Nat), FW L I I5 → CX I5 t n z5 → (∀ a, a ≠ 1 → a ≠ L + 1 → a ≠ L + 2 → I5 a = I a) → (∀ u, I5 (L + 1) u = if u = wn then nI v2.1 else I (L + 1) u) → (z5.1 = none → BS I5 f L wn st) → Y = xb (zr z5) (fun s => .inr (s, ytw f wn v2.1 st)) → hX6_readWard_102 l G k (fun r μ' => r = .inl none ∧ ∃ I', μ' = (I', J, R, S, nx) ∧ FW L I I' ∧ ∃ z', CX I' t n z' ∧ zr z' = lt1 Y ∧ ∀ s', Y = .inr s' → LL I' s'.2 L dl pl ld lp) (I5, J, R, S, nx) := by
            intro I5 z5 st b1 b2 b3 b4 b5 b6
            refine fin I5 z5 v2.1 st b1 b2 ?_ (fun s' hs => ?_)
            · rw [b6]
              cases hz5 : zr z5 with
              | inl e => rfl
              | inr s5 => rfl
            · rw [b6] at hs
              cases hz5 : zr z5 with
              | inl e => rw [hz5] at hs; cases hs
              | inr s5 =>
                rw [hz5] at hs
                have hs' : (s5, ytw f wn v2.1 st) = s' := Sum.inr.inj hs
                rw [← hs']
                exact ⟨rfl, b5 (by rw [zr_i hz5]), b4, b3⟩
          intro q
          induction q with
          | zero =>
            intro i I5 z5 st b1 b2 b3 b4 b5 b6
            cases hz5 : zr z5 with
            | inl e =>
              have hb := bad0 b2 hz5
              have st1 := stop I5 z5 st b1 b2 b3 b4 (fun g => (b5 g).1) (by rw [b6, hz5]; rfl)
              exact sX6_readWard_67 (P1 := fun _ _ => True) w (fun _ => st1) (fun _ _ => st1) (fun _ _ _ => st1) (fun _ g => absurd g hb) (fun _ g => absurd g hb)
            | inr s5 =>
              have hn := b5 (by rw [zr_i hz5])
              have hg := b2.g
              omega
          | succ q ih =>
            intro i I5 z5 st b1 b2 b3 b4 b5 b6
            cases hz5 : zr z5 with
            | inl e =>
              have hb := bad0 b2 hz5
              have st1 := stop I5 z5 st b1 b2 b3 b4 (fun g => (b5 g).1) (by rw [b6, hz5]; rfl)
              exact sX6_readWard_67 (P1 := fun _ _ => True) w (fun _ => st1) (fun _ _ => st1) (fun _ _ _ => st1) (fun _ g => absurd g hb) (fun _ g => absurd g hb)
            | inr s5 =>
              have ez := zr_i hz5
              subst ez
              obtain ⟨b51, b52, b53⟩ := b5 rfl
              have hb : I5 1 11 = 0 := by rw [b2.bad]
              have t6 : (I5 1 4 = (256 : Int32)) = (s5.2.2.1 = 256) := b2.tok (c := 256) (by decide)
              by_cases c6 : s5.2.2.1 = 256
              · have d6 : I5 1 4 = (256 : Int32) := by rw [t6]; exact c6
                have hg : s5.2.1 ≤ s5.1 ∧ s5.1 ≤ n ∧ (s5.2.2.1 = 257 ∨ s5.2.1 < s5.1) ∧ _ := b2.g
                have b53' : i ≤ s5.2.1 := b53
                have b52' : F ≤ q + 1 + s5.2.1 := b52
                have hlt := hg.2.2.1.resolve_left (by omega)
                have c1 : ¬ (900 : Int32) ≤ nI i := nI_ge (b := 900) (by have := hx.1; omega) (by decide)
                refine sX6_readWard_67 (P1 := fun I I' => F1 [L + 2] [3, 4, 5, 6, 11, 12] I I' ∧ CX I' t n (znu t n 0 wn (none, s5)).2 ∧ ((znu t n 0 wn (none, s5)).2.1 = none → BS I' f L wn (st ||| 2 ^ (znu t n 0 wn (none, s5)).1) ∧ (znu t n 0 wn (none, s5)).1 < wn)) w (fun g => absurd g c1) (fun _ g => absurd hb g) (fun _ _ g => absurd d6 g) (fun _ _ _ => readBeside_c w wR wl p1 hG b2 hw (fun _ => b51)) (fun _ _ _ I6 h6 => ?_)
                rw [nI_1]
                refine ih (i + 1) I6 (znu t n 0 wn (none, s5)).2 (st ||| 2 ^ (znu t n 0 wn (none, s5)).1) (b1.t (h6.1.wk (by simp [rowsL]) (fun _ h => h))) h6.2.1 (fun a x1 x2 x3 => (h6.1.1 a x1 (by simpa using x3)).trans (b3 a x1 x2 x3)) (fun u => by rw [h6.1.1 (L + 1) (by omega) (by simp)]; exact b4 u) (fun g => ?_) ?_
                · refine ⟨(h6.2.2 g).1, ?_⟩
                  obtain ⟨s6, g1, g2⟩ := znu_y g
                  have es : s5 = s6 := Sum.inr.inj g1
                  subst es
                  have e3 : (znu t n 0 wn (none, s5)).2.2 = ynx t n s5.1 := (ynum_lt g2).2.2.2
                  rw [e3]
                  have := (b2.wf.ad hx).2.1
                  have this' : s5.1 ≤ (ynx t n s5.1).2.1 := this
                  omega
                · rw [b6]
                  show xb (if s5.2.2.1 = 256 then ybs t n wn (q + 1) st s5 else _) _ = _
                  rw [if_pos c6]
                  congr 1
                  rw [ybs_s]
                  have nu := zr_nu (t := t) (n := n) (lo := 0) (hi := wn) (z := (none, s5))
                  have nu1 : zr (znu t n 0 wn (none, s5)).2 = xb (ynum t n 0 wn s5) (fun v => .inr v.2) := nu.1
                  cases hq2 : ynum t n 0 wn s5 with
                  | inl e => rw [nu1, hq2]; rfl
                  | inr r2 =>
                    rw [nu1, hq2, nu.2 r2 hq2]; rfl
              · have d6 : ¬ I5 1 4 = (256 : Int32) := by rw [t6]; exact c6
                have st1 := stop I5 (none, s5) st b1 b2 b3 b4 (fun _ => b51) (by
                  rw [b6]
                  show xb (if s5.2.2.1 = 256 then _ else _) _ = _
                  rw [if_neg c6]; rfl)
                exact sX6_readWard_67 (P1 := fun _ _ => True) w (fun _ => st1) (fun _ _ => st1) (fun _ _ _ => st1) (fun _ _ g => absurd g d6) (fun _ _ g => absurd g d6)
        rw [e1]
        have F0 : 0 < F := by omega
        obtain ⟨F', hF'⟩ : ∃ F', F = F' + 1 := ⟨F - 1, by omega⟩
        have hzz : zad t n v2.2 = (none, ynx t n v2.2.2.1) := by unfold zad; rw [g]
        refine loop F' 0 I4 (znu t n 0 wn (zad t n v2.2)).2 (0 ||| 2 ^ (znu t n 0 wn (zad t n v2.2)).1) ((a1.t (h3.1.wk (by simp) (by decide))).t (h4.1.wk (by simp [rowsL]) (fun _ h => h))) h4.2.1 (fun a x1 x2 x3 => (h4.1.1 a x1 (by simpa using x3)).trans ((h3.1.1 a x1 (by simp)).trans (a3 a x1 x2))) (fun u => by rw [h4.1.1 (L + 1) (by omega) (by simp), h3.1.1 (L + 1) (by omega) (by simp)]; exact a4 u) (fun g2 => ?_) ?_
        · refine ⟨(h4.2.2 g2).1, ?_⟩
          obtain ⟨s6, q1, q2⟩ := znu_y g2
          rw [hzz] at q1
          have es : ynx t n v2.2.2.1 = s6 := Sum.inr.inj q1
          have e3 := (ynum_lt q2).2.2.2
          have ht6 := (ynum_lt q2).2.2.1
          rw [e3, ← es]
          rw [← es] at ht6
          have w1 : Wf t n (ynx t n v2.2.2.1) := (a2.wf.ad hx).1
          have := (w1.ad hx).2.1
          have hgw := (w1.g hx).2.2.1.resolve_left (by omega)
          omega
        · rw [hYe, hF']
          congr 1
          rw [ybs_s]
          rw [hzz]
          have nu := zr_nu (t := t) (n := n) (lo := 0) (hi := wn) (z := (none, ynx t n v2.2.2.1))
          have nu1 : zr (znu t n 0 wn (none, ynx t n v2.2.2.1)).2 = xb (ynum t n 0 wn (ynx t n v2.2.2.1)) (fun v => .inr v.2) := nu.1
          cases hq2 : ynum t n 0 wn (ynx t n v2.2.2.1) with
          | inl e => rw [nu1, hq2]; rfl
          | inr r2 =>
            rw [nu1, hq2, nu.2 r2 hq2]; rfl
end A
