/-! the class: a season drawn -/
section A
variable {l : Launch} {G : Gh} {k : Nat} {I : Nat → Nat → Int32} {J : Nat → Nat → Int64} {R : Nat → Nat → Option Nat} {S : Nat → Nat × Nat} {nx : Nat} {κ : Nat → Nat} {hb pb : Nat}
variable {ι : Nat → Option (Nat → Nat)} {τ tm : Nat → Nat} {tn : Nat → Nat → Int64} {tp : Nat} {fk fp : Int32} {t : Nat → Nat} {ow : Nat → Nat} {L dl pl ld lp : Nat}
theorem CK.r0 {I' : Nat → Nat → Int32} (h : CK I κ L dl pl ld lp) (wl : LW R S nx L dl pl ld lp) (hF : Fr [0] I I') : CK I' κ L dl pl ld lp := by
  obtain ⟨n1, n2, n3⟩ := wl.ne
  have e : ∀ a, a ≠ 0 → I' a = I a := fun a ha => hF a (by simp [ha])
  have eL : I' L = I L := e L (by omega)
  have ed : I' dl = I dl := e dl (by omega)
  have ep : I' pl = I pl := e pl (by omega)
  obtain ⟨h1, ⟨q1, q2, q3, q4, q5, q6⟩, h3⟩ := h
  refine ⟨fun i hi => by rw [e 25 (by decide)]; exact h1 i hi, ⟨by rw [eL]; exact q1, fun w hw => by rw [e (L + 1) (by omega), e (L + 2) (by omega)]; exact q2 w hw, fun a ha => by rw [e (L + 3) (by omega), e (L + 4) (by omega)]; exact q3 a ha, fun k hk => by rw [e (L + 7) (by omega)]; exact q4 k hk, ⟨q5.1, fun i hi => by rw [ed]; exact q5.2 i hi⟩, ⟨q6.1, fun i hi => by rw [ep]; exact q6.2 i hi⟩⟩, fun w h' a a1 a2 a3 => by rw [e 29 (by decide)]; exact h3 w h' a a1 a2 a3⟩
theorem drawBelow_c {m : Nat} (w : CF R S nx) (h0 : 0 < m) (hm : m < 2 ^ 31) : Cal l G k 0 0 mX11_drawBelow [.ref 0, .int (nI m)] (I, J, R, S, nx) (fun r μ' => r = .inl (some (.int (nI (dr (nxt (I 0 6)) % m)))) ∧ ∃ I', μ' = (I', J, R, S, nx) ∧ I' = up2 I 0 6 (nxt (I 0 6))) := by
  have c : (1 : Int32) ≤ nI m := nI_le (a := 1) (by omega) hm
  have e : (1103515245 : Int32) * I 0 6 + (12345 : Int32) = nxt (I 0 6) := rfl
  refine Cal.of rfl (by decide +kernel) (by simp) (Nat.le_of_ble_eq_true rfl) rfl (sX11_drawBelow_0 w (fun _ => nI_ne0 (by omega) hm) (fun _ => ?_) (fun g => absurd c g))
  rw [e, dr_n]
  exact ⟨by rw [pk_rem (by have := dr_lt (nxt (I 0 6)); omega) h0 hm], _, rfl, rfl⟩
theorem qdoes_lay {d wn g : Nat} (hd : d = 2 ∨ d = 3) (hw : wn < 5) (hg : g ≤ 60) : qdoes κ ((10000 * d + 100 * wn + g : Nat) : Int) = qlay κ (7 + if d = 2 then 0 else 15) wn g 6 := by
  unfold qdoes
  rw [if_neg (by omega), if_neg (by omega), if_pos (by omega), Int.toNat_natCast, show (10000 * d + 100 * wn + g) % 10000 / 100 = wn by omega, show (10000 * d + 100 * wn + g) % 100 = g by omega]
  rcases hd with rfl | rfl
  · rw [if_pos (by omega), if_pos rfl]
  · rw [if_neg (by omega), if_neg (by decide)]
theorem qdoes_deed {kd wn ls : Nat} (hk : kd < 10) (hw : wn < 5) (hls : ls ≤ 24) : qdoes κ ((1000 * kd + 100 * wn + ls : Nat) : Int) = qdeed κ kd wn ls := by
  unfold qdoes
  rw [if_neg (by omega), if_pos (by omega), Int.toNat_natCast, show (1000 * kd + 100 * wn + ls) / 1000 = kd by omega, show (1000 * kd + 100 * wn + ls) / 100 % 10 = wn by omega, show (1000 * kd + 100 * wn + ls) % 100 = ls by omega]
/-- what is done, drawn -/
def qdrv (κ : Nat → Nat) (d : Nat) (s : Int32) : Int :=
  if d = 2 ∨ d = 3 then ((10000 * d + 100 * (dr (nxt s) % κ 1) + dr (nxt (nxt s)) % 61 : Nat) : Int)
  else if d = 4 then ((1000 * (dr (nxt s) % 10) + 100 * (dr (nxt (nxt s)) % κ 1) + (1 + dr (nxt (nxt (nxt s))) % 24) : Nat) : Int) else -1
def qdrs (d : Nat) (s : Int32) : Int32 := if d = 2 ∨ d = 3 then nxt (nxt s) else if d = 4 then nxt (nxt (nxt s)) else s
theorem qdrv_why {d : Nat} {s : Int32} (h1 : κ 1 ≤ 5) (hz : 1 < d → 0 < κ 1) : qwhy κ (qdrv κ d s) = 0 := by
  unfold qdrv
  by_cases c2 : d = 2 ∨ d = 3
  · rw [if_pos c2]
    have hm := Nat.mod_lt (dr (nxt s)) (show 0 < κ 1 from hz (by omega))
    have hm2 := Nat.mod_lt (dr (nxt (nxt s))) (show 0 < 61 by omega)
    exact sea_why (Or.inr (by omega))
  · rw [if_neg c2]
    by_cases c4 : d = 4
    · rw [if_pos c4]
      have hm0 := Nat.mod_lt (dr (nxt s)) (show 0 < 10 by omega)
      have hm := Nat.mod_lt (dr (nxt (nxt s))) (show 0 < κ 1 from hz (by omega))
      have hm2 := Nat.mod_lt (dr (nxt (nxt (nxt s)))) (show 0 < 24 by omega)
      exact sea_why (Or.inl (by omega))
    · rw [if_neg c4]; unfold qwhy; rw [if_pos rfl]
theorem qstep_no {c : (Nat → Nat) × Int32 × Nat} (h : 1 < dr (nxt c.2.1) % 5 ∧ c.1 1 = 0) : qstep c = (c.1, nxt c.2.1, c.2.2) := by unfold qstep; rw [if_pos h]
theorem qstep_do {c : (Nat → Nat) × Int32 × Nat} (h : ¬ (1 < dr (nxt c.2.1) % 5 ∧ c.1 1 = 0)) : qstep c = (qdoes (qkeep c.1) (qdrv c.1 (dr (nxt c.2.1) % 5) (nxt c.2.1)), qdrs (dr (nxt c.2.1) % 5) (nxt c.2.1), c.2.2 + 1) := by
  unfold qstep qdrv qdrs
  rw [if_neg h]
  by_cases c2 : dr (nxt c.2.1) % 5 = 2 ∨ dr (nxt c.2.1) % 5 = 3
  · rw [if_pos c2, if_pos c2, if_pos c2]
  · rw [if_neg c2, if_neg c2, if_neg c2]
    by_cases c4 : dr (nxt c.2.1) % 5 = 4
    · rw [if_pos c4, if_pos c4, if_pos c4]
    · rw [if_neg c4, if_neg c4, if_neg c4]
theorem carryOutDrawn_c {d : Nat} {L dl pl ld lp : Nat} (w : CF R S nx) (wL : R 14 0 = some L) (wl : LW R S nx L dl pl ld lp) (h : CK I κ L dl pl ld lp) (ho : qok hb pb κ) (hhb : hb < 2 ^ 29) (hd : d < 5) (hz : 1 < d → 0 < κ 1) (hh : κ 54 + 1 < 2 ^ 30) : Cal l G (k + 5) 0 0 mX11_carryOutDrawn [.ref 0, .int (nI d)] (I, J, R, S, nx) (fun r μ' => r = .inl none ∧ ∃ I', μ' = (I', J, R, S, nx) ∧ Fr [0, 25, 27, 28, 29] I I' ∧ CK I' (qdoes κ (qdrv κ d (I 0 6))) L dl pl ld lp ∧ I' 0 6 = qdrs d (I 0 6)) := by
  have h1w := ho.1
  have h2a := ho.2.1
  have eL : I L 1 = nI (κ 1) := h.2.1.1.2.1
  have up0 : ∀ (I1 : Nat → Nat → Int32) (v : Int32), Fr [0] I1 (up2 I1 0 6 v) ∧ up2 I1 0 6 v 0 6 = v := fun I1 v => ⟨Fr.rf.up (by decide), by simp [up2]⟩
  have lay : ∀ I2 I3 : Nat → Nat → Int32, ∀ what wn g : Nat, ∀ s : Int32, Fr [0] I I2 → I2 0 6 = s → Fr [25] I2 I3 ∧ CK I3 (qlay κ (7 + what) wn g 6) L dl pl ld lp → Fr [0, 25, 27, 28, 29] I I3 ∧ CK I3 (qlay κ (7 + what) wn g 6) L dl pl ld lp ∧ I3 0 6 = s := fun I2 I3 what wn g s a b c => ⟨a.tr c.1 (by decide), c.2, by rw [c.1 0 (by decide)]; exact b⟩
  by_cases c2 : d < 2
  · have e2 : ¬ (2 : Int32) ≤ nI d := nI_ge (a := d) (b := 2) c2 (by decide)
    refine Cal.of rfl (by decide +kernel) (by simp) (Nat.le_of_ble_eq_true rfl) rfl (sX11_carryOutDrawn_0 (u1 := 0) (u2 := 0) (u4 := 0) (u6 := 0) (u7 := 0) (u8 := 0) (u9 := 0) (P1 := fun _ _ => True) (P2 := fun _ _ => True) (P3 := fun _ _ => True) (P4 := fun _ _ => True) (P5 := fun _ _ => True) (P6 := fun _ _ => True) (P7 := fun _ _ => True) (P8 := fun _ _ => True) (P9 := fun _ _ => True) w wL wl (fun c => absurd c e2) (fun c => absurd c e2) (fun c => absurd c e2) (fun c => absurd c e2) (fun c => absurd c e2) (fun c => absurd c e2) (fun c => absurd c e2) (fun c => absurd c e2) (fun c => absurd c e2) (fun c => absurd c e2) (fun c => absurd c e2) (fun c => absurd c e2) (fun _ => ?_))
    have hF : Fr [25] I (up2 I 25 0 (I 25 0 + 1)) := Fr.rf.up (by decide)
    have ev : qdoes κ (qdrv κ d (I 0 6)) = qset κ 54 (κ 54 + 1) := by
      unfold qdrv; rw [if_neg (by omega), if_neg (by omega)]; unfold qdoes qhour; rw [if_pos rfl]
    have hN := h.1.up0 (t := 0) (v := κ 54 + 1) (by decide)
    rw [show 7 + prm 0 = 54 by decide] at hN
    rw [ev]
    refine ⟨rfl, _, rfl, hF.wk (by decide), h.st wl h2a hF ?_ (fun i hi => qset_ne (by omega)), ?_⟩
    · rw [h.1.h.1, nI_1]; exact hN
    · rw [hF 0 (by decide)]; unfold qdrs; rw [if_neg (by omega), if_neg (by omega)]
  · have e2 : (2 : Int32) ≤ nI d := nI_le (a := 2) (by omega) (by omega)
    have hz1 := hz (by omega)
    by_cases c4 : d = 4
    · have e4 : nI d = (4 : Int32) := by rw [c4]; rfl
      obtain ⟨s, hs0⟩ : ∃ s, I 0 6 = s := ⟨_, rfl⟩
      have hm0 := Nat.mod_lt (dr (nxt s)) (show 0 < 10 by omega)
      have hm := Nat.mod_lt (dr (nxt (nxt s))) hz1
      have hm2 := Nat.mod_lt (dr (nxt (nxt (nxt s)))) (show 0 < 24 by omega)
      refine Cal.of rfl (by decide +kernel) (by simp) (Nat.le_of_ble_eq_true rfl) rfl (sX11_carryOutDrawn_0 (u1 := 0) (u2 := 0) (u4 := 0) (u6 := nI (dr (nxt s) % 10)) (u7 := nI (dr (nxt (nxt s)) % κ 1)) (u8 := nI (dr (nxt (nxt (nxt s))) % 24)) (u9 := nI (qcost κ (dr (nxt s) % 10) (dr (nxt (nxt s)) % κ 1) (κ 54) (1 + dr (nxt (nxt (nxt s))) % 24))) (P1 := fun _ _ => True) (P2 := fun _ _ => True) (P3 := fun _ _ => True) (P4 := fun _ _ => True) (P5 := fun _ _ => True) (P6 := fun I I' => I' = up2 I 0 6 (nxt (I 0 6))) (P7 := fun I I' => I' = up2 I 0 6 (nxt (I 0 6))) (P8 := fun I I' => I' = up2 I 0 6 (nxt (I 0 6))) (P9 := fun I I' => Fr [25, 27, 28, 29] I I' ∧ CK I' (qdeed κ (dr (nxt s) % 10) (dr (nxt (nxt s)) % κ 1) (1 + dr (nxt (nxt (nxt s))) % 24)) L dl pl ld lp) w wL wl (fun _ c => absurd e4 c) (fun _ c => absurd e4 c) (fun _ c => absurd e4 c) (fun _ c => absurd e4 c) (fun _ c => absurd e4 c) (fun _ c => absurd e4 c) (fun _ c => absurd e4 c) (fun _ _ => ?_) (fun _ _ I1 h1 => ?_) (fun _ _ I1 h1 I2 h2 => ?_) (fun _ _ I1 h1 I2 h2 I3 h3 => ?_) (fun _ _ I1 h1 I2 h2 I3 h3 I4 h4 => ?_) (fun c => absurd e2 c))
      · rw [← hs0]; exact drawBelow_c (m := 10) w (by decide) (by decide)
      · subst h1
        have q := up0 I (nxt (I 0 6))
        rw [show up2 I 0 6 (nxt (I 0 6)) L 1 = nI (κ 1) by rw [q.1 L (by have := wl.ne.1; simp; omega)]; exact eL]
        have := drawBelow_c (l := l) (G := G) (k := k + 4) (J := J) (I := up2 I 0 6 (nxt (I 0 6))) (m := κ 1) w hz1 (by omega)
        rw [q.2, hs0] at this; rw [hs0]; exact this
      · subst h1; subst h2
        have := drawBelow_c (l := l) (G := G) (k := k + 4) (J := J) (I := up2 (up2 I 0 6 (nxt (I 0 6))) 0 6 (nxt (up2 I 0 6 (nxt (I 0 6)) 0 6))) (m := 24) w (by decide) (by decide)
        rw [(up0 _ _).2, (up0 _ _).2, hs0] at this; rw [(up0 _ _).2, hs0]; exact this
      · subst h1; subst h2; subst h3
        rw [show (1 : Int32) = nI 1 from rfl, nI_add]
        exact doDeed_c w wL wl (((h.r0 wl (up0 _ _).1).r0 wl (up0 _ _).1).r0 wl (up0 _ _).1) ho hhb hm0 (by omega) (by omega)
      · subst h1; subst h2; subst h3
        have ev : qdoes κ (qdrv κ d (I 0 6)) = qdeed κ (dr (nxt s) % 10) (dr (nxt (nxt s)) % κ 1) (1 + dr (nxt (nxt (nxt s))) % 24) := by
          rw [hs0]; unfold qdrv; rw [if_neg (by omega), if_pos c4]; exact qdoes_deed hm0 (by omega) (by omega)
        rw [ev]
        refine ⟨rfl, _, rfl, (((up0 _ _).1.tr (up0 _ _).1 (r3 := [0]) (by decide)).tr (up0 _ _).1 (r3 := [0]) (by decide)).tr h4.1 (by decide), h4.2, ?_⟩
        rw [h4.1 0 (by decide), (up0 _ _).2, (up0 _ _).2, (up0 _ _).2]
        unfold qdrs; rw [if_neg (by omega), if_pos c4]
    · have e4 : ¬ nI d = (4 : Int32) := fun g => c4 ((nI_eq (b := 4) (by omega) (by decide)).mp g)
      obtain ⟨s, hs0⟩ : ∃ s, I 0 6 = s := ⟨_, rfl⟩
      have hm := Nat.mod_lt (dr (nxt s)) hz1
      have hm2 := Nat.mod_lt (dr (nxt (nxt s))) (show 0 < 61 by omega)
      have ev : qdoes κ (qdrv κ d (I 0 6)) = qlay κ (7 + if d = 2 then 0 else 15) (dr (nxt s) % κ 1) (dr (nxt (nxt s)) % 61) 6 := by
        rw [hs0]; unfold qdrv; rw [if_pos (by omega)]; exact qdoes_lay (by omega) (by omega) (by omega)
      have es : qdrs d (I 0 6) = nxt (nxt s) := by rw [hs0]; unfold qdrs; rw [if_pos (by omega)]
      have dr2 : Cal l G (k + 4) 0 0 mX11_drawBelow [.ref 0, .int (61 : Int32)] (up2 I 0 6 (nxt (I 0 6)), J, R, S, nx) (fun r μ' => r = .inl (some (.int (nI (dr (nxt (nxt s)) % 61)))) ∧ ∃ I', μ' = (I', J, R, S, nx) ∧ I' = up2 (up2 I 0 6 (nxt (I 0 6))) 0 6 (nxt (up2 I 0 6 (nxt (I 0 6)) 0 6))) := by
        have := drawBelow_c (l := l) (G := G) (k := k + 4) (J := J) (I := up2 I 0 6 (nxt (I 0 6))) (m := 61) w (by decide) (by decide)
        rw [(up0 _ _).2, hs0] at this; rw [(up0 _ _).2, hs0]; exact this
      have hcc : ∀ v1 v2 : Int32, CK (up2 (up2 I 0 6 v1) 0 6 v2) κ L dl pl ld lp := fun v1 v2 => (h.r0 wl (up0 _ _).1).r0 wl (up0 _ _).1
      rw [ev, es]
      refine Cal.of rfl (by decide +kernel) (by simp) (Nat.le_of_ble_eq_true rfl) rfl (sX11_carryOutDrawn_0 (u1 := nI (dr (nxt s) % κ 1)) (u2 := nI (dr (nxt (nxt s)) % 61)) (u4 := nI (dr (nxt (nxt s)) % 61)) (u6 := 0) (u7 := 0) (u8 := 0) (u9 := 0) (P1 := fun I I' => I' = up2 I 0 6 (nxt (I 0 6))) (P2 := fun I I' => I' = up2 I 0 6 (nxt (I 0 6))) (P3 := fun I I' => Fr [25] I I' ∧ CK I' (qlay κ (7 + 15) (dr (nxt s) % κ 1) (dr (nxt (nxt s)) % 61) 6) L dl pl ld lp) (P4 := fun I I' => I' = up2 I 0 6 (nxt (I 0 6))) (P5 := fun I I' => Fr [25] I I' ∧ CK I' (qlay κ (7 + 0) (dr (nxt s) % κ 1) (dr (nxt (nxt s)) % 61) 6) L dl pl ld lp) (P6 := fun _ _ => True) (P7 := fun _ _ => True) (P8 := fun _ _ => True) (P9 := fun _ _ => True) w wL wl (fun _ _ => ?_) (fun _ _ I1 h1 _ => ?_) (fun _ _ I1 h1 _ I2 h2 => ?_) (fun _ _ I1 h1 g I2 h2 I3 h3 => ?_) (fun _ _ I1 h1 _ => ?_) (fun _ _ I1 h1 _ I2 h2 => ?_) (fun _ _ I1 h1 g I2 h2 I3 h3 => ?_) (fun _ c => absurd c e4) (fun _ c => absurd c e4) (fun _ c => absurd c e4) (fun _ c => absurd c e4) (fun _ c => absurd c e4) (fun c => absurd e2 c))
      · rw [eL, ← hs0]; exact drawBelow_c w hz1 (by omega)
      · subst h1; exact dr2
      · subst h1; subst h2
        exact layOn_c (what := 15) (hrs := 6) w wL wl (hcc _ _) ho hhb (by omega) (Or.inr rfl) (by omega)
      · subst h1; subst h2
        have hne : ¬ d = 2 := fun q => g (by rw [q]; rfl)
        rw [if_neg hne]
        exact ⟨rfl, _, rfl, lay _ I3 15 _ _ _ ((up0 _ _).1.tr (up0 _ _).1 (r3 := [0]) (by decide)) (by rw [(up0 _ _).2, (up0 _ _).2, hs0]) h3⟩
      · subst h1; exact dr2
      · subst h1; subst h2
        exact layOn_c (what := 0) (hrs := 6) w wL wl (hcc _ _) ho hhb (by omega) (Or.inl rfl) (by omega)
      · subst h1; subst h2
        have heq : d = 2 := (nI_eq (b := 2) (by omega) (by decide)).mp g
        rw [if_pos heq]
        exact ⟨rfl, _, rfl, lay _ I3 0 _ _ _ ((up0 _ _).1.tr (up0 _ _).1 (r3 := [0]) (by decide)) (by rw [(up0 _ _).2, (up0 _ _).2, hs0]) h3⟩
theorem season_p {x1 : Int32} {x2 : Int32} (hl0 : l.stackTraces = false) (hC : CI (I, J, R, S, nx) (κ, ι, (τ, tm, tn), (t, tp), fk, fp)) (hs : sok hb pb κ) (hhb : hb < 2 ^ 28) : Cal l G (k + 6) 40 14000 mX11_season [.ref 0, .int x1, .int x2] (I, J, R, S, nx) (CQ (I, J, R, S, nx) (ansR [eIA] ((aSeason κ x1 x2).1)) ((aSeason κ x1 x2).2, ι, (τ, tm, tn), (t, tp), fk, fp)) := by
  have hC0 := hC
  obtain ⟨ow, L, dl, pl, ld, lp, hR, wL, hL, hN, hV, hP⟩ := hC
  have hR : CR I J R S nx ow ι τ tm tn t tp fk fp := hR
  have wL : R 14 0 = some L := wL
  have hL : LdC I R S nx ow L κ dl pl ld lp := hL
  have hN : CN I κ := hN
  have hV : PV I κ := hV
  have hP : PS I 30 31 κ := hP
  have w : CF R S nx := hR.1
  have wl : LW R S nx L dl pl ld lp := hL.1
  have h : CK I κ L dl pl ld lp := ⟨hN, hL.2.1, hV⟩
  have ho := hs.q
  have h1w : κ 1 ≤ 5 := ho.1
  have h2a : κ 2 ≤ 8 := ho.2.1
  have h54 : κ 54 ≤ hb := ho.2.2.2.2.2.2.2.2.2.2.1
  have e1 : I L 1 = nI (κ 1) := h.2.1.1.2.1
  have e2 : I L 2 = nI (κ 2) := h.2.1.1.2.2.1
  have k0 : nd_needWithin x2 (1 : Int32) (30 : Int32) = (if gR x2 1 30 then none else some eIA) := (ndI (a := 1) (b := 30) (by decide) (by decide))
  by_cases g0 : gR x2 1 30
  · have c0 : nd_needWithin x2 (1 : Int32) (30 : Int32) = none := by rw [k0, if_pos g0]
    rw [show aSeason κ x1 x2 = ((0, nI (qsea κ x1 (cN x2)).2.2), (qsea κ x1 (cN x2)).1) by unfold aSeason; rw [if_pos g0]]
    refine Cal.of rfl (by decide +kernel) (by simp) (Nat.le_of_ble_eq_true rfl) rfl (sX11_season_0 hl0 w (by decide) (ndy c0) (fun _ => ?_))
    · obtain ⟨n, rfl, _, hn, en⟩ := g0.n (by omega)
      rw [en]
      have scr0 : ∀ a ∈ [0, 25, 27, 28, 29, 30, 31], Scr ow a := by intro a ha; simp at ha; exact Or.inl (by omega)
      have hF0 : Fr [0] I (up2 I 0 6 x1) := Fr.rf.up (by decide)
      refine upto (W := fun i (s : Nat → Nat → Int32) => hX11_season_17 l G k 40 14000 _ (nI n) (nI (qsea κ x1 i).2.2) (nI i) (s, J, R, S, nx) (40 - 1) (14000 - 6)) (P := fun i s => s 0 6 = (qsea κ x1 i).2.1 ∧ Fr [0, 25, 27, 28, 29, 30, 31] I s ∧ CK s (qsea κ x1 i).1 L dl pl ld lp ∧ PS s 30 31 (qsea κ x1 i).1 ∧ sok (hb + 24 * i) (pb + 19008 * i) (qsea κ x1 i).1) n ?_ ?_ (i := 0) (s := up2 I 0 6 x1) (Nat.zero_le _) ⟨by simp [up2]; rfl, hF0.wk (by decide), h.r0 wl hF0, hP.fr hF0 (by decide) (by decide), hs⟩
      · intro I1 ⟨q0, hF, h1, hP1, hs1⟩
        have c0 : nI n ≤ nI n := nI_le (Nat.le_refl _) (by omega)
        exact sX11_season_17 (u1 := 0) (P1 := fun _ _ => True) (P2 := fun _ _ => True) (P3 := fun _ _ => True) (P4 := fun _ _ => True) (P5 := fun _ _ => True) w wL wl (fun _ => ⟨ok0 rfl, CI.step hR wL hL hF scr0 h1 hP1⟩) (fun c => absurd c0 c) (fun c => absurd c0 c) (fun c => absurd c0 c) (fun c => absurd c0 c) (fun c => absurd c0 c) (fun c => absurd c0 c) (fun c => absurd c0 c) (fun c => absurd c0 c)
      · intro i I1 hi ⟨q0, hF, h1, hP1, hs1⟩ ih
        have c0 : ¬ nI n ≤ nI i := nI_ge hi (by omega)
        obtain ⟨c, hc⟩ : ∃ c, qsea κ x1 i = c := ⟨_, rfl⟩
        have eqs : qsea κ x1 (i + 1) = qstep c := by show qstep (qsea κ x1 i) = _; rw [hc]
        rw [eqs] at ih
        rw [hc] at q0 h1 hP1 hs1 ⊢
        obtain ⟨κ1, s, m⟩ := c
        dsimp only at q0 h1 hP1 hs1 ⊢
        have ho1 := hs1.q
        have h11 : κ1 1 ≤ 5 := ho1.1
        have l5 := Nat.mod_lt (dr (nxt s)) (show 0 < 5 by omega)
        have lt2 : (nI (dr (nxt s) % 5) < (2 : Int32)) = (dr (nxt s) % 5 < 2) := propext (nI_ltI (b := 2) (by omega) (by decide))
        have h54' : κ1 54 ≤ hb + 24 * i := ho1.2.2.2.2.2.2.2.2.2.2.1
        have hF1 : Fr [0] I1 (up2 I1 0 6 (nxt (I1 0 6))) := Fr.rf.up (by decide)
        have e06 : up2 I1 0 6 (nxt (I1 0 6)) 0 6 = nxt s := by rw [q0]; simp [up2]
        have h1' := h1.r0 wl hF1
        have hP1' := hP1.fr hF1 (by decide) (by decide)
        have kp : ∀ I2, I2 = up2 I1 0 6 (nxt (I1 0 6)) → Cal l G (k + 5) 0 0 mX5_keep [.ref 30, .ref 25] (I2, J, R, S, nx) (fun r μ' => r = .inl none ∧ ∃ I', μ' = (I', J, R, S, nx) ∧ Fr [30, 31] I2 I' ∧ PS I' 30 31 (qkeep κ1)) := fun I2 e => by rw [e]; exact keep_c w h1'.1 hP1' hs1.2.1
        have dn : ∀ hz : (1 < dr (nxt s) % 5 → 0 < κ1 1), (∀ I2 I3, I2 = up2 I1 0 6 (nxt (I1 0 6)) → (Fr [30, 31] I2 I3 ∧ PS I3 30 31 (qkeep κ1)) → Cal l G (k + 5) 0 0 mX11_carryOutDrawn [.ref 0, .int (nI (dr (nxt s) % 5))] (I3, J, R, S, nx) (fun r μ' => r = .inl none ∧ ∃ I', μ' = (I', J, R, S, nx) ∧ Fr [0, 25, 27, 28, 29] I3 I' ∧ CK I' (qdoes (qkeep κ1) (qdrv κ1 (dr (nxt s) % 5) (nxt s))) L dl pl ld lp ∧ I' 0 6 = qdrs (dr (nxt s) % 5) (nxt s))) ∧ (∀ I2 I3 I4, I2 = up2 I1 0 6 (nxt (I1 0 6)) → (Fr [30, 31] I2 I3 ∧ PS I3 30 31 (qkeep κ1)) → (Fr [0, 25, 27, 28, 29] I3 I4 ∧ CK I4 (qdoes (qkeep κ1) (qdrv κ1 (dr (nxt s) % 5) (nxt s))) L dl pl ld lp ∧ I4 0 6 = qdrs (dr (nxt s) % 5) (nxt s)) → WP l G (k + 6) 40 14000 mX11_season (CQ (I, J, R, S, nx) (ansR [eIA] (0, nI (qsea κ x1 n).2.2)) ((qsea κ x1 n).1, ι, (τ, tm, tn), (t, tp), fk, fp)) 17 [some (.ref 0), none, some (.int (nI n)), some (.int (nI m + 1)), some (.int (nI i + 1)), none] [] (I4, J, R, S, nx) (40 - 1) (14000 - 6)) := by
          intro hz
          have ek : qkeep κ1 1 = κ1 1 := qkeep_low (by decide) (by decide)
          have ek54 : qkeep κ1 54 = κ1 54 := qkeep_low (by decide) (by decide)
          have ed : ∀ d s, qdrv (qkeep κ1) d s = qdrv κ1 d s := fun d s => by unfold qdrv; rw [ek]
          refine ⟨fun I2 I3 e2 h3 => ?_, fun I2 I3 I4 e2 h3 h4 => ?_⟩
          · subst e2
            have := carryOutDrawn_c (l := l) (G := G) (k := k) (J := J) (I := I3) w wL wl (keep_ck h1' wl hs1.1.2.1 hs1.2.1 h3.1) hs1.keep.q (by omega) (d := dr (nxt s) % 5) l5 (by rw [ek]; exact hz) (by rw [ek54]; omega)
            rw [show I3 0 6 = nxt s by rw [h3.1 0 (by decide)]; exact e06, ed] at this
            exact this
          · subst e2
            have hst := qstep_do (c := (κ1, s, m)) (fun g => absurd (hz g.1) (by have : κ1 1 = 0 := g.2; omega))
            have cw' : qwhy (qkeep κ1) (qdrv κ1 (dr (nxt s) % 5) (nxt s)) = 0 := by rw [qwhy_keep]; exact qdrv_why h11 hz
            rw [hst] at ih
            rw [nI_1, nI_1]
            exact ih I4 ⟨h4.2.2, ((hF.tr hF1 (r3 := [0, 25, 27, 28, 29, 30, 31]) (by decide)).tr h3.1 (r3 := [0, 25, 27, 28, 29, 30, 31]) (by decide)).tr h4.1 (by decide), h4.2.1, (h3.2.fr h4.1 (by decide) (by decide)).cg hs1.keep.2.1 (fun j hj => qdoes_out cw' hs1.keep.1.1 (by omega)), (hs1.keep.does cw').mono (by omega) (by omega)⟩
        refine sX11_season_17 (u1 := nI (dr (nxt s) % 5)) (P1 := fun I I' => I' = up2 I 0 6 (nxt (I 0 6))) (P2 := fun I I' => Fr [30, 31] I I' ∧ PS I' 30 31 (qkeep κ1)) (P3 := fun I I' => Fr [0, 25, 27, 28, 29] I I' ∧ CK I' (qdoes (qkeep κ1) (qdrv κ1 (dr (nxt s) % 5) (nxt s))) L dl pl ld lp ∧ I' 0 6 = qdrs (dr (nxt s) % 5) (nxt s)) (P4 := fun I I' => Fr [30, 31] I I' ∧ PS I' 30 31 (qkeep κ1)) (P5 := fun I I' => Fr [0, 25, 27, 28, 29] I I' ∧ CK I' (qdoes (qkeep κ1) (qdrv κ1 (dr (nxt s) % 5) (nxt s))) L dl pl ld lp ∧ I' 0 6 = qdrs (dr (nxt s) % 5) (nxt s)) w wL wl (fun g => absurd g c0) (fun _ => ?_) (fun _ I2 h2 g => ?_) (fun _ I2 h2 g I3 h3 => ?_) (fun _ I2 h2 g I3 h3 I4 h4 => ?_) (fun _ I2 h2 g g2 => ?_) (fun _ I2 h2 g g2 => ?_) (fun _ I2 h2 g g2 I3 h3 => ?_) (fun _ I2 h2 g g2 I3 h3 I4 h4 => ?_)
        · rw [← q0]; exact drawBelow_c (m := 5) w (by decide) (by decide)
        · exact kp I2 h2
        · rw [lt2] at g; exact (dn (fun q => by omega)).1 I2 I3 h2 h3
        · rw [lt2] at g; exact (dn (fun q => by omega)).2 I2 I3 I4 h2 h3 h4
        · subst h2
          rw [lt2] at g
          have e1' : up2 I1 0 6 (nxt (I1 0 6)) L 1 = nI (κ1 1) := h1'.2.1.1.2.1
          rw [e1'] at g2
          have hz : κ1 1 = 0 := by
            have := (nI_leI (a := κ1 1) (b := 0) (by omega) (by decide)).mp g2
            omega
          have hst := qstep_no (c := (κ1, s, m)) ⟨by show 1 < dr (nxt s) % 5; omega, hz⟩
          rw [hst] at ih
          rw [nI_1]
          exact ih _ ⟨e06, hF.tr hF1 (by decide), h1', hP1', hs1.mono (by omega) (by omega)⟩
        · exact kp I2 h2
        · subst h2
          have e1' : up2 I1 0 6 (nxt (I1 0 6)) L 1 = nI (κ1 1) := h1'.2.1.1.2.1
          rw [e1'] at g2
          have hz : 0 < κ1 1 := by
            rcases Nat.eq_zero_or_pos (κ1 1) with q | q
            · rw [q] at g2; exact absurd (by decide) g2
            · exact q
          exact (dn (fun _ => hz)).1 _ I3 rfl h3
        · subst h2
          have e1' : up2 I1 0 6 (nxt (I1 0 6)) L 1 = nI (κ1 1) := h1'.2.1.1.2.1
          rw [e1'] at g2
          have hz : 0 < κ1 1 := by
            rcases Nat.eq_zero_or_pos (κ1 1) with q | q
            · rw [q] at g2; exact absurd (by decide) g2
            · exact q
          exact (dn (fun _ => hz)).2 _ I3 I4 rfl h3 h4
  · have c0 : nd_needWithin x2 (1 : Int32) (30 : Int32) = some eIA := by rw [k0, if_neg g0]
    rw [show aSeason κ x1 x2 = ((1, 0), κ) by unfold aSeason; rw [if_neg g0]]
    exact Cal.of rfl (by decide +kernel) (by simp) (Nat.le_of_ble_eq_true rfl) rfl (sX11_season_0 hl0 w (by decide) (ndn c0 (fun n' hn => ⟨rfl, CI.thr hC0 hn⟩)) (fun g => ndx c0 g))
end A
