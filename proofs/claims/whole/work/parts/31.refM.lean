/-! the reference: perform, seasons -/
theorem qwhy_keep (κ : Nat → Nat) (v : Int) : qwhy (qkeep κ) v = qwhy κ v := by
  unfold qwhy
  rw [qkeep_low (i := 1) (by decide) (by decide), qkeep_low (i := 2) (by decide) (by decide), qkeep_low (i := 53) (by decide) (by decide)]
def qper (f : Nat → Int) (κ : Nat → Nat) : Nat → (Nat → Nat) × Option Nat
  | 0 => (κ, none)
  | i + 1 => match qper f κ i with
    | (κ', some p) => (κ', some p)
    | (κ', none) => if qwhy κ' (f i) = 0 then (qdoes (qkeep κ') (f i), none) else (κ', some i)
def nxt (s : Int32) : Int32 := (1103515245 : Int32) * s + (12345 : Int32)
def dr (s : Int32) : Nat := (Int32.toUInt32 s >>> (Int32.toUInt32 (16 : Int32) &&& Int32.toUInt32 31)).toNat
theorem dr_lt (s : Int32) : dr s < 65536 := by
  unfold dr
  rw [UInt32.toNat_shiftRight, show (Int32.toUInt32 (16 : Int32) &&& Int32.toUInt32 31).toNat % 32 = 16 by decide, Nat.shiftRight_eq_div_pow]
  have := (Int32.toUInt32 s).toNat_lt
  omega
theorem dr_n (s : Int32) : (Int32.toUInt32 s >>> (Int32.toUInt32 (16 : Int32) &&& Int32.toUInt32 31)).toInt32 = nI (dr s) := by
  unfold dr nI
  rw [← UInt32.toInt32_ofNat', UInt32.ofNat_toNat]
def qstep (c : (Nat → Nat) × Int32 × Nat) : (Nat → Nat) × Int32 × Nat :=
  if 1 < dr (nxt c.2.1) % 5 ∧ c.1 1 = 0 then (c.1, nxt c.2.1, c.2.2)
  else if dr (nxt c.2.1) % 5 = 2 ∨ dr (nxt c.2.1) % 5 = 3 then (qdoes (qkeep c.1) ((10000 * (dr (nxt c.2.1) % 5) + 100 * (dr (nxt (nxt c.2.1)) % c.1 1) + dr (nxt (nxt (nxt c.2.1))) % 61 : Nat) : Int), nxt (nxt (nxt c.2.1)), c.2.2 + 1)
  else if dr (nxt c.2.1) % 5 = 4 then (qdoes (qkeep c.1) ((1000 * (dr (nxt (nxt c.2.1)) % 10) + 100 * (dr (nxt (nxt (nxt c.2.1))) % c.1 1) + (1 + dr (nxt (nxt (nxt (nxt c.2.1)))) % 24) : Nat) : Int), nxt (nxt (nxt (nxt c.2.1))), c.2.2 + 1)
  else (qdoes (qkeep c.1) (-1), nxt c.2.1, c.2.2 + 1)
def qsea (κ : Nat → Nat) (seed : Int32) : Nat → (Nat → Nat) × Int32 × Nat
  | 0 => (κ, seed, 0)
  | i + 1 => qstep (qsea κ seed i)
section A
variable {l : Launch} {G : Gh} {k : Nat} {I : Nat → Nat → Int32} {J : Nat → Nat → Int64} {R : Nat → Nat → Option Nat} {S : Nat → Nat × Nat} {nx : Nat} {κ : Nat → Nat} {hb pb : Nat}
theorem qper_s (f : Nat → Int) (κ : Nat → Nat) (i : Nat) : qper f κ (i + 1) = match qper f κ i with
    | (κ', some p) => (κ', some p)
    | (κ', none) => if qwhy κ' (f i) = 0 then (qdoes (qkeep κ') (f i), none) else (κ', some i) := rfl
theorem qper_go {f : Nat → Int} {i : Nat} {κ' : Nat → Nat} (h : qper f κ i = (κ', none)) (hw : qwhy κ' (f i) = 0) : qper f κ (i + 1) = (qdoes (qkeep κ') (f i), none) := by
  rw [qper_s, h]; simp [hw]
theorem qper_no {f : Nat → Int} {i : Nat} {κ' : Nat → Nat} (h : qper f κ i = (κ', none)) (hw : qwhy κ' (f i) ≠ 0) : qper f κ (i + 1) = (κ', some i) := by
  rw [qper_s, h]; simp [hw]
theorem qper_stay {f : Nat → Int} {i p : Nat} {κ' : Nat → Nat} (h : qper f κ i = (κ', some p)) : ∀ d, qper f κ (i + d) = (κ', some p)
  | 0 => h
  | d + 1 => by rw [← Nat.add_assoc, qper_s, qper_stay h d]
def pP (n : Nat) (pl : Option Nat) : Int32 := match pl with | none => nI n | some p => nI p
def aPerf (κ τ tm : Nat → Nat) (tn : Nat → Nat → Int64) (x : Int32) : (Nat × Int32) × (Nat → Nat) := if gT τ x = 0 then ((0, pP (tm (cN x)) (qper (tf tn (cN x)) κ (tm (cN x))).2), (qper (tf tn (cN x)) κ (tm (cN x))).1) else ((gT τ x, 0), κ)
theorem perform_r {x : Int32} {τ tm : Nat → Nat} {tn : Nat → Nat → Int64} (w : MW R S nx) (hK : Kn I κ) (hs : sok hb pb κ) (hhb : hb < 2 ^ 28) (hT : Tk I J τ tm tn) : Cal l G (k + 9) 0 0 mX12_perform [.ref 43, .int x] (I, J, R, S, nx) (fun r μ' => r = .inl (some (.int ((aPerf κ τ tm tn x).1.2))) ∧ ∃ I', μ' = (I', J, R, S, nx) ∧ PU (aPerf κ τ tm tn x).1.1 (aPerf κ τ tm tn x).2 I I') := by
  have eT := gT_n (x := x) hT
  have hle := gT_le τ x
  by_cases g : gT τ x = 0
  · have d1 : v_X12_trayFault I x ≤ 0 := by rw [eT, g]; decide
    rw [show aPerf κ τ tm tn x = ((0, pP (tm (cN x)) (qper (tf tn (cN x)) κ (tm (cN x))).2), (qper (tf tn (cN x)) κ (tm (cN x))).1) by unfold aPerf; rw [if_pos g]]
    obtain ⟨a, rfl, ha, ea, _⟩ := gT0 g
    rw [ea]
    refine Cal.of rfl (by decide +kernel) (by simp) (Nat.le_of_ble_eq_true rfl) rfl (sX12_perform_0 w ?_ ?_ ?_) <;> intros <;> (first | exact absurd (by with_reducible assumption) d1 | exact absurd d1 (by with_reducible assumption) | skip)
    · rename_i h; exact tr_b h
    · rw [eT, g]
      have hm := (hT a ha).2.2.1
      refine upto (W := fun i I1 => hX12_perform_20 l G k _ (nI a) (nI i) (I1, J, R, S, nx)) (P := fun i I1 => ∃ κ', qper (tf tn a) κ i = (κ', none) ∧ Fr [44, 49, 50, 51, 52, 53, 54] (up2 I 43 4 (nI 0)) I1 ∧ Kn I1 κ' ∧ sok (hb + 24 * i) (pb + 19008 * i) κ') (tm a) ?_ ?_ (i := 0) (Nat.zero_le _) ⟨κ, rfl, Fr.rf, hK.up4, hs⟩
      · intro I1 ⟨κ', hq, hF, hK1, hs1⟩
        have e69 : I1 69 (nI a).toNatClampNeg ≤ nI (tm a) := by
          rw [nI_clamp (by omega), hF 69 (by decide)]
          simp only [up2, show (69 : Nat) ≠ 43 by decide, if_false]
          rw [(hT a ha).2.1]; exact nI_le (by omega) (by omega)
        refine sX12_perform_20 (P1 := fun _ _ => True) (P2 := fun _ _ => True) w (vp_in_nI ha (by decide)) ?_ ?_ ?_ ?_ ?_ ?_ ?_ <;> intros <;> (first | exact absurd (by with_reducible assumption) e69 | exact absurd e69 (by with_reducible assumption) | skip)
        rw [hq]
        exact ⟨rfl, _, rfl, PU.ok rfl hF (by decide) (by decide) hK1⟩
      · intro i I1 hi ⟨κ', hq, hF, hK1, hs1⟩ ih
        have e69 : ¬ I1 69 (nI a).toNatClampNeg ≤ nI i := by
          rw [nI_clamp (by omega), hF 69 (by decide)]
          simp only [up2, show (69 : Nat) ≠ 43 by decide, if_false]
          rw [(hT a ha).2.1]; exact nI_ge hi (by omega)
        have e30 : (30 : Int32) * nI a + nI i = nI (30 * a + i) := by rw [show (30 : Int32) = nI 30 from rfl, pk_mul, nI_add]
        have eJ : J 70 ((30 : Int32) * nI a + nI i).toNatClampNeg = tn a i := by rw [e30, nI_clamp (by omega)]; exact (hT a ha).2.2.2.2 i (by omega)
        have bJ : vp_in ((30 : Int32) * nI a + nI i) 120 := by rw [e30]; exact vp_in_nI (by omega) (by decide)
        have ew : v_X12_whyTold I1 (J 70 ((30 : Int32) * nI a + nI i).toNatClampNeg) = nI (qwhy κ' (tf tn a i)) := by rw [eJ]; exact whyTold_n _ hK1 hs1.q
        by_cases cw : qwhy κ' (tf tn a i) = 0
        · have dw : v_X12_whyTold I1 (J 70 ((30 : Int32) * nI a + nI i).toNatClampNeg) = 0 := by rw [ew, cw]; rfl
          refine sX12_perform_20 (P1 := fun I I' => Fr [44] I I' ∧ Kn I' (qkeep κ')) (P2 := fun I I' => Fr [44, 49, 50, 51, 52, 53, 54] I I' ∧ Kn I' (qdoes (qkeep κ') (tf tn a i))) w (vp_in_nI ha (by decide)) ?_ ?_ ?_ ?_ ?_ ?_ ?_ <;> intros <;> (first | exact absurd (by with_reducible assumption) e69 | exact absurd e69 (by with_reducible assumption) | exact absurd (by with_reducible assumption) dw | exact absurd dw (by with_reducible assumption) | skip)
          · exact bJ
          · exact keeps_r w hK1 hs1.2.1
          · exact bJ
          · rename_i I2 h2
            have hr := wh_r cw hs1.1.2.1
            rw [eJ, l_to32 (show -2147483648 ≤ (tn a i).toInt ∧ (tn a i).toInt < 2147483648 by have : tf tn a i = (tn a i).toInt := rfl; omega)]
            exact does_r w h2.2 hs1.keep.q (by omega) (by rw [qwhy_keep]; exact cw)
          · rename_i I2 h2 I3 h3
            rw [nI_1]
            exact ih I3 ⟨_, qper_go hq cw, (hF.tr h2.1 (r3 := [44, 49, 50, 51, 52, 53, 54]) (by decide)).tr h3.1 (by decide), h3.2, (hs1.keep.does (by rw [qwhy_keep]; exact cw)).mono (by omega) (by omega)⟩
        · have dw : ¬ v_X12_whyTold I1 (J 70 ((30 : Int32) * nI a + nI i).toNatClampNeg) = 0 := by
            rw [ew]; exact nI_ne0 (by omega) (by have := qwhy_le κ' (tf tn a i); omega)
          refine sX12_perform_20 (P1 := fun _ _ => True) (P2 := fun _ _ => True) w (vp_in_nI ha (by decide)) ?_ ?_ ?_ ?_ ?_ ?_ ?_ <;> intros <;> (first | exact absurd (by with_reducible assumption) e69 | exact absurd e69 (by with_reducible assumption) | exact absurd (by with_reducible assumption) dw | exact absurd dw (by with_reducible assumption) | skip)
          · exact bJ
          · have he := qper_stay (qper_no hq cw) (tm a - (i + 1))
            rw [show i + 1 + (tm a - (i + 1)) = tm a by omega] at he
            rw [he]
            exact ⟨rfl, _, rfl, PU.ok rfl hF (by decide) (by decide) hK1⟩
  · rw [show aPerf κ τ tm tn x = ((gT τ x, 0), κ) by unfold aPerf; rw [if_neg g]]
    have d1 : ¬ v_X12_trayFault I x ≤ 0 := by rw [eT]; exact nI_nle (by omega) (by omega)
    refine Cal.of rfl (by decide +kernel) (by simp) (Nat.le_of_ble_eq_true rfl) rfl (sX12_perform_0 w ?_ ?_ ?_) <;> intros <;> (first | exact absurd (by with_reducible assumption) d1 | exact absurd d1 (by with_reducible assumption) | skip)
    · rename_i h; exact tr_b h
    · rw [eT]; exact ⟨rfl, _, rfl, PU.fail hK rfl⟩
/-! seasons -/
theorem draw_n {m : Nat} (h0 : 0 < m) (hm : m < 2 ^ 31) : v_X12_draw I (nI m) = nI (dr (nxt (I 43 26)) % m) := by
  unfold v_X12_draw
  rw [show (1103515245 : Int32) * I 43 26 + (12345 : Int32) = nxt (I 43 26) from rfl, dr_n]
  exact pk_rem (by have := dr_lt (nxt (I 43 26)); omega) h0 hm
theorem wards_n (h : Kn I κ) : v_X12_wards I = nI (κ 1) := h 1 (by decide)
theorem drw_26 {x : Int32} : w_X12_draw I x 43 26 = nxt (I 43 26) := by unfold w_X12_draw; simp [up2]; rfl
theorem drw_4 {x : Int32} : w_X12_draw I x 43 4 = I 43 4 := by unfold w_X12_draw; simp [up2]
theorem drw_ps {x : Int32} : Ps [44] I (w_X12_draw I x) := Ps.up43 (by decide)
theorem drw_K {x : Int32} (h : Kn I κ) : Kn (w_X12_draw I x) κ := h.up43
theorem Ps.fr {I I1 I2 : Nat → Nat → Int32} {rs : List Nat} (h : Ps [44] I I1) (hF : Fr rs I1 I2) (h1 : ∀ a, a ∈ rs → a ∈ scr ∨ a ∈ [44]) (h2 : 43 ∉ rs) : Ps [44] I I2 := h.trans (hF.ps (rows := [44]) h1 h2) (by simp)
def aSeason (κ : Nat → Nat) (x y : Int32) : (Nat × Int32) × (Nat → Nat) := if gR y 1 30 then ((0, nI (qsea κ x (cN y)).2.2), (qsea κ x (cN y)).1) else ((1, 0), κ)
theorem sea_why {v : Nat} {κ : Nat → Nat} (h : (v ≤ 9999 ∧ v / 100 % 10 < κ 1 ∧ 1 ≤ v % 100 ∧ v % 100 ≤ 24) ∨ (((20000 ≤ v ∧ v ≤ 20999) ∨ (30000 ≤ v ∧ v ≤ 30999)) ∧ v % 10000 / 100 < κ 1 ∧ v % 100 ≤ 60)) : qwhy κ (v : Int) = 0 := by
  unfold qwhy
  rw [if_neg (by omega)]
  simp only [Int.toNat_natCast]
  rcases h with h | h
  · rw [if_pos (by omega), if_pos h.2]
  · rw [if_neg (by omega), if_pos (by omega), if_pos h.2]
theorem season_step {c : (Nat → Nat) × Int32 × Nat} {i n : Nat} {I0 : Nat → Nat → Int32} {Q : Res → Mem → Prop} (w : MW R S nx) (hs : sok hb pb c.1) (hhb : hb < 2 ^ 29) (hn : n ≤ 30) (hi : i < n) (hP : Ps [44] I0 I ∧ I 43 4 = 0 ∧ I 43 26 = c.2.1 ∧ Kn I c.1)
    (ih : ∀ I', (Ps [44] I0 I' ∧ I' 43 4 = 0 ∧ I' 43 26 = (qstep c).2.1 ∧ Kn I' (qstep c).1) → sok (hb + 24) (pb + 19008) (qstep c).1 → hX12_season_33 l G k Q (nI n) (nI (qstep c).2.2) (nI (i + 1)) (I', J, R, S, nx)) :
    hX12_season_33 l G k Q (nI n) (nI c.2.2) (nI i) (I, J, R, S, nx) := by
  obtain ⟨κ1, s, m⟩ := c
  obtain ⟨hp, h4, h26, hK⟩ := hP
  have ho := hs.q
  have h1 : κ1 1 ≤ 5 := ho.1
  have e5 : v_X12_draw I (5 : Int32) = nI (dr (nxt s) % 5) := by rw [show (5 : Int32) = nI 5 from rfl, draw_n (by decide) (by decide), h26]
  have c0 : ¬ nI n ≤ nI i := nI_ge hi (by omega)
  have ew : v_X12_wards (w_X12_draw I (5 : Int32)) = nI (κ1 1) := (drw_K hK) 1 (by decide)
  have k1 : Ps [44] I0 (w_X12_draw I (5 : Int32)) ∧ w_X12_draw I (5 : Int32) 43 4 = 0 ∧ w_X12_draw I (5 : Int32) 43 26 = nxt s ∧ Kn (w_X12_draw I (5 : Int32)) κ1 := ⟨hp.trans drw_ps (by simp), by rw [drw_4, h4], by rw [drw_26, h26], drw_K hK⟩
  -- a deed kept and done
  have dn : ∀ (v : Int) (s' : Int32) (I1 : Nat → Nat → Int32), qwhy κ1 v = 0 → (Ps [44] I0 I1 ∧ I1 43 4 = 0 ∧ I1 43 26 = s' ∧ Kn I1 κ1) → qstep (κ1, s, m) = (qdoes (qkeep κ1) v, s', m + 1) → ∀ I2, (Fr [44] I1 I2 ∧ Kn I2 (qkeep κ1)) → ∀ I3, (Fr [44, 49, 50, 51, 52, 53, 54] I2 I3 ∧ Kn I3 (qdoes (qkeep κ1) v)) → hX12_season_33 l G k Q (nI n) (nI m + (1 : Int32)) (nI i + (1 : Int32)) (I3, J, R, S, nx) := by
    intro v s' I1 hv ⟨q1, q2, q3, q4⟩ hq I2 h2 I3 h3
    rw [nI_1, nI_1]
    have := ih I3 ⟨(q1.fr h2.1 (by decide) (by decide)).fr h3.1 (by decide) (by decide), by rw [h3.1 43 (by decide), h2.1 43 (by decide)]; exact q2, by rw [h3.1 43 (by decide), h2.1 43 (by decide), hq]; exact q3, by rw [hq]; exact h3.2⟩ (by rw [hq]; exact hs.keep.does (by rw [qwhy_keep]; exact hv))
    rw [hq] at this
    exact this
  by_cases cw : 1 < dr (nxt s) % 5
  · have c1 : ¬ v_X12_draw I (5 : Int32) ≤ (1 : Int32) := by rw [e5]; exact nI_ge (a := 1) cw (by omega)
    by_cases cz : κ1 1 = 0
    · have c2 : v_X12_wards (w_X12_draw I (5 : Int32)) = 0 := by rw [ew, cz]; rfl
      refine sX12_season_33 w ?_ ?_ ?_ ?_ <;> intros <;> (first | exact absurd (by with_reducible assumption) c0 | exact absurd c0 (by with_reducible assumption) | exact absurd (by with_reducible assumption) c1 | exact absurd c1 (by with_reducible assumption) | exact absurd (by with_reducible assumption) c2 | exact absurd c2 (by with_reducible assumption) | skip)
      have hq : qstep (κ1, s, m) = (κ1, nxt s, m) := by unfold qstep; rw [if_pos ⟨cw, cz⟩]
      have := ih (w_X12_draw I (5 : Int32)) (by rw [hq]; exact k1) (by rw [hq]; exact hs.mono (by omega) (by omega))
      rw [hq] at this
      rw [nI_1]
      exact this
    · have c2 : ¬ v_X12_wards (w_X12_draw I (5 : Int32)) = 0 := by rw [ew]; exact nI_ne0 (by omega) (by omega)
      refine sX12_season_33 w ?_ ?_ ?_ ?_ <;> intros <;> (first | exact absurd (by with_reducible assumption) c0 | exact absurd c0 (by with_reducible assumption) | exact absurd (by with_reducible assumption) c1 | exact absurd c1 (by with_reducible assumption) | exact absurd (by with_reducible assumption) c2 | exact absurd c2 (by with_reducible assumption) | skip)
      rw [e5]
      obtain ⟨k11, k12, k13, k14⟩ := k1
      have hne : ¬ (1 < dr (nxt s) % 5 ∧ κ1 1 = 0) := fun h => cz h.2
      have lo : dr (nxt s) % 5 = 2 ∨ dr (nxt s) % 5 = 3 → hX12_season_77 l G k Q (nI n) (nI m) (nI i) (nI (dr (nxt s) % 5)) (w_X12_draw I (5 : Int32), J, R, S, nx) := by
        intro ho2
        have f1 : v_X12_wards (w_X12_draw I (5 : Int32)) = nI (κ1 1) := k14 1 (by decide)
        have f2 : v_X12_draw (w_X12_draw I (5 : Int32)) (nI (κ1 1)) = nI (dr (nxt (nxt s)) % κ1 1) := by rw [draw_n (by omega) (by omega), k13]
        have f3 : v_X12_draw (w_X12_draw (w_X12_draw I (5 : Int32)) (nI (κ1 1))) (61 : Int32) = nI (dr (nxt (nxt (nxt s))) % 61) := by rw [show (61 : Int32) = nI 61 from rfl, draw_n (by decide) (by decide), drw_26, k13]
        have hm := Nat.mod_lt (dr (nxt (nxt s))) (show 0 < κ1 1 by omega)
        have hm2 := Nat.mod_lt (dr (nxt (nxt (nxt s)))) (show 0 < 61 by omega)
        have hv : qwhy κ1 ((10000 * (dr (nxt s) % 5) + 100 * (dr (nxt (nxt s)) % κ1 1) + dr (nxt (nxt (nxt s))) % 61 : Nat) : Int) = 0 := sea_why (Or.inr (by omega))
        have hq : qstep (κ1, s, m) = (qdoes (qkeep κ1) ((10000 * (dr (nxt s) % 5) + 100 * (dr (nxt (nxt s)) % κ1 1) + dr (nxt (nxt (nxt s))) % 61 : Nat) : Int), nxt (nxt (nxt s)), m + 1) := by unfold qstep; rw [if_neg hne, if_pos ho2]
        have kk : Ps [44] I0 (w_X12_draw (w_X12_draw (w_X12_draw I (5 : Int32)) (nI (κ1 1))) (61 : Int32)) ∧ (w_X12_draw (w_X12_draw (w_X12_draw I (5 : Int32)) (nI (κ1 1))) (61 : Int32)) 43 4 = 0 ∧ (w_X12_draw (w_X12_draw (w_X12_draw I (5 : Int32)) (nI (κ1 1))) (61 : Int32)) 43 26 = nxt (nxt (nxt s)) ∧ Kn (w_X12_draw (w_X12_draw (w_X12_draw I (5 : Int32)) (nI (κ1 1))) (61 : Int32)) κ1 := ⟨(k11.trans drw_ps (r3 := [44]) (by simp)).trans drw_ps (by simp), by rw [drw_4, drw_4, k12], by rw [drw_26, drw_26, k13], drw_K (drw_K k14)⟩
        refine sX12_season_77 (P1 := fun I I' => Fr [44] I I' ∧ Kn I' (qkeep κ1)) (P2 := fun I I' => Fr [44, 49, 50, 51, 52, 53, 54] I I' ∧ Kn I' (qdoes (qkeep κ1) ((10000 * (dr (nxt s) % 5) + 100 * (dr (nxt (nxt s)) % κ1 1) + dr (nxt (nxt (nxt s))) % 61 : Nat) : Int))) w ?_ ?_ ?_ ?_
        · rw [f1]; exact nI_ne0 (by omega) (by omega)
        · rw [f1]; exact keeps_r w kk.2.2.2 hs.2.1
        · intro I1 h1
          rw [f1, f2, f3, show (10000 : Int32) = nI 10000 from rfl, show (100 : Int32) = nI 100 from rfl, pk_mul, pk_mul, nI_add, nI_add]
          exact does_r w h1.2 hs.keep.q (by omega) (by rw [qwhy_keep]; exact hv)
        · intro I1 h1 I2 h2
          rw [f1] at h1
          exact dn _ _ _ hv kk hq I1 h1 I2 h2
      have l5 := Nat.mod_lt (dr (nxt s)) (show 0 < 5 by omega)
      have m2 : (nI (dr (nxt s) % 5) = (2 : Int32)) = (dr (nxt s) % 5 = 2) := propext (nI_eq (b := 2) (by omega) (by decide))
      have m3 : (nI (dr (nxt s) % 5) = (3 : Int32)) = (dr (nxt s) % 5 = 3) := propext (nI_eq (b := 3) (by omega) (by decide))
      have m4 : (nI (dr (nxt s) % 5) = (4 : Int32)) = (dr (nxt s) % 5 = 4) := propext (nI_eq (b := 4) (by omega) (by decide))
      by_cases b2 : dr (nxt s) % 5 = 2
      · have n2 : nI (dr (nxt s) % 5) = (2 : Int32) := m2.mpr b2
        refine sX12_season_62 (P1 := fun _ _ => True) (P2 := fun _ _ => True) (P3 := fun _ _ => True) (P4 := fun _ _ => True) w ?_ ?_ ?_ ?_ ?_ ?_ ?_ ?_ ?_ <;> intros <;> (first | exact absurd (by with_reducible assumption) n2 | exact absurd n2 (by with_reducible assumption) | skip)
        exact lo (Or.inl b2)
      · have n2 : ¬ nI (dr (nxt s) % 5) = (2 : Int32) := fun h => b2 (m2.mp h)
        by_cases b3 : dr (nxt s) % 5 = 3
        · have n3 : nI (dr (nxt s) % 5) = (3 : Int32) := m3.mpr b3
          refine sX12_season_62 (P1 := fun _ _ => True) (P2 := fun _ _ => True) (P3 := fun _ _ => True) (P4 := fun _ _ => True) w ?_ ?_ ?_ ?_ ?_ ?_ ?_ ?_ ?_ <;> intros <;> (first | exact absurd (by with_reducible assumption) n2 | exact absurd n2 (by with_reducible assumption) | exact absurd (by with_reducible assumption) n3 | exact absurd n3 (by with_reducible assumption) | skip)
          exact lo (Or.inr b3)
        · have n3 : ¬ nI (dr (nxt s) % 5) = (3 : Int32) := fun h => b3 (m3.mp h)
          have b4 : dr (nxt s) % 5 = 4 := by omega
          have n4 : nI (dr (nxt s) % 5) = (4 : Int32) := m4.mpr b4
          have f0 : v_X12_draw (w_X12_draw I (5 : Int32)) (10 : Int32) = nI (dr (nxt (nxt s)) % 10) := by rw [show (10 : Int32) = nI 10 from rfl, draw_n (by decide) (by decide), k13]
          have f1 : v_X12_wards (w_X12_draw (w_X12_draw I (5 : Int32)) (10 : Int32)) = nI (κ1 1) := wards_n (drw_K k14)
          have f2 : v_X12_draw (w_X12_draw (w_X12_draw I (5 : Int32)) (10 : Int32)) (nI (κ1 1)) = nI (dr (nxt (nxt (nxt s))) % κ1 1) := by rw [draw_n (by omega) (by omega), drw_26, k13]
          have f3 : v_X12_draw (w_X12_draw (w_X12_draw (w_X12_draw I (5 : Int32)) (10 : Int32)) (nI (κ1 1))) (24 : Int32) = nI (dr (nxt (nxt (nxt (nxt s)))) % 24) := by rw [show (24 : Int32) = nI 24 from rfl, draw_n (by decide) (by decide), drw_26, drw_26, k13]
          have hm0 := Nat.mod_lt (dr (nxt (nxt s))) (show 0 < 10 by omega)
          have hm := Nat.mod_lt (dr (nxt (nxt (nxt s)))) (show 0 < κ1 1 by omega)
          have hm2 := Nat.mod_lt (dr (nxt (nxt (nxt (nxt s))))) (show 0 < 24 by omega)
          have hv : qwhy κ1 ((1000 * (dr (nxt (nxt s)) % 10) + 100 * (dr (nxt (nxt (nxt s))) % κ1 1) + (1 + dr (nxt (nxt (nxt (nxt s)))) % 24) : Nat) : Int) = 0 := sea_why (Or.inl (by omega))
          have hq : qstep (κ1, s, m) = (qdoes (qkeep κ1) ((1000 * (dr (nxt (nxt s)) % 10) + 100 * (dr (nxt (nxt (nxt s))) % κ1 1) + (1 + dr (nxt (nxt (nxt (nxt s)))) % 24) : Nat) : Int), nxt (nxt (nxt (nxt s))), m + 1) := by unfold qstep; rw [if_neg hne, if_neg (fun h => h.elim b2 b3), if_pos b4]
          have kk : Ps [44] I0 (w_X12_draw (w_X12_draw (w_X12_draw (w_X12_draw I (5 : Int32)) (10 : Int32)) (nI (κ1 1))) (24 : Int32)) ∧ (w_X12_draw (w_X12_draw (w_X12_draw (w_X12_draw I (5 : Int32)) (10 : Int32)) (nI (κ1 1))) (24 : Int32)) 43 4 = 0 ∧ (w_X12_draw (w_X12_draw (w_X12_draw (w_X12_draw I (5 : Int32)) (10 : Int32)) (nI (κ1 1))) (24 : Int32)) 43 26 = nxt (nxt (nxt (nxt s))) ∧ Kn (w_X12_draw (w_X12_draw (w_X12_draw (w_X12_draw I (5 : Int32)) (10 : Int32)) (nI (κ1 1))) (24 : Int32)) κ1 := ⟨((k11.trans drw_ps (r3 := [44]) (by simp)).trans drw_ps (r3 := [44]) (by simp)).trans drw_ps (by simp), by rw [drw_4, drw_4, drw_4, k12], by rw [drw_26, drw_26, drw_26, k13], drw_K (drw_K (drw_K k14))⟩
          refine sX12_season_62 (P1 := fun _ _ => True) (P2 := fun _ _ => True) (P3 := fun I I' => Fr [44] I I' ∧ Kn I' (qkeep κ1)) (P4 := fun I I' => Fr [44, 49, 50, 51, 52, 53, 54] I I' ∧ Kn I' (qdoes (qkeep κ1) ((1000 * (dr (nxt (nxt s)) % 10) + 100 * (dr (nxt (nxt (nxt s))) % κ1 1) + (1 + dr (nxt (nxt (nxt (nxt s)))) % 24) : Nat) : Int))) w ?_ ?_ ?_ ?_ ?_ ?_ ?_ ?_ ?_ <;> intros <;> (first | exact absurd (by with_reducible assumption) n2 | exact absurd n2 (by with_reducible assumption) | exact absurd (by with_reducible assumption) n3 | exact absurd n3 (by with_reducible assumption) | exact absurd (by with_reducible assumption) n4 | exact absurd n4 (by with_reducible assumption) | skip)
          · rw [f1]; exact nI_ne0 (by omega) (by omega)
          · rw [f1]; exact keeps_r w kk.2.2.2 hs.2.1
          · rename_i I1 h1
            rw [f0, f1, f2, f3, show (1000 : Int32) = nI 1000 from rfl, show (100 : Int32) = nI 100 from rfl, show (1 : Int32) = nI 1 from rfl, pk_mul, pk_mul, nI_add, nI_add, nI_add]
            exact does_r w h1.2 hs.keep.q (by omega) (by rw [qwhy_keep]; exact hv)
          · rename_i I1 h1 I2 h2
            rw [f1] at h1
            exact dn _ _ _ hv kk hq I1 h1 I2 h2
  · have c1 : v_X12_draw I (5 : Int32) ≤ (1 : Int32) := by rw [e5]; exact nI_le (b := 1) (by omega) (by decide)
    refine sX12_season_33 w ?_ ?_ ?_ ?_ <;> intros <;> (first | exact absurd (by with_reducible assumption) c0 | exact absurd c0 (by with_reducible assumption) | exact absurd (by with_reducible assumption) c1 | exact absurd c1 (by with_reducible assumption) | skip)
    rw [e5]
    have n2 : ¬ nI (dr (nxt s) % 5) = (2 : Int32) := fun h => by have := (nI_eq (b := 2) (by omega) (by decide)).mp h; omega
    have n3 : ¬ nI (dr (nxt s) % 5) = (3 : Int32) := fun h => by have := (nI_eq (b := 3) (by omega) (by decide)).mp h; omega
    have n4 : ¬ nI (dr (nxt s) % 5) = (4 : Int32) := fun h => by have := (nI_eq (b := 4) (by omega) (by decide)).mp h; omega
    have hq : qstep (κ1, s, m) = (qdoes (qkeep κ1) (-1), nxt s, m + 1) := by unfold qstep; rw [if_neg (fun h => cw h.1), if_neg (fun h => by have : dr (nxt s) % 5 = 2 ∨ dr (nxt s) % 5 = 3 := h; omega), if_neg (fun h => by have : dr (nxt s) % 5 = 4 := h; omega)]
    have hv : qwhy κ1 (-1) = 0 := by unfold qwhy; rw [if_pos rfl]
    refine sX12_season_62 (P1 := fun I I' => Fr [44] I I' ∧ Kn I' (qkeep κ1)) (P2 := fun I I' => Fr [44, 49, 50, 51, 52, 53, 54] I I' ∧ Kn I' (qdoes (qkeep κ1) (-1))) (P3 := fun _ _ => True) (P4 := fun _ _ => True) w ?_ ?_ ?_ ?_ ?_ ?_ ?_ ?_ ?_ <;> intros <;> (first | exact absurd (by with_reducible assumption) n2 | exact absurd n2 (by with_reducible assumption) | exact absurd (by with_reducible assumption) n3 | exact absurd n3 (by with_reducible assumption) | exact absurd (by with_reducible assumption) n4 | exact absurd n4 (by with_reducible assumption) | skip)
    · exact keeps_r w k1.2.2.2 hs.2.1
    · rename_i I1 h1
      exact does_r (v := -1) w h1.2 hs.keep.q (by omega) (by rw [qwhy_keep]; exact hv)
    · rename_i I1 h1 I2 h2
      exact dn _ _ _ hv k1 hq I1 h1 I2 h2
theorem season_r {x y : Int32} (w : MW R S nx) (hK : Kn I κ) (hs : sok hb pb κ) (hhb : hb < 2 ^ 28) : Cal l G (k + 9) 0 0 mX12_season [.ref 43, .int x, .int y] (I, J, R, S, nx) (fun r μ' => r = .inl (some (.int ((aSeason κ x y).1.2))) ∧ ∃ I', μ' = (I', J, R, S, nx) ∧ PU (aSeason κ x y).1.1 (aSeason κ x y).2 I I') := by
  by_cases g : gR y 1 30
  · have c1 : ¬ v_X12_within (Int32.toInt64 y) (1 : Int64) (30 : Int64) = 0 := cRt g (by decide) (by decide)
    rw [show aSeason κ x y = ((0, nI (qsea κ x (cN y)).2.2), (qsea κ x (cN y)).1) by unfold aSeason; rw [if_pos g]]
    obtain ⟨n, rfl, _, hn, en⟩ := g.n (by omega)
    rw [en]
    refine Cal.of rfl (by decide +kernel) (by simp) (Nat.le_of_ble_eq_true rfl) rfl (sX12_season_0 w ?_ ?_) <;> intros <;> (first | exact absurd (by with_reducible assumption) c1 | exact absurd c1 (by with_reducible assumption) | skip)
    refine upto (W := fun i I1 => hX12_season_33 l G k _ (nI n) (nI (qsea κ x i).2.2) (nI i) (I1, J, R, S, nx)) (P := fun i I1 => (Ps [44] I I1 ∧ I1 43 4 = 0 ∧ I1 43 26 = (qsea κ x i).2.1 ∧ Kn I1 (qsea κ x i).1) ∧ sok (hb + 24 * i) (pb + 19008 * i) (qsea κ x i).1) n ?_ ?_ (i := 0) (Nat.zero_le _) ⟨⟨(Ps.up43 (rows := [44]) (f := 4) (v := 0) (by decide)).trans (Ps.up43 (rows := [44]) (by decide)) (by simp), by simp [up2], by simp [up2]; rfl, hK.up43.up43⟩, hs⟩
    · intro I1 ⟨⟨q1, q2, q3, q4⟩, _⟩
      have c0 : nI n ≤ nI n := nI_le (Nat.le_refl _) (by omega)
      refine sX12_season_33 w ?_ ?_ ?_ ?_ <;> intros <;> (first | exact absurd (by with_reducible assumption) c0 | exact absurd c0 (by with_reducible assumption) | skip)
      exact ⟨rfl, _, rfl, q1, q2, q4⟩
    · intro i I1 hi ⟨hp, hs1⟩ ih
      exact season_step (c := qsea κ x i) w hs1 (by omega) hn hi hp (fun I' h1 h2 => ih I' ⟨h1, h2.mono (by omega) (by omega)⟩)
  · have c1 : v_X12_within (Int32.toInt64 y) (1 : Int64) (30 : Int64) = 0 := cRf g (by decide) (by decide)
    rw [show aSeason κ x y = ((1, 0), κ) by unfold aSeason; rw [if_neg g]]
    refine Cal.of rfl (by decide +kernel) (by simp) (Nat.le_of_ble_eq_true rfl) rfl (sX12_season_0 w ?_ ?_) <;> intros <;> (first | exact absurd (by with_reducible assumption) c1 | exact absurd c1 (by with_reducible assumption) | skip)
    exact ⟨rfl, _, rfl, PU.fail2 hK rfl⟩
end A
