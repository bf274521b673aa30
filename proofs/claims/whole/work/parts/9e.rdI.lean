/-! the class: readLand's loop -/
section A
variable {l : Launch} {G : Gh} {k : Nat} {I : Nat → Nat → Int32} {J : Nat → Nat → Int64} {R : Nat → Nat → Option Nat} {S : Nat → Nat × Nat} {nx : Nat} {κ : Nat → Nat} {hb pb : Nat}
variable {t : Nat → Nat} {n F : Nat} {z : Zt} {L dl pl ld lp : Nat} {f : Nat → Nat} {m : Bool} {μ0 : Mem} {Y : Er ⊕ Ln} {mc ms cb sb : Nat} {x1 x2 : Int32}
theorem ylaw_E {s : Ln} : ylaw t n F m s = xb (xb (xmust t n 58 (ynx t n s.1.1, [])) (if m then (xlev t n F m 6).2.2 else (xlev t n F m 6).1)) (fun e => .inr (e.1, if m then ylw s.2 4 1472 e.2 else ylw s.2 3 572 e.2)) := by
  show xb (if (ynx t n s.1.1).2.2.1 = 58 then .inr (ynx t n (ynx t n s.1.1).1) else .inl (qbl 2 (ynx t n s.1.1))) _ = xb (xb (if (ynx t n s.1.1).2.2.1 = 58 then .inr (ynx t n (ynx t n s.1.1).1, []) else .inl (qbl 2 (ynx t n s.1.1))) _) _
  by_cases c : (ynx t n s.1.1).2.2.1 = 58
  · rw [if_pos c, if_pos c]; rfl
  · rw [if_neg c, if_neg c]; rfl
theorem RdF.nw {J' : Nat → Nat → Int64} {R' : Nat → Nat → Option Nat} {S' : Nat → Nat × Nat} {nx' : Nat} (h : RdF μ0 (I, J, R, S, nx)) (e1 : ∀ b, b < μ0.2.2.2.2 → J' b = J b) (e2 : ∀ b, b < μ0.2.2.2.2 → R' b = R b) (e3 : ∀ b, b < μ0.2.2.2.2 → S' b = S b) (e4 : nx ≤ nx') (h72 : 1 < μ0.2.2.2.2) : RdF μ0 (I, J', R', S', nx') := by
  obtain ⟨h1, h2, h3, h4⟩ := h
  refine ⟨Nat.le_trans h1 e4, fun b hb => ⟨(h2 b hb).1, (e1 b hb).trans (h2 b hb).2.1, fun c => (e2 b hb).trans ((h2 b hb).2.2.1 c), (e3 b hb).trans (h2 b hb).2.2.2⟩, fun j hj => ?_, h4⟩
  show R' 1 j = _
  rw [e2 1 h72]; exact h3 j hj
theorem LL.lwd {st : List Nat} {D : Nat} {I' : Nat → Nat → Int32} (h : LL I f L dl pl ld lp) (hp : LPl L dl pl) (h2 : f 2 ≤ 8) (h34 : f 3 ≤ 900 ∧ f 4 ≤ 900) (hst : st.length ≤ 900) (hI : ∀ b, b ≠ D → I' b = I b) (hD : L + 10 ≤ D) (hpl : pl ≠ D) (hv : ∀ i v, st[i]? = some v → I' D i = cst false v) : LL I' (ylw f 3 572 st) L D pl st.length lp := by
  obtain ⟨p1, p2, p3⟩ := hp
  obtain ⟨a, b1, b2, b3, b4, b5⟩ := h
  have q : ∀ c, c ≠ 3 → c < 572 → ylw f 3 572 st c = f c := fun c h1 h2 => ylw_ne ⟨h1, Or.inl h2⟩
  refine ⟨?_, fun u hu => ?_, fun a ha => ?_, fun kd hk => ?_, ⟨?_, fun i hi => ?_⟩, ?_, fun i hi => ?_⟩
  · rw [hI L (by omega), q 0 (by decide) (by decide), q 1 (by decide) (by decide), q 2 (by decide) (by decide), q 54 (by decide) (by decide), q 6 (by decide) (by decide)]; exact a
  · rw [hI (L + 1) (by omega), hI (L + 2) (by omega), q (56 + u) (by omega) (by omega), q (61 + u) (by omega) (by omega)]; exact b1 u hu
  · rw [hI (L + 3) (by omega), hI (L + 4) (by omega), hI (L + 5) (by omega), hI (L + 6) (by omega), q (66 + a) (by omega) (by omega), q (74 + a) (by omega) (by omega), q (37 + a) (by omega) (by omega), q (45 + a) (by omega) (by omega)]; exact b2 a ha
  · rw [hI (L + 7) (by omega), qkind_g (g := ylw f 3 572 st) h2 (fun c hc => q c (by omega) (by omega))]; exact b3 kd hk
  · unfold ylw; rw [if_pos rfl]
  · have hi2 : i < st.length := by unfold ylw at hi; rw [if_pos rfl] at hi; exact hi
    rw [hv i (st[i]) (List.getElem?_eq_getElem hi2)]
    unfold ylw
    rw [if_neg (by omega), if_pos (by omega), show 572 + i - 572 = i by omega, List.getD_eq_getElem?_getD, List.getElem?_eq_getElem hi2, Option.getD_some]
  · rw [q 4 (by decide) (by decide)]; exact b5.1
  · rw [q 4 (by decide) (by decide)] at hi
    rw [hI pl hpl, ylw_ne ⟨by omega, Or.inr (by omega)⟩]; exact b5.2 i hi
theorem LL.lwp {st : List Nat} {D : Nat} {I' : Nat → Nat → Int32} (h : LL I f L dl pl ld lp) (hp : LPl L dl pl) (h2 : f 2 ≤ 8) (h34 : f 3 ≤ 900 ∧ f 4 ≤ 900) (hst : st.length ≤ 900) (hI : ∀ b, b ≠ D → I' b = I b) (hD : L + 10 ≤ D) (hpl : dl ≠ D) (hv : ∀ i v, st[i]? = some v → I' D i = cst true v) : LL I' (ylw f 4 1472 st) L dl D ld st.length := by
  obtain ⟨p1, p2, p3⟩ := hp
  obtain ⟨a, b1, b2, b3, b4, b5⟩ := h
  have q : ∀ c, c ≠ 4 → c < 1472 → ylw f 4 1472 st c = f c := fun c h1 h2 => ylw_ne ⟨h1, Or.inl h2⟩
  refine ⟨?_, fun u hu => ?_, fun a ha => ?_, fun kd hk => ?_, ⟨?_, fun i hi => ?_⟩, ?_, fun i hi => ?_⟩
  · rw [hI L (by omega), q 0 (by decide) (by decide), q 1 (by decide) (by decide), q 2 (by decide) (by decide), q 54 (by decide) (by decide), q 6 (by decide) (by decide)]; exact a
  · rw [hI (L + 1) (by omega), hI (L + 2) (by omega), q (56 + u) (by omega) (by omega), q (61 + u) (by omega) (by omega)]; exact b1 u hu
  · rw [hI (L + 3) (by omega), hI (L + 4) (by omega), hI (L + 5) (by omega), hI (L + 6) (by omega), q (66 + a) (by omega) (by omega), q (74 + a) (by omega) (by omega), q (37 + a) (by omega) (by omega), q (45 + a) (by omega) (by omega)]; exact b2 a ha
  · rw [hI (L + 7) (by omega), qkind_g (g := ylw f 4 1472 st) h2 (fun c hc => q c (by omega) (by omega))]; exact b3 kd hk
  · rw [q 3 (by decide) (by decide)]; exact b4.1
  · rw [q 3 (by decide) (by decide)] at hi
    rw [hI dl hpl, q (572 + i) (by omega) (by omega)]; exact b4.2 i hi
  · unfold ylw; rw [if_pos rfl]
  · have hi2 : i < st.length := by unfold ylw at hi; rw [if_pos rfl] at hi; exact hi
    rw [hv i (st[i]) (List.getElem?_eq_getElem hi2)]
    unfold ylw
    rw [if_neg (by omega), if_pos (by omega), show 1472 + i - 1472 = i by omega, List.getD_eq_getElem?_getD, List.getElem?_eq_getElem hi2, Option.getD_some]
theorem yline_st {s s2 : Ln} (h : Wf t n s.1) (hx : Tx t n) (e : yline t n F s = .inr s2) : s.1.1 ≤ s2.1.2.1 := by
  unfold yline at e
  obtain ⟨s3, e3, e2⟩ := xb_inv e
  obtain ⟨m1, m2⟩ := yone_m h hx e3
  obtain ⟨s4, e4, e2⟩ := xb_inv e2
  have e5 := Sum.inr.inj e2
  subst e5
  have e6 : s4 = ynx t n s3.1.1 := by
    unfold ymust at e4
    split at e4
    · exact (Sum.inr.inj e4).symm
    · cases e4
  have ha := m1.ad hx
  rw [← e6] at ha
  show s.1.1 ≤ s4.2.1; omega
theorem rl_loop (hG : GT G) (hFn : n < F) : ∀ (d fl i : Nat) (s : Ln) (I : Nat → Nat → Int32) (J : Nat → Nat → Int64) (R : Nat → Nat → Option Nat) (S : Nat → Nat × Nat) (nx dl pl ld lp cb sb : Nat), i + d = 901 → 1000 ≤ i + fl → RdL μ0 (I, J, R, S, nx) L dl pl ld lp → CX I t n (none, s.1) → LL I s.2 L dl pl ld lp → Zk s.2 → s.2 0 = i → i ≤ s.1.2.1 → 901 ≤ cb + i → 901 ≤ sb + s.1.2.1 → WP l G (k + 102) mc ms mX6_readLand (RdQ μ0 t n L (ylp t n F fl s)) 45 [some (.ref 1), some (.int x1), some (.int (nI i))] [] (I, J, R, S, nx) cb sb := by
  intro d
  induction d with
  | zero =>
    intro fl i s I J R S nx dl pl ld lp cb sb hid hfl h hx hl hz h0 hi hcb hsb
    have hg := hx.g
    have h9 := hx.tx.1
    dsimp only at hg
    omega
  | succ d ih =>
    intro fl i s I J R S nx dl pl ld lp cb sb hid hfl h hx hl hz h0 hi hcb hsb
    have hg := hx.g
    dsimp only at hg
    have h9 := hx.tx.1
    have w : CF R S nx := h.2.1
    have h72 := w.1
    have wl : LW R S nx L dl pl ld lp := h.2.2.2.1
    have hp := h.2.2.2.2.1
    have hLn : L + 10 ≤ nx := wl.1
    have hL72 := hp.1
    have eTok : ∀ c, c < 1000 → (I 1 4 = nI c) = (s.1.2.2.1 = c) := fun c hc => hx.tok hc
    refine wp_iload_n (q := 46) dX6_readLand_45 rfl rfl rfl (wp_sipush (q := 49) dX6_readLand_46 rfl ks_900 (wp_icmp_gt (q := 52) (tgt := 272) dX6_readLand_49 rfl rfl (fun c => ?_) (fun _ => wp_aload_n (q := 53) dX6_readLand_52 rfl rfl rfl (wp_getI (q := 56) dX6_readLand_53 rfl fl_RX6_52 rfl (cf_n w (by decide)) (cf_o w (q := (1, 6)) (by decide)) (wp_if_ne (q := 59) (tgt := 272) dX6_readLand_56 rfl rfl (fun c => absurd hx.2.2.1 c) (fun _ => wp_aload_n (q := 60) dX6_readLand_59 rfl rfl rfl (wp_getI (q := 63) dX6_readLand_60 rfl fl_RX6_25 rfl (cf_n w (by decide)) (cf_o w (q := (1, 6)) (by decide)) (wp_sipush (q := 66) dX6_readLand_63 rfl ks_257 (wp_icmp_eq (q := 69) (tgt := 272) dX6_readLand_66 rfl rfl (fun c => ?_) (fun c => ?_))))))))))
    · have := (nI_ltI (a := 900) (b := i) (by decide) (by omega)).mp c
      omega
    · have c7 : s.1.2.2.1 = 257 := by rw [← eTok 257 (by decide)]; exact c
      rw [show ylp t n F fl s = .inr s by cases fl with
        | zero => rfl
        | succ fl => rw [ylp, if_pos c7]]
      exact rl_out h hx rfl (fun s' hs => by rw [← Sum.inr.inj hs]; exact hl)
    have c7 : s.1.2.2.1 ≠ 257 := fun g => c (by rw [← eTok 257 (by decide)] at g; exact g)
    have hst := hg.2.2.1.resolve_left c7
    obtain ⟨fl', rfl⟩ : ∃ fl', fl = fl' + 1 := ⟨fl - 1, by omega⟩
    rw [show ylp t n F (fl' + 1) s = xb (yline t n F s) (ylp t n F fl') by rw [ylp, if_neg c7]]
    have tl : ∀ (I' : Nat → Nat → Int32) (J' : Nat → Nat → Int64) (R' : Nat → Nat → Option Nat) (S' : Nat → Nat × Nat) (nx' dl' pl' ld' lp' : Nat) (z' : Zt) (cb' sb' : Nat), RdL μ0 (I', J', R', S', nx') L dl' pl' ld' lp' → CX I' t n z' → zr z' = lt1 (yone t n F s) → (∀ s1, yone t n F s = .inr s1 → LL I' s1.2 L dl' pl' ld' lp') → 900 ≤ cb' + i → (901 ≤ sb' + s.1.2.1 ∨ 901 ≤ sb' + z'.2.2.1) → WP l G (k + 102) mc ms mX6_readLand (RdQ μ0 t n L (xb (yline t n F s) (ylp t n F fl'))) 247 [some (.ref 1), some (.int x1), some (.int (nI i))] [] (I', J', R', S', nx') cb' sb' := by
      intro I' J' R' S' nx' dl' pl' ld' lp' z' cb' sb' a1 a2 a3 a4 a5 a6
      refine rl_tail a1 hG a2 a3 (fun s1 e1 => ⟨a4 s1 e1, ((yone_z hx.wf hx.tx hz e1).1).2.1.1⟩) (fun I2 z2 b1 b2 b3 b4 b5 => ?_)
      have b3 : zr z2 = lt1 (yline t n F s) := b3
      have b5 : ∀ s2, yline t n F s = .inr s2 → LL I2 s2.2 L dl' pl' ld' lp' := b5
      cases hY : yline t n F s with
      | inl e =>
        rw [hY] at b3
        exact rl_bad b1 b2 b3
      | inr s2 =>
        rw [hY] at b3
        have ez : z2 = (none, s2.1) := zr_i b3
        subst ez
        have e1 : ylp t n F 1 s = .inr s2 := by rw [ylp, if_neg c7, hY]; rfl
        obtain ⟨q1, q2, q3⟩ := ylp_z hx.tx 1 s s2 hx.wf hz (by omega) e1
        have q4 := yline_st hx.wf hx.tx hY
        have q5 : s2.2 0 = i + 1 := by
          have hY2 := hY
          unfold yline at hY2
          obtain ⟨s3, e3, e2⟩ := xb_inv hY2
          obtain ⟨s4, e4, e2⟩ := xb_inv e2
          have e5 := Sum.inr.inj e2
          subst e5
          show qset s3.2 0 (s3.2 0 + 1) 0 = i + 1
          rw [qset_eq, (yone_z hx.wf hx.tx hz e3).2, h0]
        dsimp only at b4
        exact ih fl' (i + 1) s2 I2 J' R' S' nx' dl' pl' ld' lp' cb' sb' (by omega) (by omega) b1 b2 (b5 s2 hY) q2 q5 (by omega) (by omega) (by omega)
    refine wp_aload_n (q := 70) dX6_readLand_69 rfl rfl rfl (wp_getI (q := 73) dX6_readLand_70 rfl fl_RX6_25 rfl (cf_n w (by decide)) (cf_o w (q := (1, 6)) (by decide)) (wp_sw_300_306 (I 1 4) (fun c => ?_) (fun c => ?_) (fun c => ?_) (fun c => ?_) (fun c => ?_) (fun c => ?_) (fun c => ?_) (fun c => ?_)))
    · -- no line begins so
      have tk : s.1.2.2.1 < 300 ∨ 306 < s.1.2.2.1 := by
        have hb : s.1.2.2.1 < 2 ^ 31 := by omega
        have e4 : I 1 4 = nI s.1.2.2.1 := hx.2.1.1.2.2.1
        rw [e4, nI_toInt hb] at c
        omega
      have ey : yone t n F s = .inl (qbl 2 s.1) := by
        unfold yone
        rw [if_neg (by omega), if_neg (by omega), if_neg (by omega), if_neg (by omega), if_neg (by omega), if_neg (by omega), if_neg (by omega)]
      have hr := refuse_z hx
      refine wp_tableOut (tgt := 243) dX6_readLand_73 c rfl (wp_aload_n (q := 244) dX6_readLand_243 rfl rfl rfl (wp_invV (q := 247) (As := []) dX6_readLand_244 rfl rfl ok_X6_refuse ml_RX6_105 im_X6_refuse se_X6_refuse (t := 6) (by decide) ⟨_, rfl, rfl⟩ (cf_n w (by decide)) (cf_o w (q := (1, 6)) (by decide)) rfl rfl (Nat.le_of_ble_eq_true rfl) (Nat.zero_le _) (Nat.zero_le _) (p_X6_refuse (k := k + 100) w) (fun r μ' hq => ?_) (fun E μ' hq => ?_)))
      · obtain ⟨hr1, rfl⟩ := hq
        obtain rfl := Sum.inl.inj hr1
        exact tl _ J R S nx dl pl ld lp _ cb sb (h.f1 hr.1 (by simp) (by decide)) hr.2 (by rw [zr_rf, ey]; rfl) (fun s1 e1 => by rw [ey] at e1; cases e1) (by omega) (Or.inl hsb)
      · cases hq.1
    · -- ward
      have tk : s.1.2.2.1 = 300 := by rw [← eTok 300 (by decide)]; exact c
      have ey : yone t n F s = yward t n F s := by unfold yone; rw [if_pos tk]
      refine wp_tableIn (tgt := 116) dX6_readLand_73 (by rw [c]; decide) (by rw [c]; decide) (by rw [c]; rfl) rfl (wp_aload_n (q := 117) dX6_readLand_116 rfl rfl rfl (wp_bV (q := 120) (As := []) (v := .null) dX6_readLand_117 rfl rfl ok_X6_readWard ml_RX6_67 im_X6_readWard se_X6_readWard (t := 6) (by decide) ⟨_, rfl, rfl⟩ (cf_n w (by decide)) (cf_o w (q := (1, 6)) (by decide)) rfl rfl (Nat.le_of_ble_eq_true rfl) (readWard_c (k := k + 92) (F := F) w h.2.2.1 wl hp hG hFn hx hl hz.1 hz.2.1.1) (fun I1 f1 => wp_goto (tgt := 247) dX6_readLand_120 rfl ?_)))
      obtain ⟨g1, z1, g2, g3, g4⟩ := f1
      exact tl I1 J R S nx dl pl ld lp z1 cb sb (h.f1 g1 (by simp [rowsL]) (by decide)) g2 (by rw [g3, ey]) (fun s1 e1 => g4 s1 (by rw [← e1, ey])) (by omega) (Or.inl hsb)
    · -- act
      have tk : s.1.2.2.1 = 301 := by rw [← eTok 301 (by decide)]; exact c
      have ey : yone t n F s = yact t n s := by unfold yone; rw [tk]; rfl
      refine wp_tableIn (tgt := 123) dX6_readLand_73 (by rw [c]; decide) (by rw [c]; decide) (by rw [c]; rfl) rfl (wp_aload_n (q := 124) dX6_readLand_123 rfl rfl rfl (wp_bV (q := 127) (As := []) (v := .null) dX6_readLand_124 rfl rfl ok_X6_readAct ml_RX6_70 im_X6_readAct se_X6_readAct (t := 6) (by decide) ⟨_, rfl, rfl⟩ (cf_n w (by decide)) (cf_o w (q := (1, 6)) (by decide)) rfl rfl (Nat.le_of_ble_eq_true rfl) (readAct_c (k := k + 93) w h.2.2.1 wl hp hG hx hl hz.2.1.1) (fun I1 f1 => wp_goto (tgt := 247) dX6_readLand_127 rfl ?_)))
      obtain ⟨g1, z1, g2, g3, g4⟩ := f1
      exact tl I1 J R S nx dl pl ld lp z1 cb sb (h.f1 g1 (by simp [rowsL]) (by decide)) g2 (by rw [g3, ey]) (fun s1 e1 => g4 s1 (by rw [← e1, ey])) (by omega) (Or.inl hsb)
    · -- law false
      have tk : s.1.2.2.1 = 302 := by rw [← hx.tok (c := 302) (by decide)]; exact c
      have ey : yone t n F s = ylaw t n F false s := by unfold yone; rw [tk]; rfl
      refine wp_tableIn (tgt := 130) dX6_readLand_73 (by rw [c]; decide) (by rw [c]; decide) (by rw [c]; rfl) rfl (wp_aload_n (q := 131) dX6_readLand_130 rfl rfl rfl (wp_iconst (q := 132) dX6_readLand_131 rfl ki_0 (wp_bV (q := 135) (As := [.int (0 : Int32)]) (v := .null) dX6_readLand_132 rfl rfl ok_X6_beginLaw ml_RX6_73 im_X6_beginLaw se_X6_beginLaw (t := 6) (by decide) ⟨_, rfl, rfl⟩ (cf_n w (by decide)) (cf_o w (q := (1, 6)) (by decide)) rfl rfl (Nat.le_of_ble_eq_true rfl) (beginLaw_c (k := k + 93) (m := false) w hG hx c7) (fun I1 f1 => wp_aload_n (q := 136) dX6_readLand_135 rfl rfl rfl (wp_iconst (q := 137) dX6_readLand_136 rfl ki_0 (wp_bV (q := 140) (As := [.int (0 : Int32)]) (v := .null) dX6_readLand_137 rfl rfl ok_X6_readSum ml_RX6_77 im_X6_readSum se_X6_readSum (t := 6) (by decide) ⟨_, rfl, rfl⟩ (cf_n w (by decide)) (cf_o w (q := (1, 6)) (by decide)) rfl rfl (Nat.le_of_ble_eq_true rfl) ((lev_k (m := false) hG hx.tx hFn 6 (by decide)).1 (k + 3) (s.1.2.1 + 1) I1 J R S nx _ w f1.2) (fun I2 f2 => ?_)))))))
      obtain ⟨zz, ll, y1, y2, y3, y4, y5, y6⟩ := f2.2
      have hgz := y2.g
      have h13 := cf_a w (q := (13, 100, 900)) (by decide)
      have hF2 : F1 [13] [3, 4, 5, 6, 8, 10, 11, 12] I I2 := f1.1.t (f2.1.wk (by simp) (by decide))
      refine wp_aload_n (q := 141) dX6_readLand_140 rfl rfl rfl (wp_getR (q := 144) dX6_readLand_141 rfl fl_RX6_37 rfl (cf_n w (by decide)) (cf_o w (q := (1, 6)) (by decide)) h.2.2.1 (wp_aload_n (q := 145) dX6_readLand_144 rfl rfl rfl (wp_getR (q := 148) dX6_readLand_145 rfl fl_RX6_45 rfl (cf_n w (by decide)) (cf_o w (q := (1, 6)) (by decide)) (cf_r w (q := (1, 9, 13)) (by decide)) (wp_aload_n (q := 149) dX6_readLand_148 rfl rfl rfl (wp_getI (q := 152) dX6_readLand_149 rfl fl_RX6_49 rfl (cf_n w (by decide)) (cf_o w (q := (1, 6)) (by decide)) ?_)))))
      rw [y4]
      refine wp_invS (q := 155) (As := [.ref 13, .int (nI ll)]) dX6_readLand_152 rfl rfl ok_J7_copyOf_59c91 ml_RX6_81 sm_J7_copyOf_59c91 rfl rfl (Nat.le_of_ble_eq_true rfl) (show 1 ≤ cb by omega) (show ll ≤ sb by omega) (copyOf_c (a := 13) (N := 900) (ll := ll) (cf_n w (by decide)) h13 (by omega) (by decide)) ?_ ?_
      · rintro r μ' ⟨hr1, I3, rfl, g1, g2⟩
        obtain rfl := Sum.inl.inj hr1
        have w2 : CF (up1 R nx (fun _ => none)) (up1 S nx (100, ll)) (nx + 1) := w.ad ⟨by omega, fun a ha => up1_ne (by omega)⟩ ⟨fun a ha _ => up1_ne (by omega), fun j _ => by rw [up1_ne (by omega)]⟩
        have eR : ∀ b, b ≠ L → up2 (up1 R nx (fun _ => none)) L 12 (some nx) b = up1 R nx (fun _ => none) b := fun b hb => up2_g hb
        have w3 : CF (up2 (up1 R nx (fun _ => none)) L 12 (some nx)) (up1 S nx (100, ll)) (nx + 1) := w2.rr (fun b hb _ => eR b (by omega)) (fun j _ => by rw [eR 14 (by omega)])
        have rowL : ∀ j, j ≠ 12 → up2 (up1 R nx (fun _ => none)) L 12 (some nx) L j = R L j := fun j hj => by rw [up2_h, if_neg hj, up1_ne (by omega)]
        have sOld : ∀ b, b < nx → up1 S nx (100, ll) b = S b := fun b hb => up1_ne (by omega)
        have wl3 : LW (up2 (up1 R nx (fun _ => none)) L 12 (some nx)) (up1 S nx (100, ll)) (nx + 1) L nx pl ll lp := by
          obtain ⟨v1, v2, v3, v4, v5, v6, v7⟩ := wl
          refine ⟨by omega, by rw [sOld L (by omega)]; exact v2, fun i hi => ⟨by rw [rowL _ (by omega)]; exact (v3 i hi).1, by rw [sOld _ (by omega)]; exact (v3 i hi).2⟩, ⟨?_, ?_⟩, ⟨?_, ?_⟩, ⟨by omega, by omega⟩, v7.1, ?_, ?_⟩
          · rw [up2_h, if_pos rfl]
          · rw [rowL 13 (by decide)]; exact v4.2
          · rw [up1_eq]
          · rw [sOld pl v6.2]; exact v5.2
          · exact Or.inr (by omega)
          · exact v7.2.2
        have hF3 : F1 [13, nx] [3, 4, 5, 6, 8, 10, 11, 12] I I3 := ⟨fun b b1 b2 => by rw [g1 b (by simp at b2; omega)]; exact hF2.1 b b1 (by simp at b2 ⊢; omega), fun f hf => by rw [g1 1 (by omega)]; exact hF2.2 f hf⟩
        have hI2 : LL I2 s.2 L dl pl ld lp := hl.f1 hp hF2 (by simp)
        refine wp_putR (q := 158) (ty := tyX2) dX6_readLand_155 rfl fl_RX6_87 rfl (Or.inl rfl) (fun _ => rfl) (fun _ => rfl) rfl (by omega) (by rw [sOld L (by omega)]; exact lw_s wl) (wp_goto (tgt := 247) dX6_readLand_158 rfl (tl I3 _ _ _ _ nx pl ll lp zz (cb - 1) (sb - ll) ⟨?_, w3, ?_, wl3, ?_, h.2.2.2.2.2.1, h.2.2.2.2.2.2⟩ ?_ ?_ ?_ (by omega) (Or.inr (by omega))))
        · refine (h.1.f1 hF3 (fun a ha => ?_) (by decide)).nw ?_ ?_ ?_ (Nat.le_succ nx) (by have := h.2.2.2.2.2.2; omega)
          · simp at ha; have := h.2.2.2.2.2.1; omega
          · intro b hb; exact up1_ne (by have := h.2.2.2.2.2.1; omega)
          · intro b hb; have := h.2.2.2.2.2.1; rw [eR b (by omega)]; exact up1_ne (by omega)
          · intro b hb; exact sOld b (by have := h.2.2.2.2.2.1; omega)
        · show up2 (up1 R nx (fun _ => none)) L 12 (some nx) 1 7 = some L
          rw [eR 1 (by omega), up1_ne (by omega)]; exact h.2.2.1
        · exact ⟨hp.1, by omega, by have := hp.2.2; omega⟩
        · exact y2.f1 (rs := [nx]) (fs := []) ⟨fun b b1 b2 => g1 b (by simp at b2; omega), fun f _ => by rw [g1 1 (by omega)]⟩ (by simp; omega) (by simp)
        · rw [y1, ey, ylaw_E]; cases hE : xb (xmust t n 58 (ynx t n s.1.1, [])) (xlev t n F false 6).1 <;> rw [show (if false = true then (xlev t n F false 6).2.2 else (xlev t n F false 6).1) = (xlev t n F false 6).1 from rfl, hE] <;> rfl
        · intro s1 e1
          rw [ey, ylaw_E] at e1
          obtain ⟨ex, e2, e3⟩ := xb_inv e1
          obtain ⟨y7, y8⟩ := y6 ex e2
          have e4 := Sum.inr.inj e3
          rw [← e4, ← y7]
          exact hI2.lwd hp hz.2.1.1 hz.2.2.1.1 (by omega) g1 (by omega) (by have := wl.2.2.2.2.2.1.2; omega) (fun i v hv => by
            have hi2 : i < ex.2.length := (List.getElem?_eq_some_iff.mp hv).1
            rw [g2 i (by omega)]; exact y8 i v hv)
      · rintro E μ' ⟨hr1, _⟩; cases hr1
    · -- law true
      have tk : s.1.2.2.1 = 303 := by rw [← hx.tok (c := 303) (by decide)]; exact c
      have ey : yone t n F s = ylaw t n F true s := by unfold yone; rw [tk]; rfl
      refine wp_tableIn (tgt := 161) dX6_readLand_73 (by rw [c]; decide) (by rw [c]; decide) (by rw [c]; rfl) rfl (wp_aload_n (q := 162) dX6_readLand_161 rfl rfl rfl (wp_iconst (q := 163) dX6_readLand_162 rfl ki_1 (wp_bV (q := 166) (As := [.int (1 : Int32)]) (v := .null) dX6_readLand_163 rfl rfl ok_X6_beginLaw ml_RX6_73 im_X6_beginLaw se_X6_beginLaw (t := 6) (by decide) ⟨_, rfl, rfl⟩ (cf_n w (by decide)) (cf_o w (q := (1, 6)) (by decide)) rfl rfl (Nat.le_of_ble_eq_true rfl) (beginLaw_c (k := k + 93) (m := true) w hG hx c7) (fun I1 f1 => wp_aload_n (q := 167) dX6_readLand_166 rfl rfl rfl (wp_iconst (q := 168) dX6_readLand_167 rfl ki_0 (wp_bV (q := 171) (As := [.int (0 : Int32)]) (v := .null) dX6_readLand_168 rfl rfl ok_X6_readTruth ml_RX6_90 im_X6_readTruth se_X6_readTruth (t := 6) (by decide) ⟨_, rfl, rfl⟩ (cf_n w (by decide)) (cf_o w (q := (1, 6)) (by decide)) rfl rfl (Nat.le_of_ble_eq_true rfl) ((lev_k (m := true) hG hx.tx hFn 6 (by decide)).2.2 (k + 0) (s.1.2.1 + 1) I1 J R S nx _ w f1.2) (fun I2 f2 => ?_)))))))
      obtain ⟨zz, ll, y1, y2, y3, y4, y5, y6⟩ := f2.2
      have hgz := y2.g
      have h13 := cf_a w (q := (13, 100, 900)) (by decide)
      have hF2 : F1 [13] [3, 4, 5, 6, 8, 10, 11, 12] I I2 := f1.1.t (f2.1.wk (by simp) (by decide))
      refine wp_aload_n (q := 172) dX6_readLand_171 rfl rfl rfl (wp_getR (q := 175) dX6_readLand_172 rfl fl_RX6_37 rfl (cf_n w (by decide)) (cf_o w (q := (1, 6)) (by decide)) h.2.2.1 (wp_aload_n (q := 176) dX6_readLand_175 rfl rfl rfl (wp_getR (q := 179) dX6_readLand_176 rfl fl_RX6_45 rfl (cf_n w (by decide)) (cf_o w (q := (1, 6)) (by decide)) (cf_r w (q := (1, 9, 13)) (by decide)) (wp_aload_n (q := 180) dX6_readLand_179 rfl rfl rfl (wp_getI (q := 183) dX6_readLand_180 rfl fl_RX6_49 rfl (cf_n w (by decide)) (cf_o w (q := (1, 6)) (by decide)) ?_)))))
      rw [y4]
      refine wp_invS (q := 186) (As := [.ref 13, .int (nI ll)]) dX6_readLand_183 rfl rfl ok_J7_copyOf_59c91 ml_RX6_81 sm_J7_copyOf_59c91 rfl rfl (Nat.le_of_ble_eq_true rfl) (show 1 ≤ cb by omega) (show ll ≤ sb by omega) (copyOf_c (a := 13) (N := 900) (ll := ll) (cf_n w (by decide)) h13 (by omega) (by decide)) ?_ ?_
      · rintro r μ' ⟨hr1, I3, rfl, g1, g2⟩
        obtain rfl := Sum.inl.inj hr1
        have w2 : CF (up1 R nx (fun _ => none)) (up1 S nx (100, ll)) (nx + 1) := w.ad ⟨by omega, fun a ha => up1_ne (by omega)⟩ ⟨fun a ha _ => up1_ne (by omega), fun j _ => by rw [up1_ne (by omega)]⟩
        have eR : ∀ b, b ≠ L → up2 (up1 R nx (fun _ => none)) L 13 (some nx) b = up1 R nx (fun _ => none) b := fun b hb => up2_g hb
        have w3 : CF (up2 (up1 R nx (fun _ => none)) L 13 (some nx)) (up1 S nx (100, ll)) (nx + 1) := w2.rr (fun b hb _ => eR b (by omega)) (fun j _ => by rw [eR 14 (by omega)])
        have rowL : ∀ j, j ≠ 13 → up2 (up1 R nx (fun _ => none)) L 13 (some nx) L j = R L j := fun j hj => by rw [up2_h, if_neg hj, up1_ne (by omega)]
        have sOld : ∀ b, b < nx → up1 S nx (100, ll) b = S b := fun b hb => up1_ne (by omega)
        have wl3 : LW (up2 (up1 R nx (fun _ => none)) L 13 (some nx)) (up1 S nx (100, ll)) (nx + 1) L dl nx ld ll := by
          obtain ⟨v1, v2, v3, v4, v5, v6, v7⟩ := wl
          refine ⟨by omega, by rw [sOld L (by omega)]; exact v2, fun i hi => ⟨by rw [rowL _ (by omega)]; exact (v3 i hi).1, by rw [sOld _ (by omega)]; exact (v3 i hi).2⟩, ⟨?_, ?_⟩, ⟨?_, ?_⟩, ⟨by omega, by omega⟩, v7.1, ?_, ?_⟩
          · rw [rowL 12 (by decide)]; exact v4.1
          · rw [up2_h, if_pos rfl]
          · rw [sOld dl v6.1]; exact v5.1
          · rw [up1_eq]
          · exact v7.2.1
          · exact Or.inr (by omega)
        have hF3 : F1 [13, nx] [3, 4, 5, 6, 8, 10, 11, 12] I I3 := ⟨fun b b1 b2 => by rw [g1 b (by simp at b2; omega)]; exact hF2.1 b b1 (by simp at b2 ⊢; omega), fun f hf => by rw [g1 1 (by omega)]; exact hF2.2 f hf⟩
        have hI2 : LL I2 s.2 L dl pl ld lp := hl.f1 hp hF2 (by simp)
        refine wp_putR (q := 189) (ty := tyX2) dX6_readLand_186 rfl fl_RX6_93 rfl (Or.inl rfl) (fun _ => rfl) (fun _ => rfl) rfl (by omega) (by rw [sOld L (by omega)]; exact lw_s wl) (wp_goto (tgt := 247) dX6_readLand_189 rfl (tl I3 _ _ _ _ dl nx ld ll zz (cb - 1) (sb - ll) ⟨?_, w3, ?_, wl3, ?_, h.2.2.2.2.2.1, h.2.2.2.2.2.2⟩ ?_ ?_ ?_ (by omega) (Or.inr (by omega))))
        · refine (h.1.f1 hF3 (fun a ha => ?_) (by decide)).nw ?_ ?_ ?_ (Nat.le_succ nx) (by have := h.2.2.2.2.2.2; omega)
          · simp at ha; have := h.2.2.2.2.2.1; omega
          · intro b hb; exact up1_ne (by have := h.2.2.2.2.2.1; omega)
          · intro b hb; have := h.2.2.2.2.2.1; rw [eR b (by omega)]; exact up1_ne (by omega)
          · intro b hb; exact sOld b (by have := h.2.2.2.2.2.1; omega)
        · show up2 (up1 R nx (fun _ => none)) L 13 (some nx) 1 7 = some L
          rw [eR 1 (by omega), up1_ne (by omega)]; exact h.2.2.1
        · exact ⟨hp.1, by have := hp.2.1; omega, by omega⟩
        · exact y2.f1 (rs := [nx]) (fs := []) ⟨fun b b1 b2 => g1 b (by simp at b2; omega), fun f _ => by rw [g1 1 (by omega)]⟩ (by simp; omega) (by simp)
        · rw [y1, ey, ylaw_E]; cases hE : xb (xmust t n 58 (ynx t n s.1.1, [])) (xlev t n F true 6).2.2 <;> rw [show (if true = true then (xlev t n F true 6).2.2 else (xlev t n F true 6).1) = (xlev t n F true 6).2.2 from rfl, hE] <;> rfl
        · intro s1 e1
          rw [ey, ylaw_E] at e1
          obtain ⟨ex, e2, e3⟩ := xb_inv e1
          obtain ⟨y7, y8⟩ := y6 ex e2
          have e4 := Sum.inr.inj e3
          rw [← e4, ← y7]
          exact hI2.lwp hp hz.2.1.1 hz.2.2.1.1 (by omega) g1 (by omega) (by have := wl.2.2.2.2.2.1.1; omega) (fun i v hv => by
            have hi2 : i < ex.2.length := (List.getElem?_eq_some_iff.mp hv).1
            rw [g2 i (by omega)]; exact y8 i v hv)
      · rintro E μ' ⟨hr1, _⟩; cases hr1
    · -- whole
      have tk : s.1.2.2.1 = 304 := by rw [← eTok 304 (by decide)]; exact c
      have ey : yone t n F s = .inr (ynx t n s.1.1, qset s.2 6 1) := by unfold yone; rw [tk]; rfl
      have hU : F1 [L] [] I (up2 I L 4 (1 : Int32)) := F1.rf.up (by simp) (by omega)
      have hx2 : CX (up2 I L 4 (1 : Int32)) t n (none, s.1) := hx.f1 hU (by simp; omega) (by simp)
      refine wp_tableIn (tgt := 192) dX6_readLand_73 (by rw [c]; decide) (by rw [c]; decide) (by rw [c]; rfl) rfl (wp_aload_n (q := 193) dX6_readLand_192 rfl rfl rfl (wp_getR (q := 196) dX6_readLand_193 rfl fl_RX6_37 rfl (cf_n w (by decide)) (cf_o w (q := (1, 6)) (by decide)) h.2.2.1 (wp_aload_n (q := 197) dX6_readLand_196 rfl rfl rfl (wp_getI (q := 200) dX6_readLand_197 rfl fl_RX6_25 rfl (cf_n w (by decide)) (cf_o w (q := (1, 6)) (by decide)) (wp_sipush (q := 203) dX6_readLand_200 rfl ks_304 (wp_icmp_ne (q := 206) (tgt := 210) dX6_readLand_203 rfl rfl (fun g => absurd c g) (fun _ => wp_iconst (q := 207) dX6_readLand_206 rfl ki_1 (wp_goto (tgt := 211) dX6_readLand_207 rfl (wp_putI (q := 214) (ty := tyX2) dX6_readLand_211 rfl fl_RX6_96 rfl rfl rfl rfl rfl (by omega) (lw_s wl) (wp_aload_n (q := 215) dX6_readLand_214 rfl rfl rfl (wp_bV (q := 218) (As := []) (v := .null) dX6_readLand_215 rfl rfl ok_X6_advance ml_RX6_64 im_X6_advance se_X6_advance (t := 6) (by decide) ⟨_, rfl, rfl⟩ (cf_n w (by decide)) (cf_o w (q := (1, 6)) (by decide)) rfl rfl (Nat.le_of_ble_eq_true rfl) (adv_z (k := k + 95) w hG hx2) (fun I1 f1 => wp_goto (tgt := 247) dX6_readLand_218 rfl ?_))))))))))))
      refine tl I1 J R S nx dl pl ld lp _ cb sb (h.f1 (hU.tr f1.1 (r3 := [L]) (f3 := [3, 4, 5, 6]) (by simp) (by simp)) (by simp) (by decide)) f1.2 (by rw [ey]; rfl) (fun s1 e1 => ?_) (by omega) (Or.inl hsb)
      rw [ey] at e1
      rw [← Sum.inr.inj e1]
      exact (hl.f0 (j := 4) (i := 6) (v := 1) hp hz.2.1.1 (Or.inr (Or.inl ⟨rfl, rfl⟩))).f1 hp f1.1 (by simp)
    · -- begun
      have tk : s.1.2.2.1 = 305 := by rw [← eTok 305 (by decide)]; exact c
      have ey : yone t n F s = .inr (ynx t n s.1.1, qset s.2 6 0) := by unfold yone; rw [tk]; rfl
      have hU : F1 [L] [] I (up2 I L 4 (0 : Int32)) := F1.rf.up (by simp) (by omega)
      have hx2 : CX (up2 I L 4 (0 : Int32)) t n (none, s.1) := hx.f1 hU (by simp; omega) (by simp)
      refine wp_tableIn (tgt := 192) dX6_readLand_73 (by rw [c]; decide) (by rw [c]; decide) (by rw [c]; rfl) rfl (wp_aload_n (q := 193) dX6_readLand_192 rfl rfl rfl (wp_getR (q := 196) dX6_readLand_193 rfl fl_RX6_37 rfl (cf_n w (by decide)) (cf_o w (q := (1, 6)) (by decide)) h.2.2.1 (wp_aload_n (q := 197) dX6_readLand_196 rfl rfl rfl (wp_getI (q := 200) dX6_readLand_197 rfl fl_RX6_25 rfl (cf_n w (by decide)) (cf_o w (q := (1, 6)) (by decide)) (wp_sipush (q := 203) dX6_readLand_200 rfl ks_304 (wp_icmp_ne (q := 206) (tgt := 210) dX6_readLand_203 rfl rfl (fun _ => wp_iconst (q := 211) dX6_readLand_210 rfl ki_0 (wp_putI (q := 214) (ty := tyX2) dX6_readLand_211 rfl fl_RX6_96 rfl rfl rfl rfl rfl (by omega) (lw_s wl) (wp_aload_n (q := 215) dX6_readLand_214 rfl rfl rfl (wp_bV (q := 218) (As := []) (v := .null) dX6_readLand_215 rfl rfl ok_X6_advance ml_RX6_64 im_X6_advance se_X6_advance (t := 6) (by decide) ⟨_, rfl, rfl⟩ (cf_n w (by decide)) (cf_o w (q := (1, 6)) (by decide)) rfl rfl (Nat.le_of_ble_eq_true rfl) (adv_z (k := k + 95) w hG hx2) (fun I1 f1 => wp_goto (tgt := 247) dX6_readLand_218 rfl ?_))))) (fun g => ?_)))))))
      · refine tl I1 J R S nx dl pl ld lp _ cb sb (h.f1 (hU.tr f1.1 (r3 := [L]) (f3 := [3, 4, 5, 6]) (by simp) (by simp)) (by simp) (by decide)) f1.2 (by rw [ey]; rfl) (fun s1 e1 => ?_) (by omega) (Or.inl hsb)
        rw [ey] at e1
        rw [← Sum.inr.inj e1]
        exact (hl.f0 (j := 4) (i := 6) (v := 0) hp hz.2.1.1 (Or.inr (Or.inl ⟨rfl, rfl⟩))).f1 hp f1.1 (by simp)
      · rw [c] at g; exact absurd g (by decide)
    · -- hour
      have tk : s.1.2.2.1 = 306 := by rw [← eTok 306 (by decide)]; exact c
      have ey : yone t n F s = xb (ynum t n 0 1000 (ynx t n s.1.1)) (fun r => .inr (r.2, qset s.2 54 r.1)) := by unfold yone; rw [tk]; rfl
      obtain ⟨v, hv⟩ : ∃ v, znu t n 0 1000 (zad t n (none, s.1)) = v := ⟨_, rfl⟩
      have nu := zr_nu (t := t) (n := n) (lo := 0) (hi := 1000) (z := zad t n (none, s.1))
      rw [hv] at nu
      have nu1 : zr v.2 = xb (ynum t n 0 1000 (ynx t n s.1.1)) (fun r => .inr r.2) := nu.1
      have nu2 : ∀ r, ynum t n 0 1000 (ynx t n s.1.1) = .inr r → v.1 = r.1 := nu.2
      refine wp_tableIn (tgt := 221) dX6_readLand_73 (by rw [c]; decide) (by rw [c]; decide) (by rw [c]; rfl) rfl (wp_aload_n (q := 222) dX6_readLand_221 rfl rfl rfl (wp_bV (q := 225) (As := []) (v := .null) dX6_readLand_222 rfl rfl ok_X6_advance ml_RX6_64 im_X6_advance se_X6_advance (t := 6) (by decide) ⟨_, rfl, rfl⟩ (cf_n w (by decide)) (cf_o w (q := (1, 6)) (by decide)) rfl rfl (Nat.le_of_ble_eq_true rfl) (adv_z (k := k + 95) w hG hx) (fun I1 f1 => wp_aload_n (q := 226) dX6_readLand_225 rfl rfl rfl (wp_getR (q := 229) dX6_readLand_226 rfl fl_RX6_37 rfl (cf_n w (by decide)) (cf_o w (q := (1, 6)) (by decide)) h.2.2.1 (wp_aload_n (q := 230) dX6_readLand_229 rfl rfl rfl (wp_iconst (q := 231) dX6_readLand_230 rfl ki_0 (wp_sipush (q := 234) dX6_readLand_231 rfl ks_999 ?_)))))))
      have tn := takeNumber_z (l := l) (k := k + 94) (J := J) (lo := 0) (hi := 1000) (y := 999) w hG f1.2 (by decide) (by decide) (by decide)
      rw [hv] at tn
      refine wp_aV (q := 237) (As := [.int (0 : Int32), .int (999 : Int32)]) (v := .int (nI v.1)) dX6_readLand_234 rfl rfl ok_X6_takeNumber ml_RX6_99 im_X6_takeNumber se_X6_takeNumber (t := 6) (by decide) ⟨_, rfl, rfl⟩ (cf_n w (by decide)) (cf_o w (q := (1, 6)) (by decide)) rfl rfl (Nat.le_of_ble_eq_true rfl) tn (fun I2 f2 => wp_putI (q := 240) (ty := tyX2) dX6_readLand_237 rfl fl_RX6_102 rfl rfl rfl rfl rfl (by omega) (lw_s wl) (wp_goto (tgt := 247) dX6_readLand_240 rfl ?_))
      have hF2 : F1 [] [3, 4, 5, 6, 11, 12] I I2 := (f1.1.wk (by simp) (by decide)).t f2.1
      refine tl (up2 I2 L 3 (nI v.1)) J R S nx dl pl ld lp v.2 cb sb (h.f1 ((hF2.wk (r2 := [L]) (by simp) (fun a ha => ha)).up (by simp) (by omega)) (by simp) (by decide)) (f2.2.f1 (rs := [L]) (fs := []) (F1.rf.up (by simp) (by omega)) (by simp; omega) (by simp)) ?_ (fun s1 e1 => ?_) (by omega) (Or.inl hsb)
      · rw [nu1, ey]; cases ynum t n 0 1000 (ynx t n s.1.1) <;> rfl
      · rw [ey] at e1
        obtain ⟨r, e2, e3⟩ := xb_inv e1
        rw [← Sum.inr.inj e3, nu2 r e2]
        exact (hl.f1 hp hF2 (by simp)).f0 (j := 3) (i := 54) (v := r.1) hp hz.2.1.1 (Or.inr (Or.inr ⟨rfl, rfl⟩))
end A
