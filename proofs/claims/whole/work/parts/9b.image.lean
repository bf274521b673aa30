/-! the class: images -/
section R
variable {l : Launch} {G : Gh} {k mc ms : Nat} {M : Mt} {Q : Res → Mem → Prop} {pc q : Nat} {L L' : List (Option Value)} {st : List Value} {μ : Mem} {cb sb : Nat}
theorem wp_astore_nN {f : Fin 4} {i : Nat} (hd : decode M.2.1 pc = .ok (.astore_n f, 1)) (hq : pc + 1 = q) (hi : (f : Nat) = i) (hn : i < M.2.2.1) (hL : stL1 L i .null = L') (h : WP l G k mc ms M Q q L' st μ cb sb) : WP l G k mc ms M Q pc L (.null :: st) μ cb sb := by
  subst hq
  intro p e s m args below meth c H locs cells slots ls C hR hS hl h1 h2
  exact lv_astore_nN C.1 C.2.1 hd hi hl hn rfl (fun ls2 hl2 => h p e s m args below meth c H locs cells slots ls2 C hR hS (lsSt1 hL hl2) h1 h2)
theorem wp_aload_nN {f : Fin 4} {i : Nat} (hd : decode M.2.1 pc = .ok (.aload_n f, 1)) (hq : pc + 1 = q) (hi : (f : Nat) = i) (hL : L[i]? = some (some .null)) (h : WP l G k mc ms M Q q L (.null :: st) μ cb sb) : WP l G k mc ms M Q pc L (st) μ cb sb := by
  subst hq
  intro p e s m args below meth c H locs cells slots ls C hR hS hl h1 h2
  exact lv_aload_nN C.1 C.2.1 hd hi (lsAt hl hL) (h p e s m args below meth c H locs cells slots ls C hR hS hl h1 h2)
end R
theorem ndIm {x : Int32} : nd_needImage x = if gR x 0 2 then none else some eNS := by
  unfold nd_needImage nd_needWard gR
  rw [show (3 : Int32).toInt = 3 from rfl]
  by_cases c : 0 ≤ x.toInt ∧ x.toInt < 3
  · rw [if_pos c, if_pos (by omega)]
  · rw [if_neg c, if_neg (by omega)]
section A
variable {l : Launch} {G : Gh} {k : Nat} {I : Nat → Nat → Int32} {J : Nat → Nat → Int64} {R : Nat → Nat → Option Nat} {S : Nat → Nat × Nat} {nx : Nat} {κ : Nat → Nat} {hb pb : Nat}
variable {R' : Nat → Nat → Option Nat} {I' : Nat → Nat → Int32} {ι : Nat → Option (Nat → Nat)} {τ tm : Nat → Nat} {tn : Nat → Nat → Int64} {tp : Nat} {fk fp : Int32} {t : Nat → Nat} {ow : Nat → Nat} {L dl pl ld lp : Nat}
theorem i_X1_init {x0 x1 : Nat} (hx : x0 < nx) (hs : (S x0).1 = 1) : Cal l G (k + 1) 3 542 mX1_init [.ref x0, .ref x1] (I, J, R, S, nx) (fun r μ' => r = .inl none ∧ ∃ I' J' R' S', μ' = (I', J', R', S', nx + 3) ∧ (∀ a, a < nx → I' a = I a ∧ J' a = J a ∧ S' a = S a ∧ (a ≠ x0 → R' a = R a)) ∧ (R' x0 0 = some x1 ∧ R' x0 1 = some nx ∧ R' x0 2 = some (nx + 1)) ∧ (S' nx = (100, 49) ∧ (S' (nx + 1)).1 = 5 ∧ S' (nx + 2) = (100, 490)) ∧ R' (nx + 1) 0 = some (nx + 2)) := by
  refine Cal.of rfl (by decide +kernel) (by simp) (Nat.le_of_ble_eq_true rfl) rfl (wp_aload_n (q := 1) dX1_init_0 rfl rfl rfl (wp_objInit (q := 4) dX1_init_1 rfl ml_RX1_3 OI OC (Nat.le_of_ble_eq_true rfl) (wp_aload_n (q := 5) dX1_init_4 rfl rfl rfl (wp_bipush (q := 7) dX1_init_5 rfl kb_49 (wp_newarr (q := 9) (ty := .int) (tg := 100) (n := 49) dX1_init_7 rfl (Or.inl ⟨rfl, rfl⟩) AR100 (by decide) (by decide) (by decide) (wp_putR (q := 12) (ty := tyX1) dX1_init_9 rfl fl_RX1_9 rfl (Or.inr ⟨rfl, rfl, rfl⟩) (fun _ => rfl) (fun _ => rfl) rfl (by omega) (by rw [up1_ne (by omega)]; exact hs) (wp_aload_n (q := 13) dX1_init_12 rfl rfl rfl (wp_new (q := 16) (t := 5) dX1_init_13 rfl rfl rfl (by decide) cl_RX1_15 ib_RX5 in_RX5 (wp_dup (q := 17) dX1_init_16 rfl rfl (wp_invIN (q := 20) (As := []) (host := RX11) dX1_init_17 rfl rfl ok_X5_init rfl rfl (List.mem_of_getElem? (i := 7) rfl) im_X5_init rfl rfl (Nat.le_of_ble_eq_true rfl) (Nat.le_refl _) (Nat.le_refl _) (i_X5_init (x0 := nx + 1) (by omega) (by rw [up1_eq])) ?_ ?_))))))))))
  · rintro r μ' ⟨hr1, I1, J1, R1, S1, rfl, a1, a2, a3, a4, a5⟩
    obtain rfl := Sum.inl.inj hr1
    have s0 : S1 x0 = S x0 := by rw [(a1 x0 (by omega)).2.2, up1_ne (by omega), up1_ne (by omega)]
    refine wp_putR (q := 23) (ty := tyX1) dX1_init_20 rfl fl_RX1_18 rfl (Or.inr ⟨rfl, rfl, rfl⟩) (fun _ => rfl) (fun _ => rfl) rfl (by omega) (by rw [s0]; exact hs) (wp_aload_n (q := 24) dX1_init_23 rfl rfl rfl (wp_aload_n (q := 25) dX1_init_24 rfl rfl rfl (wp_putR (q := 28) (ty := tyX1) dX1_init_25 rfl fl_RX1_22 rfl (Or.inl rfl) (fun _ => rfl) (fun _ => rfl) rfl (by omega) (by rw [s0]; exact hs) (wp_return dX1_init_28 rfl ?_))))
    refine ⟨rfl, I1, J1, _, S1, rfl, fun a ha => ?_, ⟨?_, ?_, ?_⟩, ⟨?_, ?_, ?_⟩, ?_⟩
    · obtain ⟨b1, b2, b3⟩ := a1 a (by omega)
      obtain ⟨b4, b5⟩ := b1 (by omega)
      rw [up1_ne (by omega), up1_ne (by omega)] at b2 b3 b4
      refine ⟨b4, b2, b3, fun hne => ?_⟩
      rw [up2_g hne, up2_g hne, b5, up1_ne (by omega), up2_g hne, up1_ne (by omega)]
    · rw [up2_h, if_pos rfl]
    · rw [up2_h, if_neg (by decide), up2_h, if_neg (by decide), (a1 x0 (by omega)).1 (by omega) |>.2, up1_ne (by omega), up2_h, if_pos rfl]
    · rw [up2_h, if_neg (by decide), up2_h, if_pos rfl]
    · rw [(a1 nx (by omega)).2.2, up1_ne (by omega), up1_eq]
    · rw [(a1 (nx + 1) (by omega)).2.2, up1_eq]
    · exact a4
    · rw [up2_g (by omega), up2_g (by omega)]; exact a3
  · rintro E μ' ⟨hr1, _⟩; cases hr1
theorem LW.rr (h : LW R S nx L dl pl ld lp) (e : R' L = R L) : LW R' S nx L dl pl ld lp := by
  obtain ⟨h1, h2, h3, h4, h5, h6, h7⟩ := h
  exact ⟨h1, h2, fun i hi => ⟨by rw [e]; exact (h3 i hi).1, (h3 i hi).2⟩, by rw [e]; exact h4, h5, h6, h7⟩
theorem LdC.rr (h : LdC I R S nx ow L κ dl pl ld lp) (e : R' L = R L) : LdC I R' S nx ow L κ dl pl ld lp := ⟨h.1.rr e, h.2⟩
theorem LdC.n14 (h : LdC I R S nx ow L κ dl pl ld lp) : (L = 3 ∨ L = 15 ∨ 72 ≤ L) ∧ ow L = 0 := by
  have h7 := h.1.2.2.2.2.2.2.1
  have h0 := h.2.2.1 0 (by decide)
  exact ⟨h7, h0⟩
theorem ImX.rr {i X : Nat} {σ : Nat → Nat} (h : ImX I R S nx ow i X σ) (e1 : R' X = R X) (e2 : R' (X + 2) = R (X + 2)) (e3 : ∀ b, (b = 3 ∨ b = 15 ∨ 72 ≤ b) → ow b = 0 → R' b = R b) : ImX I R' S nx ow i X σ := by
  obtain ⟨h1, h2, ⟨LX, dl, pl, ld, lp, h3, h4⟩, h5, h6⟩ := h
  obtain ⟨n1, n2⟩ := h4.n14
  exact ⟨h1, ⟨h2.1, by rw [e1]; exact h2.2.1, by rw [e1]; exact h2.2.2.1, h2.2.2.2.1, h2.2.2.2.2.1, by rw [e2]; exact h2.2.2.2.2.2.1, h2.2.2.2.2.2.2⟩, ⟨LX, dl, pl, ld, lp, by rw [e1]; exact h3, h4.rr (e3 _ n1 n2)⟩, h5, h6⟩
theorem LdC.io (h : LdC I R S nx ow L κ dl pl ld lp) (g : ∀ b, ow b = 0 → I' b = I b) : LdC I' R S nx ow L κ dl pl ld lp := by
  obtain ⟨h1, h2, h3, h4, h5⟩ := h
  refine ⟨h1, ?_, h3, h4, h5⟩
  have e : ∀ i, i < 8 → I' (L + i) = I (L + i) := fun i hi => g _ (h3 i (by omega))
  have ed : I' dl = I dl := g _ h4
  have ep : I' pl = I pl := g _ h5
  obtain ⟨q1, q2, q3, q4, q5, q6⟩ := h2
  refine ⟨?_, fun w hw => ?_, fun a ha => ?_, fun k hk => ?_, ⟨q5.1, fun i hi => ?_⟩, ⟨q6.1, fun i hi => ?_⟩⟩
  · have := e 0 (by decide); rw [Nat.add_zero] at this; rw [this]; exact q1
  · rw [e 1 (by decide), e 2 (by decide)]; exact q2 w hw
  · rw [e 3 (by decide), e 4 (by decide)]; exact q3 a ha
  · rw [e 7 (by decide)]; exact q4 k hk
  · rw [ed]; exact q5.2 i hi
  · rw [ep]; exact q6.2 i hi
theorem ImX.io {i X : Nat} {σ : Nat → Nat} (h : ImX I R S nx ow i X σ) (e1 : ∀ j, j < 4 → I' (X + j) = I (X + j)) (g : ∀ b, ow b = 0 → I' b = I b) : ImX I' R S nx ow i X σ := by
  obtain ⟨h1, h2, ⟨LX, dl, pl, ld, lp, h3, h4⟩, h5, s, q1, q2, q3, q4⟩ := h
  refine ⟨h1, h2, ⟨LX, dl, pl, ld, lp, h3, h4.io g⟩, fun j hj => ?_, s, q1, ?_, ?_, fun j hj i hi => ?_⟩
  · rw [e1 1 (by decide)]; exact h5 j hj
  · rw [e1 2 (by decide)]; exact q2
  · rw [e1 2 (by decide)]; exact q3
  · rw [e1 3 (by decide)]; exact q4 j hj i hi
theorem OW.rr {o : Nat} (h : OW R S nx o) (e : R' o = R o) : OW R' S nx o := ⟨h.1, h.2.1, by rw [e]; exact h.2.2.1, fun q hq => ⟨by rw [e]; exact (h.2.2.2 q hq).1, (h.2.2.2 q hq).2⟩⟩
theorem WW.rr {o : Nat} (h : WW R S nx o) (e : R' o = R o) : WW R' S nx o := ⟨h.1, h.2.1, by rw [e]; exact h.2.2.1, fun q hq => ⟨by rw [e]; exact (h.2.2.2 q hq).1, (h.2.2.2 q hq).2⟩⟩
theorem AW.rr {o : Nat} (h : AW R S nx o) (e : R' o = R o) : AW R' S nx o := ⟨h.1, h.2.1, by rw [e]; exact h.2.2.1, fun q hq => ⟨by rw [e]; exact (h.2.2.2 q hq).1, (h.2.2.2 q hq).2⟩⟩
theorem TW1.rr {o : Nat} (h : TW1 R S nx o) (e : R' o = R o) : TW1 R' S nx o := ⟨h.1, h.2.1, by rw [e]; exact h.2.2.1, fun q hq => ⟨by rw [e]; exact (h.2.2.2 q hq).1, (h.2.2.2 q hq).2⟩⟩
theorem LzC.rr (h : LzC R S nx ow) (e0 : R' 0 = R 0) (e : ∀ b, 72 ≤ b → 1 ≤ ow b → ow b ≤ 4 → R' b = R b) : LzC R' S nx ow := by
  unfold LzC
  rw [e0]
  refine ⟨fun o ho => ?_, fun o ho => ?_, fun o ho => ?_, fun o ho => ?_⟩
  · obtain ⟨a, b, c⟩ := h.1 o ho
    have := c 0 (by decide)
    rw [Nat.add_zero] at this
    exact ⟨a.rr (e o b (by omega) (by omega)), b, c⟩
  · obtain ⟨a, b, c⟩ := h.2.1 o ho
    have := c 0 (by decide)
    rw [Nat.add_zero] at this
    exact ⟨a.rr (e o b (by omega) (by omega)), b, c⟩
  · obtain ⟨a, b, c⟩ := h.2.2.1 o ho
    have := c 0 (by decide)
    rw [Nat.add_zero] at this
    exact ⟨a.rr (e o b (by omega) (by omega)), b, c⟩
  · obtain ⟨a, b, c⟩ := h.2.2.2 o ho
    have := c 0 (by decide)
    rw [Nat.add_zero] at this
    exact ⟨a.rr (e o b (by omega) (by omega)), b, c⟩
theorem CF.rr (h : CF R S nx) (e : ∀ b, b < 72 → (b ≠ 14 ∧ b ≠ 34) → R' b = R b) (e14 : ∀ j, 1 ≤ j → R' 14 j = R 14 j) : CF R' S nx := by
  obtain ⟨h1, h2, h3, h4, h5⟩ := h
  have c : ∀ q ∈ cwR, (q.1 < 72 ∧ q.1 ≠ 34) ∧ (q.1 = 14 → 1 ≤ q.2.1) := by decide
  refine ⟨h1, h2, fun q hq => ?_, h4, fun i hi => by rw [e 33 (by decide) ⟨by decide, by decide⟩]; exact h5 i hi⟩
  obtain ⟨c1, c2⟩ := c q hq
  by_cases c3 : q.1 = 14
  · rw [c3, e14 _ (c2 c3), ← c3]; exact h3 q hq
  · rw [e _ c1.1 ⟨c3, c1.2⟩]; exact h3 q hq
/-- an image's cells, whatever they hold -/
def ImS (R : Nat → Nat → Option Nat) (S : Nat → Nat × Nat) (nx : Nat) (ow : Nat → Nat) (i X : Nat) : Prop := (X + 4 ≤ nx ∧ Own ow X 4 (5 + i)) ∧ ((S X).1 = 1 ∧ R X 1 = some (X + 1) ∧ R X 2 = some (X + 2) ∧ S (X + 1) = (100, 49) ∧ (S (X + 2)).1 = 5 ∧ R (X + 2) 0 = some (X + 3) ∧ S (X + 3) = (100, 490))
/-- all but the images -/
theorem image_t {a X cb sb : Nat} {μ : Mem} (ha : a < 3) (w : CF R S nx) (hT : TrC I J τ tm tn) (hp : TpC I t tp) (hf : I 1 11 = fk ∧ I 1 12 = fp) (hz : LzC R S nx ow) (hi : ∀ i, i < 3 → i ≠ a → match ι i with
  | none => R 34 i = none
  | some σ => ∃ X, R 34 i = some X ∧ ImX I R S nx ow i X σ) (hX : R 34 a = some X) (hS : ImS R S nx ow a X) (wL : R 14 0 = some L) (hL : LdC I R S nx ow L κ dl pl ld lp) (hN : CN I κ) (hV : PV I κ) (hP : PS I 30 31 κ) (hK : KF μ (I, J, R, S, nx)) :
    WP l G (k + 1) 40 14000 mX11_image (CQ μ (.inl none) (κ, (fun i => if i = a then some κ else ι i), (τ, tm, tn), (t, tp), fk, fp)) 33 [some (.ref 0), some (.int (nI a)), none] [] (I, J, R, S, nx) cb sb := by
  obtain ⟨⟨s1, s2, s3⟩, s4, s5, s6, s7, s8, s9, s10⟩ := hS
  have h72 := w.1
  have hn0 : 0 < nx := by omega
  have hs0 : (S 0).1 = 11 := cf_o w (q := (0, 11)) (by decide)
  have ec : (nI a).toNatClampNeg = a := nI_clamp (by omega)
  have xo : ∀ j, j < 4 → ow (X + j) = 5 + a := s3
  have x0 : ow X = 5 + a := xo 0 (by decide)
  refine wp_aload_n (q := 34) dX11_image_33 rfl rfl rfl (wp_getR (q := 37) dX11_image_34 rfl fl_RX11_42 rfl hn0 hs0 (cf_r w (q := (0, 5, 34)) (by decide)) (wp_iload_n (q := 38) dX11_image_37 rfl rfl rfl (wp_aaloadR (q := 39) dX11_image_38 rfl (Or.inr rfl) (cf_n w (by decide)) (cf_a w (q := (34, 105, 3)) (by decide)) (vp_in_nI (by omega) (by decide)) (by rw [ec]; exact hX) (wp_astore_n (q := 40) dX11_image_39 rfl rfl (by decide) rfl (wp_aload_n (q := 41) dX11_image_40 rfl rfl rfl (wp_aload_n (q := 42) dX11_image_41 rfl rfl rfl (wp_getR (q := 45) dX11_image_42 rfl fl_RX11_19 rfl hn0 hs0 (cf_r w (q := (0, 1, 14)) (by decide)) (wp_getR (q := 48) dX11_image_45 rfl fl_RX11_106 rfl (cf_n w (by decide)) (cf_o w (q := (14, 7)) (by decide)) wL (wp_putR (q := 51) (ty := tyX1) dX11_image_48 rfl fl_RX11_377 rfl (Or.inl rfl) (fun _ => rfl) (fun _ => rfl) rfl (by omega) s4 ?_)))))))))
  have eR : ∀ b, b ≠ X → up2 R X 0 (some L) b = R b := fun b hb => up2_g hb
  have w' : CF (up2 R X 0 (some L)) S nx := w.rr (fun b h1 _ => eR b (by omega)) (fun j _ => by rw [eR 14 (by omega)])
  refine wp_aload_n (q := 52) dX11_image_51 rfl rfl rfl (wp_getR (q := 55) dX11_image_52 rfl fl_RX11_19 rfl hn0 hs0 (cf_r w' (q := (0, 1, 14)) (by decide)) (wp_getR (q := 58) dX11_image_55 rfl fl_RX11_103 rfl (cf_n w (by decide)) (cf_o w (q := (14, 7)) (by decide)) (cf_r w' (q := (14, 1, 25)) (by decide)) (wp_iconst (q := 59) dX11_image_58 rfl ki_0 (wp_aload_n (q := 60) dX11_image_59 rfl rfl rfl (wp_getR (q := 63) dX11_image_60 rfl fl_RX11_378 rfl (by omega) s4 (by rw [up2_h, if_neg (by decide)]; exact s5) (wp_iconst (q := 64) dX11_image_63 rfl ki_0 (wp_bipush (q := 66) dX11_image_64 rfl kb_49 (wp_copyI (q := 69) dX11_image_66 rfl ml_RX11_210 (sp1 := 0) (dp1 := 0) (n1p := 49) (by decide) (by decide) (by decide) (Nat.le_of_ble_eq_true rfl) (cf_n w (by decide)) (cf_a w (q := (25, 100, 49)) (by decide)) (by omega) s7 (by decide) (wp_aload_n (q := 70) dX11_image_69 rfl rfl rfl (wp_getR (q := 73) dX11_image_70 rfl fl_RX11_379 rfl (by omega) s4 (by rw [up2_h, if_neg (by decide)]; exact s6) (wp_aload_n (q := 74) dX11_image_73 rfl rfl rfl (wp_getR (q := 77) dX11_image_74 rfl fl_RX11_26 rfl hn0 hs0 (cf_r w' (q := (0, 2, 30)) (by decide)) ?_))))))))))))
  have eU : ∀ b, b ≠ X + 1 → upC I 25 (X + 1) 0 0 49 b = I b := fun b hb => upC_ne hb
  have hP' : PS (upC I 25 (X + 1) 0 0 49) 30 31 κ := by
    obtain ⟨s, q1, q2, q3, q4⟩ := hP
    exact ⟨s, q1, by rw [eU 30 (by omega)]; exact q2, by rw [eU 30 (by omega)]; exact q3, fun j hj i hi => by rw [eU 31 (by omega)]; exact q4 j hj i hi⟩
  refine wp_invV (q := 80) (As := [.ref 30]) (t := 5) dX11_image_77 rfl rfl ok_X5_become ml_RX11_380 im_X5_become se_X5_become (by decide) ⟨_, rfl, rfl⟩ (by show X + 2 < nx; omega) s8 rfl rfl (Nat.le_of_ble_eq_true rfl) (Nat.zero_le _) (Nat.zero_le _) (become_c (p := X + 2) (rw := X + 3) (p' := 30) (rw' := 31) (κ := κ) w' ⟨by omega, s8, by rw [eR _ (by omega)]; exact s9, s10, by omega⟩ ⟨cf_n w (by decide), cf_o w (q := (30, 5)) (by decide), cf_r w' (q := (30, 0, 31)) (by decide), cf_a w (q := (31, 100, 490)) (by decide), cf_n w (by decide)⟩ ⟨by omega, by omega, by omega, by omega, by omega⟩ hP') ?_ ?_
  · rintro r μ' ⟨hr1, I2, rfl, f1, f2⟩
    obtain rfl := Sum.inl.inj hr1
    have eI : ∀ b, (b < X + 1 ∨ X + 4 ≤ b) → I2 b = I b := fun b hb => by
      rw [f1 b (by simp; omega), eU b (by omega)]
    have gI : ∀ b, ow b = 0 → I2 b = I b := fun b hb => eI b (by
      rcases Nat.lt_or_ge b (X + 1) with c | c
      · exact Or.inl c
      · rcases Nat.lt_or_ge b (X + 4) with c2 | c2
        · have := xo (b - X) (by omega)
          rw [show X + (b - X) = b by omega] at this; omega
        · exact Or.inr c2)
    have gR : ∀ b, (b = 3 ∨ b = 15 ∨ 72 ≤ b) → ow b = 0 → up2 R X 0 (some L) b = R b := fun b _ hb => eR b (fun c => by rw [c] at hb; omega)
    have eL : LdC I2 (up2 R X 0 (some L)) S nx ow L κ dl pl ld lp := (hL.rr (eR L (fun c => by have := hL.n14.2; rw [c] at this; omega))).io gI
    have hCR : CR I2 J (up2 R X 0 (some L)) S nx ow (fun i => if i = a then some κ else ι i) τ tm tn t tp fk fp := by
      refine ⟨w', ?_, ?_, ?_, ?_, ?_⟩
      · intro q hq
        rw [eI (35 + 2 * q) (by omega)]; exact hT q hq
      · unfold TpC; rw [eI 1 (by omega), eI 2 (by omega)]; exact hp
      · rw [eI 1 (by omega)]; exact hf
      · exact hz.rr (eR 0 (by omega)) (fun b _ h1 h2 => eR b (fun c => by rw [c, x0] at h2; omega))
      · intro i hi3
        by_cases ci : i = a
        · subst ci
          show match (if i = i then some κ else ι i) with | none => _ | some σ => _
          rw [if_pos rfl]
          refine ⟨X, by rw [eR 34 (by omega)]; exact hX, ⟨s1, s2, s3⟩, ⟨s4, by rw [up2_h, if_neg (by decide)]; exact s5, by rw [up2_h, if_neg (by decide)]; exact s6, s7, s8, by rw [eR _ (by omega)]; exact s9, s10⟩, ⟨L, dl, pl, ld, lp, by rw [up2_h, if_pos rfl], eL⟩, fun j hj => ?_, f2⟩
          rw [f1 (X + 1) (by simp), upC_in (by omega), show 0 + (j - 0) = j by omega]
          exact hN j hj
        · show match (if i = a then some κ else ι i) with | none => _ | some σ => _
          rw [if_neg ci]
          have := hi i hi3 ci
          cases hq : ι i with
          | none => rw [hq] at this; show up2 R X 0 (some L) 34 i = none; rw [eR 34 (by omega)]; exact this
          | some σ =>
            rw [hq] at this
            obtain ⟨Y, y1, y2⟩ := this
            have yo := y2.1.2.2
            have ne : ∀ j j', j < 4 → j' < 4 → Y + j ≠ X + j' := fun j j' h1 h2 c => by
              have a1 := yo j h1
              have a2 := xo j' h2
              rw [c] at a1; omega
            refine ⟨Y, by rw [eR 34 (by omega)]; exact y1, (y2.rr (eR Y (ne 0 0 (by decide) (by decide))) (eR (Y + 2) (ne 2 0 (by decide) (by decide))) gR).io (fun j hj => eI _ ?_) gI⟩
            have n1 := ne j 1 hj (by decide)
            have n2 := ne j 2 hj (by decide)
            have n3 := ne j 3 hj (by decide)
            omega
    have hKF : KF μ (I2, J, up2 R X 0 (some L), S, nx) := ⟨hK.1, fun b h1 h2 => by
      obtain ⟨k1, k2, k3, k4⟩ := hK.2 b h1 h2
      exact ⟨(eI b (by omega)).trans k1, k2, (eR b (by omega)).trans k3, k4⟩⟩
    have hN2 : CN I2 κ := fun i hi => by rw [eI 25 (by omega)]; exact hN i hi
    have hV2 : PV I2 κ := by unfold PV; rw [eI 29 (by omega)]; exact hV
    have hP2 : PS I2 30 31 κ := by
      obtain ⟨s, q1, q2, q3, q4⟩ := hP
      exact ⟨s, q1, by rw [eI 30 (by omega)]; exact q2, by rw [eI 30 (by omega)]; exact q3, fun j hj i hi => by rw [eI 31 (by omega)]; exact q4 j hj i hi⟩
    have hw2 : up2 R X 0 (some L) 14 0 = some L := by rw [eR 14 (by omega)]; exact wL
    exact wp_return dX11_image_80 rfl ⟨rfl, hKF, ow, L, dl, pl, ld, lp, hCR, hw2, eL, hN2, hV2, hP2⟩
  · rintro E μ' ⟨hr1, _⟩; cases hr1
end A
