/-! the class: objects made when first used -/
section A
variable {l : Launch} {G : Gh} {k : Nat} {I : Nat → Nat → Int32} {J : Nat → Nat → Int64} {R : Nat → Nat → Option Nat} {S : Nat → Nat × Nat} {nx : Nat} {κ : Nat → Nat} {hb pb : Nat}
variable {ι : Nat → Option (Nat → Nat)} {τ tm : Nat → Nat} {tn : Nat → Nat → Int64} {tp : Nat} {fk fp : Int32} {t : Nat → Nat} {ow ow' : Nat → Nat} {L dl pl ld lp f : Nat} {I' : Nat → Nat → Int32} {J' : Nat → Nat → Int64} {R' : Nat → Nat → Option Nat} {S' : Nat → Nat × Nat} {nx' : Nat}
/-- rows of references stay, but for the first object's -/
def RA (R R' : Nat → Nat → Option Nat) (nx : Nat) : Prop := (∀ a, a < nx → a ≠ 0 → R' a = R a) ∧ ∀ j, j < 7 → R' 0 j = R 0 j
theorem CF.ad (h : CF R S nx) (g : Gr S S' nx nx') (r : RA R R' nx) : CF R' S' nx' := by
  have h' := h.gr g
  have h1 := h.1
  have c : ∀ q ∈ cwR, q.1 < 72 ∧ (q.1 = 0 → q.2.1 < 7) := by decide
  refine ⟨h'.1, h'.2.1, fun q hq => ?_, h'.2.2.2.1, fun i hi => by rw [r.1 33 (by omega) (by decide)]; exact h'.2.2.2.2 i hi⟩
  obtain ⟨c1, c2⟩ := c q hq
  by_cases z : q.1 = 0
  · rw [z, r.2 _ (c2 z), ← z]; exact h'.2.2.1 q hq
  · rw [r.1 _ (by omega) z]; exact h'.2.2.1 q hq
theorem LW.ad (h : LW R S nx L dl pl ld lp) (g : Gr S S' nx nx') (r : RA R R' nx) : LW R' S' nx' L dl pl ld lp := by
  obtain ⟨h1, h2, h3, h4, h5, h6, h7⟩ := h.gr g
  have hL : R' L = R L := r.1 L (by have := h.1; omega) (by omega)
  exact ⟨h1, h2, fun i hi => by rw [hL]; exact h3 i hi, by rw [hL]; exact h4, h5, h6, h7⟩
theorem LdC.ad (h : LdC I R S nx ow L κ dl pl ld lp) (g : Gr S S' nx nx') (r : RA R R' nx) (gI : ∀ a, a < nx → I' a = I a) (gw : ∀ a, a < nx → ow' a = ow a) : LdC I' R' S' nx' ow' L κ dl pl ld lp := by
  obtain ⟨h1, h2, h3, h4, h5⟩ := h
  have hn := h1.1
  have n1 := lw_ndl h1
  have n2 := lw_npl h1
  refine ⟨h1.ad g r, ?_, fun i hi => by rw [gw _ (by omega)]; exact h3 i hi, by rw [gw _ n1]; exact h4, by rw [gw _ n2]; exact h5⟩
  obtain ⟨q1, q2, q3, q4, q5, q6⟩ := h2
  refine ⟨by rw [gI L (by omega)]; exact q1, fun w hw => by rw [gI (L + 1) (by omega), gI (L + 2) (by omega)]; exact q2 w hw, fun a ha => by rw [gI (L + 3) (by omega), gI (L + 4) (by omega)]; exact q3 a ha, fun k hk => by rw [gI (L + 7) (by omega)]; exact q4 k hk, ⟨q5.1, fun i hi => by rw [gI dl n1]; exact q5.2 i hi⟩, ⟨q6.1, fun i hi => by rw [gI pl n2]; exact q6.2 i hi⟩⟩
theorem Own.ad {o n id : Nat} (h : Own ow o n id) (hn : o + n ≤ nx) (gw : ∀ a, a < nx → ow' a = ow a) : Own ow' o n id := ⟨h.1, fun i hi => by rw [gw _ (by omega)]; exact h.2 i hi⟩
theorem PS.ad {p rw : Nat} (h : PS I p rw κ) (h1 : p < nx) (h2 : rw < nx) (gI : ∀ a, a < nx → I' a = I a) : PS I' p rw κ := by
  obtain ⟨s, q1, q2, q3, q4⟩ := h
  exact ⟨s, q1, by rw [gI p h1]; exact q2, by rw [gI p h1]; exact q3, by rw [gI rw h2]; exact q4⟩
theorem ImX.ad {i X : Nat} {σ : Nat → Nat} (h : ImX I R S nx ow i X σ) (g : Gr S S' nx nx') (r : RA R R' nx) (gI : ∀ a, a < nx → I' a = I a) (gw : ∀ a, a < nx → ow' a = ow a) : ImX I' R' S' nx' ow' i X σ := by
  obtain ⟨⟨h0, h1⟩, h2, ⟨LX, dl, pl, ld, lp, h3, h4⟩, h5, h6⟩ := h
  have := h1.1
  have := g.1
  refine ⟨⟨by omega, h1.ad h0 gw⟩, ⟨?_, ?_, ?_, ?_, ?_, ?_, ?_⟩, ⟨LX, dl, pl, ld, lp, by rw [r.1 X (by omega) (by omega)]; exact h3, h4.ad g r gI gw⟩, fun j hj => by rw [gI (X + 1) (by omega)]; exact h5 j hj, h6.ad (by omega) (by omega) gI⟩
  · rw [g.2 X (by omega)]; exact h2.1
  · rw [r.1 X (by omega) (by omega)]; exact h2.2.1
  · rw [r.1 X (by omega) (by omega)]; exact h2.2.2.1
  · rw [g.2 (X + 1) (by omega)]; exact h2.2.2.2.1
  · rw [g.2 (X + 2) (by omega)]; exact h2.2.2.2.2.1
  · rw [r.1 (X + 2) (by omega) (by omega)]; exact h2.2.2.2.2.2.1
  · rw [g.2 (X + 3) (by omega)]; exact h2.2.2.2.2.2.2
theorem ImC.ad (h : ImC I R S nx ow ι) (h72 : 72 ≤ nx) (g : Gr S S' nx nx') (r : RA R R' nx) (gI : ∀ a, a < nx → I' a = I a) (gw : ∀ a, a < nx → ow' a = ow a) : ImC I' R' S' nx' ow' ι := by
  intro i hi
  have := h i hi
  cases hq : ι i with
  | none => rw [hq] at this; show R' 34 i = none; rw [r.1 34 (by omega) (by decide)]; exact this
  | some σ =>
    rw [hq] at this
    obtain ⟨X, g1, g2⟩ := this
    exact ⟨X, by rw [r.1 34 (by omega) (by decide)]; exact g1, g2.ad g r gI gw⟩
theorem TrC.ad (h : TrC I J τ tm tn) (h72 : 72 ≤ nx) (gI : ∀ a, a < nx → I' a = I a) (gJ : ∀ a, a < nx → J' a = J a) : TrC I' J' τ tm tn := fun q hq => by rw [gI (35 + 2 * q) (by omega), gJ (36 + 2 * q) (by omega)]; exact h q hq
theorem CI.ad (hR : CR I J R S nx ow ι τ tm tn t tp fk fp) (wL : R 14 0 = some L) (hL : LdC I R S nx ow L κ dl pl ld lp) (hN : CN I κ) (hV : PV I κ) (hP : PS I 30 31 κ) (g : Gr S S' nx nx') (r : RA R R' nx) (gI : ∀ a, a < nx → I' a = I a) (gJ : ∀ a, a < nx → J' a = J a) (gw : ∀ a, a < nx → ow' a = ow a) (hz : LzC R' S' nx' ow') :
    KF (I, J, R, S, nx) (I', J', R', S', nx') ∧ CI (I', J', R', S', nx') (κ, ι, (τ, tm, tn), (t, tp), fk, fp) := by
  obtain ⟨h1, h2, h3, h4, h5, h6⟩ := hR
  have h72 := h1.1
  refine ⟨⟨g.1, fun a _ ha => ⟨gI a (by show a < nx; omega), gJ a (by show a < nx; omega), r.1 a (by show a < nx; omega) (by omega), g.2 a (by omega)⟩⟩, ow', L, dl, pl, ld, lp, ⟨h1.ad g r, h2.ad h72 gI gJ, ?_, ?_, hz, h6.ad h72 g r gI gw⟩, by show R' 14 0 = some L; rw [r.1 14 (by omega) (by decide)]; exact wL, hL.ad g r gI gw, fun i hi => by show I' 25 i = _; rw [gI 25 (by omega)]; exact hN i hi, fun a b c q1 q2 q3 => by show ∃ kn, I' 29 _ = _ ∧ _; rw [gI 29 (by omega)]; exact hV a b c q1 q2 q3, hP.ad (by omega) (by omega) gI⟩
  · show I' 1 1 = _ ∧ _ ∧ (∀ j, j < tp → I' 2 j = _) ∧ _
    rw [gI 1 (by omega), gI 2 (by omega)]; exact h3
  · show I' 1 11 = fk ∧ I' 1 12 = fp
    rw [gI 1 (by omega)]; exact h4
theorem OW.ad {o : Nat} (h : OW R S nx o) (ho : o ≠ 0) (g : Gr S S' nx nx') (r : RA R R' nx) : OW R' S' nx' o := by
  have e : R' o = R o := r.1 o (by have := h.1; omega) ho
  have h' := h.gr g
  exact ⟨h'.1, h'.2.1, by rw [e]; exact h'.2.2.1, fun q hq => by rw [e]; exact h'.2.2.2 q hq⟩
theorem WW.ad {o : Nat} (h : WW R S nx o) (ho : o ≠ 0) (g : Gr S S' nx nx') (r : RA R R' nx) : WW R' S' nx' o := by
  have e : R' o = R o := r.1 o (by have := h.1; omega) ho
  have h' := h.gr g
  exact ⟨h'.1, h'.2.1, by rw [e]; exact h'.2.2.1, fun q hq => by rw [e]; exact h'.2.2.2 q hq⟩
theorem AW.ad {o : Nat} (h : AW R S nx o) (ho : o ≠ 0) (g : Gr S S' nx nx') (r : RA R R' nx) : AW R' S' nx' o := by
  have e : R' o = R o := r.1 o (by have := h.1; omega) ho
  have h' := h.gr g
  exact ⟨h'.1, h'.2.1, by rw [e]; exact h'.2.2.1, fun q hq => by rw [e]; exact h'.2.2.2 q hq⟩
theorem TW1.ad {o : Nat} (h : TW1 R S nx o) (ho : o ≠ 0) (g : Gr S S' nx nx') (r : RA R R' nx) : TW1 R' S' nx' o := by
  have e : R' o = R o := r.1 o (by have := h.1; omega) ho
  have h' := h.gr g
  exact ⟨h'.1, h'.2.1, by rw [e]; exact h'.2.2.1, fun q hq => by rw [e]; exact h'.2.2.2 q hq⟩
theorem lz_outlook {Q : Res → Mem → Prop} {Lr : List (Option Value)} {mc ms cb sb : Nat} (hC : CI (I, J, R, S, nx) (κ, ι, (τ, tm, tn), (t, tp), fk, fp)) (hcb : 5 ≤ cb) (hsb : 3077 ≤ sb) (hq : ∀ (I' : Nat → Nat → Int32) (J' : Nat → Nat → Int64) (R' : Nat → Nat → Option Nat) (S' : Nat → Nat × Nat) (n' o : Nat), KF (I, J, R, S, nx) (I', J', R', S', n') → CI (I', J', R', S', n') (κ, ι, (τ, tm, tn), (t, tp), fk, fp) → R' 0 7 = some o → WP l G (k + 1) mc ms mX11_ahead Q 22 (some (.ref 0) :: Lr) [] (I', J', R', S', n') 0 0) : WP l G (k + 1) mc ms mX11_ahead Q 0 (some (.ref 0) :: Lr) [] (I, J, R, S, nx) cb sb := by
  have hC0 := hC
  obtain ⟨ow, L, dl, pl, ld, lp, hR, wL, hL, hN, hV, hP⟩ := hC
  have w : CF R S nx := hR.1
  have h72 := w.1
  have hn0 : 0 < nx := by omega
  have hs0 : (S 0).1 = 11 := cf_o w (q := (0, 11)) (by decide)
  cases hr : R 0 7 with
  | some o => exact WP.less (Nat.zero_le _) (Nat.zero_le _) (wp_aload_n (q := 1) dX11_ahead_0 rfl rfl rfl (wp_getR (q := 4) dX11_ahead_1 rfl fl_RX11_50 rfl hn0 hs0 hr (wp_ifnonnull (tgt := 22) dX11_ahead_4 rfl (hq I J R S nx o KF.rf hC0 hr))))
  | none =>
    refine WP.less (cb' := 4 + 1) (sb' := 3072 + 5) hcb hsb (wp_aload_n (q := 1) dX11_ahead_0 rfl rfl rfl (wp_getN (q := 4) dX11_ahead_1 rfl fl_RX11_50 rfl hn0 hs0 hr (wp_ifnonnullN (q := 7) dX11_ahead_4 rfl (wp_aload_n (q := 8) dX11_ahead_7 rfl rfl rfl (wp_new (q := 11) (t := 4) dX11_ahead_8 rfl rfl rfl (by decide) cl_RX11_157 ib_RX4 in_RX4 (wp_dup (q := 12) dX11_ahead_11 rfl rfl (wp_aload_n (q := 13) dX11_ahead_12 rfl rfl rfl (wp_getR (q := 16) dX11_ahead_13 rfl fl_RX11_19 rfl (by omega) (by rw [up1_ne (by omega)]; exact hs0) (by rw [up1_ne (by omega)]; exact cf_r w (q := (0, 1, 14)) (by decide)) (wp_invI (q := 19) (As := [.ref 14]) dX11_ahead_16 rfl rfl ok_X4_init rfl rfl ml_RX11_236 im_X4_init rfl rfl (Nat.le_of_ble_eq_true rfl) (Nat.le_refl _) (Nat.le_refl _) (i_X4_init (x0 := nx) (x1 := 14) (by omega) (by rw [up1_eq])) ?_ ?_)))))))))
    · rintro r μ' ⟨hr1, I1, J1, R1, S1, rfl, a1, a2, a3, a4, a5⟩
      obtain rfl := Sum.inl.inj hr1
      have old : ∀ a, a < nx → I1 a = I a ∧ J1 a = J a ∧ R1 a = R a ∧ S1 a = S a := fun a ha => by
        obtain ⟨b1, b2, b3⟩ := a1 a (by omega)
        obtain ⟨b4, b5⟩ := b1 (by omega)
        rw [up1_ne (by omega)] at b2 b3 b4 b5
        exact ⟨b4, b2, b5, b3⟩
      have row0 : ∀ j, R1 0 j = R 0 j := fun j => by rw [(old 0 hn0).2.2.1]
      have hSn : S1 nx = (4, 0) := by rw [(a1 nx (by omega)).2.2, up1_eq]
      have hg : Gr S S1 nx (nx + 1 + 4) := ⟨by omega, fun a ha => (old a ha).2.2.2⟩
      have hra : RA R (up2 R1 0 7 (some nx)) nx := ⟨fun a ha hne => by rw [up2_g hne]; exact (old a ha).2.2.1, fun j hj => by rw [up2_h, if_neg (by omega)]; exact row0 j⟩
      have hRn : up2 R1 0 7 (some nx) nx = R1 nx := up2_g (by omega)
      have hw : OW (up2 R1 0 7 (some nx)) S1 (nx + 1 + 4) nx := by
        refine ⟨by omega, by rw [hSn], by rw [hRn]; exact a3.2.2.2.2, ?_⟩
        intro q hq
        have hq' : q = (1, 1, 100, 224) ∨ q = (2, 2, 100, 224) ∨ q = (3, 3, 100, 224) ∨ q = (4, 4, 100, 2400) := by simpa [owL] using hq
        rw [hRn]
        rcases hq' with rfl | rfl | rfl | rfl
        · exact ⟨by rw [a3.1], by rw [show nx + 1 = nx + 1 + 0 by omega]; exact a4.1⟩
        · exact ⟨by rw [a3.2.1]; show some (nx + 1 + 1) = some (nx + 2); congr 1, by rw [show nx + 2 = nx + 1 + 1 by omega]; exact a4.2.1⟩
        · exact ⟨by rw [a3.2.2.1]; show some (nx + 1 + 2) = some (nx + 3); congr 1, by rw [show nx + 3 = nx + 1 + 2 by omega]; exact a4.2.2.1⟩
        · exact ⟨by rw [a3.2.2.2.1]; show some (nx + 1 + 3) = some (nx + 4); congr 1, by rw [show nx + 4 = nx + 1 + 3 by omega]; exact a4.2.2.2⟩
      let ow' : Nat → Nat := fun a => if nx ≤ a then 1 else ow a
      have gw : ∀ a, a < nx → ow' a = ow a := fun a ha => if_neg (by omega)
      have hown : Own ow' nx 5 1 := ⟨h72, fun i _ => if_pos (by omega)⟩
      obtain ⟨c1, c2⟩ := CI.ad (R' := up2 R1 0 7 (some nx)) (J' := J1) (ow' := ow') hR wL hL hN hV hP hg hra (fun a ha => (old a ha).1) (fun a ha => (old a ha).2.1) gw ⟨fun o ho => by
        have e : up2 R1 0 7 (some nx) 0 7 = some o := ho
        rw [up2_h, if_pos rfl] at e
        obtain rfl := Option.some.inj e
        exact ⟨hw, hown⟩,
        fun o ho => by
        have e : up2 R1 0 7 (some nx) 0 8 = some o := ho
        rw [up2_h, if_neg (by decide), row0] at e
        obtain ⟨z1, z2⟩ := hR.2.2.2.2.1.2.1 o e
        have := z2.1
        exact ⟨z1.ad (by omega) hg hra, z2.ad z1.1 gw⟩,
        fun o ho => by
        have e : up2 R1 0 7 (some nx) 0 9 = some o := ho
        rw [up2_h, if_neg (by decide), row0] at e
        obtain ⟨z1, z2⟩ := hR.2.2.2.2.1.2.2.1 o e
        have := z2.1
        exact ⟨z1.ad (by omega) hg hra, z2.ad z1.1 gw⟩,
        fun o ho => by
        have e : up2 R1 0 7 (some nx) 0 10 = some o := ho
        rw [up2_h, if_neg (by decide), row0] at e
        obtain ⟨z1, z2⟩ := hR.2.2.2.2.1.2.2.2 o e
        have := z2.1
        exact ⟨z1.ad (by omega) hg hra, z2.ad z1.1 gw⟩⟩
      exact wp_putR (q := 22) (ty := tyX11) dX11_ahead_19 rfl fl_RX11_50 rfl (Or.inl rfl) (fun _ => rfl) (fun _ => rfl) rfl (by omega) (by rw [(old 0 hn0).2.2.2]; exact hs0) (WP.less (Nat.zero_le _) (Nat.zero_le _) (hq _ _ _ _ _ nx c1 c2 (by rw [up2_h, if_pos rfl])))
    · rintro E μ' ⟨hr1, _⟩; cases hr1
theorem lz_ways {Q : Res → Mem → Prop} {Lr : List (Option Value)} {mc ms cb sb : Nat} (hC : CI (I, J, R, S, nx) (κ, ι, (τ, tm, tn), (t, tp), fk, fp)) (hcb : 8 ≤ cb) (hsb : 455 ≤ sb) (hq : ∀ (I' : Nat → Nat → Int32) (J' : Nat → Nat → Int64) (R' : Nat → Nat → Option Nat) (S' : Nat → Nat × Nat) (n' o : Nat), KF (I, J, R, S, nx) (I', J', R', S', n') → CI (I', J', R', S', n') (κ, ι, (τ, tm, tn), (t, tp), fk, fp) → R' 0 8 = some o → WP l G (k + 1) mc ms mX11_waysOf Q 22 (some (.ref 0) :: Lr) [] (I', J', R', S', n') 0 0) : WP l G (k + 1) mc ms mX11_waysOf Q 0 (some (.ref 0) :: Lr) [] (I, J, R, S, nx) cb sb := by
  have hC0 := hC
  obtain ⟨ow, L, dl, pl, ld, lp, hR, wL, hL, hN, hV, hP⟩ := hC
  have w : CF R S nx := hR.1
  have h72 := w.1
  have hn0 : 0 < nx := by omega
  have hs0 : (S 0).1 = 11 := cf_o w (q := (0, 11)) (by decide)
  cases hr : R 0 8 with
  | some o => exact WP.less (Nat.zero_le _) (Nat.zero_le _) (wp_aload_n (q := 1) dX11_waysOf_0 rfl rfl rfl (wp_getR (q := 4) dX11_waysOf_1 rfl fl_RX11_54 rfl hn0 hs0 hr (wp_ifnonnull (tgt := 22) dX11_waysOf_4 rfl (hq I J R S nx o KF.rf hC0 hr))))
  | none =>
    refine WP.less (cb' := 7 + 1) (sb' := 447 + 8) hcb hsb (wp_aload_n (q := 1) dX11_waysOf_0 rfl rfl rfl (wp_getN (q := 4) dX11_waysOf_1 rfl fl_RX11_54 rfl hn0 hs0 hr (wp_ifnonnullN (q := 7) dX11_waysOf_4 rfl (wp_aload_n (q := 8) dX11_waysOf_7 rfl rfl rfl (wp_new (q := 11) (t := 10) dX11_waysOf_8 rfl rfl rfl (by decide) cl_RX11_278 ib_RX10 in_RX10 (wp_dup (q := 12) dX11_waysOf_11 rfl rfl (wp_aload_n (q := 13) dX11_waysOf_12 rfl rfl rfl (wp_getR (q := 16) dX11_waysOf_13 rfl fl_RX11_19 rfl (by omega) (by rw [up1_ne (by omega)]; exact hs0) (by rw [up1_ne (by omega)]; exact cf_r w (q := (0, 1, 14)) (by decide)) (wp_invI (q := 19) (As := [.ref 14]) dX11_waysOf_16 rfl rfl ok_X10_init rfl rfl ml_RX11_302 im_X10_init rfl rfl (Nat.le_of_ble_eq_true rfl) (Nat.le_refl _) (Nat.le_refl _) (i_X10_init (x0 := nx) (x1 := 14) (by omega) (by rw [up1_eq])) ?_ ?_)))))))))
    · rintro r μ' ⟨hr1, I1, J1, R1, S1, rfl, a1, a2, a3, a4, a5⟩
      obtain rfl := Sum.inl.inj hr1
      have old : ∀ a, a < nx → I1 a = I a ∧ J1 a = J a ∧ R1 a = R a ∧ S1 a = S a := fun a ha => by
        obtain ⟨b1, b2, b3⟩ := a1 a (by omega)
        obtain ⟨b4, b5⟩ := b1 (by omega)
        rw [up1_ne (by omega)] at b2 b3 b4 b5
        exact ⟨b4, b2, b5, b3⟩
      have row0 : ∀ j, R1 0 j = R 0 j := fun j => by rw [(old 0 hn0).2.2.1]
      have hSn : S1 nx = (10, 0) := by rw [(a1 nx (by omega)).2.2, up1_eq]
      have hg : Gr S S1 nx (nx + 1 + 7) := ⟨by omega, fun a ha => (old a ha).2.2.2⟩
      have hra : RA R (up2 R1 0 8 (some nx)) nx := ⟨fun a ha hne => by rw [up2_g hne]; exact (old a ha).2.2.1, fun j hj => by rw [up2_h, if_neg (by omega)]; exact row0 j⟩
      have hRn : up2 R1 0 8 (some nx) nx = R1 nx := up2_g (by omega)
      have hw : WW (up2 R1 0 8 (some nx)) S1 (nx + 1 + 7) nx := by
        refine ⟨by omega, by rw [hSn], by rw [hRn]; exact a3.2.2.2.2.2.2.2, ?_⟩
        intro q hq
        have hq' : q = (1, 1, 100, 305) ∨ q = (2, 2, 100, 61) ∨ q = (3, 3, 100, 61) ∨ q = (4, 4, 100, 5) ∨ q = (5, 5, 100, 5) ∨ q = (6, 6, 101, 5) ∨ q = (7, 7, 101, 5) := by simpa [wwL] using hq
        rw [hRn]
        rcases hq' with rfl | rfl | rfl | rfl | rfl | rfl | rfl
        · exact ⟨by rw [a3.1], by rw [show nx + 1 = nx + 1 + 0 by omega]; exact a4.1⟩
        · exact ⟨by rw [a3.2.1]; show some (nx + 1 + 1) = some (nx + 2); congr 1, by rw [show nx + 2 = nx + 1 + 1 by omega]; exact a4.2.1⟩
        · exact ⟨by rw [a3.2.2.1]; show some (nx + 1 + 2) = some (nx + 3); congr 1, by rw [show nx + 3 = nx + 1 + 2 by omega]; exact a4.2.2.1⟩
        · exact ⟨by rw [a3.2.2.2.1]; show some (nx + 1 + 3) = some (nx + 4); congr 1, by rw [show nx + 4 = nx + 1 + 3 by omega]; exact a4.2.2.2.1⟩
        · exact ⟨by rw [a3.2.2.2.2.1]; show some (nx + 1 + 4) = some (nx + 5); congr 1, by rw [show nx + 5 = nx + 1 + 4 by omega]; exact a4.2.2.2.2.1⟩
        · exact ⟨by rw [a3.2.2.2.2.2.1]; show some (nx + 1 + 5) = some (nx + 6); congr 1, by rw [show nx + 6 = nx + 1 + 5 by omega]; exact a4.2.2.2.2.2.1⟩
        · exact ⟨by rw [a3.2.2.2.2.2.2.1]; show some (nx + 1 + 6) = some (nx + 7); congr 1, by rw [show nx + 7 = nx + 1 + 6 by omega]; exact a4.2.2.2.2.2.2⟩
      let ow' : Nat → Nat := fun a => if nx ≤ a then 2 else ow a
      have gw : ∀ a, a < nx → ow' a = ow a := fun a ha => if_neg (by omega)
      have hown : Own ow' nx 8 2 := ⟨h72, fun i _ => if_pos (by omega)⟩
      obtain ⟨c1, c2⟩ := CI.ad (R' := up2 R1 0 8 (some nx)) (J' := J1) (ow' := ow') hR wL hL hN hV hP hg hra (fun a ha => (old a ha).1) (fun a ha => (old a ha).2.1) gw ⟨fun o ho => by
        have e : up2 R1 0 8 (some nx) 0 7 = some o := ho
        rw [up2_h, if_neg (by decide), row0] at e
        obtain ⟨z1, z2⟩ := hR.2.2.2.2.1.1 o e
        have := z2.1
        exact ⟨z1.ad (by omega) hg hra, z2.ad z1.1 gw⟩,
        fun o ho => by
        have e : up2 R1 0 8 (some nx) 0 8 = some o := ho
        rw [up2_h, if_pos rfl] at e
        obtain rfl := Option.some.inj e
        exact ⟨hw, hown⟩,
        fun o ho => by
        have e : up2 R1 0 8 (some nx) 0 9 = some o := ho
        rw [up2_h, if_neg (by decide), row0] at e
        obtain ⟨z1, z2⟩ := hR.2.2.2.2.1.2.2.1 o e
        have := z2.1
        exact ⟨z1.ad (by omega) hg hra, z2.ad z1.1 gw⟩,
        fun o ho => by
        have e : up2 R1 0 8 (some nx) 0 10 = some o := ho
        rw [up2_h, if_neg (by decide), row0] at e
        obtain ⟨z1, z2⟩ := hR.2.2.2.2.1.2.2.2 o e
        have := z2.1
        exact ⟨z1.ad (by omega) hg hra, z2.ad z1.1 gw⟩⟩
      exact wp_putR (q := 22) (ty := tyX11) dX11_waysOf_19 rfl fl_RX11_54 rfl (Or.inl rfl) (fun _ => rfl) (fun _ => rfl) rfl (by omega) (by rw [(old 0 hn0).2.2.2]; exact hs0) (WP.less (Nat.zero_le _) (Nat.zero_le _) (hq _ _ _ _ _ nx c1 c2 (by rw [up2_h, if_pos rfl])))
    · rintro E μ' ⟨hr1, _⟩; cases hr1
theorem lz_agenda {Q : Res → Mem → Prop} {Lr : List (Option Value)} {mc ms cb sb : Nat} (hC : CI (I, J, R, S, nx) (κ, ι, (τ, tm, tn), (t, tp), fk, fp)) (hcb : 5 ≤ cb) (hsb : 3603 ≤ sb) (hq : ∀ (I' : Nat → Nat → Int32) (J' : Nat → Nat → Int64) (R' : Nat → Nat → Option Nat) (S' : Nat → Nat × Nat) (n' o : Nat), KF (I, J, R, S, nx) (I', J', R', S', n') → CI (I', J', R', S', n') (κ, ι, (τ, tm, tn), (t, tp), fk, fp) → R' 0 9 = some o → WP l G (k + 1) mc ms mX11_agendaOf Q 22 (some (.ref 0) :: Lr) [] (I', J', R', S', n') 0 0) : WP l G (k + 1) mc ms mX11_agendaOf Q 0 (some (.ref 0) :: Lr) [] (I, J, R, S, nx) cb sb := by
  have hC0 := hC
  obtain ⟨ow, L, dl, pl, ld, lp, hR, wL, hL, hN, hV, hP⟩ := hC
  have w : CF R S nx := hR.1
  have h72 := w.1
  have hn0 : 0 < nx := by omega
  have hs0 : (S 0).1 = 11 := cf_o w (q := (0, 11)) (by decide)
  cases hr : R 0 9 with
  | some o => exact WP.less (Nat.zero_le _) (Nat.zero_le _) (wp_aload_n (q := 1) dX11_agendaOf_0 rfl rfl rfl (wp_getR (q := 4) dX11_agendaOf_1 rfl fl_RX11_58 rfl hn0 hs0 hr (wp_ifnonnull (tgt := 22) dX11_agendaOf_4 rfl (hq I J R S nx o KF.rf hC0 hr))))
  | none =>
    refine WP.less (cb' := 4 + 1) (sb' := 3596 + 7) hcb hsb (wp_aload_n (q := 1) dX11_agendaOf_0 rfl rfl rfl (wp_getN (q := 4) dX11_agendaOf_1 rfl fl_RX11_58 rfl hn0 hs0 hr (wp_ifnonnullN (q := 7) dX11_agendaOf_4 rfl (wp_aload_n (q := 8) dX11_agendaOf_7 rfl rfl rfl (wp_new (q := 11) (t := 0) dX11_agendaOf_8 rfl rfl rfl (by decide) cl_RX11_315 ib_RX0 in_RX0 (wp_dup (q := 12) dX11_agendaOf_11 rfl rfl (wp_aload_n (q := 13) dX11_agendaOf_12 rfl rfl rfl (wp_getR (q := 16) dX11_agendaOf_13 rfl fl_RX11_19 rfl (by omega) (by rw [up1_ne (by omega)]; exact hs0) (by rw [up1_ne (by omega)]; exact cf_r w (q := (0, 1, 14)) (by decide)) (wp_invI (q := 19) (As := [.ref 14]) dX11_agendaOf_16 rfl rfl ok_X0_init rfl rfl ml_RX11_328 im_X0_init rfl rfl (Nat.le_of_ble_eq_true rfl) (Nat.le_refl _) (Nat.le_refl _) (i_X0_init (x0 := nx) (x1 := 14) (by omega) (by rw [up1_eq])) ?_ ?_)))))))))
    · rintro r μ' ⟨hr1, I1, J1, R1, S1, rfl, a1, a2, a3, a4, a5⟩
      obtain rfl := Sum.inl.inj hr1
      have old : ∀ a, a < nx → I1 a = I a ∧ J1 a = J a ∧ R1 a = R a ∧ S1 a = S a := fun a ha => by
        obtain ⟨b1, b2, b3⟩ := a1 a (by omega)
        obtain ⟨b4, b5⟩ := b1 (by omega)
        rw [up1_ne (by omega)] at b2 b3 b4 b5
        exact ⟨b4, b2, b5, b3⟩
      have row0 : ∀ j, R1 0 j = R 0 j := fun j => by rw [(old 0 hn0).2.2.1]
      have hSn : S1 nx = (0, 0) := by rw [(a1 nx (by omega)).2.2, up1_eq]
      have hg : Gr S S1 nx (nx + 1 + 4) := ⟨by omega, fun a ha => (old a ha).2.2.2⟩
      have hra : RA R (up2 R1 0 9 (some nx)) nx := ⟨fun a ha hne => by rw [up2_g hne]; exact (old a ha).2.2.1, fun j hj => by rw [up2_h, if_neg (by omega)]; exact row0 j⟩
      have hRn : up2 R1 0 9 (some nx) nx = R1 nx := up2_g (by omega)
      have hw : AW (up2 R1 0 9 (some nx)) S1 (nx + 1 + 4) nx := by
        refine ⟨by omega, by rw [hSn], by rw [hRn]; exact a3.2.2.2.2, ?_⟩
        intro q hq
        have hq' : q = (1, 1, 100, 4) ∨ q = (3, 2, 102, 3584) ∨ q = (4, 3, 100, 4) ∨ q = (5, 4, 100, 4) := by simpa [awL] using hq
        rw [hRn]
        rcases hq' with rfl | rfl | rfl | rfl
        · exact ⟨by rw [a3.1], by rw [show nx + 1 = nx + 1 + 0 by omega]; exact a4.1⟩
        · exact ⟨by rw [a3.2.1]; show some (nx + 1 + 1) = some (nx + 2); congr 1, by rw [show nx + 2 = nx + 1 + 1 by omega]; exact a4.2.1⟩
        · exact ⟨by rw [a3.2.2.1]; show some (nx + 1 + 2) = some (nx + 3); congr 1, by rw [show nx + 3 = nx + 1 + 2 by omega]; exact a4.2.2.1⟩
        · exact ⟨by rw [a3.2.2.2.1]; show some (nx + 1 + 3) = some (nx + 4); congr 1, by rw [show nx + 4 = nx + 1 + 3 by omega]; exact a4.2.2.2⟩
      let ow' : Nat → Nat := fun a => if nx ≤ a then 3 else ow a
      have gw : ∀ a, a < nx → ow' a = ow a := fun a ha => if_neg (by omega)
      have hown : Own ow' nx 5 3 := ⟨h72, fun i _ => if_pos (by omega)⟩
      obtain ⟨c1, c2⟩ := CI.ad (R' := up2 R1 0 9 (some nx)) (J' := J1) (ow' := ow') hR wL hL hN hV hP hg hra (fun a ha => (old a ha).1) (fun a ha => (old a ha).2.1) gw ⟨fun o ho => by
        have e : up2 R1 0 9 (some nx) 0 7 = some o := ho
        rw [up2_h, if_neg (by decide), row0] at e
        obtain ⟨z1, z2⟩ := hR.2.2.2.2.1.1 o e
        have := z2.1
        exact ⟨z1.ad (by omega) hg hra, z2.ad z1.1 gw⟩,
        fun o ho => by
        have e : up2 R1 0 9 (some nx) 0 8 = some o := ho
        rw [up2_h, if_neg (by decide), row0] at e
        obtain ⟨z1, z2⟩ := hR.2.2.2.2.1.2.1 o e
        have := z2.1
        exact ⟨z1.ad (by omega) hg hra, z2.ad z1.1 gw⟩,
        fun o ho => by
        have e : up2 R1 0 9 (some nx) 0 9 = some o := ho
        rw [up2_h, if_pos rfl] at e
        obtain rfl := Option.some.inj e
        exact ⟨hw, hown⟩,
        fun o ho => by
        have e : up2 R1 0 9 (some nx) 0 10 = some o := ho
        rw [up2_h, if_neg (by decide), row0] at e
        obtain ⟨z1, z2⟩ := hR.2.2.2.2.1.2.2.2 o e
        have := z2.1
        exact ⟨z1.ad (by omega) hg hra, z2.ad z1.1 gw⟩⟩
      exact wp_putR (q := 22) (ty := tyX11) dX11_agendaOf_19 rfl fl_RX11_58 rfl (Or.inl rfl) (fun _ => rfl) (fun _ => rfl) rfl (by omega) (by rw [(old 0 hn0).2.2.2]; exact hs0) (WP.less (Nat.zero_le _) (Nat.zero_le _) (hq _ _ _ _ _ nx c1 c2 (by rw [up2_h, if_pos rfl])))
    · rintro E μ' ⟨hr1, _⟩; cases hr1
theorem lz_thermometer {Q : Res → Mem → Prop} {Lr : List (Option Value)} {mc ms cb sb : Nat} (hC : CI (I, J, R, S, nx) (κ, ι, (τ, tm, tn), (t, tp), fk, fp)) (hcb : 4 ≤ cb) (hsb : 111 ≤ sb) (hq : ∀ (I' : Nat → Nat → Int32) (J' : Nat → Nat → Int64) (R' : Nat → Nat → Option Nat) (S' : Nat → Nat × Nat) (n' o : Nat), KF (I, J, R, S, nx) (I', J', R', S', n') → CI (I', J', R', S', n') (κ, ι, (τ, tm, tn), (t, tp), fk, fp) → R' 0 10 = some o → WP l G (k + 1) mc ms mX11_glass Q 22 (some (.ref 0) :: Lr) [] (I', J', R', S', n') 0 0) : WP l G (k + 1) mc ms mX11_glass Q 0 (some (.ref 0) :: Lr) [] (I, J, R, S, nx) cb sb := by
  have hC0 := hC
  obtain ⟨ow, L, dl, pl, ld, lp, hR, wL, hL, hN, hV, hP⟩ := hC
  have w : CF R S nx := hR.1
  have h72 := w.1
  have hn0 : 0 < nx := by omega
  have hs0 : (S 0).1 = 11 := cf_o w (q := (0, 11)) (by decide)
  cases hr : R 0 10 with
  | some o => exact WP.less (Nat.zero_le _) (Nat.zero_le _) (wp_aload_n (q := 1) dX11_glass_0 rfl rfl rfl (wp_getR (q := 4) dX11_glass_1 rfl fl_RX11_62 rfl hn0 hs0 hr (wp_ifnonnull (tgt := 22) dX11_glass_4 rfl (hq I J R S nx o KF.rf hC0 hr))))
  | none =>
    refine WP.less (cb' := 3 + 1) (sb' := 106 + 5) hcb hsb (wp_aload_n (q := 1) dX11_glass_0 rfl rfl rfl (wp_getN (q := 4) dX11_glass_1 rfl fl_RX11_62 rfl hn0 hs0 hr (wp_ifnonnullN (q := 7) dX11_glass_4 rfl (wp_aload_n (q := 8) dX11_glass_7 rfl rfl rfl (wp_new (q := 11) (t := 8) dX11_glass_8 rfl rfl rfl (by decide) cl_RX11_341 ib_RX8 in_RX8 (wp_dup (q := 12) dX11_glass_11 rfl rfl (wp_aload_n (q := 13) dX11_glass_12 rfl rfl rfl (wp_getR (q := 16) dX11_glass_13 rfl fl_RX11_19 rfl (by omega) (by rw [up1_ne (by omega)]; exact hs0) (by rw [up1_ne (by omega)]; exact cf_r w (q := (0, 1, 14)) (by decide)) (wp_invI (q := 19) (As := [.ref 14]) dX11_glass_16 rfl rfl ok_X8_init rfl rfl ml_RX11_353 im_X8_init rfl rfl (Nat.le_of_ble_eq_true rfl) (Nat.le_refl _) (Nat.le_refl _) (i_X8_init (x0 := nx) (x1 := 14) (by omega) (by rw [up1_eq])) ?_ ?_)))))))))
    · rintro r μ' ⟨hr1, I1, J1, R1, S1, rfl, a1, a2, a3, a4, a5⟩
      obtain rfl := Sum.inl.inj hr1
      have old : ∀ a, a < nx → I1 a = I a ∧ J1 a = J a ∧ R1 a = R a ∧ S1 a = S a := fun a ha => by
        obtain ⟨b1, b2, b3⟩ := a1 a (by omega)
        obtain ⟨b4, b5⟩ := b1 (by omega)
        rw [up1_ne (by omega)] at b2 b3 b4 b5
        exact ⟨b4, b2, b5, b3⟩
      have row0 : ∀ j, R1 0 j = R 0 j := fun j => by rw [(old 0 hn0).2.2.1]
      have hSn : S1 nx = (8, 0) := by rw [(a1 nx (by omega)).2.2, up1_eq]
      have hg : Gr S S1 nx (nx + 1 + 3) := ⟨by omega, fun a ha => (old a ha).2.2.2⟩
      have hra : RA R (up2 R1 0 10 (some nx)) nx := ⟨fun a ha hne => by rw [up2_g hne]; exact (old a ha).2.2.1, fun j hj => by rw [up2_h, if_neg (by omega)]; exact row0 j⟩
      have hRn : up2 R1 0 10 (some nx) nx = R1 nx := up2_g (by omega)
      have hw : TW1 (up2 R1 0 10 (some nx)) S1 (nx + 1 + 3) nx := by
        refine ⟨by omega, by rw [hSn], by rw [hRn]; exact a3.2.2.2, ?_⟩
        intro q hq
        have hq' : q = (1, 1, 100, 24) ∨ q = (2, 2, 100, 41) ∨ q = (3, 3, 100, 41) := by simpa [twL] using hq
        rw [hRn]
        rcases hq' with rfl | rfl | rfl
        · exact ⟨by rw [a3.1], by rw [show nx + 1 = nx + 1 + 0 by omega]; exact a4.1⟩
        · exact ⟨by rw [a3.2.1]; show some (nx + 1 + 1) = some (nx + 2); congr 1, by rw [show nx + 2 = nx + 1 + 1 by omega]; exact a4.2.1⟩
        · exact ⟨by rw [a3.2.2.1]; show some (nx + 1 + 2) = some (nx + 3); congr 1, by rw [show nx + 3 = nx + 1 + 2 by omega]; exact a4.2.2⟩
      let ow' : Nat → Nat := fun a => if nx ≤ a then 4 else ow a
      have gw : ∀ a, a < nx → ow' a = ow a := fun a ha => if_neg (by omega)
      have hown : Own ow' nx 4 4 := ⟨h72, fun i _ => if_pos (by omega)⟩
      obtain ⟨c1, c2⟩ := CI.ad (R' := up2 R1 0 10 (some nx)) (J' := J1) (ow' := ow') hR wL hL hN hV hP hg hra (fun a ha => (old a ha).1) (fun a ha => (old a ha).2.1) gw ⟨fun o ho => by
        have e : up2 R1 0 10 (some nx) 0 7 = some o := ho
        rw [up2_h, if_neg (by decide), row0] at e
        obtain ⟨z1, z2⟩ := hR.2.2.2.2.1.1 o e
        have := z2.1
        exact ⟨z1.ad (by omega) hg hra, z2.ad z1.1 gw⟩,
        fun o ho => by
        have e : up2 R1 0 10 (some nx) 0 8 = some o := ho
        rw [up2_h, if_neg (by decide), row0] at e
        obtain ⟨z1, z2⟩ := hR.2.2.2.2.1.2.1 o e
        have := z2.1
        exact ⟨z1.ad (by omega) hg hra, z2.ad z1.1 gw⟩,
        fun o ho => by
        have e : up2 R1 0 10 (some nx) 0 9 = some o := ho
        rw [up2_h, if_neg (by decide), row0] at e
        obtain ⟨z1, z2⟩ := hR.2.2.2.2.1.2.2.1 o e
        have := z2.1
        exact ⟨z1.ad (by omega) hg hra, z2.ad z1.1 gw⟩,
        fun o ho => by
        have e : up2 R1 0 10 (some nx) 0 10 = some o := ho
        rw [up2_h, if_pos rfl] at e
        obtain rfl := Option.some.inj e
        exact ⟨hw, hown⟩⟩
      exact wp_putR (q := 22) (ty := tyX11) dX11_glass_19 rfl fl_RX11_62 rfl (Or.inl rfl) (fun _ => rfl) (fun _ => rfl) rfl (by omega) (by rw [(old 0 hn0).2.2.2]; exact hs0) (WP.less (Nat.zero_le _) (Nat.zero_le _) (hq _ _ _ _ _ nx c1 c2 (by rw [up2_h, if_pos rfl])))
    · rintro E μ' ⟨hr1, _⟩; cases hr1
end A
