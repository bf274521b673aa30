/-! the reference: lines read -/
def FL (I I' : Nat → Nat → Int32) : Prop := Fz [45] [8, 9, 10, 11, 12, 13, 16, 17, 18] I I'
def lt1 (x : Er ⊕ Ln) : Er ⊕ Tok := xb x (fun s => .inr s.1)
def LX (I : Nat → Nat → Int32) (t : Nat → Nat) (n : Nat) (x : Er ⊕ Ln) : Prop := PX I t n (lt1 x) ∧ match x with
  | .inl _ => True
  | .inr s => KT I s.2 ∧ I 43 16 = 0 ∧ s.2 1 ≤ 5 ∧ s.2 2 ≤ 8
section A
variable {l : Launch} {G : Gh} {k : Nat} {I : Nat → Nat → Int32} {J : Nat → Nat → Int64} {R : Nat → Nat → Option Nat} {S : Nat → Nat × Nat} {nx : Nat} {κ : Nat → Nat} {hb pb : Nat}
variable {t tel : Nat → Nat} {n F : Nat} {m : Bool}
theorem lev_c (hG : GT G) (hx : Tx t n) (hF : n < F) (m : Bool) : ∀ r, r ≤ 6 → RdC l G mX12_readSum (50 + 8 * r) t n m (6 - r) (xlev t n F m r).1 ∧ RdC l G mX12_readUnit (51 + 8 * r) t n m (6 - r) (xlev t n F m r).2.1 ∧ RdC l G mX12_readTruth (53 + 8 * r) t n m (6 - r) (xlev t n F m r).2.2
  | 0, _ => by
    have no : ∀ {p : Prop}, 6 < 6 → p := fun h => absurd h (by decide)
    have a := atom_c (l := l) (m := m) (d := 6) (su := .inr) hG hx (by decide) no
    have b := term_c (F := F) hx hF (xatom_g hx (fun h => absurd rfl h)) a
    have c := sum_c (F := F) hx hF (xterm_g hx (fun h => absurd rfl h)) b
    have d := unit_c (F := F) (un := .inr) (tr := .inr) hG hx (by decide) (xsum_g hx (fun h => absurd rfl h)) c no no
    have e := both_c (F := F) hG hx hF (xunit_g hx (fun h => absurd rfl h)) d
    have f := truth_c (F := F) hG hx hF (xboth_g hx (fun h => absurd rfl h)) e
    exact ⟨c, d, f⟩
  | r + 1, hr => by
    obtain ⟨h1, h2, h3⟩ := lev_c hG hx hF m r (by omega)
    obtain ⟨g1, g2, g3⟩ := xlev_g (F := F) m hx r
    obtain ⟨d, hd⟩ : ∃ d, 6 - (r + 1) = d := ⟨_, rfl⟩
    have e6 : 6 - d = r + 1 := by omega
    have e5 : 5 - d = r := by omega
    have ed : 6 - r = d + 1 := by omega
    rw [ed] at h1 h2 h3
    rw [hd]
    have a := atom_c (l := l) (m := m) (d := d) (su := (xlev t n F m r).1) hG hx (by omega) (fun _ => by rw [e5]; exact h1)
    have b := term_c (F := F) hx hF (xatom_g hx (fun _ => g1)) a
    have c := sum_c (F := F) hx hF (xterm_g hx (fun _ => g1)) b
    have dd := unit_c (F := F) (un := (xlev t n F m r).2.1) (tr := (xlev t n F m r).2.2) hG hx (by omega) (xsum_g hx (fun _ => g1)) c (fun _ => ⟨g2, by rw [e5]; exact h2⟩) (fun _ => by rw [e5]; exact h3)
    have e := both_c (F := F) hG hx hF (xunit_g hx (fun _ => ⟨g1, g2, g3⟩)) dd
    have f := truth_c (F := F) hG hx hF (xboth_g hx (fun _ => ⟨g1, g2, g3⟩)) e
    rw [e6] at c dd f
    exact ⟨c, dd, f⟩
theorem FL.rf : FL I I := Fz.rf
theorem FL.tr {I1 I2 : Nat → Nat → Int32} (h : FL I I1) (h2 : FL I1 I2) : FL I I2 := Fz.t h h2
theorem FL.ok {I1 : Nat → Nat → Int32} (h : Fz [] [8, 9, 10, 11, 12, 13] I I1) : FL I I1 := Fz.wk h (by decide) (by decide)
theorem LX.tk {I' : Nat → Nat → Int32} {x x' : Er ⊕ Ln} (h : LX I t n x) (hF : Fz [] [8, 9, 10, 11, 12, 13] I I') (hP : PX I' t n (lt1 x')) (hx : ∀ s', x' = .inr s' → ∃ s, x = .inr s ∧ s'.2 = s.2) : LX I' t n x' := by
  refine ⟨hP, ?_⟩
  cases x' with
  | inl e => trivial
  | inr s' =>
    obtain ⟨s, rfl, h1⟩ := hx s' rfl
    obtain ⟨g1, g2, g3, g4⟩ := h.2
    refine ⟨fun i hi => ?_, by rw [hF.2 16 (by decide)]; exact g2, by rw [h1]; exact g3, by rw [h1]; exact g4⟩
    rw [h1, hF.1 45 (by decide) (by decide)]; exact g1 i hi
theorem LX.wf {s : Ln} (h : LX I t n (.inr s)) : Wf t n s.1 := h.1.2.2
theorem LX.tx {x : Er ⊕ Ln} (h : LX I t n x) : Tx t n := h.1.1.tx
theorem LX.no {e : Er} (h : LX I t n (.inl e)) : ¬ I 43 12 = 0 := fun g => by obtain ⟨s, hs⟩ := h.1.bad.mp g; cases hs
theorem LX.yes {s : Ln} (h : LX I t n (.inr s)) : I 43 12 = 0 := h.1.bad.mpr ⟨_, rfl⟩
theorem PX.no {e : Er} (h : PX I t n (.inl e)) : ¬ I 43 12 = 0 := fun g => by obtain ⟨s, hs⟩ := h.bad.mp g; cases hs
theorem PX.yes {s : Tok} (h : PX I t n (.inr s)) : I 43 12 = 0 := h.bad.mpr ⟨_, rfl⟩
theorem begins_r {s : Ln} {many most : Nat} (w : MW R S nx) (h : LX I t n (.inr s)) (hm : many < 2380) (hms : most < 100) (hmt : s.2 many ≤ most) (h8 : s.1.2.2.1 ≠ 258) : Cal l G (k + 2) 0 0 mX12_begins [.ref 43, .int (nI many), .int (nI most)] (I, J, R, S, nx) (fun r μ' => r = .inl (some (.int (if s.2 many = most then 0 else 1))) ∧ ∃ I', μ' = (I', J, R, S, nx) ∧ FL I I' ∧ LX I' t n (if s.2 many = most then .inl (4, s.1.2.1) else .inr (ynx t n s.1.1, s.2))) := by
  have hc := h.yes
  have e45 : I 45 (nI many).toNatClampNeg = nI (s.2 many) := by rw [nI_clamp (by omega)]; exact h.2.1 many hm
  have eq : (I 45 (nI many).toNatClampNeg = nI most) = (s.2 many = most) := by rw [e45]; exact propext (nI_eq (by omega) (by omega))
  have hb1 : vp_in (nI many) 2380 := vp_in_nI hm (by decide)
  by_cases c : s.2 many = most
  · have d1 : I 45 (nI many).toNatClampNeg = nI most := by rw [eq]; exact c
    obtain ⟨b1, b2⟩ := blames_n (k := 4) (s := s.1) h.1 (by decide)
    have c3 : ¬ w_X12_blames I (4 : Int32) 43 12 = 0 := b2.no
    rw [show qbl 4 s.1 = (4, s.1.2.1) by unfold qbl; rw [if_neg h8]] at b2
    rw [if_pos c, if_pos c]
    refine Cal.of rfl (by decide +kernel) (by simp) (Nat.le_of_ble_eq_true rfl) rfl (sX12_begins_0 (P1 := fun _ _ => True) (P2 := fun _ _ => True) w hb1 ?_ ?_ ?_ ?_ ?_ ?_ ?_ ?_ ?_ ?_) <;> intros <;> (first | exact absurd (by with_reducible assumption) d1 | exact absurd d1 (by with_reducible assumption) | exact absurd (by with_reducible assumption) c3 | exact absurd c3 (by with_reducible assumption) | skip)
    have hF3 : Fz [] [8, 9, 10, 11, 12, 13] I (w_X12_blames I (4 : Int32)) := Fz.wk b1 (by decide) (by decide)
    exact ⟨rfl, _, rfl, FL.ok hF3, h.tk hF3 b2 (fun s' hs => by cases hs)⟩
  · have d1 : ¬ I 45 (nI many).toNatClampNeg = nI most := by rw [eq]; exact c
    rw [if_neg c, if_neg c]
    refine Cal.of rfl (by decide +kernel) (by simp) (Nat.le_of_ble_eq_true rfl) rfl (sX12_begins_0 (P1 := fun I I' => Fz [] [8, 9, 10, 11, 12, 13] I I' ∧ PX I' t n (.inr (ynx t n s.1.1))) (P2 := fun _ _ => True) w hb1 ?_ ?_ ?_ ?_ ?_ ?_ ?_ ?_ ?_ ?_) <;> intros <;> (first | exact absurd (by with_reducible assumption) d1 | exact absurd d1 (by with_reducible assumption) | exact absurd (by with_reducible assumption) hc | exact absurd hc (by with_reducible assumption) | skip)
    · exact reads_p (s := s.1) w h.1
    · rename_i I1 h1 hx; exact absurd h1.2.yes hx
    · rename_i I1 h1 _
      refine ⟨rfl, _, rfl, FL.ok h1.1, h.tk h1.1 h1.2 (fun s' hs => ?_)⟩
      obtain rfl := Sum.inr.inj hs
      exact ⟨s, rfl, rfl⟩
def ytv (tel : Nat → Nat) (w base set i : Nat) : Nat → Nat := fun j => if j = 56 + w then base else if j = 61 + w then set else if 61 ≤ j ∧ j < 61 + i ∧ set.testBit (j - 61) = true then tel j ||| 2 ^ w else tel j
theorem up45 {I1 : Nat → Nat → Int32} {f : Nat → Nat} {i v : Nat} (h : KT I1 f) : KT (up2 I1 45 i (nI v)) (qset f i v) := fun j hj => by
  unfold qset
  by_cases c : j = i
  · rw [if_pos c]; simp [up2, c]
  · rw [if_neg c]; simp [up2, c]; exact h j hj
theorem KT.fz {rs fs : List Nat} {I' : Nat → Nat → Int32} {f : Nat → Nat} (h : KT I f) (hF : Fz rs fs I I') (h1 : 45 ∉ rs) : KT I' f := fun i hi => by rw [hF.1 45 (by decide) h1]; exact h i hi
theorem KT.cg {f g : Nat → Nat} (h : KT I f) (e : ∀ i, i < 2380 → g i = f i) : KT I g := fun i hi => by rw [e i hi]; exact h i hi
/-- the last rows of a ward -/
theorem ward95 {I0 : Nat → Nat → Int32} {s2 : Tok} {f : Nat → Nat} {wn base set : Nat} (w : MW R S nx) (hF0 : FL I0 I) (hP : PX I t n (.inr s2)) (hK : KT I f) (h16 : I 43 16 = 0) (hw : wn < 5) (h1 : f 1 = wn) (h2 : f 2 ≤ 8) (hs : set < 32) : hX12_readWard_95 l G k (fun r μ' => r = .inl none ∧ ∃ I', μ' = (I', J, R, S, nx) ∧ FL I0 I' ∧ LX I' t n (.inr (s2, ytw f wn base set))) (nI wn) (nI set) (0 : Int32) (up2 (up2 I 45 ((56 : Int32) + nI wn).toNatClampNeg (nI base)) 45 ((61 : Int32) + nI wn).toNatClampNeg (nI set), J, R, S, nx) := by
  have e56 : (56 : Int32) + nI wn = nI (56 + wn) := nI_add 56 wn
  have e61 : (61 : Int32) + nI wn = nI (61 + wn) := nI_add 61 wn
  rw [e56, e61, nI_clamp (by omega), nI_clamp (by omega)]
  have hF1 : Fz [45] [] I (up2 (up2 I 45 (56 + wn) (nI base)) 45 (61 + wn) (nI set)) := (Fz.rf.up (by decide) (by decide)).up (by decide) (by decide)
  refine upto (W := fun i I1 => hX12_readWard_95 l G k _ (nI wn) (nI set) (nI i) (I1, J, R, S, nx)) (P := fun i I1 => Fz [45] [] I I1 ∧ KT I1 (ytv f wn base set i)) wn ?_ ?_ (i := 0) (Nat.zero_le _) ⟨hF1, (up45 (up45 hK)).cg (fun i hi => ?_)⟩
  · intro I1 ⟨hF, hK1⟩
    have c1 : nI wn ≤ nI wn := nI_le (Nat.le_refl _) (by omega)
    refine sX12_readWard_95 w ?_ ?_ ?_ ?_ ?_ ?_ <;> intros <;> (first | exact absurd (by with_reducible assumption) c1 | exact absurd c1 (by with_reducible assumption) | skip)
    have e1 : I1 45 1 = nI wn := by rw [hK1 1 (by decide)]; unfold ytv; rw [if_neg (by omega), if_neg (by omega), if_neg (by omega), h1]
    rw [e1, nI_1]
    have hF2 : Fz [45] [] I (up2 I1 45 1 (nI (wn + 1))) := hF.up (by decide) (by decide)
    refine ⟨rfl, _, rfl, hF0.tr (Fz.wk hF2 (by decide) (by decide)), hP.fz hF2 (by decide) (by decide), (up45 hK1).cg (fun i hi => ?_), by rw [hF2.2 16 (by decide)]; exact h16, ?_, ?_⟩
    · show ytw f wn base set i = qset (ytv f wn base set wn) 1 (wn + 1) i
      unfold ytw qset ytv; rfl
    · show ytw f wn base set 1 ≤ 5
      unfold ytw; rw [if_pos rfl]; omega
    · show ytw f wn base set 2 ≤ 8
      unfold ytw; rw [if_neg (by decide), if_neg (by omega), if_neg (by omega), if_neg (by omega)]; exact h2
  · intro i I1 hi ⟨hF, hK1⟩ ih
    have c1 : ¬ nI wn ≤ nI i := nI_ge hi (by omega)
    have e61i : (61 : Int32) + nI i = nI (61 + i) := nI_add 61 i
    have hbb : vp_in ((61 : Int32) + nI i) 2380 := by rw [e61i]; exact vp_in_nI (by omega) (by decide)
    have eh := has_n (s := set) (i := i) (by omega) (by omega)
    have ev : I1 45 ((61 : Int32) + nI i).toNatClampNeg = nI (f (61 + i)) := by
      rw [e61i, nI_clamp (by omega), hK1 (61 + i) (by omega)]; unfold ytv; rw [if_neg (by omega), if_neg (by omega), if_neg (by omega)]
    have on : ∀ v : Nat, (∀ j, j < 2380 → ytv f wn base set (i + 1) j = qset (ytv f wn base set i) (61 + i) v j) → hX12_readWard_95 l G k (fun r μ' => r = .inl none ∧ ∃ I', μ' = (I', J, R, S, nx) ∧ FL I0 I' ∧ LX I' t n (.inr (s2, ytw f wn base set))) (nI wn) (nI set) (nI i + (1 : Int32)) (up2 I1 45 ((61 : Int32) + nI i).toNatClampNeg (nI v), J, R, S, nx) := by
      intro v hv
      rw [nI_1, e61i, nI_clamp (by omega)]
      exact ih _ ⟨hF.up (by decide) (by decide), (up45 hK1).cg hv⟩
    refine sX12_readWard_95 w ?_ ?_ ?_ ?_ ?_ ?_ <;> intros <;> (first | exact absurd (by with_reducible assumption) c1 | exact absurd c1 (by with_reducible assumption) | skip)
    · exact hbb
    · exact hbb
    · rename_i h0
      rw [eh, ifI] at h0
      rw [ev, show nI (f (61 + i)) ||| (0 : Int32) = nI (f (61 + i)) from (fa_or _ 0).trans (by rw [Nat.or_zero])]
      refine on _ (fun j hj => ?_)
      unfold ytv qset
      by_cases cj : j = 61 + i
      · rw [if_pos cj, if_neg (by omega), if_neg (by omega), if_neg (by rw [cj, show 61 + i - 61 = i by omega]; exact fun g => h0 g.2.2), cj]
      · rw [if_neg cj]
        dsimp only
        by_cases c2 : 61 ≤ j ∧ j < 61 + i ∧ set.testBit (j - 61) = true
        · have c3 : 61 ≤ j ∧ j < 61 + (i + 1) ∧ set.testBit (j - 61) = true := ⟨c2.1, by omega, c2.2.2⟩
          simp only [if_pos c2, if_pos c3]
        · have c3 : ¬ (61 ≤ j ∧ j < 61 + (i + 1) ∧ set.testBit (j - 61) = true) := fun g => c2 ⟨g.1, by omega, g.2.2⟩
          simp only [if_neg c2, if_neg c3]
    · exact hbb
    · rename_i h0
      rw [eh, ifI, Decidable.not_not] at h0
      rw [ev, shl_n (by omega), fa_or]
      refine on _ (fun j hj => ?_)
      unfold ytv qset
      by_cases cj : j = 61 + i
      · rw [if_pos cj, if_neg (by omega), if_neg (by omega), if_pos (by rw [cj, show 61 + i - 61 = i by omega]; exact ⟨by omega, by omega, h0⟩), cj]
      · rw [if_neg cj]
        dsimp only
        by_cases c2 : 61 ≤ j ∧ j < 61 + i ∧ set.testBit (j - 61) = true
        · have c3 : 61 ≤ j ∧ j < 61 + (i + 1) ∧ set.testBit (j - 61) = true := ⟨c2.1, by omega, c2.2.2⟩
          simp only [if_pos c2, if_pos c3]
        · have c3 : ¬ (61 ≤ j ∧ j < 61 + (i + 1) ∧ set.testBit (j - 61) = true) := fun g => c2 ⟨g.1, by omega, g.2.2⟩
          simp only [if_neg c2, if_neg c3]
  · by_cases c2 : i = 56 + wn
    · have c1 : ¬ i = 61 + wn := by omega
      simp only [ytv, qset, if_pos c2, if_neg c1]
    · by_cases c1 : i = 61 + wn
      · simp only [ytv, qset, if_neg c2, if_pos c1]
      · simp only [ytv, qset, if_neg c2, if_neg c1]; rw [if_neg (by omega)]
theorem readWard_r {s : Ln} (w : MW R S nx) (hG : GT G) (hFu : n < F) (h : LX I t n (.inr s)) (h3 : s.1.2.2.1 = 300) : Cal l G (k + 7) 0 0 mX12_readWard [.ref 43] (I, J, R, S, nx) (fun r μ' => r = .inl none ∧ ∃ I', μ' = (I', J, R, S, nx) ∧ FL I I' ∧ LX I' t n (yward t n F s)) := by
  have z0 : (0 : Int32) = 0 := rfl
  have z1 : ¬ (1 : Int32) = 0 := by decide
  obtain ⟨hK, h16, hw5, hw8⟩ := h.2
  have hx := h.tx
  have hn := hx.1
  have hb := begins_r (l := l) (G := G) (k := k + 4) (J := J) (many := 1) (most := 5) w h (by decide) (by decide) hw5 (by omega)
  obtain ⟨wn, hwn⟩ : ∃ wn, s.2 1 = wn := ⟨_, rfl⟩
  unfold yward
  rw [hwn] at hb hw5 ⊢
  by_cases c5 : wn = 5
  · rw [if_pos c5]
    rw [if_pos c5, if_pos c5] at hb
    refine Cal.of rfl (by decide +kernel) (by simp) (Nat.le_of_ble_eq_true rfl) rfl (sX12_readWard_0 (u1 := 0) (u2 := 0) (u3 := 0) (P1 := fun I I' => FL I I' ∧ LX I' t n (.inl (4, s.1.2.1))) (P2 := fun _ _ => True) (P3 := fun _ _ => True) w hb ?_ ?_ ?_ ?_ ?_ ?_ ?_ ?_) <;> intros <;> (first | exact absurd (by with_reducible assumption) z0 | exact absurd z0 (by with_reducible assumption) | skip)
    rename_i I1 h1 _; exact ⟨rfl, _, rfl, h1⟩
  · rw [if_neg c5]
    rw [if_neg c5, if_neg c5] at hb
    obtain ⟨r1, hr1⟩ : ∃ r1, ynum t n 0 100 (ynx t n s.1.1) = r1 := ⟨_, rfl⟩
    rw [hr1]
    have num1 : ∀ I1 : Nat → Nat → Int32, LX I1 t n (.inr (ynx t n s.1.1, s.2)) → Cal l G (k + 6) 0 0 mX12_number [.ref 43, .int (0 : Int32), .int (99 : Int32)] (I1, J, R, S, nx) (fun r μ' => r = .inl (some (.int (tnv 0 r1))) ∧ ∃ I', μ' = (I', J, R, S, nx) ∧ Fz [] [8, 9, 10, 11, 12, 13] I1 I' ∧ PX I' t n (tsn r1)) := by
      intro I1 h1
      have := number_r (l := l) (G := G) (k := k + 4) (J := J) (lo := 0) (hi := 100) (y := 99) (x := .inr (ynx t n s.1.1)) w h1.1 (by decide) (by decide) (by decide)
      rw [show xb (.inr (ynx t n s.1.1) : Er ⊕ Tok) (ynum t n 0 100) = r1 from hr1] at this
      exact this
    -- what is known of row 45 behind it
    have kt : ∀ I1 I2 : Nat → Nat → Int32, LX I1 t n (.inr (ynx t n s.1.1, s.2)) → Fz [] [8, 9, 10, 11, 12, 13] I1 I2 → KT I2 s.2 ∧ I2 43 16 = 0 ∧ I1 45 1 = nI wn := fun I1 I2 h1 h2 => ⟨h1.2.1.fz h2 (by decide), by rw [h2.2 16 (by decide)]; exact h1.2.2.1, by rw [h1.2.1 1 (by decide), ← hwn]⟩
    have e56 : (56 : Int32) + nI wn = nI (56 + wn) := nI_add 56 wn
    have e61 : (61 : Int32) + nI wn = nI (61 + wn) := nI_add 61 wn
    have b56 : vp_in ((56 : Int32) + nI wn) 2380 := by rw [e56]; exact vp_in_nI (by omega) (by decide)
    have b61 : vp_in ((61 : Int32) + nI wn) 2380 := by rw [e61]; exact vp_in_nI (by omega) (by decide)
    cases hq1 : r1 with
    | inl e =>
      subst hq1
      show Cal l G (k + 7) 0 0 mX12_readWard [.ref 43] (I, J, R, S, nx) (fun r μ' => r = .inl none ∧ ∃ I', μ' = (I', J, R, S, nx) ∧ FL I I' ∧ LX I' t n (.inl e))
      refine Cal.of rfl (by decide +kernel) (by simp) (Nat.le_of_ble_eq_true rfl) rfl (sX12_readWard_0 (u1 := 1) (u2 := tnv 0 (.inl e)) (u3 := 0) (P1 := fun I I' => FL I I' ∧ LX I' t n (.inr (ynx t n s.1.1, s.2))) (P2 := fun I I' => Fz [] [8, 9, 10, 11, 12, 13] I I' ∧ PX I' t n (.inl e)) (P3 := fun I I' => Fz [] [8, 9, 10, 11, 12, 13] I I' ∧ PX I' t n (.inl e)) w hb ?_ ?_ ?_ ?_ ?_ ?_ ?_ ?_) <;> intros <;> (first | exact absurd (by with_reducible assumption) z1 | exact absurd z1 (by with_reducible assumption) | exact absurd (by with_reducible assumption) z0 | exact absurd z0 (by with_reducible assumption) | skip)
      · rename_i I1 h1 _; exact num1 I1 h1.2
      · rename_i I1 h1 _ I2 h2; exact took_r (si := 15) (x := .inl e) w hG h2.2 (by decide)
      · rename_i I1 h1 _ I2 h2 I3 h3 _ hx1; exact absurd hx1 h3.2.no
      · rename_i I1 h1 _ I2 h2 I3 h3 _ hx1; exact absurd hx1 h3.2.no
      · rename_i I1 h1 _ I2 h2 I3 h3 _ hx1; exact absurd hx1 h3.2.no
      · rename_i I1 h1 _ I2 h2 I3 h3 _ _; exact ⟨rfl, _, rfl, h1.1.tr (FL.ok (h2.1.t h3.1)), h3.2, trivial⟩
    | inr v =>
      subst hq1
      obtain ⟨base, s2⟩ := v
      have hs2 : PX I t n (.inr s2) → True := fun _ => trivial
      show Cal l G (k + 7) 0 0 mX12_readWard [.ref 43] (I, J, R, S, nx) (fun r μ' => r = .inl none ∧ ∃ I', μ' = (I', J, R, S, nx) ∧ FL I I' ∧ LX I' t n (xb (if s2.2.2.1 = 307 then ybs t n wn F 0 (ynx t n s2.1) else .inr (0, s2)) (fun r2 => .inr (r2.2, ytw s.2 wn base r2.1))))
      by_cases c7 : s2.2.2.1 = 307
      · rw [if_pos c7]
        refine Cal.of rfl (by decide +kernel) (by simp) (Nat.le_of_ble_eq_true rfl) rfl (sX12_readWard_0 (u1 := 1) (u2 := nI base) (u3 := 1) (P1 := fun I I' => FL I I' ∧ LX I' t n (.inr (ynx t n s.1.1, s.2))) (P2 := fun I I' => Fz [] [8, 9, 10, 11, 12, 13] I I' ∧ PX I' t n (.inr s2)) (P3 := fun I I' => Fz [] [8, 9, 10, 11, 12, 13] I I' ∧ PX I' t n (.inr (ynx t n s2.1))) w hb ?_ ?_ ?_ ?_ ?_ ?_ ?_ ?_) <;> intros <;> (first | exact absurd (by with_reducible assumption) z1 | exact absurd z1 (by with_reducible assumption) | exact absurd (by with_reducible assumption) z0 | exact absurd z0 (by with_reducible assumption) | skip)
        · rename_i I1 h1 _; exact num1 I1 h1.2
        · rename_i I1 h1 _ I2 h2; exact took_y (si := 15) w hG h2.2 (by decide) c7
        · rename_i I1 h1 _ I2 h2 I3 h3 _
          have h23 : Fz [] [8, 9, 10, 11, 12, 13] I1 I3 := h2.1.t h3.1
          obtain ⟨k1, k2, k3⟩ := kt I1 I3 h1.2 h23
          rw [k3]
          -- the numbers behind it
          have loop : ∀ (q set : Nat) (s3 : Tok) (I4 : Nat → Nat → Int32), set < 32 → Fz [] [8, 9, 10, 11, 12, 13] I3 I4 → PX I4 t n (.inr s3) → n - s3.1 < q → hX12_readWard_36 l G k (fun r μ' => r = .inl none ∧ ∃ I', μ' = (I', J, R, S, nx) ∧ FL I I' ∧ LX I' t n (xb (ybs t n wn q set s3) (fun r2 => .inr (r2.2, ytw s.2 wn base r2.1)))) (nI wn) (nI base) (nI set) (I4, J, R, S, nx) := by
            intro q
            induction q with
            | zero => intro set s3 I4 _ _ _ hq; omega
            | succ q ih =>
              intro set s3 I4 hset h4 hP hq
              obtain ⟨r2, hr2⟩ : ∃ r2, ynum t n 0 wn s3 = r2 := ⟨_, rfl⟩
              have eb : ybs t n wn (q + 1) set s3 = xb r2 (fun r => if r.2.2.2.1 = 256 then ybs t n wn q (set ||| 2 ^ r.1) r.2 else .inr (set ||| 2 ^ r.1, r.2)) := by rw [← hr2]; rfl
              rw [eb]
              have num2 : Cal l G (k + 6) 0 0 mX12_number [.ref 43, .int (0 : Int32), .int (nI wn - (1 : Int32))] (I4, J, R, S, nx) (fun r μ' => r = .inl (some (.int (tnv 0 r2))) ∧ ∃ I', μ' = (I', J, R, S, nx) ∧ Fz [] [8, 9, 10, 11, 12, 13] I4 I' ∧ PX I' t n (tsn r2)) := by
                have := number_r (l := l) (G := G) (k := k + 4) (J := J) (lo := 0) (hi := wn) (y := nI wn - (1 : Int32)) (x := .inr s3) w hP (by decide) (by omega) (by rw [show (1 : Int32) = nI 1 from rfl, nI_z, nI_z, zI_sub, zI_toInt (by omega)]; rfl)
                rw [show xb (.inr s3 : Er ⊕ Tok) (ynum t n 0 wn) = r2 from hr2] at this
                exact this
              cases hq2 : r2 with
              | inl e =>
                subst hq2
                show hX12_readWard_36 l G k (fun r μ' => r = .inl none ∧ ∃ I', μ' = (I', J, R, S, nx) ∧ FL I I' ∧ LX I' t n (.inl e)) (nI wn) (nI base) (nI set) (I4, J, R, S, nx)
                refine sX12_readWard_36 (P1 := fun I I' => Fz [] [8, 9, 10, 11, 12, 13] I I' ∧ PX I' t n (.inl e)) w num2 ?_ ?_ ?_ ?_ ?_ ?_ ?_ ?_ ?_ <;> intro I5 h5 hx1
                · intro hx2; exact absurd hx2 h5.2.no
                · intro hx2; exact absurd hx2 h5.2.no
                · intro hx2; exact absurd hx2 h5.2.no
                · intro _; exact ⟨rfl, _, rfl, h1.1.tr (FL.ok ((h23.t h4).t h5.1)), h5.2, trivial⟩
                · intro _; exact absurd hx1 h5.2.no
                · intro _ _; exact absurd hx1 h5.2.no
                · intro _ _; exact absurd hx1 h5.2.no
                · intro _ _; exact absurd hx1 h5.2.no
                · intro _ _; exact absurd hx1 h5.2.no
              | inr v =>
                subst hq2
                obtain ⟨v, s4⟩ := v
                have hv : v < wn ∧ s3.2.2.1 = 256 ∧ s4 = ynx t n s3.1 := by
                  unfold ynum at hr2
                  split at hr2
                  · rename_i g1
                    split at hr2
                    · rename_i g2
                      have := Sum.inr.inj hr2
                      injection this with q1 q2
                      exact ⟨by omega, g1, q2.symm⟩
                    · cases hr2
                  · cases hr2
                have hset2 : set ||| 2 ^ v < 32 := Nat.or_lt_two_pow (n := 5) hset (Nat.pow_lt_pow_right (by decide) (by omega))
                have eset : nI set ||| ((1 : Int32) <<< (nI v &&& 31)) = nI (set ||| 2 ^ v) := by rw [shl_n (by omega), fa_or]
                show hX12_readWard_36 l G k (fun r μ' => r = .inl none ∧ ∃ I', μ' = (I', J, R, S, nx) ∧ FL I I' ∧ LX I' t n (xb (if s4.2.2.1 = 256 then ybs t n wn q (set ||| 2 ^ v) s4 else .inr (set ||| 2 ^ v, s4)) (fun r2 => .inr (r2.2, ytw s.2 wn base r2.1)))) (nI wn) (nI base) (nI set) (I4, J, R, S, nx)
                have tk2 : ∀ I5 : Nat → Nat → Int32, PX I5 t n (.inr s4) → (I5 43 10 = (2 : Int32)) = (s4.2.2.1 = 256) := fun I5 h5 => by
                  have hr := rtk_k h5.2.2 hx
                  rw [h5.2.1.2.2.1]
                  exact propext ((nI_eq (b := 2) (by omega) (by decide)).trans hr.2.1)
                have fin : ∀ I5 : Nat → Nat → Int32, Fz [] [8, 9, 10, 11, 12, 13] I4 I5 → PX I5 t n (.inr s4) → ¬ s4.2.2.1 = 256 → hX12_readWard_95 l G k (fun r μ' => r = .inl none ∧ ∃ I', μ' = (I', J, R, S, nx) ∧ FL I I' ∧ LX I' t n (xb (if s4.2.2.1 = 256 then ybs t n wn q (set ||| 2 ^ v) s4 else .inr (set ||| 2 ^ v, s4)) (fun r2 => .inr (r2.2, ytw s.2 wn base r2.1)))) (nI wn) (nI set ||| ((1 : Int32) <<< (nI v &&& 31))) (0 : Int32) (up2 (up2 I5 45 ((56 : Int32) + nI wn).toNatClampNeg (nI base)) 45 ((61 : Int32) + nI wn).toNatClampNeg (nI set ||| ((1 : Int32) <<< (nI v &&& 31))), J, R, S, nx) := by
                  intro I5 h5 hP5 hne
                  rw [if_neg hne, eset]
                  have hall : Fz [] [8, 9, 10, 11, 12, 13] I3 I5 := h4.t h5
                  exact ward95 w (h1.1.tr (FL.ok (h23.t hall))) hP5 (k1.fz hall (by decide)) (by rw [hall.2 16 (by decide)]; exact k2) (by omega) hwn hw8 hset2
                refine sX12_readWard_36 (u1 := nI v) (P1 := fun I I' => Fz [] [8, 9, 10, 11, 12, 13] I I' ∧ PX I' t n (.inr s4)) w num2 ?_ ?_ ?_ ?_ ?_ ?_ ?_ ?_ ?_ <;> intro I5 h5 hx1
                · exact absurd h5.2.yes hx1
                · exact absurd h5.2.yes hx1
                · exact absurd h5.2.yes hx1
                · exact absurd h5.2.yes hx1
                · intro hx2
                  rw [tk2 I5 h5.2] at hx2
                  rw [if_pos hx2, eset]
                  refine ih _ s4 I5 hset2 (h4.t h5.1) h5.2 ?_
                  have hg3 := hP.2.2.ad hx
                  rw [← hv.2.2] at hg3
                  have hg4 := h5.2.2.2.g hx
                  have := hg3.2.2.1.resolve_left (by omega)
                  omega
                · intro _ _; exact b56
                · intro _ _; exact b61
                · intro hx2 _
                  rw [tk2 I5 h5.2] at hx2
                  exact fin I5 h5.1 h5.2 hx2
                · intro _ hx3; exact absurd h5.2.yes hx3
          exact loop F 0 _ I3 (by decide) Fz.rf h3.2 (by omega)
      · rw [if_neg c7]
        show Cal l G (k + 7) 0 0 mX12_readWard [.ref 43] (I, J, R, S, nx) (fun r μ' => r = .inl none ∧ ∃ I', μ' = (I', J, R, S, nx) ∧ FL I I' ∧ LX I' t n (.inr (s2, ytw s.2 wn base 0)))
        refine Cal.of rfl (by decide +kernel) (by simp) (Nat.le_of_ble_eq_true rfl) rfl (sX12_readWard_0 (u1 := 1) (u2 := nI base) (u3 := 0) (P1 := fun I I' => FL I I' ∧ LX I' t n (.inr (ynx t n s.1.1, s.2))) (P2 := fun I I' => Fz [] [8, 9, 10, 11, 12, 13] I I' ∧ PX I' t n (.inr s2)) (P3 := fun I I' => Fz [] [8, 9, 10, 11, 12, 13] I I' ∧ PX I' t n (.inr s2)) w hb ?_ ?_ ?_ ?_ ?_ ?_ ?_ ?_) <;> intros <;> (first | exact absurd (by with_reducible assumption) z1 | exact absurd z1 (by with_reducible assumption) | exact absurd (by with_reducible assumption) z0 | exact absurd z0 (by with_reducible assumption) | skip)
        · rename_i I1 h1 _; exact num1 I1 h1.2
        · rename_i I1 h1 _ I2 h2; exact took_n (si := 15) w hG h2.2 (by decide) c7
        · rename_i I1 h1 _ I2 h2 I3 h3 _ _; rw [(kt I1 I2 h1.2 h2.1).2.2]; exact b56
        · rename_i I1 h1 _ I2 h2 I3 h3 _ _; rw [(kt I1 I2 h1.2 h2.1).2.2]; exact b61
        · rename_i I1 h1 _ I2 h2 I3 h3 _ _
          have h23 : Fz [] [8, 9, 10, 11, 12, 13] I1 I3 := h2.1.t h3.1
          obtain ⟨k1, k2, k3⟩ := kt I1 I3 h1.2 h23
          rw [k3]
          exact ward95 (set := 0) w (h1.1.tr (FL.ok h23)) h3.2 k1 k2 (by omega) hwn hw8 (by decide)
        · rename_i I1 h1 _ I2 h2 I3 h3 _ hx1; exact absurd h3.2.yes hx1
end A
