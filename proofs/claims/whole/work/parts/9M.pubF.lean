/-! the class: where, amend, kinds barred all day -/
section A
variable {l : Launch} {G : Gh} {k : Nat} {I : Nat → Nat → Int32} {J : Nat → Nat → Int64} {R : Nat → Nat → Option Nat} {S : Nat → Nat × Nat} {nx : Nat} {κ : Nat → Nat} {hb pb : Nat}
variable {ι : Nat → Option (Nat → Nat)} {τ tm : Nat → Nat} {tn : Nat → Nat → Int64} {tp : Nat} {fk fp : Int32} {t : Nat → Nat} {ow : Nat → Nat} {L dl pl ld lp : Nat}
theorem gRx {x y : Int32} (h : gR x 0 99) : (Int32.toInt x ≤ Int32.toInt y ∧ Int32.toInt y ≤ Int32.toInt (99 : Int32)) = gR y (cN x) 99 := by
  obtain ⟨n, rfl, _, h2, e⟩ := h.n (by decide)
  rw [e, nI_toInt (by omega)]
  rfl
/-- kinds of acts, as bits -/
def qko (κ : Nat → Nat) (c : Nat) : Nat → Nat
  | 0 => 0
  | i + 1 => qko κ c i ||| (if c.testBit i then 2 ^ κ (66 + i) else 0)
theorem qko_s (κ : Nat → Nat) (c i : Nat) : qko κ c (i + 1) = qko κ c i ||| (if c.testBit i then 2 ^ κ (66 + i) else 0) := rfl
theorem qko_bit {c kd : Nat} : ∀ {n : Nat}, (qko κ c n).testBit kd = true ↔ ∃ a, a < n ∧ c.testBit a = true ∧ κ (66 + a) = kd
  | 0 => by simp [qko]
  | n + 1 => by
    rw [qko_s, Nat.testBit_or, Bool.or_eq_true, qko_bit]
    constructor
    · rintro (⟨a, h1, h2⟩ | h)
      · exact ⟨a, by omega, h2⟩
      · by_cases c1 : c.testBit n = true
        · rw [if_pos c1, Nat.testBit_two_pow] at h
          exact ⟨n, by omega, c1, by simpa using h⟩
        · rw [if_neg c1] at h; simp at h
    · rintro ⟨a, h1, h2, h3⟩
      by_cases c1 : a = n
      · subst c1; right; rw [if_pos h2, h3, Nat.testBit_two_pow]; simp
      · left; exact ⟨a, by omega, h2, h3⟩
theorem qko_lt {c : Nat} (h : ∀ a, a < 8 → κ (66 + a) ≤ 9) : ∀ {n : Nat}, n ≤ 8 → qko κ c n < 1024
  | 0, _ => by simp [qko]
  | n + 1, hn => by
    rw [qko_s]
    refine Nat.or_lt_two_pow (n := 10) (qko_lt h (by omega)) ?_
    split
    · exact Nat.pow_lt_pow_right (by decide) (by have := h n (by omega); omega)
    · decide
theorem kindsOf_c {c : Nat} (wl : LW R S nx L dl pl ld lp) (hL : CL I κ L dl pl ld lp) (h2 : κ 2 ≤ 8) (hk : ∀ a, a < 8 → κ (66 + a) ≤ 9) (hc : c < 256) : Cal l G k 0 0 mX2_kindsOf [.ref L, .int (nI c)] (I, J, R, S, nx) (fun r μ' => r = .inl (some (.int (nI (qko κ c (κ 2))))) ∧ ∃ I', μ' = (I', J, R, S, nx) ∧ I' = I) := by
  refine Cal.of rfl (by decide +kernel) (by simp) (Nat.le_of_ble_eq_true rfl) rfl (sX2_kindsOf_0 wl ?_)
  refine upto (σ := Unit) (W := fun i _ => WP l G k 0 0 mX2_kindsOf _ 4 [some (.ref L), some (.int (nI c)), some (.int (nI (qko κ c i))), some (.int (nI i))] [] (I, J, R, S, nx) 0 0) (P := fun i _ => True) (κ 2) ?_ ?_ (i := 0) (s := ()) (Nat.zero_le _) trivial
  · intro _ _
    have c0 : I L 2 ≤ nI (κ 2) := by rw [hL.1.2.2.1]; exact nI_le (Nat.le_refl _) (by omega)
    refine sX2_kindsOf_4 wl ?_ ?_ ?_ ?_ <;> intros <;> (first | exact absurd (by with_reducible assumption) c0 | exact absurd c0 (by with_reducible assumption) | skip)
    exact ⟨rfl, _, rfl, rfl⟩
  · intro i _ hi _ ih
    have c0 : ¬ I L 2 ≤ nI i := by rw [hL.1.2.2.1]; exact nI_ge hi (by omega)
    have e := bit_n (s := c) (i := i) (by omega) (by omega)
    have hki := hk i (by omega)
    have := ih () trivial
    rw [qko_s] at this
    refine sX2_kindsOf_4 wl ?_ ?_ ?_ ?_ <;> intros <;> (first | exact absurd (by with_reducible assumption) c0 | exact absurd c0 (by with_reducible assumption) | skip)
    · rename_i g
      rw [e] at g
      rw [if_neg g, Nat.or_zero] at this
      rw [nI_1]; exact this
    · exact vp_in_nI (by omega) (by decide)
    · rename_i g
      rw [e, Decidable.not_not] at g
      rw [if_pos g] at this
      rw [nI_1, nI_clamp (by omega), (hL.2.2.1 i (by omega)).1, shl_n (by omega), fa_or]; exact this
theorem cnt_ev {q : Nat → Bool} : ∀ {n : Nat}, fa_cnt q n = n ↔ ∀ j, j < n → q j = true
  | 0 => by simp [fa_cnt]
  | n + 1 => by
    have hl := fa_cnt_le q n
    cases hq : q n with
    | true =>
      rw [fa_cnt_yes hq]
      constructor
      · intro h j hj
        by_cases c : j = n
        · rw [c, hq]
        · exact (cnt_ev (n := n)).mp (by omega) j (by omega)
      · intro h
        rw [cnt_ev.mpr (fun j hj => h j (by omega))]
    | false =>
      rw [fa_cnt_no hq]
      constructor
      · intro h; omega
      · intro h; rw [h n (by omega)] at hq; cases hq
/-- barred in each of the first hours -/
def qalu (κ : Nat → Nat) (wn n kd : Nat) : Bool := (List.range n).all (fun j => !qfa κ kd wn j)
theorem qalu_24 (κ : Nat → Nat) (wn kd : Nat) : qalu κ wn 24 kd = qalw κ kd wn := by
  unfold qalu qalw
  rw [Bool.eq_iff_iff, List.all_eq_true, decide_eq_true_eq, cnt_ev]
  constructor
  · intro h j hj; exact h j (List.mem_range.mpr hj)
  · intro h j hj; exact h j (List.mem_range.mp hj)
theorem qalu_mono {wn n m kd : Nat} (h : n ≤ m) (hm : qalu κ wn m kd = true) : qalu κ wn n kd = true := by
  unfold qalu at *
  rw [List.all_eq_true] at *
  intro j hj; exact hm j (List.mem_range.mpr (by have := List.mem_range.mp hj; omega))
theorem qko_free (ho : qok hb pb κ) {wn j kd : Nat} : (qko κ (qcin κ wn (κ 54 + j)) (κ 2)).testBit kd = !qfa κ kd wn j := by
  have h2 := ho.2.1
  have e : qcd κ kd wn (κ 54 + j) 0 = qcin κ wn (κ 54 + j) &&& qkind κ kd := by
    have := qcode_kd κ wn (qdeg κ wn (κ 54 + j)) (κ 54 + j) (qall κ) kd
    rw [← qcd_ac0]; exact this.symm
  rw [Bool.eq_iff_iff, qko_bit]
  unfold qfa qfr
  simp only [Bool.not_eq_true', decide_eq_false_iff_not]
  rw [e]
  constructor
  · rintro ⟨a, h1, h3, h4⟩ hz
    have : (qcin κ wn (κ 54 + j) &&& qkind κ kd).testBit a = true := by
      rw [Nat.testBit_and, h3]
      unfold qkind
      rw [bset_bit]; simp [h1, h4]
    rw [hz] at this; simp at this
  · intro hz
    refine Classical.byContradiction (fun hn => hz ?_)
    apply Nat.eq_of_testBit_eq
    intro a
    rw [Nat.testBit_and, Nat.zero_testBit]
    cases hq : (qcin κ wn (κ 54 + j)).testBit a with
    | false => rfl
    | true =>
      rw [Bool.true_and]
      unfold qkind
      rw [bset_bit]
      cases hd : (decide (a < κ 2) && decide (κ (66 + a) = kd)) with
      | false => rfl
      | true =>
        simp at hd
        exact absurd ⟨a, hd.1, hq, hd.2⟩ hn
theorem alwaysBarred_p {zz : Unit} (hl0 : l.stackTraces = false) (hC : CI (I, J, R, S, nx) (κ, ι, (τ, tm, tn), (t, tp), fk, fp)) (hs : sok hb pb κ) (hhb : hb < 2 ^ 28) : Cal l G (k + 4) 40 14000 mX11_alwaysBarred [.ref 0] (I, J, R, S, nx) (CQ (I, J, R, S, nx) (ansR [] (aAlways κ)) (κ, ι, (τ, tm, tn), (t, tp), fk, fp)) := by
  have hC0 := hC
  obtain ⟨ow, L, dl, pl, ld, lp, hR, wL, hL, hN, hV, hP⟩ := hC
  have hR : CR I J R S nx ow ι τ tm tn t tp fk fp := hR
  have wL : R 14 0 = some L := wL
  have hL : LdC I R S nx ow L κ dl pl ld lp := hL
  have hN : CN I κ := hN
  have hV : PV I κ := hV
  have hP : PS I 30 31 κ := hP
  have w : CF R S nx := hR.1
  have wl : LW R S nx L dl pl ld lp := hL.1
  have h : CK I κ L dl pl ld lp := ⟨hN, hL.2.1, hV⟩
  have ho := hs.q
  have h1w : κ 1 ≤ 5 := ho.1
  have h2a : κ 2 ≤ 8 := ho.2.1
  have h54 : κ 54 ≤ hb := ho.2.2.2.2.2.2.2.2.2.2.1
  have e1 : I L 1 = nI (κ 1) := h.2.1.1.2.1
  have e2 : I L 2 = nI (κ 2) := h.2.1.1.2.2.1
  have plt : ∀ wn n, qcin κ wn n < 256 := fun wn n => qcode_lt κ wn (qdeg κ wn n) n (qall κ) ho.2.1
  have hk9 : ∀ a, a < 8 → κ (66 + a) ≤ 9 := fun a ha => (hs.1.2.2.2.2.2.2.2.1 a ha).1
  unfold aAlways
  refine Cal.of rfl (by decide +kernel) (by simp) (Nat.le_of_ble_eq_true rfl) rfl (sX11_alwaysBarred_0 ?_)
  have e0 : bset (fun kd => (List.range 0).any (fun wn => qalw κ kd wn)) 10 = 0 := by simp [bset]
  have key := upto (W := fun i (s : Nat → Nat → Int32) => hX11_alwaysBarred_4 l G k 40 14000 (CQ (I, J, R, S, nx) (ansR [] (0, nI (bset (fun kd => (List.range (κ 1)).any (fun wn => qalw κ kd wn)) 10))) (κ, ι, (τ, tm, tn), (t, tp), fk, fp)) (nI (bset (fun kd => (List.range i).any (fun wn => qalw κ kd wn)) 10)) (nI i) (s, J, R, S, nx) 40 14000) (P := fun i s => Fr [27, 28, 29] I s ∧ CK s κ L dl pl ld lp) (κ 1) ?_ ?_ (i := 0) (s := I) (Nat.zero_le _) ⟨Fr.rf, h⟩
  · rw [e0] at key; exact key
  · intro I1 ⟨hF, h1⟩
    have c0 : I1 L 1 ≤ nI (κ 1) := by rw [h1.2.1.1.2.1]; exact nI_le (Nat.le_refl _) (by omega)
    exact sX11_alwaysBarred_4 w wL wl (fun _ => ⟨ok0 rfl, CI.look hR wL hL hP hF h1⟩) (fun c => absurd c0 c)
  · intro i I1 hi ⟨hF, h1⟩ ih
    have c0 : ¬ I1 L 1 ≤ nI i := by rw [h1.2.1.1.2.1]; exact nI_ge hi (by omega)
    have eor : ∀ m, m = bset (qalu κ i 24) 10 → bset (fun kd => (List.range i).any (fun wn => qalw κ kd wn)) 10 ||| m = bset (fun kd => (List.range (i + 1)).any (fun wn => qalw κ kd wn)) 10 := by
      intro m hm
      rw [hm]
      refine bset_ext (n := 10) (Nat.or_lt_two_pow (bset_lt _ _) (bset_lt _ _)) (bset_lt _ _) (fun kd hkd => ?_)
      rw [Nat.testBit_or, bset_bit, bset_bit, bset_bit, List.range_succ]
      simp [hkd, qalu_24]
    refine sX11_alwaysBarred_4 w wL wl (fun c => absurd c c0) (fun _ => ?_)
    have e1023 : bset (qalu κ i 0) 10 = 1023 := by simp [bset, qalu]
    have key2 := upto (W := fun j (s : Nat → Nat → Int32) => hX11_alwaysBarred_25 l G k 40 14000 (CQ (I, J, R, S, nx) (ansR [] (0, nI (bset (fun kd => (List.range (κ 1)).any (fun wn => qalw κ kd wn)) 10))) (κ, ι, (τ, tm, tn), (t, tp), fk, fp)) (nI (bset (fun kd => (List.range i).any (fun wn => qalw κ kd wn)) 10)) (nI i) (nI (bset (qalu κ i j) 10)) (nI j) (s, J, R, S, nx) 40 14000) (P := fun j s => Fr [27, 28, 29] I s ∧ CK s κ L dl pl ld lp) 24 ?_ ?_ (i := 0) (s := I1) (Nat.zero_le _) ⟨hF, h1⟩
    · rw [e1023] at key2; exact key2
    · intro I2 ⟨hF2, h2⟩
      have c1 : (24 : Int32) ≤ nI 24 := by decide
      refine sX11_alwaysBarred_25 (u1 := 0) (u2 := 0) (P1 := fun _ _ => True) (P2 := fun _ _ => True) w wL wl ?_ ?_ ?_ ?_ ?_ <;> intros <;> (first | exact absurd (by with_reducible assumption) c1 | exact absurd c1 (by with_reducible assumption) | skip)
      rw [fa_or, eor _ rfl, nI_1]
      exact ih I2 ⟨hF2, h2⟩
    · intro j I2 hj ⟨hF2, h2⟩ ih2
      have c1 : ¬ (24 : Int32) ≤ nI j := nI_ge (b := 24) hj (by decide)
      have hlt := bset_lt (qalu κ i j) 10
      refine sX11_alwaysBarred_25 (u1 := nI (qcin κ i (κ 54 + j))) (u2 := nI (qko κ (qcin κ i (κ 54 + j)) (κ 2))) (P1 := fun I I' => Fr [27, 28, 29] I I' ∧ CK I' κ L dl pl ld lp) (P2 := fun I I' => I' = I) w wL wl ?_ ?_ ?_ ?_ ?_ <;> intros <;> (first | exact absurd (by with_reducible assumption) c1 | exact absurd c1 (by with_reducible assumption) | skip)
      · rename_i g
        have hz : bset (qalu κ i j) 10 = 0 := (nI_eq (b := 0) (by omega) (by decide)).mp g
        have e24 : (0 : Nat) = bset (qalu κ i 24) 10 := by
          refine bset_ext (n := 10) (by decide) (bset_lt _ _) (fun kd hkd => ?_)
          rw [Nat.zero_testBit, bset_bit]
          cases hq : qalu κ i 24 kd with
          | false => simp
          | true =>
            have := qalu_mono (n := j) (by omega) hq
            have h3 : (bset (qalu κ i j) 10).testBit kd = true := by rw [bset_bit]; simp [hkd, this]
            rw [hz] at h3; simp at h3
        rw [g, show (0 : Int32) = nI 0 from rfl, fa_or, eor _ e24, nI_1]
        exact ih I2 ⟨hF2, h2⟩
      · rw [h2.1.h.1, nI_add]; exact codeIn_c w wL wl h2 ho (by omega) (by omega) (by omega)
      · rename_i I3 h3
        exact kindsOf_c wl h3.2.2.1 h2a hk9 (plt _ _)
      · rename_i I3 h3 I4 h4
        subst h4
        have e : bset (qalu κ i j) 10 &&& qko κ (qcin κ i (κ 54 + j)) (κ 2) = bset (qalu κ i (j + 1)) 10 := by
          refine bset_ext (n := 10) (Nat.and_lt_two_pow _ (qko_lt hk9 h2a)) (bset_lt _ _) (fun kd hkd => ?_)
          rw [Nat.testBit_and, bset_bit, bset_bit, qko_free ho]
          unfold qalu
          rw [List.range_succ, List.all_append]
          simp [hkd]
        rw [fa_and, e, nI_1]
        exact ih2 I4 ⟨hF2.tr h3.1 (by decide), h3.2⟩
theorem where_p {x1 : Int32} {x2 : Int32} (hl0 : l.stackTraces = false) (hC : CI (I, J, R, S, nx) (κ, ι, (τ, tm, tn), (t, tp), fk, fp)) (hs : sok hb pb κ) (hhb : hb < 2 ^ 28) : Cal l G (k + 6) 40 14000 mX11_where [.ref 0, .int x1, .int x2] (I, J, R, S, nx) (CQ (I, J, R, S, nx) (ansR [eIA] (aWhere κ x1 x2)) (κ, ι, (τ, tm, tn), (t, tp), fk, fp)) := by
  have hC0 := hC
  obtain ⟨ow, L, dl, pl, ld, lp, hR, wL, hL, hN, hV, hP⟩ := hC
  have hR : CR I J R S nx ow ι τ tm tn t tp fk fp := hR
  have wL : R 14 0 = some L := wL
  have hL : LdC I R S nx ow L κ dl pl ld lp := hL
  have hN : CN I κ := hN
  have hV : PV I κ := hV
  have hP : PS I 30 31 κ := hP
  have w : CF R S nx := hR.1
  have wl : LW R S nx L dl pl ld lp := hL.1
  have h : CK I κ L dl pl ld lp := ⟨hN, hL.2.1, hV⟩
  have ho := hs.q
  have h1w : κ 1 ≤ 5 := ho.1
  have h2a : κ 2 ≤ 8 := ho.2.1
  have h54 : κ 54 ≤ hb := ho.2.2.2.2.2.2.2.2.2.2.1
  have e1 : I L 1 = nI (κ 1) := h.2.1.1.2.1
  have e2 : I L 2 = nI (κ 2) := h.2.1.1.2.2.1
  have k0 : nd_needKind x1 = (if gR x1 0 9 then none else some eIA) := (ndI (a := 0) (b := 9) (by decide) (by decide))
  have k1 : nd_needWithin x2 (1 : Int32) (24 : Int32) = (if gR x2 1 24 then none else some eIA) := (ndI (a := 1) (b := 24) (by decide) (by decide))
  by_cases g0 : gR x1 0 9
  · by_cases g1 : gR x2 1 24
    · have c0 : nd_needKind x1 = none := by rw [k0, if_pos g0]
      have c1 : nd_needWithin x2 (1 : Int32) (24 : Int32) = none := by rw [k1, if_pos g1]
      rw [show aWhere κ x1 x2 = (0, jP ((qwh (fun wn => qsoon κ (cN x1) wn (cN x2)) (κ 1)).map Prod.fst)) by unfold aWhere; rw [if_pos ⟨g0, g1⟩]]
      refine Cal.of rfl (by decide +kernel) (by simp) (Nat.le_of_ble_eq_true rfl) rfl (sX11_where_0 hl0 (by decide) (ndy c0) (by decide) (fun _ => ndy c1) (fun _ _ => ?_))
      · obtain ⟨a, rfl, _, ha, ea⟩ := g0.n (by omega)
        obtain ⟨b, rfl, hb1, hb2, eb⟩ := g1.n (by omega)
        rw [ea, eb]
        obtain ⟨f, hf⟩ : ∃ f, (fun wn => qsoon κ a wn b) = f := ⟨_, rfl⟩
        have hfi : ∀ i, qsoon κ a i b = f i := fun i => congrFun hf i
        rw [hf]
        have hle : ∀ i n, f i = some n → n ≤ 200 := fun i n hn => by rw [← hfi] at hn; have := (qso_le hn).2; omega
        have key := upto (W := fun i (s : Int32 × Int32 × Bool × Mem) => hX11_where_21 l G k 40 14000 (CQ (I, J, R, S, nx) (ansR [eIA] (0, jP ((qwh f (κ 1)).map Prod.fst))) (κ, ι, (τ, tm, tn), (t, tp), fk, fp)) (nI a) (nI b) s.1 s.2.1 (nI i) s.2.2.2 (if s.2.2.1 then 0 else 5) (if s.2.2.1 then 0 else 3077)) (P := fun i s => s.1 = jP ((qwh f i).map Prod.fst) ∧ s.2.1 = ((match qwh f i with | none => (201 : Int32) | some q => nI q.2)) ∧ (s.2.2.1 = true → ∃ o, s.2.2.2.2.2.1 0 7 = some o) ∧ KF (I, J, R, S, nx) s.2.2.2 ∧ CI s.2.2.2 (κ, ι, (τ, tm, tn), (t, tp), fk, fp)) (κ 1) ?_ ?_ (i := 0) (s := ((-1 : Int32), (201 : Int32), false, (I, J, R, S, nx))) (Nat.zero_le _) ⟨rfl, rfl, fun hh => Bool.noConfusion hh, KF.rf, hC0⟩
        · exact WP.less (show (5 : Nat) ≤ 40 - 1 - 1 by decide) (show (3077 : Nat) ≤ 14000 - 6 - 6 by decide) key
        · intro ⟨y3, y4, bb, I1, J1, R1, S1, n1⟩ ⟨e3, e4, e5, e6, e7⟩
          obtain ⟨ow1, L1, dl1, pl1, ld1, lp1, hR1, wL1, hL1, hN1, hV1, hP1⟩ := id e7
          have e1' : I1 L1 1 = nI (κ 1) := hL1.2.1.1.2.1
          have c0 : I1 L1 1 ≤ nI (κ 1) := by rw [e1']; exact nI_le (Nat.le_refl _) (by omega)
          exact sX11_where_21 (mc1 := 0) (ms1 := 0) (Qn1 := fun _ _ => True) hR1.1 wL1 hL1.1 (fun _ => ⟨ok0 e3, e6, e7⟩) ⟨Nat.zero_le _, Nat.zero_le _⟩ (fun c => absurd c0 c) (fun c => absurd c0 c) (fun c => absurd c0 c)
        · intro i ⟨y3, y4, bb, I1, J1, R1, S1, n1⟩ hi ⟨e3, e4, e5, e6, e7⟩ ih
          dsimp only at e3 e4 e5 e6 e7
          obtain ⟨ow1, L1, dl1, pl1, ld1, lp1, hR1, wL1, hL1, hN1, hV1, hP1⟩ := id e7
          have e1' : I1 L1 1 = nI (κ 1) := hL1.2.1.1.2.1
          have c0 : ¬ I1 L1 1 ≤ nI i := by rw [e1']; exact nI_ge hi (by omega)
          refine sX11_where_21 (mc1 := if bb then 0 else 5) (ms1 := if bb then 0 else 3077) (Qn1 := LzQ 7 (I1, J1, R1, S1, n1) (κ, ι, (τ, tm, tn), (t, tp), fk, fp)) hR1.1 wL1 hL1.1 (fun c => absurd c c0) ⟨Nat.le_refl _, Nat.le_refl _⟩ (fun _ => aheadx_c e7 e5) (fun _ => ?_) (fun _ => ?_)
          · rintro r μ' ⟨I2, J2, R2, S2, n2, o, hr1, rfl, hk, hc, ho7⟩
            obtain rfl := Sum.inl.inj hr1
            obtain ⟨ow2, L2, dl2, pl2, ld2, lp2, hR2, wL2, hL2, hN2, hV2, hP2⟩ := hc
            have hO := hR2.2.2.2.2.1.1 o ho7
            have ap := Own.ap hO.2 (by decide) (by decide) hL2
            have h72 := hO.2.1
            have hO1 : o + 5 ≤ n2 := hO.1.1
            show WP l G (k + 6) 40 14000 mX11_where _ 40 _ _ _ ((if bb = true then 0 else 5) - (if bb = true then 0 else 5)) ((if bb = true then 0 else 3077) - (if bb = true then 0 else 3077))
            rw [Nat.sub_self, Nat.sub_self]
            have fin : ∀ I3, Fr [27, 28, 29, o + 1, o + 2] I2 I3 ∧ CK I3 κ L2 dl2 pl2 ld2 lp2 → ∀ y3 y4, y3 = jP ((qwh f (i + 1)).map Prod.fst) → y4 = (match qwh f (i + 1) with | none => (201 : Int32) | some q => nI q.2) → WP l G (k + 6) 40 14000 mX11_where (CQ (I, J, R, S, nx) (ansR [eIA] (0, jP ((qwh f (κ 1)).map Prod.fst))) (κ, ι, (τ, tm, tn), (t, tp), fk, fp)) 21 [some (.ref 0), some (.int (nI a)), some (.int (nI b)), some (.int y3), some (.int y4), some (.int (nI i + 1)), none] [] (I3, J2, R2, S2, n2) 0 0 := by
              intro I3 h3 y3 y4 q3 q4
              have st := CI.step hR2 wL2 hL2 (h3.1.wk (r2 := [27, 28, 29, o + 1, o + 2, o + 3, o + 4]) (by simp)) (scrO hO.2) h3.2 (hP2.fr h3.1 (by simp; omega) (by simp; omega))
              rw [nI_1]
              exact ih (y3, y4, true, (I3, J2, R2, S2, n2)) ⟨q3, q4, fun _ => ⟨o, ho7⟩, (e6.trans hk).trans st.1, st.2⟩
            refine sX11_where_40 (u1 := jP (f i)) (P1 := fun I I' => Fr [27, 28, 29, o + 1, o + 2] I I' ∧ CK I' κ L2 dl2 pl2 ld2 lp2) (by omega) hO.1.2.1 ?_ ?_ ?_ ?_
            · rw [← hfi]; exact soonestIn_c hR2.1 wL2 hL2.1 ⟨hN2, hL2.2.1, hV2⟩ ho (by omega) hO.1 ap (by omega) (by omega) ⟨hb1, hb2⟩
            · intro I3 h3 hu
              have hn : f i = none := by
                cases hq : f i with
                | none => rfl
                | some n =>
                  rw [hq] at hu
                  have := hle i n hq
                  rw [show jP (some n) = nI n from rfl, fa_eq, nI_toInt (by omega), show (-1 : Int32).toInt = -1 by decide] at hu; omega
              exact fin I3 h3 _ _ (by rw [qwh_0 hn]; exact e3) (by rw [qwh_0 hn]; exact e4)
            · intro I3 h3 hu hlt
              cases hq : f i with
              | none => rw [hq] at hu; exact absurd rfl hu
              | some n =>
                have hn := hle i n hq
                rw [hq] at hlt
                cases hw : qwh f i with
                | none =>
                  rw [hw] at e4
                  rw [show y4 = 201 from e4, show jP (some n) = nI n from rfl] at hlt
                  exact absurd hlt (nI_ge (b := 201) (by omega) (by decide))
                | some q =>
                  obtain ⟨b2, m⟩ := q
                  have hm := qwh_le hle i b2 m hw
                  rw [hw] at e3 e4
                  rw [show y4 = nI m from e4, show jP (some n) = nI n from rfl, nI_leI (by omega) (by omega)] at hlt
                  have e := qwh_3 hq hw (by omega)
                  exact fin I3 h3 _ _ (by rw [e]; exact e3) (by rw [e]; exact e4)
            · intro I3 h3 hu hlt
              cases hq : f i with
              | none => rw [hq] at hu; exact absurd rfl hu
              | some n =>
                have hn := hle i n hq
                rw [hq] at hlt
                have e : qwh f (i + 1) = some (i, n) := by
                  cases hw : qwh f i with
                  | none => exact qwh_1 hq hw
                  | some q =>
                    obtain ⟨b2, m⟩ := q
                    have hm := qwh_le hle i b2 m hw
                    rw [hw] at e4
                    rw [show y4 = nI m from e4, show jP (some n) = nI n from rfl, nI_leI (by omega) (by omega)] at hlt
                    exact qwh_2 hq hw (by omega)
                exact fin I3 h3 _ _ (by rw [e]; rfl) (by rw [e]; rfl)
          · rintro E μ' ⟨I2, J2, R2, S2, n2, o, hr1, _⟩; cases hr1
    · have c0 : nd_needKind x1 = none := by rw [k0, if_pos g0]
      have c1 : nd_needWithin x2 (1 : Int32) (24 : Int32) = some eIA := by rw [k1, if_neg g1]
      rw [show aWhere κ x1 x2 = (1, 0) by unfold aWhere; rw [if_neg (fun g => g1 g.2)]]
      exact Cal.of rfl (by decide +kernel) (by simp) (Nat.le_of_ble_eq_true rfl) rfl (sX11_where_0 hl0 (by decide) (ndy c0) (by decide) (fun _ => ndn c1 (fun n' hn => ⟨rfl, CI.thr hC0 hn⟩)) (fun _ g => ndx c1 g))
  · have c0 : nd_needKind x1 = some eIA := by rw [k0, if_neg g0]
    rw [show aWhere κ x1 x2 = (1, 0) by unfold aWhere; rw [if_neg (fun g => g0 g.1)]]
    exact Cal.of rfl (by decide +kernel) (by simp) (Nat.le_of_ble_eq_true rfl) rfl (sX11_where_0 hl0 (by decide) (ndn c0 (fun n' hn => ⟨rfl, CI.thr hC0 hn⟩)) (by decide) (fun g => ndx c0 g) (fun g => ndx c0 g))
theorem amend_p {x1 : Int32} {x2 : Int32} {x3 : Int32} (hl0 : l.stackTraces = false) (hC : CI (I, J, R, S, nx) (κ, ι, (τ, tm, tn), (t, tp), fk, fp)) (hs : sok hb pb κ) (hhb : hb < 2 ^ 28) : Cal l G (k + 4) 40 14000 mX11_amend [.ref 0, .int x1, .int x2, .int x3] (I, J, R, S, nx) (CQ (I, J, R, S, nx) (ansR [eNS, eIA] ((aAmend κ x1 x2 x3).1)) ((aAmend κ x1 x2 x3).2, ι, (τ, tm, tn), (t, tp), fk, fp)) := by
  have hC0 := hC
  obtain ⟨ow, L, dl, pl, ld, lp, hR, wL, hL, hN, hV, hP⟩ := hC
  have hR : CR I J R S nx ow ι τ tm tn t tp fk fp := hR
  have wL : R 14 0 = some L := wL
  have hL : LdC I R S nx ow L κ dl pl ld lp := hL
  have hN : CN I κ := hN
  have hV : PV I κ := hV
  have hP : PS I 30 31 κ := hP
  have w : CF R S nx := hR.1
  have wl : LW R S nx L dl pl ld lp := hL.1
  have h : CK I κ L dl pl ld lp := ⟨hN, hL.2.1, hV⟩
  have ho := hs.q
  have h1w : κ 1 ≤ 5 := ho.1
  have h2a : κ 2 ≤ 8 := ho.2.1
  have h54 : κ 54 ≤ hb := ho.2.2.2.2.2.2.2.2.2.2.1
  have e1 : I L 1 = nI (κ 1) := h.2.1.1.2.1
  have e2 : I L 2 = nI (κ 2) := h.2.1.1.2.2.1
  have h5 : κ 5 ≤ 10 := hs.2.1
  have k0 : nd_needAct (I L 2) x1 = (if gL x1 (κ 2) then none else some eNS) := (by rw [e2]; exact ndW (by omega))
  have k1 : nd_needWithin x2 (0 : Int32) (99 : Int32) = (if gR x2 0 99 then none else some eIA) := (ndI (a := 0) (b := 99) (by decide) (by decide))
  have k2 : nd_needWithin x3 x2 (99 : Int32) = (if Int32.toInt x2 ≤ Int32.toInt x3 ∧ Int32.toInt x3 ≤ Int32.toInt (99 : Int32) then none else some eIA) := rfl
  by_cases g0 : gL x1 (κ 2)
  · by_cases g1 : gR x2 0 99
    · by_cases g2 : Int32.toInt x2 ≤ Int32.toInt x3 ∧ Int32.toInt x3 ≤ Int32.toInt (99 : Int32)
      · have c0 : nd_needAct (I L 2) x1 = none := by rw [k0, if_pos g0]
        have c1 : nd_needWithin x2 (0 : Int32) (99 : Int32) = none := by rw [k1, if_pos g1]
        have c2 : nd_needWithin x3 x2 (99 : Int32) = none := by rw [k2, if_pos g2]
        rw [show aAmend κ x1 x2 x3 = ((0, nI (qwith (kAmend κ x1 x2 x3) (cN x1))), kAmend κ x1 x2 x3) by unfold aAmend; rw [if_pos g0, if_pos ⟨g1, by rw [← gRx g1]; exact g2⟩]]
        refine Cal.of rfl (by decide +kernel) (by simp) (Nat.le_of_ble_eq_true rfl) rfl (sX11_amend_0 (P1 := fun I I' => Fr [30, 31] I I' ∧ PS I' 30 31 (qkeep κ)) (P2 := fun I I' => Fr [29] I I' ∧ ∀ κ', PV I' κ') hl0 w wL wl (by decide) (ndy c0) (by decide) (fun _ => ndy c1) (by decide) (fun _ _ => ndy c2) (fun _ _ _ => ?_) (fun _ _ _ => ?_) (fun _ _ _ => ?_) (fun _ _ _ => ?_) (fun _ _ _ => ?_))
        · exact keep_c w hN hP h5
        · obtain ⟨a, rfl, ha, ea⟩ := g0.n (by omega)
          intro I1 h1
          rw [show (33 : Int32) + nI a = nI (33 + a) from nI_add 33 a]; exact vp_in_nI (by omega) (by decide)
        · obtain ⟨a, rfl, ha, ea⟩ := g0.n (by omega)
          intro I1 h1
          rw [show (41 : Int32) + nI a = nI (41 + a) from nI_add 41 a]; exact vp_in_nI (by omega) (by decide)
        · intro I1 h1
          exact forget_c w
        · intro I1 h1 I2 h2
          have g3 : gR x3 (cN x2) 99 := by rw [← gRx g1]; exact g2
          obtain ⟨a, rfl, ha, ea⟩ := g0.n (by omega)
          obtain ⟨b, rfl, _, hb2, eb⟩ := g1.n (by omega)
          rw [eb] at g3
          obtain ⟨c, rfl, _, hc2, ec⟩ := g3.n (by omega)
          unfold kAmend
          rw [ea, eb, ec]
          have hL' := hs.keep.amend (a := a) (fr := b) (to := c) (by omega) hb2 hc2
          have hk := keep_ck h wl h2a h5 h1.1
          rw [show (33 : Int32) + nI a = nI (33 + a) from nI_add 33 a, show (41 : Int32) + nI a = nI (41 + a) from nI_add 41 a, nI_clamp (by omega), nI_clamp (by omega), show 33 + a = 3 + (30 + a) by omega, show 41 + a = 3 + (38 + a) by omega] at h2
          have hN2 := (hk.1.up (j := 30 + a) (v := b) (by omega)).up (j := 38 + a) (v := c) (by omega)
          rw [show 7 + (30 + a) = 37 + a by omega, show 7 + (38 + a) = 45 + a by omega] at hN2
          have hFa : Fr [25] I1 (up2 (up2 I1 25 (3 + (30 + a)) (nI b)) 25 (3 + (38 + a)) (nI c)) := (Fr.rf.up (by decide)).up (by decide)
          have hF : Fr [25, 29] I1 I2 := hFa.tr h2.1 (by decide)
          have ev : ∀ i, (i < 37 ∨ 53 ≤ i) → qamend (qkeep κ) a b c i = qkeep κ i := fun i hi => by unfold qamend; rw [qset_ne (by omega), qset_ne (by omega)]
          have h'' : CK I2 (qamend (qkeep κ) a b c) L dl pl ld lp := ⟨hN2.fr h2.1 (by decide), (hk.2.1.fr wl hF (by decide)).cg (by rw [qkeep_low (by decide) (by decide)]; exact h2a) (fun i hi => ev i (by omega)), h2.2 _⟩
          have hP2 := ((h1.2.fr hF (by decide) (by decide)).cg hs.keep.2.1 (fun i hi => ev i (by omega)))
          have hFF : Fr [25, 27, 28, 29, 30, 31] I I2 := h1.1.tr hF (by decide)
          obtain ⟨κ', hκ'⟩ : ∃ κ', qamend (qkeep κ) a b c = κ' := ⟨_, rfl⟩
          rw [hκ'] at h'' hP2 hL' ⊢
          have ho' := hL'.q
          have h1w' := ho'.1
          have h54' : κ' 54 ≤ hb := ho'.2.2.2.2.2.2.2.2.2.2.1
          unfold qwith
          refine upto (W := fun i (s : Nat → Nat → Int32) => hX11_amend_72 l G k 40 14000 _ (nI a) (nI (qsum (fun wn => if (qcin κ' wn (κ' 54)).testBit a then 1 else 0) i)) (nI i) (s, J, R, S, nx) (40 - 1 - 1 - 1) (14000 - 6 - 6 - 6)) (P := fun i s => Fr [25, 27, 28, 29, 30, 31] I s ∧ CK s κ' L dl pl ld lp ∧ PS s 30 31 κ') (κ' 1) ?_ ?_ (i := 0) (s := I2) (Nat.zero_le _) ⟨hFF, h'', hP2⟩
          · intro I3 ⟨hF3, h3, hP3⟩
            have c0 : I3 L 1 ≤ nI (κ' 1) := by rw [h3.2.1.1.2.1]; exact nI_le (Nat.le_refl _) (by omega)
            exact sX11_amend_72 (u1 := 0) (P1 := fun _ _ => True) w wL wl (fun _ => ⟨ok0 rfl, CI.step hR wL hL hF3 scrN h3 hP3⟩) (fun c => absurd c0 c) (fun c => absurd c0 c)
          · intro i I3 hi ⟨hF3, h3, hP3⟩ ih
            have c0 : ¬ I3 L 1 ≤ nI i := by rw [h3.2.1.1.2.1]; exact nI_ge hi (by omega)
            have hb8 : qcin κ' i (κ' 54) < 256 := qcode_lt _ _ _ _ _ ho'.2.1
            refine sX11_amend_72 (u1 := nI (qcin κ' i (κ' 54))) (P1 := fun I I' => Fr [27, 28, 29] I I' ∧ CK I' κ' L dl pl ld lp) w wL wl (fun c => absurd c c0) (fun _ => ?_) (fun _ I4 h4 => ?_)
            · rw [h3.1.h.1]; exact codeIn_c w wL wl h3 ho' (by omega) (by omega) (by omega)
            · rw [bit_v (by omega) (by omega), nI_add, nI_1]
              exact ih I4 ⟨hF3.tr h4.1 (by decide), h4.2, hP3.fr h4.1 (by decide) (by decide)⟩
      · have c0 : nd_needAct (I L 2) x1 = none := by rw [k0, if_pos g0]
        have c1 : nd_needWithin x2 (0 : Int32) (99 : Int32) = none := by rw [k1, if_pos g1]
        have c2 : nd_needWithin x3 x2 (99 : Int32) = some eIA := by rw [k2, if_neg g2]
        rw [show aAmend κ x1 x2 x3 = ((2, 0), κ) by unfold aAmend; rw [if_pos g0, if_neg (fun g => g2 (by have := g.2; rw [← gRx g1] at this; exact this))]]
        exact Cal.of rfl (by decide +kernel) (by simp) (Nat.le_of_ble_eq_true rfl) rfl (sX11_amend_0 (P1 := fun _ _ => True) (P2 := fun _ _ => True) hl0 w wL wl (by decide) (ndy c0) (by decide) (fun _ => ndy c1) (by decide) (fun _ _ => ndn c2 (fun n' hn => ⟨rfl, CI.thr hC0 hn⟩)) (fun _ _ g => ndx c2 g) (fun _ _ g => ndx c2 g) (fun _ _ g => ndx c2 g) (fun _ _ g => ndx c2 g) (fun _ _ g => ndx c2 g))
    · have c0 : nd_needAct (I L 2) x1 = none := by rw [k0, if_pos g0]
      have c1 : nd_needWithin x2 (0 : Int32) (99 : Int32) = some eIA := by rw [k1, if_neg g1]
      rw [show aAmend κ x1 x2 x3 = ((2, 0), κ) by unfold aAmend; rw [if_pos g0, if_neg (fun g => g1 g.1)]]
      exact Cal.of rfl (by decide +kernel) (by simp) (Nat.le_of_ble_eq_true rfl) rfl (sX11_amend_0 (P1 := fun _ _ => True) (P2 := fun _ _ => True) hl0 w wL wl (by decide) (ndy c0) (by decide) (fun _ => ndn c1 (fun n' hn => ⟨rfl, CI.thr hC0 hn⟩)) (by decide) (fun _ g => ndx c1 g) (fun _ g => ndx c1 g) (fun _ g => ndx c1 g) (fun _ g => ndx c1 g) (fun _ g => ndx c1 g) (fun _ g => ndx c1 g))
  · have c0 : nd_needAct (I L 2) x1 = some eNS := by rw [k0, if_neg g0]
    rw [show aAmend κ x1 x2 x3 = ((1, 0), κ) by unfold aAmend; rw [if_neg g0]]
    exact Cal.of rfl (by decide +kernel) (by simp) (Nat.le_of_ble_eq_true rfl) rfl (sX11_amend_0 (P1 := fun _ _ => True) (P2 := fun _ _ => True) hl0 w wL wl (by decide) (ndn c0 (fun n' hn => ⟨rfl, CI.thr hC0 hn⟩)) (by decide) (fun g => ndx c0 g) (by decide) (fun g => ndx c0 g) (fun g => ndx c0 g) (fun g => ndx c0 g) (fun g => ndx c0 g) (fun g => ndx c0 g) (fun g => ndx c0 g))
end A
