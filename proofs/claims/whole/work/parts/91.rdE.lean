/-! the class: atoms and units read, level by level -/
section A
variable {l : Launch} {G : Gh} {k : Nat} {I : Nat → Nat → Int32} {J : Nat → Nat → Int64} {R : Nat → Nat → Option Nat} {S : Nat → Nat × Nat} {nx : Nat} {κ : Nat → Nat} {hb pb : Nat}
variable {t : Nat → Nat} {n d F : Nat} {m : Bool} {x : Er ⊕ Ex}
theorem ofD {s : Ex} {P : Nat} (h : CE P I t n m (.inr s)) : (v_X6_isOfDegree I = 0) = (xw false s.1.2.2.1 = none) := by
  have e1 : (I 1 4 = (314 : Int32)) = (s.1.2.2.1 = 314) := h.tok (c := 314) (by decide)
  have e2 : (I 1 4 = (315 : Int32)) = (s.1.2.2.1 = 315) := h.tok (c := 315) (by decide)
  have e3 : (I 1 4 = (316 : Int32)) = (s.1.2.2.1 = 316) := h.tok (c := 316) (by decide)
  have e4 : (I 1 4 = (306 : Int32)) = (s.1.2.2.1 = 306) := h.tok (c := 306) (by decide)
  have e5 : (I 1 4 = (317 : Int32)) = (s.1.2.2.1 = 317) := h.tok (c := 317) (by decide)
  have e6 : (I 1 4 = (300 : Int32)) = (s.1.2.2.1 = 300) := h.tok (c := 300) (by decide)
  have yes : ∀ j, xw false s.1.2.2.1 = some j → ((1 : Int32) = 0) = (xw false s.1.2.2.1 = none) := fun j hj => by rw [hj]; exact propext ⟨fun g => absurd g (by decide), fun g => by cases g⟩
  unfold v_X6_isOfDegree
  by_cases c1 : s.1.2.2.1 = 314
  · rw [if_pos (by rw [e1]; exact c1)]; exact yes 0 (by rw [c1]; rfl)
  rw [if_neg (by rw [e1]; exact c1)]
  by_cases c2 : s.1.2.2.1 = 315
  · rw [if_pos (by rw [e2]; exact c2)]; exact yes 1 (by rw [c2]; rfl)
  rw [if_neg (by rw [e2]; exact c2)]
  by_cases c3 : s.1.2.2.1 = 316
  · rw [if_pos (by rw [e3]; exact c3)]; exact yes 2 (by rw [c3]; rfl)
  rw [if_neg (by rw [e3]; exact c3)]
  by_cases c4 : s.1.2.2.1 = 306
  · rw [if_pos (by rw [e4]; exact c4)]; exact yes 3 (by rw [c4]; rfl)
  rw [if_neg (by rw [e4]; exact c4)]
  by_cases c5 : s.1.2.2.1 = 317
  · rw [if_pos (by rw [e5]; exact c5)]; exact yes 4 (by rw [c5]; rfl)
  rw [if_neg (by rw [e5]; exact c5)]
  by_cases c6 : s.1.2.2.1 = 300
  · rw [if_pos (by rw [e6]; exact c6)]; exact yes 5 (by rw [c6]; rfl)
  rw [if_neg (by rw [e6]; exact c6)]
  have : xw false s.1.2.2.1 = none := xw_n.mpr ⟨c1, c2, c3, c4, c5, c6⟩
  rw [this]; exact propext ⟨fun _ => rfl, fun _ => rfl⟩
theorem ofP {s : Ex} {P : Nat} (h : CE P I t n m (.inr s)) : (v_X6_isOfPrevails I = 0) = (xw true s.1.2.2.1 = none) := by
  have e1 : (I 1 4 = (301 : Int32)) = (s.1.2.2.1 = 301) := h.tok (c := 301) (by decide)
  have e2 : (I 1 4 = (318 : Int32)) = (s.1.2.2.1 = 318) := h.tok (c := 318) (by decide)
  have e3 : (I 1 4 = (310 : Int32)) = (s.1.2.2.1 = 310) := h.tok (c := 310) (by decide)
  have e4 : (I 1 4 = (319 : Int32)) = (s.1.2.2.1 = 319) := h.tok (c := 319) (by decide)
  have e5 : (I 1 4 = (320 : Int32)) = (s.1.2.2.1 = 320) := h.tok (c := 320) (by decide)
  have e6 : (I 1 4 = (306 : Int32)) = (s.1.2.2.1 = 306) := h.tok (c := 306) (by decide)
  have e7 : (I 1 4 = (300 : Int32)) = (s.1.2.2.1 = 300) := h.tok (c := 300) (by decide)
  have yes : ∀ j, xw true s.1.2.2.1 = some j → ((1 : Int32) = 0) = (xw true s.1.2.2.1 = none) := fun j hj => by rw [hj]; exact propext ⟨fun g => absurd g (by decide), fun g => by cases g⟩
  unfold v_X6_isOfPrevails
  by_cases c1 : s.1.2.2.1 = 301
  · rw [if_pos (by rw [e1]; exact c1)]; exact yes 0 (by rw [c1]; rfl)
  rw [if_neg (by rw [e1]; exact c1)]
  by_cases c2 : s.1.2.2.1 = 318
  · rw [if_pos (by rw [e2]; exact c2)]; exact yes 1 (by rw [c2]; rfl)
  rw [if_neg (by rw [e2]; exact c2)]
  by_cases c3 : s.1.2.2.1 = 310
  · rw [if_pos (by rw [e3]; exact c3)]; exact yes 2 (by rw [c3]; rfl)
  rw [if_neg (by rw [e3]; exact c3)]
  by_cases c4 : s.1.2.2.1 = 319
  · rw [if_pos (by rw [e4]; exact c4)]; exact yes 3 (by rw [c4]; rfl)
  rw [if_neg (by rw [e4]; exact c4)]
  by_cases c5 : s.1.2.2.1 = 320
  · rw [if_pos (by rw [e5]; exact c5)]; exact yes 4 (by rw [c5]; rfl)
  rw [if_neg (by rw [e5]; exact c5)]
  by_cases c6 : s.1.2.2.1 = 306
  · rw [if_pos (by rw [e6]; exact c6)]; exact yes 5 (by rw [c6]; rfl)
  rw [if_neg (by rw [e6]; exact c6)]
  by_cases c7 : s.1.2.2.1 = 300
  · rw [if_pos (by rw [e7]; exact c7)]; exact yes 6 (by rw [c7]; rfl)
  rw [if_neg (by rw [e7]; exact c7)]
  have : xw true s.1.2.2.1 = none := xw_n.mpr ⟨c1, c2, c3, c4, c5, c6, c7⟩
  rw [this]; exact propext ⟨fun _ => rfl, fun _ => rfl⟩
theorem atom_k {su : Ex → Er ⊕ Ex} (hG : GT G) (hx : Tx t n) (hd : d ≤ 6) (hs : d < 6 → RcC l G mX6_readSum (50 + 8 * (5 - d)) t n m (d + 1) su) : RcC l G mX6_readAtom (48 + 8 * (6 - d)) t n m d (xatom t n m (6 - d) su) := by
  intro k P I J R S nx x w h
  obtain ⟨kk, hkk⟩ : ∃ kk, k + (48 + 8 * (6 - d)) = kk + 40 := ⟨k + 8 + 8 * (6 - d), by omega⟩
  rw [hkk]
  cases x with
  | inl e =>
    have c1 := h.no
    refine Cal.of rfl (by decide +kernel) (by simp) (Nat.le_of_ble_eq_true rfl) rfl (sX6_readAtom_0 (k := kk) (u1 := 0) (P1 := fun _ _ => True) (P2 := fun _ _ => True) (P3 := fun _ _ => True) (P4 := fun _ _ => True) w ?_ ?_ ?_ ?_ ?_ ?_ ?_ ?_ ?_ ?_ ?_ ?_ ?_) <;> intros <;> (first | exact absurd (by with_reducible assumption) c1 | exact absurd c1 (by with_reducible assumption) | skip)
    exact ⟨rfl, _, rfl, F1.rf, h⟩
  | inr s =>
    have c1 := h.yes
    have t256 : (I 1 4 = (256 : Int32)) = (s.1.2.2.1 = 256) := h.tok (c := 256) (by decide)
    have t40 : (I 1 4 = (40 : Int32)) = (s.1.2.2.1 = 40) := h.tok (c := 40) (by decide)
    have hgz := h.wf.g hx
    show Cal l G _ 0 0 mX6_readAtom [.ref 1, .int (nI d)] (I, J, R, S, nx) (fun r μ' => r = .inl none ∧ ∃ I', μ' = (I', J, R, S, nx) ∧ FC I I' ∧ CE P I' t n m (xatom t n m (6 - d) su s))
    by_cases c6 : s.1.2.2.1 = 256
    · have d1 : I 1 4 = (256 : Int32) := by rw [t256]; exact c6
      have hq : xw m s.1.2.2.1 = none := by
        cases hq : xw m s.1.2.2.1 with
        | none => rfl
        | some j => exact absurd c6 (xw_lt hq).2.2.2.2
      have e : xatom t n m (6 - d) su s = .inr (xput (1000 + s.1.2.2.2) (xad t n s)) := by
        unfold xatom; rw [hq]
        show (if s.1.2.2.1 = 40 then _ else _) = _
        rw [if_neg (by omega), if_pos c6]
      rw [e]
      have ev : I 1 6 = cst m (1000 + s.1.2.2.2) := by
        rw [cst_n (by omega), show 1000 + s.1.2.2.2 - 1000 = s.1.2.2.2 by omega]; exact h.z.1.2.1.1.2.2.2 c6
      refine Cal.of rfl (by decide +kernel) (by simp) (Nat.le_of_ble_eq_true rfl) rfl (sX6_readAtom_0 (k := kk) (u1 := 0) (P1 := fun _ _ => True) (P2 := fun _ _ => True) (P3 := fun _ _ => True) (P4 := fun _ I' => FC I I' ∧ CE P I' t n m (.inr (xput (1000 + s.1.2.2.2) (xad t n s)))) w ?_ ?_ ?_ ?_ ?_ ?_ ?_ ?_ ?_ ?_ ?_ ?_ ?_) <;> intros <;> (first | exact absurd (by with_reducible assumption) c1 | exact absurd c1 (by with_reducible assumption) | exact absurd (by with_reducible assumption) d1 | exact absurd d1 (by with_reducible assumption) | skip)
      · rename_i g; exact h.b10 g
      · exact puta_e (k := kk + 33) w hG ev h (by omega)
      · rename_i I1 h1; exact ⟨rfl, _, rfl, h1⟩
    · have d1 : ¬ I 1 4 = (256 : Int32) := by rw [t256]; exact c6
      by_cases c4 : s.1.2.2.1 = 40
      · have d2 : I 1 4 = (40 : Int32) := by rw [t40]; exact c4
        have hq : xw m s.1.2.2.1 = none := by
          cases hq : xw m s.1.2.2.1 with
          | none => rfl
          | some j => exact absurd c4 (xw_lt hq).2.2.2.1
        have hdp := deeper_c (l := l) (k := kk + 32) (J := J) w hG h hd (by omega)
        have e : xatom t n m (6 - d) su s = if d = 6 then .inl (4, s.1.2.1) else xb (su (xad t n s)) (xmust t n 41) := by
          unfold xatom; rw [hq]
          show (if s.1.2.2.1 = 40 then (if 6 - d = 0 then _ else _) else _) = _
          rw [if_pos c4]
          by_cases c : d = 6
          · rw [if_pos (by omega), if_pos c]
          · rw [if_neg (by omega), if_neg c]
        rw [e]
        by_cases c : d = 6
        · simp only [if_pos c] at hdp
          rw [if_pos c]
          have z0 : (0 : Int32) = 0 := rfl
          refine Cal.of rfl (by decide +kernel) (by simp) (Nat.le_of_ble_eq_true rfl) rfl (sX6_readAtom_0 (k := kk) (u1 := 0) (P1 := fun I I' => FC I I' ∧ CE P I' t n m (.inl (4, s.1.2.1))) (P2 := fun _ _ => True) (P3 := fun _ _ => True) (P4 := fun _ _ => True) w ?_ ?_ ?_ ?_ ?_ ?_ ?_ ?_ ?_ ?_ ?_ ?_ ?_) <;> intros <;> (first | exact absurd (by with_reducible assumption) c1 | exact absurd c1 (by with_reducible assumption) | exact absurd (by with_reducible assumption) d1 | exact absurd d1 (by with_reducible assumption) | exact absurd (by with_reducible assumption) d2 | exact absurd d2 (by with_reducible assumption) | exact absurd (by with_reducible assumption) z0 | exact absurd z0 (by with_reducible assumption) | skip)
          · exact hdp
          · rename_i I1 h1 _; exact ⟨rfl, _, rfl, h1⟩
        · simp only [if_neg c] at hdp
          rw [if_neg c]
          have z1 : ¬ (1 : Int32) = 0 := by decide
          refine Cal.of rfl (by decide +kernel) (by simp) (Nat.le_of_ble_eq_true rfl) rfl (sX6_readAtom_0 (k := kk) (u1 := 1) (P1 := fun I I' => FC I I' ∧ CE (P + 1) I' t n m (.inr (xad t n s))) (P2 := fun I I' => FC I I' ∧ CE (P + 1) I' t n m (su (xad t n s))) (P3 := fun I I' => FC I I' ∧ CE (P + 1) I' t n m (xb (su (xad t n s)) (xmust t n 41))) (P4 := fun _ _ => True) w ?_ ?_ ?_ ?_ ?_ ?_ ?_ ?_ ?_ ?_ ?_ ?_ ?_) <;> intros <;> (first | exact absurd (by with_reducible assumption) c1 | exact absurd c1 (by with_reducible assumption) | exact absurd (by with_reducible assumption) d1 | exact absurd d1 (by with_reducible assumption) | exact absurd (by with_reducible assumption) d2 | exact absurd d2 (by with_reducible assumption) | exact absurd (by with_reducible assumption) z1 | exact absurd z1 (by with_reducible assumption) | skip)
          · exact hdp
          · rename_i I1 h1 _
            rw [nI_1]
            have := hs (by omega) (kk + 39 - (50 + 8 * (5 - d))) (P + 1) I1 J R S nx (.inr (xad t n s)) w h1.2
            rw [show kk + 39 - (50 + 8 * (5 - d)) + (50 + 8 * (5 - d)) = kk + 39 by omega] at this
            exact this
          · rename_i I1 h1 _ I2 h2; exact must_k (c := 41) (k := kk + 32) w hG h2.2 (by decide)
          · rename_i I1 h1 _ I2 h2 I3 h3; exact ⟨rfl, _, rfl, (h1.1.t h2.1).t h3.1, h3.2.wk (by omega)⟩
      · have d2 : ¬ I 1 4 = (40 : Int32) := by rw [t40]; exact c4
        have h8 := h.z.2.1
        have hoD := ofD h
        have hoP := ofP h
        cases hq : xw m s.1.2.2.1 with
        | none =>
          have e : xatom t n m (6 - d) su s = .inl (qbl 2 s.1) := by
            unfold xatom; rw [hq]
            show (if s.1.2.2.1 = 40 then _ else _) = _
            rw [if_neg c4, if_neg c6]
          rw [e]
          have hr := refuse_k h
          cases m with
          | false =>
            have d3 : I 1 8 = 0 := h8
            have d4 : v_X6_isOfDegree I = 0 := by rw [hoD]; exact hq
            refine Cal.of rfl (by decide +kernel) (by simp) (Nat.le_of_ble_eq_true rfl) rfl (sX6_readAtom_0 (k := kk) (u1 := 0) (P1 := fun _ _ => True) (P2 := fun _ _ => True) (P3 := fun _ _ => True) (P4 := fun _ _ => True) w ?_ ?_ ?_ ?_ ?_ ?_ ?_ ?_ ?_ ?_ ?_ ?_ ?_) <;> intros <;> (first | exact absurd (by with_reducible assumption) c1 | exact absurd c1 (by with_reducible assumption) | exact absurd (by with_reducible assumption) d1 | exact absurd d1 (by with_reducible assumption) | exact absurd (by with_reducible assumption) d2 | exact absurd d2 (by with_reducible assumption) | exact absurd (by with_reducible assumption) d3 | exact absurd d3 (by with_reducible assumption) | exact absurd (by with_reducible assumption) d4 | exact absurd d4 (by with_reducible assumption) | skip)
            exact ⟨rfl, _, rfl, hr⟩
          | true =>
            have d3 : ¬ I 1 8 = 0 := by rw [h8]; decide
            have d4 : v_X6_isOfPrevails I = 0 := by rw [hoP]; exact hq
            refine Cal.of rfl (by decide +kernel) (by simp) (Nat.le_of_ble_eq_true rfl) rfl (sX6_readAtom_0 (k := kk) (u1 := 0) (P1 := fun _ _ => True) (P2 := fun _ _ => True) (P3 := fun _ _ => True) (P4 := fun _ _ => True) w ?_ ?_ ?_ ?_ ?_ ?_ ?_ ?_ ?_ ?_ ?_ ?_ ?_) <;> intros <;> (first | exact absurd (by with_reducible assumption) c1 | exact absurd c1 (by with_reducible assumption) | exact absurd (by with_reducible assumption) d1 | exact absurd d1 (by with_reducible assumption) | exact absurd (by with_reducible assumption) d2 | exact absurd d2 (by with_reducible assumption) | exact absurd (by with_reducible assumption) d3 | exact absurd d3 (by with_reducible assumption) | exact absurd (by with_reducible assumption) d4 | exact absurd d4 (by with_reducible assumption) | skip)
            exact ⟨rfl, _, rfl, hr⟩
        | some j =>
          have e : xatom t n m (6 - d) su s = .inr (xput (100 + j) (xad t n s)) := by unfold xatom; rw [hq]
          rw [e]
          obtain ⟨w1, w2, w3, w4⟩ := slt_w hq
          have ev : ((1000 : Int32) + I 1 4) - (300 : Int32) = cst m (100 + j) := by
            rw [cst_w (by omega) (by omega), show 100 + j - 100 = j by omega, w1, h.z.1.2.1.1.2.2.1]
            rw [show (1000 : Int32) = nI 1000 from rfl, show (300 : Int32) = nI 300 from rfl, nI_add, pk_sub (show 300 ≤ 1000 + s.1.2.2.1 by omega), show 1000 + s.1.2.2.1 - 300 = 1000 + (s.1.2.2.1 - 300) by omega]
          have last : hX6_readAtom_90 l G kk (fun r μ' => r = .inl none ∧ ∃ I', μ' = (I', J, R, S, nx) ∧ FC I I' ∧ CE P I' t n m (.inr (xput (100 + j) (xad t n s)))) (I, J, R, S, nx) := by
            refine sX6_readAtom_90 (P1 := fun _ I' => FC I I' ∧ CE P I' t n m (.inr (xput (100 + j) (xad t n s)))) w (fun g => h.b10 g) (puta_e (k := kk + 33) w hG ev h (by omega)) (fun I1 h1 => ⟨rfl, _, rfl, h1⟩)
          cases m with
          | false =>
            have d3 : I 1 8 = 0 := h8
            have d4 : ¬ v_X6_isOfDegree I = 0 := by rw [hoD, hq]; exact fun g => by cases g
            refine Cal.of rfl (by decide +kernel) (by simp) (Nat.le_of_ble_eq_true rfl) rfl (sX6_readAtom_0 (k := kk) (u1 := 0) (P1 := fun _ _ => True) (P2 := fun _ _ => True) (P3 := fun _ _ => True) (P4 := fun _ _ => True) w ?_ ?_ ?_ ?_ ?_ ?_ ?_ ?_ ?_ ?_ ?_ ?_ ?_) <;> intros <;> (first | exact absurd (by with_reducible assumption) c1 | exact absurd c1 (by with_reducible assumption) | exact absurd (by with_reducible assumption) d1 | exact absurd d1 (by with_reducible assumption) | exact absurd (by with_reducible assumption) d2 | exact absurd d2 (by with_reducible assumption) | exact absurd (by with_reducible assumption) d3 | exact absurd d3 (by with_reducible assumption) | exact absurd (by with_reducible assumption) d4 | exact absurd d4 (by with_reducible assumption) | skip)
            exact last
          | true =>
            have d3 : ¬ I 1 8 = 0 := by rw [h8]; decide
            have d4 : ¬ v_X6_isOfPrevails I = 0 := by rw [hoP, hq]; exact fun g => by cases g
            refine Cal.of rfl (by decide +kernel) (by simp) (Nat.le_of_ble_eq_true rfl) rfl (sX6_readAtom_0 (k := kk) (u1 := 0) (P1 := fun _ _ => True) (P2 := fun _ _ => True) (P3 := fun _ _ => True) (P4 := fun _ _ => True) w ?_ ?_ ?_ ?_ ?_ ?_ ?_ ?_ ?_ ?_ ?_ ?_ ?_) <;> intros <;> (first | exact absurd (by with_reducible assumption) c1 | exact absurd c1 (by with_reducible assumption) | exact absurd (by with_reducible assumption) d1 | exact absurd d1 (by with_reducible assumption) | exact absurd (by with_reducible assumption) d2 | exact absurd d2 (by with_reducible assumption) | exact absurd (by with_reducible assumption) d3 | exact absurd d3 (by with_reducible assumption) | exact absurd (by with_reducible assumption) d4 | exact absurd d4 (by with_reducible assumption) | skip)
            exact last
theorem unit_k {f u un tr : Ex → Er ⊕ Ex} (hG : GT G) (hx : Tx t n) (hd : d ≤ 6) (hg : Gd t n f) (hsu : RcC l G mX6_readSum (50 + 8 * (6 - d)) t n m d f) (hun : d < 6 → Gd t n un ∧ RcC l G mX6_readUnit (51 + 8 * (5 - d)) t n m (d + 1) un) (htr : d < 6 → RcC l G mX6_readTruth (53 + 8 * (5 - d)) t n m (d + 1) tr)
    (e0 : ∀ s, u s = if s.1.2.2.1 = 313 then (if 6 - d = 0 then .inl (4, s.1.2.1) else xb (un (xad t n s)) (fun s' => .inr (xput 18 s')))
        else if s.1.2.2.1 = 91 then (if 6 - d = 0 then .inl (4, s.1.2.1) else xb (tr (xad t n s)) (xmust t n 93))
        else xb (f s) (fun s1 => if s1.1.2.2.1 = 61 ∨ s1.1.2.2.1 = 60 ∨ s1.1.2.2.1 = 62 then xb (f (xad t n s1)) (fun s' => .inr (xput (if s1.1.2.2.1 = 61 then 13 else if s1.1.2.2.1 = 60 then 14 else 15) s')) else .inl (qbl 2 s1.1))) : RcC l G mX6_readUnit (51 + 8 * (6 - d)) t n m d u := by
  intro k P I J R S nx x w h
  obtain ⟨kk, hkk⟩ : ∃ kk, k + (51 + 8 * (6 - d)) = kk + 40 := ⟨k + 11 + 8 * (6 - d), by omega⟩
  rw [hkk]
  have hi' : ∀ (Q : Nat) (I1 : Nat → Nat → Int32) (y : Er ⊕ Ex), CE Q I1 t n m y → Cal l G (kk + 39) 0 0 mX6_readSum [.ref 1, .int (nI d)] (I1, J, R, S, nx) (fun r μ' => r = .inl none ∧ ∃ I', μ' = (I', J, R, S, nx) ∧ FC I1 I' ∧ CE Q I' t n m (xb y f)) := by
    intro Q I1 y h1
    have := hsu k Q I1 J R S nx y w h1
    rw [show k + (50 + 8 * (6 - d)) = kk + 39 by omega] at this
    exact this
  have z0 : (0 : Int32) = 0 := rfl
  have z1 : ¬ (1 : Int32) = 0 := by decide
  cases x with
  | inl e =>
    have c1 := h.no
    refine Cal.of rfl (by decide +kernel) (by simp) (Nat.le_of_ble_eq_true rfl) rfl (sX6_readUnit_0 (k := kk) (u1 := 0) (u4 := 0) (P1 := fun _ _ => True) (P2 := fun _ _ => True) (P3 := fun _ _ => True) (P4 := fun _ _ => True) (P5 := fun _ _ => True) w ?_ ?_ ?_ ?_ ?_ ?_ ?_ ?_ ?_ ?_ ?_ ?_) <;> intros <;> (first | exact absurd (by with_reducible assumption) c1 | exact absurd c1 (by with_reducible assumption) | skip)
    exact ⟨rfl, _, rfl, F1.rf, h⟩
  | inr s =>
    have c1 := h.yes
    have t313 : (I 1 4 = (313 : Int32)) = (s.1.2.2.1 = 313) := h.tok (c := 313) (by decide)
    have t91 : (I 1 4 = (91 : Int32)) = (s.1.2.2.1 = 91) := h.tok (c := 91) (by decide)
    have hdp := fun h7 => deeper_c (l := l) (k := kk + 32) (J := J) w hG h hd h7
    show Cal l G _ 0 0 mX6_readUnit [.ref 1, .int (nI d)] (I, J, R, S, nx) (fun r μ' => r = .inl none ∧ ∃ I', μ' = (I', J, R, S, nx) ∧ FC I I' ∧ CE P I' t n m (u s))
    rw [e0]
    by_cases c3 : s.1.2.2.1 = 313
    · have d1 : I 1 4 = (313 : Int32) := by rw [t313]; exact c3
      rw [if_pos c3]
      have hdp := hdp (by omega)
      by_cases c : d = 6
      · simp only [if_pos c] at hdp
        rw [if_pos (by omega)]
        refine Cal.of rfl (by decide +kernel) (by simp) (Nat.le_of_ble_eq_true rfl) rfl (sX6_readUnit_0 (k := kk) (u1 := 0) (u4 := 0) (P1 := fun _ _ => True) (P2 := fun _ _ => True) (P3 := fun _ _ => True) (P4 := fun I I' => FC I I' ∧ CE P I' t n m (.inl (4, s.1.2.1))) (P5 := fun _ _ => True) w ?_ ?_ ?_ ?_ ?_ ?_ ?_ ?_ ?_ ?_ ?_ ?_) <;> intros <;> (first | exact absurd (by with_reducible assumption) c1 | exact absurd c1 (by with_reducible assumption) | exact absurd (by with_reducible assumption) d1 | exact absurd d1 (by with_reducible assumption) | exact absurd (by with_reducible assumption) z0 | exact absurd z0 (by with_reducible assumption) | skip)
        · exact hdp
        · rename_i I1 h1 _; exact ⟨rfl, _, rfl, h1⟩
      · simp only [if_neg c] at hdp
        rw [if_neg (by omega)]
        have hun := hun (by omega)
        refine Cal.of rfl (by decide +kernel) (by simp) (Nat.le_of_ble_eq_true rfl) rfl (sX6_readUnit_0 (k := kk) (u1 := 0) (u4 := 1) (P1 := fun _ _ => True) (P2 := fun _ _ => True) (P3 := fun _ _ => True) (P4 := fun I I' => FC I I' ∧ CE (P + 1) I' t n m (.inr (xad t n s))) (P5 := fun I I' => FC I I' ∧ CE (P + 1) I' t n m (un (xad t n s))) w ?_ ?_ ?_ ?_ ?_ ?_ ?_ ?_ ?_ ?_ ?_ ?_) <;> intros <;> (first | exact absurd (by with_reducible assumption) c1 | exact absurd c1 (by with_reducible assumption) | exact absurd (by with_reducible assumption) d1 | exact absurd d1 (by with_reducible assumption) | exact absurd (by with_reducible assumption) z1 | exact absurd z1 (by with_reducible assumption) | skip)
        · exact hdp
        · rename_i I1 h1 _
          rw [nI_1]
          have := hun.2 (kk + 39 - (51 + 8 * (5 - d))) (P + 1) I1 J R S nx (.inr (xad t n s)) w h1.2
          rw [show kk + 39 - (51 + 8 * (5 - d)) + (51 + 8 * (5 - d)) = kk + 39 by omega] at this
          exact this
        · rename_i I1 h1 _ I2 h2 g; exact h2.2.b10 g
        · rename_i I1 h1 _ I2 h2
          have hp := put_e (v := 18) (c := (-9 : Int32)) (by cases m <;> rfl) h2.2
          exact ⟨rfl, _, rfl, (h1.1.t h2.1).t hp.1, hp.2⟩
    · have d1 : ¬ I 1 4 = (313 : Int32) := by rw [t313]; exact c3
      rw [if_neg c3]
      by_cases c9 : s.1.2.2.1 = 91
      · have d2 : I 1 4 = (91 : Int32) := by rw [t91]; exact c9
        rw [if_pos c9]
        have hdp := hdp (by omega)
        by_cases c : d = 6
        · simp only [if_pos c] at hdp
          rw [if_pos (by omega)]
          refine Cal.of rfl (by decide +kernel) (by simp) (Nat.le_of_ble_eq_true rfl) rfl (sX6_readUnit_0 (k := kk) (u1 := 0) (u4 := 0) (P1 := fun I I' => FC I I' ∧ CE P I' t n m (.inl (4, s.1.2.1))) (P2 := fun _ _ => True) (P3 := fun _ _ => True) (P4 := fun _ _ => True) (P5 := fun _ _ => True) w ?_ ?_ ?_ ?_ ?_ ?_ ?_ ?_ ?_ ?_ ?_ ?_) <;> intros <;> (first | exact absurd (by with_reducible assumption) c1 | exact absurd c1 (by with_reducible assumption) | exact absurd (by with_reducible assumption) d1 | exact absurd d1 (by with_reducible assumption) | exact absurd (by with_reducible assumption) d2 | exact absurd d2 (by with_reducible assumption) | exact absurd (by with_reducible assumption) z0 | exact absurd z0 (by with_reducible assumption) | skip)
          · exact hdp
          · rename_i I1 h1 _; exact ⟨rfl, _, rfl, h1⟩
        · simp only [if_neg c] at hdp
          rw [if_neg (by omega)]
          have htr := htr (by omega)
          refine Cal.of rfl (by decide +kernel) (by simp) (Nat.le_of_ble_eq_true rfl) rfl (sX6_readUnit_0 (k := kk) (u1 := 1) (u4 := 0) (P1 := fun I I' => FC I I' ∧ CE (P + 1) I' t n m (.inr (xad t n s))) (P2 := fun I I' => FC I I' ∧ CE (P + 1) I' t n m (tr (xad t n s))) (P3 := fun I I' => FC I I' ∧ CE (P + 1) I' t n m (xb (tr (xad t n s)) (xmust t n 93))) (P4 := fun _ _ => True) (P5 := fun _ _ => True) w ?_ ?_ ?_ ?_ ?_ ?_ ?_ ?_ ?_ ?_ ?_ ?_) <;> intros <;> (first | exact absurd (by with_reducible assumption) c1 | exact absurd c1 (by with_reducible assumption) | exact absurd (by with_reducible assumption) d1 | exact absurd d1 (by with_reducible assumption) | exact absurd (by with_reducible assumption) d2 | exact absurd d2 (by with_reducible assumption) | exact absurd (by with_reducible assumption) z1 | exact absurd z1 (by with_reducible assumption) | skip)
          · exact hdp
          · rename_i I1 h1 _
            rw [nI_1]
            have := htr (kk + 39 - (53 + 8 * (5 - d))) (P + 1) I1 J R S nx (.inr (xad t n s)) w h1.2
            rw [show kk + 39 - (53 + 8 * (5 - d)) + (53 + 8 * (5 - d)) = kk + 39 by omega] at this
            exact this
          · rename_i I1 h1 _ I2 h2; exact must_k (c := 93) (k := kk + 32) w hG h2.2 (by decide)
          · rename_i I1 h1 _ I2 h2 I3 h3; exact ⟨rfl, _, rfl, (h1.1.t h2.1).t h3.1, h3.2.wk (by omega)⟩
      · have d2 : ¬ I 1 4 = (91 : Int32) := by rw [t91]; exact c9
        rw [if_neg c9]
        obtain ⟨g, hgg⟩ : ∃ g : Ex → Er ⊕ Ex, (fun s1 => if s1.1.2.2.1 = 61 ∨ s1.1.2.2.1 = 60 ∨ s1.1.2.2.1 = 62 then xb (f (xad t n s1)) (fun s' => .inr (xput (if s1.1.2.2.1 = 61 then 13 else if s1.1.2.2.1 = 60 then 14 else 15) s')) else .inl (qbl 2 s1.1)) = g := ⟨_, rfl⟩
        rw [hgg]
        have h71 : hX6_readUnit_71 l G kk (fun r μ' => r = .inl none ∧ ∃ I', μ' = (I', J, R, S, nx) ∧ FC I I' ∧ CE P I' t n m (xb (f s) g)) (nI d) (I, J, R, S, nx) := by
          refine sX6_readUnit_71 (P1 := fun I I' => FC I I' ∧ CE P I' t n m (f s)) w (hi' P I (.inr s) h) (fun I1 h1 => ?_)
          -- what is put at last
          have fin : ∀ (y : Er ⊕ Ex) (v : Nat) (sg : Int32) (I3 : Nat → Nat → Int32), FC I I3 → CE (P + 1) I3 t n m (xb y f) → (sg = (61 : Int32) → v = 13) → (¬ sg = (61 : Int32) → sg = (60 : Int32) → v = 14) → (¬ sg = (61 : Int32) → ¬ sg = (60 : Int32) → v = 15) → xb (xb y f) (fun s' => .inr (xput v s')) = xb (f s) g →
              hX6_readUnit_108 l G kk (fun r μ' => r = .inl none ∧ ∃ I', μ' = (I', J, R, S, nx) ∧ FC I I' ∧ CE P I' t n m (xb (f s) g)) sg (I3, J, R, S, nx) := by
            intro y v sg I3 hF3 h3 v1 v2 v3 he
            refine sX6_readUnit_108 w (fun _ _ g => h3.b10 g) ?_ (fun _ _ g => h3.b10 g) ?_ (fun _ g => h3.b10 g) ?_
            · intro n1 n2
              have hp := put_e (v := v) (c := (-6 : Int32)) (by rw [v3 n1 n2]; cases m <;> rfl) h3
              exact ⟨rfl, _, rfl, hF3.t hp.1, he ▸ hp.2⟩
            · intro n1 n2
              have hp := put_e (v := v) (c := (-5 : Int32)) (by rw [v2 n1 n2]; cases m <;> rfl) h3
              exact ⟨rfl, _, rfl, hF3.t hp.1, he ▸ hp.2⟩
            · intro n1
              have hp := put_e (v := v) (c := (-4 : Int32)) (by rw [v1 n1]; cases m <;> rfl) h3
              exact ⟨rfl, _, rfl, hF3.t hp.1, he ▸ hp.2⟩
          cases hfs : f s with
          | inl e =>
            rw [hfs] at h1
            have go : ¬ I1 1 4 = (257 : Int32) → hX6_readUnit_99 l G kk (fun r μ' => r = .inl none ∧ ∃ I', μ' = (I', J, R, S, nx) ∧ FC I I' ∧ CE P I' t n m (xb (f s) g)) (nI d) (I1 1 4) (I1, J, R, S, nx) := by
              intro h7
              refine sX6_readUnit_99 (P1 := fun I I' => FC I I' ∧ CE (P + 1) I' t n m (.inl e)) (P2 := fun I I' => FC I I' ∧ CE (P + 1) I' t n m (.inl e)) w (adv_p (k := kk + 33) (x := .inl e) w hG h1.2 h7) (fun I2 h2 => hi' (P + 1) I2 (.inl e) h2.2) (fun I2 h2 I3 h3 => ?_)
              obtain ⟨v, v1, v2, v3⟩ : ∃ v : Nat, (I1 1 4 = (61 : Int32) → v = 13) ∧ (¬ I1 1 4 = (61 : Int32) → I1 1 4 = (60 : Int32) → v = 14) ∧ (¬ I1 1 4 = (61 : Int32) → ¬ I1 1 4 = (60 : Int32) → v = 15) := by
                by_cases n1 : I1 1 4 = (61 : Int32)
                · exact ⟨13, fun _ => rfl, fun h => absurd n1 h, fun h => absurd n1 h⟩
                · by_cases n2 : I1 1 4 = (60 : Int32)
                  · exact ⟨14, fun h => absurd h n1, fun _ _ => rfl, fun _ h => absurd n2 h⟩
                  · exact ⟨15, fun h => absurd h n1, fun _ h => absurd h n2, fun _ _ => rfl⟩
              exact fin (.inl e) v _ I3 ((h1.1.t h2.1).t h3.1) h3.2 v1 v2 v3 (by rw [hfs]; rfl)
            have hr := refuse_k h1.2
            rw [hfs] at go
            exact sX6_readUnit_76 w (fun g => go (by rw [g]; decide)) (fun _ g => go (by rw [g]; decide)) (fun _ _ _ => ⟨rfl, _, rfl, h1.1.t hr.1, hr.2⟩) (fun _ _ g => go (by rw [g]; decide))
          | inr s1 =>
            rw [hfs] at h1
            have t61 : (I1 1 4 = (61 : Int32)) = (s1.1.2.2.1 = 61) := h1.2.tok (c := 61) (by decide)
            have t60 : (I1 1 4 = (60 : Int32)) = (s1.1.2.2.1 = 60) := h1.2.tok (c := 60) (by decide)
            have t62 : (I1 1 4 = (62 : Int32)) = (s1.1.2.2.1 = 62) := h1.2.tok (c := 62) (by decide)
            rw [hfs] at fin
            by_cases cc : s1.1.2.2.1 = 61 ∨ s1.1.2.2.1 = 60 ∨ s1.1.2.2.1 = 62
            · have eg : g s1 = xb (xb (.inr (xad t n s1)) f) (fun s' => .inr (xput (if s1.1.2.2.1 = 61 then 13 else if s1.1.2.2.1 = 60 then 14 else 15) s')) := by rw [← hgg]; dsimp only; rw [if_pos cc]; rfl
              have go : hX6_readUnit_99 l G kk (fun r μ' => r = .inl none ∧ ∃ I', μ' = (I', J, R, S, nx) ∧ FC I I' ∧ CE P I' t n m (xb (.inr s1) g)) (nI d) (I1 1 4) (I1, J, R, S, nx) := by
                refine sX6_readUnit_99 (P1 := fun I I' => FC I I' ∧ CE (P + 1) I' t n m (.inr (xad t n s1))) (P2 := fun I I' => FC I I' ∧ CE (P + 1) I' t n m (f (xad t n s1))) w (adv_p (k := kk + 33) (x := .inr s1) w hG h1.2 (by rw [show (257 : Int32) = nI 257 from rfl, h1.2.tok (by decide)]; omega)) (fun I2 h2 => hi' (P + 1) I2 (.inr (xad t n s1)) h2.2) (fun I2 h2 I3 h3 => ?_)
                refine fin (.inr (xad t n s1)) _ _ I3 ((h1.1.t h2.1).t h3.1) h3.2 ?_ ?_ ?_ eg.symm
                · rw [t61]; intro n1; rw [if_pos n1]
                · rw [t61, t60]; intro n1 n2; rw [if_neg n1, if_pos n2]
                · rw [t61, t60]; intro n1 n2; rw [if_neg n1, if_neg n2]
              exact sX6_readUnit_76 w (fun _ => go) (fun _ _ => go) (fun n1 n2 n3 => by rw [t61] at n1; rw [t60] at n2; rw [t62] at n3; omega) (fun _ _ _ => go)
            · have eg : g s1 = .inl (qbl 2 s1.1) := by rw [← hgg]; dsimp only; rw [if_neg cc]
              have hr := refuse_k h1.2
              have hr2 : CE P (w_X6_refuse I1) t n m (xb (.inr s1) g) := by show CE P (w_X6_refuse I1) t n m (g s1); rw [eg]; exact hr.2
              refine sX6_readUnit_76 w ?_ ?_ (fun _ _ _ => ⟨rfl, _, rfl, h1.1.t hr.1, hr2⟩) ?_
              · intro n1; rw [t61] at n1; omega
              · intro _ n1; rw [t60] at n1; omega
              · intro _ _ n1; rw [t62] at n1; omega
        refine Cal.of rfl (by decide +kernel) (by simp) (Nat.le_of_ble_eq_true rfl) rfl (sX6_readUnit_0 (k := kk) (u1 := 0) (u4 := 0) (P1 := fun _ _ => True) (P2 := fun _ _ => True) (P3 := fun _ _ => True) (P4 := fun _ _ => True) (P5 := fun _ _ => True) w ?_ ?_ ?_ ?_ ?_ ?_ ?_ ?_ ?_ ?_ ?_ ?_) <;> intros <;> (first | exact absurd (by with_reducible assumption) c1 | exact absurd c1 (by with_reducible assumption) | exact absurd (by with_reducible assumption) d1 | exact absurd d1 (by with_reducible assumption) | exact absurd (by with_reducible assumption) d2 | exact absurd d2 (by with_reducible assumption) | skip)
        exact h71
set_option maxRecDepth 4000 in
theorem lev_k (hG : GT G) (hx : Tx t n) (hF : n < F) : ∀ d, d ≤ 6 → RcC l G mX6_readSum (50 + 8 * d) t n m (6 - d) (xlev t n F m d).1 ∧ RcC l G mX6_readUnit (51 + 8 * d) t n m (6 - d) (xlev t n F m d).2.1 ∧ RcC l G mX6_readTruth (53 + 8 * d) t n m (6 - d) (xlev t n F m d).2.2
  | 0, _ => by
    have ha := atom_k (l := l) (G := G) (t := t) (n := n) (m := m) (d := 6) (su := .inr) hG hx (by decide) (fun h => absurd h (by decide))
    have hgA := xatom_g (m := m) (d := 0) (su := .inr) hx (fun h => absurd rfl h)
    have hgT := xterm_g (F := F) (m := m) (d := 0) (su := .inr) hx (fun h => absurd rfl h)
    have hgS := xsum_g (F := F) (m := m) (d := 0) (su := .inr) hx (fun h => absurd rfl h)
    have hgU := xunit_g (F := F) (m := m) (d := 0) (su := .inr) (un := .inr) (tr := .inr) hx (fun h => absurd rfl h)
    have hgB := xboth_g (F := F) (m := m) (d := 0) (su := .inr) (un := .inr) (tr := .inr) hx (fun h => absurd rfl h)
    have h1 := term_k (F := F) hG hx hF (by decide) hgA ha
    have h2 : RcC l G mX6_readSum 50 t n m 6 (xsum t n F m 0 .inr) := sum_k (F := F) hG hx hF (by decide) hgT h1
    have h3 : RcC l G mX6_readUnit 51 t n m 6 (xunit t n F m 0 .inr .inr .inr) := by
      have e0 : ∀ s, xunit t n F m 0 .inr .inr .inr s = if s.1.2.2.1 = 313 then (if 6 - 6 = 0 then .inl (4, s.1.2.1) else xb ((.inr : Ex → Er ⊕ Ex) (xad t n s)) (fun s' => .inr (xput 18 s')))
        else if s.1.2.2.1 = 91 then (if 6 - 6 = 0 then .inl (4, s.1.2.1) else xb ((.inr : Ex → Er ⊕ Ex) (xad t n s)) (xmust t n 93))
        else xb (xsum t n F m 0 .inr s) (fun s1 => if s1.1.2.2.1 = 61 ∨ s1.1.2.2.1 = 60 ∨ s1.1.2.2.1 = 62 then xb (xsum t n F m 0 .inr (xad t n s1)) (fun s' => .inr (xput (if s1.1.2.2.1 = 61 then 13 else if s1.1.2.2.1 = 60 then 14 else 15) s')) else .inl (qbl 2 s1.1)) := fun s => by unfold xunit; rfl
      obtain ⟨u, hu⟩ : ∃ u, xunit t n F m 0 .inr .inr .inr = u := ⟨_, rfl⟩
      obtain ⟨fs, hfs⟩ : ∃ fs, xsum t n F m 0 .inr = fs := ⟨_, rfl⟩
      rw [hu, hfs] at e0
      rw [hfs] at h2 hgS
      rw [hu]
      exact unit_k (l := l) (G := G) (d := 6) (u := u) (f := fs) (un := .inr) (tr := .inr) hG hx (Nat.le_refl 6) hgS h2 (fun h => absurd h (Nat.lt_irrefl 6)) (fun h => absurd h (Nat.lt_irrefl 6)) e0
    have h4 : RcC l G mX6_readBoth 52 t n m 6 (xboth t n F m 0 .inr .inr .inr) := both_k (F := F) hG hx hF (by decide) hgU h3
    have h5 : RcC l G mX6_readTruth 53 t n m 6 (xtruth t n F m 0 .inr .inr .inr) := truth_k (F := F) hG hx hF (by decide) hgB h4
    exact ⟨h2, h3, h5⟩
  | d + 1, hd => by
    obtain ⟨q1, q2, q3⟩ := lev_k hG hx hF d (by omega)
    obtain ⟨g1, g2, g3⟩ := xlev_g (F := F) m hx d
    have e1 : 6 - (d + 1) + 1 = 6 - d := by omega
    have e2 : 6 - (6 - (d + 1)) = d + 1 := by omega
    have e3 : 5 - (6 - (d + 1)) = d := by omega
    have ha := atom_k (l := l) (G := G) (t := t) (n := n) (m := m) (d := 6 - (d + 1)) (su := (xlev t n F m d).1) hG hx (by omega) (fun h => by rw [e1, e3]; exact q1)
    have hgA := xatom_g (m := m) (d := d + 1) (su := (xlev t n F m d).1) hx (fun h => g1)
    have hgT := xterm_g (F := F) (m := m) (d := d + 1) (su := (xlev t n F m d).1) hx (fun h => g1)
    have hgS := xsum_g (F := F) (m := m) (d := d + 1) (su := (xlev t n F m d).1) hx (fun h => g1)
    have hgU := xunit_g (F := F) (m := m) (d := d + 1) (su := (xlev t n F m d).1) (un := (xlev t n F m d).2.1) (tr := (xlev t n F m d).2.2) hx (fun h => ⟨g1, g2, g3⟩)
    have hgB := xboth_g (F := F) (m := m) (d := d + 1) (su := (xlev t n F m d).1) (un := (xlev t n F m d).2.1) (tr := (xlev t n F m d).2.2) hx (fun h => ⟨g1, g2, g3⟩)
    rw [e2] at ha
    have h1 := term_k (F := F) hG hx hF (by omega) hgA ha
    have h2 : RcC l G mX6_readSum (50 + 8 * (d + 1)) t n m (6 - (d + 1)) (xsum t n F m (d + 1) (xlev t n F m d).1) := by
      have := sum_k (F := F) hG hx hF (by omega) hgT h1
      rw [show 48 + 8 * (d + 1) + 1 + 1 = 50 + 8 * (d + 1) by omega] at this
      exact this
    have h3 : RcC l G mX6_readUnit (51 + 8 * (d + 1)) t n m (6 - (d + 1)) (xunit t n F m (d + 1) (xlev t n F m d).1 (xlev t n F m d).2.1 (xlev t n F m d).2.2) := by
      have := unit_k (l := l) (u := xunit t n F m (d + 1) (xlev t n F m d).1 (xlev t n F m d).2.1 (xlev t n F m d).2.2) (d := 6 - (d + 1)) (un := (xlev t n F m d).2.1) (tr := (xlev t n F m d).2.2) hG hx (by omega) hgS (by rw [e2]; exact h2) (fun h => by rw [e1, e3]; exact ⟨g2, q2⟩) (fun h => by rw [e1, e3]; exact q3) (fun s => by rw [e2]; rfl)
      rw [e2] at this
      exact this
    have h4 := both_k (F := F) hG hx hF (by omega) hgU h3
    have h5 : RcC l G mX6_readTruth (53 + 8 * (d + 1)) t n m (6 - (d + 1)) (xtruth t n F m (d + 1) (xlev t n F m d).1 (xlev t n F m d).2.1 (xlev t n F m d).2.2) := by
      have := truth_k (F := F) hG hx hF (by omega) hgB h4
      rw [show 51 + 8 * (d + 1) + 1 + 1 = 53 + 8 * (d + 1) by omega] at this
      exact this
    exact ⟨h2, h3, h5⟩
end A
