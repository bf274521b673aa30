/-! the class: errands -/
/-- all orders tried -/
def qgc (m : Nat) (d : Nat → Nat → Option Nat) : Nat → List Nat → Nat → Nat → Nat × List Nat → Nat × List Nat
  | 0 => fun ord _ hour best => if best.1 ≤ hour then best else (hour, ord)
  | f + 1 => fun ord done hour best => (List.range m).foldl (fun b i => if done.testBit i then b else match d i hour with
    | none => b
    | some t => qgc m d f (ord ++ [i]) (done ||| 2 ^ i) t b) best
def qg2 (m : Nat) (d : Nat → Nat → Option Nat) (f : Nat) (ord : List Nat) (done hour : Nat) (b : Nat × List Nat) (i : Nat) : Nat × List Nat := if done.testBit i then b else match d i hour with
    | none => b
    | some t => qgc m d f (ord ++ [i]) (done ||| 2 ^ i) t b
theorem qgc_0 (m : Nat) (d : Nat → Nat → Option Nat) (ord : List Nat) (done hour : Nat) (best : Nat × List Nat) : qgc m d 0 ord done hour best = if best.1 ≤ hour then best else (hour, ord) := rfl
theorem qgc_s (m : Nat) (d : Nat → Nat → Option Nat) (f : Nat) (ord : List Nat) (done hour : Nat) (best : Nat × List Nat) : qgc m d (f + 1) ord done hour best = (List.range m).foldl (qg2 m d f ord done hour) best := rfl
theorem qgc_stay {m : Nat} {d : Nat → Nat → Option Nat} (hd : ∀ i h t, d i h = some t → h ≤ t) : ∀ (f : Nat) (ord : List Nat) (done hour : Nat) (best : Nat × List Nat), best.1 ≤ hour → qgc m d f ord done hour best = best
  | 0, ord, done, hour, best, h => by rw [qgc_0, if_pos h]
  | f + 1, ord, done, hour, best, h => by
    rw [qgc_s]
    refine fold_inv (P := fun x => x = best) rfl (fun x i hx => ?_) m
    subst hx
    unfold qg2
    split
    · rfl
    · split
      · rfl
      · rename_i t ht
        exact qgc_stay hd f _ _ _ _ (Nat.le_trans h (hd _ _ _ ht))
theorem fold_eq {α : Type} {g g' : α → Nat → α} {b : α} (h : ∀ x i, g x i = g' x i) : ∀ n, (List.range n).foldl g b = (List.range n).foldl g' b
  | 0 => rfl
  | n + 1 => by rw [foldr_s, foldr_s, fold_eq h n, h]
theorem qgc_go {m : Nat} {d : Nat → Nat → Option Nat} (hd : ∀ i h t, d i h = some t → h ≤ t) : ∀ (f : Nat) (ord : List Nat) (done hour : Nat) (best : Nat × List Nat), qgc m d f ord done hour best = qgo m d f ord done hour best
  | 0, ord, done, hour, best => rfl
  | f + 1, ord, done, hour, best => by
    rw [qgo_s]
    split
    · rename_i h; exact qgc_stay hd _ _ _ _ _ h
    · rw [qgc_s]
      refine fold_eq (fun x i => ?_) m
      unfold qg1 qg2
      split
      · rfl
      · cases hq : d i hour with
        | none => rfl
        | some t => exact qgc_go hd f _ _ _ _
section A
variable {l : Launch} {G : Gh} {k : Nat} {I : Nat → Nat → Int32} {J : Nat → Nat → Int64} {R : Nat → Nat → Option Nat} {S : Nat → Nat × Nat} {nx : Nat} {κ : Nat → Nat} {hb pb : Nat}
/-- the errands taken; whether they are barred, as far as it was looked at -/
def AK (I : Nat → Nat → Int32) (κ : Nat → Nat) (A m : Nat) (n : Nat → Nat) : Prop := I A 2 = nI m ∧ (∀ i, i < m → I (A + 1) i = nI (n i)) ∧ ∀ i j, i < m → j < 896 → I (A + 2) (i * 896 + j) = 0 ∨ I (A + 2) (i * 896 + j) = if qfa κ (n i / 1000) (n i / 100 % 10) j then 1 else 2
def NV (κ : Nat → Nat) (m : Nat) (n : Nat → Nat) : Prop := m ≤ 4 ∧ ∀ i, i < m → n i ≤ 9999 ∧ n i / 100 % 10 < κ 1 ∧ 1 ≤ n i % 100 ∧ n i % 100 ≤ 24
theorem take_a {A t tn m : Nat} {n : Nat → Nat} (wA : AW R S nx A) (ht : t < nx) (hts : (S t).1 = 9) (hr : R t 2 = some tn) (htn : S tn = (101, 30)) (hln : tn < nx) (hm : I t 1 = nI m) (hm4 : m ≤ 4) (hj : ∀ i, i < m → J tn i = lN (n i)) (κ : Nat → Nat) : Cal l G (k + 1) 0 0 mX0_take [.ref A, .ref t] (I, J, R, S, nx) (fun r μ' => r = .inl none ∧ ∃ I', μ' = (I', J, R, S, nx) ∧ Fr [A, A + 1, A + 2] I I' ∧ AK I' κ A m n ∧ I' A 6 = -1) := by
  have w2 : S (A + 2) = (102, 3584) := (wA.2.2.2 (3, 2, 102, 3584) (by decide)).2
  refine Cal.of rfl (by decide +kernel) (by simp) (Nat.le_of_ble_eq_true rfl) rfl (sX0_take_0 ht hts wA ?_)
  have e4 : (if (4 : Int32) < I t 1 then (4 : Int32) else I t 1) = nI m := by
    rw [hm]; exact if_neg (nI_nlt (a := 4) (by omega) (by omega))
  rw [e4]
  refine upto (W := fun i I3 => hX0_take_14 l G k _ A t (nI i) (I3, J, R, S, nx)) (P := fun i I3 => Fr [A, A + 1, A + 2] I I3 ∧ I3 A 2 = nI m ∧ ∀ j, j < i → I3 (A + 1) j = nI (n j)) m ?_ ?_ (i := 0) (Nat.zero_le _) ⟨Fr.rf.up (by simp), by simp [up2], fun j hj => absurd hj (Nat.not_lt_zero _)⟩
  · intro I3 ⟨hF, h2, h3⟩
    have c1 : I3 A 2 ≤ nI m := by rw [h2]; exact nI_le (Nat.le_refl _) (by omega)
    refine sX0_take_14 (P1 := fun I I' => Fr [A + 2] I I' ∧ ∀ j, j < 3584 → I' (A + 2) j = 0) htn hln ht hr hts wA ?_ ?_ ?_ ?_ ?_ <;> intros <;> (first | exact absurd (by with_reducible assumption) c1 | exact absurd c1 (by with_reducible assumption) | skip)
    · exact fill_b w2 (Nat.lt_of_lt_of_le (Nat.add_lt_add_left (by decide) _) wA.1) (by decide)
    · rename_i I4 h4
      refine ⟨rfl, _, rfl, (hF.tr (r3 := [A, A + 1, A + 2]) h4.1 (by simp)).up (by simp), ⟨?_, fun i hi => ?_, fun i j hi hj => ?_⟩, by simp [up2]⟩
      · simp only [up2, if_true]
        rw [if_neg (by decide), h4.1 A (by simp)]; exact h2
      · simp only [up2, if_neg (show ¬ A + 1 = A by omega)]
        rw [h4.1 (A + 1) (by simp)]; exact h3 i hi
      · left
        simp only [up2, if_neg (show ¬ A + 2 = A by omega)]
        exact h4.2 _ (by omega)
  · intro i I3 hi ⟨hF, h2, h3⟩ ih
    have c1 : ¬ I3 A 2 ≤ nI i := by rw [h2]; exact nI_ge hi (by omega)
    refine sX0_take_14 (P1 := fun I I' => True) htn hln ht hr hts wA ?_ ?_ ?_ ?_ ?_ <;> intros <;> (first | exact absurd (by with_reducible assumption) c1 | exact absurd c1 (by with_reducible assumption) | skip)
    · exact vp_in_nI (by omega) (by decide)
    · exact vp_in_nI (by omega) (by decide)
    · rw [nI_clamp (by omega), hj i hi, lN_i, nI_1]
      refine ih _ ⟨hF.up (by simp), ?_, fun j hj => ?_⟩
      · simp only [up2, if_neg (show ¬ A = A + 1 by omega)]; exact h2
      · by_cases c : j = i
        · subst c; simp [up2]
        · simp only [up2, if_true, if_neg c]; exact h3 j (by omega)
theorem AK.fr {A m : Nat} {n : Nat → Nat} {rs : List Nat} {I' : Nat → Nat → Int32} (h : AK I κ A m n) (hF : Fr rs I I') (h0 : A ∉ rs) (h1 : A + 1 ∉ rs) (h2 : A + 2 ∉ rs) : AK I' κ A m n := ⟨by rw [hF _ h0]; exact h.1, fun i hi => by rw [hF _ h1]; exact h.2.1 i hi, fun i j hi hj => by rw [hF _ h2]; exact h.2.2 i j hi hj⟩
theorem isBarred_a {m i j : Nat} {n : Nat → Nat} {L dl pl ld lp : Nat} (w : CF R S nx) (wL : R 14 0 = some L) (wl : LW R S nx L dl pl ld lp) (h : CK I κ L dl pl ld lp) (ho : qok hb pb κ) (hhb : hb < 2 ^ 29) {A : Nat} (wA : AW R S nx A) (ap : AP A 5 L dl pl) (hv : NV κ m n) (hA : AK I κ A m n) (hi : i < m) (hj : j < 896) : Cal l G (k + 3) 0 0 mX0_isBarred [.ref A, .int (nI i), .int (nI j)] (I, J, R, S, nx) (fun r μ' => r = .inl (some (.int (if qfa κ (n i / 1000) (n i / 100 % 10) j then 0 else 1))) ∧ ∃ I', μ' = (I', J, R, S, nx) ∧ Fr [27, 28, 29, A + 2] I I' ∧ CK I' κ L dl pl ld lp ∧ AK I' κ A m n) := by
  have h54 : κ 54 ≤ hb := ho.2.2.2.2.2.2.2.2.2.2.1
  have h1w := ho.1
  have hA0 := ap.1
  obtain ⟨m4, hn⟩ := hv
  obtain ⟨n1, n2, n3, n4⟩ := hn i hi
  obtain ⟨N, hN⟩ : ∃ N, n i = N := ⟨_, rfl⟩
  rw [hN] at n1 n2 n3 n4
  have ei : nI i * (896 : Int32) + nI j = nI (i * 896 + j) := by rw [show (896 : Int32) = nI 896 from rfl, pk_mul, nI_add]
  have e1 : I (A + 1) (nI i).toNatClampNeg = nI N := by rw [nI_clamp (by omega), hA.2.1 i hi, hN]
  have c1 : nI j < (896 : Int32) := nI_lt (b := 896) hj (by decide)
  have g1 : nI N / (1000 : Int32) = nI (N / 1000) := pk_div (d := 1000) (by omega) (by decide) (by decide)
  have g2 : nI N / (100 : Int32) - nI N / (100 : Int32) / (10 : Int32) * (10 : Int32) = nI (N / 100 % 10) := by
    rw [show nI N / (100 : Int32) = nI (N / 100) from pk_div (d := 100) (by omega) (by decide) (by decide)]; exact pk_rem (d := 10) (by omega) (by decide) (by decide)
  rw [hN]
  obtain ⟨b, hb2⟩ : ∃ b, qfa κ (N / 1000) (N / 100 % 10) j = b := ⟨_, rfl⟩
  have hca := hA.2.2 i j hi hj
  rw [hN, hb2] at hca
  rw [hb2]
  have hac := qac_lt ho (N / 1000)
  have hcl := qcd_lt ho (N / 1000) (N / 100 % 10) (κ 54 + j) 0
  have fin : ∀ I3, Fr [27, 28, 29, A + 2] I I3 → CK I3 κ L dl pl ld lp → AK I3 κ A m n → I3 (A + 2) (i * 896 + j) = (if b then 1 else 2) → hX0_isBarred_111 l G k (fun r μ' => r = .inl (some (.int (if b then 0 else 1))) ∧ ∃ I', μ' = (I', J, R, S, nx) ∧ Fr [27, 28, 29, A + 2] I I' ∧ CK I' κ L dl pl ld lp ∧ AK I' κ A m n) A (nI (i * 896 + j)) (I3, J, R, S, nx) := by
    intro I3 q1 q2 q3 q4
    refine sX0_isBarred_111 wA (vp_in_nI (by omega) (by decide)) ?_ ?_
    · intro g; rw [nI_clamp (by omega), q4] at g
      refine ⟨?_, _, rfl, q1, q2, q3⟩
      cases b with
      | true => rfl
      | false => exact absurd rfl g
    · intro g; rw [nI_clamp (by omega), q4] at g
      refine ⟨?_, _, rfl, q1, q2, q3⟩
      cases b with
      | true => exact absurd g (by decide)
      | false => rfl
  have upd : ∀ I3, Fr [27, 28, 29] I I3 → CK I3 κ L dl pl ld lp → hX0_isBarred_111 l G k (fun r μ' => r = .inl (some (.int (if b then 0 else 1))) ∧ ∃ I', μ' = (I', J, R, S, nx) ∧ Fr [27, 28, 29, A + 2] I I' ∧ CK I' κ L dl pl ld lp ∧ AK I' κ A m n) A (nI (i * 896 + j)) ((up2 I3 (A + 2) (i * 896 + j) (if b then 1 else 2)), J, R, S, nx) := by
    intro I3 q1 q2
    refine fin _ ((q1.wk (by simp)).up (by simp)) (q2.dy ap (by omega)) ⟨?_, fun i' hi' => ?_, fun i' j' hi' hj' => ?_⟩ (by simp [up2])
    · simp only [up2, if_neg (show ¬ A = A + 2 by omega)]; rw [q1 A (by simp; omega)]; exact hA.1
    · simp only [up2, if_neg (show ¬ A + 1 = A + 2 by omega)]; rw [q1 (A + 1) (by simp; omega)]; exact hA.2.1 i' hi'
    · by_cases c : i' * 896 + j' = i * 896 + j
      · have : i' = i ∧ j' = j := by omega
        obtain ⟨rfl, rfl⟩ := this
        right; rw [hN, hb2]; simp [up2]
      · simp only [up2, if_true, if_neg c]; rw [q1 (A + 2) (by simp; omega)]; exact hA.2.2 i' j' hi' hj'
  refine Cal.of rfl (by decide +kernel) (by simp) (Nat.le_of_ble_eq_true rfl) rfl (sX0_isBarred_0 (u1 := nI (qac κ (N / 1000))) (u2 := nI (qdeg κ (N / 100 % 10) (κ 54 + j))) (u3 := nI (qcd κ (N / 1000) (N / 100 % 10) (κ 54 + j) 0)) (P1 := fun I I' => I' = I) (P2 := fun I I' => Fr [27, 28] I I' ∧ CK I' κ L dl pl ld lp) (P3 := fun I I' => Fr [27, 28, 29] I I' ∧ CK I' κ L dl pl ld lp) w wA ?_ ?_ ?_ ?_ ?_ ?_ ?_ ?_ ?_ ?_ ?_ ?_) <;> intros <;> (first | exact absurd (by with_reducible assumption) c1 | exact absurd c1 (by with_reducible assumption) | skip)
  · rw [ei]; exact vp_in_nI (by omega) (by decide)
  · rename_i g; rw [ei, nI_clamp (by omega)] at g
    rw [ei]
    rcases hca with q | q
    · exact absurd q g
    · exact fin I Fr.rf h hA q
  · exact vp_in_nI (by omega) (by decide)
  · exact vp_in_nI (by omega) (by decide)
  · rw [e1, g1]; exact actsOf_c (k := k + 1) w wL wl h ho hhb (by omega)
  · rename_i I1 h1; subst h1
    rw [e1, g2, h.1.h.1, nI_add]; exact degreeIn_c (k := k) w wL wl h ho hhb (by omega) (by omega)
  · rename_i I1 h1 I2 h2; subst h1
    rw [e1, g2, h.1.h.1, nI_add, ← qcd_ac0]
    exact inForce_c w wL wl h2.2 ho hhb (by omega) (by omega) (qdeg_le _ _ _) (by omega)
  · rw [ei]; exact vp_in_nI (by omega) (by decide)
  · rename_i I1 h1 I2 h2 I3 h3 g; subst h1
    have eb : b = false := by
      rw [← hb2]; unfold qfa qfr; exact decide_eq_false_iff_not.mpr (fun q => g (by rw [q]; rfl))
    have := upd I3 (h2.1.tr h3.1 (by decide)) h3.2
    rw [eb] at this ⊢
    rw [ei, nI_clamp (by omega)]; exact this
  · rw [ei]; exact vp_in_nI (by omega) (by decide)
  · rename_i I1 h1 I2 h2 I3 h3 g; subst h1
    have eb : b = true := by
      rw [← hb2]; unfold qfa qfr; exact decide_eq_true_eq.mpr ((nI_eq (b := 0) (by omega) (by decide)).mp g)
    have := upd I3 (h2.1.tr h3.1 (by decide)) h3.2
    rw [eb] at this ⊢
    rw [ei, nI_clamp (by omega)]; exact this
theorem endOf_a {m i hh : Nat} {n : Nat → Nat} {L dl pl ld lp : Nat} (w : CF R S nx) (wL : R 14 0 = some L) (wl : LW R S nx L dl pl ld lp) (h : CK I κ L dl pl ld lp) (ho : qok hb pb κ) (hhb : hb < 2 ^ 29) {A : Nat} (wA : AW R S nx A) (ap : AP A 5 L dl pl) (hv : NV κ m n) (hA : AK I κ A m n) (hi : i < m) (hh2 : hh ≤ 672) : Cal l G (k + 4) 0 0 mX0_endOf [.ref A, .int (nI i), .int (nI hh)] (I, J, R, S, nx) (fun r μ' => r = .inl (some (.int (jP (qdo κ (n i) hh)))) ∧ ∃ I', μ' = (I', J, R, S, nx) ∧ Fr [27, 28, 29, A + 2] I I' ∧ CK I' κ L dl pl ld lp ∧ AK I' κ A m n) := by
  obtain ⟨m4, hn⟩ := id hv
  obtain ⟨n1, n2, n3, n4⟩ := hn i hi
  have e1 : I (A + 1) (nI i).toNatClampNeg = nI (n i) := by rw [nI_clamp (by omega), hA.2.1 i hi]
  have hm := qms_le (κ := κ) n3
  have hm1 := qms_1 (κ := κ) n3
  have g3 : nI (n i) - nI (n i) / (100 : Int32) * (100 : Int32) = nI (n i % 100) := pk_rem (d := 100) (by omega) (by decide) (by decide)
  obtain ⟨c, hc⟩ : ∃ c, qms κ (n i % 100) = c := ⟨_, rfl⟩
  obtain ⟨ls, hls⟩ : ∃ ls, n i % 100 = ls := ⟨_, rfl⟩
  obtain ⟨p, hp⟩ : ∃ p, qfa κ (n i / 1000) (n i / 100 % 10) = p := ⟨_, rfl⟩
  rw [show qdo κ (n i) hh = (qso p hh c).map (fun t => t + ls) by unfold qdo; rw [hp, hc, hls]]
  rw [hc] at hm hm1
  refine Cal.of rfl (by decide +kernel) (by simp) (Nat.le_of_ble_eq_true rfl) rfl (sX0_endOf_0 (u1 := nI c) (P1 := fun I I' => I' = I) w wA (vp_in_nI (by omega) (by decide)) ?_ ?_)
  · rw [e1, g3, ← hc]; exact measured_c w wL wl h ho hhb
  intro I1 h1
  subst h1
  rw [e1, g3, hls]
  rw [hls] at hm n3 n4
  have e2 : nI hh + (200 : Int32) + nI c = nI (hh + (200 + c)) := by rw [show (200 : Int32) = nI 200 from rfl, nI_add, nI_add, Nat.add_assoc]
  refine upto (W := fun j (s : Nat × (Nat → Nat → Int32)) => hX0_endOf_26 l G k _ A (nI i) (nI hh) (nI ls) (nI c) (nI s.1) (nI (hh + j)) (s.2, J, R, S, nx)) (P := fun j s => Rw p hh c j s.1 ∧ Fr [27, 28, 29, A + 2] I1 s.2 ∧ CK s.2 κ L dl pl ld lp ∧ AK s.2 κ A m n) (200 + c) ?_ ?_ (i := 0) (s := (0, I1)) (Nat.zero_le _) ⟨Rw.z hm1, Fr.rf, h, hA⟩
  · intro ⟨r, I3⟩ ⟨hr, hF, hK, hA3⟩
    dsimp only at hr hF hK hA3 ⊢
    have c1 : nI hh + (200 : Int32) + nI c ≤ nI (hh + (200 + c)) := by rw [e2]; exact nI_le (Nat.le_refl _) (by omega)
    refine sX0_endOf_26 (u1 := 0) (P1 := fun _ _ => True) wA ?_ ?_ ?_ ?_ <;> intros <;> (first | exact absurd (by with_reducible assumption) c1 | exact absurd c1 (by with_reducible assumption) | skip)
    exact ⟨by rw [hr.end]; rfl, _, rfl, hF, hK, hA3⟩
  · intro j ⟨r, I3⟩ hj ⟨hr, hF, hK, hA3⟩ ih
    dsimp only at hr hF hK hA3 ⊢
    have c1 : ¬ nI hh + (200 : Int32) + nI c ≤ nI (hh + j) := by rw [e2]; exact nI_ge (by omega) (by omega)
    have hrl := hr.2.1
    have hrc := hr.1
    refine sX0_endOf_26 (u1 := if p (hh + j) then 0 else 1) (P1 := fun I I' => Fr [27, 28, 29, A + 2] I I' ∧ CK I' κ L dl pl ld lp ∧ AK I' κ A m n) wA ?_ ?_ ?_ ?_ <;> intros <;> (first | exact absurd (by with_reducible assumption) c1 | exact absurd c1 (by with_reducible assumption) | skip)
    · rw [← hp]; exact isBarred_a w wL wl hK ho hhb wA ap hv hA3 hi (by omega)
    · rename_i I4 h4 g
      have hp1 : p (hh + j) = true := by
        cases q : p (hh + j) with
        | true => rfl
        | false => rw [q] at g; exact absurd g (by decide)
      rw [nI_1]
      refine sX0_endOf_57 wA ?_ ?_
      · intro g2
        rw [nI_1, Nat.add_assoc]
        exact ih (r + 1, I4) ⟨hr.go hp1 (fun q => g2 (by rw [q])), hF.tr h4.1 (by simp), h4.2⟩
      · intro g2
        have g2 := (nI_eq (by omega) (by omega)).mp g2
        refine ⟨?_, _, rfl, hF.tr h4.1 (by simp), h4.2⟩
        rw [hr.yes hp1 g2 hj, nI_1, pk_sub (by omega), nI_add]
        show Sum.inl (some (Value.int (nI _))) = Sum.inl (some (Value.int (nI _)))
        rw [show hh + j + 1 - c + ls = hh + (j + 1 - c) + ls by omega]
    · rename_i I4 h4 g
      have hp0 : p (hh + j) = false := by
        cases q : p (hh + j) with
        | false => rfl
        | true => rw [q] at g; exact absurd rfl g
      refine sX0_endOf_57 (s0 := nI 0) wA ?_ ?_
      · intro g2
        rw [nI_1, Nat.add_assoc]
        exact ih (0, I4) ⟨hr.no hp0, hF.tr h4.1 (by simp), h4.2⟩
      · intro g2
        exact absurd ((nI_eq (by omega) (by omega)).mp g2) (by omega)
theorem endInOrder_a {m : Nat} {n : Nat → Nat} {L dl pl ld lp : Nat} (w : CF R S nx) (wL : R 14 0 = some L) (wl : LW R S nx L dl pl ld lp) (h : CK I κ L dl pl ld lp) (ho : qok hb pb κ) (hhb : hb < 2 ^ 29) {A : Nat} (wA : AW R S nx A) (ap : AP A 5 L dl pl) (hv : NV κ m n) (hA : AK I κ A m n) : Cal l G (k + 5) 0 0 mX0_endInOrder [.ref A] (I, J, R, S, nx) (fun r μ' => r = .inl (some (.int (jP (qers (fun i h => qdo κ (n i) h) m)))) ∧ ∃ I', μ' = (I', J, R, S, nx) ∧ Fr [27, 28, 29, A + 2] I I' ∧ CK I' κ L dl pl ld lp) := by
  obtain ⟨m4, hn⟩ := id hv
  obtain ⟨d, hd⟩ : ∃ d, (fun i h => qdo κ (n i) h) = d := ⟨_, rfl⟩
  have hdi : ∀ i h, qdo κ (n i) h = d i h := fun i h => congrFun (congrFun hd i) h
  have hdl : ∀ i h t, i < m → d i h = some t → t ≤ h + 224 := fun i h t hi e => by rw [← hdi] at e; exact (qdo_le ⟨(hn i hi).2.2.1, (hn i hi).2.2.2⟩ e).2
  rw [hd]
  refine Cal.of rfl (by decide +kernel) (by simp) (Nat.le_of_ble_eq_true rfl) rfl (sX0_endInOrder_0 wA ?_)
  refine upto (W := fun j (s : Option Nat × (Nat → Nat → Int32)) => hX0_endInOrder_4 l G k _ A (jP s.1) (nI j) (s.2, J, R, S, nx)) (P := fun j s => s.1 = qers d j ∧ Fr [27, 28, 29, A + 2] I s.2 ∧ CK s.2 κ L dl pl ld lp ∧ AK s.2 κ A m n) m ?_ ?_ (i := 0) (s := (some 0, I)) (Nat.zero_le _) ⟨rfl, Fr.rf, h, hA⟩
  · intro ⟨o, I3⟩ ⟨he, hF, hK, hA3⟩
    dsimp only at he hF hK hA3 ⊢
    have c1 : I3 A 2 ≤ nI m := by rw [hA3.1]; exact nI_le (Nat.le_refl _) (by omega)
    refine sX0_endInOrder_4 (u1 := 0) (P1 := fun _ _ => True) wA ?_ ?_ ?_ ?_ <;> intros <;> (first | exact absurd (by with_reducible assumption) c1 | exact absurd c1 (by with_reducible assumption) | skip)
    exact ⟨by rw [he], _, rfl, hF, hK⟩
  · intro i ⟨o, I3⟩ hi ⟨he, hF, hK, hA3⟩ ih
    dsimp only at he hF hK hA3 ⊢
    have c1 : ¬ I3 A 2 ≤ nI i := by rw [hA3.1]; exact nI_ge hi (by omega)
    cases o with
    | none =>
      have c2 : jP none = (-1 : Int32) := rfl
      refine sX0_endInOrder_4 (u1 := 0) (P1 := fun _ _ => True) wA ?_ ?_ ?_ ?_ <;> intros <;> (first | exact absurd (by with_reducible assumption) c1 | exact absurd c1 (by with_reducible assumption) | exact absurd (by with_reducible assumption) c2 | exact absurd c2 (by with_reducible assumption) | skip)
      have := qers_none he.symm (m - i)
      rw [show i + (m - i) = m by omega] at this
      exact ⟨by rw [this], _, rfl, hF, hK⟩
    | some hh =>
      have hl := qers_le hdl i hh (by omega) he.symm
      have c2 : ¬ jP (some hh) = (-1 : Int32) := jP_m1 (by omega)
      refine sX0_endInOrder_4 (u1 := jP (d i hh)) (P1 := fun I I' => Fr [27, 28, 29, A + 2] I I' ∧ CK I' κ L dl pl ld lp ∧ AK I' κ A m n) wA ?_ ?_ ?_ ?_ <;> intros <;> (first | exact absurd (by with_reducible assumption) c1 | exact absurd c1 (by with_reducible assumption) | exact absurd (by with_reducible assumption) c2 | exact absurd c2 (by with_reducible assumption) | skip)
      · rw [← hdi]; exact endOf_a w wL wl hK ho hhb wA ap hv hA3 hi (by omega)
      · rename_i I4 h4
        rw [nI_1]
        exact ih (d i hh, I4) ⟨by rw [qers_s, ← he], hF.tr h4.1 (by simp), h4.2⟩
/-- the best order so far -/
def BO (I : Nat → Nat → Int32) (A m : Nat) (b : Nat × List Nat) : Prop := (b.1 = 536870912 ∧ I A 6 = -1) ∨ (b.1 < 2 ^ 20 ∧ I A 6 = nI b.1 ∧ ∀ j, j < m → I (A + 4) j = nI (b.2[j]?.getD 0))
theorem BO.fr {A m : Nat} {b : Nat × List Nat} {rs : List Nat} {I' : Nat → Nat → Int32} (h : BO I A m b) (hF : Fr rs I I') (h0 : A ∉ rs) (h4 : A + 4 ∉ rs) : BO I' A m b := by
  unfold BO; rw [hF _ h0, hF _ h4]; exact h
theorem tryOrders_a {m : Nat} {n : Nat → Nat} {L dl pl ld lp A : Nat} (w : CF R S nx) (wL : R 14 0 = some L) (wl : LW R S nx L dl pl ld lp) (ho : qok hb pb κ) (hhb : hb < 2 ^ 29) (wA : AW R S nx A) (ap : AP A 5 L dl pl) (hv : NV κ m n) : ∀ (f k : Nat) (I : Nat → Nat → Int32) (ord : List Nat) (done hh : Nat) (b : Nat × List Nat), CK I κ L dl pl ld lp → AK I κ A m n → ord.length + f = m → hh ≤ 224 * ord.length → done < 16 → (∀ j, j < ord.length → I (A + 3) j = nI (ord[j]?.getD 0)) → BO I A m b →
    Cal l G (k + f + 40) 0 0 mX0_tryOrders [.ref A, .int (nI ord.length), .int (nI hh), .int (nI done)] (I, J, R, S, nx) (fun r μ' => r = .inl none ∧ ∃ I', μ' = (I', J, R, S, nx) ∧ Fr [27, 28, 29, A, A + 2, A + 3, A + 4] I I' ∧ CK I' κ L dl pl ld lp ∧ AK I' κ A m n ∧ BO I' A m (qgc m (fun i h => qdo κ (n i) h) f ord done hh b) ∧ ∀ j, j < ord.length → I' (A + 3) j = nI (ord[j]?.getD 0)) := by
  have hA0 := ap.1
  obtain ⟨m4, hn⟩ := id hv
  obtain ⟨d, hd⟩ : ∃ d, (fun i h => qdo κ (n i) h) = d := ⟨_, rfl⟩
  have hdi : ∀ i h, qdo κ (n i) h = d i h := fun i h => congrFun (congrFun hd i) h
  have hdl : ∀ i h t, i < m → d i h = some t → t ≤ h + 224 := fun i h t hi e => by rw [← hdi] at e; exact (qdo_le ⟨(hn i hi).2.2.1, (hn i hi).2.2.2⟩ e).2
  rw [hd]
  intro f
  induction f with
  | zero =>
    intro k I ord done hh b hK hA hlen hhl hdn hord hB
    have c1 : ¬ nI ord.length < I A 2 := by rw [hA.1]; exact nI_nlt (by omega) (by omega)
    rw [qgc_0]
    have put : ¬ b.1 ≤ hh → hX0_tryOrders_24 l G k (fun r μ' => r = .inl none ∧ ∃ I', μ' = (I', J, R, S, nx) ∧ Fr [27, 28, 29, A, A + 2, A + 3, A + 4] I I' ∧ CK I' κ L dl pl ld lp ∧ AK I' κ A m n ∧ BO I' A m (if b.1 ≤ hh then b else (hh, ord)) ∧ ∀ j, j < ord.length → I' (A + 3) j = nI (ord[j]?.getD 0)) A (nI hh) (I, J, R, S, nx) := by
      intro g
      rw [if_neg g]
      have ne : ∀ q, q ≠ A → q ≠ A + 4 → upC (up2 I A 6 (nI hh)) (A + 3) (A + 4) 0 0 4 q = I q := fun q q1 q2 => by
        rw [upC_ne q2]; funext j; simp [up2, q1]
      have e0 : ∀ j, upC (up2 I A 6 (nI hh)) (A + 3) (A + 4) 0 0 4 A j = if j = 6 then nI hh else I A j := fun j => by
        rw [upC_ne (by omega)]; simp [up2]
      refine sX0_tryOrders_24 wA ⟨rfl, _, rfl, fun a ha => ne a (fun e => ha (by rw [e]; simp)) (fun e => ha (by rw [e]; simp)), hK.ag (fun q hq => ne q (by obtain ⟨a0, a1, a2, a3⟩ := ap; omega) (by obtain ⟨a0, a1, a2, a3⟩ := ap; omega)), ⟨?_, fun i hi => ?_, fun i j hi hj => ?_⟩, Or.inr ⟨by show hh < _; omega, ?_, fun j hj => ?_⟩, fun j hj => ?_⟩
      · rw [e0, if_neg (by decide)]; exact hA.1
      · rw [ne _ (by omega) (by omega)]; exact hA.2.1 i hi
      · rw [ne _ (by omega) (by omega)]; exact hA.2.2 i j hi hj
      · rw [e0, if_pos rfl]
      · rw [upC_at (by omega)]
        simp only [up2, if_neg (show ¬ A + 3 = A by omega)]; exact hord j (by omega)
      · rw [ne _ (by omega) (by omega)]; exact hord j hj
    refine Cal.of rfl (by decide +kernel) (by simp) (Nat.le_of_ble_eq_true rfl) rfl (sX0_tryOrders_0 wA ?_ ?_ ?_ ?_) <;> intros <;> (first | exact absurd (by with_reducible assumption) c1 | exact absurd c1 (by with_reducible assumption) | skip)
    · rename_i g
      rcases hB with q | q
      · exact put (by omega)
      · rw [q.2.1] at g; exact absurd g (nI_nm1 (by omega))
    · rename_i g1 g2
      rcases hB with q | q
      · exact absurd q.2 g1
      · rw [q.2.1, nI_leI (by omega) (by omega)] at g2
        rw [if_pos g2]
        exact ⟨rfl, _, rfl, Fr.rf, hK, hA, Or.inr q, hord⟩
    · rename_i g1 g2
      rcases hB with q | q
      · exact absurd q.2 g1
      · rw [q.2.1, nI_leI (by omega) (by omega)] at g2
        exact put g2
  | succ f ihf =>
    intro k I ord done hh b hK hA hlen hhl hdn hord hB
    have c1 : nI ord.length < I A 2 := by rw [hA.1]; exact nI_lt (by omega) (by omega)
    have hol : ord.length ≤ 3 := by omega
    rw [qgc_s]
    obtain ⟨g, hg⟩ : ∃ g, qg2 m d f ord done hh = g := ⟨_, rfl⟩
    have hgi : ∀ x i, qg2 m d f ord done hh x i = g x i := fun x i => congrFun (congrFun hg x) i
    rw [hg]
    refine Cal.of rfl (by decide +kernel) (by simp) (Nat.le_of_ble_eq_true rfl) rfl (sX0_tryOrders_0 (k := k + (f + 1)) wA ?_ ?_ ?_ ?_) <;> intros <;> (first | exact absurd (by with_reducible assumption) c1 | exact absurd c1 (by with_reducible assumption) | skip)
    refine upto (W := fun i (s : (Nat × List Nat) × (Nat → Nat → Int32)) => hX0_tryOrders_47 l G (k + (f + 1)) _ A (nI ord.length) (nI hh) (nI done) (nI i) (s.2, J, R, S, nx)) (P := fun i s => s.1 = (List.range i).foldl g b ∧ Fr [27, 28, 29, A, A + 2, A + 3, A + 4] I s.2 ∧ CK s.2 κ L dl pl ld lp ∧ AK s.2 κ A m n ∧ BO s.2 A m s.1 ∧ ∀ j, j < ord.length → s.2 (A + 3) j = nI (ord[j]?.getD 0)) m ?_ ?_ (i := 0) (s := (b, I)) (Nat.zero_le _) ⟨rfl, Fr.rf, hK, hA, hB, hord⟩
    · intro ⟨bb, I3⟩ ⟨he, hF, hK3, hA3, hB3, ho3⟩
      dsimp only at he hF hK3 hA3 hB3 ho3 ⊢
      have c2 : I3 A 2 ≤ nI m := by rw [hA3.1]; exact nI_le (Nat.le_refl _) (by omega)
      refine sX0_tryOrders_47 (u1 := 0) (P1 := fun _ _ => True) wA ?_ ?_ ?_ ?_ <;> intros <;> (first | exact absurd (by with_reducible assumption) c2 | exact absurd c2 (by with_reducible assumption) | skip)
      rw [he] at hB3
      exact ⟨rfl, _, rfl, hF, hK3, hA3, hB3, ho3⟩
    · intro i ⟨bb, I3⟩ hi ⟨he, hF, hK3, hA3, hB3, ho3⟩ ih
      dsimp only at he hF hK3 hA3 hB3 ho3 ⊢
      have c2 : ¬ I3 A 2 ≤ nI i := by rw [hA3.1]; exact nI_ge hi (by omega)
      have eb := bit_n (s := done) (i := i) (by omega) (by omega)
      by_cases cb : done.testBit i = true
      · have c3 : ¬ ((nI done >>> (nI i &&& 31)) &&& (1 : Int32)) = 0 := by rw [eb]; exact not_not_intro cb
        refine sX0_tryOrders_47 (u1 := 0) (P1 := fun _ _ => True) wA ?_ ?_ ?_ ?_ <;> intros <;> (first | exact absurd (by with_reducible assumption) c2 | exact absurd c2 (by with_reducible assumption) | exact absurd (by with_reducible assumption) c3 | exact absurd c3 (by with_reducible assumption) | skip)
        have c4 : (-1 : Int32) = (-1 : Int32) := rfl
        refine sX0_tryOrders_76 (P1 := fun _ _ => True) wA ?_ ?_ ?_ ?_ <;> intros <;> (first | exact absurd (by with_reducible assumption) c4 | exact absurd c4 (by with_reducible assumption) | skip)
        rw [nI_1]
        have eg : g bb i = bb := by rw [← hgi]; unfold qg2; rw [if_pos cb]
        exact ih (bb, I3) ⟨by rw [foldr_s, ← he, eg], hF, hK3, hA3, hB3, ho3⟩
      · have c3 : ((nI done >>> (nI i &&& 31)) &&& (1 : Int32)) = 0 := by rw [eb]; exact cb
        refine sX0_tryOrders_47 (u1 := jP (d i hh)) (P1 := fun I I' => Fr [27, 28, 29, A + 2] I I' ∧ CK I' κ L dl pl ld lp ∧ AK I' κ A m n) wA ?_ ?_ ?_ ?_ <;> intros <;> (first | exact absurd (by with_reducible assumption) c2 | exact absurd c2 (by with_reducible assumption) | exact absurd (by with_reducible assumption) c3 | exact absurd c3 (by with_reducible assumption) | skip)
        · rw [← hdi]; exact endOf_a (k := k + (f + 1) + 35) w wL wl hK3 ho hhb wA ap hv hA3 hi (by omega)
        · rename_i I4 h4
          have hF4 : Fr [27, 28, 29, A, A + 2, A + 3, A + 4] I I4 := hF.tr h4.1 (by simp)
          have hB4 := hB3.fr h4.1 (by simp; omega) (by simp; omega)
          have ho4 : ∀ j, j < ord.length → I4 (A + 3) j = nI (ord[j]?.getD 0) := fun j hj => by rw [h4.1 _ (by simp; omega)]; exact ho3 j hj
          cases hq : d i hh with
          | none =>
            have c4 : jP none = (-1 : Int32) := rfl
            refine sX0_tryOrders_76 (P1 := fun _ _ => True) wA ?_ ?_ ?_ ?_ <;> intros <;> (first | exact absurd (by with_reducible assumption) c4 | exact absurd c4 (by with_reducible assumption) | skip)
            rw [nI_1]
            have eg : g bb i = bb := by rw [← hgi]; unfold qg2; rw [if_neg cb, hq]
            exact ih (bb, I4) ⟨by rw [foldr_s, ← he, eg], hF4, h4.2.1, h4.2.2, hB4, ho4⟩
          | some t =>
            have ht := hdl i hh t hi hq
            have c4 : ¬ jP (some t) = (-1 : Int32) := jP_m1 (by omega)
            have hd2 : done ||| 2 ^ i < 16 := Nat.or_lt_two_pow (n := 4) hdn (Nat.pow_lt_pow_right (by decide) (by omega))
            have eg : g bb i = qgc m d f (ord ++ [i]) (done ||| 2 ^ i) t bb := by rw [← hgi]; unfold qg2; rw [if_neg cb, hq]
            have l1 : (ord ++ [i]).length = ord.length + 1 := by simp
            have gp : ∀ j, j < ord.length → (ord ++ [i])[j]?.getD 0 = ord[j]?.getD 0 := fun j hj => by rw [List.getElem?_append_left hj]
            have F5 : Fr [27, 28, 29, A, A + 2, A + 3, A + 4] I (up2 I4 (A + 3) ord.length (nI i)) := hF4.up (by simp)
            have K5 : CK (up2 I4 (A + 3) ord.length (nI i)) κ L dl pl ld lp := h4.2.1.dy ap (by omega)
            have f3 : Fr [A + 3] I4 (up2 I4 (A + 3) ord.length (nI i)) := Fr.rf.up (by simp)
            have A5 : AK (up2 I4 (A + 3) ord.length (nI i)) κ A m n := h4.2.2.fr f3 (by simp) (by simp) (by simp)
            have B5 : BO (up2 I4 (A + 3) ord.length (nI i)) A m bb := hB4.fr f3 (by simp) (by simp)
            have O5 : ∀ j, j < (ord ++ [i]).length → (up2 I4 (A + 3) ord.length (nI i)) (A + 3) j = nI ((ord ++ [i])[j]?.getD 0) := fun j hj => by
              rw [l1] at hj
              by_cases c : j = ord.length
              · subst c; simp [up2]
              · simp only [up2, if_true, if_neg c]; rw [gp j (by omega)]; exact ho4 j (by omega)
            refine sX0_tryOrders_76 (P1 := fun I I' => Fr [27, 28, 29, A, A + 2, A + 3, A + 4] I I' ∧ CK I' κ L dl pl ld lp ∧ AK I' κ A m n ∧ BO I' A m (qgc m d f (ord ++ [i]) (done ||| 2 ^ i) t bb) ∧ ∀ j, j < (ord ++ [i]).length → I' (A + 3) j = nI ((ord ++ [i])[j]?.getD 0)) wA ?_ ?_ ?_ ?_ <;> intros <;> (first | exact absurd (by with_reducible assumption) c4 | exact absurd c4 (by with_reducible assumption) | skip)
            · exact vp_in_nI (by omega) (by decide)
            · rw [nI_clamp (by omega), nI_1, shl_n (by omega), fa_or]
              have := ihf k _ (ord ++ [i]) (done ||| 2 ^ i) t bb K5 A5 (by rw [l1]; omega) (by rw [l1]; omega) hd2 O5 B5
              rw [l1] at this ⊢
              exact this
            · rename_i I6 h6
              rw [nI_clamp (by omega)] at h6
              rw [nI_1]
              refine ih (qgc m d f (ord ++ [i]) (done ||| 2 ^ i) t bb, I6) ⟨by rw [foldr_s, ← he, eg], F5.tr h6.1 (by simp), h6.2.1, h6.2.2.1, h6.2.2.2.1, fun j hj => ?_⟩
              have := h6.2.2.2.2 j (by rw [l1]; omega)
              rw [gp j hj] at this; exact this
end A
