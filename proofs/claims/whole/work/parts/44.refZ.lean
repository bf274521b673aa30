/-! the reference: the best order of errands -/
def qgo (m : Nat) (d : Nat → Nat → Option Nat) : Nat → List Nat → Nat → Nat → Nat × List Nat → Nat × List Nat
  | 0 => fun ord _ hour best => if best.1 ≤ hour then best else (hour, ord)
  | f + 1 => fun ord done hour best => if best.1 ≤ hour then best else (List.range m).foldl (fun b i => if done.testBit i then b else match d i hour with
    | none => b
    | some t => qgo m d f (ord ++ [i]) (done ||| 2 ^ i) t b) best
/-- one errand tried -/
def qg1 (m : Nat) (d : Nat → Nat → Option Nat) (f : Nat) (ord : List Nat) (done hour : Nat) (b : Nat × List Nat) (i : Nat) : Nat × List Nat := if done.testBit i then b else match d i hour with
    | none => b
    | some t => qgo m d f (ord ++ [i]) (done ||| 2 ^ i) t b
theorem qgo_0 (m : Nat) (d : Nat → Nat → Option Nat) (ord : List Nat) (done hour : Nat) (best : Nat × List Nat) : qgo m d 0 ord done hour best = if best.1 ≤ hour then best else (hour, ord) := rfl
theorem qgo_s (m : Nat) (d : Nat → Nat → Option Nat) (f : Nat) (ord : List Nat) (done hour : Nat) (best : Nat × List Nat) : qgo m d (f + 1) ord done hour best = if best.1 ≤ hour then best else (List.range m).foldl (qg1 m d f ord done hour) best := rfl
theorem foldr_s {α : Type} (g : α → Nat → α) (b : α) (n : Nat) : (List.range (n + 1)).foldl g b = g ((List.range n).foldl g b) n := by
  rw [List.range_succ, List.foldl_append]; rfl
theorem fold_inv {α : Type} {P : α → Prop} {g : α → Nat → α} {b : α} (h0 : P b) (hs : ∀ x i, P x → P (g x i)) : ∀ n, P ((List.range n).foldl g b)
  | 0 => h0
  | n + 1 => by rw [foldr_s]; exact hs _ _ (fold_inv h0 hs n)
theorem qgo_le (m : Nat) (d : Nat → Nat → Option Nat) : ∀ (f : Nat) (ord : List Nat) (done hour : Nat) (best : Nat × List Nat), (qgo m d f ord done hour best).1 ≤ best.1
  | 0, ord, done, hour, best => by
    rw [qgo_0]; split
    · exact Nat.le_refl _
    · show hour ≤ best.1; omega
  | f + 1, ord, done, hour, best => by
    rw [qgo_s]; split
    · exact Nat.le_refl _
    · refine fold_inv (P := fun (x : Nat × List Nat) => x.1 ≤ best.1) (Nat.le_refl _) (fun x i hx => ?_) m
      unfold qg1
      split
      · exact hx
      · split
        · exact hx
        · exact Nat.le_trans (qgo_le m d f _ _ _ _) hx
theorem qg1_le (m : Nat) (d : Nat → Nat → Option Nat) (f : Nat) (ord : List Nat) (done hour : Nat) (b : Nat × List Nat) (i : Nat) : (qg1 m d f ord done hour b i).1 ≤ b.1 := by
  unfold qg1
  split
  · exact Nat.le_refl _
  · split
    · exact Nat.le_refl _
    · exact qgo_le m d f _ _ _ _
theorem qgo_len (m : Nat) (d : Nat → Nat → Option Nat) : ∀ (f : Nat) (ord : List Nat) (done hour : Nat) (best : Nat × List Nat), (qgo m d f ord done hour best).2.length = ord.length + f ∨ qgo m d f ord done hour best = best
  | 0, ord, done, hour, best => by
    rw [qgo_0]; split
    · exact Or.inr rfl
    · exact Or.inl rfl
  | f + 1, ord, done, hour, best => by
    rw [qgo_s]; split
    · exact Or.inr rfl
    · refine fold_inv (P := fun (x : Nat × List Nat) => x.2.length = ord.length + (f + 1) ∨ x = best) (Or.inr rfl) (fun x i hx => ?_) m
      unfold qg1
      split
      · exact hx
      · split
        · exact hx
        · rename_i t _
          rcases qgo_len m d f (ord ++ [i]) (done ||| 2 ^ i) t x with h | h
          · rw [List.length_append] at h
            exact Or.inl (by rw [h]; simp; omega)
          · rw [h]; exact hx
section A
variable {l : Launch} {G : Gh} {k : Nat} {I : Nat → Nat → Int32} {J : Nat → Nat → Int64} {R : Nat → Nat → Option Nat} {S : Nat → Nat × Nat} {nx : Nat} {κ : Nat → Nat} {hb pb : Nat}
def Go (I I' : Nat → Nat → Int32) : Prop := (∀ a, a ≠ 43 → a ≠ 64 → a ≠ 65 → I' a = I a) ∧ ∀ f, f ≠ 37 → I' 43 f = I 43 f
theorem Go.rf : Go I I := ⟨fun _ _ _ _ => rfl, fun _ _ => rfl⟩
theorem Go.trans {I1 I2 : Nat → Nat → Int32} (h : Go I I1) (h2 : Go I1 I2) : Go I I2 := ⟨fun a x y z => (h2.1 a x y z).trans (h.1 a x y z), fun f hf => (h2.2 f hf).trans (h.2 f hf)⟩
theorem Go.up {I1 : Nat → Nat → Int32} {a i : Nat} {v : Int32} (h : Go I I1) (ha : a = 64 ∨ a = 65) : Go I (up2 I1 a i v) := by
  refine ⟨fun b x y z => ?_, fun f hf => ?_⟩
  · rw [← h.1 b x y z]; funext j; have : b ≠ a := by omega
    simp [up2, this]
  · rw [← h.2 f hf]; have : (43 : Nat) ≠ a := by omega
    simp [up2, this]
theorem Go.up37 {I1 : Nat → Nat → Int32} {v : Int32} (h : Go I I1) : Go I (up2 I1 43 37 v) := by
  refine ⟨fun b x y z => ?_, fun f hf => ?_⟩
  · rw [← h.1 b x y z]; funext j; simp [up2, x]
  · rw [← h.2 f hf]; simp [up2, hf]
theorem Go.K {I' : Nat → Nat → Int32} (h : Go I I') (hK : Kn I κ) : Kn I' κ := fun i hi => by rw [h.1 44 (by decide) (by decide) (by decide)]; exact hK i hi
theorem Go.T {I' : Nat → Nat → Int32} {τ tm : Nat → Nat} {tn : Nat → Nat → Int64} (h : Go I I') (hT : Tk I J τ tm tn) : Tk I' J τ tm tn := by
  intro t ht
  rw [h.1 68 (by decide) (by decide) (by decide), h.1 69 (by decide) (by decide) (by decide)]; exact hT t ht
theorem Go.E {I' : Nat → Nat → Int32} {tm : Nat → Nat} {tn : Nat → Nat → Int64} {a n : Nat} (h : Go I I') (hL : laidE I κ tm tn a n) : laidE I' κ tm tn a n := by
  intro i hi q hq
  rw [h.1 53 (by decide) (by decide) (by decide), h.1 54 (by decide) (by decide) (by decide)]; exact hL i hi q hq
def RB (I : Nat → Nat → Int32) (b : Nat × List Nat) : Prop := I 43 37 = nI b.1 ∧ ∀ i v, b.2[i]? = some v → I 65 i = nI v
theorem goes_r {a : Nat} {τ tm : Nat → Nat} {tn : Nat → Nat → Int64} {d : Nat → Nat → Option Nat} (w : MW R S nx) (ho : qok hb pb κ) (ha : a < 4) (he : erk κ tm tn a) (hdi : ∀ i h, qdo κ (tnN tn a i) h = d i h) : ∀ (f k : Nat) (I : Nat → Nat → Int32) (ord : List Nat) (done hour : Nat) (best : Nat × List Nat), ord.length + f = tm a → hour ≤ 224 * ord.length → done < 16 → best.1 ≤ 536870912 → Kn I κ → Tk I J τ tm tn → laidE I κ tm tn a (tm a) → (∀ i v, ord[i]? = some v → I 64 i = nI v) → RB I best →
    Cal l G (k + 40 + f) 0 0 mX12_goesOrders [.ref 43, .int (nI a), .int (nI ord.length), .int (nI done), .int (nI hour)] (I, J, R, S, nx) (fun r μ' => r = .inl none ∧ ∃ I', μ' = (I', J, R, S, nx) ∧ Go I I' ∧ RB I' (qgo (tm a) d f ord done hour best) ∧ ∀ i, i < ord.length → I' 64 i = I 64 i) := by
  have h4 := he.1
  intro f
  induction f with
  | zero =>
    intro k I ord done hour best hlen hh hdn hbl hK hT hL hO hB
    rw [qgo_0, Nat.add_zero]
    have e37 : (nI hour < I 43 37) = (hour < best.1) := by rw [hB.1]; exact propext (nI_ltI (by omega) (by omega))
    by_cases c : best.1 ≤ hour
    · have c1 : ¬ nI hour < I 43 37 := by rw [e37]; omega
      rw [if_pos c]
      refine Cal.of rfl (by decide +kernel) (by simp) (Nat.le_of_ble_eq_true rfl) rfl (sX12_goesOrders_0 w ?_ ?_ ?_ ?_) <;> intros <;> (first | exact absurd (by with_reducible assumption) c1 | exact absurd c1 (by with_reducible assumption) | skip)
      exact ⟨rfl, _, rfl, Go.rf, hB, fun _ _ => rfl⟩
    · have c1 : nI hour < I 43 37 := by rw [e37]; omega
      have c2 : nI ord.length = I 69 (nI a).toNatClampNeg := by rw [nI_clamp (by omega), (hT a ha).2.1, ← hlen]; rfl
      rw [if_neg c]
      refine Cal.of rfl (by decide +kernel) (by simp) (Nat.le_of_ble_eq_true rfl) rfl (sX12_goesOrders_0 w ?_ ?_ ?_ ?_) <;> intros <;> (first | exact absurd (by with_reducible assumption) c1 | exact absurd c1 (by with_reducible assumption) | exact absurd (by with_reducible assumption) c2 | exact absurd c2 (by with_reducible assumption) | skip)
      · exact vp_in_nI ha (by decide)
      · refine upto (W := fun i I1 => hX12_goesOrders_29 l G k _ (nI ord.length) (nI i) (I1, J, R, S, nx)) (P := fun i I1 => Go I I1 ∧ I1 43 37 = nI hour ∧ (∀ j, j < ord.length → I1 64 j = I 64 j) ∧ ∀ j v, j < i → ord[j]? = some v → I1 65 j = nI v) ord.length ?_ ?_ (i := 0) (Nat.zero_le _) ⟨Go.rf.up37, by simp [up2], fun j hj => by simp [up2], fun j v hj => absurd hj (Nat.not_lt_zero j)⟩
        · intro I1 ⟨hG, h37, h64, h65⟩
          have d1 : nI ord.length ≤ nI ord.length := nI_le (Nat.le_refl _) (by omega)
          refine sX12_goesOrders_29 w ?_ ?_ ?_ ?_ <;> intros <;> (first | exact absurd (by with_reducible assumption) d1 | exact absurd d1 (by with_reducible assumption) | skip)
          exact ⟨rfl, _, rfl, hG, ⟨h37, fun i v hv => h65 i v (List.getElem?_eq_some_iff.mp hv).1 hv⟩, h64⟩
        · intro i I1 hi ⟨hG, h37, h64, h65⟩ ih
          have d1 : ¬ nI ord.length ≤ nI i := nI_ge hi (by omega)
          refine sX12_goesOrders_29 w ?_ ?_ ?_ ?_ <;> intros <;> (first | exact absurd (by with_reducible assumption) d1 | exact absurd d1 (by with_reducible assumption) | skip)
          · exact vp_in_nI (by omega) (by decide)
          · exact vp_in_nI (by omega) (by decide)
          · rw [nI_clamp (by omega), nI_1]
            refine ih _ ⟨hG.up (Or.inr rfl), by simpa [up2] using h37, fun j hj => by simpa [up2] using h64 j hj, fun j v hj hv => ?_⟩
            by_cases cj : j = i
            · subst cj
              simp only [up2, if_true]
              rw [h64 j hi]; exact hO j v hv
            · simp only [up2, if_true, if_neg cj]; exact h65 j v (by omega) hv
  | succ f IH =>
    intro k I ord done hour best hlen hh hdn hbl hK hT hL hO hB
    rw [show k + 40 + (f + 1) = (k + f + 1) + 40 by omega, qgo_s]
    have e37 : (nI hour < I 43 37) = (hour < best.1) := by rw [hB.1]; exact propext (nI_ltI (by omega) (by omega))
    by_cases c : best.1 ≤ hour
    · have c1 : ¬ nI hour < I 43 37 := by rw [e37]; omega
      rw [if_pos c]
      refine Cal.of rfl (by decide +kernel) (by simp) (Nat.le_of_ble_eq_true rfl) rfl (sX12_goesOrders_0 w ?_ ?_ ?_ ?_) <;> intros <;> (first | exact absurd (by with_reducible assumption) c1 | exact absurd c1 (by with_reducible assumption) | skip)
      exact ⟨rfl, _, rfl, Go.rf, hB, fun _ _ => rfl⟩
    · have c1 : nI hour < I 43 37 := by rw [e37]; omega
      have c2 : ¬ nI ord.length = I 69 (nI a).toNatClampNeg := by rw [nI_clamp (by omega), (hT a ha).2.1, nI_eq (by omega) (by omega)]; omega
      rw [if_neg c]
      refine Cal.of rfl (by decide +kernel) (by simp) (Nat.le_of_ble_eq_true rfl) rfl (sX12_goesOrders_0 w ?_ ?_ ?_ ?_) <;> intros <;> (first | exact absurd (by with_reducible assumption) c1 | exact absurd c1 (by with_reducible assumption) | exact absurd (by with_reducible assumption) c2 | exact absurd c2 (by with_reducible assumption) | skip)
      · exact vp_in_nI ha (by decide)
      · obtain ⟨g, hg⟩ : ∃ g, qg1 (tm a) d f ord done hour = g := ⟨_, rfl⟩
        have hgl : ∀ b i, (g b i).1 ≤ b.1 := fun b i => by rw [← hg]; exact qg1_le _ _ _ _ _ _ _ _
        rw [hg]
        refine upto (W := fun i I1 => hX12_goesOrders_59 l G (k + f + 1) _ (nI a) (nI ord.length) (nI done) (nI hour) (nI i) (I1, J, R, S, nx)) (P := fun i I1 => Go I I1 ∧ RB I1 ((List.range i).foldl g best) ∧ ((List.range i).foldl g best).1 ≤ 536870912 ∧ ∀ j, j < ord.length → I1 64 j = I 64 j) (tm a) ?_ ?_ (i := 0) (Nat.zero_le _) ⟨Go.rf, hB, hbl, fun _ _ => rfl⟩
        · intro I1 ⟨hG, hB1, _, h64⟩
          have d1 : I1 69 (nI a).toNatClampNeg ≤ nI (tm a) := by rw [nI_clamp (by omega), (hG.T hT a ha).2.1]; exact nI_le (Nat.le_refl _) (by omega)
          refine sX12_goesOrders_59 (u1 := 0) (P1 := fun _ _ => True) w (vp_in_nI ha (by decide)) ?_ ?_ ?_ ?_ <;> intros <;> (first | exact absurd (by with_reducible assumption) d1 | exact absurd d1 (by with_reducible assumption) | skip)
          exact ⟨rfl, _, rfl, hG, hB1, h64⟩
        · intro i I1 hi ⟨hG, hB1, hb1, h64⟩ ih
          have d1 : ¬ I1 69 (nI a).toNatClampNeg ≤ nI i := by rw [nI_clamp (by omega), (hG.T hT a ha).2.1]; exact nI_ge hi (by omega)
          have eh := has_n (s := done) (i := i) (by omega) (by omega)
          -- nothing done by it
          have skip : g ((List.range i).foldl g best) i = (List.range i).foldl g best → hX12_goesOrders_92 l G (k + f + 1) (fun r μ' => r = .inl none ∧ ∃ I', μ' = (I', J, R, S, nx) ∧ Go I I' ∧ RB I' ((List.range (tm a)).foldl g best) ∧ ∀ i, i < ord.length → I' 64 i = I 64 i) (nI a) (nI ord.length) (nI done) (nI hour) (nI i) (-1 : Int32) (I1, J, R, S, nx) := by
            intro hs
            have z : (-1 : Int32) = (-1 : Int32) := rfl
            refine sX12_goesOrders_92 (P1 := fun _ _ => True) w ?_ ?_ ?_ ?_ <;> intros <;> (first | exact absurd (by with_reducible assumption) z | exact absurd z (by with_reducible assumption) | skip)
            rw [nI_1]
            exact ih I1 ⟨hG, by rw [foldr_s, hs]; exact hB1, by rw [foldr_s, hs]; exact hb1, h64⟩
          by_cases ct : done.testBit i = true
          · have d2 : ¬ v_X12_has (nI done) (nI i) = 0 := by rw [eh, if_pos ct]; decide
            refine sX12_goesOrders_59 (u1 := 0) (P1 := fun _ _ => True) w (vp_in_nI ha (by decide)) ?_ ?_ ?_ ?_ <;> intros <;> (first | exact absurd (by with_reducible assumption) d1 | exact absurd d1 (by with_reducible assumption) | exact absurd (by with_reducible assumption) d2 | exact absurd d2 (by with_reducible assumption) | skip)
            exact skip (by rw [← hg]; unfold qg1; rw [if_pos ct])
          · have d2 : v_X12_has (nI done) (nI i) = 0 := by rw [eh, if_neg ct]
            refine sX12_goesOrders_59 (u1 := jP (d i hour)) (P1 := fun I I' => I' = I) w (vp_in_nI ha (by decide)) ?_ ?_ ?_ ?_ <;> intros <;> (first | exact absurd (by with_reducible assumption) d1 | exact absurd d1 (by with_reducible assumption) | exact absurd (by with_reducible assumption) d2 | exact absurd d2 (by with_reducible assumption) | skip)
            · rw [← hdi]
              exact doneBy_r (k := k + f + 38) w (hG.K hK) ho (hG.T hT) ha he hi (by omega) (hG.E hL)
            · rename_i I2 h2
              subst h2
              cases hd : d i hour with
              | none => exact skip (by rw [← hg]; unfold qg1; rw [if_neg ct, hd])
              | some t =>
                have htl : t ≤ hour + 224 := by rw [← hdi] at hd; exact (qdo_le (he.2 i hi).2.2.2 hd).2
                have d3 : ¬ jP (some t) = (-1 : Int32) := jP_m1 (by omega)
                have hgv : g ((List.range i).foldl g best) i = qgo (tm a) d f (ord ++ [i]) (done ||| 2 ^ i) t ((List.range i).foldl g best) := by
                  rw [← hg]; unfold qg1; rw [if_neg ct, hd]
                have hG2 : Go I (up2 I2 64 ord.length (nI i)) := hG.up (Or.inl rfl)
                refine sX12_goesOrders_92 (P1 := fun I I' => Go I I' ∧ RB I' (qgo (tm a) d f (ord ++ [i]) (done ||| 2 ^ i) t ((List.range i).foldl g best)) ∧ ∀ j, j < ord.length + 1 → I' 64 j = I 64 j) w ?_ ?_ ?_ ?_ <;> intros <;> (first | exact absurd (by with_reducible assumption) d3 | exact absurd d3 (by with_reducible assumption) | skip)
                · exact vp_in_nI (by omega) (by decide)
                · rw [nI_clamp (by omega), shl_n (by omega), fa_or, nI_1, show jP (some t) = nI t from rfl]
                  have hx := IH k (up2 I2 64 ord.length (nI i)) (ord ++ [i]) (done ||| 2 ^ i) t ((List.range i).foldl g best) (by rw [List.length_append]; simp; omega) (by rw [List.length_append]; simp; omega) (Nat.or_lt_two_pow (n := 4) hdn (Nat.pow_lt_pow_right (by decide) (by omega))) hb1 (hG2.K hK) (hG2.T hT) (hG2.E hL) (fun j v hv => ?_) ⟨by simpa [up2] using hB1.1, fun j v hv => by have := hB1.2 j v hv; simpa [up2] using this⟩
                  · rw [show (ord ++ [i]).length = ord.length + 1 by simp, show k + 40 + f = k + f + 1 + 39 by omega] at hx
                    exact hx
                  · by_cases cj : j = ord.length
                    · subst cj
                      rw [List.getElem?_append_right (Nat.le_refl _), Nat.sub_self] at hv
                      have : i = v := by simpa using hv
                      subst this
                      simp [up2]
                    · have hj : j < ord.length := by
                        have := (List.getElem?_eq_some_iff.mp hv).1
                        rw [List.length_append] at this; simp at this; omega
                      rw [List.getElem?_append_left hj] at hv
                      simp only [up2, if_true, if_neg cj]
                      rw [h64 j hj]; exact hO j v hv
                · rename_i I3 h3
                  rw [nI_clamp (by omega)] at h3
                  rw [nI_1]
                  refine ih I3 ⟨hG2.trans h3.1, by rw [foldr_s, hgv]; exact h3.2.1, by rw [foldr_s]; exact Nat.le_trans (hgl _ _) hb1, fun j hj => ?_⟩
                  rw [h3.2.2 j (by omega)]
                  have : j ≠ ord.length := by omega
                  simp only [up2, if_true, if_neg this]
                  exact h64 j hj
def bAns (r : Nat × List Nat) (m what : Nat) : Int32 := if r.1 = 536870912 then -1 else if what = 0 then nI r.1 else if what - 10 < m then nI (r.2[what - 10]?.getD 0) else -1
def qbo (κ tm : Nat → Nat) (tn : Nat → Nat → Int64) (a : Nat) : Nat × List Nat := qgo (tm a) (fun i h => qdo κ (tnN tn a i) h) (tm a) [] 0 0 (536870912, [])
def aBest (κ τ tm : Nat → Nat) (tn : Nat → Nat → Int64) (x y : Int32) : Nat × Int32 := if gE κ τ tm tn x = 0 then (if y = 0 ∨ gR y 10 13 then (0, bAns (qbo κ tm tn (cN x)) (tm (cN x)) (cN y)) else (3, 0)) else (gE κ τ tm tn x, 0)
theorem bestOrder_r {x y : Int32} {τ tm : Nat → Nat} {tn : Nat → Nat → Int64} (w : MW R S nx) (hK : Kn I κ) (ho : qok hb pb κ) (hhb : hb < 2 ^ 29) (hT : Tk I J τ tm tn) : Cal l G (k + 45) 0 0 mX12_bestOrder [.ref 43, .int x, .int y] (I, J, R, S, nx) (fun r μ' => r = .inl (some (.int ((aBest κ τ tm tn x y).2))) ∧ ∃ I', μ' = (I', J, R, S, nx) ∧ PU (aBest κ τ tm tn x y).1 κ I I') := by
  have hle := gE_le κ τ tm tn x
  by_cases g : gE κ τ tm tn x = 0
  · have c0 : (nI 0 : Int32) = 0 := rfl
    have c1 : (nI 0 : Int32) ≤ 0 := by decide
    have hfault := errandsFault_r (l := l) (G := G) (k := k + 41) (x := x) w hK ho hT
    rw [g] at hfault
    by_cases gy : y = 0 ∨ gR y 10 13
    · rw [show aBest κ τ tm tn x y = (0, bAns (qbo κ tm tn (cN x)) (tm (cN x)) (cN y)) by unfold aBest; rw [if_pos g, if_pos gy]]
      dsimp only
      obtain ⟨a, rfl, ha, ea, he⟩ := gE0 g
      rw [ea]
      have h4 := he.1
      unfold qbo
      obtain ⟨d, hd⟩ : ∃ d, (fun i h => qdo κ (tnN tn a i) h) = d := ⟨_, rfl⟩
      have hdi : ∀ i h, qdo κ (tnN tn a i) h = d i h := fun i h => congrFun (congrFun hd i) h
      rw [hd]
      obtain ⟨r, hr⟩ : ∃ r, qgo (tm a) d (tm a) [] 0 0 (536870912, []) = r := ⟨_, rfl⟩
      have hlen := qgo_len (tm a) d (tm a) [] 0 0 (536870912, [])
      have hrl := qgo_le (tm a) d (tm a) [] 0 0 (536870912, [])
      rw [hr] at hlen hrl ⊢
      dsimp only at hrl
      have hE : ∀ I1, I1 = I → Cal l G (k + 4 + 40) 0 0 mX12_laysErrands [.ref 43, .int (nI a)] (up2 I1 43 4 (nI 0), J, R, S, nx) (fun r μ' => r = .inl none ∧ ∃ I', μ' = (I', J, R, S, nx) ∧ Fr [49, 50, 51, 52, 53, 54] (up2 I1 43 4 (nI 0)) I' ∧ laidE I' κ tm tn a (tm a)) := fun I1 h => by
        subst h; exact laysErrands_r (k := k + 37) w hK.up4 ho hhb hT.up43 ha he
      have hO : ∀ I2, (Fr [49, 50, 51, 52, 53, 54] (up2 I 43 4 (nI 0)) I2 ∧ laidE I2 κ tm tn a (tm a)) → Cal l G (k + 4 + 40) 0 0 mX12_goesOrders [.ref 43, .int (nI a), .int (0 : Int32), .int (0 : Int32), .int (0 : Int32)] (up2 I2 43 37 (536870912 : Int32), J, R, S, nx) (fun r' μ' => r' = .inl none ∧ ∃ I', μ' = (I', J, R, S, nx) ∧ Go (up2 I2 43 37 (536870912 : Int32)) I' ∧ RB I' r) := by
        intro I2 h2
        have hG : Go I2 (up2 I2 43 37 (536870912 : Int32)) := Go.rf.up37
        have := goes_r (l := l) (G := G) (J := J) w ho ha he hdi (tm a) (k + 4 - tm a) (up2 I2 43 37 (536870912 : Int32)) [] 0 0 (536870912, []) (by simp) (by simp) (by decide) (Nat.le_refl _) (hG.K (hK.up4.fr h2.1 (by decide))) (hG.T (hT.up43.fr h2.1 (by decide))) (hG.E h2.2) (fun i v hv => by simp at hv) ⟨by simp [up2]; rfl, fun i v hv => by simp at hv⟩
        rw [hr, show k + 4 - tm a + 40 + tm a = k + 4 + 40 by omega] at this
        exact this.mono (fun r' μ' ⟨e, I', e2, h1, h2, _⟩ => ⟨e, I', e2, h1, h2⟩)
      have fin : ∀ I2 I3, (Fr [49, 50, 51, 52, 53, 54] (up2 I 43 4 (nI 0)) I2 ∧ laidE I2 κ tm tn a (tm a)) → (Go (up2 I2 43 37 (536870912 : Int32)) I3 ∧ RB I3 r) → PU 0 κ I I3 ∧ I3 69 (nI a).toNatClampNeg = nI (tm a) := by
        intro I2 I3 h2 h3
        have hG : Go I2 I3 := (Go.rf.up37).trans h3.1
        have hp : PU 0 κ I I2 := PU.ok rfl h2.1 (by decide) (by decide) (hK.up4.fr h2.1 (by decide))
        refine ⟨⟨⟨fun b x y z => ?_, fun f hf => ?_⟩, ?_, hG.K hp.2.2⟩, ?_⟩
        · have n64 : b ≠ 64 := fun h => x (by rw [h]; decide)
          have n65 : b ≠ 65 := fun h => x (by rw [h]; decide)
          rw [hG.1 b z n64 n65]; exact hp.1.1 b x y z
        · rw [hG.2 f (by omega)]; exact hp.1.2 f hf
        · rw [hG.2 4 (by decide)]; exact hp.2.1
        · rw [nI_clamp (by omega), hG.1 69 (by decide) (by decide) (by decide), (hT.up43.fr h2.1 (by decide) a ha).2.1]
      have nF : ∀ I3, RB I3 r → (I3 43 37 = (536870912 : Int32)) = (r.1 = 536870912) := fun I3 h => by rw [h.1]; exact propext (nI_eq (b := 536870912) (by omega) (by decide))
      by_cases y0 : y = 0
      · rw [show cN y = 0 by rw [y0]; rfl]
        refine Cal.of rfl (by decide +kernel) (by simp) (Nat.le_of_ble_eq_true rfl) rfl (sX12_bestOrder_0 (k := k + 4) (u1 := nI 0) (P1 := fun I I' => I' = I) (P2 := fun _ _ => True) (P3 := fun _ _ => True) (P4 := fun I I' => Fr [49, 50, 51, 52, 53, 54] I I' ∧ laidE I' κ tm tn a (tm a)) (P5 := fun I I' => Go I I' ∧ RB I' r) (P6 := fun _ _ => True) (P7 := fun _ _ => True) w hfault ?_ ?_ ?_ ?_ ?_ ?_ ?_ ?_ ?_ ?_ ?_ ?_ ?_ ?_ ?_ ?_ ?_ ?_ ?_ ?_ ?_ ?_ ?_ ?_ ?_ ?_ ?_ ?_) <;> intros <;> (first | exact absurd (by with_reducible assumption) c0 | exact absurd c0 (by with_reducible assumption) | exact absurd (by with_reducible assumption) y0 | exact absurd y0 (by with_reducible assumption) | exact absurd (by with_reducible assumption) c1 | exact absurd c1 (by with_reducible assumption) | skip)
        · rename_i I1 h1 _ _ _; exact hE I1 h1
        · rename_i I1 h1 _ _ _ I4 h4; subst h1; exact hO I4 h4
        · rename_i I1 h1 _ _ _ I4 h4 I5 h5 hf _
          subst h1
          rw [nF I5 h5.2] at hf
          exact ⟨by unfold bAns; rw [if_neg hf, if_pos rfl, h5.2.1], _, rfl, (fin I4 I5 h4 h5).1⟩
        · rename_i I1 h1 _ _ _ I4 h4 I5 h5 hf
          subst h1
          rw [nF I5 h5.2] at hf
          exact ⟨by unfold bAns; rw [if_pos hf], _, rfl, (fin I4 I5 h4 h5).1⟩
      · have gy2 : gR y 10 13 := gy.resolve_left y0
        have c2 : ¬ v_X12_within (Int32.toInt64 y) (10 : Int64) (13 : Int64) = 0 := cRt gy2 (by decide) (by decide)
        obtain ⟨q, rfl, hq1, hq2, eq⟩ := gy2.n (by omega)
        rw [eq]
        have e10 : nI q - (10 : Int32) = nI (q - 10) := pk_sub (b := 10) hq1
        refine Cal.of rfl (by decide +kernel) (by simp) (Nat.le_of_ble_eq_true rfl) rfl (sX12_bestOrder_0 (k := k + 4) (u1 := nI 0) (P1 := fun I I' => I' = I) (P2 := fun _ _ => True) (P3 := fun _ _ => True) (P4 := fun _ _ => True) (P5 := fun _ _ => True) (P6 := fun I I' => Fr [49, 50, 51, 52, 53, 54] I I' ∧ laidE I' κ tm tn a (tm a)) (P7 := fun I I' => Go I I' ∧ RB I' r) w hfault ?_ ?_ ?_ ?_ ?_ ?_ ?_ ?_ ?_ ?_ ?_ ?_ ?_ ?_ ?_ ?_ ?_ ?_ ?_ ?_ ?_ ?_ ?_ ?_ ?_ ?_ ?_ ?_) <;> intros <;> (first | exact absurd (by with_reducible assumption) c0 | exact absurd c0 (by with_reducible assumption) | exact absurd (by with_reducible assumption) y0 | exact absurd y0 (by with_reducible assumption) | exact absurd (by with_reducible assumption) c1 | exact absurd c1 (by with_reducible assumption) | exact absurd (by with_reducible assumption) c2 | exact absurd c2 (by with_reducible assumption) | skip)
        · rename_i I1 h1 _ _ _ _; exact hE I1 h1
        · rename_i I1 h1 _ _ _ _ I4 h4; subst h1; exact hO I4 h4
        · exact vp_in_nI ha (by decide)
        · rename_i I1 h1 _ _ _ _ I4 h4 I5 h5 hf _ hl
          subst h1
          rw [nF I5 h5.2] at hf
          obtain ⟨f1, f2⟩ := fin I4 I5 h4 h5
          rw [f2, e10, nI_leI (by omega) (by omega)] at hl
          exact ⟨by unfold bAns; rw [if_neg hf, if_neg (by omega), if_neg (by omega)], _, rfl, f1⟩
        · rw [e10]; exact vp_in_nI (by omega) (by decide)
        · rename_i I1 h1 _ _ _ _ I4 h4 I5 h5 hf _ hl
          subst h1
          rw [nF I5 h5.2] at hf
          obtain ⟨f1, f2⟩ := fin I4 I5 h4 h5
          rw [f2, e10, nI_leI (by omega) (by omega)] at hl
          have hlen2 : r.2.length = tm a := by
            rcases hlen with h | h
            · simpa using h
            · rw [h] at hf; exact absurd rfl hf
          have hge : r.2[q - 10]? = some (r.2[q - 10]'(by omega)) := List.getElem?_eq_getElem (by omega)
          refine ⟨?_, _, rfl, f1⟩
          unfold bAns
          rw [if_neg hf, if_neg (by omega), if_pos (by omega), e10, nI_clamp (by omega), h5.2.2 (q - 10) _ hge, hge]; rfl
        · rename_i I1 h1 _ _ _ _ I4 h4 I5 h5 hf
          subst h1
          rw [nF I5 h5.2] at hf
          exact ⟨by unfold bAns; rw [if_pos hf], _, rfl, (fin I4 I5 h4 h5).1⟩
    · rw [show aBest κ τ tm tn x y = (3, 0) by unfold aBest; rw [if_pos g, if_neg gy]]
      have y0 : ¬ y = 0 := fun h => gy (Or.inl h)
      have c2 : v_X12_within (Int32.toInt64 y) (10 : Int64) (13 : Int64) = 0 := cRf (fun h => gy (Or.inr h)) (by decide) (by decide)
      refine Cal.of rfl (by decide +kernel) (by simp) (Nat.le_of_ble_eq_true rfl) rfl (sX12_bestOrder_0 (k := k + 4) (u1 := nI 0) (P1 := fun I I' => I' = I) (P2 := fun _ _ => True) (P3 := fun _ _ => True) (P4 := fun _ _ => True) (P5 := fun _ _ => True) (P6 := fun _ _ => True) (P7 := fun _ _ => True) w hfault ?_ ?_ ?_ ?_ ?_ ?_ ?_ ?_ ?_ ?_ ?_ ?_ ?_ ?_ ?_ ?_ ?_ ?_ ?_ ?_ ?_ ?_ ?_ ?_ ?_ ?_ ?_ ?_) <;> intros <;> (first | exact absurd (by with_reducible assumption) c0 | exact absurd c0 (by with_reducible assumption) | exact absurd (by with_reducible assumption) y0 | exact absurd y0 (by with_reducible assumption) | exact absurd (by with_reducible assumption) c2 | exact absurd c2 (by with_reducible assumption) | skip)
      rename_i I1 h1 _ _ _
      subst h1
      rw [up2_2]
      exact ⟨rfl, _, rfl, PU.fail hK rfl⟩
  · rw [show aBest κ τ tm tn x y = (gE κ τ tm tn x, 0) by unfold aBest; rw [if_neg g]]
    have c0 : ¬ (nI (gE κ τ tm tn x) : Int32) = 0 := nI_ne0 (by omega) (by omega)
    have c1 : ¬ (nI (gE κ τ tm tn x) : Int32) ≤ 0 := nI_nle (by omega) (by omega)
    refine Cal.of rfl (by decide +kernel) (by simp) (Nat.le_of_ble_eq_true rfl) rfl (sX12_bestOrder_0 (k := k + 4) (u1 := nI (gE κ τ tm tn x)) (P1 := fun I I' => I' = I) (P2 := fun _ _ => True) (P3 := fun _ _ => True) (P4 := fun _ _ => True) (P5 := fun _ _ => True) (P6 := fun _ _ => True) (P7 := fun _ _ => True) w (errandsFault_r (k := k + 41) w hK ho hT) ?_ ?_ ?_ ?_ ?_ ?_ ?_ ?_ ?_ ?_ ?_ ?_ ?_ ?_ ?_ ?_ ?_ ?_ ?_ ?_ ?_ ?_ ?_ ?_ ?_ ?_ ?_ ?_) <;> intros <;> (first | exact absurd (by with_reducible assumption) c0 | exact absurd c0 (by with_reducible assumption) | exact absurd (by with_reducible assumption) c1 | exact absurd c1 (by with_reducible assumption) | skip)
    rename_i I1 h1 _ _
    subst h1
    exact ⟨rfl, _, rfl, PU.fail hK rfl⟩
end A
