/-! the reference's law, worked out -/
theorem Cal.mono {l : Launch} {G : Gh} {k mc ms : Nat} {M : Mt} {av : List Value} {μ : Mem} {Q Q' : Res → Mem → Prop} (h : Cal l G k mc ms M av μ Q) (hq : ∀ r μ', Q r μ' → Q' r μ') : Cal l G k mc ms M av μ Q' := by
  intro p e h1 h2 h3 s m args below h4 h5 h6 h7
  obtain ⟨n, o, g1, g2, g3, g4⟩ := h p e h1 h2 h3 s m args below h4 h5 h6 h7
  refine ⟨n, o, g1, g2, g3, ?_⟩
  rcases g4 with ⟨⟨⟨r, μ', a1, a2, a3⟩, a4⟩, a5⟩ | ⟨q, a1, E, ce, L, ⟨⟨μ', b1, b2⟩, b3⟩, b4⟩
  · exact Or.inl ⟨⟨⟨r, μ', hq _ _ a1, a2, a3⟩, a4⟩, a5⟩
  · exact Or.inr ⟨q, a1, E, ce, L, ⟨⟨μ', hq _ _ b1, b2⟩, b3⟩, b4⟩
def zI (z : Int) : Int32 := Int32.ofInt z
theorem zI_toInt {z : Int} (h : -2147483648 ≤ z ∧ z < 2147483648) : (zI z).toInt = z := by
  unfold zI
  exact Int32.toInt_ofInt_of_le (by omega) (by omega)
theorem zI_eq {x : Int32} {z : Int} (h : x.toInt = z) : x = zI z := by
  rw [← h]; unfold zI; exact (Int32.ofInt_toInt x).symm
theorem nI_z (n : Nat) : nI n = zI n := rfl
theorem z64 {z : Int} (h : -2147483648 ≤ z ∧ z < 2147483648) : (zI z).toInt64.toInt = z := by
  rw [Int32.toInt_toInt64, zI_toInt h]
theorem l_add {x y : Int64} (h : -4611686018427387904 ≤ x.toInt + y.toInt ∧ x.toInt + y.toInt ≤ 4611686018427387904) : (x + y).toInt = x.toInt + y.toInt := by
  rw [Int64.toInt_add]; exact Int.bmod_eq_of_le (by omega) (by omega)
theorem l_sub {x y : Int64} (h : -4611686018427387904 ≤ x.toInt - y.toInt ∧ x.toInt - y.toInt ≤ 4611686018427387904) : (x - y).toInt = x.toInt - y.toInt := by
  rw [Int64.toInt_sub]; exact Int.bmod_eq_of_le (by omega) (by omega)
theorem l_mul {x y : Int64} (h : -4611686018427387904 ≤ x.toInt * y.toInt ∧ x.toInt * y.toInt ≤ 4611686018427387904) : (x * y).toInt = x.toInt * y.toInt := by
  rw [Int64.toInt_mul]; exact Int.bmod_eq_of_le (by omega) (by omega)
theorem l_to32 {x : Int64} (h : -2147483648 ≤ x.toInt ∧ x.toInt < 2147483648) : x.toInt32 = zI x.toInt := by
  apply zI_eq
  rw [Int64.toInt_toInt32]; exact Int.bmod_eq_of_le (by omega) (by omega)
theorem bound_z (x : Int64) : v_X12_bound x = zI (qclamp x.toInt) := by
  unfold v_X12_bound qclamp
  have h1 : (1000000 : Int64).toInt = 1000000 := by decide
  have h2 : (-1000000 : Int64).toInt = -1000000 := by decide
  by_cases c1 : x < 1000000
  · have d1 := (fa_lt64 _ _).mp c1
    rw [h1] at d1
    simp only [if_pos c1]
    by_cases c2 : x < -1000000
    · have d2 := (fa_lt64 _ _).mp c2
      rw [h2] at d2
      rw [if_pos c2, l_to32 (by rw [h2]; omega), h2]; congr 1; omega
    · have d2 := (not_congr (fa_lt64 _ _)).mp c2
      rw [h2] at d2
      rw [if_neg c2, l_to32 (by omega)]; congr 1; omega
  · have d1 := (not_congr (fa_lt64 _ _)).mp c1
    rw [h1] at d1
    simp only [if_neg c1]
    rw [if_neg (by decide), l_to32 (by rw [h1]; omega), h1]; congr 1; omega
theorem mul_b {a b : Int} (ha : -1000000 ≤ a ∧ a ≤ 1000000) (hb : -1000000 ≤ b ∧ b ≤ 1000000) : -1000000000000 ≤ a * b ∧ a * b ≤ 1000000000000 := by
  have h1 : a.natAbs ≤ 1000000 := by omega
  have h2 : b.natAbs ≤ 1000000 := by omega
  have h3 : (a * b).natAbs ≤ 1000000 * 1000000 := by rw [Int.natAbs_mul]; exact Nat.mul_le_mul h1 h2
  omega
theorem done_z {s : Nat} {a b : Int} (hs : 10 ≤ s ∧ s ≤ 17) (ha : -1000000 ≤ a ∧ a ≤ 1000000) (hb : -1000000 ≤ b ∧ b ≤ 1000000) : v_X12_doneStep (nI s) (zI a).toInt64 (zI b).toInt64 = zI (qop s a b) := by
  have ea : (zI a).toInt64.toInt = a := z64 (by omega)
  have eb : (zI b).toInt64.toInt = b := z64 (by omega)
  have esum : ((zI a).toInt64 + (zI b).toInt64).toInt = a + b := by rw [l_add (by omega), ea, eb]
  have hm := mul_b ha hb
  have c : s = 10 ∨ s = 11 ∨ s = 12 ∨ s = 13 ∨ s = 14 ∨ s = 15 ∨ s = 16 ∨ s = 17 := by omega
  have one : (1 : Int32) = zI 1 := by decide
  have zero : (0 : Int32) = zI 0 := by decide
  rcases c with rfl | rfl | rfl | rfl | rfl | rfl | rfl | rfl
  · unfold v_X12_doneStep
    rw [if_pos (by decide), bound_z, esum]; rfl
  · unfold v_X12_doneStep
    rw [if_neg (by decide), if_pos (by decide), bound_z, l_sub (by omega), ea, eb]; rfl
  · unfold v_X12_doneStep
    rw [if_neg (by decide), if_neg (by decide), if_pos (by decide), bound_z, l_mul (by rw [ea, eb]; omega), ea, eb]; rfl
  · unfold v_X12_doneStep
    rw [if_neg (by decide), if_neg (by decide), if_neg (by decide), if_pos (by decide)]
    simp only [lg_cmp_eq, fa_eq64, ea, eb]
    show _ = zI (if a = b then 1 else 0)
    split <;> assumption
  · unfold v_X12_doneStep
    rw [if_neg (by decide), if_neg (by decide), if_neg (by decide), if_neg (by decide), if_pos (by decide)]
    simp only [lg_cmp_ge, fa_le64, ea, eb]
    show _ = zI (if a < b then 1 else 0)
    by_cases h : a < b
    · rw [if_neg (by omega), if_pos h]; exact one
    · rw [if_pos (by omega), if_neg h]; exact zero
  · unfold v_X12_doneStep
    rw [if_neg (by decide), if_neg (by decide), if_neg (by decide), if_neg (by decide), if_neg (by decide), if_pos (by decide)]
    simp only [lg_cmp_le, fa_le64, ea, eb]
    show _ = zI (if b < a then 1 else 0)
    by_cases h : b < a
    · rw [if_neg (by omega), if_pos h]; exact one
    · rw [if_pos (by omega), if_neg h]; exact zero
  · unfold v_X12_doneStep
    rw [if_neg (by decide), if_neg (by decide), if_neg (by decide), if_neg (by decide), if_neg (by decide), if_neg (by decide), if_pos (by decide)]
    have h1 : (1 : Int64).toInt = 1 := by decide
    simp only [lg_cmp_le, fa_le64, esum, h1]
    show _ = zI (if 1 < a + b then 1 else 0)
    by_cases h : 1 < a + b
    · rw [if_neg (by omega), if_pos h]; exact one
    · rw [if_pos (by omega), if_neg h]; exact zero
  · unfold v_X12_doneStep
    rw [if_neg (by decide), if_neg (by decide), if_neg (by decide), if_neg (by decide), if_neg (by decide), if_neg (by decide), if_neg (by decide)]
    have h1 : (0 : Int64).toInt = 0 := by decide
    simp only [lg_cmp_le, fa_le64, esum, h1]
    show _ = zI (if 0 < a + b then 1 else 0)
    by_cases h : 0 < a + b
    · rw [if_neg (by omega), if_pos h]; exact one
    · rw [if_pos (by omega), if_neg h]; exact zero
/-- values of a kind -/
def tyV (t : Bool) (x : Int) : Prop := if t then (x = 0 ∨ x = 1) else (-1000000 ≤ x ∧ x ≤ 1000000)
def tyR : List Int → List Bool → Prop
  | [], [] => True
  | x :: s, t :: ts => tyV t x ∧ tyR s ts
  | _, _ => False
theorem tyV_b {t : Bool} {x : Int} (h : tyV t x) : -1000000 ≤ x ∧ x ≤ 1000000 := by
  cases t <;> simp [tyV] at h <;> omega
theorem tyR_len : ∀ {s : List Int} {ts : List Bool}, tyR s ts → s.length = ts.length
  | [], [], _ => rfl
  | x :: s, t :: ts, h => by simp [tyR_len h.2]
  | [], _ :: _, h => by cases h
  | _ :: _, [], h => by cases h
/-- the pile as the reference's row has it: the uppermost last -/
def pileR (I : Nat → Nat → Int32) (st : List Int) : Prop := ∀ j x, st[j]? = some x → I 49 (st.length - 1 - j) = zI x
theorem pile_nil (I : Nat → Nat → Int32) : pileR I [] := fun j x h => by simp at h
theorem pile_push {I : Nat → Nat → Int32} {st : List Int} {x : Int} {v : Int32} (h : pileR I st) (hv : v = zI x) : pileR (up2 I 49 st.length v) (x :: st) := by
  intro j y hj
  cases j with
  | zero =>
    simp at hj
    subst hj
    simp [up2, hv]
  | succ j =>
    simp at hj
    have hlt : j < st.length := (List.getElem?_eq_some_iff.mp hj).1
    have e : (x :: st).length - 1 - (j + 1) = st.length - 1 - j := by simp; omega
    rw [e]
    have hne : st.length - 1 - j ≠ st.length := by omega
    simp only [up2, if_true, if_neg hne]
    exact h j y hj
theorem pile_set {I : Nat → Nat → Int32} {t : List Int} {a x : Int} {v : Int32} (h : pileR I (a :: t)) (hv : v = zI x) : pileR (up2 I 49 t.length v) (x :: t) := by
  have ht : pileR I t := by
    intro j y hj
    have := h (j + 1) y (by simpa using hj)
    have e : (a :: t).length - 1 - (j + 1) = t.length - 1 - j := by simp; omega
    rwa [e] at this
  exact pile_push ht hv
theorem pile_tail {I : Nat → Nat → Int32} {t : List Int} {a : Int} (h : pileR I (a :: t)) : pileR I t := by
  intro j y hj
  have := h (j + 1) y (by simpa using hj)
  have e : (a :: t).length - 1 - (j + 1) = t.length - 1 - j := by simp; omega
  rwa [e] at this
theorem pile_top {I : Nat → Nat → Int32} {t : List Int} {a : Int} (h : pileR I (a :: t)) : I 49 t.length = zI a := by
  have := h 0 a (by simp)
  simpa using this
theorem Fr.up {rows : List Nat} {I I' : Nat → Nat → Int32} {a i : Nat} {v : Int32} (h : Fr rows I I') (ha : a ∈ rows) : Fr rows I (up2 I' a i v) := by
  intro b hb
  have hne : b ≠ a := fun e => hb (e ▸ ha)
  rw [← h b hb]
  funext j
  simp [up2, hne]
theorem Fr.rf {rows : List Nat} {I : Nat → Nat → Int32} : Fr rows I I := fun _ _ => rfl
theorem Fr.trans {r1 r2 r3 : List Nat} {I I' I2 : Nat → Nat → Int32} (h : Fr r1 I I') (h2 : Fr r2 I' I2) (h3 : ∀ a, a ∈ r1 ∨ a ∈ r2 → a ∈ r3) : Fr r3 I I2 := fun a ha => (h2 a (fun h => ha (h3 a (Or.inr h)))).trans (h a (fun h => ha (h3 a (Or.inl h))))
