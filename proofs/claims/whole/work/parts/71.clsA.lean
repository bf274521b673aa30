/-! the class: laws worked out -/
/-- the pile as the class's row has it: the uppermost last -/
def pileC (I : Nat → Nat → Int32) (st : List Int) : Prop := ∀ j x, st[j]? = some x → I 28 (st.length - 1 - j) = zI x
theorem cile_nil (I : Nat → Nat → Int32) : pileC I [] := fun j x h => by simp at h
theorem cile_push {I : Nat → Nat → Int32} {st : List Int} {x : Int} {v : Int32} (h : pileC I st) (hv : v = zI x) : pileC (up2 I 28 st.length v) (x :: st) := by
  intro j y hj
  cases j with
  | zero =>
    simp at hj
    subst hj
    simp [up2, hv]
  | succ j =>
    simp at hj
    have hlt : j < st.length := (List.getElem?_eq_some_iff.mp hj).1
    have e : (x :: st).length - 1 - (j + 1) = st.length - 1 - j := by simp; omega
    rw [e]
    have hne : st.length - 1 - j ≠ st.length := by omega
    simp only [up2, if_true, if_neg hne]
    exact h j y hj
theorem cile_set {I : Nat → Nat → Int32} {t : List Int} {a x : Int} {v : Int32} (h : pileC I (a :: t)) (hv : v = zI x) : pileC (up2 I 28 t.length v) (x :: t) := by
  have ht : pileC I t := by
    intro j y hj
    have := h (j + 1) y (by simpa using hj)
    have e : (a :: t).length - 1 - (j + 1) = t.length - 1 - j := by simp; omega
    rwa [e] at this
  exact cile_push ht hv
theorem cile_tail {I : Nat → Nat → Int32} {t : List Int} {a : Int} (h : pileC I (a :: t)) : pileC I t := by
  intro j y hj
  have := h (j + 1) y (by simpa using hj)
  have e : (a :: t).length - 1 - (j + 1) = t.length - 1 - j := by simp; omega
  rwa [e] at this
theorem cile_top {I : Nat → Nat → Int32} {t : List Int} {a : Int} (h : pileC I (a :: t)) : I 28 t.length = zI a := by
  have := h 0 a (by simp)
  simpa using this

def slt (m : Bool) (j : Nat) : Nat := if m then [1, 18, 10, 19, 20, 6, 0].getD j 0 else [14, 15, 16, 6, 17, 0].getD j 0
/-- a step as the class has it -/
def cst (m : Bool) (s : Nat) : Int32 := if 1000 ≤ s then nI (s - 1000) else if 100 ≤ s then nI (1000 + slt m (s - 100)) else zI (9 - (s : Int))
theorem slt_lt (m : Bool) : ∀ j, j < 7 → slt m j < 21 := by cases m <;> decide
theorem qtyp_b {m s : Nat} {r : List Nat} {ts fin : List Bool} (hs : s = 16 ∨ s = 17) (h : qtyp m (s :: r) ts = some fin) : ∃ t, ts = true :: true :: t := by
  rw [qtyp_c] at h
  rcases hs with rfl | rfl <;> rw [if_neg (by decide)] at h <;>
  · match ts, h with
    | true :: true :: t, _ => exact ⟨t, rfl⟩
    | [], h => cases h
    | [true], h => cases h
    | [false], h => cases h
    | false :: _ :: _, h => cases h
    | true :: false :: _, h => cases h
section A
variable {l : Launch} {G : Gh} {k : Nat} {I : Nat → Nat → Int32} {J : Nat → Nat → Int64} {R : Nat → Nat → Option Nat} {S : Nat → Nat × Nat} {nx : Nat} {κ : Nat → Nat} {hb pb : Nat}
theorem lcm_z {a b : Int} (ha : -2147483648 ≤ a ∧ a < 2147483648) (hb : -2147483648 ≤ b ∧ b < 2147483648) : (lg_cmp (Int32.toInt64 (zI a)) (Int32.toInt64 (zI b)) = 0) = (a = b) ∧ (lg_cmp (Int32.toInt64 (zI a)) (Int32.toInt64 (zI b)) ≤ 0) = (a ≤ b) ∧ ((0 : Int32) ≤ lg_cmp (Int32.toInt64 (zI a)) (Int32.toInt64 (zI b))) = (b ≤ a) := by
  have ea := z64 ha
  have eb := z64 hb
  refine ⟨?_, ?_, ?_⟩
  · simp only [lg_cmp_eq, fa_eq64, ea, eb]
  · simp only [lg_cmp_le, fa_le64, ea, eb]
  · simp only [lg_cmp_ge, fa_le64, ea, eb]
theorem v294 {x1 top : Nat} {x3 : Int32} {x9 : Int64} {z : Int} {Q : Res → Mem → Prop} (w : CF R S nx) (hz : x9.toInt = z) (ht : 1 ≤ top ∧ top ≤ 64) (h : hX3_valueOf_4 l G k Q x1 (nI top) (x3 + (1 : Int32)) (up2 I 28 (top - 1) (zI (qclamp z)), J, R, S, nx)) : hX3_valueOf_294 l G k Q x1 (nI top) x3 x9 (I, J, R, S, nx) := by
  have e1 : nI top - (1 : Int32) = nI (top - 1) := nI_sub1 ht.1
  have hb : vp_in (nI top - (1 : Int32)) 64 := by rw [e1]; exact vp_in_nI (by omega) (by decide)
  have a1 : (lg_cmp x9 (1000000 : Int64) ≤ 0) = (z ≤ 1000000) := by simp only [lg_cmp_le, fa_le64, hz]; rfl
  have a2 : ((0 : Int32) ≤ lg_cmp x9 (-1000000 : Int64)) = (-1000000 ≤ z) := by simp only [lg_cmp_ge, fa_le64, hz]; rfl
  refine sX3_valueOf_294 w (fun _ _ => hb) ?_ (fun _ _ => hb) ?_ (fun _ => hb) ?_
  · intro h1 h2
    rw [a1] at h1; rw [a2] at h2
    rw [e1, nI_clamp (by omega), show Int64.toInt32 x9 = zI (qclamp z) by
      apply zI_eq
      rw [show qclamp z = z by unfold qclamp; omega, Int64.toInt_toInt32, hz]
      exact Int.bmod_eq_of_le (by omega) (by omega)]
    exact h
  · intro h1 h2
    rw [a1] at h1; rw [a2] at h2
    rw [e1, nI_clamp (by omega), show Int64.toInt32 (-1000000 : Int64) = zI (qclamp z) by rw [show qclamp z = -1000000 by unfold qclamp; omega]; rfl]
    exact h
  · intro h1
    rw [a1] at h1
    rw [e1, nI_clamp (by omega), show Int64.toInt32 (1000000 : Int64) = zI (qclamp z) by rw [show qclamp z = 1000000 by unfold qclamp; omega]; rfl]
    exact h
theorem cst_n {m : Bool} {s : Nat} (h : 1000 ≤ s) : cst m s = nI (s - 1000) := by unfold cst; rw [if_pos h]
theorem cst_w {m : Bool} {s : Nat} (h : 100 ≤ s) (h2 : s < 1000) : cst m s = nI (1000 + slt m (s - 100)) := by unfold cst; rw [if_neg (by omega), if_pos h]
theorem valueOf_c {x1 nn mm : Nat} {m t : Bool} {ask : Nat → Int} {steps : List Nat} (w : CF R S nx) (ha : S x1 = (100, nn)) (hl : x1 < nx) (h28 : x1 ≠ 28) (hn : steps.length = nn) (hle : nn ≤ 900) (hst : ∀ i s, steps[i]? = some s → I x1 i = cst m s) (ht : qtyp mm steps [] = some [t]) (hmm : mm ≤ 7) (hask : ∀ j, j < mm → I 27 (slt m j) = zI (ask j) ∧ -1000000 ≤ ask j ∧ ask j ≤ 1000000) :
    Cal l G k 0 0 mX3_valueOf [.ref 26, .ref x1] (I, J, R, S, nx) (fun r μ' => r = .inl (some (.int (zI (qval ask steps)))) ∧ ∃ I', μ' = (I', J, R, S, nx) ∧ Fr [28] I I' ∧ tyV t (qval ask steps)) := by
  refine Cal.of rfl (by decide +kernel) (by simp) (Nat.le_of_ble_eq_true rfl) rfl (sX3_valueOf_0 ?_)
  have key : ∀ (d i : Nat) (st : List Int) (ts : List Bool) (I1 : Nat → Nat → Int32), i + d = nn → Fr [28] I I1 → tyR st ts → ts.length ≤ 64 → pileC I1 st → qtyp mm (steps.drop i) ts = some [t] → qrun ask (steps.drop i) st = qrun ask steps [] →
      hX3_valueOf_4 l G k (fun r μ' => r = .inl (some (.int (zI (qval ask steps)))) ∧ ∃ I', μ' = (I', J, R, S, nx) ∧ Fr [28] I I' ∧ tyV t (qval ask steps)) x1 (nI st.length) (nI i) (I1, J, R, S, nx) := by
    intro d
    induction d with
    | zero =>
      intro i st ts I1 hd hF hty hl64 hp hq hr
      have hdr : steps.drop i = [] := List.drop_of_length_le (by omega)
      rw [hdr] at hq hr
      have hts : ts = [t] := Option.some.inj hq
      subst hts
      have c1 : Int32.ofNat nn ≤ nI i := nI_le (a := nn) (by omega) (by omega)
      match st, hty with
      | [x], hty =>
        have c2 : ¬ nI ([x] : List Int).length ≤ 0 := nI_nle (n := 1) (by decide) (by decide)
        have e0 : I1 28 0 = zI x := cile_top hp
        have ev : qval ask steps = x := by unfold qval; rw [← hr]; rfl
        refine sX3_valueOf_4 ha hl w ?_ ?_ ?_ ?_ ?_ ?_ ?_ ?_ ?_ ?_ ?_ ?_ <;> intros <;> (first | exact absurd (by with_reducible assumption) c1 | exact absurd c1 (by with_reducible assumption) | exact absurd (by with_reducible assumption) c2 | exact absurd c2 (by with_reducible assumption) | skip)
        exact ⟨by rw [e0, ev], _, rfl, hF, by rw [ev]; exact hty.1⟩
    | succ d ih =>
      intro i st ts I1 hd hF hty hl64 hp hq hr
      have hi : i < steps.length := by omega
      obtain ⟨s, hs⟩ : ∃ s, steps[i] = s := ⟨_, rfl⟩
      have hdr : steps.drop i = s :: steps.drop (i + 1) := by rw [List.drop_eq_getElem_cons hi, hs]
      rw [hdr] at hq hr
      have hlen := tyR_len hty
      have c1 : ¬ Int32.ofNat nn ≤ nI i := nI_ge (b := nn) (by omega) (by omega)
      have ex : I1 x1 (nI i).toNatClampNeg = cst m s := by
        rw [nI_clamp (by omega), hF x1 (by simp [h28])]
        exact hst i s (by rw [List.getElem?_eq_getElem hi, hs])
      have hb1 : vp_in (nI i) nn := vp_in_nI (by omega) (by omega)
      rcases qtyp_inv hq with ⟨h1, h2, h3, h4⟩ | ⟨h1, tt, h2, h3⟩ | ⟨h1, h2, a, b, tt, h3, h4, h5⟩
      · -- a number or a word
        rw [qrun_push h1] at hr
        have hlt : st.length < 64 := by omega
        have c3 : ¬ Int32.ofNat 64 ≤ nI st.length := nI_ge (b := 64) hlt (by decide)
        have hb2 : vp_in (nI st.length) 64 := vp_in_nI hlt (by decide)
        by_cases cn : 1000 ≤ s
        · have hv : s - 1000 ≤ 999 := by omega
          rw [if_pos cn] at hr
          have ec := cst_n (m := m) cn
          have d1 : ¬ I1 x1 (nI i).toNatClampNeg < 0 := by rw [ex, ec]; exact nI_nneg (by omega)
          have d2 : I1 x1 (nI i).toNatClampNeg - (1000 : Int32) < Int32.ofNat 21 := by
            rw [ex, ec, show (1000 : Int32) = nI 1000 from rfl, nI_z, nI_z, zI_sub, fa_lt, zI_toInt (by omega), show (Int32.ofNat 21).toInt = 21 by decide]; omega
          have d3 : ¬ (1000 : Int32) ≤ I1 x1 (nI i).toNatClampNeg := by rw [ex, ec]; exact nI_ge (b := 1000) (by omega) (by decide)
          refine sX3_valueOf_4 ha hl w ?_ ?_ ?_ ?_ ?_ ?_ ?_ ?_ ?_ ?_ ?_ ?_ <;> intros <;> (first | exact absurd (by with_reducible assumption) c1 | exact absurd c1 (by with_reducible assumption) | exact absurd (by with_reducible assumption) d1 | exact absurd d1 (by with_reducible assumption) | exact absurd (by with_reducible assumption) c3 | exact absurd c3 (by with_reducible assumption) | exact absurd (by with_reducible assumption) d2 | exact absurd d2 (by with_reducible assumption) | exact absurd (by with_reducible assumption) d3 | exact absurd d3 (by with_reducible assumption) | skip)
          · exact hb1
          · exact hb2
          · rw [nI_1, nI_1, nI_clamp (by omega), ex, ec]
            exact ih (i + 1) (((s - 1000 : Nat) : Int) :: st) (false :: ts) _ (by omega) (hF.up (by decide)) ⟨by show -1000000 ≤ ((s - 1000 : Nat) : Int) ∧ ((s - 1000 : Nat) : Int) ≤ 1000000; omega, hty⟩ (by simp; omega) (cile_push hp rfl) h4 hr
        · have hj : s - 100 < mm := by omega
          rw [if_neg cn] at hr
          have hsl := slt_lt m (s - 100) (by omega)
          have ec := cst_w (m := m) h1 (by omega : s < 1000)
          obtain ⟨k1, k2, k3⟩ := hask (s - 100) hj
          have d1 : ¬ I1 x1 (nI i).toNatClampNeg < 0 := by rw [ex, ec]; exact nI_nneg (by omega)
          have e10 : I1 x1 (nI i).toNatClampNeg - (1000 : Int32) = nI (slt m (s - 100)) := by
            rw [ex, ec, show (1000 : Int32) = nI 1000 from rfl, pk_sub (by omega), show 1000 + slt m (s - 100) - 1000 = slt m (s - 100) by omega]
          have d2 : I1 x1 (nI i).toNatClampNeg - (1000 : Int32) < Int32.ofNat 21 := by rw [e10]; exact nI_lt (b := 21) hsl (by decide)
          have d3 : (1000 : Int32) ≤ I1 x1 (nI i).toNatClampNeg := by rw [ex, ec]; exact nI_le (a := 1000) (by omega) (by omega)
          refine sX3_valueOf_4 ha hl w ?_ ?_ ?_ ?_ ?_ ?_ ?_ ?_ ?_ ?_ ?_ ?_ <;> intros <;> (first | exact absurd (by with_reducible assumption) c1 | exact absurd c1 (by with_reducible assumption) | exact absurd (by with_reducible assumption) d1 | exact absurd d1 (by with_reducible assumption) | exact absurd (by with_reducible assumption) c3 | exact absurd c3 (by with_reducible assumption) | exact absurd (by with_reducible assumption) d2 | exact absurd d2 (by with_reducible assumption) | exact absurd (by with_reducible assumption) d3 | exact absurd d3 (by with_reducible assumption) | skip)
          · exact hb1
          · rw [e10]; exact vp_in_nI hsl (by decide)
          · exact hb2
          · rw [nI_1, nI_1, e10, nI_clamp (by omega), nI_clamp (by omega), hF 27 (by decide), k1]
            exact ih (i + 1) (ask (s - 100) :: st) (false :: ts) _ (by omega) (hF.up (by decide)) ⟨⟨k2, k3⟩, hty⟩ (by simp; omega) (cile_push hp rfl) h4 hr
      · -- the opposite
        subst h1
        subst h2
        match st, hty with
        | x :: st', hty =>
          rw [qrun_not] at hr
          have hx := hty.1
          have hx01 : x = 0 ∨ x = 1 := hx
          have ec : cst m 18 = (-9 : Int32) := by unfold cst; rw [if_neg (by decide), if_neg (by decide)]; rfl
          have d1 : I1 x1 (nI i).toNatClampNeg < 0 := by rw [ex, ec]; decide
          have d2 : I1 x1 (nI i).toNatClampNeg = (-9 : Int32) := by rw [ex, ec]
          refine sX3_valueOf_4 ha hl w ?_ ?_ ?_ ?_ ?_ ?_ ?_ ?_ ?_ ?_ ?_ ?_ <;> intros <;> (first | exact absurd (by with_reducible assumption) c1 | exact absurd c1 (by with_reducible assumption) | exact absurd (by with_reducible assumption) d1 | exact absurd d1 (by with_reducible assumption) | exact absurd (by with_reducible assumption) d2 | exact absurd d2 (by with_reducible assumption) | skip)
          · exact hb1
          · rw [ex, ec]
            have hle2 : (x :: st').length ≤ 64 := by rw [hlen]; exact hl64
            have e0 : nI (x :: st').length - (0 : Int32) = nI (x :: st').length := by rw [show (0 : Int32) = nI 0 from rfl, pk_sub (Nat.zero_le _)]; rfl
            have f1 : (1 : Int32) ≤ nI (x :: st').length - (0 : Int32) := by rw [e0]; exact nI_le (a := 1) (by simp) (by omega)
            have et : I1 28 (nI (x :: st').length - (0 : Int32) - (1 : Int32)).toNatClampNeg = zI x := by
              rw [e0, nI_sub1 (by simp), nI_clamp (by simp at hle2 ⊢; omega)]
              exact cile_top hp
            have hv : ((1 : Int64) - Int32.toInt64 (zI x)).toInt = 1 - x := by
              rcases hx01 with rfl | rfl <;> rfl
            have go := v294 (l := l) (G := G) (k := k) (I := I1) (J := J) (x1 := x1) (top := (x :: st').length) (x3 := nI i) (x9 := (1 : Int64) - Int32.toInt64 (zI x)) (Q := (fun r μ' => r = .inl (some (.int (zI (qval ask steps)))) ∧ ∃ I', μ' = (I', J, R, S, nx) ∧ Fr [28] I I' ∧ tyV t (qval ask steps))) w hv ⟨by simp, hle2⟩ (by
              rw [nI_1, show (x :: st').length - 1 = st'.length by simp, show qclamp (1 - x) = 1 - x by unfold qclamp; omega]
              exact ih (i + 1) ((1 - x) :: st') (true :: tt) _ (by omega) (hF.up (by decide)) ⟨by show 1 - x = 0 ∨ 1 - x = 1; omega, hty.2⟩ hl64 (cile_set hp rfl) h3 hr)
            refine sX3_valueOf_94 w ?_ ?_ ?_ ?_ ?_ ?_ ?_ ?_ ?_ ?_ ?_ ?_ ?_ ?_ ?_ ?_ ?_ ?_ ?_ ?_ ?_ ?_ ?_ ?_ ?_ ?_ ?_ <;> intros <;> (first | exact absurd (by with_reducible assumption) f1 | exact absurd f1 (by with_reducible assumption) | skip) <;> (first | (rename_i h; exact absurd h (by decide)) | (rename_i h _; exact absurd h (by decide)) | (rename_i h _ _; exact absurd h (by decide)) | skip)
            · rw [e0, nI_sub1 (by simp)]; exact vp_in_nI (by simp at hle2 ⊢; omega) (by decide)
            · rw [et, e0]; exact go
      · -- two joined
        subst h3
        match st, hty with
        | y :: x :: st', hty =>
          rw [qrun_op h2] at hr
          have hy := hty.1
          have hx := hty.2.1
          have by1 := tyV_b hy
          have bx1 := tyV_b hx
          have hle2 : (y :: x :: st').length ≤ 64 := by rw [hlen]; exact hl64
          have ec : cst m s = zI (9 - (s : Int)) := by unfold cst; rw [if_neg (by omega), if_neg (by omega)]
          have d1 : I1 x1 (nI i).toNatClampNeg < 0 := by rw [ex, ec, fa_lt, zI_toInt (by omega), show (0 : Int32).toInt = 0 by decide]; omega
          have d2 : ¬ I1 x1 (nI i).toNatClampNeg = (-9 : Int32) := by rw [ex, ec, fa_eq, zI_toInt (by omega), show (-9 : Int32).toInt = -9 by decide]; omega
          have el : (y :: x :: st').length = st'.length + 2 := rfl
          have e0 : nI (y :: x :: st').length - (1 : Int32) = nI (st'.length + 1) := nI_sub1 (by simp)
          have f1 : (1 : Int32) ≤ nI (y :: x :: st').length - (1 : Int32) := by rw [e0]; exact nI_le (a := 1) (by omega) (by rw [el] at hle2; omega)
          have e00 : nI (st'.length + 1) - (1 : Int32) = nI st'.length := nI_sub1 (by omega)
          have ea : I1 28 (nI (y :: x :: st').length - (1 : Int32) - (1 : Int32)).toNatClampNeg = zI x := by
            rw [e0, e00, nI_clamp (by rw [el] at hle2; omega)]
            exact cile_top (cile_tail hp)
          have eb : I1 28 (nI (y :: x :: st').length - (1 : Int32)).toNatClampNeg = zI y := by
            rw [e0, nI_clamp (by rw [el] at hle2; omega)]
            exact cile_top hp
          have hm := mul_b bx1 by1
          have xa : (zI x).toInt64.toInt = x := z64 (by omega)
          have xb1 : (zI y).toInt64.toInt = y := z64 (by omega)
          obtain ⟨q1, q2, q3⟩ := lcm_z (a := x) (b := y) (by omega) (by omega)
          -- what comes behind it
          have go : ∀ (v : Int64) (z : Int), v.toInt = z → qclamp z = qop s x y → hX3_valueOf_294 l G k (fun r μ' => r = .inl (some (.int (zI (qval ask steps)))) ∧ ∃ I', μ' = (I', J, R, S, nx) ∧ Fr [28] I I' ∧ tyV t (qval ask steps)) x1 (nI (y :: x :: st').length - (1 : Int32)) (nI i) v (I1, J, R, S, nx) := by
            intro v z hv hz
            rw [e0]
            refine v294 w hv ⟨by omega, by rw [el] at hle2; omega⟩ ?_
            rw [nI_1, hz, show st'.length + 1 - 1 = st'.length by omega]
            exact ih (i + 1) (qop s x y :: st') (b :: tt) _ (by omega) (hF.up (by decide)) ⟨h5 x y hx hy, hty.2.2⟩ (by simp at hl64 ⊢; omega) (by
              have := cile_set (v := zI (qop s x y)) (x := qop s x y) (cile_tail hp) rfl
              exact this) h4 hr
          have one : qclamp 1 = 1 := by decide
          have zero : qclamp 0 = 0 := by decide
          refine sX3_valueOf_4 ha hl w ?_ ?_ ?_ ?_ ?_ ?_ ?_ ?_ ?_ ?_ ?_ ?_ <;> intros <;> (first | exact absurd (by with_reducible assumption) c1 | exact absurd c1 (by with_reducible assumption) | exact absurd (by with_reducible assumption) d1 | exact absurd d1 (by with_reducible assumption) | exact absurd (by with_reducible assumption) d2 | exact absurd d2 (by with_reducible assumption) | skip)
          · exact hb1
          · rw [ex, ec]
            have hbA : vp_in (nI (y :: x :: st').length - (1 : Int32) - (1 : Int32)) 64 := by rw [e0, e00]; exact vp_in_nI (by rw [el] at hle2; omega) (by decide)
            have hbB : vp_in (nI (y :: x :: st').length - (1 : Int32)) 64 := by rw [e0]; exact vp_in_nI (by rw [el] at hle2; omega) (by decide)
            have c : s = 10 ∨ s = 11 ∨ s = 12 ∨ s = 13 ∨ s = 14 ∨ s = 15 ∨ s = 16 ∨ s = 17 := by omega
            rcases c with rfl | rfl | rfl | rfl | rfl | rfl | rfl | rfl
            all_goals
              refine sX3_valueOf_94 w ?_ ?_ ?_ ?_ ?_ ?_ ?_ ?_ ?_ ?_ ?_ ?_ ?_ ?_ ?_ ?_ ?_ ?_ ?_ ?_ ?_ ?_ ?_ ?_ ?_ ?_ ?_ <;> intros <;> (first | exact absurd (by with_reducible assumption) f1 | exact absurd f1 (by with_reducible assumption) | skip) <;> (first | (rename_i h; exact absurd h (by decide)) | (rename_i h _; exact absurd h (by decide)) | (rename_i h _ _; exact absurd h (by decide)) | exact hbA | exact hbB | skip)
            · rw [ea, eb]; exact go _ (x + y) (by rw [l_add (by omega), xa, xb1]) rfl
            · rw [ea, eb]; exact go _ (x - y) (by rw [l_sub (by omega), xa, xb1]) rfl
            · rw [ea, eb]; exact go _ (x * y) (by rw [l_mul (by rw [xa, xb1]; omega), xa, xb1]) rfl
            · rename_i h; rw [ea, eb, q1] at h; exact go _ 0 rfl (by rw [zero]; show 0 = if x = y then (1 : Int) else 0; rw [if_neg h])
            · rename_i h; rw [ea, eb, q1] at h; exact go _ 1 rfl (by rw [one]; show 1 = if x = y then (1 : Int) else 0; rw [if_pos h])
            · rename_i h; rw [ea, eb, q3] at h; exact go _ 0 rfl (by rw [zero]; show 0 = if x < y then (1 : Int) else 0; rw [if_neg (by omega)])
            · rename_i h; rw [ea, eb, q3] at h; exact go _ 1 rfl (by rw [one]; show 1 = if x < y then (1 : Int) else 0; rw [if_pos (by omega)])
            · rename_i h; rw [ea, eb, q2] at h; exact go _ 0 rfl (by rw [zero]; show 0 = if y < x then (1 : Int) else 0; rw [if_neg (by omega)])
            · rename_i h; rw [ea, eb, q2] at h; exact go _ 1 rfl (by rw [one]; show 1 = if y < x then (1 : Int) else 0; rw [if_pos (by omega)])
            · obtain ⟨_, hh⟩ := qtyp_b (Or.inl rfl) hq
              have ha1 : a = true := by injection hh
              subst ha1
              have x01 : x = 0 ∨ x = 1 := hx
              have y01 : y = 0 ∨ y = 1 := hy
              rw [ea, eb]
              rcases x01 with rfl | rfl <;> rcases y01 with rfl | rfl
              · exact go _ 0 rfl rfl
              · exact go _ 0 rfl rfl
              · exact go _ 0 rfl rfl
              · exact go _ 1 rfl rfl
            · obtain ⟨_, hh⟩ := qtyp_b (Or.inr rfl) hq
              have ha1 : a = true := by injection hh
              subst ha1
              have x01 : x = 0 ∨ x = 1 := hx
              have y01 : y = 0 ∨ y = 1 := hy
              rw [ea, eb]
              rcases x01 with rfl | rfl <;> rcases y01 with rfl | rfl
              · exact go _ 0 rfl rfl
              · exact go _ 1 rfl rfl
              · exact go _ 1 rfl rfl
              · exact go _ 1 rfl rfl
  exact key nn 0 [] [] I (by omega) Fr.rf trivial (by decide) (cile_nil I) ht rfl
end A
