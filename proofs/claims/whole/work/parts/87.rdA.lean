/-! the class: tokens -/
/-- a byte as the class's tape has it -/
def sby (v : Nat) : Int32 := (nI v).toInt8.toInt32
theorem sb_sp : ∀ v, v < 256 → (qspc v = true ↔ (sby v = 10 ∨ sby v = 32)) := by decide +kernel
theorem sb_let : ∀ v, v < 256 → (qlet v = true ↔ (¬ sby v < 97 ∧ ¬ (122 : Int32) < sby v)) := by decide +kernel
theorem sb_dig : ∀ v, v < 256 → (qdig v = true ↔ (¬ sby v < 48 ∧ ¬ (57 : Int32) < sby v)) := by decide +kernel
theorem sb_sgn : ∀ v, v < 256 → (v_X6_isSign (sby v) = 0 ↔ qsgn v = false) ∧ (qsgn v = true → sby v = nI v) := by decide +kernel
theorem sb_lo : ∀ v, v < 256 → (v < 128 → sby v = nI v) ∧ (128 ≤ v → sby v < 0) := by decide +kernel
theorem sb_eq {v c : Nat} (hv : v < 256) (hc : c < 128) : (sby v = nI c) = (v = c) := by
  obtain ⟨h1, h2⟩ := sb_lo v hv
  apply propext
  by_cases h : v < 128
  · rw [h1 h]; exact nI_eq (by omega) (by omega)
  · constructor
    · intro g
      have := h2 (by omega)
      rw [g] at this
      exact absurd this (nI_nneg (by omega))
    · intro g; omega
/-- what a reader's step may change: rows, fields of the reader -/
def F1 (rs fs : List Nat) (I I' : Nat → Nat → Int32) : Prop := (∀ a, a ≠ 1 → a ∉ rs → I' a = I a) ∧ ∀ f, f ∉ fs → I' 1 f = I 1 f
/-- the tape -/
def CT (I : Nat → Nat → Int32) (t : Nat → Nat) (n : Nat) : Prop := I 1 2 = nI n ∧ (∀ j, j < n → I 2 j = sby (t j)) ∧ Tx t n
/-- the token -/
def Ck (I : Nat → Nat → Int32) (s : Tok) : Prop := I 1 3 = nI s.1 ∧ I 1 5 = nI s.2.1 ∧ I 1 4 = nI s.2.2.1 ∧ (s.2.2.1 = 256 → I 1 6 = nI s.2.2.2)
def off (j : Nat) : Nat := ((wds.take j).map (fun w => w.length + 1)).sum
theorem off_s : ∀ j, j < 21 → off (j + 1) = off j + ((wds.getD j []).length + 1) ∧ off (j + 1) ≤ (tx 1).length ∧ (tx 1).getD (off j + (wds.getD j []).length) 0 = 32 := by decide +kernel
theorem off_c : ∀ j, j < 21 → ∀ i, i < 8 → i < (wds.getD j []).length → (tx 1).getD (off j + i) 0 = nI ((wds.getD j []).getD i 0) ∧ 97 ≤ (wds.getD j []).getD i 0 ∧ (wds.getD j []).getD i 0 ≤ 122 := by decide +kernel
theorem off_l : off 21 = (tx 1).length ∧ (tx 1).length < 200 ∧ off 0 = 0 := by decide +kernel
theorem qwrd_iff {t : Nat → Nat} {b e : Nat} {w : List Nat} : qwrd t b e = w ↔ e - b = w.length ∧ ∀ i, i < w.length → t (b + i) = w.getD i 0 := by
  have hql : (qwrd t b e).length = e - b := by unfold qwrd; simp
  have hqi : ∀ i, i < e - b → (qwrd t b e)[i]? = some (t (b + i)) := fun i hi => by unfold qwrd; rw [List.getElem?_map, List.getElem?_range hi]; rfl
  constructor
  · intro h
    rw [h] at hql hqi
    refine ⟨hql.symm, fun i hi => ?_⟩
    have := hqi i (by omega)
    rw [List.getD_eq_getElem?_getD, this]; rfl
  · intro ⟨h1, h2⟩
    apply List.ext_getElem?
    intro i
    by_cases ci : i < w.length
    · rw [hqi i (by omega), h2 i ci, List.getD_eq_getElem?_getD, List.getElem?_eq_getElem ci]; rfl
    · rw [List.getElem?_eq_none (by rw [hql]; omega), List.getElem?_eq_none (by omega)]
theorem qwc_no {w : List Nat} (h : ∀ j, j < 21 → w ≠ wds.getD j []) : qwc w = 299 := by
  have hg := qwc_ge w
  by_cases c : 300 ≤ qwc w
  · have := (qwc_iff (qwc w - 300) (by omega) w).mp (by omega)
    exact absurd this (h _ (by omega))
  · omega
section A
variable {l : Launch} {G : Gh} {k : Nat} {I : Nat → Nat → Int32} {J : Nat → Nat → Int64} {R : Nat → Nat → Option Nat} {S : Nat → Nat × Nat} {nx : Nat} {κ : Nat → Nat} {hb pb : Nat}
theorem F1.rf {rs fs : List Nat} : F1 rs fs I I := ⟨fun _ _ _ => rfl, fun _ _ => rfl⟩
theorem F1.tr {r1 r2 r3 f1 f2 f3 : List Nat} {I1 I2 : Nat → Nat → Int32} (h : F1 r1 f1 I I1) (h2 : F1 r2 f2 I1 I2) (hr : ∀ a ∈ r1 ++ r2, a ∈ r3) (hf : ∀ a ∈ f1 ++ f2, a ∈ f3) : F1 r3 f3 I I2 :=
  ⟨fun a x y => (h2.1 a x (fun g => y (hr a (List.mem_append.mpr (Or.inr g))))).trans (h.1 a x (fun g => y (hr a (List.mem_append.mpr (Or.inl g))))), fun f x => (h2.2 f (fun g => x (hf f (List.mem_append.mpr (Or.inr g))))).trans (h.2 f (fun g => x (hf f (List.mem_append.mpr (Or.inl g)))))⟩
theorem F1.t {rs fs : List Nat} {I1 I2 : Nat → Nat → Int32} (h : F1 rs fs I I1) (h2 : F1 rs fs I1 I2) : F1 rs fs I I2 := ⟨fun a x y => (h2.1 a x y).trans (h.1 a x y), fun f x => (h2.2 f x).trans (h.2 f x)⟩
theorem F1.wk {r1 r2 f1 f2 : List Nat} {I1 : Nat → Nat → Int32} (h : F1 r1 f1 I I1) (hr : ∀ a ∈ r1, a ∈ r2) (hf : ∀ a ∈ f1, a ∈ f2) : F1 r2 f2 I I1 := ⟨fun a x y => h.1 a x (fun g => y (hr a g)), fun f x => h.2 f (fun g => x (hf f g))⟩
theorem F1.up {rs fs : List Nat} {I1 : Nat → Nat → Int32} {a i : Nat} {v : Int32} (h : F1 rs fs I I1) (ha : a ∈ rs) (h4 : a ≠ 1) : F1 rs fs I (up2 I1 a i v) := by
  refine ⟨fun b x y => ?_, fun f x => ?_⟩
  · rw [← h.1 b x y]; funext j; unfold up2; rw [if_neg (fun g => y (by rw [g]; exact ha))]
  · rw [← h.2 f x]; unfold up2; rw [if_neg (fun g => h4 g.symm)]
theorem F1.uf {rs fs : List Nat} {I1 : Nat → Nat → Int32} {f : Nat} {v : Int32} (h : F1 rs fs I I1) (hf : f ∈ fs) : F1 rs fs I (up2 I1 1 f v) := by
  refine ⟨fun b x y => ?_, fun g x => ?_⟩
  · rw [← h.1 b x y]; funext j; unfold up2; rw [if_neg x]
  · rw [← h.2 g x]; unfold up2; rw [if_pos rfl, if_neg (fun e => x (by rw [e]; exact hf))]
variable {t : Nat → Nat} {n : Nat}
theorem CT.f1 {rs fs : List Nat} {I' : Nat → Nat → Int32} (h : CT I t n) (hF : F1 rs fs I I') (h1 : 2 ∉ rs) (h2 : 2 ∉ fs) : CT I' t n :=
  ⟨by rw [hF.2 2 h2]; exact h.1, by rw [hF.1 2 (by decide) h1]; exact h.2.1, h.2.2⟩
theorem Ck.f1 {rs fs : List Nat} {I' : Nat → Nat → Int32} {s : Tok} (h : Ck I s) (hF : F1 rs fs I I') (h2 : 3 ∉ fs ∧ 4 ∉ fs ∧ 5 ∉ fs ∧ 6 ∉ fs) : Ck I' s :=
  ⟨by rw [hF.2 3 h2.1]; exact h.1, by rw [hF.2 5 h2.2.2.1]; exact h.2.1, by rw [hF.2 4 h2.2.1]; exact h.2.2.1, by rw [hF.2 6 h2.2.2.2]; exact h.2.2.2⟩
theorem skip_c {a b : Int32} {q : Nat → Bool} {h : Nat} (w : CF R S nx) (hT : CT I t n) (hq : ∀ v, v < 256 → (q v = true ↔ (¬ sby v < a ∧ ¬ b < sby v))) (h3 : I 1 3 = nI h) (hh : h ≤ n) : Cal l G k 0 0 mX6_skip [.ref 1, .int a, .int b] (I, J, R, S, nx) (fun r μ' => r = .inl none ∧ ∃ I', μ' = (I', J, R, S, nx) ∧ F1 [] [3] I I' ∧ I' 1 3 = nI (qsk (fun j => q (t j)) (n - h) h)) := by
  have hn := hT.2.2.1
  obtain ⟨e, he⟩ : ∃ e, qsk (fun j => q (t j)) (n - h) h = e := ⟨_, rfl⟩
  rw [he]
  have key : ∀ (d h1 : Nat) (I1 : Nat → Nat → Int32), h1 + d = n → F1 [] [3] I I1 → I1 1 3 = nI h1 → qsk (fun j => q (t j)) (n - h1) h1 = e → hX6_skip_0 l G k (fun r μ' => r = .inl none ∧ ∃ I', μ' = (I', J, R, S, nx) ∧ F1 [] [3] I I' ∧ I' 1 3 = nI e) a b (I1, J, R, S, nx) := by
    intro d
    induction d with
    | zero =>
      intro h1 I1 hd hF h31 hqe
      have hT1 := hT.f1 hF (by decide) (by decide)
      have c1 : I1 1 2 ≤ I1 1 3 := by rw [hT1.1, h31]; exact nI_le (by omega) (by omega)
      refine sX6_skip_0 w ?_ ?_ ?_ ?_ ?_ ?_ <;> intros <;> (first | exact absurd (by with_reducible assumption) c1 | exact absurd c1 (by with_reducible assumption) | skip)
      exact ⟨rfl, _, rfl, hF, by rw [h31, ← hqe, show n - h1 = 0 by omega]; rfl⟩
    | succ d ih =>
      intro h1 I1 hd hF h31 hqe
      have hT1 := hT.f1 hF (by decide) (by decide)
      have c1 : ¬ I1 1 2 ≤ I1 1 3 := by rw [hT1.1, h31]; exact nI_ge (by omega) (by omega)
      have hv : I1 2 (I1 1 3).toNatClampNeg = sby (t h1) := by rw [h31, nI_clamp (by omega)]; exact hT1.2.1 h1 (by omega)
      have hb : vp_in (I1 1 3) 900 := by rw [h31]; exact vp_in_nI (by omega) (by decide)
      have hq1 := hq (t h1) (hT.2.2.2 h1 (by omega))
      rw [← hv] at hq1
      have stop : q (t h1) = false → (fun r μ' => r = .inl none ∧ ∃ I', μ' = (I', J, R, S, nx) ∧ (F1 [] [3] I I' ∧ I' 1 3 = nI e) : Res → Mem → Prop) (.inl none) (I1, J, R, S, nx) := fun g => ⟨rfl, _, rfl, hF, by rw [h31, ← hqe, qsk_n (p := fun j => q (t j)) g]⟩
      refine sX6_skip_0 w ?_ (fun _ => hb) ?_ (fun _ _ => hb) ?_ ?_
      · intro g; exact absurd g c1
      · intro _ g
        refine stop ?_
        cases hc : q (t h1) with
        | false => rfl
        | true => exact absurd g (hq1.mp hc).1
      · intro _ _ g
        refine stop ?_
        cases hc : q (t h1) with
        | false => rfl
        | true => exact absurd g (hq1.mp hc).2
      · intro _ g1 g2
        refine ih (h1 + 1) _ (by omega) (hF.uf (by decide)) (by simp [up2]; rw [h31, nI_1]) ?_
        rw [qsk_y (p := fun j => q (t j)) (f := n - h1) (h := h1) (by omega) (hq1.mpr ⟨g1, g2⟩)] at hqe
        rw [show n - (h1 + 1) = n - h1 - 1 by omega]; exact hqe
  exact Cal.of rfl (by decide +kernel) (by simp) (Nat.le_of_ble_eq_true rfl) rfl (key (n - h) h I (by omega) F1.rf h3 he)
theorem numberHere_c {b e : Nat} (w : CF R S nx) (hT : CT I t n) (h3 : I 1 3 = nI e) (h5 : I 1 5 = nI b) (hbe : b ≤ e ∧ e ≤ n) (hd : ∀ j, b ≤ j → j < e → qdig (t j) = true) : Cal l G k 0 0 mX6_numberHere [.ref 1] (I, J, R, S, nx) (fun r μ' => r = .inl (some (.int (nI (qnum t b (min 3 (e - b)))))) ∧ ∃ I', μ' = (I', J, R, S, nx) ∧ I' = I) := by
  have hn := hT.2.2.1
  refine Cal.of rfl (by decide +kernel) (by simp) (Nat.le_of_ble_eq_true rfl) rfl (sX6_numberHere_0 w ?_)
  rw [h5]
  have e3 : I 1 5 + (3 : Int32) = nI (b + 3) := by rw [h5]; exact nI_add b 3
  refine upto (σ := Unit) (W := fun i _ => hX6_numberHere_7 l G k _ (nI (qnum t b i)) (nI (b + i)) (I, J, R, S, nx)) (P := fun i _ => True) (min 3 (e - b)) ?_ ?_ (i := 0) (s := ()) (Nat.zero_le _) trivial
  · intro _ _
    have fin : (fun r μ' => r = .inl (some (.int (nI (qnum t b (min 3 (e - b)))))) ∧ ∃ I', μ' = (I', J, R, S, nx) ∧ I' = I : Res → Mem → Prop) (.inl (some (.int (nI (qnum t b (min 3 (e - b))))))) (I, J, R, S, nx) := ⟨rfl, _, rfl, rfl⟩
    by_cases c : e - b ≤ 3
    · have c1 : I 1 3 ≤ nI (b + min 3 (e - b)) := by rw [h3]; exact nI_le (by omega) (by omega)
      refine sX6_numberHere_7 w ?_ ?_ ?_ ?_ <;> intros <;> (first | exact absurd (by with_reducible assumption) c1 | exact absurd c1 (by with_reducible assumption) | skip)
      exact fin
    · have c1 : ¬ I 1 3 ≤ nI (b + min 3 (e - b)) := by rw [h3]; exact nI_ge (by omega) (by omega)
      have c2 : I 1 5 + (3 : Int32) ≤ nI (b + min 3 (e - b)) := by rw [e3]; exact nI_le (by omega) (by omega)
      refine sX6_numberHere_7 w ?_ ?_ ?_ ?_ <;> intros <;> (first | exact absurd (by with_reducible assumption) c1 | exact absurd c1 (by with_reducible assumption) | exact absurd (by with_reducible assumption) c2 | exact absurd c2 (by with_reducible assumption) | skip)
      exact fin
  · intro i _ hi _ ih
    have c1 : ¬ I 1 3 ≤ nI (b + i) := by rw [h3]; exact nI_ge (by omega) (by omega)
    have c2 : ¬ I 1 5 + (3 : Int32) ≤ nI (b + i) := by rw [e3]; exact nI_ge (by omega) (by omega)
    have hdi := hd (b + i) (by omega) (by omega)
    have hdi2 := hdi
    unfold qdig at hdi2
    rw [decide_eq_true_eq] at hdi2
    refine sX6_numberHere_7 w ?_ ?_ ?_ ?_ <;> intros <;> (first | exact absurd (by with_reducible assumption) c1 | exact absurd c1 (by with_reducible assumption) | exact absurd (by with_reducible assumption) c2 | exact absurd c2 (by with_reducible assumption) | skip)
    · exact vp_in_nI (by omega) (by decide)
    · have hx := ih () trivial
      rw [nI_1, nI_clamp (by omega), hT.2.1 (b + i) (by omega), (sb_lo _ (hT.2.2.2 _ (by omega))).1 (by omega), show (10 : Int32) = nI 10 from rfl, show (48 : Int32) = nI 48 from rfl, pk_mul, nI_add, pk_sub (by omega)]
      rw [show 10 * qnum t b i + t (b + i) - 48 = qnum t b (i + 1) by show _ = 10 * qnum t b i + (t (b + i) - 48); omega]
      exact hx
theorem wordHere_c {b e : Nat} (w : CF R S nx) (hG : GT G) (hT : CT I t n) (h3 : I 1 3 = nI e) (h5 : I 1 5 = nI b) (hbe : b < e ∧ e ≤ n) : Cal l G (k + 5) 0 0 mX6_wordHere [.ref 1] (I, J, R, S, nx) (fun r μ' => r = .inl (some (.int (nI (qwc (qwrd t b e))))) ∧ ∃ I', μ' = (I', J, R, S, nx) ∧ I' = I) := by
  have hn := hT.2.2.1
  obtain ⟨ol, ol2, ol3⟩ := off_l
  refine Cal.of rfl (by decide +kernel) (by simp) (Nat.le_of_ble_eq_true rfl) rfl (sX6_wordHere_0 w ?_)
  rw [h5]
  have eb1 : ∀ x : Nat, x ≤ n → ¬ nI b - (1 : Int32) = nI (b + x) := fun x hx g => by
    rw [show (1 : Int32) = nI 1 from rfl, nI_z, nI_z, nI_z, zI_sub, fa_eq, zI_toInt (by omega), zI_toInt (by omega)] at g; omega
  have elt : nI b - (1 : Int32) < I 1 5 := by
    rw [h5, show (1 : Int32) = nI 1 from rfl, nI_z, nI_z, zI_sub, fa_lt, zI_toInt (by omega), zI_toInt (by omega)]; omega
  -- the words, one by one
  have words : ∀ d j, j + d = 21 → (∀ i, i < j → qwrd t b e ≠ wds.getD i []) → hX6_wordHere_11 l G k (fun r μ' => r = .inl (some (.int (nI (qwc (qwrd t b e))))) ∧ ∃ I', μ' = (I', J, R, S, nx) ∧ I' = I) (nI (300 + j)) (nI b) (nI (off j)) (I, J, R, S, nx) := by
    intro d
    induction d with
    | zero =>
      intro j hj hno
      have hj2 : j = 21 := by omega
      subst hj2
      have c1 : nI (tx 1).length ≤ nI (off 21) := by rw [ol]; exact nI_le (Nat.le_refl _) (by omega)
      refine sX6_wordHere_11 hG w ?_ ?_ ?_ ?_ ?_ ?_ ?_ ?_ ?_ <;> intros <;> (first | exact absurd (by with_reducible assumption) c1 | exact absurd c1 (by with_reducible assumption) | skip)
      exact ⟨by rw [qwc_no (fun j hj => hno j hj)]; rfl, _, rfl, rfl⟩
    | succ d ihd =>
      intro j hj hno
      obtain ⟨o1, o2, o3⟩ := off_s j (by omega)
      have hwl := wds_len j (by omega)
      have oc := off_c j (by omega)
      have hwi := qwc_iff j (by omega) (qwrd t b e)
      obtain ⟨wd, hwd⟩ : ∃ wd, wds.getD j [] = wd := ⟨_, rfl⟩
      rw [hwd] at o1 o3 hwl oc hwi
      -- one word, byte by byte
      have bytes : ∀ c i x2, i + c = wd.length → ((i ≤ e - b ∧ (∀ p, p < i → t (b + p) = wd.getD p 0) ∧ x2 = nI (b + i)) ∨ (qwrd t b e ≠ wd ∧ x2 = nI b - (1 : Int32))) → hX6_wordHere_11 l G k (fun r μ' => r = .inl (some (.int (nI (qwc (qwrd t b e))))) ∧ ∃ I', μ' = (I', J, R, S, nx) ∧ I' = I) (nI (300 + j)) x2 (nI (off j + i)) (I, J, R, S, nx) := by
        intro c
        induction c with
        | zero =>
          intro i x2 hc hx
          have hi : i = wd.length := by omega
          subst hi
          have c1 : ¬ nI (tx 1).length ≤ nI (off j + wd.length) := nI_ge (by omega) (by omega)
          have c2 : (tx 1).getD (nI (off j + wd.length)).toNatClampNeg 0 = (32 : Int32) := by rw [nI_clamp (by omega)]; exact o3
          have nxt : qwrd t b e ≠ wd → hX6_wordHere_11 l G k (fun r μ' => r = .inl (some (.int (nI (qwc (qwrd t b e))))) ∧ ∃ I', μ' = (I', J, R, S, nx) ∧ I' = I) (nI (300 + j) + (1 : Int32)) (I 1 5) (nI (off j + wd.length) + (1 : Int32)) (I, J, R, S, nx) := by
            intro hne
            rw [nI_1, nI_1, h5, show 300 + j + 1 = 300 + (j + 1) by omega, show off j + wd.length + 1 = off (j + 1) by omega]
            refine ihd (j + 1) (by omega) (fun i hi => ?_)
            by_cases ci : i = j
            · rw [ci, hwd]; exact hne
            · exact hno i (by omega)
          have hbb : vp_in (nI (off j + wd.length)) (tx 1).length := vp_in_nI (by omega) (by omega)
          rcases hx with ⟨x1, x3, x4⟩ | ⟨x1, x4⟩
          · by_cases ce : b + wd.length = e
            · have c3 : x2 = I 1 3 := by rw [x4, h3, ce]
              refine sX6_wordHere_11 hG w ?_ ?_ ?_ ?_ ?_ ?_ ?_ ?_ ?_ <;> intros <;> (first | exact absurd (by with_reducible assumption) c1 | exact absurd c1 (by with_reducible assumption) | exact absurd (by with_reducible assumption) c2 | exact absurd c2 (by with_reducible assumption) | exact absurd (by with_reducible assumption) c3 | exact absurd c3 (by with_reducible assumption) | skip)
              · exact hbb
              · exact ⟨by rw [hwi.mpr (qwrd_iff.mpr ⟨by omega, x3⟩)], _, rfl, rfl⟩
            · have c3 : ¬ x2 = I 1 3 := by rw [x4, h3, nI_eq (by omega) (by omega)]; exact ce
              refine sX6_wordHere_11 hG w ?_ ?_ ?_ ?_ ?_ ?_ ?_ ?_ ?_ <;> intros <;> (first | exact absurd (by with_reducible assumption) c1 | exact absurd c1 (by with_reducible assumption) | exact absurd (by with_reducible assumption) c2 | exact absurd c2 (by with_reducible assumption) | exact absurd (by with_reducible assumption) c3 | exact absurd c3 (by with_reducible assumption) | skip)
              · exact hbb
              · exact nxt (fun g => by have := (qwrd_iff.mp g).1; omega)
          · have c3 : ¬ x2 = I 1 3 := by rw [x4, h3, show e = b + (e - b) by omega]; exact eb1 _ (by omega)
            refine sX6_wordHere_11 hG w ?_ ?_ ?_ ?_ ?_ ?_ ?_ ?_ ?_ <;> intros <;> (first | exact absurd (by with_reducible assumption) c1 | exact absurd c1 (by with_reducible assumption) | exact absurd (by with_reducible assumption) c2 | exact absurd c2 (by with_reducible assumption) | exact absurd (by with_reducible assumption) c3 | exact absurd c3 (by with_reducible assumption) | skip)
            · exact hbb
            · exact nxt x1
        | succ c ihc =>
          intro i x2 hc hx
          obtain ⟨oc1, oc2, oc3⟩ := oc i (by omega) (by omega)
          have c1 : ¬ nI (tx 1).length ≤ nI (off j + i) := nI_ge (by omega) (by omega)
          have et : (tx 1).getD (nI (off j + i)).toNatClampNeg 0 = nI (wd.getD i 0) := by rw [nI_clamp (by omega)]; exact oc1
          have c2 : ¬ (tx 1).getD (nI (off j + i)).toNatClampNeg 0 = (32 : Int32) := by rw [et, show (32 : Int32) = nI 32 from rfl, nI_eq (by omega) (by decide)]; omega
          have hbb : vp_in (nI (off j + i)) (tx 1).length := vp_in_nI (by omega) (by omega)
          have bad : qwrd t b e ≠ wd → hX6_wordHere_89 l G k (fun r μ' => r = .inl (some (.int (nI (qwc (qwrd t b e))))) ∧ ∃ I', μ' = (I', J, R, S, nx) ∧ I' = I) (nI (300 + j)) (nI (off j + i)) (I, J, R, S, nx) := by
            intro hne
            refine sX6_wordHere_89 w ?_
            rw [nI_1, h5]
            exact ihc (i + 1) _ (by omega) (Or.inr ⟨hne, rfl⟩)
          rcases hx with ⟨x1, x3, x4⟩ | ⟨x1, x4⟩
          · have c3 : ¬ x2 < I 1 5 := by rw [x4, h5, nI_ltI (by omega) (by omega)]; omega
            by_cases ce : e ≤ b + i
            · have c4 : I 1 3 ≤ x2 := by rw [x4, h3]; exact nI_le (by omega) (by omega)
              refine sX6_wordHere_11 hG w ?_ ?_ ?_ ?_ ?_ ?_ ?_ ?_ ?_ <;> intros <;> (first | exact absurd (by with_reducible assumption) c1 | exact absurd c1 (by with_reducible assumption) | exact absurd (by with_reducible assumption) c2 | exact absurd c2 (by with_reducible assumption) | exact absurd (by with_reducible assumption) c3 | exact absurd c3 (by with_reducible assumption) | exact absurd (by with_reducible assumption) c4 | exact absurd c4 (by with_reducible assumption) | skip)
              · exact hbb
              · exact bad (fun g => by have := (qwrd_iff.mp g).1; omega)
            · have c4 : ¬ I 1 3 ≤ x2 := by rw [x4, h3]; exact nI_ge (by omega) (by omega)
              have ev : I 2 x2.toNatClampNeg = sby (t (b + i)) := by rw [x4, nI_clamp (by omega)]; exact hT.2.1 (b + i) (by omega)
              have eq1 : (I 2 x2.toNatClampNeg = (tx 1).getD (nI (off j + i)).toNatClampNeg 0) = (t (b + i) = wd.getD i 0) := by rw [ev, et]; exact sb_eq (hT.2.2.2 _ (by omega)) (by omega)
              refine sX6_wordHere_11 hG w ?_ ?_ ?_ ?_ ?_ ?_ ?_ ?_ ?_ <;> intros <;> (first | exact absurd (by with_reducible assumption) c1 | exact absurd c1 (by with_reducible assumption) | exact absurd (by with_reducible assumption) c2 | exact absurd c2 (by with_reducible assumption) | exact absurd (by with_reducible assumption) c3 | exact absurd c3 (by with_reducible assumption) | exact absurd (by with_reducible assumption) c4 | exact absurd c4 (by with_reducible assumption) | skip)
              · exact hbb
              · rw [x4]; exact vp_in_nI (by omega) (by decide)
              · rename_i g; rw [eq1] at g
                exact bad (fun g2 => g ((qwrd_iff.mp g2).2 i (by omega)))
              · rename_i g; rw [eq1] at g
                rw [nI_1, x4, nI_1]
                refine ihc (i + 1) _ (by omega) (Or.inl ⟨by omega, fun p hp => ?_, rfl⟩)
                by_cases cp : p = i
                · rw [cp]; exact g
                · exact x3 p (by omega)
          · have c3 : x2 < I 1 5 := by rw [x4]; exact elt
            refine sX6_wordHere_11 hG w ?_ ?_ ?_ ?_ ?_ ?_ ?_ ?_ ?_ <;> intros <;> (first | exact absurd (by with_reducible assumption) c1 | exact absurd c1 (by with_reducible assumption) | exact absurd (by with_reducible assumption) c2 | exact absurd c2 (by with_reducible assumption) | exact absurd (by with_reducible assumption) c3 | exact absurd c3 (by with_reducible assumption) | skip)
            · exact hbb
            · exact bad x1
      exact bytes wd.length 0 (nI b) (by omega) (Or.inl ⟨Nat.zero_le _, fun p hp => absurd hp (Nat.not_lt_zero p), rfl⟩)
  have := words 21 0 rfl (fun i hi => absurd hi (Nat.not_lt_zero i))
  rw [ol3] at this
  exact this
end A
