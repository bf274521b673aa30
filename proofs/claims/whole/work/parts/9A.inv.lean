/-! the class: all that it holds, against the specification's state -/
/-- a piece of the memory made later, with its owner -/
def Own (ow : Nat → Nat) (o n id : Nat) : Prop := 72 ≤ o ∧ ∀ i, i < n → ow (o + i) = id
/-- a land that is never changed again -/
def LdC (I : Nat → Nat → Int32) (R : Nat → Nat → Option Nat) (S : Nat → Nat × Nat) (nx : Nat) (ow : Nat → Nat) (L : Nat) (κ : Nat → Nat) (dl pl ld lp : Nat) : Prop := LW R S nx L dl pl ld lp ∧ CL I κ L dl pl ld lp ∧ (∀ i, i < 10 → ow (L + i) = 0) ∧ ow dl = 0 ∧ ow pl = 0
def TrC (I : Nat → Nat → Int32) (J : Nat → Nat → Int64) (τ tm : Nat → Nat) (tn : Nat → Nat → Int64) : Prop := ∀ t, t < 4 → (I (35 + 2 * t) 1 = if τ t = 0 then -1 else nI (tm t)) ∧ (τ t ≠ 0 → I (35 + 2 * t) 0 = nI (τ t - 1)) ∧ (τ t ≤ 4 ∧ tm t ≤ 30) ∧ ∀ i, i < 30 → J (36 + 2 * t) i = tn t i
def TpC (I : Nat → Nat → Int32) (t : Nat → Nat) (tp : Nat) : Prop := I 1 1 = nI tp ∧ tp ≤ 900 ∧ (∀ j, j < tp → I 2 j = sby (t j)) ∧ ∀ j, j < tp → t j < 256
def LzC (R : Nat → Nat → Option Nat) (S : Nat → Nat × Nat) (nx : Nat) (ow : Nat → Nat) : Prop := (∀ o, R 0 7 = some o → OW R S nx o ∧ Own ow o 5 1) ∧ (∀ o, R 0 8 = some o → WW R S nx o ∧ Own ow o 8 2) ∧ (∀ o, R 0 9 = some o → AW R S nx o ∧ Own ow o 5 3) ∧ (∀ o, R 0 10 = some o → TW1 R S nx o ∧ Own ow o 4 4)
/-- an image at X -/
def ImX (I : Nat → Nat → Int32) (R : Nat → Nat → Option Nat) (S : Nat → Nat × Nat) (nx : Nat) (ow : Nat → Nat) (i X : Nat) (σ : Nat → Nat) : Prop := (X + 4 ≤ nx ∧ Own ow X 4 (5 + i)) ∧ ((S X).1 = 1 ∧ R X 1 = some (X + 1) ∧ R X 2 = some (X + 2) ∧ S (X + 1) = (100, 49) ∧ (S (X + 2)).1 = 5 ∧ R (X + 2) 0 = some (X + 3) ∧ S (X + 3) = (100, 490)) ∧ (∃ LX dl pl ld lp, R X 0 = some LX ∧ LdC I R S nx ow LX σ dl pl ld lp) ∧ (∀ j, j < 49 → I (X + 1) j = nI (σ (7 + prm j))) ∧ PS I (X + 2) (X + 3) σ
def ImC (I : Nat → Nat → Int32) (R : Nat → Nat → Option Nat) (S : Nat → Nat × Nat) (nx : Nat) (ow : Nat → Nat) (ι : Nat → Option (Nat → Nat)) : Prop := ∀ i, i < 3 → match ι i with
  | none => R 34 i = none
  | some σ => ∃ X, R 34 i = some X ∧ ImX I R S nx ow i X σ
/-- all but the land, the row now and the deeds kept -/
def CR (I : Nat → Nat → Int32) (J : Nat → Nat → Int64) (R : Nat → Nat → Option Nat) (S : Nat → Nat × Nat) (nx : Nat) (ow : Nat → Nat) (ι : Nat → Option (Nat → Nat)) (τ tm : Nat → Nat) (tn : Nat → Nat → Int64) (t : Nat → Nat) (tp : Nat) (fk fp : Int32) : Prop := CF R S nx ∧ TrC I J τ tm tn ∧ TpC I t tp ∧ (I 1 11 = fk ∧ I 1 12 = fp) ∧ LzC R S nx ow ∧ ImC I R S nx ow ι
/-- what was made and is never written again, or only by its owner: names under 72 have the owner 0 -/
abbrev St : Type := (Nat → Nat) × (Nat → Option (Nat → Nat)) × ((Nat → Nat) × (Nat → Nat) × (Nat → Nat → Int64)) × ((Nat → Nat) × Nat) × Int32 × Int32
def CI (μ : Mem) (st : St) : Prop := ∃ (ow : Nat → Nat) (L dl pl ld lp : Nat), CR μ.1 μ.2.1 μ.2.2.1 μ.2.2.2.1 μ.2.2.2.2 ow st.2.1 st.2.2.1.1 st.2.2.1.2.1 st.2.2.1.2.2 st.2.2.2.1.1 st.2.2.2.1.2 st.2.2.2.2.1 st.2.2.2.2.2 ∧ μ.2.2.1 14 0 = some L ∧ LdC μ.1 μ.2.2.1 μ.2.2.2.1 μ.2.2.2.2 ow L st.1 dl pl ld lp ∧ CN μ.1 st.1 ∧ PV μ.1 st.1 ∧ PS μ.1 30 31 st.1
/-- the reference's cells and the row out stay as they are -/
def KF (μ μ' : Mem) : Prop := μ.2.2.2.2 ≤ μ'.2.2.2.2 ∧ ∀ a, 43 ≤ a → a < 72 → μ'.1 a = μ.1 a ∧ μ'.2.1 a = μ.2.1 a ∧ μ'.2.2.1 a = μ.2.2.1 a ∧ μ'.2.2.2.1 a = μ.2.2.2.1 a
def CQ (μ : Mem) (r0 : Res) (st : St) : Res → Mem → Prop := fun r μ' => r = r0 ∧ KF μ μ' ∧ CI μ' st
section A
variable {l : Launch} {G : Gh} {k : Nat} {I : Nat → Nat → Int32} {J : Nat → Nat → Int64} {R : Nat → Nat → Option Nat} {S : Nat → Nat × Nat} {nx : Nat} {κ : Nat → Nat} {hb pb : Nat}
variable {ow : Nat → Nat} {L dl pl ld lp : Nat} {ι : Nat → Option (Nat → Nat)} {τ tm : Nat → Nat} {tn : Nat → Nat → Int64} {tp : Nat} {fk fp : Int32}
/-- a row that only the class's scratch has -/
def Scr (ow : Nat → Nat) (a : Nat) : Prop := (a = 0 ∨ a = 13 ∨ (25 ≤ a ∧ a ≤ 32)) ∨ (72 ≤ a ∧ 1 ≤ ow a ∧ ow a ≤ 4)
theorem LdC.fr {rs : List Nat} {I' : Nat → Nat → Int32} (h : LdC I R S nx ow L κ dl pl ld lp) (hF : Fr rs I I') (hr : ∀ a ∈ rs, Scr ow a) : LdC I' R S nx ow L κ dl pl ld lp := by
  obtain ⟨h1, h2, h3, h4, h5⟩ := h
  refine ⟨h1, ?_, h3, h4, h5⟩
  obtain ⟨n1, n2, n3⟩ := h1.ne
  have e : ∀ i, i < 8 → I' (L + i) = I (L + i) := fun i hi => hF _ (fun g => by
    have h0 := h3 i (by omega)
    rcases hr _ g with q | q
    · omega
    · omega)
  have ed : I' dl = I dl := hF _ (fun g => by
    rcases hr _ g with q | q
    · rcases n1 with g1 | g1 | g1 <;> rcases n2 with g2 | g2 <;> omega
    · omega)
  have ep : I' pl = I pl := hF _ (fun g => by
    rcases hr _ g with q | q
    · rcases n1 with g1 | g1 | g1 <;> rcases n3 with g2 | g2 <;> omega
    · omega)
  obtain ⟨q1, q2, q3, q4, q5, q6⟩ := h2
  refine ⟨?_, fun w hw => ?_, fun a ha => ?_, fun k hk => ?_, ⟨q5.1, fun i hi => ?_⟩, ⟨q6.1, fun i hi => ?_⟩⟩
  · have := e 0 (by decide); rw [Nat.add_zero] at this; rw [this]; exact q1
  · rw [e 1 (by decide), e 2 (by decide)]; exact q2 w hw
  · rw [e 3 (by decide), e 4 (by decide)]; exact q3 a ha
  · rw [e 7 (by decide)]; exact q4 k hk
  · rw [ed]; exact q5.2 i hi
  · rw [ep]; exact q6.2 i hi
theorem ImX.fr {rs : List Nat} {I' : Nat → Nat → Int32} {i X : Nat} {σ : Nat → Nat} (h : ImX I R S nx ow i X σ) (hF : Fr rs I I') (hr : ∀ a ∈ rs, Scr ow a) : ImX I' R S nx ow i X σ := by
  obtain ⟨h1, h2, ⟨LX, dl, pl, ld, lp, h3, h4⟩, h5, h6⟩ := h
  have e : ∀ q, q < 4 → X + q ∉ rs := fun q hq g => by
    have := h1.2.2 q hq
    have := h1.2.1
    rcases hr _ g with q | q <;> omega
  refine ⟨h1, h2, ⟨LX, dl, pl, ld, lp, h3, h4.fr hF hr⟩, fun j hj => ?_, h6.fr hF (e 2 (by decide)) (e 3 (by decide))⟩
  rw [hF _ (e 1 (by decide))]; exact h5 j hj
theorem ImC.fr {rs : List Nat} {I' : Nat → Nat → Int32} (h : ImC I R S nx ow ι) (hF : Fr rs I I') (hr : ∀ a ∈ rs, Scr ow a) : ImC I' R S nx ow ι := by
  intro i hi
  have := h i hi
  cases hq : ι i with
  | none => rw [hq] at this; exact this
  | some σ =>
    rw [hq] at this
    obtain ⟨X, g1, g2⟩ := this
    exact ⟨X, g1, g2.fr hF hr⟩
variable {t : Nat → Nat}
theorem TrC.fr {rs : List Nat} {I' : Nat → Nat → Int32} (h : TrC I J τ tm tn) (hF : Fr rs I I') (hr : ∀ a ∈ rs, Scr ow a) : TrC I' J τ tm tn := by
  intro q hq
  have e : I' (35 + 2 * q) = I (35 + 2 * q) := hF _ (fun g => by rcases hr _ g with q | q <;> omega)
  rw [e]; exact h q hq
theorem TpC.fr {rs : List Nat} {I' : Nat → Nat → Int32} (h : TpC I t tp) (hF : Fr rs I I') (hr : ∀ a ∈ rs, Scr ow a) : TpC I' t tp := by
  have e1 : I' 1 = I 1 := hF _ (fun g => by rcases hr _ g with q | q <;> omega)
  have e2 : I' 2 = I 2 := hF _ (fun g => by rcases hr _ g with q | q <;> omega)
  unfold TpC; rw [e1, e2]; exact h
theorem CR.fr {rs : List Nat} {I' : Nat → Nat → Int32} (h : CR I J R S nx ow ι τ tm tn t tp fk fp) (hF : Fr rs I I') (hr : ∀ a ∈ rs, Scr ow a) : CR I' J R S nx ow ι τ tm tn t tp fk fp := by
  obtain ⟨h1, h2, h3, h4, h5, h6⟩ := h
  have e1 : I' 1 = I 1 := hF _ (fun g => by rcases hr _ g with q | q <;> omega)
  exact ⟨h1, h2.fr hF hr, h3.fr hF hr, by rw [e1]; exact h4, h5, h6.fr hF hr⟩
theorem KF.fr {rs : List Nat} {I' : Nat → Nat → Int32} (hF : Fr rs I I') (hr : ∀ a ∈ rs, Scr ow a) : KF (I, J, R, S, nx) (I', J, R, S, nx) :=
  ⟨Nat.le_refl _, fun a h1 h2 => ⟨hF a (fun g => by rcases hr _ g with q | q <;> omega), rfl, rfl, rfl⟩⟩
theorem KF.rf {μ : Mem} : KF μ μ := ⟨Nat.le_refl _, fun a _ _ => ⟨rfl, rfl, rfl, rfl⟩⟩
/-- a step that changes the row now and scratch alone -/
theorem CI.step {rs : List Nat} {I' : Nat → Nat → Int32} {κ' : Nat → Nat} (hR : CR I J R S nx ow ι τ tm tn t tp fk fp) (wL : R 14 0 = some L) (hL : LdC I R S nx ow L κ dl pl ld lp) (hF : Fr rs I I') (hr : ∀ a ∈ rs, Scr ow a) (hK : CK I' κ' L dl pl ld lp) (hP : PS I' 30 31 κ') : KF (I, J, R, S, nx) (I', J, R, S, nx) ∧ CI (I', J, R, S, nx) (κ', ι, (τ, tm, tn), (t, tp), fk, fp) :=
  ⟨KF.fr hF hr, ow, L, dl, pl, ld, lp, hR.fr hF hr, wL, ⟨hL.1, hK.2.1, hL.2.2⟩, hK.1, hK.2.2, hP⟩
/-- new cells that nobody names -/
def Gr (S S' : Nat → Nat × Nat) (nx nx' : Nat) : Prop := nx ≤ nx' ∧ ∀ a, a < nx → S' a = S a
theorem CF.gr {S' : Nat → Nat × Nat} {nx' : Nat} (h : CF R S nx) (g : Gr S S' nx nx') : CF R S' nx' := by
  obtain ⟨h1, h2, h3, h4, h5⟩ := h
  have e : ∀ a, a < 72 → S' a = S a := fun a ha => g.2 a (by omega)
  have c1 : ∀ q ∈ cwO, q.1 < 72 := by decide
  have c2 : ∀ q ∈ cwA, q.1 < 72 := by decide
  exact ⟨by have := g.1; omega, fun q hq => by rw [e _ (c1 q hq)]; exact h2 q hq, h3, fun q hq => by rw [e _ (c2 q hq)]; exact h4 q hq, h5⟩
theorem LW.gr {S' : Nat → Nat × Nat} {nx' : Nat} (h : LW R S nx L dl pl ld lp) (g : Gr S S' nx nx') : LW R S' nx' L dl pl ld lp := by
  obtain ⟨h1, h2, h3, h4, h5, h6, h7⟩ := h
  have := g.1
  refine ⟨by omega, by rw [g.2 L (by omega)]; exact h2, fun i hi => ⟨(h3 i hi).1, by rw [g.2 _ (by omega)]; exact (h3 i hi).2⟩, h4, ⟨by rw [g.2 dl h6.1]; exact h5.1, by rw [g.2 pl h6.2]; exact h5.2⟩, ⟨by omega, by omega⟩, h7⟩
theorem LdC.gr {S' : Nat → Nat × Nat} {nx' : Nat} (h : LdC I R S nx ow L κ dl pl ld lp) (g : Gr S S' nx nx') : LdC I R S' nx' ow L κ dl pl ld lp := ⟨h.1.gr g, h.2⟩
theorem OW.gr {S' : Nat → Nat × Nat} {nx' o : Nat} (h : OW R S nx o) (g : Gr S S' nx nx') : OW R S' nx' o := by
  have := g.1
  have h1 := h.1
  have c : ∀ q ∈ owL, q.2.1 < 5 := by decide
  exact ⟨by omega, by rw [g.2 o (by omega)]; exact h.2.1, h.2.2.1, fun q hq => ⟨(h.2.2.2 q hq).1, by rw [g.2 _ (by have := c q hq; omega)]; exact (h.2.2.2 q hq).2⟩⟩
theorem WW.gr {S' : Nat → Nat × Nat} {nx' o : Nat} (h : WW R S nx o) (g : Gr S S' nx nx') : WW R S' nx' o := by
  have := g.1
  have h1 := h.1
  have c : ∀ q ∈ wwL, q.2.1 < 8 := by decide
  exact ⟨by omega, by rw [g.2 o (by omega)]; exact h.2.1, h.2.2.1, fun q hq => ⟨(h.2.2.2 q hq).1, by rw [g.2 _ (by have := c q hq; omega)]; exact (h.2.2.2 q hq).2⟩⟩
theorem AW.gr {S' : Nat → Nat × Nat} {nx' o : Nat} (h : AW R S nx o) (g : Gr S S' nx nx') : AW R S' nx' o := by
  have := g.1
  have h1 := h.1
  have c : ∀ q ∈ awL, q.2.1 < 5 := by decide
  exact ⟨by omega, by rw [g.2 o (by omega)]; exact h.2.1, h.2.2.1, fun q hq => ⟨(h.2.2.2 q hq).1, by rw [g.2 _ (by have := c q hq; omega)]; exact (h.2.2.2 q hq).2⟩⟩
theorem TW1.gr {S' : Nat → Nat × Nat} {nx' o : Nat} (h : TW1 R S nx o) (g : Gr S S' nx nx') : TW1 R S' nx' o := by
  have := g.1
  have h1 := h.1
  have c : ∀ q ∈ twL, q.2.1 < 4 := by decide
  exact ⟨by omega, by rw [g.2 o (by omega)]; exact h.2.1, h.2.2.1, fun q hq => ⟨(h.2.2.2 q hq).1, by rw [g.2 _ (by have := c q hq; omega)]; exact (h.2.2.2 q hq).2⟩⟩
theorem LzC.gr {S' : Nat → Nat × Nat} {nx' : Nat} (h : LzC R S nx ow) (g : Gr S S' nx nx') : LzC R S' nx' ow :=
  ⟨fun o ho => ⟨(h.1 o ho).1.gr g, (h.1 o ho).2⟩, fun o ho => ⟨(h.2.1 o ho).1.gr g, (h.2.1 o ho).2⟩, fun o ho => ⟨(h.2.2.1 o ho).1.gr g, (h.2.2.1 o ho).2⟩, fun o ho => ⟨(h.2.2.2 o ho).1.gr g, (h.2.2.2 o ho).2⟩⟩
theorem ImC.gr {S' : Nat → Nat × Nat} {nx' : Nat} (h : ImC I R S nx ow ι) (g : Gr S S' nx nx') : ImC I R S' nx' ow ι := by
  intro i hi
  have := h i hi
  cases hq : ι i with
  | none => rw [hq] at this; exact this
  | some σ =>
    rw [hq] at this
    obtain ⟨X, g1, h1, h2, ⟨LX, dl, pl, ld, lp, h3, h4⟩, h5, h6⟩ := this
    have := h1.1
    have := g.1
    refine ⟨X, g1, ⟨by omega, h1.2⟩, ⟨?_, h2.2.1, h2.2.2.1, ?_, ?_, h2.2.2.2.2.2.1, ?_⟩, ⟨LX, dl, pl, ld, lp, h3, h4.gr g⟩, h5, h6⟩
    · rw [g.2 X (by omega)]; exact h2.1
    · rw [g.2 (X + 1) (by omega)]; exact h2.2.2.2.1
    · rw [g.2 (X + 2) (by omega)]; exact h2.2.2.2.2.1
    · rw [g.2 (X + 3) (by omega)]; exact h2.2.2.2.2.2.2
theorem CR.gr {S' : Nat → Nat × Nat} {nx' : Nat} (h : CR I J R S nx ow ι τ tm tn t tp fk fp) (g : Gr S S' nx nx') : CR I J R S' nx' ow ι τ tm tn t tp fk fp :=
  ⟨h.1.gr g, h.2.1, h.2.2.1, h.2.2.2.1, h.2.2.2.2.1.gr g, h.2.2.2.2.2.gr g⟩
/-- behind a throw all holds as before -/
theorem CI.thr {st : St} {n' : Nat} (h : CI (I, J, R, S, nx) st) (hn : nx ≤ n') : KF (I, J, R, S, nx) (thr (I, J, R, S, nx) n') ∧ CI (thr (I, J, R, S, nx) n') st := by
  obtain ⟨ow, L, dl, pl, ld, lp, h1, h2, h3, h4, h5, h6⟩ := h
  have g : Gr S (fun a => if a < nx then S a else (999, 0)) nx n' := ⟨hn, fun a ha => if_pos ha⟩
  have h72 : 72 ≤ nx := h1.1.1
  exact ⟨⟨hn, fun a _ ha => ⟨rfl, rfl, rfl, if_pos (by show a < nx; omega)⟩⟩, ow, L, dl, pl, ld, lp, h1.gr g, h2, h3.gr g, h4, h5, h6⟩
/-- apartness out of owners -/
theorem Own.ap {o n id : Nat} (h : Own ow o n id) (hi : id ≠ 0) (hn : 0 < n) (hL : LdC I R S nx ow L κ dl pl ld lp) : AP o n L dl pl := by
  obtain ⟨_, _, h3, h4, h5⟩ := hL
  obtain ⟨h6, h7⟩ := h
  refine ⟨h6, ?_, ?_, ?_⟩
  · by_cases c : o ≤ L
    · by_cases c2 : L < o + n
      · have a1 := h7 (L - o) (by omega)
        have a2 := h3 0 (by omega)
        rw [show o + (L - o) = L + 0 by omega, a2] at a1
        exact absurd a1.symm hi
      · exact Or.inl (by omega)
    · by_cases c2 : o < L + 10
      · have a1 := h7 0 (by omega)
        have a2 := h3 (o - L) (by omega)
        rw [show o + 0 = L + (o - L) by omega, a2] at a1
        exact absurd a1.symm hi
      · exact Or.inr (by omega)
  · by_cases c : dl < o
    · exact Or.inl c
    · by_cases c2 : dl < o + n
      · have a1 := h7 (dl - o) (by omega)
        rw [show o + (dl - o) = dl by omega, h4] at a1
        exact absurd a1.symm hi
      · exact Or.inr (by omega)
  · by_cases c : pl < o
    · exact Or.inl c
    · by_cases c2 : pl < o + n
      · have a1 := h7 (pl - o) (by omega)
        rw [show o + (pl - o) = pl by omega, h5] at a1
        exact absurd a1.symm hi
      · exact Or.inr (by omega)
end A
