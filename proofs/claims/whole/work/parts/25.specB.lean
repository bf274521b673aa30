/-! THE SPECIFICATION: deeds of state over the row of numbers -/
def rok (hb pb : Nat) (s : Nat → Nat) : Prop := (∀ w, w < 5 → s w ≤ 60 ∧ s (5 + w) ≤ hb ∧ s (10 + w) ≤ hb + 99 ∧ s (15 + w) ≤ 60 ∧ s (20 + w) ≤ hb ∧ s (25 + w) ≤ hb + 99) ∧ (∀ a, a < 8 → s (30 + a) ≤ 99 ∧ s (38 + a) ≤ 99) ∧ s 46 < 256 ∧ s 47 ≤ hb ∧ s 48 ≤ pb
def lok (κ : Nat → Nat) : Prop := κ 1 ≤ 5 ∧ κ 2 ≤ 8 ∧ κ 3 ≤ 900 ∧ κ 4 ≤ 900 ∧ κ 6 ≤ 1 ∧ κ 0 ≤ 900 ∧ (∀ w, w < 5 → κ (56 + w) ≤ 99 ∧ κ (61 + w) < 32) ∧ (∀ a, a < 8 → κ (66 + a) ≤ 9 ∧ κ (74 + a) ≤ 99) ∧
  (κ 3 ≠ 0 → qtyp 6 (qsteps κ 3 572) [] = some [false]) ∧ (κ 4 ≠ 0 → qtyp 7 (qsteps κ 4 1472) [] = some [true]) ∧
  (∀ u v, u < 5 → v < 5 → (κ (61 + u)).testBit v = (κ (61 + v)).testBit u) ∧ (∀ u, u < 5 → (κ (61 + u)).testBit u = false)
def sok (hb pb : Nat) (κ : Nat → Nat) : Prop := lok κ ∧ κ 5 ≤ 10 ∧ rok hb pb (fun i => κ (7 + i)) ∧ ∀ j, j < κ 5 → rok hb pb (fun i => κ (82 + 49 * j + i))
theorem rok.mono {hb pb hb' pb' : Nat} {s : Nat → Nat} (h : rok hb pb s) (h1 : hb ≤ hb') (h2 : pb ≤ pb') : rok hb' pb' s := by
  refine ⟨fun w hw => ?_, h.2.1, h.2.2.1, Nat.le_trans h.2.2.2.1 h1, Nat.le_trans h.2.2.2.2 h2⟩
  have := h.1 w hw
  omega
theorem sok.mono {hb pb hb' pb' : Nat} {κ : Nat → Nat} (h : sok hb pb κ) (h1 : hb ≤ hb') (h2 : pb ≤ pb') : sok hb' pb' κ := ⟨h.1, h.2.1, h.2.2.1.mono h1 h2, fun j hj => (h.2.2.2 j hj).mono h1 h2⟩
theorem sok.q {hb pb : Nat} {κ : Nat → Nat} (h : sok hb pb κ) : qok hb pb κ := by
  obtain ⟨⟨a1, a2, a3, a4, a5, a6, a7, a8, a9, a10, a11, a12⟩, b, ⟨c1, c2, c3, c4, c5⟩, d⟩ := h
  refine ⟨a1, a2, a3, a4, b, a5, a6, fun w hw => ?_, fun a ha => ?_, c3, c4, c5, a9, a10⟩
  · have h1 := a7 w hw
    have h2 := c1 w hw
    simp only [← Nat.add_assoc] at h2
    exact ⟨h2.1, h2.2.1, h2.2.2.1, h2.2.2.2.1, h2.2.2.2.2.1, h2.2.2.2.2.2, h1.1, h1.2⟩
  · have h1 := a8 a ha
    have h2 := c2 a ha
    simp only [← Nat.add_assoc] at h2
    exact ⟨h2.1, h2.2, h1.1, h1.2⟩
theorem qsteps_congr {κ κ' : Nat → Nat} {mn bs : Nat} (h1 : κ' mn = κ mn) (h2 : ∀ i, bs ≤ i → κ' i = κ i) : qsteps κ' mn bs = qsteps κ mn bs := by
  unfold qsteps
  rw [h1]
  apply List.map_congr_left
  intro j _
  exact h2 _ (by omega)
theorem lok.congr {κ κ' : Nat → Nat} (h : lok κ) (e : ∀ i, (i < 5 ∨ i = 6 ∨ (56 ≤ i ∧ i < 82) ∨ 572 ≤ i) → κ' i = κ i) : lok κ' := by
  obtain ⟨a1, a2, a3, a4, a5, a6, a7, a8, a9, a10, a11, a12⟩ := h
  refine ⟨?_, ?_, ?_, ?_, ?_, ?_, fun w hw => ?_, fun a ha => ?_, ?_, ?_, fun u v hu hv => ?_, fun u hu => ?_⟩
  · rw [e 1 (by omega)]; exact a1
  · rw [e 2 (by omega)]; exact a2
  · rw [e 3 (by omega)]; exact a3
  · rw [e 4 (by omega)]; exact a4
  · rw [e 6 (by omega)]; exact a5
  · rw [e 0 (by omega)]; exact a6
  · rw [e (56 + w) (by omega), e (61 + w) (by omega)]; exact a7 w hw
  · rw [e (66 + a) (by omega), e (74 + a) (by omega)]; exact a8 a ha
  · rw [qsteps_congr (e 3 (by omega)) (fun i hi => e i (by omega)), e 3 (by omega)]; exact a9
  · rw [qsteps_congr (e 4 (by omega)) (fun i hi => e i (by omega)), e 4 (by omega)]; exact a10
  · rw [e (61 + u) (by omega), e (61 + v) (by omega)]; exact a11 u v hu hv
  · rw [e (61 + u) (by omega)]; exact a12 u hu
theorem rok.congr {hb pb : Nat} {s s' : Nat → Nat} (h : rok hb pb s) (e : ∀ i, i < 49 → s' i = s i) : rok hb pb s' := by
  refine ⟨fun w hw => ?_, fun a ha => ?_, ?_, ?_, ?_⟩
  · rw [e w (by omega), e (5 + w) (by omega), e (10 + w) (by omega), e (15 + w) (by omega), e (20 + w) (by omega), e (25 + w) (by omega)]; exact h.1 w hw
  · rw [e (30 + a) (by omega), e (38 + a) (by omega)]; exact h.2.1 a ha
  · rw [e 46 (by omega)]; exact h.2.2.1
  · rw [e 47 (by omega)]; exact h.2.2.2.1
  · rw [e 48 (by omega)]; exact h.2.2.2.2
/-- one number set -/
def qset (κ : Nat → Nat) (i v : Nat) : Nat → Nat := fun j => if j = i then v else κ j
theorem qset_eq (κ : Nat → Nat) (i v : Nat) : qset κ i v i = v := if_pos rfl
theorem qset_ne {κ : Nat → Nat} {i v j : Nat} (h : j ≠ i) : qset κ i v j = κ j := if_neg h
/-- what is changed lies in the state's row alone -/
theorem sok.state {hb pb hb' pb' : Nat} {κ κ' : Nat → Nat} (h : sok hb pb κ) (h1 : hb ≤ hb') (h2 : pb ≤ pb') (e : ∀ i, (i < 7 ∨ 56 ≤ i) → κ' i = κ i) (hr : rok hb' pb' (fun i => κ' (7 + i))) : sok hb' pb' κ' := by
  refine ⟨h.1.congr (fun i hi => e i (by omega)), by rw [e 5 (by omega)]; exact h.2.1, hr, fun j hj => ?_⟩
  rw [e 5 (by omega)] at hj
  exact ((h.2.2.2 j hj).mono h1 h2).congr (fun i hi => e _ (by omega))
/-- a deed of state is kept, to be undone -/
def qkeep (κ : Nat → Nat) : Nat → Nat := fun i =>
  if i = 5 then (if κ 5 = 10 then 10 else κ 5 + 1)
  else if 82 + 49 * (if κ 5 = 10 then 9 else κ 5) ≤ i ∧ i < 82 + 49 * (if κ 5 = 10 then 9 else κ 5) + 49 then κ (7 + (i - (82 + 49 * (if κ 5 = 10 then 9 else κ 5))))
  else if κ 5 = 10 ∧ 82 ≤ i ∧ i < 523 then κ (i + 49) else κ i
theorem qkeep_low {κ : Nat → Nat} {i : Nat} (h : i < 82) (h5 : i ≠ 5) : qkeep κ i = κ i := by
  unfold qkeep; rw [if_neg h5, if_neg (by omega), if_neg (by omega)]
theorem qkeep_high {κ : Nat → Nat} {i : Nat} (h : 572 ≤ i) (h5 : κ 5 ≤ 10) : qkeep κ i = κ i := by
  unfold qkeep; rw [if_neg (by omega), if_neg (by split <;> omega), if_neg (by omega)]
theorem qkeep_5 (κ : Nat → Nat) : qkeep κ 5 = if κ 5 = 10 then 10 else κ 5 + 1 := if_pos rfl
theorem sok.keep {hb pb : Nat} {κ : Nat → Nat} (h : sok hb pb κ) : sok hb pb (qkeep κ) := by
  have h5 := h.2.1
  refine ⟨h.1.congr (fun i hi => ?_), ?_, h.2.2.1.congr (fun i hi => qkeep_low (by omega) (by omega)), fun j hj => ?_⟩
  · by_cases h6 : i < 82
    · exact qkeep_low h6 (by omega)
    · exact qkeep_high (by omega) h5
  · rw [qkeep_5]; split <;> omega
  · rw [qkeep_5] at hj
    by_cases hten : κ 5 = 10
    · rw [if_pos hten] at hj
      by_cases hj9 : j = 9
      · refine h.2.2.1.congr (fun i hi => ?_)
        show qkeep κ (82 + 49 * j + i) = κ (7 + i)
        unfold qkeep
        rw [show (if κ 5 = 10 then 9 else κ 5) = 9 from if_pos hten, if_neg (by omega), if_pos (by omega), show 82 + 49 * j + i - (82 + 49 * 9) = i by omega]
      · refine (h.2.2.2 (j + 1) (by omega)).congr (fun i hi => ?_)
        show qkeep κ (82 + 49 * j + i) = κ (82 + 49 * (j + 1) + i)
        unfold qkeep
        rw [show (if κ 5 = 10 then 9 else κ 5) = 9 from if_pos hten, if_neg (by omega), if_neg (by omega), if_pos (by omega)]; congr 1; omega
    · rw [if_neg hten] at hj
      by_cases hj9 : j = κ 5
      · refine h.2.2.1.congr (fun i hi => ?_)
        show qkeep κ (82 + 49 * j + i) = κ (7 + i)
        unfold qkeep
        rw [show (if κ 5 = 10 then 9 else κ 5) = κ 5 from if_neg hten, if_neg (by omega), if_pos (by omega)]; congr 1; omega
      · refine (h.2.2.2 j (by omega)).congr (fun i hi => ?_)
        show qkeep κ (82 + 49 * j + i) = κ (82 + 49 * j + i)
        unfold qkeep
        rw [show (if κ 5 = 10 then 9 else κ 5) = κ 5 from if_neg hten, if_neg (by omega), if_neg (by omega), if_neg (by omega)]
/-- fire or ice laid on -/
def qlay (κ : Nat → Nat) (what w dg hrs : Nat) : Nat → Nat := qset (qset (qset κ (what + w) dg) (what + 5 + w) (κ 54)) (what + 10 + w) (if dg = 0 then κ 54 else κ 54 + hrs)
theorem sok.lay {hb pb : Nat} {κ : Nat → Nat} {what w dg hrs : Nat} (h : sok hb pb κ) (hwh : what = 7 ∨ what = 22) (hw : w < 5) (hd : dg ≤ 60) (hh : hrs ≤ 99) : sok hb pb (qlay κ what w dg hrs) := by
  have hr := h.2.2.1
  have h54 : κ 54 ≤ hb := hr.2.2.2.1
  have ev : ∀ i, i ≠ what + w → i ≠ what + 5 + w → i ≠ what + 10 + w → qlay κ what w dg hrs i = κ i := by
    intro i h1 h2 h3
    unfold qlay; rw [qset_ne h3, qset_ne h2, qset_ne h1]
  have e1 : qlay κ what w dg hrs (what + w) = dg := by unfold qlay; rw [qset_ne (by omega), qset_ne (by omega), qset_eq]
  have e2 : qlay κ what w dg hrs (what + 5 + w) = κ 54 := by unfold qlay; rw [qset_ne (by omega), qset_eq]
  have e3 : qlay κ what w dg hrs (what + 10 + w) ≤ hb + 99 := by unfold qlay; rw [qset_eq]; split <;> omega
  refine h.state (Nat.le_refl _) (Nat.le_refl _) (fun i hi => ev i (by omega) (by omega) (by omega)) ⟨fun v hv => ?_, fun a ha => ?_, ?_, ?_, ?_⟩
  · have hx := hr.1 v hv
    simp only [← Nat.add_assoc] at hx ⊢
    have g : ∀ i B, κ i ≤ B → (what + w = i → dg ≤ B) → (what + 5 + w = i → κ 54 ≤ B) → (what + 10 + w = i → hb + 99 ≤ B) → qlay κ what w dg hrs i ≤ B := by
      intro i B h0 h1 h2 h3
      by_cases c1 : i = what + w
      · rw [c1, e1]; exact h1 c1.symm
      · by_cases c2 : i = what + 5 + w
        · rw [c2, e2]; exact h2 c2.symm
        · by_cases c3 : i = what + 10 + w
          · rw [c3]; exact Nat.le_trans e3 (h3 c3.symm)
          · rw [ev i c1 c2 c3]; exact h0
    refine ⟨g _ _ hx.1 ?_ ?_ ?_, g _ _ hx.2.1 ?_ ?_ ?_, g _ _ hx.2.2.1 ?_ ?_ ?_, g _ _ hx.2.2.2.1 ?_ ?_ ?_, g _ _ hx.2.2.2.2.1 ?_ ?_ ?_, g _ _ hx.2.2.2.2.2 ?_ ?_ ?_⟩ <;> intro _ <;> omega
  · show qlay κ what w dg hrs (7 + (30 + a)) ≤ 99 ∧ qlay κ what w dg hrs (7 + (38 + a)) ≤ 99
    rw [ev _ (by omega) (by omega) (by omega), ev _ (by omega) (by omega) (by omega)]; exact hr.2.1 a ha
  · show qlay κ what w dg hrs 53 < 256
    rw [ev _ (by omega) (by omega) (by omega)]; exact hr.2.2.1
  · show qlay κ what w dg hrs 54 ≤ hb
    rw [ev _ (by omega) (by omega) (by omega)]; exact hr.2.2.2.1
  · show qlay κ what w dg hrs 55 ≤ pb
    rw [ev _ (by omega) (by omega) (by omega)]; exact hr.2.2.2.2
/-- what a deed costs: kind, ward, hour, how long -/
def qcost (κ : Nat → Nat) (kd wn h ls : Nat) : Nat := qsum (fun j => qfin κ (qcd κ kd wn (h + j) 0)) (qms κ ls)
def qdeed (κ : Nat → Nat) (kd wn ls : Nat) : Nat → Nat := qset (qset κ 54 (κ 54 + ls)) 55 (κ 55 + qcost κ kd wn (κ 54) ls)
theorem qfin_le {hb pb : Nat} {κ : Nat → Nat} (ho : qok hb pb κ) (s : Nat) : qfin κ s ≤ 792 := by
  have h := qsum_le (f := fun a => if s.testBit a then κ (74 + a) else 0) (c := 99) (n := κ 2) (fun i hi => by
    have := (ho.2.2.2.2.2.2.2.2.1 i (Nat.lt_of_lt_of_le hi ho.2.1)).2.2.2
    split <;> omega)
  have := ho.2.1
  unfold qfin
  have h3 : κ 2 * 99 ≤ 8 * 99 := Nat.mul_le_mul_right _ this
  omega
theorem qcost_le {hb pb : Nat} {κ : Nat → Nat} (ho : qok hb pb κ) {kd wn h ls : Nat} (hl : 1 ≤ ls ∧ ls ≤ 24) : qcost κ kd wn h ls ≤ 19008 := by
  have h1 := qsum_le (f := fun j => qfin κ (qcd κ kd wn (h + j) 0)) (c := 792) (n := qms κ ls) (fun i _ => qfin_le ho _)
  have h2 : qms κ ls ≤ 24 := by unfold qms; split <;> omega
  have h3 : qms κ ls * 792 ≤ 24 * 792 := Nat.mul_le_mul_right _ h2
  unfold qcost
  omega
theorem sok.two {hb pb hb' pb' : Nat} {κ : Nat → Nat} {x y z : Nat} (h : sok hb pb κ) (h1 : hb ≤ hb') (h2 : pb ≤ pb') (hx : x < 256) (hy : y ≤ hb') (hz : z ≤ pb') : sok hb' pb' (qset (qset (qset κ 53 x) 54 y) 55 z) := by
  have hr := h.2.2.1.mono h1 h2
  have ev : ∀ i, i ≠ 53 → i ≠ 54 → i ≠ 55 → qset (qset (qset κ 53 x) 54 y) 55 z i = κ i := fun i a b c => by rw [qset_ne c, qset_ne b, qset_ne a]
  refine h.state h1 h2 (fun i hi => ev i (by omega) (by omega) (by omega)) (⟨fun v hv => ?_, fun a ha => ?_, ?_, ?_, ?_⟩)
  · show qset _ _ _ (7 + v) ≤ 60 ∧ qset _ _ _ (7 + (5 + v)) ≤ _ ∧ qset _ _ _ (7 + (10 + v)) ≤ _ ∧ qset _ _ _ (7 + (15 + v)) ≤ _ ∧ qset _ _ _ (7 + (20 + v)) ≤ _ ∧ qset _ _ _ (7 + (25 + v)) ≤ _
    rw [ev _ (by omega) (by omega) (by omega), ev _ (by omega) (by omega) (by omega), ev _ (by omega) (by omega) (by omega), ev _ (by omega) (by omega) (by omega), ev _ (by omega) (by omega) (by omega), ev _ (by omega) (by omega) (by omega)]
    exact hr.1 v hv
  · show qset _ _ _ (7 + (30 + a)) ≤ 99 ∧ qset _ _ _ (7 + (38 + a)) ≤ 99
    rw [ev _ (by omega) (by omega) (by omega), ev _ (by omega) (by omega) (by omega)]; exact hr.2.1 a ha
  · show qset _ _ _ 53 < 256
    rw [qset_ne (by decide), qset_ne (by decide), qset_eq]; exact hx
  · show qset _ _ _ 54 ≤ hb'
    rw [qset_ne (by decide), qset_eq]; exact hy
  · show qset _ _ _ 55 ≤ pb'
    rw [qset_eq]; exact hz
theorem qset_id (κ : Nat → Nat) (i : Nat) : qset κ i (κ i) = κ := by
  funext j; unfold qset; split
  · rename_i h; rw [h]
  · rfl
theorem sok.deed {hb pb : Nat} {κ : Nat → Nat} {kd wn ls : Nat} (h : sok hb pb κ) (hl : 1 ≤ ls ∧ ls ≤ 24) : sok (hb + 24) (pb + 19008) (qdeed κ kd wn ls) := by
  have hr := h.2.2.1
  have h53 : κ 53 < 256 := hr.2.2.1
  have h54 : κ 54 ≤ hb := hr.2.2.2.1
  have h55 : κ 55 ≤ pb := hr.2.2.2.2
  have := h.two (hb' := hb + 24) (pb' := pb + 19008) (x := κ 53) (y := κ 54 + ls) (z := κ 55 + qcost κ kd wn (κ 54) ls) (by omega) (by omega) h53 (by omega) (by have := qcost_le h.q (kd := kd) (wn := wn) (h := κ 54) hl; omega)
  rwa [qset_id] at this
def qhour (κ : Nat → Nat) (n : Nat) : Nat → Nat := qset κ 54 (κ 54 + n)
theorem sok.hour {hb pb n c : Nat} {κ : Nat → Nat} (h : sok hb pb κ) (hn : n ≤ c) : sok (hb + c) pb (qhour κ n) := by
  have hr := h.2.2.1
  have h53 : κ 53 < 256 := hr.2.2.1
  have h54 : κ 54 ≤ hb := hr.2.2.2.1
  have h55 : κ 55 ≤ pb := hr.2.2.2.2
  have := h.two (hb' := hb + c) (pb' := pb) (x := κ 53) (y := κ 54 + n) (z := κ 55) (by omega) (by omega) h53 (by omega) h55
  rw [qset_id, show κ 55 = qset κ 54 (κ 54 + n) 55 from (qset_ne (by decide)).symm, qset_id] at this
  exact this
def qrep (κ : Nat → Nat) (a : Nat) : Nat → Nat := qset κ 53 (κ 53 ||| 2 ^ a)
theorem sok.rep {hb pb a : Nat} {κ : Nat → Nat} (h : sok hb pb κ) (ha : a < 8) : sok hb pb (qrep κ a) := by
  have hr := h.2.2.1
  have h53 : κ 53 < 256 := hr.2.2.1
  have h54 : κ 54 ≤ hb := hr.2.2.2.1
  have h55 : κ 55 ≤ pb := hr.2.2.2.2
  have hx : κ 53 ||| 2 ^ a < 256 := Nat.or_lt_two_pow (n := 8) h53 (Nat.pow_lt_pow_right (by decide) ha)
  have := h.two (hb' := hb) (pb' := pb) (x := κ 53 ||| 2 ^ a) (y := κ 54) (z := κ 55) (by omega) (by omega) hx h54 h55
  rw [show κ 54 = qset κ 53 (κ 53 ||| 2 ^ a) 54 from (qset_ne (by decide)).symm, qset_id, show κ 55 = qset κ 53 (κ 53 ||| 2 ^ a) 55 from (qset_ne (by decide)).symm, qset_id] at this
  exact this
def qamend (κ : Nat → Nat) (a fr to : Nat) : Nat → Nat := qset (qset κ (37 + a) fr) (45 + a) to
theorem sok.amend {hb pb a fr to : Nat} {κ : Nat → Nat} (h : sok hb pb κ) (ha : a < 8) (h1 : fr ≤ 99) (h2 : to ≤ 99) : sok hb pb (qamend κ a fr to) := by
  have hr := h.2.2.1
  have ev : ∀ i, i ≠ 37 + a → i ≠ 45 + a → qamend κ a fr to i = κ i := fun i a b => by unfold qamend; rw [qset_ne b, qset_ne a]
  refine h.state (Nat.le_refl _) (Nat.le_refl _) (fun i hi => ev i (by omega) (by omega)) (⟨fun v hv => ?_, fun b hb => ?_, ?_, ?_, ?_⟩)
  · show qamend κ a fr to (7 + v) ≤ 60 ∧ qamend κ a fr to (7 + (5 + v)) ≤ _ ∧ qamend κ a fr to (7 + (10 + v)) ≤ _ ∧ qamend κ a fr to (7 + (15 + v)) ≤ _ ∧ qamend κ a fr to (7 + (20 + v)) ≤ _ ∧ qamend κ a fr to (7 + (25 + v)) ≤ _
    rw [ev _ (by omega) (by omega), ev _ (by omega) (by omega), ev _ (by omega) (by omega), ev _ (by omega) (by omega), ev _ (by omega) (by omega), ev _ (by omega) (by omega)]
    exact hr.1 v hv
  · have hx := hr.2.1 b hb
    constructor
    · show qamend κ a fr to (7 + (30 + b)) ≤ 99
      by_cases c : b = a
      · subst c; unfold qamend; rw [qset_ne (by omega), show 7 + (30 + b) = 37 + b by omega, qset_eq]; exact h1
      · rw [ev _ (by omega) (by omega)]; exact hx.1
    · show qamend κ a fr to (7 + (38 + b)) ≤ 99
      by_cases c : b = a
      · subst c; unfold qamend; rw [show 7 + (38 + b) = 45 + b by omega, qset_eq]; exact h2
      · rw [ev _ (by omega) (by omega)]; exact hx.2
  · show qamend κ a fr to 53 < 256
    rw [ev _ (by omega) (by omega)]; exact hr.2.2.1
  · show qamend κ a fr to 54 ≤ hb
    rw [ev _ (by omega) (by omega)]; exact hr.2.2.2.1
  · show qamend κ a fr to 55 ≤ pb
    rw [ev _ (by omega) (by omega)]; exact hr.2.2.2.2
def qundo (κ : Nat → Nat) (n : Nat) : Nat → Nat := fun i => if i = 5 then κ 5 - n else if 7 ≤ i ∧ i < 56 then κ (82 + 49 * (κ 5 - n) + (i - 7)) else κ i
theorem sok.undo {hb pb n : Nat} {κ : Nat → Nat} (h : sok hb pb κ) (hn : 1 ≤ n ∧ n ≤ κ 5) : sok hb pb (qundo κ n) := by
  have ev : ∀ i, i ≠ 5 → (i < 7 ∨ 56 ≤ i) → qundo κ n i = κ i := fun i a b => by unfold qundo; rw [if_neg a, if_neg (by omega)]
  have h5 : qundo κ n 5 = κ 5 - n := if_pos rfl
  refine ⟨h.1.congr (fun i hi => ev i (by omega) (by omega)), by rw [h5]; have := h.2.1; omega, (h.2.2.2 (κ 5 - n) (by omega)).congr (fun i hi => ?_), fun j hj => ?_⟩
  · show qundo κ n (7 + i) = κ (82 + 49 * (κ 5 - n) + i)
    unfold qundo; rw [if_neg (by omega), if_pos (by omega)]; congr 1; omega
  · rw [h5] at hj
    exact (h.2.2.2 j (by omega)).congr (fun i hi => ev _ (by omega) (by omega))
/-- the state's row put back -/
def qback (κ κ0 : Nat → Nat) : Nat → Nat := fun i => if 7 ≤ i ∧ i < 56 then κ0 i else κ i
/-- a told one, v: carried out -/
def qdoes (κ : Nat → Nat) (v : Int) : Nat → Nat :=
  if v = -1 then qhour κ 1
  else if v < 20000 then qdeed κ (v.toNat / 1000) (v.toNat / 100 % 10) (v.toNat % 100)
  else if v < 40000 then qlay κ (if v < 30000 then 7 else 22) (v.toNat % 10000 / 100) (v.toNat % 100) 6
  else qrep κ (v.toNat - 40000)
/-- why a told one can't be; 0: it can -/
def qwhy (κ : Nat → Nat) (v : Int) : Nat :=
  if v = -1 then 0
  else if 0 ≤ v ∧ v ≤ 9999 then (if v.toNat / 100 % 10 < κ 1 ∧ 1 ≤ v.toNat % 100 ∧ v.toNat % 100 ≤ 24 then 0 else 1)
  else if (20000 ≤ v ∧ v ≤ 20999) ∨ (30000 ≤ v ∧ v ≤ 30999) then (if v.toNat % 10000 / 100 < κ 1 ∧ v.toNat % 100 ≤ 60 then 0 else 1)
  else if 40000 ≤ v ∧ v < 40000 + κ 2 then (if (κ 53).testBit (v.toNat - 40000) then 2 else 0)
  else 1
theorem sok.does {hb pb : Nat} {κ : Nat → Nat} {v : Int} (h : sok hb pb κ) (hv : qwhy κ v = 0) : sok (hb + 24) (pb + 19008) (qdoes κ v) := by
  have hl1 := h.1.1
  have hl2 := h.1.2.1
  unfold qwhy at hv
  unfold qdoes
  by_cases c1 : v = -1
  · rw [if_pos c1]; exact (h.hour (c := 24) (by omega)).mono (Nat.le_refl _) (by omega)
  · rw [if_neg c1] at hv ⊢
    by_cases c2 : 0 ≤ v ∧ v ≤ 9999
    · rw [if_pos c2] at hv
      rw [if_pos (by omega)]
      split at hv
      · rename_i c3; exact h.deed c3.2
      · cases hv
    · rw [if_neg c2] at hv
      by_cases c3 : (20000 ≤ v ∧ v ≤ 20999) ∨ (30000 ≤ v ∧ v ≤ 30999)
      · rw [if_pos c3] at hv
        rw [if_neg (by omega), if_pos (by omega)]
        split at hv
        · rename_i c4
          exact (h.lay (by split <;> omega) (by omega) c4.2 (by omega)).mono (by omega) (by omega)
        · cases hv
      · rw [if_neg c3] at hv
        by_cases c4 : 40000 ≤ v ∧ v < 40000 + κ 2
        · rw [if_neg (by omega), if_neg (by omega)]
          exact (h.rep (by omega)).mono (by omega) (by omega)
        · rw [if_neg c4] at hv; cases hv
