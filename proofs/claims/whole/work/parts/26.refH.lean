/-! the reference: what its public methods keep; guards; deeds of state -/
def scr : List Nat := [45, 49, 50, 51, 52, 53, 54, 55, 56, 57, 58, 59, 60, 61, 64, 65, 66, 67]
def Ps (rows : List Nat) (I I' : Nat → Nat → Int32) : Prop := (∀ a, a ∉ scr → a ∉ rows → a ≠ 43 → I' a = I a) ∧ ∀ f, (f = 6 ∨ f = 14 ∨ f = 15) → I' 43 f = I 43 f
theorem Ps.rf {rows : List Nat} {I : Nat → Nat → Int32} : Ps rows I I := ⟨fun _ _ _ _ => rfl, fun _ _ => rfl⟩
theorem Ps.trans {r1 r2 r3 : List Nat} {I I1 I2 : Nat → Nat → Int32} (h : Ps r1 I I1) (h2 : Ps r2 I1 I2) (h3 : ∀ a, a ∈ r1 ∨ a ∈ r2 → a ∈ r3) : Ps r3 I I2 :=
  ⟨fun a x y z => (h2.1 a x (fun g => y (h3 a (Or.inr g))) z).trans (h.1 a x (fun g => y (h3 a (Or.inl g))) z), fun f hf => (h2.2 f hf).trans (h.2 f hf)⟩
theorem Fr.ps {rs rows : List Nat} {I I' : Nat → Nat → Int32} (h : Fr rs I I') (h1 : ∀ a, a ∈ rs → a ∈ scr ∨ a ∈ rows) (h2 : 43 ∉ rs) : Ps rows I I' :=
  ⟨fun a x y _ => h a (fun g => (h1 a g).elim x y), fun f _ => by rw [h 43 h2]⟩
theorem Ps.up43 {rows : List Nat} {I : Nat → Nat → Int32} {f : Nat} {v : Int32} (h : f ≠ 6 ∧ f ≠ 14 ∧ f ≠ 15) : Ps rows I (up2 I 43 f v) :=
  ⟨fun a _ _ z => by funext j; simp [up2, z], fun g hg => by have : g ≠ f := by omega
                                                             simp [up2, this]⟩
def PU (n : Nat) (κ' : Nat → Nat) (I I' : Nat → Nat → Int32) : Prop := Ps [44] I I' ∧ I' 43 4 = nI n ∧ Kn I' κ'
def cN (x : Int32) : Nat := x.toNatClampNeg
abbrev gR (x : Int32) (a b : Nat) : Prop := (a : Int) ≤ x.toInt ∧ x.toInt ≤ (b : Int)
abbrev gL (x : Int32) (n : Nat) : Prop := 0 ≤ x.toInt ∧ x.toInt < (n : Int)
theorem gR.n {x : Int32} {a b : Nat} (h : gR x a b) (hb : b < 2 ^ 31) : ∃ n, x = nI n ∧ a ≤ n ∧ n ≤ b ∧ cN x = n := by
  obtain ⟨j, h1, h2⟩ := nI_of (x := x) (fun hc => by have := (fa_lt _ _).mp hc; rw [show (0 : Int32).toInt = 0 by decide] at this; have := h.1; omega)
  subst h2
  have h3 := nI_toInt h1
  have h4 := h.1
  have h5 := h.2
  rw [h3] at h4 h5
  exact ⟨j, rfl, by omega, by omega, nI_clamp h1⟩
theorem gL.n {x : Int32} {n : Nat} (h : gL x n) (hb : n < 2 ^ 31) : ∃ j, x = nI j ∧ j < n ∧ cN x = j := by
  obtain ⟨j, h1, h2⟩ := nI_of (x := x) (fun hc => by have := (fa_lt _ _).mp hc; rw [show (0 : Int32).toInt = 0 by decide] at this; have := h.1; omega)
  subst h2
  have h3 := nI_toInt h1
  have h5 := h.2
  rw [h3] at h5
  exact ⟨j, rfl, by omega, nI_clamp h1⟩
theorem gRw (x : Int32) {a b : Nat} (ha : a < 2 ^ 31) (hb : b < 2 ^ 31) : v_X12_within x.toInt64 (lN a) (lN b) = if gR x a b then 1 else 0 := by
  rw [wi_t, Int32.toInt_toInt64, lN_toInt ha, lN_toInt hb]
theorem gR0 {x : Int32} {a b : Nat} (ha : a < 2 ^ 31) (hb : b < 2 ^ 31) : (v_X12_within x.toInt64 (lN a) (lN b) = 0) = ¬ gR x a b := by
  rw [gRw x ha hb]; exact propext ifI
theorem gLk (x : Int32) {n : Nat} (hn : n < 2 ^ 31) : v_X12_within x.toInt64 (0 : Int64) (Int32.toInt64 (nI n - (1 : Int32))) = if gL x n then 1 else 0 := by
  rw [wi_t, Int32.toInt_toInt64, Int32.toInt_toInt64, show (0 : Int64).toInt = 0 by decide, show nI n - (1 : Int32) = zI ((n : Int) - 1) from zI_sub n 1, zI_toInt (by omega)]
  have : (x.toInt ≤ (n : Int) - 1) = (x.toInt < (n : Int)) := propext (by omega)
  simp only [gL, this]
section A
variable {l : Launch} {G : Gh} {k : Nat} {I : Nat → Nat → Int32} {J : Nat → Nat → Int64} {R : Nat → Nat → Option Nat} {S : Nat → Nat × Nat} {nx : Nat} {κ : Nat → Nat} {hb pb : Nat}
theorem gW0 {x : Int32} (hK : Kn I κ) (ho : qok hb pb κ) : (v_X12_isWard I x.toInt64 = 0) = ¬ gL x (κ 1) := by
  have h1 : v_X12_wards I = nI (κ 1) := hK 1 (by decide)
  show (v_X12_within x.toInt64 (0 : Int64) (Int32.toInt64 (v_X12_wards I - (1 : Int32))) = 0) = _
  rw [h1, gLk x (by have := ho.1; omega)]; exact propext ifI
theorem gA0 {x : Int32} (hK : Kn I κ) (ho : qok hb pb κ) : (v_X12_isAct I x.toInt64 = 0) = ¬ gL x (κ 2) := by
  have h1 : v_X12_acts I = nI (κ 2) := hK 2 (by decide)
  show (v_X12_within x.toInt64 (0 : Int64) (Int32.toInt64 (v_X12_acts I - (1 : Int32))) = 0) = _
  rw [h1, gLk x (by have := ho.2.1; omega)]; exact propext ifI
theorem Kn.up43 {f : Nat} {v : Int32} (h : Kn I κ) : Kn (up2 I 43 f v) κ := fun i hi => by simp [up2, h i hi]
theorem PU.fail {n : Nat} {v : Int32} (hK : Kn I κ) (hv : v = nI n) : PU n κ I (up2 I 43 4 v) :=
  ⟨Ps.up43 (by decide), by rw [← hv]; simp [up2], hK.up43⟩
theorem PU.ok {v : Int32} {κ' : Nat → Nat} {I' : Nat → Nat → Int32} {rs : List Nat} (hv : v = 0) (hF : Fr rs (up2 I 43 4 v) I') (h1 : ∀ a, a ∈ rs → a ∈ scr ∨ a ∈ [44]) (h2 : 43 ∉ rs) (hK : Kn I' κ') : PU 0 κ' I I' := by
  refine ⟨(Ps.up43 (rows := [44]) (I := I) (f := 4) (v := v) (by decide)).trans (hF.ps h1 h2) (by simp), ?_, hK⟩
  rw [hF 43 h2, hv]; simp [up2]; rfl
/-! keeps -/
theorem Kn.up {i : Nat} {v : Int32} {x : Nat} (h : Kn I κ) (hv : v = nI x) : Kn (up2 I 44 i v) (qset κ i x) := by
  intro j hj
  by_cases hji : j = i
  · subst hji; simp [up2, qset, hv]
  · simp [up2, qset, hji, h j hj]
theorem Kn.congr {κ' : Nat → Nat} (h : Kn I κ) (e : ∀ i, i < 2380 → κ' i = κ i) : Kn I κ' := fun i hi => by rw [e i hi]; exact h i hi
/-- some numbers copied -/
def qcp (κ σ : Nat → Nat) (dst src n : Nat) : Nat → Nat := fun x => if dst ≤ x ∧ x < dst + n then σ (src + (x - dst)) else κ x
theorem qcp_out {κ σ : Nat → Nat} {dst src n x : Nat} (h : ¬ (dst ≤ x ∧ x < dst + n)) : qcp κ σ dst src n x = κ x := if_neg h
theorem qcp_in {κ σ : Nat → Nat} {dst src n x : Nat} (h : dst ≤ x ∧ x < dst + n) : qcp κ σ dst src n x = σ (src + (x - dst)) := if_pos h
theorem Kn.cp0 {σ : Nat → Nat} {dst src : Nat} (h : Kn I κ) : Kn I (qcp κ σ dst src 0) := fun i hi => by rw [qcp_out (by omega)]; exact h i hi
theorem Kn.cpS {σ : Nat → Nat} {dst src i : Nat} {v : Int32} (h : Kn I (qcp κ σ dst src i)) (hv : v = nI (σ (src + i))) : Kn (up2 I 44 (dst + i) v) (qcp κ σ dst src (i + 1)) := by
  refine (h.up hv).congr (fun j _ => ?_)
  by_cases c : j = dst + i
  · subst c; rw [qset_eq, qcp_in (by omega)]; congr 1; omega
  · rw [qset_ne c]
    by_cases c2 : dst ≤ j ∧ j < dst + i
    · rw [qcp_in c2, qcp_in (by omega)]
    · rw [qcp_out c2, qcp_out (by omega)]
theorem keeps_r (w : MW R S nx) (hK : Kn I κ) (h5 : κ 5 ≤ 10) : Cal l G k 0 0 mX12_keeps [.ref 43] (I, J, R, S, nx) (fun r μ' => r = .inl none ∧ ∃ I', μ' = (I', J, R, S, nx) ∧ Fr [44] I I' ∧ Kn I' (qkeep κ)) := by
  have fin : ∀ (m : Nat) (κ1 : Nat → Nat) (I0 : Nat → Nat → Int32), m ≤ 9 → κ1 5 = m → Fr [44] I I0 → Kn I0 κ1 → (∀ i, i < 2380 → qkeep κ i = qset (qcp κ1 κ1 (82 + 49 * m) 7 49) 5 (m + 1) i) → hX12_keeps_54 l G k (fun r μ' => r = .inl none ∧ ∃ I', μ' = (I', J, R, S, nx) ∧ Fr [44] I I' ∧ Kn I' (qkeep κ)) (0 : Int32) (I0, J, R, S, nx) := by
    intro m κ1 I0 hm h15 hF0 hK0 he
    refine upto (W := fun i I1 => hX12_keeps_54 l G k (fun r μ' => r = .inl none ∧ ∃ I', μ' = (I', J, R, S, nx) ∧ Fr [44] I I' ∧ Kn I' (qkeep κ)) (nI i) (I1, J, R, S, nx)) (P := fun i I1 => Fr [44] I I1 ∧ Kn I1 (qcp κ1 κ1 (82 + 49 * m) 7 i)) 49 ?_ ?_ (i := 0) (Nat.zero_le _) ⟨hF0, hK0.cp0⟩
    · intro I1 ⟨hF, hK1⟩
      have hge : (49 : Int32) ≤ nI 49 := by decide
      refine sX12_keeps_54 w (fun _ => ⟨rfl, _, rfl, hF.up (by decide), ?_⟩) (fun h => absurd hge h) (fun h => absurd hge h) (fun h => absurd hge h)
      have e5 : I1 44 5 = nI m := by rw [hK1 5 (by decide), qcp_out (by omega), h15]
      rw [e5, nI_1]
      exact (hK1.up rfl).congr he
    · intro i I1 hi ⟨hF, hK1⟩ ih
      have hlt : ¬ (49 : Int32) ≤ nI i := nI_ge (b := 49) hi (by decide)
      have e5 : I1 44 5 = nI m := by rw [hK1 5 (by decide), qcp_out (by omega), h15]
      have e1 : (7 : Int32) + nI i = nI (7 + i) := nI_add 7 i
      have e2 : ((82 : Int32) + (49 : Int32) * I1 44 5) + nI i = nI (82 + 49 * m + i) := by
        rw [e5, show (49 : Int32) = nI 49 from rfl, pk_mul, show (82 : Int32) = nI 82 from rfl, nI_add, nI_add]
      refine sX12_keeps_54 w (fun h => absurd h hlt) (fun _ => by rw [e1]; exact vp_in_nI (by omega) (by decide)) (fun _ => by rw [e2]; exact vp_in_nI (by omega) (by decide)) (fun _ => ?_)
      rw [e1, e2, nI_clamp (by omega), nI_clamp (by omega), nI_1]
      exact ih _ ⟨hF.up (by decide), hK1.cpS (by rw [hK1 _ (by omega), qcp_out (by omega)])⟩
  by_cases hten : κ 5 = 10
  · have c : I 44 5 = (10 : Int32) := by rw [hK 5 (by decide), hten]; rfl
    refine Cal.of rfl (by decide +kernel) (by simp) (Nat.le_of_ble_eq_true rfl) rfl (sX12_keeps_0 w (fun h => absurd c h) (fun _ => ?_))
    refine upto (W := fun i I1 => hX12_keeps_14 l G k (fun r μ' => r = .inl none ∧ ∃ I', μ' = (I', J, R, S, nx) ∧ Fr [44] I I' ∧ Kn I' (qkeep κ)) (nI (82 + i)) (I1, J, R, S, nx)) (P := fun i I1 => Fr [44] I I1 ∧ Kn I1 (qcp κ κ 82 131 i)) 441 ?_ ?_ (i := 0) (Nat.zero_le _) ⟨Fr.rf, hK.cp0⟩
    · intro I1 ⟨hF, hK1⟩
      have hge : (523 : Int32) ≤ nI (82 + 441) := by decide
      refine sX12_keeps_14 w (fun _ => ?_) (fun h => absurd hge h) (fun h => absurd hge h) (fun h => absurd hge h)
      have e5 : I1 44 5 - (1 : Int32) = nI 9 := by rw [hK1 5 (by decide), qcp_out (by omega), hten]; rfl
      rw [e5]
      refine fin 9 _ _ (by omega) (qset_eq _ 5 9) (hF.up (by decide)) (hK1.up rfl) (fun i hi => ?_)
      unfold qkeep
      rw [show (if κ 5 = 10 then 10 else κ 5 + 1) = 10 from if_pos hten, show (if κ 5 = 10 then 9 else κ 5) = 9 from if_pos hten]
      by_cases c1 : i = 5
      · rw [if_pos c1, c1, qset_eq]
      · rw [if_neg c1, qset_ne c1]
        by_cases c2 : 82 + 49 * 9 ≤ i ∧ i < 82 + 49 * 9 + 49
        · rw [if_pos c2, qcp_in c2, qset_ne (by omega), qcp_out (by omega)]
        · rw [if_neg c2, qcp_out c2, qset_ne c1]
          by_cases c3 : 82 ≤ i ∧ i < 82 + 441
          · rw [qcp_in c3, if_pos ⟨hten, c3⟩]; congr 1; omega
          · rw [qcp_out c3, if_neg (by omega)]
    · intro i I1 hi ⟨hF, hK1⟩ ih
      have hlt : ¬ (523 : Int32) ≤ nI (82 + i) := nI_ge (b := 523) (by omega) (by decide)
      have e1 : nI (82 + i) + (49 : Int32) = nI (82 + i + 49) := nI_add _ 49
      refine sX12_keeps_14 w (fun h => absurd h hlt) (fun _ => by rw [e1]; exact vp_in_nI (by omega) (by decide)) (fun _ => vp_in_nI (by omega) (by decide)) (fun _ => ?_)
      rw [e1, nI_clamp (by omega), nI_clamp (by omega), nI_1]
      exact ih _ ⟨hF.up (by decide), hK1.cpS (by rw [hK1 _ (by omega), qcp_out (by omega)]; congr 2; omega)⟩
  · have c : ¬ I 44 5 = (10 : Int32) := by
      rw [hK 5 (by decide), show (10 : Int32) = nI 10 from rfl, nI_eq (by omega) (by decide)]; exact hten
    refine Cal.of rfl (by decide +kernel) (by simp) (Nat.le_of_ble_eq_true rfl) rfl (sX12_keeps_0 w (fun _ => fin (κ 5) κ I (by omega) rfl Fr.rf hK (fun i hi => ?_)) (fun h => absurd h c))
    unfold qkeep
    rw [show (if κ 5 = 10 then 10 else κ 5 + 1) = κ 5 + 1 from if_neg hten, show (if κ 5 = 10 then 9 else κ 5) = κ 5 from if_neg hten]
    by_cases c1 : i = 5
    · rw [if_pos c1, c1, qset_eq]
    · rw [if_neg c1, qset_ne c1]
      by_cases c2 : 82 + 49 * κ 5 ≤ i ∧ i < 82 + 49 * κ 5 + 49
      · rw [if_pos c2, qcp_in c2]
      · rw [if_neg c2, qcp_out c2, if_neg (fun h => hten h.1)]
theorem putsAside_r (w : MW R S nx) (hK : Kn I κ) : Cal l G k 0 0 mX12_putsAside [.ref 43] (I, J, R, S, nx) (fun r μ' => r = .inl none ∧ ∃ I', μ' = (I', J, R, S, nx) ∧ Fr [55] I I' ∧ ∀ j, j < 49 → I' 55 j = nI (κ (7 + j))) := by
  refine Cal.of rfl (by decide +kernel) (by simp) (Nat.le_of_ble_eq_true rfl) rfl (sX12_putsAside_0 ?_)
  refine upto (W := fun i I1 => hX12_putsAside_2 l G k _ (nI i) (I1, J, R, S, nx)) (P := fun i I1 => Fr [55] I I1 ∧ ∀ j, j < i → I1 55 j = nI (κ (7 + j))) 49 ?_ ?_ (i := 0) (Nat.zero_le _) ⟨Fr.rf, fun j hj => absurd hj (Nat.not_lt_zero j)⟩
  · intro I1 hp
    have hge : (49 : Int32) ≤ nI 49 := by decide
    exact sX12_putsAside_2 w (fun _ => ⟨rfl, I1, rfl, hp⟩) (fun h => absurd hge h) (fun h => absurd hge h) (fun h => absurd hge h)
  · intro i I1 hi ⟨hF, hp⟩ ih
    have hlt : ¬ (49 : Int32) ≤ nI i := nI_ge (b := 49) hi (by decide)
    have e1 : (7 : Int32) + nI i = nI (7 + i) := nI_add 7 i
    refine sX12_putsAside_2 w (fun h => absurd h hlt) (fun _ => by rw [e1]; exact vp_in_nI (by omega) (by decide)) (fun _ => vp_in_nI (by omega) (by decide)) (fun _ => ?_)
    rw [e1, nI_clamp (by omega), nI_clamp (by omega), nI_1]
    refine ih _ ⟨hF.up (by decide), fun j hj => ?_⟩
    by_cases c : j = i
    · subst c; simp only [up2, if_true]; rw [hF 44 (by decide)]; exact hK _ (by omega)
    · simp only [up2, if_true, if_neg c]; exact hp j (by omega)
theorem putsBack_r {κ0 : Nat → Nat} (w : MW R S nx) (hK : Kn I κ) (h0 : ∀ j, j < 49 → I 55 j = nI (κ0 (7 + j))) : Cal l G k 0 0 mX12_putsBack [.ref 43] (I, J, R, S, nx) (fun r μ' => r = .inl none ∧ ∃ I', μ' = (I', J, R, S, nx) ∧ Fr [44] I I' ∧ Kn I' (qcp κ κ0 7 7 49)) := by
  refine Cal.of rfl (by decide +kernel) (by simp) (Nat.le_of_ble_eq_true rfl) rfl (sX12_putsBack_0 ?_)
  refine upto (W := fun i I1 => hX12_putsBack_2 l G k _ (nI i) (I1, J, R, S, nx)) (P := fun i I1 => Fr [44] I I1 ∧ Kn I1 (qcp κ κ0 7 7 i)) 49 ?_ ?_ (i := 0) (Nat.zero_le _) ⟨Fr.rf, hK.cp0⟩
  · intro I1 hp
    have hge : (49 : Int32) ≤ nI 49 := by decide
    exact sX12_putsBack_2 w (fun _ => ⟨rfl, I1, rfl, hp⟩) (fun h => absurd hge h) (fun h => absurd hge h) (fun h => absurd hge h)
  · intro i I1 hi ⟨hF, hp⟩ ih
    have hlt : ¬ (49 : Int32) ≤ nI i := nI_ge (b := 49) hi (by decide)
    have e1 : (7 : Int32) + nI i = nI (7 + i) := nI_add 7 i
    refine sX12_putsBack_2 w (fun h => absurd h hlt) (fun _ => vp_in_nI (by omega) (by decide)) (fun _ => by rw [e1]; exact vp_in_nI (by omega) (by decide)) (fun _ => ?_)
    rw [e1, nI_clamp (by omega), nI_clamp (by omega), nI_1]
    exact ih _ ⟨hF.up (by decide), hp.cpS (by rw [hF 55 (by decide)]; exact h0 i hi)⟩
end A
