/-! the class: what calls need -/
abbrev eNS : String := "java/util/NoSuchElementException"
abbrev eIA : String := "java/lang/IllegalArgumentException"
abbrev eIS : String := "java/lang/IllegalStateException"
abbrev eIO : String := "java/lang/IndexOutOfBoundsException"
def ndQ (nd : Option String) (μ : Mem) : Res → Mem → Prop := fun r μ' => (nd = none ∧ r = .inl none ∧ μ' = μ) ∨ ∃ E n', nd = some E ∧ r = .inr E ∧ μ.2.2.2.2 ≤ n' ∧ μ' = thr μ n'
def nd_needWard (n x : Int32) : Option String := if 0 ≤ x.toInt ∧ x.toInt < n.toInt then none else some eNS
def nd_needAct (n x : Int32) : Option String := nd_needWard n x
def nd_needImage (x : Int32) : Option String := nd_needWard 3 x
def nd_trayAt (x : Int32) : Option String := nd_needWard 4 x
def nd_needPlaced (v : Int32) : Option String := if v = -1 then some eIS else none
def nd_needWithin (x a b : Int32) : Option String := if a.toInt ≤ x.toInt ∧ x.toInt ≤ b.toInt then none else some eIA
def nd_needNotBelowZero (x : Int32) : Option String := if 0 ≤ x.toInt then none else some eIA
def nd_needKind (x : Int32) : Option String := nd_needWithin x 0 9
def nd_needDeed (n x1 x2 x3 : Int32) : Option String := (nd_needWard n x2).or ((nd_needKind x1).or (nd_needWithin x3 1 24))
def nd_needWay (n x1 x2 x3 : Int32) : Option String := (nd_needWard n x2).or ((nd_needWard n x3).or (nd_needKind x1))
/-- a tray that was found -/
def TA (R : Nat → Nat → Option Nat) (S : Nat → Nat × Nat) (nx y : Nat) (x : Int32) : Prop := (y = 35 + 2 * cN x) ∧ (cN x < 4 ∧ 0 ≤ x.toInt) ∧ y < nx ∧ (S y).1 = 9 ∧ R y 2 = some (y + 1) ∧ S (y + 1) = (101, 30) ∧ y + 1 < nx
theorem toI_lt {x n : Int32} : (x < n) = (x.toInt < n.toInt) := propext (fa_lt x n)
theorem toI_le {x n : Int32} : (x ≤ n) = (x.toInt ≤ n.toInt) := propext (fa_le x n)
section Rules
variable {l : Launch} {G : Gh} {k mc ms : Nat} {M : Mt} {Q : Res → Mem → Prop} {pc q : Nat} {L L' : List (Option Value)} {st : List Value} {cb sb : Nat}
theorem wp_ndV {N : Mt} {bc bs : Nat} {As : List Value} {a t n ix : Nat} {nd : Option String} {μ : Mem} {stk : List Value} (hd : decode M.2.1 pc = .ok (.invokevirtual ix, 3)) (hq : pc + 3 = q) (hh : M.2.2.2.2 = []) (hN : mOK N n) (hlk : Cond.methodLink M.1.cls ix N.1 ∈ TW) (hin : Cond.instanceMethod N.1 ∈ TW) (hse : Cond.selects N.1.cls N.1 N.1 ∈ TW) (ht : t < 13) (hC : ∃ qc, mcls[t]? = some qc ∧ qc.1 = N.1.cls) (ha : a < μ.2.2.2.2) (hs : (μ.2.2.2.1 a).1 = t)
    (hst : stk = As.reverse ++ .ref a :: st) (hn : As.length = n) (hw : (st.map fun v => v.category).sum ≤ 8) (hc : bc ≤ cb) (hsl : bs ≤ sb) (hcall : Cal l G k bc bs N (.ref a :: As) μ (ndQ nd μ)) (h1 : nd = none → WP l G (k + 1) mc ms M Q q L st μ (cb - bc) (sb - bs)) (h2 : ∀ E n', nd = some E → μ.2.2.2.2 ≤ n' → Q (.inr E) (thr μ n')) : WP l G (k + 1) mc ms M Q pc L stk μ cb sb := by
  refine wp_invV hd hq hh hN hlk hin hse ht hC ha hs hst hn hw hc hsl hcall (fun r μ' hr => ?_) (fun E μ' hr => ?_)
  · rcases hr with ⟨g1, g2, g3⟩ | ⟨E, n', g1, g2, _⟩
    · obtain rfl := Sum.inl.inj g2
      subst g3; exact h1 g1
    · cases g2
  · rcases hr with ⟨g1, g2, g3⟩ | ⟨E', n', g1, g2, g3, g4⟩
    · cases g2
    · obtain rfl := Sum.inr.inj g2
      subst g4; exact h2 E n' g1 g3
theorem wp_ndS {N : Mt} {bc bs : Nat} {As : List Value} {n ix : Nat} {nd : Option String} {μ : Mem} {stk : List Value} (hd : decode M.2.1 pc = .ok (.invokestatic ix, 3)) (hq : pc + 3 = q) (hh : M.2.2.2.2 = []) (hN : mOK N n) (hlk : Cond.methodLink M.1.cls ix N.1 ∈ TW) (hsta : Cond.static N.1 ∈ TW)
    (hst : stk = As.reverse ++ st) (hn : As.length = n) (hw : (st.map fun v => v.category).sum ≤ 8) (hc : bc ≤ cb) (hsl : bs ≤ sb) (hcall : Cal l G k bc bs N As μ (ndQ nd μ)) (h1 : nd = none → WP l G (k + 1) mc ms M Q q L st μ (cb - bc) (sb - bs)) (h2 : ∀ E n', nd = some E → μ.2.2.2.2 ≤ n' → Q (.inr E) (thr μ n')) : WP l G (k + 1) mc ms M Q pc L stk μ cb sb := by
  refine wp_invS hd hq hh hN hlk hsta hst hn hw hc hsl hcall (fun r μ' hr => ?_) (fun E μ' hr => ?_)
  · rcases hr with ⟨g1, g2, g3⟩ | ⟨E, n', g1, g2, _⟩
    · obtain rfl := Sum.inl.inj g2
      subst g3; exact h1 g1
    · cases g2
  · rcases hr with ⟨g1, g2, g3⟩ | ⟨E', n', g1, g2, g3, g4⟩
    · cases g2
    · obtain rfl := Sum.inr.inj g2
      subst g4; exact h2 E n' g1 g3
def trQ (x : Int32) (μ : Mem) : Res → Mem → Prop := fun r μ' => (∃ y, TA μ.2.2.1 μ.2.2.2.1 μ.2.2.2.2 y x ∧ r = .inl (some (.ref y)) ∧ μ' = μ) ∨ ∃ E n', nd_trayAt x = some E ∧ r = .inr E ∧ μ.2.2.2.2 ≤ n' ∧ μ' = thr μ n'
theorem wp_tr {N : Mt} {As : List Value} {a t n ix : Nat} {x : Int32} {μ : Mem} {stk : List Value} (hd : decode M.2.1 pc = .ok (.invokevirtual ix, 3)) (hq : pc + 3 = q) (hh : M.2.2.2.2 = []) (hN : mOK N n) (hlk : Cond.methodLink M.1.cls ix N.1 ∈ TW) (hin : Cond.instanceMethod N.1 ∈ TW) (hse : Cond.selects N.1.cls N.1 N.1 ∈ TW) (ht : t < 13) (hC : ∃ qc, mcls[t]? = some qc ∧ qc.1 = N.1.cls) (ha : a < μ.2.2.2.2) (hs : (μ.2.2.2.1 a).1 = t)
    (hst : stk = As.reverse ++ .ref a :: st) (hn : As.length = n) (hw : (st.map fun v => v.category).sum ≤ 8) (hc : 1 ≤ cb) (hsl : 6 ≤ sb) (hcall : Cal l G k 1 6 N (.ref a :: As) μ (trQ x μ)) (h1 : ∀ y, TA μ.2.2.1 μ.2.2.2.1 μ.2.2.2.2 y x → WP l G (k + 1) mc ms M Q q L (.ref y :: st) μ (cb - 1) (sb - 6)) (h2 : ∀ E n', nd_trayAt x = some E → μ.2.2.2.2 ≤ n' → Q (.inr E) (thr μ n')) : WP l G (k + 1) mc ms M Q pc L stk μ cb sb := by
  refine wp_invV hd hq hh hN hlk hin hse ht hC ha hs hst hn hw hc hsl hcall (fun r μ' hr => ?_) (fun E μ' hr => ?_)
  · rcases hr with ⟨y, g1, g2, g3⟩ | ⟨E, n', g1, g2, _⟩
    · obtain rfl := Sum.inl.inj g2
      subst g3; exact h1 y g1
    · cases g2
  · rcases hr with ⟨y, g1, g2, g3⟩ | ⟨E', n', g1, g2, g3, g4⟩
    · cases g2
    · obtain rfl := Sum.inr.inj g2
      subst g4; exact h2 E n' g1 g3
end Rules
section A
variable {l : Launch} {G : Gh} {k : Nat} {I : Nat → Nat → Int32} {J : Nat → Nat → Int64} {R : Nat → Nat → Option Nat} {S : Nat → Nat × Nat} {nx : Nat} {κ : Nat → Nat} {hb pb : Nat}
variable {L dl pl ld lp : Nat} {x0 x1 x2 x3 : Int32}
theorem n_needWard (hl0 : l.stackTraces = false) (w : CF R S nx) (wL : R 14 0 = some L) (wl : LW R S nx L dl pl ld lp) : Cal l G k 1 6 mX11_needWard [.ref 0, .int x1] (I, J, R, S, nx) (ndQ (nd_needWard (I L 1) x1) (I, J, R, S, nx)) := by
  unfold nd_needWard
  refine Cal.of rfl (by decide +kernel) (by simp) (Nat.le_of_ble_eq_true rfl) rfl (sX11_needWard_0 hl0 w wL wl ?_ ⟨by decide, by decide⟩ ?_ ?_ ⟨by decide, by decide⟩)
  · intro g n' hn; rw [toI_lt] at g; exact Or.inr ⟨_, n', if_neg (by rw [show (0 : Int32).toInt = 0 from rfl] at g; omega), rfl, hn, rfl⟩
  · intro g1 g2; rw [toI_lt] at g1 g2; exact Or.inl ⟨if_pos (by rw [show (0 : Int32).toInt = 0 from rfl] at g1; omega), rfl, rfl⟩
  · intro g1 g2 n' hn; rw [toI_lt] at g1 g2; exact Or.inr ⟨_, n', if_neg (by omega), rfl, hn, rfl⟩
theorem n_needAct (hl0 : l.stackTraces = false) (w : CF R S nx) (wL : R 14 0 = some L) (wl : LW R S nx L dl pl ld lp) : Cal l G k 1 6 mX11_needAct [.ref 0, .int x1] (I, J, R, S, nx) (ndQ (nd_needAct (I L 2) x1) (I, J, R, S, nx)) := by
  unfold nd_needAct nd_needWard
  refine Cal.of rfl (by decide +kernel) (by simp) (Nat.le_of_ble_eq_true rfl) rfl (sX11_needAct_0 hl0 w wL wl ?_ ⟨by decide, by decide⟩ ?_ ?_ ⟨by decide, by decide⟩)
  · intro g n' hn; rw [toI_lt] at g; exact Or.inr ⟨_, n', if_neg (by rw [show (0 : Int32).toInt = 0 from rfl] at g; omega), rfl, hn, rfl⟩
  · intro g1 g2; rw [toI_lt] at g1 g2; exact Or.inl ⟨if_pos (by rw [show (0 : Int32).toInt = 0 from rfl] at g1; omega), rfl, rfl⟩
  · intro g1 g2 n' hn; rw [toI_lt] at g1 g2; exact Or.inr ⟨_, n', if_neg (by omega), rfl, hn, rfl⟩
theorem n_needImage (hl0 : l.stackTraces = false) : Cal l G k 1 6 mX11_needImage [.int x0] (I, J, R, S, nx) (ndQ (nd_needImage x0) (I, J, R, S, nx)) := by
  unfold nd_needImage nd_needWard
  refine Cal.of rfl (by decide +kernel) (by simp) (Nat.le_of_ble_eq_true rfl) rfl (sX11_needImage_0 hl0 ?_ ⟨by decide, by decide⟩ ?_ ?_ ⟨by decide, by decide⟩)
  · intro g n' hn; rw [toI_lt] at g; exact Or.inr ⟨_, n', if_neg (by rw [show (0 : Int32).toInt = 0 from rfl] at g; omega), rfl, hn, rfl⟩
  · intro g1 g2; rw [toI_lt] at g1 g2; exact Or.inl ⟨if_pos (by rw [show (0 : Int32).toInt = 0 from rfl] at g1; omega), rfl, rfl⟩
  · intro g1 g2 n' hn; rw [toI_lt] at g1 g2; exact Or.inr ⟨_, n', if_neg (by omega), rfl, hn, rfl⟩
theorem n_needPlaced {y : Nat} (hl0 : l.stackTraces = false) (hn : y < nx) (hs : (S y).1 = 9) : Cal l G k 1 6 mX11_needPlaced [.ref y] (I, J, R, S, nx) (ndQ (nd_needPlaced (I y 1)) (I, J, R, S, nx)) := by
  unfold nd_needPlaced
  refine Cal.of rfl (by decide +kernel) (by simp) (Nat.le_of_ble_eq_true rfl) rfl (sX11_needPlaced_0 hl0 hn hs ?_ ?_ ⟨by decide, by decide⟩)
  · intro g; exact Or.inl ⟨if_neg g, rfl, rfl⟩
  · intro g n' hn; exact Or.inr ⟨_, n', if_pos g, rfl, hn, rfl⟩
theorem n_needWithin (hl0 : l.stackTraces = false) : Cal l G k 1 6 mX11_needWithin [.int x0, .int x1, .int x2] (I, J, R, S, nx) (ndQ (nd_needWithin x0 x1 x2) (I, J, R, S, nx)) := by
  unfold nd_needWithin
  refine Cal.of rfl (by decide +kernel) (by simp) (Nat.le_of_ble_eq_true rfl) rfl (sX11_needWithin_0 hl0 ?_ ⟨by decide, by decide⟩ ?_ ?_ ⟨by decide, by decide⟩)
  · intro g n' hn; rw [toI_lt] at g; exact Or.inr ⟨_, n', if_neg (by omega), rfl, hn, rfl⟩
  · intro g1 g2; rw [toI_lt] at g1; rw [toI_le] at g2; exact Or.inl ⟨if_pos (by omega), rfl, rfl⟩
  · intro g1 g2 n' hn; rw [toI_lt] at g1; rw [toI_le] at g2; exact Or.inr ⟨_, n', if_neg (by omega), rfl, hn, rfl⟩
theorem n_needNotBelowZero (hl0 : l.stackTraces = false) : Cal l G k 1 6 mX11_needNotBelowZero [.int x0] (I, J, R, S, nx) (ndQ (nd_needNotBelowZero x0) (I, J, R, S, nx)) := by
  unfold nd_needNotBelowZero
  refine Cal.of rfl (by decide +kernel) (by simp) (Nat.le_of_ble_eq_true rfl) rfl (sX11_needNotBelowZero_0 hl0 ?_ ?_ ⟨by decide, by decide⟩)
  · intro g; rw [toI_le] at g; exact Or.inl ⟨if_pos g, rfl, rfl⟩
  · intro g n' hn; rw [toI_le] at g; exact Or.inr ⟨_, n', if_neg g, rfl, hn, rfl⟩
theorem n_trayAt (hl0 : l.stackTraces = false) (w : CF R S nx) : Cal l G k 1 6 mX11_trayAt [.ref 0, .int x1] (I, J, R, S, nx) (trQ x1 (I, J, R, S, nx)) := by
  have thr1 : ∀ pc', pc' = 9 → nd_trayAt x1 = some eNS → WP l G k 1 6 mX11_trayAt (trQ x1 (I, J, R, S, nx)) pc' [some (.ref 0), some (.int x1)] [] (I, J, R, S, nx) 1 6 := by
    intro pc' hpc g
    subst hpc
    exact wp_thr (si := 5) hl0 rfl rfl thr_B (by decide) ⟨rfl, rfl⟩ dX11_trayAt_9 dX11_trayAt_12 dX11_trayAt_13 dX11_trayAt_16 dX11_trayAt_19 (Nat.le_of_ble_eq_true rfl) (by decide) (by decide) (fun n' hn => Or.inr ⟨_, n', g, rfl, hn, rfl⟩)
  refine Cal.of rfl (by decide +kernel) (by simp) (Nat.le_of_ble_eq_true rfl) rfl (wp_iload_n (q := 1) dX11_trayAt_0 rfl rfl rfl (wp_if_lt (q := 4) (tgt := 9) dX11_trayAt_1 rfl rfl (fun c1 => ?_) (fun c1 => wp_iload_n (q := 5) dX11_trayAt_4 rfl rfl rfl (wp_iconst (q := 6) dX11_trayAt_5 rfl ki_4 (wp_icmp_lt (q := 9) (tgt := 20) dX11_trayAt_6 rfl rfl (fun c2 => ?_) (fun c2 => ?_))))))
  · refine thr1 9 rfl ?_
    rw [toI_lt] at c1
    unfold nd_trayAt nd_needWard
    exact if_neg (by rw [show (0 : Int32).toInt = 0 from rfl] at c1; omega)
  · rw [toI_lt] at c1 c2
    have h0 : 0 ≤ x1.toInt := by rw [show (0 : Int32).toInt = 0 from rfl] at c1; omega
    have h4 : x1.toInt < 4 := c2
    have hcn : cN x1 < 4 := by unfold cN; rw [Int32.toNatClampNeg]; omega
    have hin : vp_in x1 4 := by
      rintro (g | g)
      · rw [toI_lt, show (0 : Int32).toInt = 0 from rfl] at g; omega
      · exact absurd hcn (by unfold cN; omega)
    have hr : R 33 x1.toNatClampNeg = some (35 + 2 * cN x1) := w.2.2.2.2 _ hcn
    have hc4 : cN x1 = 0 ∨ cN x1 = 1 ∨ cN x1 = 2 ∨ cN x1 = 3 := by omega
    have hta : TA R S nx (35 + 2 * cN x1) x1 := by
      refine ⟨rfl, ⟨hcn, h0⟩, ?_⟩
      rcases hc4 with g | g | g | g <;> rw [g]
      · exact ⟨cf_n w (by decide), cf_o w (q := (35, 9)) (by decide), cf_r w (q := (35, 2, 36)) (by decide), cf_a w (q := (36, 101, 30)) (by decide), cf_n w (by decide)⟩
      · exact ⟨cf_n w (by decide), cf_o w (q := (37, 9)) (by decide), cf_r w (q := (37, 2, 38)) (by decide), cf_a w (q := (38, 101, 30)) (by decide), cf_n w (by decide)⟩
      · exact ⟨cf_n w (by decide), cf_o w (q := (39, 9)) (by decide), cf_r w (q := (39, 2, 40)) (by decide), cf_a w (q := (40, 101, 30)) (by decide), cf_n w (by decide)⟩
      · exact ⟨cf_n w (by decide), cf_o w (q := (41, 9)) (by decide), cf_r w (q := (41, 2, 42)) (by decide), cf_a w (q := (42, 101, 30)) (by decide), cf_n w (by decide)⟩
    exact wp_aload_n (q := 21) dX11_trayAt_20 rfl rfl rfl (wp_getR (q := 24) dX11_trayAt_21 rfl fl_RX11_36 rfl (cf_n w (by decide)) (cf_o w (q := (0, 11)) (by decide)) (cf_r w (q := (0, 4, 33)) (by decide)) (wp_iload_n (q := 25) dX11_trayAt_24 rfl rfl rfl (wp_aaloadR (q := 26) dX11_trayAt_25 rfl (Or.inl rfl) (cf_n w (by decide)) (cf_a w (q := (33, 104, 4)) (by decide)) hin hr (wp_areturn dX11_trayAt_26 rfl (Or.inl ⟨_, rfl⟩) (Or.inl ⟨_, hta, rfl, rfl⟩)))))
  · refine thr1 9 rfl ?_
    rw [toI_lt] at c1 c2
    unfold nd_trayAt nd_needWard
    exact if_neg (fun g => c2 g.2)
end A
