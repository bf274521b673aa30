section A
variable {l : Launch} {G : Gh} {k : Nat} {I : Nat → Nat → Int32} {J : Nat → Nat → Int64} {R : Nat → Nat → Option Nat} {S : Nat → Nat × Nat} {nx : Nat} {κ : Nat → Nat} {hb pb : Nat}
variable {L dl pl ld lp : Nat} {x0 x1 x2 x3 : Int32}
theorem n_needDeed (hl0 : l.stackTraces = false) (w : CF R S nx) (wL : R 14 0 = some L) (wl : LW R S nx L dl pl ld lp) : Cal l G (k + 2) 3 18 mX11_needDeed [.ref 0, .int x1, .int x2, .int x3] (I, J, R, S, nx) (ndQ (nd_needDeed (I L 1) x1 x2 x3) (I, J, R, S, nx)) := by
  unfold nd_needDeed
  refine Cal.of rfl (by decide +kernel) (by simp) (Nat.le_of_ble_eq_true rfl) rfl (sX11_needDeed_0 hl0 w wL wl ⟨by decide, by decide⟩ ?_ ⟨by decide, by decide⟩ ?_ ⟨by decide, by decide⟩ ?_ ?_)
  · intro E n' g hn; exact Or.inr ⟨E, n', by rw [g]; rfl, rfl, hn, rfl⟩
  · intro g1 E n' g hn; exact Or.inr ⟨E, n', by rw [g1, g]; rfl, rfl, hn, rfl⟩
  · intro g1 g2 E n' g hn; exact Or.inr ⟨E, n', by rw [g1, g2, g]; rfl, rfl, hn, rfl⟩
  · intro g1 g2 g3; exact Or.inl ⟨by rw [g1, g2, g3]; rfl, rfl, rfl⟩
theorem n_needWay (hl0 : l.stackTraces = false) (w : CF R S nx) (wL : R 14 0 = some L) (wl : LW R S nx L dl pl ld lp) : Cal l G (k + 2) 3 18 mX11_needWay [.ref 0, .int x1, .int x2, .int x3] (I, J, R, S, nx) (ndQ (nd_needWay (I L 1) x1 x2 x3) (I, J, R, S, nx)) := by
  unfold nd_needWay
  refine Cal.of rfl (by decide +kernel) (by simp) (Nat.le_of_ble_eq_true rfl) rfl (sX11_needWay_0 hl0 w wL wl ⟨by decide, by decide⟩ ?_ ⟨by decide, by decide⟩ ?_ ⟨by decide, by decide⟩ ?_ ?_)
  · intro E n' g hn; exact Or.inr ⟨E, n', by rw [g]; rfl, rfl, hn, rfl⟩
  · intro g1 E n' g hn; exact Or.inr ⟨E, n', by rw [g1, g]; rfl, rfl, hn, rfl⟩
  · intro g1 g2 E n' g hn; exact Or.inr ⟨E, n', by rw [g1, g2, g]; rfl, rfl, hn, rfl⟩
  · intro g1 g2 g3; exact Or.inl ⟨by rw [g1, g2, g3]; rfl, rfl, rfl⟩
end A
