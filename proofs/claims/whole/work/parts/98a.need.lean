section A
variable {l : Launch} {G : Gh} {k : Nat} {I : Nat → Nat → Int32} {J : Nat → Nat → Int64} {R : Nat → Nat → Option Nat} {S : Nat → Nat × Nat} {nx : Nat} {κ : Nat → Nat} {hb pb : Nat}
variable {L dl pl ld lp : Nat} {x0 x1 x2 x3 : Int32}
theorem n_needKind (hl0 : l.stackTraces = false) : Cal l G (k + 1) 1 6 mX11_needKind [.int x0] (I, J, R, S, nx) (ndQ (nd_needKind x0) (I, J, R, S, nx)) := by
  unfold nd_needKind
  exact Cal.of rfl (by decide +kernel) (by simp) (Nat.le_of_ble_eq_true rfl) rfl (sX11_needKind_0 hl0 ⟨by decide, by decide⟩ (fun E n' g hn => Or.inr ⟨E, n', g, rfl, hn, rfl⟩) (fun g => Or.inl ⟨g, rfl, rfl⟩))
end A
