/-! the class: a kind is needed -/
theorem sX11_needKind_0 {l : Launch} {G : Gh} {k mc ms : Nat} {Q : Res → Mem → Prop} {I : Nat → Nat → Int32} {J : Nat → Nat → Int64} {R : Nat → Nat → Option Nat} {S : Nat → Nat × Nat} {nx cb sb : Nat} {x0 : Int32} (hl0 : l.stackTraces = false)
    (q1 : 1 ≤ cb ∧ 6 ≤ sb)
    (t1 : ∀ E n', (nd_needWithin x0 (0 : Int32) (9 : Int32)) = some E → nx ≤ n' → Q (.inr E) (thr (I, J, R, S, nx) n'))
    (h2 : (nd_needWithin x0 (0 : Int32) (9 : Int32)) = none → Q (.inl none) (I, J, R, S, nx)) :
    WP l G (k + 1) mc ms mX11_needKind Q 0 [some (.int x0)] [] (I, J, R, S, nx) cb sb :=
  (wp_iload_n (q := 1) dX11_needKind_0 rfl rfl rfl (wp_iconst (q := 2) dX11_needKind_1 rfl ki_0 (wp_bipush (q := 4) dX11_needKind_2 rfl kb_9 (wp_ndS (q := 7) (As := [.int x0, .int (0 : Int32), .int (9 : Int32)]) (nd := (nd_needWithin x0 (0 : Int32) (9 : Int32))) dX11_needKind_4 rfl rfl ok_X11_needWithin ml_RX11_74 sm_X11_needWithin rfl rfl (Nat.le_of_ble_eq_true rfl) q1.1 q1.2 (n_needWithin hl0) (fun n1 => (wp_return dX11_needKind_7 rfl (h2 n1))) (t1)))))
def hX11_needKind_0 (l : Launch) (G : Gh) (k mc ms : Nat) (Q : Res → Mem → Prop) (x0 : Int32) (μ : Mem) (cb sb : Nat) : Prop := WP l G (k + 1) mc ms mX11_needKind Q 0 [some (.int x0)] [] μ cb sb
