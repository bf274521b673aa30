/-! the class: segments of what calls need -/
theorem sX11_needWard_0 {l : Launch} {G : Gh} {k mc ms : Nat} {Q : Res → Mem → Prop} {I : Nat → Nat → Int32} {J : Nat → Nat → Int64} {R : Nat → Nat → Option Nat} {S : Nat → Nat × Nat} {nx cb sb : Nat} {x1 : Int32} {L dl pl ld lp : Nat} (hl0 : l.stackTraces = false) (w : CF R S nx) (wL : R 14 0 = some L) (wl : LW R S nx L dl pl ld lp)
    (h1 : x1 < 0 → ∀ n', nx ≤ n' → Q (.inr "java/util/NoSuchElementException") (thr (I, J, R, S, nx) n'))
    (q1 : 1 ≤ cb ∧ 6 ≤ sb)
    (h2 : ¬ x1 < 0 → x1 < (I L 1) → Q (.inl none) (I, J, R, S, nx))
    (h3 : ¬ x1 < 0 → ¬ x1 < (I L 1) → ∀ n', nx ≤ n' → Q (.inr "java/util/NoSuchElementException") (thr (I, J, R, S, nx) n'))
    (q2 : 1 ≤ cb ∧ 6 ≤ sb) :
    WP l G (k) mc ms mX11_needWard Q 0 [some (.ref 0), some (.int x1)] [] (I, J, R, S, nx) cb sb :=
  (wp_iload_n (q := 1) dX11_needWard_0 rfl rfl rfl (wp_if_lt (q := 4) (tgt := 18) dX11_needWard_1 rfl rfl (fun c1 => (wp_thr (si := 2) hl0 rfl rfl thr_B (by decide) ⟨rfl, rfl⟩ dX11_needWard_18 dX11_needWard_21 dX11_needWard_22 dX11_needWard_25 dX11_needWard_28 (Nat.le_of_ble_eq_true rfl) q1.1 q1.2 (h1 c1))) (fun c1 => (wp_iload_n (q := 5) dX11_needWard_4 rfl rfl rfl (wp_aload_n (q := 6) dX11_needWard_5 rfl rfl rfl (wp_getR (q := 9) dX11_needWard_6 rfl fl_RX11_19 rfl (cf_n w (by decide)) (cf_o w (q := (0, 11)) (by decide)) (cf_r w (q := (0, 1, 14)) (by decide)) (wp_getR (q := 12) dX11_needWard_9 rfl fl_RX11_106 rfl (cf_n w (by decide)) (cf_o w (q := (14, 7)) (by decide)) wL (wp_getI (q := 15) dX11_needWard_12 rfl fl_RX11_175 rfl (lw_n wl (i := 0) (by decide)) (lw_s wl) (wp_icmp_lt (q := 18) (tgt := 29) dX11_needWard_15 rfl rfl (fun c2 => (wp_return dX11_needWard_29 rfl (h2 c1 c2))) (fun c2 => (wp_thr (si := 2) hl0 rfl rfl thr_B (by decide) ⟨rfl, rfl⟩ dX11_needWard_18 dX11_needWard_21 dX11_needWard_22 dX11_needWard_25 dX11_needWard_28 (Nat.le_of_ble_eq_true rfl) q2.1 q2.2 (h3 c1 c2))))))))))))
def hX11_needWard_0 (l : Launch) (G : Gh) (k mc ms : Nat) (Q : Res → Mem → Prop) (x1 : Int32) (μ : Mem) (cb sb : Nat) : Prop := WP l G (k) mc ms mX11_needWard Q 0 [some (.ref 0), some (.int x1)] [] μ cb sb
theorem sX11_needAct_0 {l : Launch} {G : Gh} {k mc ms : Nat} {Q : Res → Mem → Prop} {I : Nat → Nat → Int32} {J : Nat → Nat → Int64} {R : Nat → Nat → Option Nat} {S : Nat → Nat × Nat} {nx cb sb : Nat} {x1 : Int32} {L dl pl ld lp : Nat} (hl0 : l.stackTraces = false) (w : CF R S nx) (wL : R 14 0 = some L) (wl : LW R S nx L dl pl ld lp)
    (h1 : x1 < 0 → ∀ n', nx ≤ n' → Q (.inr "java/util/NoSuchElementException") (thr (I, J, R, S, nx) n'))
    (q1 : 1 ≤ cb ∧ 6 ≤ sb)
    (h2 : ¬ x1 < 0 → x1 < (I L 2) → Q (.inl none) (I, J, R, S, nx))
    (h3 : ¬ x1 < 0 → ¬ x1 < (I L 2) → ∀ n', nx ≤ n' → Q (.inr "java/util/NoSuchElementException") (thr (I, J, R, S, nx) n'))
    (q2 : 1 ≤ cb ∧ 6 ≤ sb) :
    WP l G (k) mc ms mX11_needAct Q 0 [some (.ref 0), some (.int x1)] [] (I, J, R, S, nx) cb sb :=
  (wp_iload_n (q := 1) dX11_needAct_0 rfl rfl rfl (wp_if_lt (q := 4) (tgt := 18) dX11_needAct_1 rfl rfl (fun c1 => (wp_thr (si := 3) hl0 rfl rfl thr_B (by decide) ⟨rfl, rfl⟩ dX11_needAct_18 dX11_needAct_21 dX11_needAct_22 dX11_needAct_25 dX11_needAct_28 (Nat.le_of_ble_eq_true rfl) q1.1 q1.2 (h1 c1))) (fun c1 => (wp_iload_n (q := 5) dX11_needAct_4 rfl rfl rfl (wp_aload_n (q := 6) dX11_needAct_5 rfl rfl rfl (wp_getR (q := 9) dX11_needAct_6 rfl fl_RX11_19 rfl (cf_n w (by decide)) (cf_o w (q := (0, 11)) (by decide)) (cf_r w (q := (0, 1, 14)) (by decide)) (wp_getR (q := 12) dX11_needAct_9 rfl fl_RX11_106 rfl (cf_n w (by decide)) (cf_o w (q := (14, 7)) (by decide)) wL (wp_getI (q := 15) dX11_needAct_12 rfl fl_RX11_386 rfl (lw_n wl (i := 0) (by decide)) (lw_s wl) (wp_icmp_lt (q := 18) (tgt := 29) dX11_needAct_15 rfl rfl (fun c2 => (wp_return dX11_needAct_29 rfl (h2 c1 c2))) (fun c2 => (wp_thr (si := 3) hl0 rfl rfl thr_B (by decide) ⟨rfl, rfl⟩ dX11_needAct_18 dX11_needAct_21 dX11_needAct_22 dX11_needAct_25 dX11_needAct_28 (Nat.le_of_ble_eq_true rfl) q2.1 q2.2 (h3 c1 c2))))))))))))
def hX11_needAct_0 (l : Launch) (G : Gh) (k mc ms : Nat) (Q : Res → Mem → Prop) (x1 : Int32) (μ : Mem) (cb sb : Nat) : Prop := WP l G (k) mc ms mX11_needAct Q 0 [some (.ref 0), some (.int x1)] [] μ cb sb
theorem sX11_needImage_0 {l : Launch} {G : Gh} {k mc ms : Nat} {Q : Res → Mem → Prop} {I : Nat → Nat → Int32} {J : Nat → Nat → Int64} {R : Nat → Nat → Option Nat} {S : Nat → Nat × Nat} {nx cb sb : Nat} {x0 : Int32} (hl0 : l.stackTraces = false)
    (h1 : x0 < 0 → ∀ n', nx ≤ n' → Q (.inr "java/util/NoSuchElementException") (thr (I, J, R, S, nx) n'))
    (q1 : 1 ≤ cb ∧ 6 ≤ sb)
    (h2 : ¬ x0 < 0 → x0 < (3 : Int32) → Q (.inl none) (I, J, R, S, nx))
    (h3 : ¬ x0 < 0 → ¬ x0 < (3 : Int32) → ∀ n', nx ≤ n' → Q (.inr "java/util/NoSuchElementException") (thr (I, J, R, S, nx) n'))
    (q2 : 1 ≤ cb ∧ 6 ≤ sb) :
    WP l G (k) mc ms mX11_needImage Q 0 [some (.int x0)] [] (I, J, R, S, nx) cb sb :=
  (wp_iload_n (q := 1) dX11_needImage_0 rfl rfl rfl (wp_if_lt (q := 4) (tgt := 9) dX11_needImage_1 rfl rfl (fun c1 => (wp_thr (si := 12) hl0 rfl rfl thr_B (by decide) ⟨rfl, rfl⟩ dX11_needImage_9 dX11_needImage_12 dX11_needImage_13 dX11_needImage_16 dX11_needImage_19 (Nat.le_of_ble_eq_true rfl) q1.1 q1.2 (h1 c1))) (fun c1 => (wp_iload_n (q := 5) dX11_needImage_4 rfl rfl rfl (wp_iconst (q := 6) dX11_needImage_5 rfl ki_3 (wp_icmp_lt (q := 9) (tgt := 20) dX11_needImage_6 rfl rfl (fun c2 => (wp_return dX11_needImage_20 rfl (h2 c1 c2))) (fun c2 => (wp_thr (si := 12) hl0 rfl rfl thr_B (by decide) ⟨rfl, rfl⟩ dX11_needImage_9 dX11_needImage_12 dX11_needImage_13 dX11_needImage_16 dX11_needImage_19 (Nat.le_of_ble_eq_true rfl) q2.1 q2.2 (h3 c1 c2)))))))))
def hX11_needImage_0 (l : Launch) (G : Gh) (k mc ms : Nat) (Q : Res → Mem → Prop) (x0 : Int32) (μ : Mem) (cb sb : Nat) : Prop := WP l G (k) mc ms mX11_needImage Q 0 [some (.int x0)] [] μ cb sb
theorem sX11_needPlaced_0 {l : Launch} {G : Gh} {k mc ms : Nat} {Q : Res → Mem → Prop} {I : Nat → Nat → Int32} {J : Nat → Nat → Int64} {R : Nat → Nat → Option Nat} {S : Nat → Nat × Nat} {nx cb sb : Nat} {x0 : Nat} (hl0 : l.stackTraces = false) (hn_x0 : x0 < nx) (hs_x0 : (S x0).1 = 9)
    (h1 : ¬ (I x0 1) = (-1 : Int32) → Q (.inl none) (I, J, R, S, nx))
    (h2 : (I x0 1) = (-1 : Int32) → ∀ n', nx ≤ n' → Q (.inr "java/lang/IllegalStateException") (thr (I, J, R, S, nx) n'))
    (q1 : 1 ≤ cb ∧ 6 ≤ sb) :
    WP l G (k) mc ms mX11_needPlaced Q 0 [some (.ref x0)] [] (I, J, R, S, nx) cb sb :=
  (wp_aload_n (q := 1) dX11_needPlaced_0 rfl rfl rfl (wp_getI (q := 4) dX11_needPlaced_1 rfl fl_RX11_216 rfl hn_x0 hs_x0 (wp_iconst (q := 5) dX11_needPlaced_4 rfl ki_m1 (wp_icmp_ne (q := 8) (tgt := 19) dX11_needPlaced_5 rfl rfl (fun c1 => (wp_return dX11_needPlaced_19 rfl (h1 c1))) (fun c1 => (wp_thr (si := 6) hl0 rfl rfl thr_C (by decide) ⟨rfl, rfl⟩ dX11_needPlaced_8 dX11_needPlaced_11 dX11_needPlaced_12 dX11_needPlaced_15 dX11_needPlaced_18 (Nat.le_of_ble_eq_true rfl) q1.1 q1.2 (h2 c1)))))))
def hX11_needPlaced_0 (l : Launch) (G : Gh) (k mc ms : Nat) (Q : Res → Mem → Prop) (x0 : Nat) (μ : Mem) (cb sb : Nat) : Prop := WP l G (k) mc ms mX11_needPlaced Q 0 [some (.ref x0)] [] μ cb sb
theorem sX11_needWithin_0 {l : Launch} {G : Gh} {k mc ms : Nat} {Q : Res → Mem → Prop} {I : Nat → Nat → Int32} {J : Nat → Nat → Int64} {R : Nat → Nat → Option Nat} {S : Nat → Nat × Nat} {nx cb sb : Nat} {x0 x1 x2 : Int32} (hl0 : l.stackTraces = false)
    (h1 : x0 < x1 → ∀ n', nx ≤ n' → Q (.inr "java/lang/IllegalArgumentException") (thr (I, J, R, S, nx) n'))
    (q1 : 1 ≤ cb ∧ 6 ≤ sb)
    (h2 : ¬ x0 < x1 → x0 ≤ x2 → Q (.inl none) (I, J, R, S, nx))
    (h3 : ¬ x0 < x1 → ¬ x0 ≤ x2 → ∀ n', nx ≤ n' → Q (.inr "java/lang/IllegalArgumentException") (thr (I, J, R, S, nx) n'))
    (q2 : 1 ≤ cb ∧ 6 ≤ sb) :
    WP l G (k) mc ms mX11_needWithin Q 0 [some (.int x0), some (.int x1), some (.int x2)] [] (I, J, R, S, nx) cb sb :=
  (wp_iload_n (q := 1) dX11_needWithin_0 rfl rfl rfl (wp_iload_n (q := 2) dX11_needWithin_1 rfl rfl rfl (wp_icmp_lt (q := 5) (tgt := 10) dX11_needWithin_2 rfl rfl (fun c1 => (wp_thr (si := 0) hl0 rfl rfl thr_A (by decide) ⟨rfl, rfl⟩ dX11_needWithin_10 dX11_needWithin_13 dX11_needWithin_14 dX11_needWithin_17 dX11_needWithin_20 (Nat.le_of_ble_eq_true rfl) q1.1 q1.2 (h1 c1))) (fun c1 => (wp_iload_n (q := 6) dX11_needWithin_5 rfl rfl rfl (wp_iload_n (q := 7) dX11_needWithin_6 rfl rfl rfl (wp_icmp_le (q := 10) (tgt := 21) dX11_needWithin_7 rfl rfl (fun c2 => (wp_return dX11_needWithin_21 rfl (h2 c1 c2))) (fun c2 => (wp_thr (si := 0) hl0 rfl rfl thr_A (by decide) ⟨rfl, rfl⟩ dX11_needWithin_10 dX11_needWithin_13 dX11_needWithin_14 dX11_needWithin_17 dX11_needWithin_20 (Nat.le_of_ble_eq_true rfl) q2.1 q2.2 (h3 c1 c2))))))))))
def hX11_needWithin_0 (l : Launch) (G : Gh) (k mc ms : Nat) (Q : Res → Mem → Prop) (x0 : Int32) (x1 : Int32) (x2 : Int32) (μ : Mem) (cb sb : Nat) : Prop := WP l G (k) mc ms mX11_needWithin Q 0 [some (.int x0), some (.int x1), some (.int x2)] [] μ cb sb
theorem sX11_needNotBelowZero_0 {l : Launch} {G : Gh} {k mc ms : Nat} {Q : Res → Mem → Prop} {I : Nat → Nat → Int32} {J : Nat → Nat → Int64} {R : Nat → Nat → Option Nat} {S : Nat → Nat × Nat} {nx cb sb : Nat} {x0 : Int32} (hl0 : l.stackTraces = false)
    (h1 : 0 ≤ x0 → Q (.inl none) (I, J, R, S, nx))
    (h2 : ¬ 0 ≤ x0 → ∀ n', nx ≤ n' → Q (.inr "java/lang/IllegalArgumentException") (thr (I, J, R, S, nx) n'))
    (q1 : 1 ≤ cb ∧ 6 ≤ sb) :
    WP l G (k) mc ms mX11_needNotBelowZero Q 0 [some (.int x0)] [] (I, J, R, S, nx) cb sb :=
  (wp_iload_n (q := 1) dX11_needNotBelowZero_0 rfl rfl rfl (wp_if_ge (q := 4) (tgt := 15) dX11_needNotBelowZero_1 rfl rfl (fun c1 => (wp_return dX11_needNotBelowZero_15 rfl (h1 c1))) (fun c1 => (wp_thr (si := 7) hl0 rfl rfl thr_A (by decide) ⟨rfl, rfl⟩ dX11_needNotBelowZero_4 dX11_needNotBelowZero_7 dX11_needNotBelowZero_8 dX11_needNotBelowZero_11 dX11_needNotBelowZero_14 (Nat.le_of_ble_eq_true rfl) q1.1 q1.2 (h2 c1)))))
def hX11_needNotBelowZero_0 (l : Launch) (G : Gh) (k mc ms : Nat) (Q : Res → Mem → Prop) (x0 : Int32) (μ : Mem) (cb sb : Nat) : Prop := WP l G (k) mc ms mX11_needNotBelowZero Q 0 [some (.int x0)] [] μ cb sb
