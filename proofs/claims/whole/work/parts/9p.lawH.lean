/-! the law: its own rules, how a case ends -/
abbrev mL_law : Mt := (yL_law, cL_law, 8, (some .boolean), [])
def QL : Res → Mem → Prop := fun r _ => r = .inl (some (.int 1))
def LLoc (i : Nat) : List (Option Value) := [some (.retAddr 1000), some (.ref 0), some (.ref 43), some (.ref 71), some (.int (nI i)), none, none, none]
theorem vin01 : vp_in 0 1 := by
  unfold vp_in
  decide
section Rules
variable {l : Launch} {G : Gh} {k mc ms : Nat} {M : Mt} {Q : Res → Mem → Prop} {pc q : Nat} {L L' : List (Option Value)} {st : List Value} {cb sb : Nat} {μ : Mem}
theorem wp_xld {j : Int32} (hd : decode M.2.1 pc = .ok (.iaload, 1)) (hq : pc + 1 = q) (hi : vp_in j G.2.2.2.2.2.1) (h : WP l G k mc ms M Q q L (.int (G.2.2.2.2.2.2 j.toNatClampNeg) :: st) μ cb sb) : WP l G k mc ms M Q pc L (.int j :: .retAddr 1000 :: st) μ cb sb := by
  subst hq
  intro p e s m args below meth c H locs cells slots ls C hR hS hl h1 h2
  have hx := C.2.2.2.2.2.2.2.2.1.2.2.2.2.2.2.2.2.2.2
  have hbl : G.2.2.2.1 1000 < s.heap.size := by
    obtain ⟨scr, hq, -⟩ := hx.1
    exact (Array.getElem?_eq_some_iff.mp hq).1
  exact va_sld C.1 C.2.1 hx.1 hbl hx.2 hS hi hd (h p e s m args below meth c H locs cells slots ls C hR hS hl h1 h2)
theorem wp_xlen (hd : decode M.2.1 pc = .ok (.arraylength, 1)) (hq : pc + 1 = q) (h : WP l G k mc ms M Q q L (.int (Int32.ofNat G.2.2.2.2.2.1) :: st) μ cb sb) : WP l G k mc ms M Q pc L (.retAddr 1000 :: st) μ cb sb := by
  subst hq
  intro p e s m args below meth c H locs cells slots ls C hR hS hl h1 h2
  have hx := C.2.2.2.2.2.2.2.2.1.2.2.2.2.2.2.2.2.2.2
  have hbl : G.2.2.2.1 1000 < s.heap.size := by
    obtain ⟨scr, hq, -⟩ := hx.1
    exact (Array.getElem?_eq_some_iff.mp hq).1
  exact va_slen C.1 C.2.1 hx.1 hbl hx.2 hS hd (h p e s m args below meth c H locs cells slots ls C hR hS hl h1 h2)
theorem wp_arg {i j : Nat} {cj : Int} (d0 : decode M.2.1 pc = .ok (.aload_n 0, 1)) (d1 : decode M.2.1 (pc + 1) = .ok (.iload 4, 2)) (d2 : decode M.2.1 (pc + 3) = .ok (.iconst cj, 1)) (d3 : decode M.2.1 (pc + 4) = .ok (.iadd, 1)) (d4 : decode M.2.1 (pc + 5) = .ok (.iaload, 1)) (hq : pc + 6 = q) (hv : Int32.ofInt cj = nI j) (hL0 : L[0]? = some (some (.retAddr 1000))) (hL4 : L[4]? = some (some (.int (nI i)))) (hij : i + j < G.2.2.2.2.2.1) (hLx : G.2.2.2.2.2.1 ≤ 3072) (h : WP l G k mc ms M Q q L (.int (G.2.2.2.2.2.2 (i + j)) :: st) μ cb sb) : WP l G k mc ms M Q pc L st μ cb sb := by
  subst hq
  refine wp_sload_n (q := pc + 1) d0 rfl rfl hL0 (wp_iload (q := pc + 3) d1 rfl hL4 (wp_iconst (q := pc + 4) d2 rfl hv (wp_iadd (q := pc + 5) d3 rfl ?_)))
  rw [nI_add]
  refine wp_xld d4 rfl (vp_in_nI hij (by omega)) ?_
  rw [nI_clamp (by omega)]
  exact h
end Rules
theorem lg_cmp_rf (x : Int64) : lg_cmp x x = 0 := by
  unfold lg_cmp
  rw [if_neg (by simp [Int64.lt_iff_toInt_lt]), if_pos rfl]
section A
variable {l : Launch} {G : Gh} {k : Nat} {I : Nat → Nat → Int32} {J : Nat → Nat → Int64} {R : Nat → Nat → Option Nat} {S : Nat → Nat × Nat} {nx : Nat} {κ : Nat → Nat} {hb pb : Nat}
variable {mc ms cb sb : Nat} {Q : Res → Mem → Prop} {L : List (Option Value)}
theorem tail_0 {p n : Nat} (w : MW R S nx) (h4 : I 43 4 = nI n) (hL2 : L[2]? = some (some (.ref 43))) (hL5 : L[5]? = some (some (.int (nI n))))
    (d0 : decode cL_law p = .ok (.aload_n 2, 1)) (d1 : decode cL_law (p + 1) = .ok (.invokevirtual 170, 3)) (d4 : decode cL_law (p + 4) = .ok (.iload 5, 2)) (d6 : decode cL_law (p + 6) = .ok (.if_icmp .eq 5, 3)) (h : WP l G (k + 1) mc ms mL_law Q (p + 11) L [] (I, J, R, S, nx) cb sb) : WP l G (k + 1) mc ms mL_law Q p L [] (I, J, R, S, nx) cb sb := by
  refine wp_aload_n (q := p + 1) d0 rfl rfl hL2 (wp_invV (q := p + 4) (As := []) (t := 12) (mc' := 0) (ms' := 0) d1 rfl rfl ok_X12_thrown ml_RL_170 im_X12_thrown se_X12_thrown (by decide) ⟨_, rfl, rfl⟩ (mw_n w (by decide)) w.2.1 rfl rfl (Nat.le_of_ble_eq_true rfl) (Nat.zero_le _) (Nat.zero_le _) (p_X12_thrown w) ?_ ?_)
  · rintro r μ' ⟨hr, rfl⟩
    obtain rfl := Sum.inl.inj hr
    refine wp_iload (q := p + 6) d4 rfl hL5 (wp_icmp_eq (q := p + 9) (tgt := p + 11) d6 rfl (by omega) (fun _ => h) (fun c => absurd h4 c))
  · rintro E μ' ⟨hr, _⟩; cases hr
theorem tail_i {p n : Nat} {b : Int32} {go : Int} (w : MW R S nx) (h4 : I 43 4 = nI n) (hn : n < 2 ^ 31) (hout : n = 0 → J 71 0 = b.toInt64) (h71 : S 71 = (101, 1)) (hL2 : L[2]? = some (some (.ref 43))) (hL3 : L[3]? = some (some (.ref 71))) (hL5 : L[5]? = some (some (.int (nI n)))) (hL6 : L[6]? = some (some (.int b)))
    (d0 : decode cL_law p = .ok (.aload_n 2, 1)) (d1 : decode cL_law (p + 1) = .ok (.invokevirtual 170, 3)) (d4 : decode cL_law (p + 4) = .ok (.iload 5, 2)) (d6 : decode cL_law (p + 6) = .ok (.if_icmp .eq 5, 3)) (d11 : decode cL_law (p + 11) = .ok (.iload 5, 2)) (d13 : decode cL_law (p + 13) = .ok (.ifCond .ne 15, 3)) (d16 : decode cL_law (p + 16) = .ok (.aload_n 3, 1)) (d17 : decode cL_law (p + 17) = .ok (.iconst 0, 1)) (d18 : decode cL_law (p + 18) = .ok (.laload, 1)) (d19 : decode cL_law (p + 19) = .ok (.iload 6, 2)) (d21 : decode cL_law (p + 21) = .ok (.i2l, 1)) (d22 : decode cL_law (p + 22) = .ok (.lcmp, 1)) (d23 : decode cL_law (p + 23) = .ok (.ifCond .eq 5, 3)) (d28 : decode cL_law (p + 28) = .ok (.goto go, 3)) (hgo : ((p + 28 : Nat) : Int) + go = ((3550 : Nat) : Int))
    (h : WP l G (k + 1) mc ms mL_law Q 3550 L [] (I, J, R, S, nx) cb sb) : WP l G (k + 1) mc ms mL_law Q p L [] (I, J, R, S, nx) cb sb := by
  have hg : WP l G (k + 1) mc ms mL_law Q (p + 28) L [] (I, J, R, S, nx) cb sb := wp_goto (tgt := 3550) d28 hgo h
  refine tail_0 w h4 hL2 hL5 d0 d1 d4 d6 (wp_iload (q := p + 13) d11 rfl hL5 (wp_if_ne (q := p + 16) (tgt := p + 28) d13 rfl (by omega) (fun _ => hg) (fun c => ?_)))
  have n0 : n = 0 := (nI_eq hn (by decide)).mp (show nI n = nI 0 from c)
  refine wp_aload_n (q := p + 17) d16 rfl rfl hL3 (wp_iconst (q := p + 18) d17 rfl ki_0 (wp_laload (q := p + 19) d18 rfl (by have := w.1; omega) h71 vin01 (wp_iload (q := p + 21) d19 rfl hL6 (wp_i2l (q := p + 22) d21 rfl (wp_lcmp (q := p + 23) d22 rfl (wp_if_eq (q := p + 26) (tgt := p + 28) d23 rfl (by omega) (fun _ => hg) (fun c2 => ?_)))))))
  exact absurd (by
    show lg_cmp (J 71 0) b.toInt64 = 0
    rw [hout n0]; exact lg_cmp_rf _) c2
theorem tail_j {p n : Nat} {b : Int64} {go : Int} (w : MW R S nx) (h4 : I 43 4 = nI n) (hn : n < 2 ^ 31) (hout : n = 0 → J 71 0 = b) (h71 : S 71 = (101, 1)) (hL2 : L[2]? = some (some (.ref 43))) (hL3 : L[3]? = some (some (.ref 71))) (hL5 : L[5]? = some (some (.int (nI n)))) (hL6 : L[6]? = some (some (.long b)))
    (d0 : decode cL_law p = .ok (.aload_n 2, 1)) (d1 : decode cL_law (p + 1) = .ok (.invokevirtual 170, 3)) (d4 : decode cL_law (p + 4) = .ok (.iload 5, 2)) (d6 : decode cL_law (p + 6) = .ok (.if_icmp .eq 5, 3)) (d11 : decode cL_law (p + 11) = .ok (.iload 5, 2)) (d13 : decode cL_law (p + 13) = .ok (.ifCond .ne 14, 3)) (d16 : decode cL_law (p + 16) = .ok (.aload_n 3, 1)) (d17 : decode cL_law (p + 17) = .ok (.iconst 0, 1)) (d18 : decode cL_law (p + 18) = .ok (.laload, 1)) (d19 : decode cL_law (p + 19) = .ok (.lload 6, 2)) (d21 : decode cL_law (p + 21) = .ok (.lcmp, 1)) (d22 : decode cL_law (p + 22) = .ok (.ifCond .eq 5, 3)) (d27 : decode cL_law (p + 27) = .ok (.goto go, 3)) (hgo : ((p + 27 : Nat) : Int) + go = ((3550 : Nat) : Int))
    (h : WP l G (k + 1) mc ms mL_law Q 3550 L [] (I, J, R, S, nx) cb sb) : WP l G (k + 1) mc ms mL_law Q p L [] (I, J, R, S, nx) cb sb := by
  have hg : WP l G (k + 1) mc ms mL_law Q (p + 27) L [] (I, J, R, S, nx) cb sb := wp_goto (tgt := 3550) d27 hgo h
  refine tail_0 w h4 hL2 hL5 d0 d1 d4 d6 (wp_iload (q := p + 13) d11 rfl hL5 (wp_if_ne (q := p + 16) (tgt := p + 27) d13 rfl (by omega) (fun _ => hg) (fun c => ?_)))
  have n0 : n = 0 := (nI_eq hn (by decide)).mp (show nI n = nI 0 from c)
  refine wp_aload_n (q := p + 17) d16 rfl rfl hL3 (wp_iconst (q := p + 18) d17 rfl ki_0 (wp_laload (q := p + 19) d18 rfl (by have := w.1; omega) h71 vin01 (wp_lload (q := p + 21) d19 rfl hL6 (wp_lcmp (q := p + 22) d21 rfl (wp_if_eq (q := p + 25) (tgt := p + 27) d22 rfl (by omega) (fun _ => hg) (fun c2 => ?_))))))
  exact absurd (by
    show lg_cmp (J 71 0) b = 0
    rw [hout n0]; exact lg_cmp_rf _) c2
theorem tail_z {p n : Nat} {b : Int32} {go : Int} (w : MW R S nx) (h4 : I 43 4 = nI n) (hn : n < 2 ^ 31) (hout : n = 0 → J 71 0 = (if b = 0 then 0 else 1)) (h71 : S 71 = (101, 1)) (hL2 : L[2]? = some (some (.ref 43))) (hL3 : L[3]? = some (some (.ref 71))) (hL5 : L[5]? = some (some (.int (nI n)))) (hL6 : L[6]? = some (some (.int b)))
    (d0 : decode cL_law p = .ok (.aload_n 2, 1)) (d1 : decode cL_law (p + 1) = .ok (.invokevirtual 170, 3)) (d4 : decode cL_law (p + 4) = .ok (.iload 5, 2)) (d6 : decode cL_law (p + 6) = .ok (.if_icmp .eq 5, 3)) (d11 : decode cL_law (p + 11) = .ok (.iload 5, 2)) (d13 : decode cL_law (p + 13) = .ok (.ifCond .ne 22, 3)) (d16 : decode cL_law (p + 16) = .ok (.aload_n 3, 1)) (d17 : decode cL_law (p + 17) = .ok (.iconst 0, 1)) (d18 : decode cL_law (p + 18) = .ok (.laload, 1)) (d19 : decode cL_law (p + 19) = .ok (.iload 6, 2)) (d21 : decode cL_law (p + 21) = .ok (.ifCond .eq 7, 3)) (d24 : decode cL_law (p + 24) = .ok (.lconst 1, 1)) (d25 : decode cL_law (p + 25) = .ok (.goto 4, 3)) (d28 : decode cL_law (p + 28) = .ok (.lconst 0, 1)) (d29 : decode cL_law (p + 29) = .ok (.lcmp, 1)) (d30 : decode cL_law (p + 30) = .ok (.ifCond .eq 5, 3)) (d35 : decode cL_law (p + 35) = .ok (.goto go, 3)) (hgo : ((p + 35 : Nat) : Int) + go = ((3550 : Nat) : Int))
    (h : WP l G (k + 1) mc ms mL_law Q 3550 L [] (I, J, R, S, nx) cb sb) : WP l G (k + 1) mc ms mL_law Q p L [] (I, J, R, S, nx) cb sb := by
  have hg : WP l G (k + 1) mc ms mL_law Q (p + 35) L [] (I, J, R, S, nx) cb sb := wp_goto (tgt := 3550) d35 hgo h
  refine tail_0 w h4 hL2 hL5 d0 d1 d4 d6 (wp_iload (q := p + 13) d11 rfl hL5 (wp_if_ne (q := p + 16) (tgt := p + 35) d13 rfl (by omega) (fun _ => hg) (fun c => ?_)))
  have n0 : n = 0 := (nI_eq hn (by decide)).mp (show nI n = nI 0 from c)
  have hcmp : ∀ v : Int64, J 71 0 = v → WP l G (k + 1) mc ms mL_law Q (p + 29) L [.long v, .long (J 71 0)] (I, J, R, S, nx) cb sb := fun v hv => wp_lcmp (q := p + 30) d29 rfl (wp_if_eq (q := p + 33) (tgt := p + 35) d30 rfl (by omega) (fun _ => hg) (fun c2 => absurd (by rw [hv]; exact lg_cmp_rf _) c2))
  refine wp_aload_n (q := p + 17) d16 rfl rfl hL3 (wp_iconst (q := p + 18) d17 rfl ki_0 (wp_laload (q := p + 19) d18 rfl (by have := w.1; omega) h71 vin01 (wp_iload (q := p + 21) d19 rfl hL6 (wp_if_eq (q := p + 24) (tgt := p + 28) d21 rfl (by omega) (fun cb0 => wp_lconst (q := p + 29) d28 rfl kl_0 (hcmp 0 ?_)) (fun cb0 => wp_lconst (q := p + 25) d24 rfl kl_1 (wp_goto (tgt := p + 29) d25 (by omega) (hcmp 1 ?_)))))))
  · rw [hout n0, if_pos cb0]
  · rw [hout n0, if_neg cb0]
theorem tail_v {p n : Nat} {go : Int} (w : MW R S nx) (h4 : I 43 4 = nI n) (hL2 : L[2]? = some (some (.ref 43))) (hL5 : L[5]? = some (some (.int (nI n))))
    (d0 : decode cL_law p = .ok (.aload_n 2, 1)) (d1 : decode cL_law (p + 1) = .ok (.invokevirtual 170, 3)) (d4 : decode cL_law (p + 4) = .ok (.iload 5, 2)) (d6 : decode cL_law (p + 6) = .ok (.if_icmp .eq 5, 3)) (d11 : decode cL_law (p + 11) = .ok (.goto go, 3)) (hgo : ((p + 11 : Nat) : Int) + go = ((3550 : Nat) : Int)) (h : WP l G (k + 1) mc ms mL_law Q 3550 L [] (I, J, R, S, nx) cb sb) : WP l G (k + 1) mc ms mL_law Q p L [] (I, J, R, S, nx) cb sb :=
  tail_0 w h4 hL2 hL5 d0 d1 d4 d6 (wp_goto (tgt := 3550) d11 hgo h)
variable {ι : Nat → Option (Nat → Nat)} {τ tm : Nat → Nat} {tn : Nat → Nat → Int64} {tp : Nat} {fk fp : Int32} {t : Nat → Nat}
/-- all that holds between two calls -/
def LI (I : Nat → Nat → Int32) (J : Nat → Nat → Int64) (R : Nat → Nat → Option Nat) (S : Nat → Nat × Nat) (nx hb pb : Nat) (st : St) : Prop := CI (I, J, R, S, nx) st ∧ RS I J R S nx st.1 st.2.1 st.2.2.1.1 st.2.2.1.2.1 st.2.2.1.2.2 st.2.2.2.1.1 st.2.2.2.1.2 st.2.2.2.2.1 st.2.2.2.2.2 ∧ sok hb pb st.1 ∧ ∀ i σ, st.2.1 i = some σ → sok hb pb σ
/-- how it goes on behind a case -/
def KL (l : Launch) (G : Gh) (k mc ms i hb pb cb sb : Nat) : Prop := ∀ (I : Nat → Nat → Int32) (J : Nat → Nat → Int64) (R : Nat → Nat → Option Nat) (S : Nat → Nat × Nat) (nx : Nat) (st : St), LI I J R S nx (hb + 720) (pb + 570240) st → WP l G (k + 106) mc ms mL_law QL 3550 (LLoc i) [] (I, J, R, S, nx) (cb - 1000) (sb - 14000)
end A
