/-! the class: a land is read -/
section A
variable {l : Launch} {G : Gh} {k : Nat} {I : Nat → Nat → Int32} {J : Nat → Nat → Int64} {R : Nat → Nat → Option Nat} {S : Nat → Nat × Nat} {nx : Nat} {κ : Nat → Nat} {hb pb : Nat}
variable {t : Nat → Nat} {n F : Nat} {z : Zt} {L dl pl ld lp : Nat} {f : Nat → Nat} {m : Bool}
theorem copyOf_c {a N ll : Nat} (ha : a < nx) (hs : S a = (100, N)) (hl : ll < N) (hN : N < 2 ^ 20) : Cal l G k 1 ll mJ7_copyOf_59c91 [.ref a, .int (nI ll)] (I, J, R, S, nx) (fun r μ' => r = .inl (some (.ref nx)) ∧ ∃ I', μ' = (I', up1 J nx (fun _ => 0), up1 R nx (fun _ => none), up1 S nx (100, ll), nx + 1) ∧ (∀ b, b ≠ nx → I' b = I b) ∧ ∀ i, i < ll → I' nx i = I a i) := by
  have e0 : (Int32.ofNat N) = nI N := rfl
  have em : (if nI ll < nI N then nI ll else nI N) = nI ll := if_pos ((nI_ltI (by omega) (by omega)).mpr hl)
  have ec : (nI ll).toNatClampNeg = ll := nI_clamp (by omega)
  refine Cal.of rfl (by decide +kernel) (by simp) (Nat.le_of_ble_eq_true rfl) rfl (wp_iload_n (q := 1) dJ7_copyOf_59c91_0 rfl rfl rfl (wp_aload_n (q := 2) dJ7_copyOf_59c91_1 rfl rfl rfl (wp_alen (q := 3) dJ7_copyOf_59c91_2 rfl ha hs (Or.inl rfl) (wp_icmp_ne (q := 6) (tgt := 14) dJ7_copyOf_59c91_3 rfl rfl (fun _ => ?_) (fun c => ?_)))))
  · refine WP.less (cb' := 0 + 1) (sb' := 0 + ll) (by omega) (by omega) (wp_iload_n (q := 15) dJ7_copyOf_59c91_14 rfl rfl rfl (wp_newarr (q := 17) (ty := .int) (tg := 100) (n := ll) dJ7_copyOf_59c91_15 rfl (Or.inl ⟨rfl, rfl⟩) AR100 (nI_nneg (by omega)) ec (by omega) (wp_astore_n (q := 18) dJ7_copyOf_59c91_17 rfl rfl (by decide) rfl (wp_aload_n (q := 19) dJ7_copyOf_59c91_18 rfl rfl rfl (wp_iconst (q := 20) dJ7_copyOf_59c91_19 rfl ki_0 (wp_aload_n (q := 21) dJ7_copyOf_59c91_20 rfl rfl rfl (wp_iconst (q := 22) dJ7_copyOf_59c91_21 rfl ki_0 (wp_aload_n (q := 23) dJ7_copyOf_59c91_22 rfl rfl rfl (wp_alen (q := 24) dJ7_copyOf_59c91_23 rfl (by omega) (by rw [up1_ne (by omega)]; exact hs) (Or.inl rfl) (wp_iload_n (q := 25) dJ7_copyOf_59c91_24 rfl rfl rfl (wp_mmin (q := 28) dJ7_copyOf_59c91_25 rfl ml_RJ7_304 sm_mmin in_Math cd_mmin (Nat.le_of_ble_eq_true rfl) ?_)))))))))))
    rw [e0, em]
    refine wp_copyI (q := 31) dJ7_copyOf_59c91_28 rfl ml_RJ7_150 (sp1 := 0) (dp1 := 0) (n1p := ll) (by decide) (by decide) ec (Nat.le_of_ble_eq_true rfl) (by omega) (by rw [up1_ne (by omega)]; exact hs) (by omega) (by rw [up1_eq]) ⟨⟨by decide, by decide, nI_nneg (by omega)⟩, by rw [ec]; show 0 + ll ≤ N; omega, by rw [ec]; show 0 + ll ≤ ll; omega⟩ (wp_aload_n (q := 32) dJ7_copyOf_59c91_31 rfl rfl rfl (wp_areturn dJ7_copyOf_59c91_32 rfl (Or.inr ⟨_, rfl⟩) ⟨rfl, _, rfl, fun b hb => ?_, fun i hi => ?_⟩))
    · rw [upC_ne hb, up1_ne hb]
    · rw [upC_in (by omega), up1_ne (by omega), show 0 + (i - 0) = i by omega]
  · have := (nI_eq (by omega) (by omega)).mp c
    omega
theorem beginLaw_c {s : Tok} (w : CF R S nx) (hG : GT G) (h : CX I t n (none, s)) (h7 : s.2.2.1 ≠ 257) : Cal l G (k + 8) 0 0 mX6_beginLaw [.ref 1, .int (if m then 1 else 0)] (I, J, R, S, nx) (fun r μ' => r = .inl none ∧ ∃ I', μ' = (I', J, R, S, nx) ∧ F1 [13] [3, 4, 5, 6, 8, 10, 11, 12] I I' ∧ CE (s.2.1 + 1) I' t n m (xmust t n 58 (ynx t n s.1, []))) := by
  have hU : F1 [] [8, 10] I (up2 (up2 I 1 8 (if m then 1 else 0)) 1 10 (0 : Int32)) := (F1.rf.uf (by decide)).uf (by decide)
  have hE : CE s.2.1 (up2 (up2 I 1 8 (if m then 1 else 0)) 1 10 (0 : Int32)) t n m (.inr (s, [])) := by
    refine ⟨(none, s), 0, rfl, h.f1 hU (by simp) (by decide), ?_, ?_, by show 0 + s.2.1 ≤ s.2.1; omega, fun s' hs => ?_⟩
    · rw [up2_s, if_neg (by decide), up2_s, if_pos rfl]
    · rw [up2_s, if_pos rfl]; rfl
    · rw [← Sum.inr.inj hs]; exact ⟨rfl, fun i v hv => by simp at hv⟩
  refine Cal.of rfl (by decide +kernel) (by simp) (Nat.le_of_ble_eq_true rfl) rfl (sX6_beginLaw_0 (P1 := fun I I' => FC I I' ∧ CE (s.2.1 + 1) I' t n m (.inr (xad t n (s, [])))) (P2 := fun I I' => FC I I' ∧ CE (s.2.1 + 1) I' t n m (xmust t n 58 (ynx t n s.1, []))) w (by cases m <;> rfl) (by cases m <;> rfl) (adv_p (k := k + 1) w hG hE (fun c => ?_)) (fun I1 h1 => must_k (c := 58) w hG h1.2 (by decide)) (fun I1 h1 I2 h2 => ⟨rfl, _, rfl, ?_, h2.2⟩))
  · have := hE.tok (c := 257) (by decide)
    rw [show nI 257 = (257 : Int32) from rfl] at this
    rw [this] at c
    exact h7 c
  · exact (hU.wk (by simp) (by decide)).t ((h1.1.wk (by simp) (by decide)).t (h2.1.wk (by simp) (by decide)))
/-- the reader's frame: what it leaves as it was -/
def RdF (μ0 μ : Mem) : Prop := μ0.2.2.2.2 ≤ μ.2.2.2.2 ∧ (∀ b, b < μ0.2.2.2.2 → (b ≠ 1 → b ≠ 13 → μ.1 b = μ0.1 b) ∧ μ.2.1 b = μ0.2.1 b ∧ (b ≠ 1 → μ.2.2.1 b = μ0.2.2.1 b) ∧ μ.2.2.2.1 b = μ0.2.2.2.1 b) ∧ (∀ j, j ≠ 7 → μ.2.2.1 1 j = μ0.2.2.1 1 j) ∧ ∀ f, f ∉ [2, 3, 4, 5, 6, 8, 10, 11, 12] → μ.1 1 f = μ0.1 1 f
theorem RdF.f1 {μ0 : Mem} {rs fs : List Nat} {I' : Nat → Nat → Int32} (h : RdF μ0 (I, J, R, S, nx)) (hF : F1 rs fs I I') (hr : ∀ a ∈ rs, a = 13 ∨ μ0.2.2.2.2 ≤ a) (hf : ∀ a ∈ fs, a ∈ [2, 3, 4, 5, 6, 8, 10, 11, 12]) : RdF μ0 (I', J, R, S, nx) := by
  obtain ⟨h1, h2, h3, h4⟩ := h
  refine ⟨h1, fun b hb => ⟨fun c1 c2 => ?_, (h2 b hb).2.1, (h2 b hb).2.2.1, (h2 b hb).2.2.2⟩, h3, fun g hg => ?_⟩
  · show I' b = _
    rw [hF.1 b c1 (fun g => by have := hr b g; omega)]; exact (h2 b hb).1 c1 c2
  · show I' 1 g = _
    rw [hF.2 g (fun c => hg (hf g c))]; exact h4 g hg
/-- the land that is being read stands at L -/
def RdL (μ0 μ : Mem) (L dl pl ld lp : Nat) : Prop := RdF μ0 μ ∧ CF μ.2.2.1 μ.2.2.2.1 μ.2.2.2.2 ∧ μ.2.2.1 1 7 = some L ∧ LW μ.2.2.1 μ.2.2.2.1 μ.2.2.2.2 L dl pl ld lp ∧ LPl L dl pl ∧ μ0.2.2.2.2 ≤ L ∧ 72 ≤ μ0.2.2.2.2
theorem RdL.f1 {μ0 : Mem} {rs fs : List Nat} {I' : Nat → Nat → Int32} (h : RdL μ0 (I, J, R, S, nx) L dl pl ld lp) (hF : F1 rs fs I I') (hr : ∀ a ∈ rs, a = 13 ∨ L ≤ a) (hf : ∀ a ∈ fs, a ∈ [2, 3, 4, 5, 6, 8, 10, 11, 12]) : RdL μ0 (I', J, R, S, nx) L dl pl ld lp :=
  ⟨h.1.f1 hF (fun a ha => by have := hr a ha; have := h.2.2.2.2.2.1; omega) hf, h.2⟩
def RdQ (μ0 : Mem) (t : Nat → Nat) (n L : Nat) (Y : Er ⊕ Ln) : Res → Mem → Prop := fun r μ' => r = .inl (some (.ref L)) ∧ ∃ dl pl ld lp, RdL μ0 μ' L dl pl ld lp ∧ ∃ z, CX μ'.1 t n z ∧ zr z = lt1 Y ∧ ∀ s, Y = .inr s → LL μ'.1 s.2 L dl pl ld lp
variable {μ0 : Mem} {Y : Er ⊕ Ln} {mc ms cb sb : Nat} {x1 x2 : Int32}
theorem rl_out (h : RdL μ0 (I, J, R, S, nx) L dl pl ld lp) (hx : CX I t n z) (hz : zr z = lt1 Y) (hl : ∀ s, Y = .inr s → LL I s.2 L dl pl ld lp) : WP l G (k + 102) mc ms mX6_readLand (RdQ μ0 t n L Y) 272 [some (.ref 1), some (.int x1), some (.int x2)] [] (I, J, R, S, nx) cb sb :=
  wp_aload_n (q := 273) dX6_readLand_272 rfl rfl rfl (wp_getR (q := 276) dX6_readLand_273 rfl fl_RX6_37 rfl (cf_n h.2.1 (by decide)) (cf_o h.2.1 (q := (1, 6)) (by decide)) h.2.2.1 (wp_areturn dX6_readLand_276 rfl (Or.inl ⟨_, rfl⟩) ⟨rfl, dl, pl, ld, lp, h, z, hx, hz, hl⟩))
theorem rl_bad {e : Er} (h : RdL μ0 (I, J, R, S, nx) L dl pl ld lp) (hx : CX I t n z) (hz : zr z = .inl e) : WP l G (k + 102) mc ms mX6_readLand (RdQ μ0 t n L (.inl e)) 45 [some (.ref 1), some (.int x1), some (.int x2)] [] (I, J, R, S, nx) cb sb :=
  wp_iload_n (q := 46) dX6_readLand_45 rfl rfl rfl (wp_sipush (q := 49) dX6_readLand_46 rfl ks_900 (wp_icmp_gt (q := 52) (tgt := 272) dX6_readLand_49 rfl rfl (fun _ => rl_out h hx hz (fun s hs => by cases hs)) (fun _ => wp_aload_n (q := 53) dX6_readLand_52 rfl rfl rfl (wp_getI (q := 56) dX6_readLand_53 rfl fl_RX6_52 rfl (cf_n h.2.1 (by decide)) (cf_o h.2.1 (q := (1, 6)) (by decide)) (wp_if_ne (q := 59) (tgt := 272) dX6_readLand_56 rfl rfl (fun _ => rl_out h hx hz (fun s hs => by cases hs)) (fun c => absurd c (bad0 hx hz)))))))
theorem LL.f0 {i j v : Nat} (h : LL I f L dl pl ld lp) (hp : LPl L dl pl) (h2 : f 2 ≤ 8) (hij : (j = 0 ∧ i = 0) ∨ (j = 4 ∧ i = 6) ∨ (j = 3 ∧ i = 54)) : LL (up2 I L j (nI v)) (qset f i v) L dl pl ld lp := by
  obtain ⟨p1, p2, p3⟩ := hp
  obtain ⟨⟨a0, a1, a2, a3, a4⟩, b1, b2, b3, b4⟩ := h
  have e : ∀ b, b ≠ L → up2 I L j (nI v) b = I b := fun b hb => up2_o hb
  have q : ∀ c, c ≠ i → qset f i v c = f c := fun c hc => qset_ne hc
  refine ⟨?_, fun u hu => ?_, fun a ha => ?_, fun kd hk => ?_, ?_⟩
  · rcases hij with ⟨rfl, rfl⟩ | ⟨rfl, rfl⟩ | ⟨rfl, rfl⟩ <;> simp only [up2_s, qset] <;> simp <;> simp [a0, a1, a2, a3, a4]
  · rw [e (L + 1) (by omega), e (L + 2) (by omega), q (56 + u) (by omega), q (61 + u) (by omega)]; exact b1 u hu
  · rw [e (L + 3) (by omega), e (L + 4) (by omega), e (L + 5) (by omega), e (L + 6) (by omega), q (66 + a) (by omega), q (74 + a) (by omega), q (37 + a) (by omega), q (45 + a) (by omega)]; exact b2 a ha
  · rw [e (L + 7) (by omega), qkind_g (g := qset f i v) h2 (fun c hc => q c (by omega))]; exact b3 kd hk
  · have := LL.w (g := qset f i v) b4 (fun c hc => q c (by omega))
    unfold LLw at this ⊢
    rw [e dl (by omega), e pl (by omega)]
    exact this
theorem zmu_st {c : Nat} (h : CX I t n z) : z.2.2.1 ≤ (zmu t n c z).2.2.1 := by
  have hg := h.g
  have ha := h.wf.ad h.tx
  unfold zmu
  split
  · show z.2.2.1 ≤ (ynx t n z.2.1).2.1; omega
  · exact Nat.le_refl _
theorem lt1_line {Y1 : Er ⊕ Ln} : xb (lt1 Y1) (ymust t n 59) = lt1 (xb Y1 (fun s1 => xb (ymust t n 59 s1.1) (fun s2 => .inr (s2, qset s1.2 0 (s1.2 0 + 1))))) := by
  cases Y1 with
  | inl e => rfl
  | inr s =>
    show ymust t n 59 s.1 = lt1 (xb (ymust t n 59 s.1) _)
    cases ymust t n 59 s.1 <;> rfl
theorem rl_tail {Y1 : Er ⊕ Ln} {Q : Res → Mem → Prop} {i : Nat} (h : RdL μ0 (I, J, R, S, nx) L dl pl ld lp) (hG : GT G) (hx : CX I t n z) (hz : zr z = lt1 Y1) (hl : ∀ s, Y1 = .inr s → LL I s.2 L dl pl ld lp ∧ s.2 2 ≤ 8)
    (hk : ∀ (I' : Nat → Nat → Int32) (z' : Zt), RdL μ0 (I', J, R, S, nx) L dl pl ld lp → CX I' t n z' → zr z' = lt1 (xb Y1 (fun s1 => xb (ymust t n 59 s1.1) (fun s2 => .inr (s2, qset s1.2 0 (s1.2 0 + 1))))) → z.2.2.1 ≤ z'.2.2.1 → (∀ s, xb Y1 (fun s1 => xb (ymust t n 59 s1.1) (fun s2 => .inr (s2, qset s1.2 0 (s1.2 0 + 1)))) = .inr s → LL I' s.2 L dl pl ld lp) → WP l G (k + 102) mc ms mX6_readLand Q 45 [some (.ref 1), some (.int x1), some (.int (nI (i + 1)))] [] (I', J, R, S, nx) cb sb) :
    WP l G (k + 102) mc ms mX6_readLand Q 247 [some (.ref 1), some (.int x1), some (.int (nI i))] [] (I, J, R, S, nx) cb sb := by
  have w : CF R S nx := h.2.1
  have wl : LW R S nx L dl pl ld lp := h.2.2.2.1
  have hp := h.2.2.2.2.1
  refine wp_aload_n (q := 248) dX6_readLand_247 rfl rfl rfl (wp_bipush (q := 250) dX6_readLand_248 rfl kb_59 (wp_bV (q := 253) (As := [.int (59 : Int32)]) (v := .null) dX6_readLand_250 rfl rfl ok_X6_take ml_RX6_108 im_X6_take se_X6_take (t := 6) (by decide) ⟨_, rfl, rfl⟩ (cf_n w (by decide)) (cf_o w (q := (1, 6)) (by decide)) rfl rfl (Nat.le_of_ble_eq_true rfl) (take_z (k := k + 94) (c := 59) w hG hx (by decide)) (fun I1 f1 => wp_aload_n (q := 254) dX6_readLand_253 rfl rfl rfl (wp_getR (q := 257) dX6_readLand_254 rfl fl_RX6_37 rfl (cf_n w (by decide)) (cf_o w (q := (1, 6)) (by decide)) h.2.2.1 (wp_dup (q := 258) dX6_readLand_257 rfl rfl (wp_getI (q := 261) dX6_readLand_258 rfl fl_RX6_111 rfl (lw_n wl (i := 0) (by decide)) (lw_s wl) (wp_iconst (q := 262) dX6_readLand_261 rfl ki_1 (wp_iadd (q := 263) dX6_readLand_262 rfl (wp_putI (q := 266) (ty := tyX2) dX6_readLand_263 rfl fl_RX6_111 rfl rfl rfl rfl rfl (lw_n wl (i := 0) (by decide)) (lw_s wl) (wp_iinc (L' := [some (.ref 1), some (.int x1), some (.int (nI (i + 1)))]) (q := 269) dX6_readLand_266 rfl rfl (by rw [ki_1]; exact nI_1 i) (by decide) rfl (wp_goto (tgt := 45) dX6_readLand_269 rfl ?_)))))))))))
  have hF : F1 [L] [3, 4, 5, 6, 11, 12] I (up2 I1 L 0 (I1 L 0 + 1)) := (f1.1.wk (by simp) (by simp)).up (by simp) (by have := hp.1; omega)
  refine hk _ (zmu t n 59 z) (h.f1 hF (by simp) (by decide)) (f1.2.f1 (rs := [L]) (fs := []) (F1.rf.up (by simp) (by have := hp.1; omega)) (by have := hp.1; simp; omega) (by simp)) (by rw [zr_mu, hz, lt1_line]) (zmu_st hx) (fun s hs => ?_)
  obtain ⟨s1, e1, e2⟩ := xb_inv hs
  obtain ⟨s2, e3, e4⟩ := xb_inv e2
  have e5 := Sum.inr.inj e4
  obtain ⟨g1, g2⟩ := hl s1 e1
  have g3 := g1.f1 hp f1.1 (by simp)
  rw [← e5]
  have := g3.f0 (j := 0) (i := 0) (v := s1.2 0 + 1) hp g2 (Or.inl ⟨rfl, rfl⟩)
  rw [show I1 L 0 + 1 = nI (s1.2 0 + 1) by rw [g3.1.1, nI_1]]
  exact this
end A
