/-! rules of the instructions that read, write and make cells -/
def up2 {α : Type} (f : Nat → Nat → α) (a i : Nat) (v : α) : Nat → Nat → α := fun b j => if b = a then (if j = i then v else f b j) else f b j
def up1 {α : Type} (f : Nat → α) (a : Nat) (v : α) : Nat → α := fun b => if b = a then v else f b
set_option maxRecDepth 20000 in
theorem mcls_ws : ∀ q ∈ mcls, ∀ w ∈ u_ws q.1 q.2.1 q.2.2, w ∈ TW := by decide +kernel
theorem mcls_at {t : Nat} {q : vw_C} (h : mcls[t]? = some q) : ∀ w ∈ u_ws q.1 q.2.1 q.2.2, w ∈ TW := mcls_ws q (List.mem_of_getElem? h)
theorem mty_ok : ∀ (t : Nat) (q : vw_C) (ty : Nat → FieldType), mcls[t]? = some q → mtyp[t]? = some ty → (∀ k, k < q.2.2 → parseFieldDescriptor (q.2.1 k).2.2.1 = some (ty k)) ∧ (∀ a, a < q.2.2 → ∀ b, b < q.2.2 → a ≠ b → (q.2.1 a).2.1 ≠ (q.2.1 b).2.1)
  | 0, _, _, h1, h2 => by cases h1; cases h2; exact ⟨tyX0_ok, nmX0⟩
  | 1, _, _, h1, h2 => by cases h1; cases h2; exact ⟨tyX1_ok, nmX1⟩
  | 2, _, _, h1, h2 => by cases h1; cases h2; exact ⟨tyX2_ok, nmX2⟩
  | 3, _, _, h1, h2 => by cases h1; cases h2; exact ⟨tyX3_ok, nmX3⟩
  | 4, _, _, h1, h2 => by cases h1; cases h2; exact ⟨tyX4_ok, nmX4⟩
  | 5, _, _, h1, h2 => by cases h1; cases h2; exact ⟨tyX5_ok, nmX5⟩
  | 6, _, _, h1, h2 => by cases h1; cases h2; exact ⟨tyX6_ok, nmX6⟩
  | 7, _, _, h1, h2 => by cases h1; cases h2; exact ⟨tyX7_ok, nmX7⟩
  | 8, _, _, h1, h2 => by cases h1; cases h2; exact ⟨tyX8_ok, nmX8⟩
  | 9, _, _, h1, h2 => by cases h1; cases h2; exact ⟨tyX9_ok, nmX9⟩
  | 10, _, _, h1, h2 => by cases h1; cases h2; exact ⟨tyX10_ok, nmX10⟩
  | 11, _, _, h1, h2 => by cases h1; cases h2; exact ⟨tyX11_ok, nmX11⟩
  | 12, _, _, h1, h2 => by cases h1; cases h2; exact ⟨tyX12_ok, nmX12⟩
  | n + 13, _, _, h1, _ => by simp [mcls] at h1
theorem ftl_len : ∀ (t : Nat) (q : vw_C), mcls[t]? = some q → (ftl.getD t []).length = q.2.2
  | 0, _, h1 => by cases h1; rfl
  | 1, _, h1 => by cases h1; rfl
  | 2, _, h1 => by cases h1; rfl
  | 3, _, h1 => by cases h1; rfl
  | 4, _, h1 => by cases h1; rfl
  | 5, _, h1 => by cases h1; rfl
  | 6, _, h1 => by cases h1; rfl
  | 7, _, h1 => by cases h1; rfl
  | 8, _, h1 => by cases h1; rfl
  | 9, _, h1 => by cases h1; rfl
  | 10, _, h1 => by cases h1; rfl
  | 11, _, h1 => by cases h1; rfl
  | 12, _, h1 => by cases h1; rfl
  | n + 13, _, h1 => by simp [mcls] at h1
/-- the pool of class own has, at ix, field j of class t -/
def flk (own : String) (ix t j : Nat) : Prop := t < 13 ∧ ∃ q : vw_C, mcls[t]? = some q ∧ j < q.2.2 ∧ Cond.fieldLink own ix (q.2.1 j).1 (q.2.1 j).2.1 (q.2.1 j).2.2.1 ∈ TW
theorem fsl_at {B : Nat} {μ : Mem} {t a j : Nat} (h : j < (ftl.getD t []).length) : (fsl B μ t a)[j]? = some (fvl B μ t a j) := by
  unfold fsl
  rw [List.getElem?_map, List.getElem?_range h]
  rfl
theorem fsl_len (B : Nat) (μ : Mem) (t a : Nat) : (fsl B μ t a).length = (ftl.getD t []).length := by simp only [fsl, List.length_map, List.length_range]
theorem rel_obj {G : Gh} {μ : Mem} {H : Heap} {a t : Nat} (hR : RelM G μ H) (ha : a < μ.2.2.2.2) (hs : (μ.2.2.2.1 a).1 = t) (ht : t < 13) : va_at G.2.1 mcls (G.1 + a, .inr (t, fsl G.1 μ t a)) H := by
  have h := hR.2 a ha (by omega)
  rw [clO, if_pos (by omega), hs] at h
  exact h
theorem rel_arr {G : Gh} {μ : Mem} {H : Heap} {a t n : Nat} (hR : RelM G μ H) (ha : a < μ.2.2.2.2) (hs : μ.2.2.2.1 a = (t, n)) (ht : 100 ≤ t) (ht2 : t < 200) : va_at G.2.1 mcls (G.1 + a, .inl (G.2.2.1 t, n, acn G.1 μ t a)) H := by
  have h := hR.2 a ha (by rw [hs]; exact ht2)
  rw [clO, hs, if_neg (by show ¬ t < 50; omega)] at h
  exact h
theorem va_P1 {D : va_G} {cl : List vw_C} {q : Nat × va_E} {H : Heap} (h : va_at D cl q H) : va_P D cl [q] H := by
  intro k q' hk
  cases k with
  | zero => cases hk; exact h
  | succ k => simp at hk
section VZ
variable {p : Program} {l : Launch} {e : Env} {R : Room} {s : State} {m : MethodId} {args : Array Value} {below : List Frame} {meth : Method} {c : Code} {H : Heap} {locs : List Loc} {cells slots : Nat} {Q : State → Prop}
variable {cc : ByteArray} {pc : Nat} {ls : Array Slot} {rest : List Value} {D : va_G} {cl : List vw_C} {A : Nat → Prop} {a : Nat} {tys : List (ClassId × FieldType)} {H0 : Heap}
theorem vz_put (hexec : p.tables.exec = Jvm.exec) (hb : c.code = cc) {own C : String} {T : u_T} {N ci index : Nat} {Ts : List Cond} (hts : ∀ w ∈ Ts, w.before args s = true) (hin : ∀ w ∈ u_ws C T N, w ∈ Ts) (ty0 : Nat → FieldType) (hty : ∀ k, k < N → parseFieldDescriptor (T k).2.2.1 = some (ty0 k)) (hnm : ∀ a, a < N → ∀ b, b < N → a ≠ b → (T a).2.1 ≠ (T b).2.1) (hown : s.vm.findClass own = some m.cls) (hK : va_K D cl tys s) (hS0 : va_S A H0 H locs) {fs : List Value} (he : va_at D cl (a, .inr (ci, fs)) H) (hA : A a) (hc : cl[ci]? = some (C, T, N)) (k : Nat) (hk : k < N) (hlink : (Cond.fieldLink own index (T k).1 (T k).2.1 (T k).2.2.1).before args s = true) (hfin : (T k).2.2.2 = false ∨ ((T k).2.2.2 = true ∧ meth.name = "<init>" ∧ (T k).1 = own)) {v : Value} (hn : narrow (ty0 k) v = v) (hfit : fits (ty0 k) v = true) (hl : k < fs.length)
    (hdg : decode cc pc = .ok (.putfield index, 3)) (kk : ∀ (H1 : Heap) (locs1 : List Loc), va_at D cl (a, .inr (ci, fs.set k v)) H1 → H1.size = H.size → (∀ q, q ≠ a → H1[q]? = H[q]?) → va_S A H0 H1 locs1 → W p l e R s m args below meth c H1 locs1 cells slots Q (F0 m (pc + 3) ls rest)) : W p l e R s m args below meth c H locs cells slots Q (F0 m pc ls (v :: .ref a :: rest)) := by
  have hap := va_apart (own := own) hts hin ty0 hty hnm hK hc
  obtain ⟨r, h1, cell, q1, q2, q3, q4⟩ := he
  have hr : r = (C, T, N) := Option.some.inj (h1.symm.trans hc)
  subst hr
  obtain ⟨hS, hfc, kC, hkC, hkind⟩ := hK.1 ci _ hc
  obtain ⟨cf, kf, fi, f, hi, hsl⟩ := hS k hk
  have hst := (u_facts hfc hkC (u_lays hts hin hk) hi).1
  have hlay := hts _ (hin _ (u_in_lay hk))
  unfold u_lay at hlay
  rcases hfin with hfin | ⟨hfin, hin2, hdecl⟩
  · rw [if_neg (by rw [hfin]; decide)] at hlay
    have h6 := u_store hfc hkC hkind hlay hi (hty k hk) hn hfit
    refine W.putK hexec hb (f := f) ⟨hown, hlink, ⟨_, _, _, hi⟩, hst⟩ (by rw [q2]; exact h6) q1 q3 (by rw [hsl]; exact k2_hasslot (q4 k hk)) rfl rfl hdg fun H' e1 e2 e3 => ?_
    rw [hsl] at e1 ⊢
    exact kk H' _ ⟨_, hc, t_OB.to (V := updV (vp_V fs) k v) ⟨_, e1, q2, q3, t_set q4 hap hk v⟩ (fun j _ => vp_updV_set hl v j)⟩ e2 e3 (hS0.put e2 e3 hA)
  · rw [if_pos hfin] at hlay
    have hcf : m.cls = cf := by
      obtain ⟨_, _, c', _, _, _, -, -, hf', -, -, -, hown2, -⟩ := Cond.laysFinal_spec hlay
      have e1 : c' = cf := by have := hi.symm.trans hf'; simp at this; exact this.1.symm
      rw [hdecl] at hown2
      rw [← e1]; exact Option.some.inj (hown.symm.trans hown2)
    have h6 := u_fits hfc hkC hkind (Or.inr hlay) hi (hty k hk) hn hfit
    refine W.putFinK hexec hb hown hlink hi hst hcf hin2 (by rw [q2]; exact h6) q1 q3 (by rw [hsl]; exact k2_hasslot (q4 k hk)) rfl rfl hdg fun H' e1 e2 e3 => ?_
    rw [hsl] at e1 ⊢
    exact kk H' _ ⟨_, hc, t_OB.to (V := updV (vp_V fs) k v) ⟨_, e1, q2, q3, t_set q4 hap hk v⟩ (fun j _ => vp_updV_set hl v j)⟩ e2 e3 (hS0.put e2 e3 hA)
theorem vz_iast (hexec : p.tables.exec = Jvm.exec) (hb : c.code = cc) (hK : va_K D cl tys s) (hS : va_S A H0 H locs) (t0 : Nat) {cA : ClassId} {n : Nat} {f : Nat → Int32} (ha : va_at D cl (a, .inl (cA, n, .inl f)) H) (hA : A a) (ht : tys[t0]? = some (cA, .int)) {i : Int32} {x : Int32} (hin : vp_in i n) (hdg : decode cc pc = .ok (.iastore, 1))
    (kk : ∀ (H1 : Heap) (locs1 : List Loc), va_at D cl (a, .inl (cA, n, .inl (upd f i.toNatClampNeg x))) H1 → H1.size = H.size → (∀ q, q ≠ a → H1[q]? = H[q]?) → va_S A H0 H1 locs1 → W p l e R s m args below meth c H1 locs1 cells slots Q (F0 m (pc + 1) ls rest)) : W p l e R s m args below meth c H locs cells slots Q (F0 m pc ls (.int x :: .int i :: .ref a :: rest)) := by
  refine W.iast hexec hb ha ((hK.2 t0 _ ht).1 n (fun j => .int (f j))) (fun q => by cases q) (by show ¬ (i < 0 ∨ (arrV _ _ _).slots.size ≤ _); rw [arrV_size]; exact hin) rfl rfl hdg fun H1 e z oq => ?_
  refine kk H1 _ ?_ z oq (hS.put z oq hA)
  show H1[a]? = some (vp_cell _ _)
  rw [e, vp_cell_i, vp_cell_i, arrV_store]
  congr 2
  funext q
  by_cases hq : q = i.toNatClampNeg
  · subst hq
    simp [updV, upd]
  · simp [updV, upd, hq]
theorem vz_bast (hexec : p.tables.exec = Jvm.exec) (hb : c.code = cc) (hK : va_K D cl tys s) (hS : va_S A H0 H locs) (t0 : Nat) {cA : ClassId} {n : Nat} {f : Nat → Int32} (ha : va_at D cl (a, .inl (cA, n, .inl f)) H) (hA : A a) (ht : tys[t0]? = some (cA, .byte)) {i : Int32} {x : Int32} (hin : vp_in i n) (hdg : decode cc pc = .ok (.bastore, 1))
    (kk : ∀ (H1 : Heap) (locs1 : List Loc), va_at D cl (a, .inl (cA, n, .inl (upd f i.toNatClampNeg x.toInt8.toInt32))) H1 → H1.size = H.size → (∀ q, q ≠ a → H1[q]? = H[q]?) → va_S A H0 H1 locs1 → W p l e R s m args below meth c H1 locs1 cells slots Q (F0 m (pc + 1) ls rest)) : W p l e R s m args below meth c H locs cells slots Q (F0 m pc ls (.int x :: .int i :: .ref a :: rest)) := by
  refine W.bast hexec hb ha ((hK.2 t0 _ ht).1 n (fun j => .int (f j))) (fun q => by cases q) (by show ¬ (i < 0 ∨ (arrV _ _ _).slots.size ≤ _); rw [arrV_size]; exact hin) rfl rfl hdg fun H1 e z oq => ?_
  refine kk H1 _ ?_ z oq (hS.put z oq hA)
  show H1[a]? = some (vp_cell _ _)
  rw [e, vp_cell_i, vp_cell_i, arrV_store]
  congr 2
  funext q
  by_cases hq : q = i.toNatClampNeg
  · subst hq
    simp [updV, upd, narrow]
  · simp [updV, upd, hq]
theorem vz_zast (hexec : p.tables.exec = Jvm.exec) (hb : c.code = cc) (hK : va_K D cl tys s) (hS : va_S A H0 H locs) (t0 : Nat) {cA : ClassId} {n : Nat} {f : Nat → Int32} (ha : va_at D cl (a, .inl (cA, n, .inl f)) H) (hA : A a) (ht : tys[t0]? = some (cA, .boolean)) {i : Int32} {x : Int32} (hnx : narrow .boolean (.int x) = .int x) (hin : vp_in i n) (hdg : decode cc pc = .ok (.bastore, 1))
    (kk : ∀ (H1 : Heap) (locs1 : List Loc), va_at D cl (a, .inl (cA, n, .inl (upd f i.toNatClampNeg x))) H1 → H1.size = H.size → (∀ q, q ≠ a → H1[q]? = H[q]?) → va_S A H0 H1 locs1 → W p l e R s m args below meth c H1 locs1 cells slots Q (F0 m (pc + 1) ls rest)) : W p l e R s m args below meth c H locs cells slots Q (F0 m pc ls (.int x :: .int i :: .ref a :: rest)) := by
  refine W.zast hexec hb ha ((hK.2 t0 _ ht).1 n (fun j => .int (f j))) (fun q => by cases q) (by show ¬ (i < 0 ∨ (arrV _ _ _).slots.size ≤ _); rw [arrV_size]; exact hin) rfl rfl hdg fun H1 e z oq => ?_
  refine kk H1 _ ?_ z oq (hS.put z oq hA)
  show H1[a]? = some (vp_cell _ _)
  rw [e, vp_cell_i, vp_cell_i, arrV_store]
  congr 2
  funext q
  by_cases hq : q = i.toNatClampNeg
  · subst hq
    simp [updV, upd, hnx]
  · simp [updV, upd, hq]
theorem vz_last (hexec : p.tables.exec = Jvm.exec) (hb : c.code = cc) (hK : va_K D cl tys s) (hS : va_S A H0 H locs) (t0 : Nat) {cA : ClassId} {n : Nat} {f : Nat → Int64} (ha : va_at D cl (a, .inl (cA, n, .inr (.inl f))) H) (hA : A a) (ht : tys[t0]? = some (cA, .long)) {i : Int32} {x : Int64} (hin : vp_in i n) (hdg : decode cc pc = .ok (.lastore, 1))
    (kk : ∀ (H1 : Heap) (locs1 : List Loc), va_at D cl (a, .inl (cA, n, .inr (.inl (vp_updL f i.toNatClampNeg x)))) H1 → H1.size = H.size → (∀ q, q ≠ a → H1[q]? = H[q]?) → va_S A H0 H1 locs1 → W p l e R s m args below meth c H1 locs1 cells slots Q (F0 m (pc + 1) ls rest)) : W p l e R s m args below meth c H locs cells slots Q (F0 m pc ls (.long x :: .int i :: .ref a :: rest)) := by
  refine W.last hexec hb ha ((hK.2 t0 _ ht).1 n (fun j => .long (f j))) (fun q => by cases q) (by show ¬ (i < 0 ∨ (arrV _ _ _).slots.size ≤ _); rw [arrV_size]; exact hin) rfl rfl hdg fun H1 e z oq => ?_
  refine kk H1 _ ?_ z oq (hS.put z oq hA)
  show H1[a]? = some (vp_cell _ _)
  rw [e, vp_cell_l, vp_cell_l, arrV_store]
  congr 2
  funext q
  by_cases hq : q = i.toNatClampNeg
  · subst hq
    simp [updV, vp_updL]
  · simp [updV, vp_updL, hq]
end VZ
/-- what a write to the cell a leaves of the relation -/
theorem rel_set {G : Gh} {μ μ' : Mem} {H H1 : Heap} {a : Nat} (hR : RelM G μ H) (hS : μ'.2.2.2.1 = μ.2.2.2.1) (hN : μ'.2.2.2.2 = μ.2.2.2.2) (hz : H1.size = H.size) (ho : ∀ q, q ≠ G.1 + a → H1[q]? = H[q]?) (h1 : va_at G.2.1 mcls (G.1 + a, clO G μ' a) H1) (h2 : ∀ b, b ≠ a → clO G μ' b = clO G μ b) : RelM G μ' H1 := by
  refine ⟨by rw [hz, hN]; exact hR.1, fun b hb ht => ?_⟩
  by_cases hba : b = a
  · rw [hba]; exact h1
  · rw [h2 b hba]
    rw [hS] at ht
    rw [hN] at hb
    exact (hR.2 b hb ht).kept (ho _ (by show G.1 + b ≠ G.1 + a; omega))
theorem fsl_set {B : Nat} {μ μ' : Mem} {t a j : Nat} {v : Value} (h1 : fvl B μ' t a j = v) (h2 : ∀ i, i ≠ j → fvl B μ' t a i = fvl B μ t a i) : fsl B μ' t a = (fsl B μ t a).set j v := by
  apply List.ext_getElem?
  intro i
  by_cases hl : i < (ftl.getD t []).length
  · rw [fsl_at hl]
    by_cases hij : i = j
    · subst hij
      rw [List.getElem?_set_self (by rw [fsl_len]; exact hl), h1]
    · rw [List.getElem?_set_ne (by omega), fsl_at hl, h2 i hij]
  · rw [List.getElem?_eq_none (by rw [fsl_len]; omega), List.getElem?_eq_none (by rw [List.length_set, fsl_len]; omega)]
theorem clO_I {G : Gh} {I : Nat → Nat → Int32} {S : (Nat → Nat → Int64) × (Nat → Nat → Option Nat) × (Nat → Nat × Nat) × Nat} {a j : Nat} {x : Int32} {b : Nat} (h : b ≠ a) : clO G (up2 I a j x, S) b = clO G (I, S) b := by
  have hf : ∀ i, up2 I a j x b i = I b i := fun i => by simp [up2, h]
  have hg : up2 I a j x b = I b := funext hf
  unfold clO fsl fvl acn
  simp only [hg]
theorem clO_J {G : Gh} {I : Nat → Nat → Int32} {J : Nat → Nat → Int64} {S : (Nat → Nat → Option Nat) × (Nat → Nat × Nat) × Nat} {a j : Nat} {x : Int64} {b : Nat} (h : b ≠ a) : clO G (I, up2 J a j x, S) b = clO G (I, J, S) b := by
  have hg : up2 J a j x b = J b := funext fun i => by simp [up2, h]
  unfold clO fsl fvl acn
  simp only [hg]
theorem clO_R {G : Gh} {I : Nat → Nat → Int32} {J : Nat → Nat → Int64} {R : Nat → Nat → Option Nat} {S : (Nat → Nat × Nat) × Nat} {a j : Nat} {x : Option Nat} {b : Nat} (h : b ≠ a) : clO G (I, J, up2 R a j x, S) b = clO G (I, J, R, S) b := by
  have hg : up2 R a j x b = R b := funext fun i => by simp [up2, h]
  unfold clO fsl fvl acn
  simp only [hg]
section Rules
variable {l : Launch} {G : Gh} {k mc ms : Nat} {M : Mt} {Q : Res → Mem → Prop} {pc q : Nat} {L L' : List (Option Value)} {st : List Value} {I : Nat → Nat → Int32} {J : Nat → Nat → Int64} {R : Nat → Nat → Option Nat} {S : Nat → Nat × Nat} {nx : Nat} {cb sb : Nat}
theorem get_core {μ : Mem} {a ix t j : Nat} {v : Value} (hd : decode M.2.1 pc = .ok (.getfield ix, 3)) (hq : pc + 3 = q) (hlk : flk M.1.cls ix t j) (ha : a < μ.2.2.2.2) (hs : (μ.2.2.2.1 a).1 = t) (hv : fvl G.1 μ t a j = cv G v) (h : WP l G k mc ms M Q q L (v :: st) μ cb sb) : WP l G k mc ms M Q pc L (.ref a :: st) μ cb sb := by
  subst hq
  intro p e s m args below meth c H locs cells slots ls C hR hS hl h1 h2
  obtain ⟨ht, qc, hqc, hj, hw⟩ := hlk
  exact va_get (ws := [(G.1 + a, .inr (t, fsl G.1 μ t a))]) (C := qc.1) (T := qc.2.1) (N := qc.2.2) C.1 C.2.1 C.2.2.2.2.2.1 (mcls_at hqc) C.2.2.2.2.1 C.2.2.2.2.2.2.2.2.1.1 (va_P1 (rel_obj hR ha hs ht)) 0 rfl hqc j hj (C.2.2.2.2.2.1 _ hw) (fun _ h9 => h9) (by rw [fsl_at (by rw [ftl_len t qc hqc]; exact hj), hv]) hd (h p e s m args below meth c H locs cells slots ls C hR hS hl h1 h2)
theorem wp_getI {a ix t j : Nat} (hd : decode M.2.1 pc = .ok (.getfield ix, 3)) (hq : pc + 3 = q) (hlk : flk M.1.cls ix t j) (hf : (ftl.getD t []).getD j 9 = 0) (ha : a < nx) (hs : (S a).1 = t) (h : WP l G k mc ms M Q q L (.int (I a j) :: st) (I, J, R, S, nx) cb sb) : WP l G k mc ms M Q pc L (.ref a :: st) (I, J, R, S, nx) cb sb :=
  get_core hd hq hlk ha hs (by unfold fvl; rw [hf]; rfl) h
theorem wp_getJ {a ix t j : Nat} (hd : decode M.2.1 pc = .ok (.getfield ix, 3)) (hq : pc + 3 = q) (hlk : flk M.1.cls ix t j) (hf : (ftl.getD t []).getD j 9 = 1) (ha : a < nx) (hs : (S a).1 = t) (h : WP l G k mc ms M Q q L (.long (J a j) :: st) (I, J, R, S, nx) cb sb) : WP l G k mc ms M Q pc L (.ref a :: st) (I, J, R, S, nx) cb sb :=
  get_core hd hq hlk ha hs (by unfold fvl; rw [hf]; rfl) h
theorem wp_getR {a ix t j b : Nat} (hd : decode M.2.1 pc = .ok (.getfield ix, 3)) (hq : pc + 3 = q) (hlk : flk M.1.cls ix t j) (hf : (ftl.getD t []).getD j 9 = 2) (ha : a < nx) (hs : (S a).1 = t) (hr : R a j = some b) (h : WP l G k mc ms M Q q L (.ref b :: st) (I, J, R, S, nx) cb sb) : WP l G k mc ms M Q pc L (.ref a :: st) (I, J, R, S, nx) cb sb :=
  get_core hd hq hlk ha hs (by unfold fvl; rw [hf]; show rv G.1 (R a j) = _; rw [hr]; rfl) h
theorem wp_getN {a ix t j : Nat} (hd : decode M.2.1 pc = .ok (.getfield ix, 3)) (hq : pc + 3 = q) (hlk : flk M.1.cls ix t j) (hf : (ftl.getD t []).getD j 9 = 2) (ha : a < nx) (hs : (S a).1 = t) (hr : R a j = none) (h : WP l G k mc ms M Q q L (.null :: st) (I, J, R, S, nx) cb sb) : WP l G k mc ms M Q pc L (.ref a :: st) (I, J, R, S, nx) cb sb :=
  get_core hd hq hlk ha hs (by unfold fvl; rw [hf]; show rv G.1 (R a j) = _; rw [hr]; rfl) h
theorem put_core {μ μ' : Mem} {a ix t j : Nat} {v : Value} {ty : Nat → FieldType} (hd : decode M.2.1 pc = .ok (.putfield ix, 3)) (hq : pc + 3 = q) (hlk : flk M.1.cls ix t j) (hty : mtyp[t]? = some ty) (hfin : ((mcls.getD t ("", (fun _ => ("", "", "", false)), 0)).2.1 j).2.2.2 = false ∨ (((mcls.getD t ("", (fun _ => ("", "", "", false)), 0)).2.1 j).2.2.2 = true ∧ M.1.name = "<init>" ∧ ((mcls.getD t ("", (fun _ => ("", "", "", false)), 0)).2.1 j).1 = M.1.cls)) (hn : narrow (ty j) (cv G v) = cv G v) (hfit : fits (ty j) (cv G v) = true) (ha : a < μ.2.2.2.2) (hs : (μ.2.2.2.1 a).1 = t)
    (hS' : μ'.2.2.2.1 = μ.2.2.2.1) (hN' : μ'.2.2.2.2 = μ.2.2.2.2) (hv : fvl G.1 μ' t a j = cv G v) (ho : ∀ i, i ≠ j → fvl G.1 μ' t a i = fvl G.1 μ t a i) (h9 : ∀ b, b ≠ a → clO G μ' b = clO G μ b)
    (h : WP l G k mc ms M Q q L st μ' cb sb) : WP l G k mc ms M Q pc L (v :: .ref a :: st) μ cb sb := by
  subst hq
  intro p e s m args below meth c H locs cells slots ls C hR hS hl h1 h2
  obtain ⟨ht, qc, hqc, hj, hw⟩ := hlk
  have hqd : mcls.getD t ("", (fun _ => ("", "", "", false)), 0) = qc := by simp [List.getD_eq_getElem?_getD, hqc]
  rw [hqd] at hfin
  obtain ⟨t1, t2⟩ := mty_ok t qc ty hqc hty
  refine vz_put (C := qc.1) (T := qc.2.1) (N := qc.2.2) C.1 C.2.1 C.2.2.2.2.2.1 (mcls_at hqc) ty t1 t2 C.2.2.2.2.1 C.2.2.2.2.2.2.2.2.1.1 hS (rel_obj hR ha hs ht) (show frA G (G.1 + a) from Nat.le_add_right _ _) hqc j hj (C.2.2.2.2.2.1 _ hw) (by rcases hfin with h7 | ⟨h7, h8, h6⟩; exact Or.inl h7; exact Or.inr ⟨h7, C.2.2.2.2.2.2.2.1.trans h8, h6⟩) hn hfit (by rw [fsl_len, ftl_len t qc hqc]; exact hj) hd fun H1 locs1 g1 g2 g3 g4 => ?_
  refine h p e s m args below meth c H1 locs1 cells slots ls C (rel_set hR hS' hN' g2 g3 ?_ h9) g4 hl h1 h2
  rw [clO, if_pos (by rw [hS', hs]; omega), hS', hs, fsl_set hv ho]
  exact g1
theorem wp_putI {a ix t j : Nat} {x : Int32} {ty : Nat → FieldType} (hd : decode M.2.1 pc = .ok (.putfield ix, 3)) (hq : pc + 3 = q) (hlk : flk M.1.cls ix t j) (hty : mtyp[t]? = some ty) (hfin : ((mcls.getD t ("", (fun _ => ("", "", "", false)), 0)).2.1 j).2.2.2 = false) (hn : narrow (ty j) (.int x) = .int x) (hfit : fits (ty j) (.int x) = true) (hf : (ftl.getD t []).getD j 9 = 0) (ha : a < nx) (hs : (S a).1 = t)
    (h : WP l G k mc ms M Q q L st (up2 I a j x, J, R, S, nx) cb sb) : WP l G k mc ms M Q pc L (.int x :: .ref a :: st) (I, J, R, S, nx) cb sb :=
  put_core (μ := (I, J, R, S, nx)) (μ' := (up2 I a j x, J, R, S, nx)) hd hq hlk hty (Or.inl hfin) hn hfit ha hs rfl rfl (by unfold fvl; rw [hf]; simp [up2, cv]) (fun i hi => by unfold fvl; simp [up2, hi]) (fun b hb => clO_I hb) h
theorem wp_putR {a b ix t j : Nat} {ty : Nat → FieldType} (hd : decode M.2.1 pc = .ok (.putfield ix, 3)) (hq : pc + 3 = q) (hlk : flk M.1.cls ix t j) (hty : mtyp[t]? = some ty) (hfin : ((mcls.getD t ("", (fun _ => ("", "", "", false)), 0)).2.1 j).2.2.2 = false ∨ (((mcls.getD t ("", (fun _ => ("", "", "", false)), 0)).2.1 j).2.2.2 = true ∧ M.1.name = "<init>" ∧ ((mcls.getD t ("", (fun _ => ("", "", "", false)), 0)).2.1 j).1 = M.1.cls)) (hn : ∀ b, narrow (ty j) (.ref b) = .ref b) (hfit : ∀ b, fits (ty j) (.ref b) = true) (hf : (ftl.getD t []).getD j 9 = 2) (ha : a < nx) (hs : (S a).1 = t)
    (h : WP l G k mc ms M Q q L st (I, J, up2 R a j (some b), S, nx) cb sb) : WP l G k mc ms M Q pc L (.ref b :: .ref a :: st) (I, J, R, S, nx) cb sb :=
  put_core (μ := (I, J, R, S, nx)) (μ' := (I, J, up2 R a j (some b), S, nx)) hd hq hlk hty hfin (hn _) (hfit _) ha hs rfl rfl (by unfold fvl; rw [hf]; simp [up2, cv, rv]) (fun i hi => by unfold fvl; simp [up2, hi]) (fun b hb => clO_R hb) h
theorem wp_putN {a ix t j : Nat} {ty : Nat → FieldType} (hd : decode M.2.1 pc = .ok (.putfield ix, 3)) (hq : pc + 3 = q) (hlk : flk M.1.cls ix t j) (hty : mtyp[t]? = some ty) (hfin : ((mcls.getD t ("", (fun _ => ("", "", "", false)), 0)).2.1 j).2.2.2 = false ∨ (((mcls.getD t ("", (fun _ => ("", "", "", false)), 0)).2.1 j).2.2.2 = true ∧ M.1.name = "<init>" ∧ ((mcls.getD t ("", (fun _ => ("", "", "", false)), 0)).2.1 j).1 = M.1.cls)) (hn : narrow (ty j) .null = .null) (hfit : fits (ty j) .null = true) (hf : (ftl.getD t []).getD j 9 = 2) (ha : a < nx) (hs : (S a).1 = t)
    (h : WP l G k mc ms M Q q L st (I, J, up2 R a j none, S, nx) cb sb) : WP l G k mc ms M Q pc L (.null :: .ref a :: st) (I, J, R, S, nx) cb sb :=
  put_core (μ := (I, J, R, S, nx)) (μ' := (I, J, up2 R a j none, S, nx)) hd hq hlk hty hfin hn hfit ha hs rfl rfl (by unfold fvl; rw [hf]; simp [up2, cv, rv]) (fun i hi => by unfold fvl; simp [up2, hi]) (fun b hb => clO_R hb) h
theorem wp_iaload {a n : Nat} {i : Int32} (hd : decode M.2.1 pc = .ok (.iaload, 1)) (hq : pc + 1 = q) (ha : a < nx) (hs : S a = (100, n)) (hi : vp_in i n) (h : WP l G k mc ms M Q q L (.int (I a i.toNatClampNeg) :: st) (I, J, R, S, nx) cb sb) : WP l G k mc ms M Q pc L (.int i :: .ref a :: st) (I, J, R, S, nx) cb sb := by
  subst hq
  intro p e s m args below meth c H locs cells slots ls C hR hS hl h1 h2
  exact va_iald (n := n) (f := I a) C.1 C.2.1 C.2.2.2.2.2.2.2.2.1.1 (va_P1 (rel_arr hR ha hs (by omega) (by omega))) 0 0 rfl rfl hi hd (h p e s m args below meth c H locs cells slots ls C hR hS hl h1 h2)
theorem wp_baload {a n : Nat} {i : Int32} (hd : decode M.2.1 pc = .ok (.baload, 1)) (hq : pc + 1 = q) (ha : a < nx) (hs : S a = (102, n)) (hi : vp_in i n) (h : WP l G k mc ms M Q q L (.int (I a i.toNatClampNeg) :: st) (I, J, R, S, nx) cb sb) : WP l G k mc ms M Q pc L (.int i :: .ref a :: st) (I, J, R, S, nx) cb sb := by
  subst hq
  intro p e s m args below meth c H locs cells slots ls C hR hS hl h1 h2
  exact va_bald (n := n) (f := I a) C.1 C.2.1 C.2.2.2.2.2.2.2.2.1.1 (va_P1 (rel_arr hR ha hs (by omega) (by omega))) 0 2 rfl rfl hi hd (h p e s m args below meth c H locs cells slots ls C hR hS hl h1 h2)
theorem wp_zaload {a n : Nat} {i : Int32} (hd : decode M.2.1 pc = .ok (.baload, 1)) (hq : pc + 1 = q) (ha : a < nx) (hs : S a = (103, n)) (hi : vp_in i n) (h : WP l G k mc ms M Q q L (.int (I a i.toNatClampNeg) :: st) (I, J, R, S, nx) cb sb) : WP l G k mc ms M Q pc L (.int i :: .ref a :: st) (I, J, R, S, nx) cb sb := by
  subst hq
  intro p e s m args below meth c H locs cells slots ls C hR hS hl h1 h2
  exact va_zald (n := n) (f := I a) C.1 C.2.1 C.2.2.2.2.2.2.2.2.1.1 (va_P1 (rel_arr hR ha hs (by omega) (by omega))) 0 3 rfl rfl hi hd (h p e s m args below meth c H locs cells slots ls C hR hS hl h1 h2)
theorem wp_laload {a n : Nat} {i : Int32} (hd : decode M.2.1 pc = .ok (.laload, 1)) (hq : pc + 1 = q) (ha : a < nx) (hs : S a = (101, n)) (hi : vp_in i n) (h : WP l G k mc ms M Q q L (.long (J a i.toNatClampNeg) :: st) (I, J, R, S, nx) cb sb) : WP l G k mc ms M Q pc L (.int i :: .ref a :: st) (I, J, R, S, nx) cb sb := by
  subst hq
  intro p e s m args below meth c H locs cells slots ls C hR hS hl h1 h2
  exact va_lald (n := n) (f := J a) C.1 C.2.1 C.2.2.2.2.2.2.2.2.1.1 (va_P1 (rel_arr hR ha hs (by omega) (by omega))) 0 1 rfl rfl hi hd (h p e s m args below meth c H locs cells slots ls C hR hS hl h1 h2)
theorem wp_alen {a n t : Nat} (hd : decode M.2.1 pc = .ok (.arraylength, 1)) (hq : pc + 1 = q) (ha : a < nx) (hs : S a = (t, n)) (ht : t = 100 ∨ t = 101 ∨ t = 102 ∨ t = 104 ∨ t = 105) (h : WP l G k mc ms M Q q L (.int (Int32.ofNat n) :: st) (I, J, R, S, nx) cb sb) : WP l G k mc ms M Q pc L (.ref a :: st) (I, J, R, S, nx) cb sb := by
  subst hq
  intro p e s m args below meth c H locs cells slots ls C hR hS hl h1 h2
  rcases ht with rfl | rfl | rfl | rfl | rfl
  · exact va_alen C.1 C.2.1 C.2.2.2.2.2.2.2.2.1.1 (va_P1 (rel_arr hR ha hs (by omega) (by omega))) 0 0 rfl rfl rfl hd (h p e s m args below meth c H locs cells slots ls C hR hS hl h1 h2)
  · exact va_alen C.1 C.2.1 C.2.2.2.2.2.2.2.2.1.1 (va_P1 (rel_arr hR ha hs (by omega) (by omega))) 0 1 rfl rfl rfl hd (h p e s m args below meth c H locs cells slots ls C hR hS hl h1 h2)
  · exact va_alen C.1 C.2.1 C.2.2.2.2.2.2.2.2.1.1 (va_P1 (rel_arr hR ha hs (by omega) (by omega))) 0 2 rfl rfl rfl hd (h p e s m args below meth c H locs cells slots ls C hR hS hl h1 h2)
  · exact va_alen C.1 C.2.1 C.2.2.2.2.2.2.2.2.1.1 (va_P1 (rel_arr hR ha hs (by omega) (by omega))) 0 4 rfl rfl rfl hd (h p e s m args below meth c H locs cells slots ls C hR hS hl h1 h2)
  · exact va_alen C.1 C.2.1 C.2.2.2.2.2.2.2.2.1.1 (va_P1 (rel_arr hR ha hs (by omega) (by omega))) 0 5 rfl rfl rfl hd (h p e s m args below meth c H locs cells slots ls C hR hS hl h1 h2)
theorem clO_arr {G : Gh} {μ : Mem} {a t n : Nat} (hs : μ.2.2.2.1 a = (t, n)) (ht : 100 ≤ t) : clO G μ a = .inl (G.2.2.1 t, n, acn G.1 μ t a) := by
  rw [clO, hs, if_neg (by show ¬ t < 50; omega)]
theorem up2_row {α : Type} (f : Nat → Nat → α) (a i : Nat) (v : α) : up2 f a i v a = fun j => if j = i then v else f a j := by
  funext j
  simp [up2]
theorem wp_iastore {a n : Nat} {i x : Int32} (hd : decode M.2.1 pc = .ok (.iastore, 1)) (hq : pc + 1 = q) (ha : a < nx) (hs : S a = (100, n)) (hi : vp_in i n) (h : WP l G k mc ms M Q q L st (up2 I a i.toNatClampNeg x, J, R, S, nx) cb sb) : WP l G k mc ms M Q pc L (.int x :: .int i :: .ref a :: st) (I, J, R, S, nx) cb sb := by
  subst hq
  intro p e s m args below meth c H locs cells slots ls C hR hS hl h1 h2
  refine vz_iast (n := n) (f := I a) C.1 C.2.1 C.2.2.2.2.2.2.2.2.1.1 hS 0 (rel_arr hR ha hs (by omega) (by omega)) (show frA G (G.1 + a) from Nat.le_add_right _ _) rfl hi hd fun H1 locs1 g1 g2 g3 g4 => ?_
  refine h p e s m args below meth c H1 locs1 cells slots ls C (rel_set hR rfl rfl g2 g3 ?_ (fun b hb => clO_I hb)) g4 hl h1 h2
  rw [clO_arr (t := 100) (n := n) hs (by omega)]
  show va_at _ _ (_, .inl (_, n, .inl (up2 I a i.toNatClampNeg x a))) H1
  rw [up2_row]
  exact g1
theorem wp_bastore {a n : Nat} {i x : Int32} (hd : decode M.2.1 pc = .ok (.bastore, 1)) (hq : pc + 1 = q) (ha : a < nx) (hs : S a = (102, n)) (hi : vp_in i n) (h : WP l G k mc ms M Q q L st (up2 I a i.toNatClampNeg x.toInt8.toInt32, J, R, S, nx) cb sb) : WP l G k mc ms M Q pc L (.int x :: .int i :: .ref a :: st) (I, J, R, S, nx) cb sb := by
  subst hq
  intro p e s m args below meth c H locs cells slots ls C hR hS hl h1 h2
  refine vz_bast (n := n) (f := I a) C.1 C.2.1 C.2.2.2.2.2.2.2.2.1.1 hS 2 (rel_arr hR ha hs (by omega) (by omega)) (show frA G (G.1 + a) from Nat.le_add_right _ _) rfl hi hd fun H1 locs1 g1 g2 g3 g4 => ?_
  refine h p e s m args below meth c H1 locs1 cells slots ls C (rel_set hR rfl rfl g2 g3 ?_ (fun b hb => clO_I hb)) g4 hl h1 h2
  rw [clO_arr (t := 102) (n := n) hs (by omega)]
  show va_at _ _ (_, .inl (_, n, .inl (up2 I a i.toNatClampNeg x.toInt8.toInt32 a))) H1
  rw [up2_row]
  exact g1
theorem wp_zastore {a n : Nat} {i x : Int32} (hd : decode M.2.1 pc = .ok (.bastore, 1)) (hq : pc + 1 = q) (ha : a < nx) (hs : S a = (103, n)) (hx : narrow .boolean (.int x) = .int x) (hi : vp_in i n) (h : WP l G k mc ms M Q q L st (up2 I a i.toNatClampNeg x, J, R, S, nx) cb sb) : WP l G k mc ms M Q pc L (.int x :: .int i :: .ref a :: st) (I, J, R, S, nx) cb sb := by
  subst hq
  intro p e s m args below meth c H locs cells slots ls C hR hS hl h1 h2
  refine vz_zast (n := n) (f := I a) C.1 C.2.1 C.2.2.2.2.2.2.2.2.1.1 hS 3 (rel_arr hR ha hs (by omega) (by omega)) (show frA G (G.1 + a) from Nat.le_add_right _ _) rfl hx hi hd fun H1 locs1 g1 g2 g3 g4 => ?_
  refine h p e s m args below meth c H1 locs1 cells slots ls C (rel_set hR rfl rfl g2 g3 ?_ (fun b hb => clO_I hb)) g4 hl h1 h2
  rw [clO_arr (t := 103) (n := n) hs (by omega)]
  show va_at _ _ (_, .inl (_, n, .inl (up2 I a i.toNatClampNeg x a))) H1
  rw [up2_row]
  exact g1
theorem wp_lastore {a n : Nat} {i : Int32} {x : Int64} (hd : decode M.2.1 pc = .ok (.lastore, 1)) (hq : pc + 1 = q) (ha : a < nx) (hs : S a = (101, n)) (hi : vp_in i n) (h : WP l G k mc ms M Q q L st (I, up2 J a i.toNatClampNeg x, R, S, nx) cb sb) : WP l G k mc ms M Q pc L (.long x :: .int i :: .ref a :: st) (I, J, R, S, nx) cb sb := by
  subst hq
  intro p e s m args below meth c H locs cells slots ls C hR hS hl h1 h2
  refine vz_last (n := n) (f := J a) C.1 C.2.1 C.2.2.2.2.2.2.2.2.1.1 hS 1 (rel_arr hR ha hs (by omega) (by omega)) (show frA G (G.1 + a) from Nat.le_add_right _ _) rfl hi hd fun H1 locs1 g1 g2 g3 g4 => ?_
  refine h p e s m args below meth c H1 locs1 cells slots ls C (rel_set hR rfl rfl g2 g3 ?_ (fun b hb => clO_J hb)) g4 hl h1 h2
  rw [clO_arr (t := 101) (n := n) hs (by omega)]
  show va_at _ _ (_, .inl (_, n, .inr (.inl (up2 J a i.toNatClampNeg x a)))) H1
  rw [up2_row]
  exact g1
end Rules
