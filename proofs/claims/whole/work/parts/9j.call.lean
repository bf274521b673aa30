/-! methods with handlers: their contracts, calls of them, calls that are caught -/
section Rules
variable {l : Launch} {G : Gh} {k mc ms : Nat} {M : Mt} {Q : Res → Mem → Prop} {pc q : Nat} {L L' : List (Option Value)} {st : List Value} {cb sb : Nat}
theorem Cal.ofW {av : List Value} {μ : Mem} (hw : wsM M = Cond.codeWith M.1 M.2.1 M.2.2.1 M.2.2.2.1 M.2.2.2.2 :: TW) (hy : plainName M.1.cls = true) (hd : ∀ v ∈ av, ∀ b, v ≠ .double b) (ha : argW av ≤ M.2.2.1) (hL : enL av M.2.2.1 = L) (h : WP l G k mc ms M Q 0 L [] μ mc ms) : Cal l G k mc ms M av μ Q := by
  refine vx_ofWH (cc := M.2.1) (maxL := M.2.2.1) (ret := M.2.2.2.1) (ws' := TW) (hh := M.2.2.2.2) hy hw ?_
  intro p e s m args below meth c s₁ B hml hv
  obtain ⟨rfl, hR, hG⟩ := hv
  have hts := atoms_spec (ws := wsM M) B.pre
  rw [lg_entry_eq]
  have hl := lv_entry (av.map (cv G)) (n := M.2.2.1) (by rw [lg_len]; exact ha)
  refine h p e s m _ below meth c s.heap [] 0 0 _ ⟨B.exec, B.bytes, B.returns, hml, findClass_of_methodNamed B.named, fun w hw9 => hts w (by rw [hw]; exact List.mem_cons_of_mem _ hw9), B.notSynchronized, (name_of_methodNamed B.named B.method).1, hG, by rw [hR.1]; exact Nat.le_add_right _ _, vx_table (x := M.1) B (hts _ (by rw [hw]; exact List.mem_cons_self))⟩ hR va_S.rf ⟨hl.1, hl.2.1, fun q hq => ?_⟩ (by omega) (by omega)
  rw [← hL] at hq
  exact hl.2.2 q (enA_mem G av hd 0 q.1 q.2 (enL_A hq))
def mOKw (N : Mt) (n : Nat) : Prop := Cond.codeWith N.1 N.2.1 N.2.2.1 N.2.2.2.1 N.2.2.2.2 ∈ TW ∧ Cond.initialized N.1.cls ∈ TW ∧ wsM N = Cond.codeWith N.1 N.2.1 N.2.2.1 N.2.2.2.1 N.2.2.2.2 :: TW ∧ (N.1.cls ≠ "java/lang/invoke/MethodHandle" ∧ N.1.cls ≠ "java/lang/invoke/VarHandle") ∧ (parseMethodDescriptor N.1.desc).map (fun d => d.parameters.length) = some n ∧ N.2.2.1 ≤ 21
theorem wp_invSW {N : Mt} {As : List Value} {n ix mc' ms' : Nat} {μ : Mem} {Qn : Res → Mem → Prop} {stk : List Value} (hd : decode M.2.1 pc = .ok (.invokestatic ix, 3)) (hq : pc + 3 = q) (hh : M.2.2.2.2 = []) (hN : mOKw N n) (hlk : Cond.methodLink M.1.cls ix N.1 ∈ TW) (hsta : Cond.static N.1 ∈ TW)
    (hst : stk = As.reverse ++ st) (hn : As.length = n) (hw : (st.map fun v => v.category).sum ≤ 8) (hc : mc' ≤ cb) (hsl : ms' ≤ sb) (hcall : Cal l G k mc' ms' N As μ Qn)
    (hret : ∀ (r : Option Value) (μ' : Mem), Qn (.inl r) μ' → WP l G (k + 1) mc ms M Q q L (r.toList ++ st) μ' (cb - mc') (sb - ms')) (hthr : ∀ (E : String) (μ' : Mem), Qn (.inr E) μ' → Q (.inr E) μ') : WP l G (k + 1) mc ms M Q pc L stk μ cb sb := by
  subst hq; subst hst
  intro p e s m args below meth c H locs cells slots ls C hR hS hl h1 h2
  obtain ⟨w1, w2, w3, w4, w5, w6⟩ := hN
  have hg := TW_good C.2.2.2.2.2.1
  have hB : vx_CSW (room (k + 1) mc ms) s args M.1.cls ix N.1 N.2.1 N.2.2.1 N.2.2.2.1 N.2.2.2.2 (wsM N) (room k mc' ms') mc' ms' n := by
    refine ⟨⟨rfl, rfl, by simp only [room]; omega, by simp only [room]; omega, fun w hw2 a' U hW => ?_, by rw [w3]; exact List.mem_cons_self⟩, C.2.2.2.2.2.1 _ w1, C.2.2.2.2.2.1 _ w2, w4, fun sig hs => ?_, C.2.2.2.2.2.1 _ hlk, C.2.2.2.2.2.1 _ hsta⟩
    · rw [w3] at hw2
      rcases List.mem_cons.mp hw2 with h | h
      · rw [h]; exact hg _ w1 a' U hW
      · exact hg _ h a' U hW
    · rw [hs] at w5
      exact (Option.some.inj w5).symm
  refine call_core C hh hS hl h1 h2 hc hsl (vx_runSX (As := As.map (cv G)) (rest := st.map (cv G)) ⟨C.1, C.2.1, C.2.2.2.1, C.2.2.2.2.1, C.2.2.2.2.2.1⟩ hcall hB ⟨prC_blind, fun U hU hW => ⟨rfl, by rw [hU]; exact hR, by rw [hU]; exact C.2.2.2.2.2.2.2.2.1.to hW hS.1 hS.2.1⟩⟩ rfl (by rw [List.length_map]; exact hn) hl.1 ?_ (lv_room (by rw [cat_cv]; exact hw)) hd ⟨by simp only [room]; omega, by simp only [room]; omega⟩) hret hthr
  show List.map (cv G) _ = _
  rw [List.map_append, List.map_reverse]
/-- E, thrown at pc, is caught here, and kept at i; the work goes on at h -/
def catQ (M : Mt) (pc i h : Nat) (E : String) : Prop := ∃ (pre suf : List ExceptionTableEntry) (x : ExceptionTableEntry) (len : Nat), tableOf M.2.2.2.2 = pre ++ x :: suf ∧ (∀ z ∈ pre, covers z pc = false ∨ (z.catchType ≠ 0 ∧ ∃ nm : String, Cond.classLink M.1.cls z.catchType nm ∈ TW ∧ nm ∈ exL ∧ E ≠ nm)) ∧ covers x pc = true ∧ x.catchType ≠ 0 ∧ Cond.classLink M.1.cls x.catchType E ∈ TW ∧ E ∈ exL ∧ ((∃ f : Fin 4, decode M.2.1 x.handlerPc = .ok (.astore_n f, 1) ∧ (f : Nat) = i ∧ len = 1) ∨ (decode M.2.1 x.handlerPc = .ok (.astore i, 2) ∧ len = 2)) ∧ i < M.2.2.1 ∧ x.handlerPc + len = h
theorem locOK (A : List (Option Value)) (w : Value) (hw : w.category = 1) : ∀ (j : Nat) (v : Value), (A ++ [some w, none])[j]? = some (some v) → j ≠ A.length + 1 ∧ ¬ (j + 1 = A.length + 1 ∧ v.category = 2) := by
  intro j v h
  by_cases c : j < A.length
  · exact ⟨by omega, fun g => by omega⟩
  · rw [List.getElem?_append_right (by omega)] at h
    by_cases c2 : j = A.length
    · subst c2
      rw [Nat.sub_self] at h
      have : w = v := by simpa using h
      subst this
      exact ⟨by omega, fun g => by rw [hw] at g; exact absurd g.2 (by decide)⟩
    · by_cases c3 : j = A.length + 1
      · subst c3
        rw [show A.length + 1 - A.length = 1 by omega] at h
        simp at h
      · rw [List.getElem?_eq_none (by simp; omega)] at h
        cases h
theorem wp_invVC {N : Mt} {As : List Value} {a t n ix mc' ms' : Nat} {i : Nat} {μ : Mem} {Qn : Res → Mem → Prop} {stk : List Value} (hd : decode M.2.1 pc = .ok (.invokevirtual ix, 3)) (hq : pc + 3 = q) (hN : mOK N n) (hlk : Cond.methodLink M.1.cls ix N.1 ∈ TW) (hin : Cond.instanceMethod N.1 ∈ TW) (hse : Cond.selects N.1.cls N.1 N.1 ∈ TW) (ht : t < 13) (hC : ∃ qc, mcls[t]? = some qc ∧ qc.1 = N.1.cls) (ha : a < μ.2.2.2.2) (hs : (μ.2.2.2.1 a).1 = t)
    (hst : stk = As.reverse ++ .ref a :: st) (hn : As.length = n) (hw : (st.map fun v => v.category).sum ≤ 8) (hc : mc' ≤ cb) (hsl : ms' ≤ sb) (hcall : Cal l G k mc' ms' N (.ref a :: As) μ Qn) (hi : ∀ (j : Nat) (v : Value), L[j]? = some (some v) → j ≠ i ∧ ¬ (j + 1 = i ∧ v.category = 2))
    (hret : ∀ (r : Option Value) (μ' : Mem), Qn (.inl r) μ' → WP l G (k + 1) mc ms M Q q L (r.toList ++ st) μ' (cb - mc') (sb - ms')) (hthr : ∀ (E : String) (μ' : Mem), Qn (.inr E) μ' → ∃ h, catQ M pc i h E ∧ WP l G (k + 1) mc ms M Q h L [] μ' (cb - mc') (sb - ms')) : WP l G (k + 1) mc ms M Q pc L stk μ cb sb := by
  subst hq; subst hst
  intro p e s m args below meth c H locs cells slots ls C hR hS hl h1 h2
  obtain ⟨qc, hqc, hcn⟩ := hC
  have hg := C.2.2.2.2.2.2.2.2.1
  have hrc := va_recv hg.1 (va_P1 (rel_obj hR ha hs ht)) hqc (q0 := 0) rfl
  rw [hcn] at hrc
  have hr := vx_runV (As := As.map (cv G)) (rest := st.map (cv G)) (b := G.1 + a) (C := N.1.cls) (R := room (k + 1) mc ms) (e := e) (below := below) (meth := meth) (locs := locs) (cells := cells) (slots := slots) (g := F0 m pc ls ((As.reverse ++ .ref a :: st).map (cv G))) ⟨C.1, C.2.1, C.2.2.2.1, C.2.2.2.2.1, C.2.2.2.2.2.1⟩ hcall ⟨mOK_B C hN hlk, C.2.2.2.2.2.1 _ hin, C.2.2.2.2.2.1 _ hse⟩ ⟨prC_blind, hrc, fun U hU hW => ⟨rfl, by rw [hU]; exact hR, by rw [hU]; exact hg.to hW hS.1 hS.2.1⟩⟩ rfl (by rw [List.length_map]; exact hn) hl.1 (by
    show List.map (cv G) _ = _
    rw [List.map_append, List.map_reverse]
    rfl) (lv_room (by rw [cat_cv]; exact hw)) hd ⟨by simp only [room]; omega, by simp only [room]; omega⟩
  intro T hT X
  rcases hr T hT X with ⟨v, st₀, t, T', L9, h0, X', hL9, e1, e2, ⟨⟨r, μ', hq, hv, hrel⟩, hF⟩, stp⟩ | ⟨q9, st₀, t, T', L9, E, ce, h0, X', hL9, e1, e2, ⟨⟨μ', hq, hrel⟩, hF⟩, hce, hcv, hcl, stp⟩
  · obtain ⟨k1, k2, k3⟩ := vx_keep h0 e1 hS (fun _ _ h => h) (fun _ h => h) hL9 hF
    injection hv with hv
    subst hv
    have kk := hret r μ' hq p e s m args below meth c T'.heap (locs ++ L9) (cells + mc') (slots + ms') ls C (by rw [e1]; exact hrel) k3 hl (by omega) (by omega)
    obtain ⟨t2, a1, b1⟩ := kk T' rfl X'
    refine ⟨t2, stp t2 ?_, b1⟩
    have e9 : (r.toList ++ st).map (cv G) = (r.map (cv G)).toList ++ st.map (cv G) := by cases r <;> rfl
    rw [e9] at a1
    exact a1
  · obtain ⟨k1, k2, k3⟩ := vx_keep h0 e1 hS (fun _ _ h => h) (fun _ h => h) hL9 hF
    obtain ⟨hp, ⟨pre, suf, x, len, c1, c2, c3, c4, c5, c6, c7, c8, c9⟩, hWP⟩ := hthr E μ' hq
    have hls : ∀ ls2 : Array Slot, lv_has ls2 M.2.2.1 ((i, Value.ref q9) :: (lpl G 0 L).filter (fun q => !(q.1 == i) && !(q.1 + 1 == i && q.2.category == 2))) → lv_has ls2 M.2.2.1 (lpl G 0 L) := fun ls2 hl2 => by
      refine ⟨hl2.1, hl2.2.1, fun q hq => hl2.2.2 q (List.mem_cons_of_mem _ (List.mem_filter.mpr ⟨hq, ?_⟩))⟩
      obtain ⟨n9, v9, g1, g2, g3⟩ := (lpl_mem L 0 q.1 q.2).mp hq
      obtain ⟨g4, g5⟩ := hi n9 v9 g2
      rw [g3, g1, cv_cat]
      simp only [Nat.zero_add, Bool.and_eq_true, Bool.not_eq_true', beq_eq_false_iff_ne, ne_eq, Bool.and_eq_false_iff]
      refine ⟨g4, ?_⟩
      by_cases c : n9 + 1 = i
      · exact Or.inr (fun g => g5 ⟨c, g⟩)
      · exact Or.inl c
    have kW : W p l e (room (k + 1) mc ms) s m args below meth c T'.heap (locs ++ L9) (cells + mc') (slots + ms') (vx_MQ below (QcC G Q) (XcC G Q) args s mc ms (frA G)) (F0 m x.handlerPc ls [.ref q9]) := by
      rcases c7 with ⟨f, d1, d2, d3⟩ | ⟨d1, d3⟩
      · subst d3; subst c9
        exact lv_astore_n C.1 C.2.1 d1 d2 hl c8 rfl (fun ls2 hl2 => hWP p e s m args below meth c T'.heap (locs ++ L9) (cells + mc') (slots + ms') ls2 C (by rw [e1]; exact hrel) k3 (hls ls2 hl2) (by omega) (by omega))
      · subst d3; subst c9
        exact lv_astore C.1 C.2.1 d1 hl c8 rfl (fun ls2 hl2 => hWP p e s m args below meth c T'.heap (locs ++ L9) (cells + mc') (slots + ms') ls2 C (by rw [e1]; exact hrel) k3 (hls ls2 hl2) (by omega) (by omega))
    have kk : vx_W p l e (room (k + 1) mc ms) s m args below meth c T'.heap (locs ++ L9) (cells + mc') (slots + ms') (vx_MQ below (QcC G Q) (XcC G Q) args s mc ms (frA G)) (F0 m pc ls (st.map (cv G))) q9 :=
      vx_catch (own := M.1.cls) (name := E) (E := E) (ce := ce) C.2.2.2.2.1 pre x suf (by rw [C.2.2.2.2.2.2.2.2.2.2]; exact c1) (fun z hz => (c2 z hz).imp id (fun ⟨g1, nm, g2, g3, g4⟩ => ⟨g1, nm, C.2.2.2.2.2.1 _ g2, hg.2.2.2.2.1 E c6 nm g3 g4⟩)) c3 c4 (C.2.2.2.2.2.1 _ c5) (va_Nw.use rfl (hg.2.2.2.1.1 E c6)) (by rw [e1]; exact hce) hcv hcl kW
    obtain ⟨t2, a1, b1⟩ := kk T' rfl X'
    exact ⟨t2, stp.trans a1, b1⟩
end Rules
