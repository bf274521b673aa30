/-! a method's contract out of its body; rules of calls, of making cells, of throws -/
def enA : List Value → List (Option Value)
  | [] => []
  | .long x :: vs => some (.long x) :: none :: enA vs
  | v :: vs => some v :: enA vs
def enL (av : List Value) (n : Nat) : List (Option Value) := enA av ++ List.replicate (n - (enA av).length) none
theorem enL_A {G : Gh} {av : List Value} {n i j : Nat} {w : Value} (h : (j, w) ∈ lpl G i (enL av n)) : (j, w) ∈ lpl G i (enA av) := by
  obtain ⟨m, v, h1, h2, h3⟩ := (lpl_mem _ i j w).mp h
  refine (lpl_mem _ i j w).mpr ⟨m, v, h1, ?_, h3⟩
  unfold enL at h2
  by_cases hm : m < (enA av).length
  · rw [List.getElem?_append_left hm] at h2
    exact h2
  · rw [List.getElem?_append_right (by omega)] at h2
    have h9 := List.mem_of_getElem? h2
    rw [List.mem_replicate] at h9
    exact absurd h9.2 (by simp)
theorem enA_mem (G : Gh) : ∀ (av : List Value), (∀ v ∈ av, ∀ b, v ≠ .double b) → ∀ (i j : Nat) (w : Value), (j, w) ∈ lpl G i (enA av) → (j, w) ∈ lv_args i (av.map (cv G))
  | [], _, i, j, w, h => by cases h
  | v :: vs, hd, i, j, w, h => by
    have hvs : ∀ v ∈ vs, ∀ b, v ≠ .double b := fun u hu => hd u (List.mem_cons_of_mem _ hu)
    have hv := hd v List.mem_cons_self
    cases v with
    | long x =>
      simp only [enA, lpl, List.mem_cons] at h
      rcases h with h | h
      · rw [h]; exact List.mem_cons_self
      · exact List.mem_cons_of_mem _ (enA_mem G vs hvs (i + 1 + 1) j w h)
    | double b => exact absurd rfl (hv b)
    | int x =>
      simp only [enA, lpl, List.mem_cons] at h
      rcases h with h | h
      · rw [h]; exact List.mem_cons_self
      · exact List.mem_cons_of_mem _ (enA_mem G vs hvs (i + 1) j w h)
    | float x =>
      simp only [enA, lpl, List.mem_cons] at h
      rcases h with h | h
      · rw [h]; exact List.mem_cons_self
      · exact List.mem_cons_of_mem _ (enA_mem G vs hvs (i + 1) j w h)
    | null =>
      simp only [enA, lpl, List.mem_cons] at h
      rcases h with h | h
      · rw [h]; exact List.mem_cons_self
      · exact List.mem_cons_of_mem _ (enA_mem G vs hvs (i + 1) j w h)
    | ref x =>
      simp only [enA, lpl, List.mem_cons] at h
      rcases h with h | h
      · rw [h]; exact List.mem_cons_self
      · exact List.mem_cons_of_mem _ (enA_mem G vs hvs (i + 1) j w h)
    | retAddr x =>
      simp only [enA, lpl, List.mem_cons] at h
      rcases h with h | h
      · rw [h]; exact List.mem_cons_self
      · exact List.mem_cons_of_mem _ (enA_mem G vs hvs (i + 1) j w h)
def argW : List Value → Nat
  | [] => 0
  | v :: vs => v.category + argW vs
theorem lg_len (G : Gh) : ∀ (av : List Value), (lg_sl (av.map (cv G))).length = argW av
  | [] => rfl
  | v :: vs => by
    have ih := lg_len G vs
    unfold lg_sl at ih ⊢
    rw [List.map_cons, List.flatMap_cons, List.length_append, ih, argW, cv_cat]
    cases v <;> simp [Value.category]
theorem Cal.of {l : Launch} {G : Gh} {k mc ms : Nat} {M : Mt} {Q : Res → Mem → Prop} {av : List Value} {L : List (Option Value)} {μ : Mem} (hh : M.2.2.2.2 = []) (hy : plainName M.1.cls = true) (hd : ∀ v ∈ av, ∀ b, v ≠ .double b) (ha : argW av ≤ M.2.2.1) (hL : enL av M.2.2.1 = L) (h : WP l G k mc ms M Q 0 L [] μ mc ms) : Cal l G k mc ms M av μ Q := by
  refine vx_ofW (cc := M.2.1) (maxL := M.2.2.1) (ret := M.2.2.2.1) (ws' := TW) hy (by unfold wsM; rw [hh]) ?_
  intro p e s m args below meth c s₁ B hml ht hv
  obtain ⟨rfl, hR, hG⟩ := hv
  have hts := atoms_spec (ws := wsM M) B.pre
  rw [lg_entry_eq]
  have hl := lv_entry (av.map (cv G)) (n := M.2.2.1) (by rw [lg_len]; exact ha)
  refine h p e s m _ below meth c s.heap [] 0 0 _ ⟨B.exec, B.bytes, B.returns, hml, findClass_of_methodNamed B.named, fun w hw => hts w (List.mem_cons_of_mem _ hw), B.notSynchronized, (name_of_methodNamed B.named B.method).1, hG, by rw [hR.1]; exact Nat.le_add_right _ _, ?_⟩ hR va_S.rf ⟨hl.1, hl.2.1, fun q hq => ?_⟩ (by omega) (by omega)
  · rw [hh]
    have h9 : c.exceptionTable.toList = [] := List.eq_nil_iff_forall_not_mem.mpr fun x hx => ht x hx
    rw [h9]; rfl
  · rw [← hL] at hq
    exact hl.2.2 q (enA_mem G av hd 0 q.1 q.2 (enL_A hq))
theorem prC_blind {G : Gh} {μ : Mem} {av : List Value} : FrameBlind (prC G μ av) := fun _ _ _ _ h => ⟨h.1, h.2.1, h.2.2.calling⟩
/-- a callee's own words: code, initialized, its arguments -/
def mOK (N : Mt) (n : Nat) : Prop := Cond.code N.1 N.2.1 N.2.2.1 N.2.2.2.1 ∈ TW ∧ Cond.initialized N.1.cls ∈ TW ∧ N.2.2.2.2 = [] ∧ (N.1.cls ≠ "java/lang/invoke/MethodHandle" ∧ N.1.cls ≠ "java/lang/invoke/VarHandle") ∧ (parseMethodDescriptor N.1.desc).map (fun d => d.parameters.length) = some n ∧ N.2.2.1 ≤ 21
theorem TW_good {args : Array Value} {s : State} (h : ∀ w ∈ TW, w.before args s = true) : ∀ w ∈ TW, ∀ (a' : Array Value) (U : State), s.WarmedH U.vm → w.before a' U = true :=
  fun w hw a' U hW => word_at hW (good_of_word (List.mem_filter.mp hw).2) (h w hw)
theorem mOK_B {G : Gh} {M N : Mt} {p : Program} {s : State} {m : MethodId} {args : Array Value} {meth : Method} {c : Code} {n k mc ms mc' ms' ix : Nat} (C : Cx G M p s m args meth c) (hN : mOK N n) (hlk : Cond.methodLink M.1.cls ix N.1 ∈ TW) : CallB (room (k + 1) mc ms) s args M.1.cls ix N.1 N.2.1 N.2.2.1 N.2.2.2.1 (wsM N) (room k mc' ms') mc' ms' n := by
  obtain ⟨h1, h2, h3, h4, h5, h6⟩ := hN
  have hw : wsM N = Cond.code N.1 N.2.1 N.2.2.1 N.2.2.2.1 :: TW := by unfold wsM; rw [h3]
  have hg := TW_good C.2.2.2.2.2.1
  refine ⟨rfl, rfl, by simp only [room]; omega, by simp only [room]; omega, fun w hw2 a' U hW => ?_, by rw [hw]; exact List.mem_cons_self, C.2.2.2.2.2.1 _ h1, C.2.2.2.2.2.1 _ h2, h4, fun sig hs => ?_, C.2.2.2.2.2.1 _ hlk⟩
  · rw [hw] at hw2
    rcases List.mem_cons.mp hw2 with h | h
    · rw [h]; exact hg _ h1 a' U hW
    · exact hg _ h a' U hW
  · rw [hs] at h5
    exact (Option.some.inj h5).symm
theorem cat_cv (G : Gh) (st : List Value) : ((st.map (cv G)).map fun v => v.category) = st.map fun v => v.category := by
  rw [List.map_map]
  exact List.map_congr_left fun v _ => cv_cat G v
section Rules
variable {l : Launch} {G : Gh} {k mc ms : Nat} {M : Mt} {Q : Res → Mem → Prop} {pc q : Nat} {L L' : List (Option Value)} {st : List Value} {cb sb : Nat}
theorem call_core {p : Program} {e : Env} {s : State} {m : MethodId} {args : Array Value} {below : List Frame} {meth : Method} {c : Code} {H : Heap} {locs : List Loc} {cells slots : Nat} {ls : Array Slot} {Qn : Res → Mem → Prop} {mc' ms' : Nat} {a : Array Value} {stk : List Value} (C : Cx G M p s m args meth c) (hh : M.2.2.2.2 = []) (hS : va_S (frA G) s.heap H locs) (hl : lv_has ls M.2.2.1 (lpl G 0 L)) (h1 : cells + cb ≤ mc) (h2 : slots + sb ≤ ms) (hc : mc' ≤ cb) (hs : ms' ≤ sb)
    (hr : vx_Run p l e (room k mc ms) s m args below meth c H locs cells slots mc' ms' (F0 m pc ls stk) (st.map (cv G)) (QcC G Qn a) (XcC G Qn) (frA G))
    (hret : ∀ (r : Option Value) (μ' : Mem), Qn (.inl r) μ' → WP l G k mc ms M Q (pc + 3) L (r.toList ++ st) μ' (cb - mc') (sb - ms')) (hthr : ∀ (E : String) (μ' : Mem), Qn (.inr E) μ' → Q (.inr E) μ') :
    W p l e (room k mc ms) s m args below meth c H locs cells slots (vx_MQ below (QcC G Q) (XcC G Q) args s mc ms (frA G)) (F0 m pc ls stk) := by
  intro T hT X
  rcases hr T hT X with ⟨v, st₀, t, T', L9, h0, X', hL9, e1, e2, ⟨⟨r, μ', hq, hv, hrel⟩, hF⟩, stp⟩ | ⟨q9, st₀, t, T', L9, E, ce, h0, X', hL9, e1, e2, ⟨⟨μ', hq, hrel⟩, hF⟩, hce, hcv, hcl, stp⟩
  · obtain ⟨k1, k2, k3⟩ := vx_keep h0 e1 hS (fun _ _ h => h) (fun _ h => h) hL9 hF
    injection hv with hv
    subst hv
    have kk := hret r μ' hq p e s m args below meth c T'.heap (locs ++ L9) (cells + mc') (slots + ms') ls C (by rw [e1]; exact hrel) k3 hl (by omega) (by omega)
    obtain ⟨t2, a1, b1⟩ := kk T' rfl X'
    refine ⟨t2, stp t2 ?_, b1⟩
    have e9 : (r.toList ++ st).map (cv G) = (r.map (cv G)).toList ++ st.map (cv G) := by cases r <;> rfl
    rw [e9] at a1
    exact a1
  · obtain ⟨k1, k2, k3⟩ := vx_keep h0 e1 hS (fun _ _ h => h) (fun _ h => h) hL9 hF
    have kk : vx_W p l e (room k mc ms) s m args below meth c T'.heap (locs ++ L9) (cells + mc') (slots + ms') (vx_MQ below (QcC G Q) (XcC G Q) args s mc ms (frA G)) (F0 m pc ls (st.map (cv G))) q9 :=
      vx_out (E := E) (ce := ce) (fun x hx => by rw [C.2.2.2.2.2.2.2.2.2.2, hh] at hx; cases hx) C.2.2.2.2.2.2.1 (by rw [e1]; exact hce) hcv hcl (fun t' ht' hal => ⟨⟨μ', hthr E μ' hq, by rw [ht', e1]; exact hrel⟩, k3.F ht'⟩) k3.2.2 (by omega) (by omega)
    obtain ⟨t2, a1, b1⟩ := kk T' rfl X'
    exact ⟨t2, stp.trans a1, b1⟩
theorem wp_invV {N : Mt} {As : List Value} {a t n ix mc' ms' : Nat} {μ : Mem} {Qn : Res → Mem → Prop} {stk : List Value} (hd : decode M.2.1 pc = .ok (.invokevirtual ix, 3)) (hq : pc + 3 = q) (hh : M.2.2.2.2 = []) (hN : mOK N n) (hlk : Cond.methodLink M.1.cls ix N.1 ∈ TW) (hin : Cond.instanceMethod N.1 ∈ TW) (hse : Cond.selects N.1.cls N.1 N.1 ∈ TW) (ht : t < 13) (hC : ∃ qc, mcls[t]? = some qc ∧ qc.1 = N.1.cls) (ha : a < μ.2.2.2.2) (hs : (μ.2.2.2.1 a).1 = t)
    (hst : stk = As.reverse ++ .ref a :: st) (hn : As.length = n) (hw : (st.map fun v => v.category).sum ≤ 8) (hc : mc' ≤ cb) (hsl : ms' ≤ sb) (hcall : Cal l G k mc' ms' N (.ref a :: As) μ Qn)
    (hret : ∀ (r : Option Value) (μ' : Mem), Qn (.inl r) μ' → WP l G (k + 1) mc ms M Q q L (r.toList ++ st) μ' (cb - mc') (sb - ms')) (hthr : ∀ (E : String) (μ' : Mem), Qn (.inr E) μ' → Q (.inr E) μ') : WP l G (k + 1) mc ms M Q pc L stk μ cb sb := by
  subst hq; subst hst
  intro p e s m args below meth c H locs cells slots ls C hR hS hl h1 h2
  obtain ⟨qc, hqc, hcn⟩ := hC
  have hrc := va_recv C.2.2.2.2.2.2.2.2.1.1 (va_P1 (rel_obj hR ha hs ht)) hqc (q0 := 0) rfl
  rw [hcn] at hrc
  refine call_core C hh hS hl h1 h2 hc hsl (vx_runV (As := As.map (cv G)) (rest := st.map (cv G)) (b := G.1 + a) (C := N.1.cls) ⟨C.1, C.2.1, C.2.2.2.1, C.2.2.2.2.1, C.2.2.2.2.2.1⟩ hcall ⟨mOK_B C hN hlk, C.2.2.2.2.2.1 _ hin, C.2.2.2.2.2.1 _ hse⟩ ⟨prC_blind, hrc, fun U hU hW => ⟨rfl, by rw [hU]; exact hR, by rw [hU]; exact C.2.2.2.2.2.2.2.2.1.to hW hS.1 hS.2.1⟩⟩ rfl (by rw [List.length_map]; exact hn) hl.1 ?_ (lv_room (by rw [cat_cv]; exact hw)) hd ⟨by simp only [room]; omega, by simp only [room]; omega⟩) hret hthr
  show List.map (cv G) _ = _
  rw [List.map_append, List.map_reverse]
  rfl
theorem wp_invS {N : Mt} {As : List Value} {n ix mc' ms' : Nat} {μ : Mem} {Qn : Res → Mem → Prop} {stk : List Value} (hd : decode M.2.1 pc = .ok (.invokestatic ix, 3)) (hq : pc + 3 = q) (hh : M.2.2.2.2 = []) (hN : mOK N n) (hlk : Cond.methodLink M.1.cls ix N.1 ∈ TW) (hsta : Cond.static N.1 ∈ TW)
    (hst : stk = As.reverse ++ st) (hn : As.length = n) (hw : (st.map fun v => v.category).sum ≤ 8) (hc : mc' ≤ cb) (hsl : ms' ≤ sb) (hcall : Cal l G k mc' ms' N As μ Qn)
    (hret : ∀ (r : Option Value) (μ' : Mem), Qn (.inl r) μ' → WP l G (k + 1) mc ms M Q q L (r.toList ++ st) μ' (cb - mc') (sb - ms')) (hthr : ∀ (E : String) (μ' : Mem), Qn (.inr E) μ' → Q (.inr E) μ') : WP l G (k + 1) mc ms M Q pc L stk μ cb sb := by
  subst hq; subst hst
  intro p e s m args below meth c H locs cells slots ls C hR hS hl h1 h2
  refine call_core C hh hS hl h1 h2 hc hsl (vx_runS (As := As.map (cv G)) (rest := st.map (cv G)) ⟨C.1, C.2.1, C.2.2.2.1, C.2.2.2.2.1, C.2.2.2.2.2.1⟩ hcall ⟨mOK_B C hN hlk, C.2.2.2.2.2.1 _ hsta⟩ ⟨prC_blind, fun U hU hW => ⟨rfl, by rw [hU]; exact hR, by rw [hU]; exact C.2.2.2.2.2.2.2.2.1.to hW hS.1 hS.2.1⟩⟩ rfl (by rw [List.length_map]; exact hn) hl.1 ?_ (lv_room (by rw [cat_cv]; exact hw)) hd ⟨by simp only [room]; omega, by simp only [room]; omega⟩) hret hthr
  show List.map (cv G) _ = _
  rw [List.map_append, List.map_reverse]
theorem wp_invI {N : Mt} {As : List Value} {a n ix mc' ms' : Nat} {μ : Mem} {Qn : Res → Mem → Prop} {stk : List Value} (hd : decode M.2.1 pc = .ok (.invokespecial ix, 3)) (hq : pc + 3 = q) (hh : M.2.2.2.2 = []) (hN : mOK N n) (hnm : N.1.name = "<init>") (hrt : N.2.2.2.1 = none) (hlk : Cond.methodLink M.1.cls ix N.1 ∈ TW) (hin : Cond.instanceMethod N.1 ∈ TW)
    (hst : stk = As.reverse ++ .ref a :: st) (hn : As.length = n) (hw : (st.map fun v => v.category).sum ≤ 8) (hc : mc' ≤ cb) (hsl : ms' ≤ sb) (hcall : Cal l G k mc' ms' N (.ref a :: As) μ Qn)
    (hret : ∀ (r : Option Value) (μ' : Mem), Qn (.inl r) μ' → WP l G (k + 1) mc ms M Q q L (r.toList ++ st) μ' (cb - mc') (sb - ms')) (hthr : ∀ (E : String) (μ' : Mem), Qn (.inr E) μ' → Q (.inr E) μ') : WP l G (k + 1) mc ms M Q pc L stk μ cb sb := by
  subst hq; subst hst
  intro p e s m args below meth c H locs cells slots ls C hR hS hl h1 h2
  have hB := mOK_B (k := k) (mc := mc) (ms := ms) (mc' := mc') (ms' := ms') C hN hlk
  rw [hrt] at hB
  refine call_core C hh hS hl h1 h2 hc hsl (vx_runI (As := As.map (cv G)) (rest := st.map (cv G)) (b := G.1 + a) ⟨C.1, C.2.1, C.2.2.2.1, C.2.2.2.2.1, C.2.2.2.2.2.1⟩ hcall ⟨hB, hnm, C.2.2.2.2.2.1 _ hin⟩ ⟨prC_blind, fun U hU hW => ⟨rfl, by rw [hU]; exact hR, by rw [hU]; exact C.2.2.2.2.2.2.2.2.1.to hW hS.1 hS.2.1⟩⟩ rfl (by rw [List.length_map]; exact hn) hl.1 ?_ (lv_room (by rw [cat_cv]; exact hw)) hd ⟨by simp only [room]; omega, by simp only [room]; omega⟩) hret hthr
  show List.map (cv G) _ = _
  rw [List.map_append, List.map_reverse]
  rfl
theorem wp_invIN {N : Mt} {As : List Value} {a n ix mc' ms' : Nat} {host : String} {μ : Mem} {Qn : Res → Mem → Prop} {stk : List Value} (hd : decode M.2.1 pc = .ok (.invokespecial ix, 3)) (hq : pc + 3 = q) (hh : M.2.2.2.2 = []) (hN : mOK N n) (hnm : N.1.name = "<init>") (hrt : N.2.2.2.1 = none) (hlk : (M.1.cls, ix, N.1, host) ∈ nlL) (hin : Cond.instanceMethod N.1 ∈ TW)
    (hst : stk = As.reverse ++ .ref a :: st) (hn : As.length = n) (hw : (st.map fun v => v.category).sum ≤ 8) (hc : mc' ≤ cb) (hsl : ms' ≤ sb) (hcall : Cal l G k mc' ms' N (.ref a :: As) μ Qn)
    (hret : ∀ (r : Option Value) (μ' : Mem), Qn (.inl r) μ' → WP l G (k + 1) mc ms M Q q L (r.toList ++ st) μ' (cb - mc') (sb - ms')) (hthr : ∀ (E : String) (μ' : Mem), Qn (.inr E) μ' → Q (.inr E) μ') : WP l G (k + 1) mc ms M Q pc L stk μ cb sb := by
  subst hq; subst hst
  intro p e s m args below meth c H locs cells slots ls C hR hS hl h1 h2
  obtain ⟨w1, w2, w3, w4, w5, w6⟩ := hN
  have hw9 : wsM N = Cond.code N.1 N.2.1 N.2.2.1 N.2.2.2.1 :: TW := by unfold wsM; rw [w3]
  have hg := TW_good C.2.2.2.2.2.1
  have hB : va_CN (room (k + 1) mc ms) s args M.1.cls ix N.1 host N.2.1 N.2.2.1 none (wsM N) (room k mc' ms') mc' ms' n := by
    refine ⟨⟨rfl, rfl, by simp only [room]; omega, by simp only [room]; omega, fun w hw2 a' U hW => ?_, by rw [hw9, hrt]; exact List.mem_cons_self⟩, by rw [← hrt]; exact C.2.2.2.2.2.1 _ w1, C.2.2.2.2.2.1 _ w2, w4, fun sig hs => ?_, va_Nw.use rfl (C.2.2.2.2.2.2.2.2.1.2.1 _ hlk)⟩
    · rw [hw9] at hw2
      rcases List.mem_cons.mp hw2 with h | h
      · rw [h]; exact hg _ w1 a' U hW
      · exact hg _ h a' U hW
    · rw [hs] at w5
      exact (Option.some.inj w5).symm
  refine call_core C hh hS hl h1 h2 hc hsl (vx_runIN (As := As.map (cv G)) (rest := st.map (cv G)) (b := G.1 + a) ⟨C.1, C.2.1, C.2.2.2.1, C.2.2.2.2.1, C.2.2.2.2.2.1⟩ hcall ⟨hB, hnm, C.2.2.2.2.2.1 _ hin⟩ ⟨prC_blind, fun U hU hW => ⟨rfl, by rw [hU]; exact hR, by rw [hU]; exact C.2.2.2.2.2.2.2.2.1.to hW hS.1 hS.2.1⟩⟩ rfl (by rw [List.length_map]; exact hn) hl.1 ?_ (lv_room (by rw [cat_cv]; exact hw)) hd ⟨by simp only [room]; omega, by simp only [room]; omega⟩) hret hthr
  show List.map (cv G) _ = _
  rw [List.map_append, List.map_reverse]
  rfl
theorem wp_objInit {a ix : Nat} {μ : Mem} (hd : decode M.2.1 pc = .ok (.invokespecial ix, 3)) (hq : pc + 3 = q) (hlk : Cond.methodLink M.1.cls ix Lib.objectInit ∈ TW) (hin : Cond.instanceMethod Lib.objectInit ∈ TW) (hcd : Cond.code Lib.objectInit ⟨#[0xb1]⟩ 1 none ∈ TW) (hw : (st.map fun v => v.category).sum ≤ 8) (h : WP l G k mc ms M Q q L st μ cb sb) : WP l G k mc ms M Q pc L (.ref a :: st) μ cb sb := by
  subst hq
  intro p e s m args below meth c H locs cells slots ls C hR hS hl h1 h2
  exact W.objInit C.1 C.2.1 C.2.2.2.2.1 (C.2.2.2.2.2.1 _ hlk) (C.2.2.2.2.2.1 _ hin) (C.2.2.2.2.2.1 _ hcd) rfl (by rw [C.2.2.2.1]; exact hl.1) rfl hd (by simp only [room]; omega) (by have h9 := lv_room (m := m) (pc := pc) (ls := ls) (rest := (Value.ref (G.1 + a)) :: st.map (cv G)) (st := st.map (cv G)) (by rw [cat_cv]; exact hw); simp only [room]; exact Nat.le_trans (Nat.add_le_add_right h9 12) (by omega)) (h p e s m args below meth c H locs cells slots ls C hR hS hl h1 h2)
end Rules
