/-! throws whose text is loaded by ldc -/
section U
variable {p : Program} {l : Launch} {e : Env} {R : Room} {s : State} {m : MethodId} {args : Array Value} {below : List Frame} {meth : Method} {c : Code} {H : Heap} {locs : List Loc} {cells slots : Nat} {ls : Array Slot} {rest : List Value} {Qc : Array Value → State → Outcome → State → Prop} {XC : String → State → State → Prop} {free : Addr → Prop}
theorem vz_throwL {cc : ByteArray} {pc : Nat} (hexec : p.tables.exec = Jvm.exec) (hb : c.code = cc) (hl : l.stackTraces = false) {own cls text Y : String} {r : List String} {rx : ByteArray} {ik is ic ix mc ms sa : Nat} {A : Nat → Prop}
    (x0 : decode rx 0 = .ok (.aload_n 0, 1)) (x1 : decode rx 1 = .ok (.aload_n 1, 1)) (x2 : decode rx 2 = .ok (.invokespecial ix, 3)) (x5 : decode rx 5 = .ok (.return_, 1))
    (hown : s.vm.findClass own = some m.cls) (hcls : Bundle.fit cls = true) (hnames : ∀ n ∈ Y :: r, Bundle.fit n = true)
    (hk : (Cond.classLink own ik cls).before args s = true) (hini : (Cond.initialized cls).before args s = true) (hstr : vk_R own is text sa s) (hat : ∀ w ∈ (zwA own ic cls ix rx Y r).filter vx_no, w.before args s = true)
    (hgood : ∀ w ∈ Cond.classLink own ik cls :: Cond.initialized cls :: (zwA own ic cls ix rx Y r).filter vx_no, vx_ot w = true)
    (hU : vx_Zq Bundle.tN "UNASSIGNED_STACK" Bundle.steD A s s.heap) (hN : vx_Zq Bundle.tN "SUPPRESSED_SENTINEL" Bundle.listD A s s.heap) (hS : va_S A s.heap H locs) (hsize : ls.size = c.maxLocals)
    (d0 : decode cc pc = .ok (.new ik, 3)) (d3 : decode cc (pc + 3) = .ok (.dup, 1)) (d4 : decode cc (pc + 4) = .ok (.ldc is, 2)) (d7 : decode cc (pc + 6) = .ok (.invokespecial ic, 3)) (d10 : decode cc (pc + 9) = .ok (.athrow, 1))
    (hout : ∀ x ∈ c.exceptionTable.toList, covers x (pc + 9) = false)
    (hRframes : r.length + 4 < R.frames) (hRlocals : (rest.map fun v => v.category).sum + (13 * (r.length + 2) + 43) ≤ R.locals) (hRcells : cells + 1 ≤ R.cells) (hRslots : slots + 6 ≤ R.slots) (hlocks : meth.locks = false)
    (hx : ∀ t : State, s.vm.Alike t.vm → H.size ≤ t.heap.size → (∀ q : Nat, q < H.size → t.heap[q]? = H[q]?) → XC cls s t)
    (hf : ∀ z ∈ locs, free z.base) (hc : cells + 1 ≤ mc) (hs : slots + 6 ≤ ms) :
    W p l e R s m args below meth c H locs cells slots (vx_MQ below Qc XC args s mc ms free) (F0 m pc ls rest) := by
  intro T hT X
  have htr : e.platform.stackTraces = false := (show e.platform.stackTraces = l.stackTraces by rw [X.admits.platform]).trans hl
  have Y9 := vx_rebase X (R' := { frames := R.frames, locals := R.locals, cells := 1, slots := 6 }) (Nat.le_refl _) (Nat.le_refl _) hRcells hRslots
  obtain ⟨s', hA⟩ : ∃ z, z = (T.setVm s.vm).setFrames (.invoking m args :: below) := ⟨_, rfl⟩
  rw [← hA] at Y9
  have hvm : s'.vm = s.vm := by rw [hA]; rfl
  have hhp : s'.heap = H := by rw [hA]; exact hT
  have hW0 : s.WarmedH s'.vm := by rw [hvm]; exact State.WarmedH.refl s
  have tr : ∀ w, w ∈ Cond.classLink own ik cls :: Cond.initialized cls :: (zwA own ic cls ix rx Y r).filter vx_no → w.before args s = true → w.before args s' = true := fun w hw h9 => vx_ot_at hW0 hvm.symm (hgood w hw) h9
  have hU' : vx_Zq Bundle.tN "UNASSIGNED_STACK" Bundle.steD A s' s'.heap := by rw [hhp]; exact vx_Zq.moved hW0.alike (hU.kept hS.2.1)
  have hN' : vx_Zq Bundle.tN "SUPPRESSED_SENTINEL" Bundle.listD A s' s'.heap := by rw [hhp]; exact vx_Zq.moved hW0.alike (hN.kept hS.2.1)
  have h : ∀ w ∈ zwA own ic cls ix rx Y r, w.before args s' = true := vx_own (fun w hw => tr w (List.mem_cons_of_mem _ (List.mem_cons_of_mem _ hw)) (hat w hw)) (vx_isRefq hU'.1) (vx_isRefq hN'.1) hU'.2.word hN'.2.word
  have hown' : s'.vm.findClass own = some m.cls := by rw [hvm]; exact hown
  obtain ⟨vm1, cX, kX, hfX, hkX, -, -, X1, st1⟩ := Y9.newCold hexec (own := own) (C := cls) (index := ik) (n := 6) hown' (tr _ List.mem_cons_self hk) (h _ (by simp [zwA, zwT])) (tr _ (List.mem_cons_of_mem _ List.mem_cons_self) hini)
    (g := F0 m pc ls rest) rfl (by rw [hb]; exact d0) (Nat.le_refl _) (Nat.le_refl _)
  generalize hT1 : (T.setVm vm1).pushCell { cls := cX, slots := kX.instanceTypes.map defaultValue, vm := .none } = T1 at X1 st1
  have hcat : (Value.ref T.heap.size).category = 1 := rfl
  have hcellA : T1.heap[T.heap.size]? = some (freshCell cX kX) := by rw [← hT1]; exact State.heap_pushCell_size _ _
  have d3' : decode c.code (pc + 3) = .ok (.dup, 1) := by rw [hb]; exact d3
  have d4' : decode c.code (pc + 4) = .ok (.ldc is, 2) := by rw [hb]; exact d4
  have hstr' : vk_R own is text sa s' := vk_R.warm hW0 hstr
  obtain ⟨U, hsteps, hrun, hend, hW, hsame, ce, hce, hO1, hO2⟩ := vz_ctor X1 hexec htr (own := own) (cls := cls) (Y := Y) (r := r) (ic := ic) x0 x1 x2 x5 hown' hcls hnames h (vx_isRefq hU'.1) (vx_isRefq hN'.1) (fun x hx => nomatch hx) hfX hkX hcellA (by rw [hhp, hT]; exact Nat.le_refl _) (msg := .ref sa) rfl
    (g := { method := m, pc := pc + 6, locals := ls, stack := .ref sa :: .ref T.heap.size :: .ref T.heap.size :: rest, locked := none }) rfl hsize rfl rfl (rest := rest) rfl
    (by rw [hb]; exact d7) (by rw [hb]; exact d10) hout hRframes (by simp only [List.map_cons, List.sum_cons, hcat]; omega) hlocks
  obtain ⟨f1, f2⟩ := vx_frame hsame
  rw [hhp] at f1 f2
  have hWs : s.WarmedH U.vm := State.WarmedH.trans hW0 hW
  have hcl : s.vm.findClass cls = some ce.cls := by
    rw [hvm] at hO1
    exact hO1
  have hall : s.sameButNew ({ U with vm := s.vm } : State) locs mc ms := by
    subst hA
    obtain ⟨e1, e2⟩ := hsame
    rw [State.setFrames_setFrames] at e1
    have h2 : (T.setVm s.vm).sameButNew ({ U with vm := s.vm } : State) [] (0 + 1) (0 + 6) := ⟨e1, e2⟩
    have h3 := X.same.trans h2
    rw [List.append_nil] at h3
    exact h3.mono hc hs
  refine ⟨U, ?_, .threw T.heap.size, hrun, hend, Or.inr ⟨T.heap.size, rfl, cls, ce, locs, hx U hWs.alike f1 (fun q hq => f2 q hq (fun z hz => nomatch hz)), hce, hO2, hcl, hWs, hall, hf⟩⟩
  refine st1 _ ?_
  show Steps p.tables e below (T1.setTop { method := m, pc := pc + 3, locals := ls, stack := .ref T.heap.size :: rest, locked := none }) _
  jvm_step X1.here [X1.here.top, hexec, d3', Value.category]
  exact X1.ldcString hexec (own := own) (text := text) (index := is) (a := sa) hown' hstr'.1 hstr'.2
    (g := { method := m, pc := pc + 4, locals := ls, stack := .ref T.heap.size :: .ref T.heap.size :: rest, locked := none }) rfl d4' _ hsteps
end U
section Rules2
variable {l : Launch} {G : Gh} {k mc ms : Nat} {M : Mt} {Q : Res → Mem → Prop} {pc q : Nat} {L L' : List (Option Value)} {st : List Value} {cb sb : Nat}
theorem wp_thrL {E : String} {ik ist ic si : Nat} {μ : Mem} (hl0 : l.stackTraces = false) (hh : M.2.2.2.2 = []) (hcl : M.1.cls = RX11) (hO : thrOK E ik ic) (hsi : si < 35) (hss : (stL.getD si ("", 0, "")).1 = RX11 ∧ (stL.getD si ("", 0, "")).2.1 = ist)
    (d0 : decode M.2.1 pc = .ok (.new ik, 3)) (d3 : decode M.2.1 (pc + 3) = .ok (.dup, 1)) (d4 : decode M.2.1 (pc + 4) = .ok (.ldc ist, 2)) (d6 : decode M.2.1 (pc + 6) = .ok (.invokespecial ic, 3)) (d9 : decode M.2.1 (pc + 9) = .ok (.athrow, 1)) (hw : (st.map fun v => v.category).sum ≤ 8)
    (hc : 1 ≤ cb) (hs : 6 ≤ sb) (h : ∀ n', μ.2.2.2.2 ≤ n' → Q (.inr E) (thr μ n')) : WP l G k mc ms M Q pc L st μ cb sb := by
  intro p e s m args below meth c H locs cells slots ls C hR hS hl h1 h2
  obtain ⟨ix, rx, ⟨x0, x1, x2, x5⟩, hE, ⟨hck, hini⟩, hat, hot⟩ := hO
  have hg := C.2.2.2.2.2.2.2.2.1
  have hstr := hg.2.2.2.2.2.1 si hsi
  rw [hss.1, hss.2] at hstr
  have hown : s.vm.findClass RX11 = some m.cls := by rw [← hcl]; exact C.2.2.2.2.1
  refine vz_throwL (Y := "java/lang/RuntimeException") (r := ["java/lang/Exception"]) (A := frA G) C.1 C.2.1 hl0 x0 x1 x2 x5 hown hE (by decide +kernel) (C.2.2.2.2.2.1 _ hck) (C.2.2.2.2.2.1 _ hini) hstr (fun w hw9 => ?_) hot hg.2.2.2.2.2.2.1 hg.2.2.2.2.2.2.2.1 hS (hl.1.trans C.2.2.2.1.symm) d0 d3 d4 d6 d9 (fun x hx => by rw [C.2.2.2.2.2.2.2.2.2.2, hh] at hx; cases hx) (by simp [room]; omega) (by rw [cat_cv]; simp [room]; omega) (by simp only [room]; omega) (by simp only [room]; omega) C.2.2.2.2.2.2.1 (fun t hal hz ho => ?_) hS.2.2 (by omega) (by omega)
  · rcases hat w hw9 with h9 | h9
    · exact C.2.2.2.2.2.1 _ h9
    · obtain ⟨x, hx, rfl⟩ := List.mem_map.mp h9
      exact va_Nw.use rfl (hg.2.2.2.1.2 x hx)
  · have hz0 : H.size = G.1 + μ.2.2.2.2 := hR.1
    refine ⟨⟨_, h (t.heap.size - G.1) (by omega), ?_⟩, Nat.le_trans hS.1 hz, fun q g1 g2 => (ho q (Nat.lt_of_lt_of_le g1 hS.1)).trans (hS.2.1 q g1 g2)⟩
    unfold thr
    refine ⟨by show t.heap.size = G.1 + (t.heap.size - G.1); omega, fun b hb ht => ?_⟩
    by_cases hbn : b < μ.2.2.2.2
    · have hs : (if b < μ.2.2.2.2 then μ.2.2.2.1 b else (999, 0)) = μ.2.2.2.1 b := if_pos hbn
      have ht2 : (μ.2.2.2.1 b).1 < 200 := by rw [← hs]; exact ht
      have hcl : clO G (μ.1, μ.2.1, μ.2.2.1, (fun a => if a < μ.2.2.2.2 then μ.2.2.2.1 a else (999, 0)), t.heap.size - G.1) b = clO G μ b := by
        unfold clO fsl fvl acn
        simp only [hs]
      rw [hcl]
      exact (hR.2 b hbn ht2).kept (ho _ (by show G.1 + b < H.size; omega))
    · have hs : (if b < μ.2.2.2.2 then μ.2.2.2.1 b else (999, 0)) = (999, 0) := if_neg hbn
      have ht2 : ((999, 0) : Nat × Nat).1 < 200 := by rw [← hs]; exact ht
      exact absurd ht2 (by decide)
end Rules2
