/-! the start: what the ghosts are, and what holds of them -/
def swK (q : String × Nat × String) : Term := .string q.1 q.2.1
def swV (q : String × Nat × String) : Term := .field (swK q) "java/lang/String" "value" "[B"
def swB (t : String) : List Int32 := t.toList.map (fun ch => Int32.ofNat ch.toNat)
def swW (q : String × Nat × String) : List Cond := Cond.exactly (swK q) "java/lang/String" :: Cond.eq (.field (swK q) "java/lang/String" "coder" "B") (.int 0) :: Cond.arrayOf (swV q) .byte :: Cond.eq (.length (swV q)) (.int (Int32.ofNat (swB q.2.2).length)) :: (List.range (swB q.2.2).length).map (fun j => Cond.eq (.elem (swV q) (.int (Int32.ofNat j))) (.int ((swB q.2.2).getD j 0)))
abbrev gvC : List Cond := flatC (Jvm.Cond.and given_1 narrow_1)
theorem sw_all : gvC.drop 111 = stL.flatMap swW := by decide +kernel
theorem sw_in {q : String × Nat × String} (hq : q ∈ stL) {w : Cond} (hw : w ∈ swW q) : w ∈ gvC := List.mem_of_mem_drop (i := 111) (by rw [sw_all]; exact List.mem_flatMap.mpr ⟨q, hq, hw⟩)
theorem stL_in : ∀ i, i < 35 → stL.getD i ("", 0, "") ∈ stL := by decide +kernel
theorem stB_at : ∀ i, i < 35 → stB.getD i [] = swB (stL.getD i ("", 0, "")).2.2 := by decide +kernel
theorem stB_len : ∀ i, i < 35 → (stB.getD i []).length < 1000 := by decide +kernel
theorem stB_ne : ∀ i, i < 35 → ∀ j, j < 35 → stB.getD i [] = stB.getD j [] → i = j := by decide +kernel
theorem mcls_in : ∀ q ∈ mcls, Cond.instantiable q.1 q.2.2 ∈ lw_tbl := by decide +kernel
theorem nlL_in : ∀ q ∈ nlL, Cond.methodLinkNest q.1 q.2.1 q.2.2.1 q.2.2.2 ∈ lw_tbl := by decide +kernel
theorem exL_in : ∀ E ∈ exL, Cond.castable E E ∈ lw_tbl := by decide +kernel
theorem dcL_in : ∀ q ∈ dcL, Cond.declares q ∈ lw_tbl := by decide +kernel
theorem stL_ref : ∀ q ∈ stL, Cond.stringRef q.1 q.2.1 q.2.2 ∈ lw_tbl := by decide +kernel
theorem exN_in : ∀ E ∈ exL, ∀ F ∈ exL, E ≠ F → Cond.not (.castable E F) ∈ gvC := by decide +kernel
theorem ao_in : Cond.arrayOver (.object RX9) ∈ lw_tbl ∧ Cond.arrayOver (.object RX1) ∈ lw_tbl := by decide +kernel
theorem sl_in : (Cond.laysStatic Bundle.tN "UNASSIGNED_STACK" Bundle.steD ∈ lw_tbl ∧ Cond.laysStatic Bundle.tN "SUPPRESSED_SENTINEL" Bundle.listD ∈ lw_tbl ∧ Cond.laysStatic "java/lang/String" "COMPACT_STRINGS" "Z" ∈ lw_tbl ∧ Cond.laysStatic "jdk/internal/util/Preconditions" "SIOOBE_FORMATTER" "Ljava/util/function/BiFunction;" ∈ lw_tbl) ∧ Cond.initialized Bundle.tN ∈ lw_tbl ∧ Cond.initialized "java/lang/String" ∈ lw_tbl ∧ Cond.initialized "jdk/internal/util/Preconditions" ∈ lw_tbl := by decide +kernel
theorem sv_in : Cond.isRef (.static Bundle.tN "UNASSIGNED_STACK" Bundle.steD) ∈ gvC ∧ Cond.isRef (.static Bundle.tN "SUPPRESSED_SENTINEL" Bundle.listD) ∈ gvC ∧ Cond.eq (.static "java/lang/String" "COMPACT_STRINGS" "Z") (.int 1) ∈ gvC ∧ Cond.isRef (.static "jdk/internal/util/Preconditions" "SIOOBE_FORMATTER" "Ljava/util/function/BiFunction;") ∈ gvC := by decide +kernel
theorem OF_fn {o n d : String} {v w : Value} {t : Nat} {A : Nat → Prop} {U : State} {H : Heap} (h : va_OF o n d v t A U H) (h' : va_OF o n d w t A U H) : v = w := by
  obtain ⟨cf, kf, fi, f, cell, a1, -, a2, -, a3, -⟩ := h
  obtain ⟨cf', kf', fi', f', cell', b1, -, b2, -, b3, -⟩ := h'
  rw [a1] at b1
  cases b1
  rw [a2] at b2
  cases b2
  exact Option.some.inj (a3.symm.trans b3)
theorem vk_S_cg {N : Nat} {len : List Nat} {byt : List (List Int32)} {adK adK' adV : Nat → Nat} {A : Nat → Prop} {U : State} {H : Heap} (h : vk_S N len byt adK adV A U H) (e : ∀ i, i < N → adK' i = adK i) : vk_S N len byt adK' adV A U H :=
  ⟨fun i hi => by rw [e i hi]; exact h.1 i hi, fun i j hi hj g => h.2 i j hi hj (by rw [← e i hi, ← e j hj]; exact g)⟩
theorem getD_at {l : List Int32} {n : Nat} (h : n < l.length) : l.getD n 0 = l[n] := by
  rw [List.getD_eq_getElem?_getD, List.getElem?_eq_getElem h]
  rfl
section T
variable {args : Array Value} {s : State} {A : Nat → Prop}
theorem st_strings (hs : ∀ w ∈ gvC, w.before args s = true) (hA : ∀ a : Nat, a < s.heap.size → ¬ A a) : ∃ adK adV : Nat → Nat, vk_S 35 (stB.map List.length) stB adK adV A s s.heap ∧ ∀ i, i < 35 → (swK (stL.getD i ("", 0, ""))).eval args s none [] s = some (.ref (adK i)) := by
  have h0 : ∀ i : Nat, ∃ q : Nat × Nat, i < 35 → (swK (stL.getD i ("", 0, ""))).eval args s none [] s = some (.ref q.1) ∧ va_O "java/lang/String" q.1 A s s.heap ∧ va_OF "java/lang/String" "coder" "B" (.int 0) q.1 A s s.heap ∧ va_OF "java/lang/String" "value" "[B" (.ref q.2) q.1 A s s.heap ∧ va_T .byte q.2 ((stB.map List.length).getD i 0) (fun j => .int ((stB.getD i []).getD j 0)) A s s.heap := by
    intro i
    by_cases hi : i < 35
    · have hm := stL_in i hi
      have e1 := stB_at i hi
      have e3 := stB_len i hi
      have e2 : (stB.map List.length).getD i 0 = (stB.getD i []).length := tx_len
      rw [e2]
      rw [e1] at e3 ⊢
      generalize stL.getD i ("", 0, "") = q at hm e3 ⊢
      have w1 := hs _ (sw_in hm List.mem_cons_self)
      have w2 := hs _ (sw_in hm (List.mem_cons_of_mem _ List.mem_cons_self))
      have w3 := hs _ (sw_in hm (List.mem_cons_of_mem _ (List.mem_cons_of_mem _ List.mem_cons_self)))
      have w4 := hs _ (sw_in hm (List.mem_cons_of_mem _ (List.mem_cons_of_mem _ (List.mem_cons_of_mem _ List.mem_cons_self))))
      have w5 : ∀ j : Nat, j < (swB q.2.2).length → (Cond.eq (.elem (swV q) (.int (Int32.ofNat j))) (.int ((swB q.2.2).getD j 0))).before args s = true := fun j hj => hs _ (sw_in hm (List.mem_cons_of_mem _ (List.mem_cons_of_mem _ (List.mem_cons_of_mem _ (List.mem_cons_of_mem _ (List.mem_map.mpr ⟨j, List.mem_range.mpr hj, rfl⟩))))))
      obtain ⟨a, c, cA, kA, q1, q2, q3, q4, q5, q6, -⟩ := Cond.exactly_spec (args := args) (first := s) (o := none) (s := s) (idx := []) (t := swK q) (cls := "java/lang/String") w1
      obtain ⟨t, ht, hT⟩ := va_Tof (f := fun j => .int ((swB q.2.2).getD j 0)) (A := A) (by omega) w3 (va_eqt w4) (fun j hj => va_eqt (w5 j hj)) hA
      exact ⟨(a, t), fun _ => ⟨q1, ⟨cA, q3, q5, by rw [q6]; exact q2, hA a (Array.getElem?_eq_some_iff.mp q3).1⟩, vk_OFof q1 (va_eqt w2) hA, vk_OFof q1 ht hA, hT⟩⟩
    · exact ⟨(0, 0), fun h => absurd h hi⟩
  obtain ⟨ad, had⟩ := Classical.axiomOfChoice h0
  refine ⟨fun i => (ad i).1, fun i => (ad i).2, ⟨fun i hi => (had i hi).2, fun i j hi hj e => ?_⟩, fun i hi => (had i hi).1⟩
  have e : (ad i).1 = (ad j).1 := e
  obtain ⟨-, -, -, f1, t1⟩ := had i hi
  obtain ⟨-, -, -, f2, t2⟩ := had j hj
  rw [e] at f1
  have ev : (ad i).2 = (ad j).2 := by
    have := OF_fn f1 f2
    injection this
  rw [ev] at t1
  obtain ⟨c1, g1, -, -, -, z1, l1, -⟩ := t1
  obtain ⟨c2, g2, -, -, -, z2, l2, -⟩ := t2
  obtain rfl : c1 = c2 := Option.some.inj (g1.symm.trans g2)
  have ei : (stB.map List.length).getD i 0 = (stB.getD i []).length := tx_len
  have ej : (stB.map List.length).getD j 0 = (stB.getD j []).length := tx_len
  rw [ei] at z1 l1
  rw [ej] at z2 l2
  have bi := stB_len i hi
  have bj := stB_len j hj
  have el : (stB.getD i []).length = (stB.getD j []).length := (nI_eq (by omega) (by omega)).mp (z1.symm.trans z2)
  refine stB_ne i hi j hj (List.ext_getElem el fun n h1 h2 => ?_)
  have q3 := Option.some.inj ((l1 n h1).symm.trans (l2 n h2))
  have q4 : (stB.getD i []).getD n 0 = (stB.getD j []).getD n 0 := Value.int.inj q3
  exact (getD_at h1).symm.trans (q4.trans (getD_at h2))
theorem arr_of {ty : FieldType} (hy : ∀ C, ty ≠ .object C) (h : (Cond.arrayClass ty).before args s = true) : ∃ cA : ClassId, ArrOfT s cA ty ∧ va_RA s cA ty := by
  obtain ⟨c, kc, comp, h1, h2, h3⟩ := Cond.arrayClass_spec h
  refine ⟨c, fun n z => ⟨(fun k h => by cases h), kc, h2, comp, h3⟩, ?_⟩
  cases ty with
  | object C => exact absurd rfl (hy C)
  | _ => exact h1
theorem arr_ofO {C : String} (h : (Cond.arrayOver (.object C)).before args s = true) : ∃ cA : ClassId, ArrOfT s cA (.object C) ∧ va_RA s cA (.object C) := by
  obtain ⟨comp, c, kc, h1, h2, h3, h4, h5⟩ := Cond.arrayOver_spec h
  exact ⟨c, fun n z => ⟨(fun k h => by cases h), kc, h3, comp, h4⟩, kc, comp, h3, h4, h1, h5⟩
def gAd (adK adV : Nat → Nat) (b t i : Nat) : Nat := if i < 35 then adK i else if i = 1000 then b else if i = 1001 then t else adV (i - 2000)
def gCl (c0 c1 c2 c3 c4 c5 : ClassId) (i : Nat) : ClassId := if i = 100 then c0 else if i = 101 then c1 else if i = 102 then c2 else if i = 103 then c3 else if i = 104 then c4 else c5
theorem start_G {b L : Nat} {xs : Nat → Int32} (hts : ∀ w ∈ lw_tbl, w.before args s = true) (hs : ∀ w ∈ gvC, w.before args s = true) (hX : va_X b L xs s s.heap) (hb : b < s.heap.size) : ∃ G : Gh, G.1 = s.heap.size ∧ G.2.2.2.1 1000 = b ∧ G.2.2.2.2.2.1 = L ∧ GT G ∧ Glb G s s.heap := by
  have hA : ∀ a : Nat, a < s.heap.size → ¬ (fun q => s.heap.size ≤ q) a := fun a h h2 => absurd h2 (Nat.not_le.mpr h)
  have hTW : ∀ w ∈ TW, w.before args s = true := fun w hw => hts w (List.mem_filter.mp hw).1
  have hcl : ∀ c : Nat, ∃ d : ClassId × (Nat → Nat), ∀ q : vw_C, mcls[c]? = some q → u_Kn s q.1 q.2.1 q.2.2 d.1 d.2 := by
    intro c
    cases e : mcls[c]? with
    | none => exact ⟨(0, fun _ => 0), fun q h => by cases h⟩
    | some q =>
      obtain ⟨cC, iS, h⟩ := u_known hTW (mcls_at e) (hts _ (mcls_in q (List.mem_of_getElem? e)))
      exact ⟨(cC, iS), fun q' h' => by cases h'; exact h⟩
  obtain ⟨D, hD⟩ := Classical.axiomOfChoice hcl
  obtain ⟨c0, p0⟩ := arr_of (ty := .int) (fun C h => by cases h) (hTW _ AR100)
  obtain ⟨c1, p1⟩ := arr_of (ty := .long) (fun C h => by cases h) (hTW _ AR101)
  obtain ⟨c2, p2⟩ := arr_of (ty := .byte) (fun C h => by cases h) (hTW _ AR102)
  obtain ⟨c3, p3⟩ := arr_of (ty := .boolean) (fun C h => by cases h) (hTW _ AR103)
  obtain ⟨c4, p4⟩ := arr_ofO (hts _ ao_in.1)
  obtain ⟨c5, p5⟩ := arr_ofO (hts _ ao_in.2)
  obtain ⟨adK, adV, hS, hE⟩ := st_strings hs hA
  obtain ⟨⟨l1, l2, l3, l4⟩, n1, n2, n3⟩ := sl_in
  obtain ⟨v1, v2, v3, v4⟩ := sv_in
  obtain ⟨t, ht⟩ : ∃ t : Nat, va_Z "jdk/internal/util/Preconditions" "SIOOBE_FORMATTER" "Ljava/util/function/BiFunction;" .null (fun q => s.heap.size ≤ q) s s.heap ∨ va_Z "jdk/internal/util/Preconditions" "SIOOBE_FORMATTER" "Ljava/util/function/BiFunction;" (.ref t) (fun q => s.heap.size ≤ q) s s.heap := by
    rcases va_Zqof (hts _ l4) (hts _ n3) (hs _ v4) hA with h | ⟨t, h⟩
    · exact ⟨0, Or.inl h⟩
    · exact ⟨t, Or.inr h⟩
  have eK : ∀ i, i < 35 → gAd adK adV b t i = adK i := fun i hi => if_pos hi
  have eb : gAd adK adV b t 1000 = b := rfl
  have et : gAd adK adV b t 1001 = t := rfl
  refine ⟨(s.heap.size, (fun c => (D c).1, fun c => (D c).2), gCl c0 c1 c2 c3 c4 c5, gAd adK adV b t, adV, L, xs), rfl, eb, rfl, fun i hi => ?_, ⟨fun c q hq => hD c q hq, fun kk q hq => ?_⟩, fun q hq => va_Nw.of rfl (hts _ (nlL_in q hq)), ⟨va_AO.of (hts _ ao_in.1), va_AO.of (hts _ ao_in.2)⟩, ⟨fun E hE => va_Nw.of rfl (hts _ (exL_in E hE)), fun q hq => va_Nw.of rfl (hts _ (dcL_in q hq))⟩, fun E hE F hF hne => va_Nc.of (hs _ (exN_in E hE F hF hne)), fun i hi => ?_, vx_Zqof (hts _ l1) (hts _ n1) (hs _ v1) hA, vx_Zqof (hts _ l2) (hts _ n1) (hs _ v2) hA, vk_S_cg hS eK, ⟨va_Zof (hts _ l3) (hts _ n2) (va_eqt (hs _ v3)) hA, ?_⟩, ?_, ?_⟩
  · show gAd adK adV b t (2000 + i) = adV i
    unfold gAd
    rw [if_neg (by omega), if_neg (by omega), if_neg (by omega), show 2000 + i - 2000 = i by omega]
  · match kk, hq with
    | 0, hq => cases hq; exact p0
    | 1, hq => cases hq; exact p1
    | 2, hq => cases hq; exact p2
    | 3, hq => cases hq; exact p3
    | 4, hq => cases hq; exact p4
    | 5, hq => cases hq; exact p5
    | n + 6, hq => cases hq
  · show vk_R _ _ _ (gAd adK adV b t i) s
    rw [eK i hi]
    exact vk_R.of (hts _ (stL_ref _ (stL_in i hi))) (hE i hi)
  · show _ ∨ va_Z _ _ _ (.ref (gAd adK adV b t 1001)) _ s s.heap
    rw [et]
    exact ht
  · show va_X (gAd adK adV b t 1000) L xs s s.heap
    rw [eb]
    exact hX
  · show ¬ s.heap.size ≤ gAd adK adV b t 1000
    rw [eb]
    exact Nat.not_le.mpr hb
end T
