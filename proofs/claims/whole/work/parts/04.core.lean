/-! THE ABSTRACT MACHINE: a typed memory with names for cells (name k lies at address B + k), the judgement WP over it, and a rule an instruction -/
abbrev Mem : Type := (Nat → Nat → Int32) × (Nat → Nat → Int64) × (Nat → Nat → Option Nat) × (Nat → Nat × Nat) × Nat
abbrev Gh : Type := Nat × va_G × (Nat → ClassId) × (Nat → Nat) × (Nat → Nat) × Nat × (Nat → Int32)
abbrev Mt : Type := MethodName × ByteArray × Nat × Option FieldType × List (Nat × Nat × Nat × Nat)
abbrev Res : Type := Option Value ⊕ String
def mcls : List vw_C := [(RX0, TX0, 7), (RX1, TX1, 3), (RX2, TX2, 14), (RX3, TX3, 2), (RX4, TX4, 5), (RX5, TX5, 3), (RX6, TX6, 13), (RX7, TX7, 4), (RX8, TX8, 5), (RX9, TX9, 3), (RX10, TX10, 8), (RX11, TX11, 11), (RX12, TX12, 44)]
def mtyp : List (Nat → FieldType) := [tyX0, tyX1, tyX2, tyX3, tyX4, tyX5, tyX6, tyX7, tyX8, tyX9, tyX10, tyX11, tyX12]
def ftl : List (List Nat) := [[2, 2, 0, 2, 2, 2, 0], [2, 2, 2], [0, 0, 0, 0, 0, 2, 2, 2, 2, 2, 2, 2, 2, 2], [2, 2], [2, 2, 2, 2, 2], [2, 0, 0], [2, 0, 0, 0, 0, 0, 0, 2, 0, 2, 0, 0, 0], [2, 2, 2, 2], [2, 2, 2, 2, 0], [0, 0, 2], [2, 2, 2, 2, 2, 2, 2, 2], [2, 2, 2, 2, 2, 2, 0, 2, 2, 2, 2], [2, 2, 2, 2, 0, 2, 0, 0, 0, 0, 0, 0, 0, 0, 0, 0, 0, 0, 0, 2, 2, 2, 2, 2, 2, 2, 0, 2, 2, 2, 2, 2, 2, 2, 2, 2, 2, 0, 0, 2, 2, 2, 2, 2]]
def aty : Nat → FieldType
  | 100 => .int
  | 101 => .long
  | 102 => .byte
  | 103 => .boolean
  | 104 => .object RX9
  | _ => .object RX1
def rv (B : Nat) (o : Option Nat) : Value := match o with
  | none => .null
  | some a => .ref (B + a)
def fvl (B : Nat) (μ : Mem) (t k j : Nat) : Value := match (ftl.getD t []).getD j 9 with
  | 0 => .int (μ.1 k j)
  | 1 => .long (μ.2.1 k j)
  | _ => rv B (μ.2.2.1 k j)
def fsl (B : Nat) (μ : Mem) (t k : Nat) : List Value := (List.range (ftl.getD t []).length).map (fvl B μ t k)
def acn (B : Nat) (μ : Mem) (t k : Nat) : (Nat → Int32) ⊕ (Nat → Int64) ⊕ (Nat → UInt32) ⊕ (Nat → UInt64) ⊕ (Nat → Option Nat) := match t with
  | 101 => .inr (.inl (μ.2.1 k))
  | 104 => .inr (.inr (.inr (.inr (fun i => (μ.2.2.1 k i).map (fun a => B + a)))))
  | 105 => .inr (.inr (.inr (.inr (fun i => (μ.2.2.1 k i).map (fun a => B + a)))))
  | _ => .inl (μ.1 k)
def clO (G : Gh) (μ : Mem) (k : Nat) : va_E := if (μ.2.2.2.1 k).1 < 50 then .inr ((μ.2.2.2.1 k).1, fsl G.1 μ (μ.2.2.2.1 k).1 k) else .inl (G.2.2.1 (μ.2.2.2.1 k).1, (μ.2.2.2.1 k).2, acn G.1 μ (μ.2.2.2.1 k).1 k)
def RelM (G : Gh) (μ : Mem) (H : Heap) : Prop := H.size = G.1 + μ.2.2.2.2 ∧ ∀ k, k < μ.2.2.2.2 → (μ.2.2.2.1 k).1 < 200 → va_at G.2.1 mcls (G.1 + k, clO G μ k) H
def cv (G : Gh) : Value → Value
  | .ref k => .ref (G.1 + k)
  | .retAddr i => .ref (G.2.2.2.1 i)
  | v => v
def lpl (G : Gh) : Nat → List (Option Value) → List (Nat × Value)
  | _, [] => []
  | i, none :: t => lpl G (i + 1) t
  | i, some v :: t => (i, cv G v) :: lpl G (i + 1) t
def tysG (G : Gh) : List (ClassId × FieldType) := [(G.2.2.1 100, aty 100), (G.2.2.1 101, aty 101), (G.2.2.1 102, aty 102), (G.2.2.1 103, aty 103), (G.2.2.1 104, aty 104), (G.2.2.1 105, aty 105)]
def frA (G : Gh) : Nat → Prop := fun q => G.1 ≤ q
def TW : List Cond := lw_tbl.filter goodWord
def nlL : List (String × Nat × MethodName × String) := [(RX11, 11, yX6_init, RX11), (RX6, 36, yX2_init, RX11), (RX11, 18, yX7_init, RX11), (RX7, 11, yX2_init, RX11), (RX7, 24, yX3_init, RX11), (RX11, 25, yX5_init, RX11), (RX11, 66, yX9_init, RX11), (RX1, 17, yX5_init, RX11)]
def dcL : List MethodName := [⟨"java/lang/RuntimeException", "<init>", "(Ljava/lang/String;)V"⟩, ⟨"java/lang/Exception", "<init>", "(Ljava/lang/String;)V"⟩, ⟨"java/lang/Throwable", "<init>", "(Ljava/lang/String;)V"⟩]
def exL : List String := ["java/util/NoSuchElementException", "java/lang/IllegalArgumentException", "java/lang/IllegalStateException", "java/lang/IndexOutOfBoundsException"]
/-- the texts: class, place in its pool, text; a text's number is its place here -/
def stL : List (String × Nat × String) := [(RX11, 406, "a number is out of its bounds"), (RX6, 189, "ward act degree prevails whole begun hour beside from to fine or and not base fire ice day kind span many "), (RX11, 395, "no such ward"), (RX11, 398, "no such act"), (RX11, 180, "the act is repealed already"), (RX11, 402, "no such tray"), (RX11, 404, "the tray is missing"), (RX11, 408, "a number is below 0"), (RX11, 296, "both wards are one"), (RX11, 414, "a number is no errand"), (RX11, 420, "a number is nothing that was seen"), (RX11, 365, "the tray has no such place"), (RX11, 400, "no such image"), (RX11, 384, "no such image was made"), (RX12, 220, "ward"), (RX12, 248, "beside"), (RX12, 222, "act"), (RX12, 253, "from"), (RX12, 259, "to"), (RX12, 226, "fine"), (RX12, 267, "whole"), (RX12, 269, "begun"), (RX12, 216, "hour"), (RX12, 271, "degree"), (RX12, 210, "base"), (RX12, 212, "fire"), (RX12, 214, "ice"), (RX12, 218, "day"), (RX12, 224, "kind"), (RX12, 228, "span"), (RX12, 230, "many"), (RX12, 277, "prevails"), (RX12, 190, "not"), (RX12, 188, "and"), (RX12, 180, "or")]
def stB : List (List Int32) := stL.map (fun q => q.2.2.toList.map (fun ch => Int32.ofNat ch.toNat))
def Glb (G : Gh) (U : State) (H : Heap) : Prop :=
  va_K G.2.1 mcls (tysG G) U ∧ (∀ q ∈ nlL, va_Nw (.methodLinkNest q.1 q.2.1 q.2.2.1 q.2.2.2) U) ∧ (va_AO RX9 U ∧ va_AO RX1 U) ∧ ((∀ E ∈ exL, va_Nw (.castable E E) U) ∧ ∀ x ∈ dcL, va_Nw (.declares x) U) ∧ (∀ E ∈ exL, ∀ F ∈ exL, E ≠ F → va_Nc E F U) ∧
  (∀ i, i < 35 → vk_R (stL.getD i ("", 0, "")).1 (stL.getD i ("", 0, "")).2.1 (stL.getD i ("", 0, "")).2.2 (G.2.2.2.1 i) U) ∧
  vx_Zq Bundle.tN "UNASSIGNED_STACK" Bundle.steD (frA G) U H ∧ vx_Zq Bundle.tN "SUPPRESSED_SENTINEL" Bundle.listD (frA G) U H ∧
  vk_S 35 (stB.map List.length) stB G.2.2.2.1 G.2.2.2.2.1 (frA G) U H ∧ (va_Z "java/lang/String" "COMPACT_STRINGS" "Z" (.int 1) (frA G) U H ∧ (va_Z "jdk/internal/util/Preconditions" "SIOOBE_FORMATTER" "Ljava/util/function/BiFunction;" .null (frA G) U H ∨ va_Z "jdk/internal/util/Preconditions" "SIOOBE_FORMATTER" "Ljava/util/function/BiFunction;" (.ref (G.2.2.2.1 1001)) (frA G) U H)) ∧ (va_X (G.2.2.2.1 1000) G.2.2.2.2.2.1 G.2.2.2.2.2.2 U H ∧ ¬ frA G (G.2.2.2.1 1000))
theorem Glb.to {G : Gh} {s U : State} {H0 H : Heap} (hW : s.WarmedH U.vm) (hz : H0.size ≤ H.size) (hk : ∀ q : Nat, q < H0.size → ¬ frA G q → H[q]? = H0[q]?) (h : Glb G s H0) : Glb G U H := by
  obtain ⟨h1, h2, h3, h4, h5, h6, h7, h8, h9, h10, h11⟩ := h
  refine ⟨h1.moved hW.alike, fun q hq => va_Nw.warmM hW (h2 q hq), ⟨h3.1.moved hW.alike, h3.2.moved hW.alike⟩, ⟨fun E hE => va_Nw.warmC hW (h4.1 E hE), fun x hx => va_Nw.warmD hW (h4.2 x hx)⟩, fun E hE F hF hne => (h5 E hE F hF hne).moved hW.alike, fun i hi => vk_R.warm hW (h6 i hi), (h7.moved hW.alike).kept hk, (h8.moved hW.alike).kept hk, (vk_S.moved hW.alike h9).kept hk, ⟨(h10.1.moved hW.alike).kept hk, h10.2.imp (fun h => (h.moved hW.alike).kept hk) (fun h => (h.moved hW.alike).kept hk)⟩, ?_, h11.2⟩
  refine (h11.1.moved hW.alike).kept (hk _ ?_ h11.2)
  obtain ⟨scr, hq, -⟩ := h11.1
  exact (Array.getElem?_eq_some_iff.mp hq).1
theorem Glb.calling {G : Gh} {U : State} {g : JFrame} {mk : MethodId} {a : Array Value} (h : Glb G U U.heap) : Glb G (U.calling g mk a) (U.calling g mk a).heap := by
  obtain ⟨h1, h2, h3, h4, h5, h6, h7, h8, h9, h10, h11⟩ := h
  have hal : U.vm.Alike (U.calling g mk a).vm := Vm.Alike.refl U.vm
  refine ⟨h1.moved hal, fun q hq => va_Nw.same rfl rfl (h2 q hq), ⟨h3.1.moved hal, h3.2.moved hal⟩, ⟨fun E hE => va_Nw.same rfl rfl (h4.1 E hE), fun x hx => va_Nw.same rfl rfl (h4.2 x hx)⟩, fun E hE F hF hne => (h5 E hE F hF hne).moved hal, fun i hi => vk_R.same rfl (h6 i hi), h7.moved hal, h8.moved hal, vk_S.moved hal h9, ⟨h10.1.moved hal, h10.2.imp (fun h => h.moved hal) (fun h => h.moved hal)⟩, h11.1.moved hal, h11.2⟩
def Cx (G : Gh) (M : Mt) (p : Program) (s : State) (m : MethodId) (args : Array Value) (meth : Method) (c : Code) : Prop :=
  p.tables.exec = Jvm.exec ∧ c.code = M.2.1 ∧ meth.sig.returnType = M.2.2.2.1 ∧ c.maxLocals = M.2.2.1 ∧ s.vm.findClass M.1.cls = some m.cls ∧ (∀ w ∈ TW, w.before args s = true) ∧ meth.locks = false ∧ meth.name = M.1.name ∧ Glb G s s.heap ∧ G.1 ≤ s.heap.size ∧ c.exceptionTable.toList = tableOf M.2.2.2.2
def room (k mc ms : Nat) : Room := { frames := 12 + k, cells := mc, slots := ms, locals := 100 + 40 * k }
def QcC (G : Gh) (Q : Res → Mem → Prop) : Array Value → State → Outcome → State → Prop := fun _ st o t => (∃ (r : Option Value) (μ : Mem), Q (.inl r) μ ∧ o = .returned (r.map (cv G)) ∧ RelM G μ t.heap) ∧ va_F (frA G) st t
def XcC (G : Gh) (Q : Res → Mem → Prop) : String → State → State → Prop := fun E st t => (∃ μ : Mem, Q (.inr E) μ ∧ RelM G μ t.heap) ∧ va_F (frA G) st t
def prC (G : Gh) (μ : Mem) (av : List Value) : Array Value → State → Prop := fun v U => v = (av.map (cv G)).toArray ∧ RelM G μ U.heap ∧ Glb G U U.heap
def wsM (M : Mt) : List Cond := (match M.2.2.2.2 with | [] => Cond.code M.1 M.2.1 M.2.2.1 M.2.2.2.1 | hh => Cond.codeWith M.1 M.2.1 M.2.2.1 M.2.2.2.1 hh) :: TW
/-- method M, called with av in the memory μ, at depth k, with mc cells and ms slots to make: it ends, with Q -/
def Cal (l : Launch) (G : Gh) (k mc ms : Nat) (M : Mt) (av : List Value) (μ : Mem) (Q : Res → Mem → Prop) : Prop := vx_Met l M.1 (wsM M) (room k mc ms) (prC G μ av) (QcC G Q) (XcC G Q) mc ms (frA G)
/-- M's frame at pc: locals L, stack st, memory μ, cb cells and sb slots left: it ends, with Q -/
def WP (l : Launch) (G : Gh) (k mc ms : Nat) (M : Mt) (Q : Res → Mem → Prop) (pc : Nat) (L : List (Option Value)) (st : List Value) (μ : Mem) (cb sb : Nat) : Prop :=
  ∀ (p : Program) (e : Env) (s : State) (m : MethodId) (args : Array Value) (below : List Frame) (meth : Method) (c : Code) (H : Heap) (locs : List Loc) (cells slots : Nat) (ls : Array Slot),
    Cx G M p s m args meth c → RelM G μ H → va_S (frA G) s.heap H locs → lv_has ls M.2.2.1 (lpl G 0 L) → cells + cb ≤ mc → slots + sb ≤ ms →
    W p l e (room k mc ms) s m args below meth c H locs cells slots (vx_MQ below (QcC G Q) (XcC G Q) args s mc ms (frA G)) (F0 m pc ls (st.map (cv G)))
theorem lpl_mem {G : Gh} : ∀ (L : List (Option Value)) (i j : Nat) (w : Value), (j, w) ∈ lpl G i L ↔ ∃ (n : Nat) (v : Value), j = i + n ∧ L[n]? = some (some v) ∧ w = cv G v
  | [], i, j, w => by simp [lpl]
  | none :: t, i, j, w => by
    rw [lpl, lpl_mem t (i + 1) j w]
    constructor
    · rintro ⟨n, v, h1, h2, h3⟩
      exact ⟨n + 1, v, by omega, by simpa using h2, h3⟩
    · rintro ⟨n, v, h1, h2, h3⟩
      cases n with
      | zero => simp at h2
      | succ n => exact ⟨n, v, by omega, by simpa using h2, h3⟩
  | some x :: t, i, j, w => by
    rw [lpl, List.mem_cons, lpl_mem t (i + 1) j w]
    constructor
    · rintro (h | ⟨n, v, h1, h2, h3⟩)
      · obtain ⟨rfl, rfl⟩ := Prod.mk.inj h
        exact ⟨0, x, by omega, by simp, rfl⟩
      · exact ⟨n + 1, v, by omega, by simpa using h2, h3⟩
    · rintro ⟨n, v, h1, h2, h3⟩
      cases n with
      | zero =>
        left
        simp at h2
        subst h2
        rw [h3, show j = i by omega]
      | succ n => exact Or.inr ⟨n, v, by omega, by simpa using h2, h3⟩
theorem cv_cat (G : Gh) (v : Value) : (cv G v).category = v.category := by cases v <;> rfl
theorem lsAt {G : Gh} {ls : Array Slot} {n i : Nat} {L : List (Option Value)} {v : Value} (h : lv_has ls n (lpl G 0 L)) (hL : L[i]? = some (some v)) : ls[i]? = some (.val (cv G v)) := h.2.2 (i, cv G v) ((lpl_mem L 0 i _).mpr ⟨i, v, by omega, hL, rfl⟩)
/-- storing v at i: what stays of the locals -/
def stL1 : List (Option Value) → Nat → Value → List (Option Value)
  | [], _, _ => []
  | _ :: t, 0, v => some v :: t
  | a :: t, 1, v => (match a with | some (.long _) => none | some (.double _) => none | a => a) :: stL1 t 0 v
  | a :: t, i + 2, v => a :: stL1 t (i + 1) v
def stL2 : List (Option Value) → Nat → Value → List (Option Value)
  | [], _, _ => []
  | _ :: t, 0, v => some v :: (match t with | [] => [] | _ :: t => none :: t)
  | a :: t, 1, v => (match a with | some (.long _) => none | some (.double _) => none | a => a) :: stL2 t 0 v
  | a :: t, i + 2, v => a :: stL2 t (i + 1) v
theorem stL1_at (v : Value) : ∀ (L : List (Option Value)) (i n : Nat) (w : Value), (stL1 L i v)[n]? = some (some w) → (n = i ∧ w = v) ∨ (n ≠ i ∧ L[n]? = some (some w) ∧ ¬ (n + 1 = i ∧ w.category = 2))
  | [], i, n, w, h => by simp [stL1] at h
  | a :: t, 0, n, w, h => by
    cases n with
    | zero => simp [stL1] at h; exact Or.inl ⟨rfl, h.symm⟩
    | succ n => simp [stL1] at h; exact Or.inr ⟨by omega, by simpa using h, by omega⟩
  | a :: t, 1, n, w, h => by
    cases n with
    | zero =>
      refine Or.inr ⟨by omega, ?_, ?_⟩
      · rcases a with _ | a
        · simp [stL1] at h
        · cases a <;> simp [stL1] at h <;> simp [h]
      · rintro ⟨-, h2⟩
        rcases a with _ | a
        · simp [stL1] at h
        · cases a <;> simp [stL1] at h <;> subst h <;> simp [Value.category] at h2
    | succ n =>
      have h' : (stL1 t 0 v)[n]? = some (some w) := by simpa [stL1] using h
      rcases stL1_at v t 0 n w h' with ⟨h1, h2⟩ | ⟨h1, h2, h3⟩
      · exact Or.inl ⟨by omega, h2⟩
      · exact Or.inr ⟨by omega, by simpa using h2, by omega⟩
  | a :: t, i + 2, n, w, h => by
    cases n with
    | zero => simp [stL1] at h; exact Or.inr ⟨by omega, by simp [h], by omega⟩
    | succ n =>
      have h' : (stL1 t (i + 1) v)[n]? = some (some w) := by simpa [stL1] using h
      rcases stL1_at v t (i + 1) n w h' with ⟨h1, h2⟩ | ⟨h1, h2, h3⟩
      · exact Or.inl ⟨by omega, h2⟩
      · exact Or.inr ⟨by omega, by simpa using h2, by omega⟩
theorem stL2_at (v : Value) : ∀ (L : List (Option Value)) (i n : Nat) (w : Value), (stL2 L i v)[n]? = some (some w) → (n = i ∧ w = v) ∨ (n ≠ i ∧ n ≠ i + 1 ∧ L[n]? = some (some w) ∧ ¬ (n + 1 = i ∧ w.category = 2))
  | [], i, n, w, h => by simp [stL2] at h
  | a :: t, 0, n, w, h => by
    cases n with
    | zero => simp [stL2] at h; exact Or.inl ⟨rfl, h.symm⟩
    | succ n =>
      cases t with
      | nil => simp [stL2] at h
      | cons b t =>
        cases n with
        | zero => simp [stL2] at h
        | succ n => simp [stL2] at h; exact Or.inr ⟨by omega, by omega, by simpa using h, by omega⟩
  | a :: t, 1, n, w, h => by
    cases n with
    | zero =>
      refine Or.inr ⟨by omega, by omega, ?_, ?_⟩
      · rcases a with _ | a
        · simp [stL2] at h
        · cases a <;> simp [stL2] at h <;> simp [h]
      · rintro ⟨-, h2⟩
        rcases a with _ | a
        · simp [stL2] at h
        · cases a <;> simp [stL2] at h <;> subst h <;> simp [Value.category] at h2
    | succ n =>
      have h' : (stL2 t 0 v)[n]? = some (some w) := by simpa [stL2] using h
      rcases stL2_at v t 0 n w h' with ⟨h1, h2⟩ | ⟨h1, h1', h2, h3⟩
      · exact Or.inl ⟨by omega, h2⟩
      · exact Or.inr ⟨by omega, by omega, by simpa using h2, by omega⟩
  | a :: t, i + 2, n, w, h => by
    cases n with
    | zero => simp [stL2] at h; exact Or.inr ⟨by omega, by omega, by simp [h], by omega⟩
    | succ n =>
      have h' : (stL2 t (i + 1) v)[n]? = some (some w) := by simpa [stL2] using h
      rcases stL2_at v t (i + 1) n w h' with ⟨h1, h2⟩ | ⟨h1, h1', h2, h3⟩
      · exact Or.inl ⟨by omega, h2⟩
      · exact Or.inr ⟨by omega, by omega, by simpa using h2, by omega⟩
theorem lsSt1 {G : Gh} {ls : Array Slot} {n i : Nat} {L L' : List (Option Value)} {v : Value} (hL : stL1 L i v = L') (h : lv_has ls n ((i, cv G v) :: (lpl G 0 L).filter (fun q => !(q.1 == i) && !(q.1 + 1 == i && q.2.category == 2)))) : lv_has ls n (lpl G 0 L') := by
  refine ⟨h.1, h.2.1, fun q hq => ?_⟩
  obtain ⟨j, w⟩ := q
  obtain ⟨m, x, h1, h2, h3⟩ := (lpl_mem L' 0 j w).mp hq
  have h1 : j = m := by omega
  subst h1
  rw [← hL] at h2
  rcases stL1_at v L i j x h2 with ⟨h4, h5⟩ | ⟨h4, h5, h6⟩
  · subst h4; subst h5; subst h3
    exact h.2.2 (j, cv G x) List.mem_cons_self
  · refine h.2.2 (j, w) (List.mem_cons_of_mem _ (List.mem_filter.mpr ⟨(lpl_mem L 0 j w).mpr ⟨j, x, by omega, h5, h3⟩, ?_⟩))
    subst h3
    simp only [Bool.and_eq_true, Bool.not_eq_true', Bool.and_eq_false_iff, beq_eq_false_iff_ne, ne_eq, cv_cat]
    refine ⟨h4, ?_⟩
    by_cases h7 : j + 1 = i
    · exact Or.inr fun h8 => h6 ⟨h7, h8⟩
    · exact Or.inl h7
theorem lsSt2 {G : Gh} {ls : Array Slot} {n i : Nat} {L L' : List (Option Value)} {v : Value} (hL : stL2 L i v = L') (h : lv_has ls n ((i, cv G v) :: (lpl G 0 L).filter (fun q => !(q.1 == i) && (!(q.1 == i + 1) && !(q.1 + 1 == i && q.2.category == 2))))) : lv_has ls n (lpl G 0 L') := by
  refine ⟨h.1, h.2.1, fun q hq => ?_⟩
  obtain ⟨j, w⟩ := q
  obtain ⟨m, x, h1, h2, h3⟩ := (lpl_mem L' 0 j w).mp hq
  have h1 : j = m := by omega
  subst h1
  rw [← hL] at h2
  rcases stL2_at v L i j x h2 with ⟨h4, h5⟩ | ⟨h4, h4', h5, h6⟩
  · subst h4; subst h5; subst h3
    exact h.2.2 (j, cv G x) List.mem_cons_self
  · refine h.2.2 (j, w) (List.mem_cons_of_mem _ (List.mem_filter.mpr ⟨(lpl_mem L 0 j w).mpr ⟨j, x, by omega, h5, h3⟩, ?_⟩))
    subst h3
    simp only [Bool.and_eq_true, Bool.not_eq_true', Bool.and_eq_false_iff, beq_eq_false_iff_ne, ne_eq, cv_cat]
    refine ⟨h4, h4', ?_⟩
    by_cases h7 : j + 1 = i
    · exact Or.inr fun h8 => h6 ⟨h7, h8⟩
    · exact Or.inl h7
/-- fewer locals known -/
def sbL : List (Option Value) → List (Option Value) → Prop
  | _, [] => True
  | [], _ => False
  | a :: s, b :: t => (b = none ∨ b = a) ∧ sbL s t
theorem sbL_at : ∀ (L L' : List (Option Value)) (n : Nat) (w : Value), sbL L L' → L'[n]? = some (some w) → L[n]? = some (some w)
  | L, [], n, w, h, h2 => by simp at h2
  | [], b :: t, n, w, h, h2 => by simp [sbL] at h
  | a :: s, b :: t, n, w, h, h2 => by
    cases n with
    | zero =>
      rcases h.1 with h3 | h3
      · simp [h3] at h2
      · simpa [h3] using h2
    | succ n =>
      have := sbL_at s t n w h.2 (by simpa using h2)
      simpa using this
theorem lsSub {G : Gh} {ls : Array Slot} {n : Nat} {L L' : List (Option Value)} (hs : sbL L L') (h : lv_has ls n (lpl G 0 L)) : lv_has ls n (lpl G 0 L') := by
  refine ⟨h.1, h.2.1, fun q hq => ?_⟩
  obtain ⟨j, w⟩ := q
  obtain ⟨m, x, h1, h2, h3⟩ := (lpl_mem L' 0 j w).mp hq
  exact h.2.2 (j, w) ((lpl_mem L 0 j w).mpr ⟨m, x, h1, sbL_at L L' m x hs h2, h3⟩)
section Rules
variable {l : Launch} {G : Gh} {k mc ms : Nat} {M : Mt} {Q : Res → Mem → Prop} {pc q : Nat} {L L' : List (Option Value)} {st : List Value} {μ : Mem} {cb sb : Nat}
theorem WP.sub (hs : sbL L L') (h : WP l G k mc ms M Q pc L' st μ cb sb) : WP l G k mc ms M Q pc L st μ cb sb :=
  fun p e s m args below meth c H locs cells slots ls C hR hS hl h1 h2 => h p e s m args below meth c H locs cells slots ls C hR hS (lsSub hs hl) h1 h2
theorem WP.less {cb' sb' : Nat} (hc : cb' ≤ cb) (hs : sb' ≤ sb) (h : WP l G k mc ms M Q pc L st μ cb' sb') : WP l G k mc ms M Q pc L st μ cb sb :=
  fun p e s m args below meth c H locs cells slots ls C hR hS hl h1 h2 => h p e s m args below meth c H locs cells slots ls C hR hS hl (Nat.le_trans (Nat.add_le_add_left hc _) h1) (Nat.le_trans (Nat.add_le_add_left hs _) h2)
theorem wp_iconst {n : Int} {v : Int32} (hd : decode M.2.1 pc = .ok (.iconst n, 1)) (hq : pc + 1 = q) (hv : Int32.ofInt n = v) (h : WP l G k mc ms M Q q L (.int v :: st) μ cb sb) : WP l G k mc ms M Q pc L (st) μ cb sb := by
  subst hq
  intro p e s m args below meth c H locs cells slots ls C hR hS hl h1 h2
  exact lv_iconst C.1 C.2.1 hd hv (h p e s m args below meth c H locs cells slots ls C hR hS hl h1 h2)
theorem wp_bipush {n : Int} {v : Int32} (hd : decode M.2.1 pc = .ok (.bipush n, 2)) (hq : pc + 2 = q) (hv : (Int8.ofInt n).toInt32 = v) (h : WP l G k mc ms M Q q L (.int v :: st) μ cb sb) : WP l G k mc ms M Q pc L (st) μ cb sb := by
  subst hq
  intro p e s m args below meth c H locs cells slots ls C hR hS hl h1 h2
  exact lv_bipush C.1 C.2.1 hd hv (h p e s m args below meth c H locs cells slots ls C hR hS hl h1 h2)
theorem wp_sipush {n : Int} {v : Int32} (hd : decode M.2.1 pc = .ok (.sipush n, 3)) (hq : pc + 3 = q) (hv : (Int16.ofInt n).toInt32 = v) (h : WP l G k mc ms M Q q L (.int v :: st) μ cb sb) : WP l G k mc ms M Q pc L (st) μ cb sb := by
  subst hq
  intro p e s m args below meth c H locs cells slots ls C hR hS hl h1 h2
  exact lv_sipush C.1 C.2.1 hd hv (h p e s m args below meth c H locs cells slots ls C hR hS hl h1 h2)
theorem wp_lconst {n : Fin 2} {v : Int64} (hd : decode M.2.1 pc = .ok (.lconst n, 1)) (hq : pc + 1 = q) (hv : Int64.ofNat (n : Nat) = v) (h : WP l G k mc ms M Q q L (.long v :: st) μ cb sb) : WP l G k mc ms M Q pc L (st) μ cb sb := by
  subst hq
  intro p e s m args below meth c H locs cells slots ls C hR hS hl h1 h2
  exact lv_lconst C.1 C.2.1 hd hv (h p e s m args below meth c H locs cells slots ls C hR hS hl h1 h2)
theorem wp_null (hd : decode M.2.1 pc = .ok (.aconst_null, 1)) (hq : pc + 1 = q) (h : WP l G k mc ms M Q q L (.null :: st) μ cb sb) : WP l G k mc ms M Q pc L (st) μ cb sb := by
  subst hq
  intro p e s m args below meth c H locs cells slots ls C hR hS hl h1 h2
  exact lv_null C.1 C.2.1 hd (h p e s m args below meth c H locs cells slots ls C hR hS hl h1 h2)
theorem wp_iload_n {f : Fin 4} {i : Nat} {x : Int32} (hd : decode M.2.1 pc = .ok (.iload_n f, 1)) (hq : pc + 1 = q) (hi : (f : Nat) = i) (hL : L[i]? = some (some (.int x))) (h : WP l G k mc ms M Q q L (.int x :: st) μ cb sb) : WP l G k mc ms M Q pc L (st) μ cb sb := by
  subst hq
  intro p e s m args below meth c H locs cells slots ls C hR hS hl h1 h2
  exact lv_iload_n C.1 C.2.1 hd hi (lsAt hl hL) (h p e s m args below meth c H locs cells slots ls C hR hS hl h1 h2)
theorem wp_iload {i : Nat} {x : Int32} (hd : decode M.2.1 pc = .ok (.iload i, 2)) (hq : pc + 2 = q) (hL : L[i]? = some (some (.int x))) (h : WP l G k mc ms M Q q L (.int x :: st) μ cb sb) : WP l G k mc ms M Q pc L (st) μ cb sb := by
  subst hq
  intro p e s m args below meth c H locs cells slots ls C hR hS hl h1 h2
  exact lv_iload C.1 C.2.1 hd (lsAt hl hL) (h p e s m args below meth c H locs cells slots ls C hR hS hl h1 h2)
theorem wp_lload_n {f : Fin 4} {i : Nat} {x : Int64} (hd : decode M.2.1 pc = .ok (.lload_n f, 1)) (hq : pc + 1 = q) (hi : (f : Nat) = i) (hL : L[i]? = some (some (.long x))) (h : WP l G k mc ms M Q q L (.long x :: st) μ cb sb) : WP l G k mc ms M Q pc L (st) μ cb sb := by
  subst hq
  intro p e s m args below meth c H locs cells slots ls C hR hS hl h1 h2
  exact lv_lload_n C.1 C.2.1 hd hi (lsAt hl hL) (h p e s m args below meth c H locs cells slots ls C hR hS hl h1 h2)
theorem wp_lload {i : Nat} {x : Int64} (hd : decode M.2.1 pc = .ok (.lload i, 2)) (hq : pc + 2 = q) (hL : L[i]? = some (some (.long x))) (h : WP l G k mc ms M Q q L (.long x :: st) μ cb sb) : WP l G k mc ms M Q pc L (st) μ cb sb := by
  subst hq
  intro p e s m args below meth c H locs cells slots ls C hR hS hl h1 h2
  exact lv_lload C.1 C.2.1 hd (lsAt hl hL) (h p e s m args below meth c H locs cells slots ls C hR hS hl h1 h2)
theorem wp_aload_n {f : Fin 4} {i x : Nat} (hd : decode M.2.1 pc = .ok (.aload_n f, 1)) (hq : pc + 1 = q) (hi : (f : Nat) = i) (hL : L[i]? = some (some (.ref x))) (h : WP l G k mc ms M Q q L (.ref x :: st) μ cb sb) : WP l G k mc ms M Q pc L (st) μ cb sb := by
  subst hq
  intro p e s m args below meth c H locs cells slots ls C hR hS hl h1 h2
  exact lv_aload_n C.1 C.2.1 hd hi (lsAt hl hL) (h p e s m args below meth c H locs cells slots ls C hR hS hl h1 h2)
theorem wp_aload {i x : Nat} (hd : decode M.2.1 pc = .ok (.aload i, 2)) (hq : pc + 2 = q) (hL : L[i]? = some (some (.ref x))) (h : WP l G k mc ms M Q q L (.ref x :: st) μ cb sb) : WP l G k mc ms M Q pc L (st) μ cb sb := by
  subst hq
  intro p e s m args below meth c H locs cells slots ls C hR hS hl h1 h2
  exact lv_aload C.1 C.2.1 hd (lsAt hl hL) (h p e s m args below meth c H locs cells slots ls C hR hS hl h1 h2)
theorem wp_sload_n {f : Fin 4} {i x : Nat} (hd : decode M.2.1 pc = .ok (.aload_n f, 1)) (hq : pc + 1 = q) (hi : (f : Nat) = i) (hL : L[i]? = some (some (.retAddr x))) (h : WP l G k mc ms M Q q L (.retAddr x :: st) μ cb sb) : WP l G k mc ms M Q pc L (st) μ cb sb := by
  subst hq
  intro p e s m args below meth c H locs cells slots ls C hR hS hl h1 h2
  exact lv_aload_n C.1 C.2.1 hd hi (lsAt hl hL) (h p e s m args below meth c H locs cells slots ls C hR hS hl h1 h2)
theorem wp_istore_n {f : Fin 4} {i : Nat} {x : Int32} (hd : decode M.2.1 pc = .ok (.istore_n f, 1)) (hq : pc + 1 = q) (hi : (f : Nat) = i) (hn : i < M.2.2.1) (hL : stL1 L i (.int x) = L') (h : WP l G k mc ms M Q q L' st μ cb sb) : WP l G k mc ms M Q pc L (.int x :: st) μ cb sb := by
  subst hq
  intro p e s m args below meth c H locs cells slots ls C hR hS hl h1 h2
  exact lv_istore_n C.1 C.2.1 hd hi hl hn rfl (fun ls2 hl2 => h p e s m args below meth c H locs cells slots ls2 C hR hS (lsSt1 hL hl2) h1 h2)
theorem wp_istore {i : Nat} {x : Int32} (hd : decode M.2.1 pc = .ok (.istore i, 2)) (hq : pc + 2 = q) (hn : i < M.2.2.1) (hL : stL1 L i (.int x) = L') (h : WP l G k mc ms M Q q L' st μ cb sb) : WP l G k mc ms M Q pc L (.int x :: st) μ cb sb := by
  subst hq
  intro p e s m args below meth c H locs cells slots ls C hR hS hl h1 h2
  exact lv_istore C.1 C.2.1 hd hl hn rfl (fun ls2 hl2 => h p e s m args below meth c H locs cells slots ls2 C hR hS (lsSt1 hL hl2) h1 h2)
theorem wp_lstore_n {f : Fin 4} {i : Nat} {x : Int64} (hd : decode M.2.1 pc = .ok (.lstore_n f, 1)) (hq : pc + 1 = q) (hi : (f : Nat) = i) (hn : i + 1 < M.2.2.1) (hL : stL2 L i (.long x) = L') (h : WP l G k mc ms M Q q L' st μ cb sb) : WP l G k mc ms M Q pc L (.long x :: st) μ cb sb := by
  subst hq
  intro p e s m args below meth c H locs cells slots ls C hR hS hl h1 h2
  exact lv_lstore_n C.1 C.2.1 hd hi hl hn rfl (fun ls2 hl2 => h p e s m args below meth c H locs cells slots ls2 C hR hS (lsSt2 hL hl2) h1 h2)
theorem wp_lstore {i : Nat} {x : Int64} (hd : decode M.2.1 pc = .ok (.lstore i, 2)) (hq : pc + 2 = q) (hn : i + 1 < M.2.2.1) (hL : stL2 L i (.long x) = L') (h : WP l G k mc ms M Q q L' st μ cb sb) : WP l G k mc ms M Q pc L (.long x :: st) μ cb sb := by
  subst hq
  intro p e s m args below meth c H locs cells slots ls C hR hS hl h1 h2
  exact lv_lstore C.1 C.2.1 hd hl hn rfl (fun ls2 hl2 => h p e s m args below meth c H locs cells slots ls2 C hR hS (lsSt2 hL hl2) h1 h2)
theorem wp_astore_n {f : Fin 4} {i : Nat} {x : Nat} (hd : decode M.2.1 pc = .ok (.astore_n f, 1)) (hq : pc + 1 = q) (hi : (f : Nat) = i) (hn : i < M.2.2.1) (hL : stL1 L i (.ref x) = L') (h : WP l G k mc ms M Q q L' st μ cb sb) : WP l G k mc ms M Q pc L (.ref x :: st) μ cb sb := by
  subst hq
  intro p e s m args below meth c H locs cells slots ls C hR hS hl h1 h2
  exact lv_astore_n C.1 C.2.1 hd hi hl hn rfl (fun ls2 hl2 => h p e s m args below meth c H locs cells slots ls2 C hR hS (lsSt1 hL hl2) h1 h2)
theorem wp_astore {i : Nat} {x : Nat} (hd : decode M.2.1 pc = .ok (.astore i, 2)) (hq : pc + 2 = q) (hn : i < M.2.2.1) (hL : stL1 L i (.ref x) = L') (h : WP l G k mc ms M Q q L' st μ cb sb) : WP l G k mc ms M Q pc L (.ref x :: st) μ cb sb := by
  subst hq
  intro p e s m args below meth c H locs cells slots ls C hR hS hl h1 h2
  exact lv_astore C.1 C.2.1 hd hl hn rfl (fun ls2 hl2 => h p e s m args below meth c H locs cells slots ls2 C hR hS (lsSt1 hL hl2) h1 h2)
theorem lpl_get {G : Gh} {L : List (Option Value)} {i : Nat} {v : Value} (hL : L[i]? = some (some v)) : ∃ n : Nat, (lpl G 0 L)[n]? = some (i, cv G v) := List.getElem?_of_mem ((lpl_mem L 0 i _).mpr ⟨i, v, by omega, hL, rfl⟩)
theorem wp_iinc {i : Nat} {n : Int} {x v : Int32} (hd : decode M.2.1 pc = .ok (.iinc i n, 3)) (hq : pc + 3 = q) (hx : L[i]? = some (some (.int x))) (hv : x + Int32.ofInt n = v) (hn : i < M.2.2.1) (hL : stL1 L i (.int v) = L') (h : WP l G k mc ms M Q q L' st μ cb sb) : WP l G k mc ms M Q pc L st μ cb sb := by
  subst hq
  intro p e s m args below meth c H locs cells slots ls C hR hS hl h1 h2
  obtain ⟨n9, hn9⟩ := lpl_get (G := G) hx
  exact lv_iinc C.1 C.2.1 hd hl hn9 hv hn rfl (fun ls2 hl2 => h p e s m args below meth c H locs cells slots ls2 C hR hS (lsSt1 hL hl2) h1 h2)
theorem wp_iadd {x y : Int32} (hd : decode M.2.1 pc = .ok (.iadd, 1)) (hq : pc + 1 = q) (h : WP l G k mc ms M Q q L (.int (x + y) :: st) μ cb sb) : WP l G k mc ms M Q pc L (.int y :: .int x :: st) μ cb sb := by
  subst hq
  intro p e s m args below meth c H locs cells slots ls C hR hS hl h1 h2
  exact lv_iadd C.1 C.2.1 hd (h p e s m args below meth c H locs cells slots ls C hR hS hl h1 h2)
theorem wp_isub {x y : Int32} (hd : decode M.2.1 pc = .ok (.isub, 1)) (hq : pc + 1 = q) (h : WP l G k mc ms M Q q L (.int (x - y) :: st) μ cb sb) : WP l G k mc ms M Q pc L (.int y :: .int x :: st) μ cb sb := by
  subst hq
  intro p e s m args below meth c H locs cells slots ls C hR hS hl h1 h2
  exact lv_isub C.1 C.2.1 hd (h p e s m args below meth c H locs cells slots ls C hR hS hl h1 h2)
theorem wp_imul {x y : Int32} (hd : decode M.2.1 pc = .ok (.imul, 1)) (hq : pc + 1 = q) (h : WP l G k mc ms M Q q L (.int (x * y) :: st) μ cb sb) : WP l G k mc ms M Q pc L (.int y :: .int x :: st) μ cb sb := by
  subst hq
  intro p e s m args below meth c H locs cells slots ls C hR hS hl h1 h2
  exact lv_imul C.1 C.2.1 hd (h p e s m args below meth c H locs cells slots ls C hR hS hl h1 h2)
theorem wp_iand {x y : Int32} (hd : decode M.2.1 pc = .ok (.iand, 1)) (hq : pc + 1 = q) (h : WP l G k mc ms M Q q L (.int (x &&& y) :: st) μ cb sb) : WP l G k mc ms M Q pc L (.int y :: .int x :: st) μ cb sb := by
  subst hq
  intro p e s m args below meth c H locs cells slots ls C hR hS hl h1 h2
  exact lv_iand C.1 C.2.1 hd (h p e s m args below meth c H locs cells slots ls C hR hS hl h1 h2)
theorem wp_ior {x y : Int32} (hd : decode M.2.1 pc = .ok (.ior, 1)) (hq : pc + 1 = q) (h : WP l G k mc ms M Q q L (.int (x ||| y) :: st) μ cb sb) : WP l G k mc ms M Q pc L (.int y :: .int x :: st) μ cb sb := by
  subst hq
  intro p e s m args below meth c H locs cells slots ls C hR hS hl h1 h2
  exact lv_ior C.1 C.2.1 hd (h p e s m args below meth c H locs cells slots ls C hR hS hl h1 h2)
theorem wp_ixor {x y : Int32} (hd : decode M.2.1 pc = .ok (.ixor, 1)) (hq : pc + 1 = q) (h : WP l G k mc ms M Q q L (.int (x ^^^ y) :: st) μ cb sb) : WP l G k mc ms M Q pc L (.int y :: .int x :: st) μ cb sb := by
  subst hq
  intro p e s m args below meth c H locs cells slots ls C hR hS hl h1 h2
  exact lv_ixor C.1 C.2.1 hd (h p e s m args below meth c H locs cells slots ls C hR hS hl h1 h2)
theorem wp_ishl {x y : Int32} (hd : decode M.2.1 pc = .ok (.ishl, 1)) (hq : pc + 1 = q) (h : WP l G k mc ms M Q q L (.int (x <<< (y &&& 31)) :: st) μ cb sb) : WP l G k mc ms M Q pc L (.int y :: .int x :: st) μ cb sb := by
  subst hq
  intro p e s m args below meth c H locs cells slots ls C hR hS hl h1 h2
  exact lv_ishl C.1 C.2.1 hd (h p e s m args below meth c H locs cells slots ls C hR hS hl h1 h2)
theorem wp_ishr {x y : Int32} (hd : decode M.2.1 pc = .ok (.ishr, 1)) (hq : pc + 1 = q) (h : WP l G k mc ms M Q q L (.int (x >>> (y &&& 31)) :: st) μ cb sb) : WP l G k mc ms M Q pc L (.int y :: .int x :: st) μ cb sb := by
  subst hq
  intro p e s m args below meth c H locs cells slots ls C hR hS hl h1 h2
  exact lv_ishr C.1 C.2.1 hd (h p e s m args below meth c H locs cells slots ls C hR hS hl h1 h2)
theorem wp_ladd {x y : Int64} (hd : decode M.2.1 pc = .ok (.ladd, 1)) (hq : pc + 1 = q) (h : WP l G k mc ms M Q q L (.long (x + y) :: st) μ cb sb) : WP l G k mc ms M Q pc L (.long y :: .long x :: st) μ cb sb := by
  subst hq
  intro p e s m args below meth c H locs cells slots ls C hR hS hl h1 h2
  exact lv_ladd C.1 C.2.1 hd (h p e s m args below meth c H locs cells slots ls C hR hS hl h1 h2)
theorem wp_lsub {x y : Int64} (hd : decode M.2.1 pc = .ok (.lsub, 1)) (hq : pc + 1 = q) (h : WP l G k mc ms M Q q L (.long (x - y) :: st) μ cb sb) : WP l G k mc ms M Q pc L (.long y :: .long x :: st) μ cb sb := by
  subst hq
  intro p e s m args below meth c H locs cells slots ls C hR hS hl h1 h2
  exact lv_lsub C.1 C.2.1 hd (h p e s m args below meth c H locs cells slots ls C hR hS hl h1 h2)
theorem wp_lmul {x y : Int64} (hd : decode M.2.1 pc = .ok (.lmul, 1)) (hq : pc + 1 = q) (h : WP l G k mc ms M Q q L (.long (x * y) :: st) μ cb sb) : WP l G k mc ms M Q pc L (.long y :: .long x :: st) μ cb sb := by
  subst hq
  intro p e s m args below meth c H locs cells slots ls C hR hS hl h1 h2
  exact lv_lmul C.1 C.2.1 hd (h p e s m args below meth c H locs cells slots ls C hR hS hl h1 h2)
theorem wp_land {x y : Int64} (hd : decode M.2.1 pc = .ok (.land, 1)) (hq : pc + 1 = q) (h : WP l G k mc ms M Q q L (.long (x &&& y) :: st) μ cb sb) : WP l G k mc ms M Q pc L (.long y :: .long x :: st) μ cb sb := by
  subst hq
  intro p e s m args below meth c H locs cells slots ls C hR hS hl h1 h2
  exact lv_land C.1 C.2.1 hd (h p e s m args below meth c H locs cells slots ls C hR hS hl h1 h2)
theorem wp_lor {x y : Int64} (hd : decode M.2.1 pc = .ok (.lor, 1)) (hq : pc + 1 = q) (h : WP l G k mc ms M Q q L (.long (x ||| y) :: st) μ cb sb) : WP l G k mc ms M Q pc L (.long y :: .long x :: st) μ cb sb := by
  subst hq
  intro p e s m args below meth c H locs cells slots ls C hR hS hl h1 h2
  exact lv_lor C.1 C.2.1 hd (h p e s m args below meth c H locs cells slots ls C hR hS hl h1 h2)
theorem wp_idiv {x y : Int32} (hd : decode M.2.1 pc = .ok (.idiv, 1)) (hq : pc + 1 = q) (hne : ¬ y = 0) (h : WP l G k mc ms M Q q L (.int (x / y) :: st) μ cb sb) : WP l G k mc ms M Q pc L (.int y :: .int x :: st) μ cb sb := by
  subst hq
  intro p e s m args below meth c H locs cells slots ls C hR hS hl h1 h2
  exact lv_idiv C.1 C.2.1 hd hne (h p e s m args below meth c H locs cells slots ls C hR hS hl h1 h2)
theorem wp_irem {x y : Int32} (hd : decode M.2.1 pc = .ok (.irem, 1)) (hq : pc + 1 = q) (hne : ¬ y = 0) (h : WP l G k mc ms M Q q L (.int (x - x / y * y) :: st) μ cb sb) : WP l G k mc ms M Q pc L (.int y :: .int x :: st) μ cb sb := by
  subst hq
  intro p e s m args below meth c H locs cells slots ls C hR hS hl h1 h2
  exact lv_irem C.1 C.2.1 hd hne (h p e s m args below meth c H locs cells slots ls C hR hS hl h1 h2)
theorem wp_ldiv {x y : Int64} (hd : decode M.2.1 pc = .ok (.ldiv, 1)) (hq : pc + 1 = q) (hne : ¬ y = 0) (h : WP l G k mc ms M Q q L (.long (x / y) :: st) μ cb sb) : WP l G k mc ms M Q pc L (.long y :: .long x :: st) μ cb sb := by
  subst hq
  intro p e s m args below meth c H locs cells slots ls C hR hS hl h1 h2
  exact lv_ldiv C.1 C.2.1 hd hne (h p e s m args below meth c H locs cells slots ls C hR hS hl h1 h2)
theorem wp_lrem {x y : Int64} (hd : decode M.2.1 pc = .ok (.lrem, 1)) (hq : pc + 1 = q) (hne : ¬ y = 0) (h : WP l G k mc ms M Q q L (.long (x - x / y * y) :: st) μ cb sb) : WP l G k mc ms M Q pc L (.long y :: .long x :: st) μ cb sb := by
  subst hq
  intro p e s m args below meth c H locs cells slots ls C hR hS hl h1 h2
  exact lv_lrem C.1 C.2.1 hd hne (h p e s m args below meth c H locs cells slots ls C hR hS hl h1 h2)
theorem wp_ineg {x : Int32} (hd : decode M.2.1 pc = .ok (.ineg, 1)) (hq : pc + 1 = q) (h : WP l G k mc ms M Q q L (.int (-x) :: st) μ cb sb) : WP l G k mc ms M Q pc L (.int x :: st) μ cb sb := by
  subst hq
  intro p e s m args below meth c H locs cells slots ls C hR hS hl h1 h2
  exact lv_ineg C.1 C.2.1 hd (h p e s m args below meth c H locs cells slots ls C hR hS hl h1 h2)
theorem wp_iushr {x y : Int32} (hd : decode M.2.1 pc = .ok (.iushr, 1)) (hq : pc + 1 = q) (h : WP l G k mc ms M Q q L (.int ((x.toUInt32 >>> (y.toUInt32 &&& Int32.toUInt32 31)).toInt32) :: st) μ cb sb) : WP l G k mc ms M Q pc L (.int y :: .int x :: st) μ cb sb := by
  subst hq
  intro p e s m args below meth c H locs cells slots ls C hR hS hl h1 h2
  exact lv_iushr C.1 C.2.1 hd rfl (h p e s m args below meth c H locs cells slots ls C hR hS hl h1 h2)
theorem wp_lshl {x : Int64} {y : Int32} (hd : decode M.2.1 pc = .ok (.lshl, 1)) (hq : pc + 1 = q) (h : WP l G k mc ms M Q q L (.long (x <<< (y.toInt64 &&& 63)) :: st) μ cb sb) : WP l G k mc ms M Q pc L (.int y :: .long x :: st) μ cb sb := by
  subst hq
  intro p e s m args below meth c H locs cells slots ls C hR hS hl h1 h2
  exact lv_lshl C.1 C.2.1 hd rfl (h p e s m args below meth c H locs cells slots ls C hR hS hl h1 h2)
theorem wp_lshr {x : Int64} {y : Int32} (hd : decode M.2.1 pc = .ok (.lshr, 1)) (hq : pc + 1 = q) (h : WP l G k mc ms M Q q L (.long (x >>> (y.toInt64 &&& 63)) :: st) μ cb sb) : WP l G k mc ms M Q pc L (.int y :: .long x :: st) μ cb sb := by
  subst hq
  intro p e s m args below meth c H locs cells slots ls C hR hS hl h1 h2
  exact lv_lshr C.1 C.2.1 hd rfl (h p e s m args below meth c H locs cells slots ls C hR hS hl h1 h2)
theorem wp_i2l {x : Int32} (hd : decode M.2.1 pc = .ok (.i2l, 1)) (hq : pc + 1 = q) (h : WP l G k mc ms M Q q L (.long x.toInt64 :: st) μ cb sb) : WP l G k mc ms M Q pc L (.int x :: st) μ cb sb := by
  subst hq
  intro p e s m args below meth c H locs cells slots ls C hR hS hl h1 h2
  exact lv_i2l C.1 C.2.1 hd rfl (h p e s m args below meth c H locs cells slots ls C hR hS hl h1 h2)
theorem wp_l2i {x : Int64} (hd : decode M.2.1 pc = .ok (.l2i, 1)) (hq : pc + 1 = q) (h : WP l G k mc ms M Q q L (.int x.toInt32 :: st) μ cb sb) : WP l G k mc ms M Q pc L (.long x :: st) μ cb sb := by
  subst hq
  intro p e s m args below meth c H locs cells slots ls C hR hS hl h1 h2
  exact lv_l2i C.1 C.2.1 hd rfl (h p e s m args below meth c H locs cells slots ls C hR hS hl h1 h2)
theorem wp_i2b {x : Int32} (hd : decode M.2.1 pc = .ok (.i2b, 1)) (hq : pc + 1 = q) (h : WP l G k mc ms M Q q L (.int x.toInt8.toInt32 :: st) μ cb sb) : WP l G k mc ms M Q pc L (.int x :: st) μ cb sb := by
  subst hq
  intro p e s m args below meth c H locs cells slots ls C hR hS hl h1 h2
  exact lv_i2b C.1 C.2.1 hd rfl (h p e s m args below meth c H locs cells slots ls C hR hS hl h1 h2)
theorem wp_i2s {x : Int32} (hd : decode M.2.1 pc = .ok (.i2s, 1)) (hq : pc + 1 = q) (h : WP l G k mc ms M Q q L (.int x.toInt16.toInt32 :: st) μ cb sb) : WP l G k mc ms M Q pc L (.int x :: st) μ cb sb := by
  subst hq
  intro p e s m args below meth c H locs cells slots ls C hR hS hl h1 h2
  exact lv_i2s C.1 C.2.1 hd rfl (h p e s m args below meth c H locs cells slots ls C hR hS hl h1 h2)
theorem wp_lcmp {x y : Int64} (hd : decode M.2.1 pc = .ok (.lcmp, 1)) (hq : pc + 1 = q) (h : WP l G k mc ms M Q q L (.int (lg_cmp x y) :: st) μ cb sb) : WP l G k mc ms M Q pc L (.long y :: .long x :: st) μ cb sb := by
  subst hq
  intro p e s m args below meth c H locs cells slots ls C hR hS hl h1 h2
  exact W.lcmp C.1 C.2.1 hd (h p e s m args below meth c H locs cells slots ls C hR hS hl h1 h2)
theorem wp_dup {v : Value} (hd : decode M.2.1 pc = .ok (.dup, 1)) (hq : pc + 1 = q) (hv : v.category = 1) (h : WP l G k mc ms M Q q L (v :: v :: st) μ cb sb) : WP l G k mc ms M Q pc L (v :: st) μ cb sb := by
  subst hq
  intro p e s m args below meth c H locs cells slots ls C hR hS hl h1 h2
  exact lv_dup C.1 C.2.1 hd (by rw [cv_cat]; exact hv) (h p e s m args below meth c H locs cells slots ls C hR hS hl h1 h2)
theorem wp_pop {v : Value} (hd : decode M.2.1 pc = .ok (.pop, 1)) (hq : pc + 1 = q) (hv : v.category = 1) (h : WP l G k mc ms M Q q L (st) μ cb sb) : WP l G k mc ms M Q pc L (v :: st) μ cb sb := by
  subst hq
  intro p e s m args below meth c H locs cells slots ls C hR hS hl h1 h2
  exact lv_pop C.1 C.2.1 hd (by rw [cv_cat]; exact hv) (h p e s m args below meth c H locs cells slots ls C hR hS hl h1 h2)
theorem wp_pop2 {v : Value} (hd : decode M.2.1 pc = .ok (.pop2, 1)) (hq : pc + 1 = q) (hv : v.category = 2) (h : WP l G k mc ms M Q q L (st) μ cb sb) : WP l G k mc ms M Q pc L (v :: st) μ cb sb := by
  subst hq
  intro p e s m args below meth c H locs cells slots ls C hR hS hl h1 h2
  exact lv_pop2_2 C.1 C.2.1 hd (by rw [cv_cat]; exact hv) (h p e s m args below meth c H locs cells slots ls C hR hS hl h1 h2)
theorem wp_dup2 {v u : Value} (hd : decode M.2.1 pc = .ok (.dup2, 1)) (hq : pc + 1 = q) (hv : v.category = 1) (hu : u.category = 1) (h : WP l G k mc ms M Q q L (v :: u :: v :: u :: st) μ cb sb) : WP l G k mc ms M Q pc L (v :: u :: st) μ cb sb := by
  subst hq
  intro p e s m args below meth c H locs cells slots ls C hR hS hl h1 h2
  exact lv_dup2_11 C.1 C.2.1 hd (by rw [cv_cat]; exact hv) (by rw [cv_cat]; exact hu) (h p e s m args below meth c H locs cells slots ls C hR hS hl h1 h2)
theorem wp_if_eq {x : Int32} {off : Int} {tgt : Nat} (hd : decode M.2.1 pc = .ok (.ifCond .eq off, 3)) (hq : pc + 3 = q) (ht : (pc : Int) + off = (tgt : Int)) (kt : x = 0 → WP l G k mc ms M Q tgt L st μ cb sb) (kf : ¬ x = 0 → WP l G k mc ms M Q q L st μ cb sb) : WP l G k mc ms M Q pc L (.int x :: st) μ cb sb := by
  subst hq
  intro p e s m args below meth c H locs cells slots ls C hR hS hl h1 h2
  exact lv_if_eq C.1 C.2.1 hd ht (fun hc => kt hc p e s m args below meth c H locs cells slots ls C hR hS hl h1 h2) (fun hc => kf hc p e s m args below meth c H locs cells slots ls C hR hS hl h1 h2)
theorem wp_icmp_eq {x y : Int32} {off : Int} {tgt : Nat} (hd : decode M.2.1 pc = .ok (.if_icmp .eq off, 3)) (hq : pc + 3 = q) (ht : (pc : Int) + off = (tgt : Int)) (kt : x = y → WP l G k mc ms M Q tgt L st μ cb sb) (kf : ¬ x = y → WP l G k mc ms M Q q L st μ cb sb) : WP l G k mc ms M Q pc L (.int y :: .int x :: st) μ cb sb := by
  subst hq
  intro p e s m args below meth c H locs cells slots ls C hR hS hl h1 h2
  exact lv_icmp_eq C.1 C.2.1 hd ht (fun hc => kt hc p e s m args below meth c H locs cells slots ls C hR hS hl h1 h2) (fun hc => kf hc p e s m args below meth c H locs cells slots ls C hR hS hl h1 h2)
theorem wp_if_ne {x : Int32} {off : Int} {tgt : Nat} (hd : decode M.2.1 pc = .ok (.ifCond .ne off, 3)) (hq : pc + 3 = q) (ht : (pc : Int) + off = (tgt : Int)) (kt : ¬ x = 0 → WP l G k mc ms M Q tgt L st μ cb sb) (kf : x = 0 → WP l G k mc ms M Q q L st μ cb sb) : WP l G k mc ms M Q pc L (.int x :: st) μ cb sb := by
  subst hq
  intro p e s m args below meth c H locs cells slots ls C hR hS hl h1 h2
  exact lv_if_ne C.1 C.2.1 hd ht (fun hc => kt hc p e s m args below meth c H locs cells slots ls C hR hS hl h1 h2) (fun hc => kf hc p e s m args below meth c H locs cells slots ls C hR hS hl h1 h2)
theorem wp_icmp_ne {x y : Int32} {off : Int} {tgt : Nat} (hd : decode M.2.1 pc = .ok (.if_icmp .ne off, 3)) (hq : pc + 3 = q) (ht : (pc : Int) + off = (tgt : Int)) (kt : ¬ x = y → WP l G k mc ms M Q tgt L st μ cb sb) (kf : x = y → WP l G k mc ms M Q q L st μ cb sb) : WP l G k mc ms M Q pc L (.int y :: .int x :: st) μ cb sb := by
  subst hq
  intro p e s m args below meth c H locs cells slots ls C hR hS hl h1 h2
  exact lv_icmp_ne C.1 C.2.1 hd ht (fun hc => kt hc p e s m args below meth c H locs cells slots ls C hR hS hl h1 h2) (fun hc => kf hc p e s m args below meth c H locs cells slots ls C hR hS hl h1 h2)
theorem wp_if_lt {x : Int32} {off : Int} {tgt : Nat} (hd : decode M.2.1 pc = .ok (.ifCond .lt off, 3)) (hq : pc + 3 = q) (ht : (pc : Int) + off = (tgt : Int)) (kt : x < 0 → WP l G k mc ms M Q tgt L st μ cb sb) (kf : ¬ x < 0 → WP l G k mc ms M Q q L st μ cb sb) : WP l G k mc ms M Q pc L (.int x :: st) μ cb sb := by
  subst hq
  intro p e s m args below meth c H locs cells slots ls C hR hS hl h1 h2
  exact lv_if_lt C.1 C.2.1 hd ht (fun hc => kt hc p e s m args below meth c H locs cells slots ls C hR hS hl h1 h2) (fun hc => kf hc p e s m args below meth c H locs cells slots ls C hR hS hl h1 h2)
theorem wp_icmp_lt {x y : Int32} {off : Int} {tgt : Nat} (hd : decode M.2.1 pc = .ok (.if_icmp .lt off, 3)) (hq : pc + 3 = q) (ht : (pc : Int) + off = (tgt : Int)) (kt : x < y → WP l G k mc ms M Q tgt L st μ cb sb) (kf : ¬ x < y → WP l G k mc ms M Q q L st μ cb sb) : WP l G k mc ms M Q pc L (.int y :: .int x :: st) μ cb sb := by
  subst hq
  intro p e s m args below meth c H locs cells slots ls C hR hS hl h1 h2
  exact lv_icmp_lt C.1 C.2.1 hd ht (fun hc => kt hc p e s m args below meth c H locs cells slots ls C hR hS hl h1 h2) (fun hc => kf hc p e s m args below meth c H locs cells slots ls C hR hS hl h1 h2)
theorem wp_if_ge {x : Int32} {off : Int} {tgt : Nat} (hd : decode M.2.1 pc = .ok (.ifCond .ge off, 3)) (hq : pc + 3 = q) (ht : (pc : Int) + off = (tgt : Int)) (kt : 0 ≤ x → WP l G k mc ms M Q tgt L st μ cb sb) (kf : ¬ 0 ≤ x → WP l G k mc ms M Q q L st μ cb sb) : WP l G k mc ms M Q pc L (.int x :: st) μ cb sb := by
  subst hq
  intro p e s m args below meth c H locs cells slots ls C hR hS hl h1 h2
  exact lv_if_ge C.1 C.2.1 hd ht (fun hc => kt hc p e s m args below meth c H locs cells slots ls C hR hS hl h1 h2) (fun hc => kf hc p e s m args below meth c H locs cells slots ls C hR hS hl h1 h2)
theorem wp_icmp_ge {x y : Int32} {off : Int} {tgt : Nat} (hd : decode M.2.1 pc = .ok (.if_icmp .ge off, 3)) (hq : pc + 3 = q) (ht : (pc : Int) + off = (tgt : Int)) (kt : y ≤ x → WP l G k mc ms M Q tgt L st μ cb sb) (kf : ¬ y ≤ x → WP l G k mc ms M Q q L st μ cb sb) : WP l G k mc ms M Q pc L (.int y :: .int x :: st) μ cb sb := by
  subst hq
  intro p e s m args below meth c H locs cells slots ls C hR hS hl h1 h2
  exact lv_icmp_ge C.1 C.2.1 hd ht (fun hc => kt hc p e s m args below meth c H locs cells slots ls C hR hS hl h1 h2) (fun hc => kf hc p e s m args below meth c H locs cells slots ls C hR hS hl h1 h2)
theorem wp_if_gt {x : Int32} {off : Int} {tgt : Nat} (hd : decode M.2.1 pc = .ok (.ifCond .gt off, 3)) (hq : pc + 3 = q) (ht : (pc : Int) + off = (tgt : Int)) (kt : 0 < x → WP l G k mc ms M Q tgt L st μ cb sb) (kf : ¬ 0 < x → WP l G k mc ms M Q q L st μ cb sb) : WP l G k mc ms M Q pc L (.int x :: st) μ cb sb := by
  subst hq
  intro p e s m args below meth c H locs cells slots ls C hR hS hl h1 h2
  exact lv_if_gt C.1 C.2.1 hd ht (fun hc => kt hc p e s m args below meth c H locs cells slots ls C hR hS hl h1 h2) (fun hc => kf hc p e s m args below meth c H locs cells slots ls C hR hS hl h1 h2)
theorem wp_icmp_gt {x y : Int32} {off : Int} {tgt : Nat} (hd : decode M.2.1 pc = .ok (.if_icmp .gt off, 3)) (hq : pc + 3 = q) (ht : (pc : Int) + off = (tgt : Int)) (kt : y < x → WP l G k mc ms M Q tgt L st μ cb sb) (kf : ¬ y < x → WP l G k mc ms M Q q L st μ cb sb) : WP l G k mc ms M Q pc L (.int y :: .int x :: st) μ cb sb := by
  subst hq
  intro p e s m args below meth c H locs cells slots ls C hR hS hl h1 h2
  exact lv_icmp_gt C.1 C.2.1 hd ht (fun hc => kt hc p e s m args below meth c H locs cells slots ls C hR hS hl h1 h2) (fun hc => kf hc p e s m args below meth c H locs cells slots ls C hR hS hl h1 h2)
theorem wp_if_le {x : Int32} {off : Int} {tgt : Nat} (hd : decode M.2.1 pc = .ok (.ifCond .le off, 3)) (hq : pc + 3 = q) (ht : (pc : Int) + off = (tgt : Int)) (kt : x ≤ 0 → WP l G k mc ms M Q tgt L st μ cb sb) (kf : ¬ x ≤ 0 → WP l G k mc ms M Q q L st μ cb sb) : WP l G k mc ms M Q pc L (.int x :: st) μ cb sb := by
  subst hq
  intro p e s m args below meth c H locs cells slots ls C hR hS hl h1 h2
  exact lv_if_le C.1 C.2.1 hd ht (fun hc => kt hc p e s m args below meth c H locs cells slots ls C hR hS hl h1 h2) (fun hc => kf hc p e s m args below meth c H locs cells slots ls C hR hS hl h1 h2)
theorem wp_icmp_le {x y : Int32} {off : Int} {tgt : Nat} (hd : decode M.2.1 pc = .ok (.if_icmp .le off, 3)) (hq : pc + 3 = q) (ht : (pc : Int) + off = (tgt : Int)) (kt : x ≤ y → WP l G k mc ms M Q tgt L st μ cb sb) (kf : ¬ x ≤ y → WP l G k mc ms M Q q L st μ cb sb) : WP l G k mc ms M Q pc L (.int y :: .int x :: st) μ cb sb := by
  subst hq
  intro p e s m args below meth c H locs cells slots ls C hR hS hl h1 h2
  exact lv_icmp_le C.1 C.2.1 hd ht (fun hc => kt hc p e s m args below meth c H locs cells slots ls C hR hS hl h1 h2) (fun hc => kf hc p e s m args below meth c H locs cells slots ls C hR hS hl h1 h2)
theorem wp_goto {off : Int} {tgt : Nat} (hd : decode M.2.1 pc = .ok (.goto off, 3)) (ht : (pc : Int) + off = (tgt : Int)) (h : WP l G k mc ms M Q tgt L st μ cb sb) : WP l G k mc ms M Q pc L st μ cb sb := by
  intro p e s m args below meth c H locs cells slots ls C hR hS hl h1 h2
  exact lv_goto C.1 C.2.1 hd ht (h p e s m args below meth c H locs cells slots ls C hR hS hl h1 h2)
theorem wp_ifnonnull {x : Nat} {off : Int} {tgt : Nat} (hd : decode M.2.1 pc = .ok (.ifnonnull off, 3)) (ht : (pc : Int) + off = (tgt : Int)) (h : WP l G k mc ms M Q tgt L st μ cb sb) : WP l G k mc ms M Q pc L (.ref x :: st) μ cb sb := by
  intro p e s m args below meth c H locs cells slots ls C hR hS hl h1 h2
  exact lv_ifnonnull C.1 C.2.1 hd ht (h p e s m args below meth c H locs cells slots ls C hR hS hl h1 h2)
theorem wp_ifnonnullN {off : Int} (hd : decode M.2.1 pc = .ok (.ifnonnull off, 3)) (hq : pc + 3 = q) (h : WP l G k mc ms M Q q L st μ cb sb) : WP l G k mc ms M Q pc L (.null :: st) μ cb sb := by
  subst hq
  intro p e s m args below meth c H locs cells slots ls C hR hS hl h1 h2
  exact lv_ifnonnullN C.1 C.2.1 hd (h p e s m args below meth c H locs cells slots ls C hR hS hl h1 h2)
theorem wp_tableOut {dflt lo hi : Int} {offs : Array Int} {len : Nat} {x : Int32} {tgt : Nat} (hd : decode M.2.1 pc = .ok (.tableswitch dflt lo hi offs, len)) (hx : x.toInt < lo ∨ hi < x.toInt) (ht : (pc : Int) + dflt = (tgt : Int)) (h : WP l G k mc ms M Q tgt L st μ cb sb) : WP l G k mc ms M Q pc L (.int x :: st) μ cb sb := by
  intro p e s m args below meth c H locs cells slots ls C hR hS hl h1 h2
  exact lv_tableOut C.1 C.2.1 hd hx ht (h p e s m args below meth c H locs cells slots ls C hR hS hl h1 h2)
theorem wp_tableIn {dflt lo hi : Int} {offs : Array Int} {len : Nat} {x : Int32} {off : Int} {tgt : Nat} (hd : decode M.2.1 pc = .ok (.tableswitch dflt lo hi offs, len)) (hx1 : ¬ x.toInt < lo) (hx2 : ¬ hi < x.toInt) (ho : offs[(x.toInt - lo).toNat]? = some off) (ht : (pc : Int) + off = (tgt : Int)) (h : WP l G k mc ms M Q tgt L st μ cb sb) : WP l G k mc ms M Q pc L (.int x :: st) μ cb sb := by
  intro p e s m args below meth c H locs cells slots ls C hR hS hl h1 h2
  exact lv_tableIn C.1 C.2.1 hd hx1 hx2 ho ht (h p e s m args below meth c H locs cells slots ls C hR hS hl h1 h2)
theorem wp_ldc {ix : Nat} {v : Int32} (hd : decode M.2.1 pc = .ok (.ldc ix, 2)) (hq : pc + 2 = q) (hc : Cond.constant M.1.cls ix v ∈ TW) (h : WP l G k mc ms M Q q L (.int v :: st) μ cb sb) : WP l G k mc ms M Q pc L st μ cb sb := by
  subst hq
  intro p e s m args below meth c H locs cells slots ls C hR hS hl h1 h2
  exact lv_ldc C.1 C.2.1 C.2.2.2.2.1 (C.2.2.2.2.2.1 _ hc) hd (h p e s m args below meth c H locs cells slots ls C hR hS hl h1 h2)
theorem wp_ldc2 {ix : Nat} {v : Int64} (hd : decode M.2.1 pc = .ok (.ldc2_w ix, 3)) (hq : pc + 3 = q) (hc : Cond.constantLong M.1.cls ix v ∈ TW) (h : WP l G k mc ms M Q q L (.long v :: st) μ cb sb) : WP l G k mc ms M Q pc L st μ cb sb := by
  subst hq
  intro p e s m args below meth c H locs cells slots ls C hR hS hl h1 h2
  exact lv_ldc2 C.1 C.2.1 C.2.2.2.2.1 (C.2.2.2.2.2.1 _ hc) hd (h p e s m args below meth c H locs cells slots ls C hR hS hl h1 h2)
theorem wp_ireturn {v : Int32} (hd : decode M.2.1 pc = .ok (.ireturn, 1)) (hr : M.2.2.2.1 = some .int) (h : Q (.inl (some (.int v))) μ) : WP l G k mc ms M Q pc L [.int v] μ cb sb := by
  intro p e s m args below meth c H locs cells slots ls C hR hS hl h1 h2
  have hlk := C.2.2.2.2.2.2.1
  refine vx_ret (W.widen (k := mc) (n := ms) (by omega) (by omega) ?_)
  exact W.iret C.1 C.2.1 (C.2.2.1.trans hr) (fun t ht hW => ⟨⟨_, μ, h, rfl, by rw [ht]; exact hR⟩, hS.F ht⟩) hS.2.2 hd hlk
theorem wp_zreturn {v : Int32} {ty : FieldType} (hd : decode M.2.1 pc = .ok (.ireturn, 1)) (hr : M.2.2.2.1 = some ty) (hn : narrow ty (.int v) = .int v) (h : Q (.inl (some (.int v))) μ) : WP l G k mc ms M Q pc L [.int v] μ cb sb := by
  intro p e s m args below meth c H locs cells slots ls C hR hS hl h1 h2
  have hlk := C.2.2.2.2.2.2.1
  refine vx_ret (W.widen (k := mc) (n := ms) (by omega) (by omega) ?_)
  exact W.zret C.1 C.2.1 (C.2.2.1.trans hr) hn (fun t ht hW => ⟨⟨_, μ, h, rfl, by rw [ht]; exact hR⟩, hS.F ht⟩) hS.2.2 hd hlk
theorem wp_lreturn {v : Int64} (hd : decode M.2.1 pc = .ok (.lreturn, 1)) (hr : M.2.2.2.1 = some .long) (h : Q (.inl (some (.long v))) μ) : WP l G k mc ms M Q pc L [.long v] μ cb sb := by
  intro p e s m args below meth c H locs cells slots ls C hR hS hl h1 h2
  have hlk := C.2.2.2.2.2.2.1
  refine vx_ret (W.widen (k := mc) (n := ms) (by omega) (by omega) ?_)
  exact W.lret C.1 C.2.1 (C.2.2.1.trans hr) (fun t ht hW => ⟨⟨_, μ, h, rfl, by rw [ht]; exact hR⟩, hS.F ht⟩) hS.2.2 hd hlk
theorem wp_return (hd : decode M.2.1 pc = .ok (.return_, 1)) (hr : M.2.2.2.1 = none) (h : Q (.inl none) μ) : WP l G k mc ms M Q pc L [] μ cb sb := by
  intro p e s m args below meth c H locs cells slots ls C hR hS hl h1 h2
  have hlk := C.2.2.2.2.2.2.1
  refine vx_ret (W.widen (k := mc) (n := ms) (by omega) (by omega) ?_)
  exact W.vret C.1 C.2.1 (C.2.2.1.trans hr) (fun t ht hW => ⟨⟨_, μ, h, rfl, by rw [ht]; exact hR⟩, hS.F ht⟩) hS.2.2 hd hlk
theorem wp_areturn {a : Nat} {rt : FieldType} (hd : decode M.2.1 pc = .ok (.areturn, 1)) (hr : M.2.2.2.1 = some rt) (hrt : (∃ n, rt = .object n) ∨ ∃ t, rt = .array t) (h : Q (.inl (some (.ref a))) μ) : WP l G k mc ms M Q pc L [.ref a] μ cb sb := by
  intro p e s m args below meth c H locs cells slots ls C hR hS hl h1 h2
  have hlk := C.2.2.2.2.2.2.1
  refine vx_ret (W.widen (k := mc) (n := ms) (by omega) (by omega) ?_)
  exact W.aret C.1 C.2.1 (C.2.2.1.trans hr) hrt (Or.inr ⟨_, rfl⟩) (fun t ht hW => ⟨⟨_, μ, h, rfl, by rw [ht]; exact hR⟩, hS.F ht⟩) hS.2.2 hd hlk
end Rules
