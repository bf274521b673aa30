/-! THE READER: the text of a land, told as functions -/
/-- head, begin, token, value. Tokens: a sign's byte, 256 a number, 257 the end, 258 none, 299 another word, 300 and on the words -/
abbrev Tok : Type := Nat × Nat × Nat × Nat
abbrev Er : Type := Nat × Nat
def qsk (p : Nat → Bool) : Nat → Nat → Nat
  | 0, h => h
  | f + 1, h => if p h then qsk p f (h + 1) else h
theorem qsk_le (p : Nat → Bool) : ∀ f h, h ≤ qsk p f h ∧ qsk p f h ≤ h + f
  | 0, h => by unfold qsk; omega
  | f + 1, h => by
    have := qsk_le p f (h + 1)
    unfold qsk; split <;> omega
theorem qsk_in (p : Nat → Bool) : ∀ f h j, h ≤ j → j < qsk p f h → p j = true
  | 0, h, j, h1, h2 => by unfold qsk at h2; omega
  | f + 1, h, j, h1, h2 => by
    unfold qsk at h2
    split at h2
    · rename_i hp
      by_cases c : j = h
      · rw [c]; exact hp
      · exact qsk_in p f (h + 1) j (by omega) h2
    · omega
theorem qsk_out (p : Nat → Bool) : ∀ f h, qsk p f h < h + f → p (qsk p f h) = false
  | 0, h, h1 => by unfold qsk at h1; omega
  | f + 1, h, h1 => by
    unfold qsk at h1 ⊢
    split at h1
    · rename_i hp
      rw [if_pos hp]
      exact qsk_out p f (h + 1) (by omega)
    · rename_i hp
      rw [if_neg hp]
      cases hq : p h with
      | false => rfl
      | true => exact absurd hq hp
theorem qsk_y {p : Nat → Bool} {f h : Nat} (hf : 0 < f) (hp : p h = true) : qsk p f h = qsk p (f - 1) (h + 1) := by
  cases f with
  | zero => omega
  | succ f => rw [qsk, if_pos hp]; rfl
theorem qsk_n {p : Nat → Bool} {f h : Nat} (hp : p h = false) : qsk p f h = h := by
  cases f with
  | zero => rfl
  | succ f => rw [qsk, if_neg (by rw [hp]; decide)]
def qlet (c : Nat) : Bool := decide (97 ≤ c ∧ c ≤ 122)
def qdig (c : Nat) : Bool := decide (48 ≤ c ∧ c ≤ 57)
def qspc (c : Nat) : Bool := decide (c = 32 ∨ c = 10)
def qsgn (c : Nat) : Bool := decide (c = 91 ∨ c = 93 ∨ c = 61 ∨ c = 60 ∨ c = 62 ∨ c = 58 ∨ c = 59 ∨ c = 43 ∨ c = 45 ∨ c = 42 ∨ c = 40 ∨ c = 41)
def qnum (t : Nat → Nat) (b : Nat) : Nat → Nat
  | 0 => 0
  | i + 1 => 10 * qnum t b i + (t (b + i) - 48)
/-- the words: ward act degree prevails whole begun hour beside from to fine or and not base fire ice day kind span many -/
def wds : List (List Nat) := [[119, 97, 114, 100], [97, 99, 116], [100, 101, 103, 114, 101, 101], [112, 114, 101, 118, 97, 105, 108, 115], [119, 104, 111, 108, 101], [98, 101, 103, 117, 110], [104, 111, 117, 114], [98, 101, 115, 105, 100, 101], [102, 114, 111, 109], [116, 111], [102, 105, 110, 101], [111, 114], [97, 110, 100], [110, 111, 116], [98, 97, 115, 101], [102, 105, 114, 101], [105, 99, 101], [100, 97, 121], [107, 105, 110, 100], [115, 112, 97, 110], [109, 97, 110, 121]]
def qwrd (t : Nat → Nat) (b e : Nat) : List Nat := (List.range (e - b)).map (fun i => t (b + i))
def qwc (w : List Nat) : Nat := if wds.idxOf w < 21 then 300 + wds.idxOf w else 299
theorem qwc_iff : ∀ j, j < 21 → ∀ w : List Nat, qwc w = 300 + j ↔ w = wds.getD j [] := by
  intro j hj w
  have hl : wds.length = 21 := rfl
  have hnd : wds.Nodup := by decide +kernel
  unfold qwc
  constructor
  · intro h
    split at h
    · rename_i c
      have e : wds.idxOf w = j := by omega
      have := List.getElem_idxOf (xs := wds) (x := w) (by rw [hl]; exact c)
      rw [List.getD_eq_getElem?_getD, ← e, List.getElem?_eq_getElem (by rw [hl]; exact c), Option.getD_some, this]
    · omega
  · intro h
    have hg : wds.getD j [] = wds[j]'(by rw [hl]; exact hj) := by
      rw [List.getD_eq_getElem?_getD, List.getElem?_eq_getElem (by rw [hl]; exact hj), Option.getD_some]
    have e : wds.idxOf w = j := by
      rw [h, hg]; exact hnd.idxOf_getElem j _
    rw [e, if_pos hj]
theorem qwc_ge (w : List Nat) : 299 ≤ qwc w ∧ qwc w ≤ 320 := by unfold qwc; split <;> omega
/-- the token that begins at or behind h -/
def ynx (t : Nat → Nat) (n h : Nat) : Tok :=
  if n ≤ qsk (fun j => qspc (t j)) (n - h) h then (qsk (fun j => qspc (t j)) (n - h) h, qsk (fun j => qspc (t j)) (n - h) h, 257, 0)
  else if qlet (t (qsk (fun j => qspc (t j)) (n - h) h)) then
    (qsk (fun j => qlet (t j)) (n - qsk (fun j => qspc (t j)) (n - h) h) (qsk (fun j => qspc (t j)) (n - h) h), qsk (fun j => qspc (t j)) (n - h) h, qwc (qwrd t (qsk (fun j => qspc (t j)) (n - h) h) (qsk (fun j => qlet (t j)) (n - qsk (fun j => qspc (t j)) (n - h) h) (qsk (fun j => qspc (t j)) (n - h) h))), 0)
  else if qdig (t (qsk (fun j => qspc (t j)) (n - h) h)) then
    (qsk (fun j => qdig (t j)) (n - qsk (fun j => qspc (t j)) (n - h) h) (qsk (fun j => qspc (t j)) (n - h) h), qsk (fun j => qspc (t j)) (n - h) h, if 3 < qsk (fun j => qdig (t j)) (n - qsk (fun j => qspc (t j)) (n - h) h) (qsk (fun j => qspc (t j)) (n - h) h) - qsk (fun j => qspc (t j)) (n - h) h then 258 else 256, qnum t (qsk (fun j => qspc (t j)) (n - h) h) (min 3 (qsk (fun j => qdig (t j)) (n - qsk (fun j => qspc (t j)) (n - h) h) (qsk (fun j => qspc (t j)) (n - h) h) - qsk (fun j => qspc (t j)) (n - h) h)))
  else (qsk (fun j => qspc (t j)) (n - h) h + 1, qsk (fun j => qspc (t j)) (n - h) h, if qsgn (t (qsk (fun j => qspc (t j)) (n - h) h)) then t (qsk (fun j => qspc (t j)) (n - h) h) else 258, 0)
/-- the four ways -/
theorem ynx_cases (t : Nat → Nat) (n h : Nat) : ∃ b, b = qsk (fun j => qspc (t j)) (n - h) h ∧
    ((n ≤ b ∧ ynx t n h = (b, b, 257, 0)) ∨
     (b < n ∧ qlet (t b) = true ∧ ∃ e, e = qsk (fun j => qlet (t j)) (n - b) b ∧ ynx t n h = (e, b, qwc (qwrd t b e), 0)) ∨
     (b < n ∧ qlet (t b) = false ∧ qdig (t b) = true ∧ ∃ e, e = qsk (fun j => qdig (t j)) (n - b) b ∧ ynx t n h = (e, b, if 3 < e - b then 258 else 256, qnum t b (min 3 (e - b)))) ∨
     (b < n ∧ qlet (t b) = false ∧ qdig (t b) = false ∧ ynx t n h = (b + 1, b, if qsgn (t b) then t b else 258, 0))) := by
  obtain ⟨b, hb⟩ : ∃ b, qsk (fun j => qspc (t j)) (n - h) h = b := ⟨_, rfl⟩
  refine ⟨b, hb.symm, ?_⟩
  unfold ynx
  rw [hb]
  by_cases c1 : n ≤ b
  · rw [if_pos c1]; exact Or.inl ⟨c1, rfl⟩
  · rw [if_neg c1]
    cases c2 : qlet (t b) with
    | true => exact Or.inr (Or.inl ⟨by omega, rfl, _, rfl, rfl⟩)
    | false =>
      cases c3 : qdig (t b) with
      | true => exact Or.inr (Or.inr (Or.inl ⟨by omega, rfl, rfl, _, rfl, rfl⟩))
      | false => exact Or.inr (Or.inr (Or.inr ⟨by omega, rfl, rfl, rfl⟩))
theorem qnum_le {t : Nat → Nat} {b : Nat} : ∀ {i : Nat}, (∀ j, j < i → qdig (t (b + j)) = true) → qnum t b i < 10 ^ i
  | 0, _ => by show 0 < 1; decide
  | i + 1, h => by
    have h1 := qnum_le (i := i) (fun j hj => h j (by omega))
    have h2 := h i (by omega)
    unfold qdig at h2
    rw [decide_eq_true_eq] at h2
    unfold qnum
    rw [Nat.pow_succ]; omega
/-- a token is well made -/
def Tg (n h : Nat) (s : Tok) : Prop := h ≤ s.2.1 ∧ s.2.1 ≤ s.1 ∧ s.1 ≤ n ∧ (s.2.2.1 = 257 ∨ (h < s.1 ∧ s.2.1 < s.1)) ∧ s.2.2.1 ≤ 320 ∧ (s.2.2.1 = 256 → s.2.2.2 ≤ 999)
theorem ynx_g {t : Nat → Nat} {n h : Nat} (hh : h ≤ n) (ht : ∀ j, j < n → t j < 256) : Tg n h (ynx t n h) := by
  obtain ⟨b, hb, hc⟩ := ynx_cases t n h
  have hl := qsk_le (fun j => qspc (t j)) (n - h) h
  rw [← hb] at hl
  rcases hc with ⟨h1, e⟩ | ⟨h1, h2, e, he, hx⟩ | ⟨h1, h2, h3, e, he, hx⟩ | ⟨h1, h2, h3, hx⟩
  · rw [e]; exact ⟨hl.1, Nat.le_refl _, by show b ≤ n; omega, Or.inl rfl, by show 257 ≤ 320; decide, fun h => by cases h⟩
  · have hl2 := qsk_le (fun j => qlet (t j)) (n - b) b
    have hp : b < e := by
      rw [he, qsk_y (p := fun j => qlet (t j)) (f := n - b) (h := b) (by omega) h2]
      have := qsk_le (fun j => qlet (t j)) (n - b - 1) (b + 1); omega
    have hw := qwc_ge (qwrd t b e)
    rw [hx]; exact ⟨hl.1, by show b ≤ e; omega, by show e ≤ n; omega, Or.inr ⟨by show h < e; omega, hp⟩, hw.2, fun h => by have : qwc (qwrd t b e) = 256 := h; omega⟩
  · have hl2 := qsk_le (fun j => qdig (t j)) (n - b) b
    have hin := qsk_in (fun j => qdig (t j)) (n - b) b
    rw [← he] at hin
    have hp : b < e := by
      rw [he, qsk_y (p := fun j => qdig (t j)) (f := n - b) (h := b) (by omega) h3]
      have := qsk_le (fun j => qdig (t j)) (n - b - 1) (b + 1); omega
    rw [hx]
    refine ⟨hl.1, by show b ≤ e; omega, by show e ≤ n; omega, Or.inr ⟨by show h < e; omega, hp⟩, by show (if 3 < e - b then 258 else 256) ≤ 320; split <;> omega, fun _ => ?_⟩
    show qnum t b (min 3 (e - b)) ≤ 999
    have h1 := qnum_le (t := t) (b := b) (i := min 3 (e - b)) (fun j hj => hin (b + j) (by omega) (by omega))
    have h2 : 10 ^ (min 3 (e - b)) ≤ 10 ^ 3 := Nat.pow_le_pow_right (by decide) (by omega)
    omega
  · have := ht b h1
    rw [hx]; refine ⟨hl.1, by show b ≤ b + 1; omega, by show b + 1 ≤ n; omega, Or.inr ⟨by show h < b + 1; omega, by show b < b + 1; omega⟩, ?_, fun h => ?_⟩
    · show (if qsgn (t b) then t b else 258) ≤ 320; split <;> omega
    · have h' : (if qsgn (t b) then t b else 258) = 256 := h
      split at h' <;> omega
/-! expressions -/
abbrev Ex : Type := Tok × List Nat
def xb {α β : Type} (x : Er ⊕ α) (f : α → Er ⊕ β) : Er ⊕ β := match x with
  | .inl e => .inl e
  | .inr a => f a
theorem xb_l {α β : Type} {x : Er ⊕ α} {f : α → Er ⊕ β} {e : Er} (h : x = .inl e) : xb x f = .inl e := by rw [h]; rfl
theorem xb_r {α β : Type} {x : Er ⊕ α} {f : α → Er ⊕ β} {a : α} (h : x = .inr a) : xb x f = f a := by rw [h]; rfl
/-- where it can't stand -/
def qbl (k : Nat) (s : Tok) : Er := (if s.2.2.1 = 258 then 1 else k, s.2.1)
def xad (t : Nat → Nat) (n : Nat) (s : Ex) : Ex := (ynx t n s.1.1, s.2)
def xmust (t : Nat → Nat) (n c : Nat) (s : Ex) : Er ⊕ Ex := if s.1.2.2.1 = c then .inr (xad t n s) else .inl (qbl 2 s.1)
def xput (v : Nat) (s : Ex) : Ex := (s.1, s.2 ++ [v])
def xlp (c : Ex → Bool) (b : Ex → Er ⊕ Ex) : Nat → Ex → Er ⊕ Ex
  | 0, s => .inr s
  | f + 1, s => if c s then xb (b s) (xlp c b f) else .inr s
theorem xlp_y {c : Ex → Bool} {b : Ex → Er ⊕ Ex} {f : Nat} {s : Ex} (h : c s = true) : xlp c b (f + 1) s = xb (b s) (xlp c b f) := by rw [xlp, if_pos h]
theorem xlp_n {c : Ex → Bool} {b : Ex → Er ⊕ Ex} {f : Nat} {s : Ex} (h : c s = false) : xlp c b f s = .inr s := by
  cases f with
  | zero => rfl
  | succ f => rw [xlp, if_neg (by rw [h]; decide)]
/-- the words of a law -/
def xw (m : Bool) (tk : Nat) : Option Nat := if m then (if tk = 301 then some 0 else if tk = 318 then some 1 else if tk = 310 then some 2 else if tk = 319 then some 3 else if tk = 320 then some 4 else if tk = 306 then some 5 else if tk = 300 then some 6 else none)
  else (if tk = 314 then some 0 else if tk = 315 then some 1 else if tk = 316 then some 2 else if tk = 306 then some 3 else if tk = 317 then some 4 else if tk = 300 then some 5 else none)
def xatom (t : Nat → Nat) (n : Nat) (m : Bool) (d : Nat) (su : Ex → Er ⊕ Ex) (s : Ex) : Er ⊕ Ex := match xw m s.1.2.2.1 with
  | some j => .inr (xput (100 + j) (xad t n s))
  | none => if s.1.2.2.1 = 40 then (if d = 0 then .inl (4, s.1.2.1) else xb (su (xad t n s)) (xmust t n 41)) else if s.1.2.2.1 = 256 then .inr (xput (1000 + s.1.2.2.2) (xad t n s)) else .inl (qbl 2 s.1)
def xterm (t : Nat → Nat) (n F : Nat) (m : Bool) (d : Nat) (su : Ex → Er ⊕ Ex) (s : Ex) : Er ⊕ Ex := xb (xatom t n m d su s) (xlp (fun s => decide (s.1.2.2.1 = 42)) (fun s => xb (xatom t n m d su (xad t n s)) (fun s' => .inr (xput 12 s'))) F)
def xsum (t : Nat → Nat) (n F : Nat) (m : Bool) (d : Nat) (su : Ex → Er ⊕ Ex) (s : Ex) : Er ⊕ Ex := xb (xterm t n F m d su s) (xlp (fun s => decide (s.1.2.2.1 = 43 ∨ s.1.2.2.1 = 45)) (fun s => xb (xterm t n F m d su (xad t n s)) (fun s' => .inr (xput (if s.1.2.2.1 = 43 then 10 else 11) s'))) F)
def xunit (t : Nat → Nat) (n F : Nat) (m : Bool) (d : Nat) (su un tr : Ex → Er ⊕ Ex) (s : Ex) : Er ⊕ Ex :=
  if s.1.2.2.1 = 313 then (if d = 0 then .inl (4, s.1.2.1) else xb (un (xad t n s)) (fun s' => .inr (xput 18 s')))
  else if s.1.2.2.1 = 91 then (if d = 0 then .inl (4, s.1.2.1) else xb (tr (xad t n s)) (xmust t n 93))
  else xb (xsum t n F m d su s) (fun s1 => if s1.1.2.2.1 = 61 ∨ s1.1.2.2.1 = 60 ∨ s1.1.2.2.1 = 62 then xb (xsum t n F m d su (xad t n s1)) (fun s' => .inr (xput (if s1.1.2.2.1 = 61 then 13 else if s1.1.2.2.1 = 60 then 14 else 15) s')) else .inl (qbl 2 s1.1))
def xboth (t : Nat → Nat) (n F : Nat) (m : Bool) (d : Nat) (su un tr : Ex → Er ⊕ Ex) (s : Ex) : Er ⊕ Ex := xb (xunit t n F m d su un tr s) (xlp (fun s => decide (s.1.2.2.1 = 312)) (fun s => xb (xunit t n F m d su un tr (xad t n s)) (fun s' => .inr (xput 16 s'))) F)
def xtruth (t : Nat → Nat) (n F : Nat) (m : Bool) (d : Nat) (su un tr : Ex → Er ⊕ Ex) (s : Ex) : Er ⊕ Ex := xb (xboth t n F m d su un tr s) (xlp (fun s => decide (s.1.2.2.1 = 311)) (fun s => xb (xboth t n F m d su un tr (xad t n s)) (fun s' => .inr (xput 17 s'))) F)
/-- sum, unit, truth, with so many levels to go -/
def xlev (t : Nat → Nat) (n F : Nat) (m : Bool) : Nat → (Ex → Er ⊕ Ex) × (Ex → Er ⊕ Ex) × (Ex → Er ⊕ Ex)
  | 0 => (xsum t n F m 0 .inr, xunit t n F m 0 .inr .inr .inr, xtruth t n F m 0 .inr .inr .inr)
  | d + 1 => (xsum t n F m (d + 1) (xlev t n F m d).1, xunit t n F m (d + 1) (xlev t n F m d).1 (xlev t n F m d).2.1 (xlev t n F m d).2.2, xtruth t n F m (d + 1) (xlev t n F m d).1 (xlev t n F m d).2.1 (xlev t n F m d).2.2)
/-! lines -/
def ynum (t : Nat → Nat) (n lo hi : Nat) (s : Tok) : Er ⊕ (Nat × Tok) := if s.2.2.1 = 256 then (if lo ≤ s.2.2.2 ∧ s.2.2.2 < hi then .inr (s.2.2.2, ynx t n s.1) else .inl (3, s.2.1)) else .inl (qbl 2 s)
def ymust (t : Nat → Nat) (n c : Nat) (s : Tok) : Er ⊕ Tok := if s.2.2.1 = c then .inr (ynx t n s.1) else .inl (qbl 2 s)
def ybs (t : Nat → Nat) (n w : Nat) : Nat → Nat → Tok → Er ⊕ (Nat × Tok)
  | 0, set, s => .inr (set, s)
  | f + 1, set, s => xb (ynum t n 0 w s) (fun r => if r.2.2.2.1 = 256 then ybs t n w f (set ||| 2 ^ r.1) r.2 else .inr (set ||| 2 ^ r.1, r.2))
abbrev Ln : Type := Tok × (Nat → Nat)
def ytw (tel : Nat → Nat) (w base set : Nat) : Nat → Nat := fun i => if i = 1 then w + 1 else if i = 56 + w then base else if i = 61 + w then set else if 61 ≤ i ∧ i < 61 + w ∧ set.testBit (i - 61) = true then tel i ||| 2 ^ w else tel i
def yward (t : Nat → Nat) (n F : Nat) (s : Ln) : Er ⊕ Ln := if s.2 1 = 5 then .inl (4, s.1.2.1) else
  xb (ynum t n 0 100 (ynx t n s.1.1)) (fun r => xb (if r.2.2.2.1 = 307 then ybs t n (s.2 1) F 0 (ynx t n r.2.1) else .inr (0, r.2)) (fun r2 => .inr (r2.2, ytw s.2 (s.2 1) r.1 r2.1)))
def yta (tel : Nat → Nat) (a kd f g fi : Nat) : Nat → Nat := qset (qset (qset (qset (qset tel (66 + a) kd) (37 + a) f) (45 + a) g) (74 + a) fi) 2 (a + 1)
def yact (t : Nat → Nat) (n : Nat) (s : Ln) : Er ⊕ Ln := if s.2 2 = 8 then .inl (4, s.1.2.1) else
  xb (ynum t n 0 10 (ynx t n s.1.1)) (fun r1 => xb (ymust t n 308 r1.2) (fun s2 => xb (ynum t n 0 100 s2) (fun r3 => xb (ymust t n 309 r3.2) (fun s4 => xb (ynum t n r3.1 100 s4) (fun r5 => xb (ymust t n 310 r5.2) (fun s6 => xb (ynum t n 0 100 s6) (fun r7 => .inr (r7.2, yta s.2 (s.2 2) r1.1 r3.1 r5.1 r7.1))))))))
def ylw (tel : Nat → Nat) (many at1 : Nat) (st : List Nat) : Nat → Nat := fun i => if i = many then st.length else if at1 ≤ i ∧ i < at1 + st.length then st.getD (i - at1) 0 else tel i
def ylaw (t : Nat → Nat) (n F : Nat) (m : Bool) (s : Ln) : Er ⊕ Ln :=
  xb (ymust t n 58 (ynx t n s.1.1)) (fun s1 => xb ((if m then (xlev t n F m 6).2.2 else (xlev t n F m 6).1) (s1, [])) (fun e => .inr (e.1, if m then ylw s.2 4 1472 e.2 else ylw s.2 3 572 e.2)))
def yone (t : Nat → Nat) (n F : Nat) (s : Ln) : Er ⊕ Ln :=
  if s.1.2.2.1 = 300 then yward t n F s else if s.1.2.2.1 = 301 then yact t n s else if s.1.2.2.1 = 304 then .inr (ynx t n s.1.1, qset s.2 6 1) else if s.1.2.2.1 = 305 then .inr (ynx t n s.1.1, qset s.2 6 0)
  else if s.1.2.2.1 = 306 then xb (ynum t n 0 1000 (ynx t n s.1.1)) (fun r => .inr (r.2, qset s.2 54 r.1)) else if s.1.2.2.1 = 302 then ylaw t n F false s else if s.1.2.2.1 = 303 then ylaw t n F true s else .inl (qbl 2 s.1)
def yline (t : Nat → Nat) (n F : Nat) (s : Ln) : Er ⊕ Ln := xb (yone t n F s) (fun s1 => xb (ymust t n 59 s1.1) (fun s2 => .inr (s2, qset s1.2 0 (s1.2 0 + 1))))
def ylp (t : Nat → Nat) (n F : Nat) : Nat → Ln → Er ⊕ Ln
  | 0, s => .inr s
  | f + 1, s => if s.1.2.2.1 = 257 then .inr s else xb (yline t n F s) (ylp t n F f)
def yland (t : Nat → Nat) (n F : Nat) : Er ⊕ Ln := ylp t n F F (ynx t n 0, fun _ => 0)
