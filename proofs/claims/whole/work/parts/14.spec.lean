/-! THE SPECIFICATION over the reference's row of numbers (as naturals): degrees, codes, fines -/
def bset (p : Nat → Bool) : Nat → Nat
  | 0 => 0
  | n + 1 => bset p n ||| (if p n then 2 ^ n else 0)
theorem bset_lt (p : Nat → Bool) : ∀ n, bset p n < 2 ^ n
  | 0 => by simp [bset]
  | n + 1 => by
    have h := bset_lt p n
    unfold bset
    apply Nat.or_lt_two_pow
    · rw [Nat.pow_succ]; omega
    · split
      · rw [Nat.pow_succ]; have := Nat.two_pow_pos n; omega
      · exact Nat.two_pow_pos _
theorem bset_bit (p : Nat → Bool) (i : Nat) : ∀ n, (bset p n).testBit i = (decide (i < n) && p i)
  | 0 => by simp [bset]
  | n + 1 => by
    unfold bset
    rw [Nat.testBit_or, bset_bit p i n]
    by_cases hin : i = n
    · subst hin
      by_cases hp : p i
      · simp [hp, Nat.testBit_two_pow_self]
      · simp [hp]
    · have h2 : (if p n then 2 ^ n else 0).testBit i = false := by
        split
        · exact Nat.testBit_two_pow_of_ne (Ne.symm hin)
        · simp
      rw [h2, Bool.or_false]
      by_cases h3 : i < n
      · simp [h3, Nat.lt_succ_of_lt h3]
      · have h4 : ¬ i < n + 1 := by omega
        simp [h3, h4]
theorem bset_congr {p q : Nat → Bool} : ∀ {n : Nat}, (∀ i, i < n → p i = q i) → bset p n = bset q n
  | 0, _ => rfl
  | n + 1, h => by
    unfold bset
    rw [bset_congr (fun i hi => h i (by omega)), h n (by omega)]
theorem bset_ext {a b n : Nat} (ha : a < 2 ^ n) (hb : b < 2 ^ n) (h : ∀ i, i < n → a.testBit i = b.testBit i) : a = b := by
  apply Nat.eq_of_testBit_eq
  intro i
  by_cases hi : i < n
  · exact h i hi
  · rw [Nat.testBit_lt_two_pow (Nat.lt_of_lt_of_le ha (Nat.pow_le_pow_right (by decide) (by omega))), Nat.testBit_lt_two_pow (Nat.lt_of_lt_of_le hb (Nat.pow_le_pow_right (by decide) (by omega)))]
/-- a sum over the first n -/
def qsum (f : Nat → Nat) : Nat → Nat
  | 0 => 0
  | n + 1 => qsum f n + f n
theorem qsum_congr {f g : Nat → Nat} : ∀ {n : Nat}, (∀ i, i < n → f i = g i) → qsum f n = qsum g n
  | 0, _ => rfl
  | n + 1, h => by unfold qsum; rw [qsum_congr (fun i hi => h i (by omega)), h n (by omega)]
theorem qsum_le {f : Nat → Nat} {c : Nat} : ∀ {n : Nat}, (∀ i, i < n → f i ≤ c) → qsum f n ≤ n * c
  | 0, _ => by simp [qsum]
  | n + 1, h => by
    unfold qsum
    have h1 := qsum_le (n := n) (fun i hi => h i (by omega))
    have h2 := h n (by omega)
    rw [Nat.succ_mul]; omega
def qpop (s : Nat) : Nat := qsum (fun i => if s.testBit i then 1 else 0) 8
theorem qpop_step : ∀ s, s < 256 → s ≠ 0 → qpop (s &&& (s - 1)) + 1 = qpop s ∧ s &&& (s - 1) < s := by decide +kernel
theorem qpop_le : ∀ s, s < 256 → qpop s ≤ 8 := by decide +kernel
theorem qpop_0 : qpop 0 = 0 := by decide +kernel
/-! laws: steps as the reference has them -/
def qclamp (z : Int) : Int := max (-1000000) (min 1000000 z)
def qop (s : Nat) (a b : Int) : Int := match s with
  | 10 => qclamp (a + b)
  | 11 => qclamp (a - b)
  | 12 => qclamp (a * b)
  | 13 => if a = b then 1 else 0
  | 14 => if a < b then 1 else 0
  | 15 => if b < a then 1 else 0
  | 16 => if 1 < a + b then 1 else 0
  | _ => if 0 < a + b then 1 else 0
/-- the pile (uppermost first) behind some steps -/
def qrun (ask : Nat → Int) : List Nat → List Int → List Int
  | [], st => st
  | s :: r, st => if 100 ≤ s then qrun ask r ((if 1000 ≤ s then ((s - 1000 : Nat) : Int) else ask (s - 100)) :: st)
    else if s = 18 then (match st with | x :: t => qrun ask r ((1 - x) :: t) | [] => qrun ask r [])
    else match st with | b :: a :: t => qrun ask r (qop s a b :: t) | _ => qrun ask r []
def qval (ask : Nat → Int) (steps : List Nat) : Int := (qrun ask steps []).getLast?.getD 0
/-- the kinds (false: a number, true: a truth) on the pile behind some steps; m: how many words may be asked -/
def qtyp (m : Nat) : List Nat → List Bool → Option (List Bool)
  | [], ts => some ts
  | s :: r, ts => if 100 ≤ s then (if (s < 100 + m ∨ (1000 ≤ s ∧ s < 2000)) ∧ ts.length < 64 then qtyp m r (false :: ts) else none)
    else match s, ts with
      | 18, true :: t => qtyp m r (true :: t)
      | 10, false :: false :: t => qtyp m r (false :: t)
      | 11, false :: false :: t => qtyp m r (false :: t)
      | 12, false :: false :: t => qtyp m r (false :: t)
      | 13, false :: false :: t => qtyp m r (true :: t)
      | 14, false :: false :: t => qtyp m r (true :: t)
      | 15, false :: false :: t => qtyp m r (true :: t)
      | 16, true :: true :: t => qtyp m r (true :: t)
      | 17, true :: true :: t => qtyp m r (true :: t)
      | _, _ => none
def qsteps (κ : Nat → Nat) (many base : Nat) : List Nat := (List.range (κ many)).map (fun j => κ (base + j))
/-! the land -/
def qkept (z : Int) : Nat := (max 0 (min 99 z)).toNat
def qlaid (κ : Nat → Nat) (what w h : Nat) : Nat := if κ (what + 5 + w) ≤ h ∧ h < κ (what + 10 + w) then κ (what + w) else 0
def qaskD (κ : Nat → Nat) (w h : Nat) : Nat → Int := fun j => match j with
  | 0 => κ (56 + w)
  | 1 => qlaid κ 7 w h
  | 2 => qlaid κ 22 w h
  | 3 => ((h % 24 : Nat) : Int)
  | 4 => ((h / 24 % 1000 : Nat) : Int)
  | _ => w
def qdeg (κ : Nat → Nat) (w h : Nat) : Nat := if κ 3 = 0 then qkept ((κ (56 + w) : Int) + qlaid κ 7 w h - qlaid κ 22 w h) else qkept (qval (qaskD κ w h) (qsteps κ 3 572))
theorem qkept_le (z : Int) : qkept z ≤ 99 := by unfold qkept; omega
theorem qdeg_le (κ : Nat → Nat) (w h : Nat) : qdeg κ w h ≤ 99 := by unfold qdeg; split <;> exact qkept_le _
def qspk (κ : Nat → Nat) (a d some : Nat) : Bool := some.testBit a && (decide (κ (37 + a) ≤ d) && decide (d ≤ κ (45 + a)))
def qmany (κ : Nat → Nat) (kind d some : Nat) : Nat := qsum (fun a => if κ (66 + a) = kind ∧ qspk κ a d some = true then 1 else 0) (κ 2)
def qaskP (κ : Nat → Nat) (a many h w : Nat) : Nat → Int := fun j => match j with
  | 0 => a
  | 1 => κ (66 + a)
  | 2 => κ (74 + a)
  | 3 => (κ (45 + a) : Int) - κ (37 + a)
  | 4 => many
  | 5 => ((h % 24 : Nat) : Int)
  | _ => w
def qprv (κ : Nat → Nat) (a many h w : Nat) : Bool := decide (κ 4 = 0) || decide (qval (qaskP κ a many h w) (qsteps κ 4 1472) = 1)
/-- acts in force at a degree in an hour, of some -/
def qcode (κ : Nat → Nat) (w d h some : Nat) : Nat := bset (fun a => qspk κ a d some && qprv κ a (qmany κ (κ (66 + a)) d some) h w) (κ 2)
def qall (κ : Nat → Nat) : Nat := bset (fun a => !(κ 53).testBit a) (κ 2)
def qkind (κ : Nat → Nat) (kind : Nat) : Nat := bset (fun a => decide (κ (66 + a) = kind)) (κ 2)
def qfin (κ : Nat → Nat) (set : Nat) : Nat := qsum (fun a => if set.testBit a then κ (74 + a) else 0) (κ 2)
/-- a well made state: what every land and every deed of state keeps; hb, pb: bounds of the hour and of what is paid -/
def qok (hb pb : Nat) (κ : Nat → Nat) : Prop :=
  κ 1 ≤ 5 ∧ κ 2 ≤ 8 ∧ κ 3 ≤ 900 ∧ κ 4 ≤ 900 ∧ κ 5 ≤ 10 ∧ κ 6 ≤ 1 ∧ κ 0 ≤ 900 ∧
  (∀ w, w < 5 → κ (7 + w) ≤ 60 ∧ κ (12 + w) ≤ hb ∧ κ (17 + w) ≤ hb + 99 ∧ κ (22 + w) ≤ 60 ∧ κ (27 + w) ≤ hb ∧ κ (32 + w) ≤ hb + 99 ∧ κ (56 + w) ≤ 99 ∧ κ (61 + w) < 32) ∧
  (∀ a, a < 8 → κ (37 + a) ≤ 99 ∧ κ (45 + a) ≤ 99 ∧ κ (66 + a) ≤ 9 ∧ κ (74 + a) ≤ 99) ∧
  κ 53 < 256 ∧ κ 54 ≤ hb ∧ κ 55 ≤ pb ∧
  (κ 3 ≠ 0 → qtyp 6 (qsteps κ 3 572) [] = some [false]) ∧ (κ 4 ≠ 0 → qtyp 7 (qsteps κ 4 1472) [] = some [true])
/-- the reference's row holds κ -/
def Kn (I : Nat → Nat → Int32) (κ : Nat → Nat) : Prop := ∀ i, i < 2380 → I 44 i = nI (κ i)
