/-! the class: its cells -/
def cwO : List (Nat × Nat) := [(0, 11), (1, 6), (14, 7), (26, 3), (30, 5), (35, 9), (37, 9), (39, 9), (41, 9)]
def cwR : List (Nat × Nat × Nat) := [(0, 0, 1), (0, 1, 14), (0, 2, 30), (0, 3, 32), (0, 4, 33), (0, 5, 34), (1, 0, 2), (1, 9, 13), (14, 1, 25), (14, 2, 26), (14, 3, 29), (26, 0, 27), (26, 1, 28), (30, 0, 31), (35, 2, 36), (37, 2, 38), (39, 2, 40), (41, 2, 42)]
def cwA : List (Nat × Nat × Nat) := [(2, 102, 900), (13, 100, 900), (25, 100, 49), (27, 100, 21), (28, 100, 64), (29, 100, 960), (31, 100, 490), (32, 100, 49), (33, 104, 4), (34, 105, 3), (36, 101, 30), (38, 101, 30), (40, 101, 30), (42, 101, 30)]
/-- the cells that the class made with itself -/
def CF (R : Nat → Nat → Option Nat) (S : Nat → Nat × Nat) (nx : Nat) : Prop := 72 ≤ nx ∧ (∀ q ∈ cwO, (S q.1).1 = q.2) ∧ (∀ q ∈ cwR, R q.1 q.2.1 = some q.2.2) ∧ (∀ q ∈ cwA, S q.1 = q.2) ∧ ∀ i, i < 4 → R 33 i = some (35 + 2 * i)
/-- a land at L, its laws at dl and pl -/
def LW (R : Nat → Nat → Option Nat) (S : Nat → Nat × Nat) (nx L dl pl ld lp : Nat) : Prop := L + 10 ≤ nx ∧ (S L).1 = 2 ∧ (∀ i, i < 7 → R L (5 + i) = some (L + (1 + i)) ∧ S (L + (1 + i)) = (100, [5, 5, 8, 8, 8, 8, 10].getD i 0)) ∧ (R L 12 = some dl ∧ R L 13 = some pl) ∧ (S dl = (100, ld) ∧ S pl = (100, lp)) ∧ (dl < nx ∧ pl < nx) ∧ ((L = 3 ∨ L = 15 ∨ 72 ≤ L) ∧ (dl = L + 8 ∨ 72 ≤ dl) ∧ (pl = L + 9 ∨ 72 ≤ pl))
section A
variable {R : Nat → Nat → Option Nat} {S : Nat → Nat × Nat} {nx L dl pl ld lp : Nat}
theorem cf_n (w : CF R S nx) {a : Nat} (h : a < 72) : a < nx := Nat.lt_of_lt_of_le h w.1
theorem cf_o (w : CF R S nx) {q : Nat × Nat} (h : q ∈ cwO) : (S q.1).1 = q.2 := w.2.1 q h
theorem cf_r (w : CF R S nx) {q : Nat × Nat × Nat} (h : q ∈ cwR) : R q.1 q.2.1 = some q.2.2 := w.2.2.1 q h
theorem cf_a (w : CF R S nx) {q : Nat × Nat × Nat} (h : q ∈ cwA) : S q.1 = q.2 := w.2.2.2.1 q h
theorem lw_n (w : LW R S nx L dl pl ld lp) {i : Nat} (h : i < 10) : L + i < nx := Nat.lt_of_lt_of_le (Nat.add_lt_add_left h L) w.1
theorem lw_s (w : LW R S nx L dl pl ld lp) : (S L).1 = 2 := w.2.1
theorem lw_r (w : LW R S nx L dl pl ld lp) {i : Nat} (h : i < 7) : R L (5 + i) = some (L + (1 + i)) := (w.2.2.1 i h).1
theorem lw_a (w : LW R S nx L dl pl ld lp) {i : Nat} (h : i < 7) : S (L + (1 + i)) = (100, [5, 5, 8, 8, 8, 8, 10].getD i 0) := (w.2.2.1 i h).2
theorem lw_dl (w : LW R S nx L dl pl ld lp) : R L 12 = some dl := w.2.2.2.1.1
theorem lw_pl (w : LW R S nx L dl pl ld lp) : R L 13 = some pl := w.2.2.2.1.2
theorem lw_sdl (w : LW R S nx L dl pl ld lp) : S dl = (100, ld) := w.2.2.2.2.1.1
theorem lw_spl (w : LW R S nx L dl pl ld lp) : S pl = (100, lp) := w.2.2.2.2.1.2
theorem lw_ndl (w : LW R S nx L dl pl ld lp) : dl < nx := w.2.2.2.2.2.1.1
theorem lw_npl (w : LW R S nx L dl pl ld lp) : pl < nx := w.2.2.2.2.2.1.2
/-- objects made when first used -/
def owL : List (Nat × Nat × Nat × Nat) := [(1, 1, 100, 224), (2, 2, 100, 224), (3, 3, 100, 224), (4, 4, 100, 2400)]
def OW (R : Nat → Nat → Option Nat) (S : Nat → Nat × Nat) (nx o : Nat) : Prop := o + 5 ≤ nx ∧ (S o).1 = 4 ∧ R o 0 = some 14 ∧ ∀ q ∈ owL, R o q.1 = some (o + q.2.1) ∧ S (o + q.2.1) = (q.2.2.1, q.2.2.2)
def wwL : List (Nat × Nat × Nat × Nat) := [(1, 1, 100, 305), (2, 2, 100, 61), (3, 3, 100, 61), (4, 4, 100, 5), (5, 5, 100, 5), (6, 6, 101, 5), (7, 7, 101, 5)]
def WW (R : Nat → Nat → Option Nat) (S : Nat → Nat × Nat) (nx o : Nat) : Prop := o + 8 ≤ nx ∧ (S o).1 = 10 ∧ R o 0 = some 14 ∧ ∀ q ∈ wwL, R o q.1 = some (o + q.2.1) ∧ S (o + q.2.1) = (q.2.2.1, q.2.2.2)
def awL : List (Nat × Nat × Nat × Nat) := [(1, 1, 100, 4), (3, 2, 102, 3584), (4, 3, 100, 4), (5, 4, 100, 4)]
def AW (R : Nat → Nat → Option Nat) (S : Nat → Nat × Nat) (nx o : Nat) : Prop := o + 5 ≤ nx ∧ (S o).1 = 0 ∧ R o 0 = some 14 ∧ ∀ q ∈ awL, R o q.1 = some (o + q.2.1) ∧ S (o + q.2.1) = (q.2.2.1, q.2.2.2)
def twL : List (Nat × Nat × Nat × Nat) := [(1, 1, 100, 24), (2, 2, 100, 41), (3, 3, 100, 41)]
def TW1 (R : Nat → Nat → Option Nat) (S : Nat → Nat × Nat) (nx o : Nat) : Prop := o + 4 ≤ nx ∧ (S o).1 = 8 ∧ R o 0 = some 14 ∧ ∀ q ∈ twL, R o q.1 = some (o + q.2.1) ∧ S (o + q.2.1) = (q.2.2.1, q.2.2.2)
end A
