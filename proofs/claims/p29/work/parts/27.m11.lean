/-! the model: a turn -/
abbrev covP (y z : Nat) : Prop := 10 * z < y + 50 ∧ y < 10 * z + 10
/-- the greatest force over the covered zones -/
def mostW (N : Nat → Int32) (e y : Nat) : Nat → Nat
  | 0 => 0
  | i + 1 => if covP y i ∧ mostW N e y i < nn (N (e + 38 + i)) then nn (N (e + 38 + i)) else mostW N e y i
def tB (lim most ten : Nat) : Nat := min ten ((100 * (lim - most) + 99) / 141)
def FoOk (N : Nat → Int32) (e z lim : Nat) : Prop := ∀ i, i < z → ∃ v : Nat, N (e + 38 + i) = nI v ∧ v ≤ lim
theorem mostW_le {N : Nat → Int32} {e y z lim : Nat} (hl : lim ≤ 5000) (h : FoOk N e z lim) : ∀ i, i ≤ z → mostW N e y i ≤ lim := by
  intro i
  induction i with
  | zero => intro _; exact Nat.zero_le _
  | succ i ih =>
    intro hi
    obtain ⟨v, hv, hv2⟩ := h i (by omega)
    show (if covP y i ∧ mostW N e y i < nn (N (e + 38 + i)) then nn (N (e + 38 + i)) else mostW N e y i) ≤ lim
    rw [hv, nn_nI (by omega)]
    split
    · exact hv2
    · exact ih (by omega)
theorem tB_le (lim most ten : Nat) : tB lim most ten ≤ ten := Nat.min_le_left _ _
theorem tB_force {lim most ten t : Nat} (hm : most ≤ lim) (ht : t ≤ ten) : most + t * 141 / 100 ≤ lim ↔ t ≤ tB lim most ten := by
  unfold tB
  omega
theorem forceF_nI {t : Nat} (ht : t ≤ 1000) : forceF (nI t) = nI (t * 141 / 100) := by
  unfold forceF
  rw [pk_mul]
  exact pk_div (a := t * 141) (d := 100) (by omega) (by omega) (by omega)
def addC (f : Nat → Int32) (i : Nat) (v : Int32) : Nat → Int32 := upd f i (f i + v)
def wastesN (N : Nat → Int32) (e tt : Nat) (v : Int32) : Nat → Int32 := addC (addC (addC N (8 + tt) v) 8 v) (e + 5) v
def lastsN (N : Nat → Int32) (e : Nat) (v : Int32) : Nat → Int32 := addC (addC N (e + 10) v) 6 v
/-- the film breaks at p -/
def breaksN (N : Nat → Int32) (e : Nat) (p : Int32) : Nat → Int32 := lastsN (addC (addC (upd (wastesN (wastesN N e 3 (p - N 22)) e 4 (lesser (N 4) (N 20 - p))) 22 (p + lesser (N 4) (N 20 - p))) 13 (nI 1)) (e + 6) (nI 1)) e (nI 40)
/-- a layer on the covered zones below k -/
def layZ (G : Nat → Int32) (e y k : Nat) (fo : Int32) : Nat → Int32 := fun j => if e + 13 ≤ j ∧ j < e + 13 + k ∧ covP y (j - (e + 13)) then G j + nI 1 else if e + 38 ≤ j ∧ j < e + 38 + k ∧ covP y (j - (e + 38)) then G j + fo else G j
def laysG (N : Nat → Int32) (e need rnd : Nat) : Nat → Int32 := lastsN (addC (addC (addC (addC (addC (addC (addC N 22 (nI need)) 8 (nI need)) 9 (nI need)) 15 (nI 1)) (e + 2) (nI 1)) (e + 4) (nI need)) (e + 11) (nI need * N 21)) e (nI ((rnd + 39) / 40))

