/-! the model: names of steps, amounts -/
/-- the greatest and least amounts -/
def amtLo (k : Nat) : Nat := if k < 3 then 1 else 0
def amtHi (k : Nat) : Nat := if k = 0 then 20 else if k < 3 then 100 else if k = 3 then 199 else 300
/-- the name of kind k stands at s -/
def nameSt (T : Nat → Int32) (len s k : Nat) : Prop := ∀ j, j < lenS.getD k 0 → s + j < len ∧ T (s + j) = chS k j
theorem lenS_le : ∀ k, lenS.getD k 0 ≤ 7 := by
  intro k
  match k with
  | 0 => decide
  | 1 => decide
  | 2 => decide
  | 3 => decide
  | 4 => decide
  | k + 5 => simp [lenS]
