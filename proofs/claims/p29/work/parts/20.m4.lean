/-! the model: weak places -/
/-- weak place k of roll i is a candidate: behind the position, weaker than s -/
def wkC (N : Nat → Int32) (i : Nat) (s : Int32) (k : Nat) : Prop := N (20 + 20 * i + 2) < N (20 + 20 * i + (4 + k)) ∧ N (20 + 20 * i + (12 + k)) < s
def wkI (N : Nat → Int32) (i : Nat) (s : Int32) (k : Nat) (b : Int32) : Prop := (b = -1 ∧ ∀ j, j < k → ¬ wkC N i s j) ∨ ∃ b' : Nat, b' < k ∧ b = nI b' ∧ wkC N i s b' ∧ ∀ j, j < k → wkC N i s j → ¬ N (20 + 20 * i + (4 + j)) < N (20 + 20 * i + (4 + b'))
/-- what 'roll' answers -/
def wkCount (N : Nat → Int32) (i wk : Nat) : Nat := ((List.range wk).filter (fun k => decide (N (20 + 20 * i + 2) < N (20 + 20 * i + (4 + k))))).length
