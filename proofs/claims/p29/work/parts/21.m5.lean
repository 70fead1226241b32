/-! the model: weaken, rolls and pallets that go, pallets that come, the order of the pallets, settings -/
def wkArg (N : Nat → Int32) (c : Nat) (r p s : Int32) : Prop := (0 ≤ r ∧ r < nI c) ∧ (nI 1 ≤ p ∧ p ≤ N (20 + 20 * nn r + 0) - nI 1) ∧ (0 ≤ s ∧ s ≤ nI 199)
def wkHas (N : Nat → Int32) (i wk : Nat) (p : Int32) : Prop := p ≤ N (20 + 20 * i + 2) ∨ ∃ k, k < wk ∧ N (20 + 20 * i + (4 + k)) = p
def weakenN (N : Nat → Int32) (i wk : Nat) (p s : Int32) : Nat → Int32 := fun j => if j = 20 + 20 * i + 3 then nI (wk + 1) else if j = 20 + 20 * i + (4 + wk) then p else if j = 20 + 20 * i + (12 + wk) then s else N j
/-! what goes -/
def rollGoesN (N : Nat → Int32) (c : Nat) : Nat → Int32 := fun j => if j = 0 then nI (c - 1) else if 20 ≤ j ∧ j < 20 * c then N (j + 20) else N j
def palletGoesN (N : Nat → Int32) (w k : Nat) : Nat → Int32 := fun j => if j = 1 then nI (w - 1) else if 140 + 6 * k ≤ j ∧ j < 134 + 6 * w then N (j + 6) else N j
