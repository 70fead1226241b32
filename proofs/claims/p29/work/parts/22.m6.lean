/-! the model: pallets that come, are dropped, their order; settings, counts, texts by place, what is kept, sums -/
def okPal (a b c d e : Int32) : Prop := (nI 20 ≤ a ∧ a ≤ nI 200) ∧ (nI 20 ≤ b ∧ b ≤ nI 200) ∧ (nI 10 ≤ c ∧ c ≤ nI 250) ∧ (0 ≤ d ∧ d ≤ nI 5000) ∧ (0 ≤ e ∧ e ≤ nI 9999)
def addPalletN (N : Nat → Int32) (w : Nat) (a b c d e : Int32) : Nat → Int32 := fun j => if j = 1 then nI (w + 1) else if j = 2 then N 2 + nI 1 else if j = 140 + 6 * w then N 2 else if j = 141 + 6 * w then a else if j = 142 + 6 * w then b else if j = 143 + 6 * w then c else if j = 144 + 6 * w then d else if j = 145 + 6 * w then e else N j
/-- pallet i comes before pallet k -/
def aheadP (N : Nat → Int32) (i k : Nat) : Prop := N (140 + 6 * i + 5) < N (140 + 6 * k + 5) ∨ (N (140 + 6 * i + 5) = N (140 + 6 * k + 5) ∧ N (140 + 6 * i + 0) < N (140 + 6 * k + 0))
def aheadC (N : Nat → Int32) (k : Nat) : Nat → Nat
  | 0 => 0
  | w + 1 => aheadC N k w + (if N (140 + 6 * w + 5) < N (140 + 6 * k + 5) ∨ (N (140 + 6 * w + 5) = N (140 + 6 * k + 5) ∧ N (140 + 6 * w + 0) < N (140 + 6 * k + 0)) then 1 else 0)
def okSet (x y : Int32) : Prop := (0 ≤ x ∧ x ≤ nI 1) ∧ (0 ≤ y ∧ y ≤ (if x = 0 then nI 500 else nI 20))
