/-! the model: rolls -/
/-- a number from lo to hi -/
def bd (x : Int32) (lo hi : Nat) : Prop := ∃ n : Nat, x = nI n ∧ lo ≤ n ∧ n ≤ hi
def nn (x : Int32) : Nat := x.toNatClampNeg
theorem nn_nI {n : Nat} (h : n < 2 ^ 31) : nn (nI n) = n := nI_clamp h
theorem bd_of {x : Int32} {lo hi : Nat} (hl : lo < 2 ^ 31) (hh : hi < 2 ^ 31) (h1 : nI lo ≤ x) (h2 : x ≤ nI hi) : bd x lo hi := by
  have e2 := Int32.le_iff_toInt_le.mp h1
  rw [nI_toInt hl] at e2
  have h0 : ¬ x < 0 := fun z => by
    have e1 := Int32.lt_iff_toInt_lt.mp z
    have e3 : (0 : Int32).toInt = 0 := rfl
    omega
  obtain ⟨n, hn, rfl⟩ := nI_of h0
  exact ⟨n, rfl, (nI_leI hl hn).mp h1, (nI_leI hn hh).mp h2⟩
/-- now's row with a new roll -/
def addRollN (N : Nat → Int32) (c : Nat) (len wt : Int32) : Nat → Int32 := fun j => if j = 0 then nI (c + 1) else if j = 20 + 20 * c then len else if j = 21 + 20 * c then wt else if 20 + 20 * c ≤ j ∧ j < 40 + 20 * c then 0 else N j
/-- what a new roll's numbers may be -/
def okRoll (l w : Int32) : Prop := (nI 100 ≤ l ∧ l ≤ nI 100000) ∧ (nI 1 ≤ w ∧ w ≤ nI 50)
