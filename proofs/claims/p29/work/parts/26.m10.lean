/-! the model: fault, load -/
/-- now's row with the steps -/
def loadN (N : Nat → Int32) (acc : List (Nat × Nat)) : Nat → Int32 := fun j => if j = 3 then nI acc.length else if 188 ≤ j ∧ j < 188 + 2 * acc.length then (if (j - 188) % 2 = 0 then nI (acc.getD ((j - 188) / 2) (0, 0)).1 else nI (acc.getD ((j - 188) / 2) (0, 0)).2) else N j
theorem RowA.at {R : Nat → Int32} {acc : List (Nat × Nat)} (h : RowA R acc) {i : Nat} (hi : i < 2 * acc.length) : R i = (if i % 2 = 0 then nI (acc.getD (i / 2) (0, 0)).1 else nI (acc.getD (i / 2) (0, 0)).2) := by
  have hl : i / 2 < acc.length := by omega
  obtain ⟨h1, h2⟩ := h (i / 2) acc[i / 2] (List.getElem?_eq_getElem hl)
  have e : acc.getD (i / 2) (0, 0) = acc[i / 2] := by rw [List.getD_eq_getElem?_getD, List.getElem?_eq_getElem hl]; rfl
  rw [e]
  by_cases z : i % 2 = 0
  · rw [if_pos z, ← h1]; congr 1; omega
  · rw [if_neg z, ← h2]; congr 1; omega
