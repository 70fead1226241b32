/-! the model: wraps -/
theorem SI_get {N : Nat → Int32} {acc : List (Nat × Nat)} (si : SI N acc) {i : Nat} (hi : i < acc.length) : N (188 + 2 * i) = nI acc[i].1 ∧ N (188 + 2 * i + 1) = nI acc[i].2 ∧ acc[i].1 < 5 ∧ amtLo acc[i].1 ≤ acc[i].2 ∧ acc[i].2 ≤ amtHi acc[i].1 := by
  obtain ⟨h1, h2⟩ := si.2.2.2 i acc[i] (List.getElem?_eq_getElem hi)
  exact ⟨h1, h2, si.2.2.1 _ (List.getElem_mem hi)⟩
theorem SI_congr {N N' : Nat → Int32} {acc : List (Nat × Nat)} (e : ∀ j, (j = 3 ∨ (188 ≤ j ∧ j < 212)) → N' j = N j) (si : SI N acc) : SI N' acc := by
  refine ⟨(e 3 (Or.inl rfl)).trans si.1, si.2.1, si.2.2.1, fun i q hq => ?_⟩
  obtain ⟨h1, h2⟩ := si.2.2.2 i q hq
  have := (List.getElem?_eq_some_iff.mp hq).1
  have := si.2.1
  exact ⟨(e _ (by omega)).trans h1, (e _ (by omega)).trans h2⟩
