/-! the model: reading a step, the fault, load -/
def digF (T : Nat → Int32) (len : Nat) : Nat → Nat → Nat → Nat × Nat
  | 0, p, a => (p, a)
  | d + 1, p, a => if p < len ∧ (nI 48 ≤ T p ∧ T p ≤ nI 57) then digF T len d (p + 1) (10 * a + (nn (T p) - 48)) else (p, a)
theorem digF_le (T : Nat → Int32) (len : Nat) : ∀ d p a, p ≤ (digF T len d p a).1 ∧ (digF T len d p a).1 ≤ p + d ∧ (p ≤ len → (digF T len d p a).1 ≤ len) := by
  intro d
  induction d with
  | zero => intro p a; exact ⟨Nat.le_refl _, Nat.le_refl _, id⟩
  | succ d ih =>
    intro p a
    unfold digF
    split
    · rename_i hc
      obtain ⟨h1, h2, h3⟩ := ih (p + 1) (10 * a + (nn (T p) - 48))
      exact ⟨by omega, by omega, fun _ => h3 (by omega)⟩
    · exact ⟨Nat.le_refl _, by simp, id⟩
theorem digF_amt (T : Nat → Int32) (len : Nat) : ∀ d p a, a < 10 ^ (9 - d) → d ≤ 3 → (digF T len d p a).2 < 10 ^ 9 := by
  intro d
  induction d with
  | zero => intro p a h _; simpa [digF] using h
  | succ d ih =>
    intro p a h hd
    unfold digF
    split
    · rename_i hc
      refine ih _ _ ?_ (by omega)
      obtain ⟨n, e, h1, h2⟩ := bd_of (lo := 48) (hi := 57) (by omega) (by omega) hc.2.1 hc.2.2
      rw [e, nn_nI (by omega)]
      have : 10 ^ (9 - d) = 10 * 10 ^ (9 - (d + 1)) := by
        rw [show 9 - d = (9 - (d + 1)) + 1 by omega, Nat.pow_succ, Nat.mul_comm]
      rw [this]
      omega
    · have : 10 ^ (9 - (d + 1)) ≤ 10 ^ 9 := Nat.pow_le_pow_right (by omega) (by omega)
      simp only
      omega
def nameB (T : Nat → Int32) (len s k : Nat) : Bool := (List.range (lenS.getD k 0)).all (fun j => decide (s + j < len) && decide (T (s + j) = chS k j))
theorem nameB_iff (T : Nat → Int32) (len s k : Nat) : nameB T len s k = true ↔ nameSt T len s k := by
  simp [nameB, nameSt, List.all_eq_true]
def nameF (T : Nat → Int32) (len s : Nat) : Nat := if nameB T len s 0 = true then 0 else if nameB T len s 1 = true then 1 else if nameB T len s 2 = true then 2 else if nameB T len s 3 = true then 3 else if nameB T len s 4 = true then 4 else 5
theorem nameF_none {T : Nat → Int32} {len s : Nat} (h : ∀ k, k < 5 → ¬ nameSt T len s k) : nameF T len s = 5 := by
  have g : ∀ k, k < 5 → ¬ nameB T len s k = true := fun k hk z => h k hk ((nameB_iff T len s k).mp z)
  unfold nameF
  rw [if_neg (g 0 (by omega)), if_neg (g 1 (by omega)), if_neg (g 2 (by omega)), if_neg (g 3 (by omega)), if_neg (g 4 (by omega))]
theorem nameF_some {T : Nat → Int32} {len s k : Nat} (hk : k < 5) (h : nameSt T len s k) (h0 : ∀ j, j < k → ¬ nameSt T len s j) : nameF T len s = k := by
  have h0 : ∀ j, j < k → ¬ nameB T len s j = true := fun j hj z => h0 j hj ((nameB_iff T len s j).mp z)
  have h := (nameB_iff T len s k).mpr h
  unfold nameF
  match k, hk with
  | 0, _ => rw [if_pos h]
  | 1, _ => rw [if_neg (h0 0 (by omega)), if_pos h]
  | 2, _ => rw [if_neg (h0 0 (by omega)), if_neg (h0 1 (by omega)), if_pos h]
  | 3, _ => rw [if_neg (h0 0 (by omega)), if_neg (h0 1 (by omega)), if_neg (h0 2 (by omega)), if_pos h]
  | 4, _ => rw [if_neg (h0 0 (by omega)), if_neg (h0 1 (by omega)), if_neg (h0 2 (by omega)), if_neg (h0 3 (by omega)), if_pos h]
  | k + 5, hk => omega
/-- the step that stands at s: kind, amount, the place behind it -/
def stepP (T : Nat → Int32) (len s : Nat) : Option (Nat × Nat × Nat) :=
  if nameF T len s = 5 then none else if ¬ (s + lenS.getD (nameF T len s) 0 < len ∧ T (s + lenS.getD (nameF T len s) 0) = nI 32) then none
  else if (digF T len 3 (s + lenS.getD (nameF T len s) 0 + 1) 0).1 = s + lenS.getD (nameF T len s) 0 + 1 ∨ ¬ (amtLo (nameF T len s) ≤ (digF T len 3 (s + lenS.getD (nameF T len s) 0 + 1) 0).2 ∧ (digF T len 3 (s + lenS.getD (nameF T len s) 0 + 1) 0).2 ≤ amtHi (nameF T len s)) then none
  else some (nameF T len s, (digF T len 3 (s + lenS.getD (nameF T len s) 0 + 1) 0).2, (digF T len 3 (s + lenS.getD (nameF T len s) 0 + 1) 0).1)
/-- behind a step: a comma, a blank, a further sign -/
abbrev folP (T : Nat → Int32) (len e : Nat) : Prop := e + 2 < len ∧ T e = nI 44 ∧ T (e + 1) = nI 32
/-- the program read from place s on, n steps at most: the fault, and the steps -/
def parsP (T : Nat → Int32) (len : Nat) : Nat → Nat → List (Nat × Nat) → Option Nat × List (Nat × Nat)
  | 0, s, acc => (some s, acc)
  | n + 1, s, acc => match stepP T len s with
    | none => (some s, acc)
    | some (k, a, e) => if e = len then (none, acc ++ [(k, a)]) else if e + 2 < len ∧ T e = nI 44 ∧ T (e + 1) = nI 32 then parsP T len n (e + 2) (acc ++ [(k, a)]) else (some s, acc)
def parsT (T : Nat → Int32) (len : Nat) : Option Nat × List (Nat × Nat) := if len = 0 then (none, []) else parsP T len 12 0 []
/-- a row that holds steps -/
def RowA (R : Nat → Int32) (acc : List (Nat × Nat)) : Prop := ∀ (i : Nat) (q : Nat × Nat), acc[i]? = some q → R (2 * i) = nI q.1 ∧ R (2 * i + 1) = nI q.2
def StepsOk (acc : List (Nat × Nat)) : Prop := ∀ q ∈ acc, q.1 < 5 ∧ amtLo q.1 ≤ q.2 ∧ q.2 ≤ amtHi q.1
theorem stepP_ok {T : Nat → Int32} {len s k a e : Nat} (h : stepP T len s = some (k, a, e)) : k < 5 ∧ amtLo k ≤ a ∧ a ≤ amtHi k ∧ s < e ∧ (s ≤ len → e ≤ len) := by
  unfold stepP at h
  split at h
  · cases h
  · rename_i h1
    split at h
    · cases h
    · rename_i h2
      split at h
      · cases h
      · rename_i h3
        simp only [Option.some.injEq, Prod.mk.injEq] at h
        obtain ⟨rfl, rfl, rfl⟩ := h
        obtain ⟨g1, g2, g3⟩ := digF_le T len 3 (s + lenS.getD (nameF T len s) 0 + 1) 0
        refine ⟨?_, ?_, ?_, by omega, fun _ => g3 ?_⟩
        · unfold nameF at h1 ⊢
          repeat' split
          all_goals first | omega | simp_all
        · exact Nat.le_of_not_lt (fun z => h3 (Or.inr (fun y => by omega)))
        · exact Nat.le_of_not_lt (fun z => h3 (Or.inr (fun y => by omega)))
        · have := Classical.not_not.mp h2
          omega
