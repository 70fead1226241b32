theorem fetchN_succ (e t need rnd y z fu : Nat) (N : Nat → Int32) : fetchN e t need rnd y z (fu + 1) N = if N 0 = 0 then (1, N) else if N 20 - N 22 < nI need then fetchN e t need rnd y z fu (chgN N e (nn (N 0))) else
    match brkF N t need (nn (N 23)) with
    | some p => if breaksN N e p (e + 6) ≤ breaksN N e p 5 then fetchN e t need rnd y z fu (breaksN N e p) else (2, breaksN N e p)
    | none => (0, layZ (laysG N e need rnd) e y z (forceF (nI t))) := rfl
def needF (rnd st : Nat) : Nat := (rnd * 100 + (100 + st) - 1) / (100 + st)
/-- a turn at height, tension, stretch: by what the pallet is given up, or 0 -/
def turnN (fu e lim rnd z : Nat) (q : Nat × Nat × Nat) (N : Nat → Int32) : Nat × (Nat → Int32) :=
  if tB lim (mostW N e q.1 z) q.2.1 = 0 ∧ 0 < q.2.1 then (0, addC (addC N 16 (nI 1)) (e + 3) (nI 1)) else fetchN e (tB lim (mostW N e q.1 z) q.2.1) (needF rnd q.2.2) rnd q.1 z fu N
