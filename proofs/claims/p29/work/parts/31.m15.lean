/-! the course of a program, and a step of the model -/
def upL (top a ten st : Nat) : Nat → Nat → List (Nat × Nat × Nat)
  | 0, _ => []
  | f + 1, h => if h < top then (min (h + a) top, ten, st) :: upL top a ten st f (min (h + a) top) else []
def dnL (a ten st : Nat) : Nat → Nat → List (Nat × Nat × Nat)
  | 0, _ => []
  | f + 1, h => if 0 < h then (h - a, ten, st) :: dnL a ten st f (h - a) else []
def stL (top : Nat) (q : Nat × Nat) (s : Nat × Nat × Nat) : List (Nat × Nat × Nat) := if q.1 = 0 then List.replicate q.2 s else if q.1 = 1 then upL top q.2 s.2.1 s.2.2 top s.1 else if q.1 = 2 then dnL q.2 s.2.1 s.2.2 s.1 s.1 else []
def stE (top : Nat) (q : Nat × Nat) (s : Nat × Nat × Nat) : Nat × Nat × Nat := if q.1 = 0 then s else if q.1 = 1 then (max s.1 top, s.2) else if q.1 = 2 then (0, s.2) else if q.1 = 3 then (s.1, q.2, s.2.2) else (s.1, s.2.1, q.2)
def crsL (top : Nat) : List (Nat × Nat) → Nat × Nat × Nat → List (Nat × Nat × Nat)
  | [], _ => []
  | q :: r, s => stL top q s ++ crsL top r (stE top q s)
def runT (fu e lim rnd z : Nat) : List (Nat × Nat × Nat) → (Nat → Int32) → Nat × (Nat → Int32)
  | [], N => (0, N)
  | q :: l, N => if (turnN fu e lim rnd z q N).1 = 0 then runT fu e lim rnd z l (turnN fu e lim rnd z q N).2 else turnN fu e lim rnd z q N
theorem runT_cons (fu e lim rnd z : Nat) (q : Nat × Nat × Nat) (l : List (Nat × Nat × Nat)) (N : Nat → Int32) : runT fu e lim rnd z (q :: l) N = if (turnN fu e lim rnd z q N).1 = 0 then runT fu e lim rnd z l (turnN fu e lim rnd z q N).2 else turnN fu e lim rnd z q N := rfl
def TLe (l : List (Nat × Nat × Nat)) : Prop := ∀ q ∈ l, q.1 ≤ 1000 ∧ q.2.1 ≤ 1000 ∧ q.2.2 ≤ 1000
theorem run_inv {fu e z lim rnd th : Nat} (he1 : 212 ≤ e) (he2 : e ≤ 532) (hz : z ≤ 25) (hl : lim ≤ 5000) (hr : rnd ≤ 1000) : ∀ (l : List (Nat × Nat × Nat)) (N : Nat → Int32) (c : Nat), TLe l → TI N e z lim c th → meas N c < fu → ∃ c', TI (runT fu e lim rnd z l N).2 e z lim c' th ∧ TFr e N (runT fu e lim rnd z l N).2 ∧ meas (runT fu e lim rnd z l N).2 c' ≤ meas N c ∧ (runT fu e lim rnd z l N).1 ≤ 2 := by
  intro l
  induction l with
  | nil => intro N c _ ti _; exact ⟨c, ti, TFr.refl _ _, Nat.le_refl _, (by decide : 0 ≤ 2)⟩
  | cons q l ih =>
    intro N c tl ti hm
    rw [runT_cons]
    have q1 := tl q (List.mem_cons_self ..)
    obtain ⟨c2, a1, a2, a3, a4⟩ := turn_inv (fu := fu) (q := q) he1 he2 hz hl hr q1.2.1 q1.2.2 ti hm
    by_cases g : (turnN fu e lim rnd z q N).1 = 0
    · rw [if_pos g]
      obtain ⟨c3, b1, b2, b3, b4⟩ := ih _ c2 (fun x hx => tl x (List.mem_cons_of_mem _ hx)) a1 (by omega)
      exact ⟨c3, b1, a2.trans b2, by omega, b4⟩
    · rw [if_neg g]; exact ⟨c2, a1, a2, a3, a4⟩
