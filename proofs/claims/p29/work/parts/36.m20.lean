/-! the model: plans -/
theorem upL_len (top a ten st : Nat) : ∀ f h, (upL top a ten st f h).length ≤ f := by
  intro f
  induction f with
  | zero => intro h; exact Nat.le_refl _
  | succ f ih =>
    intro h
    show (if h < top then (min (h + a) top, ten, st) :: upL top a ten st f (min (h + a) top) else []).length ≤ f + 1
    split
    · have := ih (min (h + a) top)
      simp only [List.length_cons]; omega
    · exact Nat.zero_le _
