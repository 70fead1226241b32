/-! THE MODEL'S HEAP in one form: the object's numbers F, its rows now N, states S, aside A, text T, read R; and the plain small methods of both classes -/
theorem upd_eq (f : Nat → Int32) (k : Nat) (x : Int32) : upd f k x k = x := pk_us
theorem upd_ne (f : Nat → Int32) {k j : Nat} (x : Int32) (h : j ≠ k) : upd f k x j = f j := pk_un h
section HM
variable (h : AH) (m : Nat) (F N S A T R : Nat → Int32)
theorem up2_row {α : Type} (f : Nat → Nat → α) (a k : Nat) (v : α) (b : Nat) : up2 f a k v b = if b = a then (fun j => if j = k then v else f a j) else f b := by
  funext j
  unfold up2
  by_cases hb : b = a
  · subst hb; simp
  · simp [hb]
end HM
/-! in and outside -/
theorem t8_outside {ω : Om} {h : AH} {Q : Option Value → AH → Prop} (hw : ω.2.2.2.1 = true) {x lo hi : Int32} (q0 : lo ≤ x → x ≤ hi → Q (some (.int 0)) h) (q1 : ¬ (lo ≤ x ∧ x ≤ hi) → Q (some (.int 1)) h) : Ex ω M8_outside 0 [some (.int x), some (.int lo), some (.int hi)] [] h 0 0 Q := by
  refine B8_outside_0 hw (fun c1 => ?_) (fun c1 => ?_)
  · exact B8_outside_10 hw (B8_outside_15 hw rfl (q1 (fun z => Int32.not_le.mpr c1 z.1)))
  · refine B8_outside_5 hw (fun c2 => ?_) (fun c2 => ?_)
    · exact B8_outside_14 hw (B8_outside_15 hw rfl (q0 (Int32.not_lt.mp c1) c2))
    · exact B8_outside_10 hw (B8_outside_15 hw rfl (q1 (fun z => c2 z.2)))
/-! the model's small ones -/
def lesser (a b : Int32) : Int32 := if a < b then a else b
def forceF (t : Int32) : Int32 := t * nI 141 / nI 100
