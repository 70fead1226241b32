theorem palsL_ins {w ix : Nat} {f f' : Nat → Nat → Int32} {g : Nat → Int32} (hi : ix ≤ w) (e1 : ∀ j, j < ix → ∀ q, q < 6 → f' j q = f j q) (e2 : ∀ q, q < 6 → f' ix q = g q) (e3 : ∀ j, ix < j → j ≤ w → ∀ q, q < 6 → f' j q = f (j - 1) q) : palsL (w + 1) f' = (palsL w f).take ix ++ palT g :: (palsL w f).drop ix := by
  refine List.ext_getElem ?_ (fun k h1 h2 => ?_)
  · simp [palsL_len]; omega
  · rw [palsL_len] at h1
    rw [palsL_get]
    have e : (List.take ix (palsL w f)).length = ix := by simp [palsL_len]; omega
    by_cases c : k < ix
    · rw [palT_congr (e1 k c), List.getElem_append_left (by omega), List.getElem_take, palsL_get]
    · rw [List.getElem_append_right (by omega)]
      by_cases c2 : k = ix
      · subst c2
        rw [palT_congr e2]
        simp [e]
      · rw [palT_congr (e3 k (by omega) (by omega))]
        obtain ⟨j, rfl⟩ : ∃ j, k = ix + (j + 1) := ⟨k - ix - 1, by omega⟩
        simp only [e, Nat.add_sub_cancel_left, List.getElem_cons_succ, List.getElem_drop, palsL_get]
        rw [show ix + (j + 1) - 1 = ix + j from by omega]
theorem palsR_insert {w ix : Nat} {f f' F F' : Nat → Nat → Int32} {g : Nat → Int32} (v : palsR w f F) (hi : ix ≤ w) (e1 : ∀ j, j < ix → ∀ q, q < 6 → f' j q = f j q) (e2 : ∀ q, q < 6 → f' ix q = g q) (e3 : ∀ j, ix < j → j ≤ w → ∀ q, q < 6 → f' j q = f (j - 1) q) (eF : ∀ j, j < w → ∀ q, q < 6 → F' j q = F j q) (eg : ∀ q, q < 6 → F' w q = g q) (b1 : ∀ j, j < ix → befG (f j) g) (b2 : ∀ j, ix ≤ j → j < w → befG g (f j)) : palsR (w + 1) f' F' := by
  refine ⟨?_, fun i j hij hj => ?_⟩
  · have e : palsL (w + 1) F' = palsL w F' ++ [palT (F' w)] := by simp [palsL, List.range_succ]
    rw [palsL_ins hi e1 e2 e3, e, palsL_congr eF, palT_congr eg]
    refine List.perm_middle.trans ?_
    rw [List.take_append_drop]
    exact (v.1.cons _).trans (List.perm_append_singleton _ _).symm
  · have tr : ∀ a b : Nat → Int32, ∀ a' b' : Nat → Int32, (∀ q, q < 6 → a' q = a q) → (∀ q, q < 6 → b' q = b q) → befG a b → befG a' b' := by
      intro a b a' b' h1 h2 h
      unfold befG at *
      rw [h1 5 (by omega), h1 0 (by omega), h2 5 (by omega), h2 0 (by omega)]
      exact h
    by_cases c : i < ix
    · by_cases d : j < ix
      · exact tr _ _ _ _ (e1 i c) (e1 j d) (v.2 i j hij (by omega))
      · by_cases d2 : j = ix
        · rw [d2]; exact tr _ _ _ _ (e1 i c) e2 (b1 i c)
        · exact tr _ _ _ _ (e1 i c) (e3 j (by omega) (by omega)) (v.2 i (j - 1) (by omega) (by omega))
    · by_cases c2 : i = ix
      · rw [c2]; exact tr _ _ _ _ e2 (e3 j (by omega) (by omega)) (b2 (j - 1) (by omega) (by omega))
      · exact tr _ _ _ _ (e3 i (by omega) (by omega)) (e3 j (by omega) (by omega)) (v.2 (i - 1) (j - 1) (by omega) (by omega))
theorem insN_P {r : Nat → Nat} {ix w base : Nat} (p : RowP r 8 base 1) (hi : ix ≤ w) (hn : w < 8) {r' : Nat → Nat} (e : ∀ j, j < 8 → r' j = insN r ix w j) : RowP r' 8 base 1 := by
  refine RowP_of p (fun j => if j < ix then j else if j = ix then w else if j ≤ w then j - 1 else j) (fun j hj => ?_) (fun j hj => ?_) (fun a b h1 h2 => ?_)
  · rw [e j hj]
    unfold insN
    (repeat' split) <;> rfl
  · (repeat' split) <;> omega
  · (repeat' split) <;> omega

