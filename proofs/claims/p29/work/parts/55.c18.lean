/-! drop -/
theorem palsL_len (w : Nat) (f : Nat → Nat → Int32) : (palsL w f).length = w := by simp [palsL]
theorem palsL_get {w : Nat} {f : Nat → Nat → Int32} {k : Nat} (h : k < (palsL w f).length) : (palsL w f)[k] = palT (f k) := by simp [palsL]
theorem er_perm {α : Type} : ∀ (l : List α) (i : Nat) (h : i < l.length), (l[i] :: l.eraseIdx i).Perm l := by
  intro l
  induction l with
  | nil => intro i h; exact absurd h (by simp)
  | cons a t ih =>
    intro i h
    cases i with
    | zero => exact List.Perm.refl _
    | succ i =>
      have h2 : i < t.length := by simpa using h
      show (t[i] :: a :: t.eraseIdx i).Perm (a :: t)
      exact (List.Perm.swap a t[i] _).trans ((ih i h2).cons a)
theorem palsL_erase {w i : Nat} {f f' : Nat → Nat → Int32} (hi : i < w) (e : ∀ j, j < w - 1 → ∀ q, q < 6 → f' j q = f (skp i j) q) : palsL (w - 1) f' = (palsL w f).eraseIdx i := by
  refine List.ext_getElem ?_ (fun k h1 h2 => ?_)
  · rw [palsL_len, List.length_eraseIdx, palsL_len, if_pos hi]
  · rw [palsL_len] at h1
    rw [palsL_get, palT_congr (e k h1), List.getElem_eraseIdx]
    unfold skp
    by_cases c : k < i
    · rw [dif_pos c, if_pos c, palsL_get]
    · rw [dif_neg c, if_neg c, palsL_get]
theorem palsR_drop {w i k : Nat} {f f' F F' : Nat → Nat → Int32} (v : palsR w f F) (hi : i < w) (hk : k < w) (e : ∀ q, q < 6 → f i q = F k q) (e1 : ∀ j, j < w - 1 → ∀ q, q < 6 → f' j q = f (skp i j) q) (e2 : ∀ j, j < w - 1 → ∀ q, q < 6 → F' j q = F (skp k j) q) : palsR (w - 1) f' F' := by
  refine ⟨?_, fun a b h1 h2 => ?_⟩
  · rw [palsL_erase hi e1, palsL_erase hk e2]
    have p1 := er_perm (palsL w f) i (by rw [palsL_len]; exact hi)
    have p2 := er_perm (palsL w F) k (by rw [palsL_len]; exact hk)
    rw [palsL_get, palT_congr e] at p1
    rw [palsL_get] at p2
    exact (p1.trans (v.1.trans p2.symm)).cons_inv
  · have s1 : skp i a < skp i b := by unfold skp; (repeat' split) <;> omega
    have s2 : skp i b < w := by unfold skp; split <;> omega
    have := v.2 _ _ s1 s2
    unfold befG at *
    rw [e1 a (by omega) 5 (by omega), e1 a (by omega) 0 (by omega), e1 b h2 5 (by omega), e1 b h2 0 (by omega)]
    exact this
