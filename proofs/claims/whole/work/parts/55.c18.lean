/-! drop -/
theorem palsL_len (w : Nat) (f : Nat → Nat → Int32) : (palsL w f).length = w := by simp [palsL]
theorem palsL_get {w : Nat} {f : Nat → Nat → Int32} {k : Nat} (h : k < (palsL w f).length) : (palsL w f)[k] = palT (f k) := by simp [palsL]
theorem er_perm {α : Type} : ∀ (l : List α) (i : Nat) (h : i < l.length), (l[i] :: l.eraseIdx i).Perm l := by
  intro l
  induction l with
  | nil => intro i h; exact absurd h (by simp)
  | cons a t ih =>
    intro i h
    cases i with
    | zero => exact List.Perm.refl _
    | succ i =>
      have h2 : i < t.length := by simpa using h
      show (t[i] :: a :: t.eraseIdx i).Perm (a :: t)
      exact (List.Perm.swap a t[i] _).trans ((ih i h2).cons a)
theorem palsL_erase {w i : Nat} {f f' : Nat → Nat → Int32} (hi : i < w) (e : ∀ j, j < w - 1 → ∀ q, q < 6 → f' j q = f (skp i j) q) : palsL (w - 1) f' = (palsL w f).eraseIdx i := by
  refine List.ext_getElem ?_ (fun k h1 h2 => ?_)
  · rw [palsL_len, List.length_eraseIdx, palsL_len, if_pos hi]
  · rw [palsL_len] at h1
    rw [palsL_get, palT_congr (e k h1), List.getElem_eraseIdx]
    unfold skp
    by_cases c : k < i
    · rw [dif_pos c, if_pos c, palsL_get]
    · rw [dif_neg c, if_neg c, palsL_get]
theorem palsR_drop {w i k : Nat} {f f' F F' : Nat → Nat → Int32} (v : palsR w f F) (hi : i < w) (hk : k < w) (e : ∀ q, q < 6 → f i q = F k q) (e1 : ∀ j, j < w - 1 → ∀ q, q < 6 → f' j q = f (skp i j) q) (e2 : ∀ j, j < w - 1 → ∀ q, q < 6 → F' j q = F (skp k j) q) : palsR (w - 1) f' F' := by
  refine ⟨?_, fun a b h1 h2 => ?_⟩
  · rw [palsL_erase hi e1, palsL_erase hk e2]
    have p1 := er_perm (palsL w f) i (by rw [palsL_len]; exact hi)
    have p2 := er_perm (palsL w F) k (by rw [palsL_len]; exact hk)
    rw [palsL_get, palT_congr e] at p1
    rw [palsL_get] at p2
    exact (p1.trans (v.1.trans p2.symm)).cons_inv
  · have s1 : skp i a < skp i b := by unfold skp; (repeat' split) <;> omega
    have s2 : skp i b < w := by unfold skp; split <;> omega
    have := v.2 _ _ s1 s2
    unfold befG at *
    rw [e1 a (by omega) 5 (by omega), e1 a (by omega) 0 (by omega), e1 b h2 5 (by omega), e1 b h2 0 (by omega)]
    exact this
theorem palletGoesN_ne {N : Nat → Int32} {w k j : Nat} (h1 : j ≠ 1) (h2 : j < 140 ∨ 134 + 6 * w ≤ j) : palletGoesN N w k j = N j := by
  unfold palletGoesN
  rw [if_neg h1, if_neg (by omega)]
theorem palletGoesN_p {N : Nat → Int32} {w k i f : Nat} (hi : i < w - 1) (hf : f < 6) : palG (palletGoesN N w k) i f = palG N (skp k i) f := by
  unfold palG palletGoesN skp
  rw [if_neg (by omega)]
  by_cases z1 : i < k
  · rw [if_neg (by omega), if_pos z1]
  · rw [if_pos (by omega), if_neg z1]
    exact congrArg N (by omega)
theorem INV_drop {N : Nat → Int32} {K c w d nx lo hi k : Nat} {acc : List (Nat × Nat)} (iv : INV N K c w d nx lo hi acc) (hk : k < w) : INV (palletGoesN N w k) K c (w - 1) d nx lo hi acc := by
  obtain ⟨a1, ⟨b1, b2, b3, b4⟩, a3, ⟨th, a4, a4'⟩, ⟨pa, a5, a5'⟩, ⟨a6, a6'⟩, ⟨a7, a7'⟩, a8, ⟨a9, a10, a11, a12⟩, a13, a14⟩ := iv
  have e : ∀ j, j ≠ 1 → (j < 140 ∨ 188 ≤ j) → palletGoesN N w k j = N j := fun j h1 h2 => palletGoesN_ne h1 (by omega)
  have skl : ∀ i, i < w - 1 → skp k i < w := fun i hi => by unfold skp; split <;> omega
  refine ⟨RI_congr (fun q hq => e q (by omega) (by omega)) a1, ⟨?_, by omega, fun i hi => pOk_congr (fun f hf => palletGoesN_p hi hf) (b3 _ (skl i hi)), fun i j hij hj => ?_⟩, SI_congr (fun q hq => e q (by omega) (by omega)) a3, ⟨th, (e 4 (by omega) (by omega)).trans a4, a4'⟩, ⟨pa, (e 5 (by omega) (by omega)).trans a5, a5'⟩, ⟨(e 7 (by omega) (by omega)).trans a6, a6'⟩, ⟨(e 2 (by omega) (by omega)).trans a7, a7'⟩, fun i hi => ?_, ⟨(e 18 (by omega) (by omega)).trans a9, a10, (e 19 (by omega) (by omega)).trans a11, a12⟩, fun i hi => ?_, fun q hq => (e q (by omega) (by omega)).trans (a14 q hq)⟩
  · unfold palletGoesN; rw [if_pos rfl]
  · rw [palletGoesN_p (by omega) (by omega), palletGoesN_p hj (by omega)]
    refine b4 _ _ ?_ (skl j hj)
    unfold skp
    (repeat' split) <;> omega
  · rw [palletGoesN_p hi (by omega)]; exact a8 _ (skl i hi)
  · rw [e _ (by omega) (by omega)]; exact a13 i hi
