theorem addPalletN_ne {N : Nat → Int32} {w j : Nat} {a b c d e : Int32} (h1 : j ≠ 1) (h2 : j ≠ 2) (h3 : j < 140 + 6 * w ∨ 146 + 6 * w ≤ j) : addPalletN N w a b c d e j = N j := by
  unfold addPalletN
  rw [if_neg h1, if_neg h2, if_neg (by omega), if_neg (by omega), if_neg (by omega), if_neg (by omega), if_neg (by omega), if_neg (by omega)]
theorem addPalletN_p {N : Nat → Int32} {w : Nat} {a b c d e : Int32} : palG (addPalletN N w a b c d e) w 0 = N 2 ∧ palG (addPalletN N w a b c d e) w 1 = a ∧ palG (addPalletN N w a b c d e) w 2 = b ∧ palG (addPalletN N w a b c d e) w 3 = c ∧ palG (addPalletN N w a b c d e) w 4 = d ∧ palG (addPalletN N w a b c d e) w 5 = e := by
  unfold palG addPalletN
  refine ⟨?_, ?_, ?_, ?_, ?_, ?_⟩
  · rw [if_neg (by omega), if_neg (by omega), if_pos (by omega)]
  · rw [if_neg (by omega), if_neg (by omega), if_neg (by omega), if_pos (by omega)]
  · rw [if_neg (by omega), if_neg (by omega), if_neg (by omega), if_neg (by omega), if_pos (by omega)]
  · rw [if_neg (by omega), if_neg (by omega), if_neg (by omega), if_neg (by omega), if_neg (by omega), if_pos (by omega)]
  · rw [if_neg (by omega), if_neg (by omega), if_neg (by omega), if_neg (by omega), if_neg (by omega), if_neg (by omega), if_pos (by omega)]
  · rw [if_neg (by omega), if_neg (by omega), if_neg (by omega), if_neg (by omega), if_neg (by omega), if_neg (by omega), if_neg (by omega), if_pos (by omega)]
theorem INV_addPallet {N : Nat → Int32} {K c0 w d0 nx lo hi : Nat} {acc : List (Nat × Nat)} {a b c d e : Int32} (iv : INV N K c0 w d0 nx lo hi acc) (hK : K < 2 ^ 28) (ok : okPal a b c d e) (w8 : w < 8) : INV (addPalletN N w a b c d e) (K + 1) c0 (w + 1) d0 (nx + 1) lo hi acc := by
  obtain ⟨a1, ⟨b1, b2, b3, b4⟩, a3, ⟨th, a4, a4'⟩, ⟨pa, a5, a5'⟩, ⟨a6, a6'⟩, ⟨a7, a7'⟩, a8, ⟨a9, a10, a11, a12⟩, a13, a14⟩ := iv
  have en : ∀ j, j ≠ 1 → j ≠ 2 → (j < 140 ∨ 188 ≤ j) → addPalletN N w a b c d e j = N j := fun j h1 h2 h3 => addPalletN_ne h1 h2 (by omega)
  have old : ∀ i, i < w → ∀ f, f < 6 → palG (addPalletN N w a b c d e) i f = palG N i f := fun i hi f hf => addPalletN_ne (by omega) (by omega) (by omega)
  obtain ⟨p0, p1, p2, p3, p4, p5⟩ := addPalletN_p (N := N) (w := w) (a := a) (b := b) (c := c) (d := d) (e := e)
  obtain ⟨o1, o2, o3, o4, o5⟩ := ok
  obtain ⟨na, rfl, q1, q2⟩ := bd_of (by omega) (by omega) o1.1 o1.2
  obtain ⟨nb, rfl, q3, q4⟩ := bd_of (by omega) (by omega) o2.1 o2.2
  obtain ⟨nc, rfl, q5, q6⟩ := bd_of (by omega) (by omega) o3.1 o3.2
  obtain ⟨nd, rfl, _, q8⟩ := bd_of (lo := 0) (by omega) (by omega) o4.1 o4.2
  obtain ⟨ne, rfl, _, q10⟩ := bd_of (lo := 0) (by omega) (by omega) o5.1 o5.2
  refine ⟨RI_congr (fun q hq => en q (by omega) (by omega) (by omega)) a1, ⟨?_, by omega, fun i hi => ?_, fun i j hij hj => ?_⟩, SI_congr (fun q hq => en q (by omega) (by omega) (by omega)) a3, ⟨th, (en 4 (by omega) (by omega) (by omega)).trans a4, a4'⟩, ⟨pa, (en 5 (by omega) (by omega) (by omega)).trans a5, a5'⟩, ⟨(en 7 (by omega) (by omega) (by omega)).trans a6, by omega⟩, ⟨?_, by omega⟩, fun i hi => ?_, ⟨(en 18 (by omega) (by omega) (by omega)).trans a9, a10, (en 19 (by omega) (by omega) (by omega)).trans a11, by omega⟩, fun i hi => ?_, fun q hq => (en q (by omega) (by omega) (by omega)).trans (a14 q hq)⟩
  · unfold addPalletN; rw [if_pos rfl]
  · by_cases z : i = w
    · subst z
      exact ⟨nx, na, nb, nc, nd, ne, p0.trans a7, by omega, p1, q1, q2, p2, q3, q4, p3, q5, q6, p4, q8, p5, q10⟩
    · exact pOk_congr (old i (by omega)) (b3 i (by omega))
  · rw [old i (by omega) 0 (by omega)]
    by_cases z : j = w
    · rw [z, p0, a7]
      obtain ⟨n, hn, e⟩ := a8 i (by omega)
      rw [e]
      intro q
      rw [nI_eq (by omega) (by omega)] at q
      omega
    · rw [old j (by omega) 0 (by omega)]; exact b4 i j hij (by omega)
  · unfold addPalletN
    rw [if_neg (by omega), if_pos rfl, a7, nI_add]
  · by_cases z : i = w
    · rw [z]; exact ⟨nx, by omega, p0.trans a7⟩
    · obtain ⟨n, hn, e⟩ := a8 i (by omega)
      exact ⟨n, by omega, (old i (by omega) 0 (by omega)).trans e⟩
  · rw [en _ (by omega) (by omega) (by omega)]; exact a13 i hi

