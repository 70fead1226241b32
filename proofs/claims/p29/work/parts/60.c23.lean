theorem ValS_add {h h' : AH} {x : Nat} {N : Nat → Int32} {c0 w d0 ix A : Nat} {acc : List (Nat × Nat)} {a b c d e : Int32} (l : LayS h x) (v : ValS h x N c0 w d0 acc) (w8 : w < 8) (hnum : ∀ i, i < w → (palG N i 0).toInt < (N 2).toInt) (hA : pA h x w = A) (hi : ix ≤ w) (b1 : ∀ j, j < ix → gi h (pA h x j) 5 ≤ e) (b2 : ∀ j, ix ≤ j → j < w → e < gi h (pA h x j) 5) (hs : gs h' = gs h) (hl : gl h' = gl h) (go : ∀ q, q ≠ x → q ≠ A → gi h' q = gi h q) (gx : gi h' x = upd (upd (gi h x) 3 (nI (w + 1))) 4 (N 2 + nI 1)) (ga : gi h' A 0 = N 2 ∧ gi h' A 1 = a ∧ gi h' A 2 = b ∧ gi h' A 3 = c ∧ gi h' A 4 = d ∧ gi h' A 5 = e) (ro : ∀ q, q ≠ x + 20 → gr h' q = gr h q) (rp : ∀ j, j < 8 → gr h' (x + 20) j = insN (gr h (x + 20)) ix w j) : LayS h' x ∧ ValS h' x (addPalletN N w a b c d e) c0 (w + 1) d0 acc := by
  obtain ⟨⟨v1, v2, v3⟩, ⟨w1, w2, w3⟩, n1, ⟨k1, k2⟩, p1, s1, t1, t2⟩ := v
  obtain ⟨jA, hjA, eA, _⟩ := l.pal w8
  rw [hA] at eA
  have en : ∀ j, j ≠ 1 → j ≠ 2 → (j < 140 ∨ 188 ≤ j) → addPalletN N w a b c d e j = N j := fun j h1 h2 h3 => addPalletN_ne h1 h2 (by omega)
  have e1 : ∀ j, rA h' x j = rA h x j := fun j => by unfold rA; rw [ro _ (by omega)]
  have e3 : ∀ j, kA h' x j = kA h x j := fun j => by unfold kA; rw [ro _ (by omega)]
  have pne : ∀ j, j < w → pA h x j ≠ A := fun j hj => by rw [← hA]; exact l.pne (by omega) w8 (by omega)
  have q1 : ∀ j, j < ix → pA h' x j = pA h x j := fun j hj => by
    unfold pA; rw [rp j (by omega)]; unfold insN; rw [if_pos hj]
  have q2 : pA h' x ix = A := by
    unfold pA; rw [rp ix (by omega)]; unfold insN; rw [if_neg (by omega), if_pos rfl]; exact hA
  have q3 : ∀ j, ix < j → j ≤ w → pA h' x j = pA h x (j - 1) := fun j hj hj2 => by
    unfold pA; rw [rp j (by omega)]; unfold insN; rw [if_neg (by omega), if_neg (by omega), if_pos hj2]
  have pg : ∀ j, j < w → gi h' (pA h x j) = gi h (pA h x j) := fun j hj => by
    obtain ⟨jj, hjj, ej, _⟩ := l.pal (i := j) (by omega)
    exact go _ (by omega) (pne j hj)
  obtain ⟨g0, g1, g2, g3, g4, g5⟩ := addPalletN_p (N := N) (w := w) (a := a) (b := b) (c := c) (d := d) (e := e)
  obtain ⟨y0, y1, y2, y3, y4, y5⟩ := ga
  have num : ∀ j, j < w → (gi h (pA h x j) 0).toInt < (N 2).toInt := fun j hj => by
    obtain ⟨k, hk, _, ek⟩ := w3.fwd hj
    rw [ek 0 (by omega)]; exact hnum k hk
  refine ⟨⟨LSs_frm l.1 hs, LSf_frm l.2.1 hs (fun b hb => ro b (by omega)), by rw [ro _ (by omega)]; exact l.2.2.1, insN_P l.2.2.2.1 hi w8 rp, by rw [ro _ (by omega)]; exact l.2.2.2.2⟩, ⟨by rw [gx, upd_ne _ _ (by omega), upd_ne _ _ (by omega)]; exact v1, v2, fun j hj => ?_⟩, ⟨by rw [gx, upd_ne _ _ (by omega), upd_eq], by omega, ?_⟩, ?_, ⟨by rw [gx, upd_ne _ _ (by omega), upd_ne _ _ (by omega)]; exact k1, fun j hj => ?_⟩, ?_, ?_, by rw [gx, upd_ne _ _ (by omega), upd_ne _ _ (by omega), en 4 (by omega) (by omega) (by omega)]; exact t1, by rw [gx, upd_ne _ _ (by omega), upd_ne _ _ (by omega), en 5 (by omega) (by omega) (by omega)]; exact t2⟩
  · obtain ⟨jj, hjj, ej, _⟩ := l.roll (i := j) (by omega)
    rw [e1, go _ (by omega) (by omega), go _ (by omega) (by omega), go _ (by omega) (by omega)]
    obtain ⟨g4, wk, z3, z8, zw⟩ := v3 j hj
    have eg : ∀ q, q < 20 → rollG (addPalletN N w a b c d e) j q = rollG N j q := fun q hq => en _ (by omega) (by omega) (by omega)
    exact ⟨fun q hq => by rw [eg q (by omega)]; exact g4 q hq, wk, by rw [eg 3 (by omega)]; exact z3, z8, weakR_congr zw (fun _ _ => ⟨rfl, rfl⟩) (fun q hq => ⟨eg _ (by omega), eg _ (by omega)⟩)⟩
  · refine palsR_insert (g := gi h' A) w3 hi (fun j hj q hq => ?_) (fun q hq => ?_) (fun j hj hj2 q hq => ?_) (fun j hj q hq => addPalletN_ne (by omega) (by omega) (by omega)) (fun q hq => ?_) (fun j hj => ?_) (fun j hj hj2 => ?_)
    · show gi h' (pA h' x j) q = _; rw [q1 j hj, pg j (by omega)]
    · show gi h' (pA h' x ix) q = _; rw [q2]
    · show gi h' (pA h' x j) q = _; rw [q3 j hj hj2, pg (j - 1) (by omega)]
    · have : q = 0 ∨ q = 1 ∨ q = 2 ∨ q = 3 ∨ q = 4 ∨ q = 5 := by omega
      rcases this with rfl | rfl | rfl | rfl | rfl | rfl
      · exact g0.trans y0.symm
      · exact g1.trans y1.symm
      · exact g2.trans y2.symm
      · exact g3.trans y3.symm
      · exact g4.trans y4.symm
      · exact g5.trans y5.symm
    · have h1 := b1 j hj
      have h2 := num j (by omega)
      unfold befG
      rw [y5, y0]
      rw [Int32.le_iff_toInt_le] at h1
      omega
    · have h1 := b2 j hj hj2
      unfold befG
      rw [y5, y0]
      rw [Int32.lt_iff_toInt_lt] at h1
      omega
  · rw [gx, upd_eq]
    unfold addPalletN
    rw [if_neg (by omega), if_pos rfl]
  · obtain ⟨jj, hjj, ea, _⟩ := l.res (i := j) (by omega)
    have kb := keptB_b d0 j
    rw [e3, go _ (by omega) (by omega), go _ (by omega) (by omega), go _ (by omega) (by omega)]
    exact keptV_N (k2 j hj) (fun q h1 h2 => en q (by omega) (by omega) (by omega))
  · rw [go _ (by omega) (by omega), go _ (by omega) (by omega), go _ (by omega) (by omega)]; exact p1
  · rw [go _ (by omega) (by omega), hl]; exact sumV_N s1 (fun q h1 h2 => en q (by omega) (by omega) (by omega))

