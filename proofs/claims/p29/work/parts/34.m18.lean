/-! what a wrapping keeps -/
def INV (N : Nat → Int32) (K c w d nx lo hi : Nat) (acc : List (Nat × Nat)) : Prop := RI N c ∧ PI N w ∧ SI N acc ∧ (∃ th : Nat, N 4 = nI th ∧ th ≤ 500) ∧ (∃ pa : Nat, N 5 = nI pa ∧ pa ≤ 20) ∧ (N 7 = nI d ∧ d ≤ K) ∧ (N 2 = nI nx ∧ nx ≤ K) ∧ (∀ i, i < w → ∃ n : Nat, n < nx ∧ palG N i 0 = nI n) ∧ (N 18 = nI lo ∧ lo < 1000000000 ∧ N 19 = nI hi ∧ hi ≤ K) ∧ (∀ i, i < 6 → ∃ z : Nat, z ≤ 25 ∧ N (212 + 64 * i + 12) = nI z) ∧ Z596 N
theorem pOk_congr {g g' : Nat → Int32} (e : ∀ k, k < 6 → g' k = g k) (h : pOk g) : pOk g' := by
  obtain ⟨n, wd, dp, hi, lim, du, g0, gn, g1, g1a, g1b, g2, g2a, g2b, g3, g3a, g3b, g4, g4b, g5, g5b⟩ := h
  exact ⟨n, wd, dp, hi, lim, du, (e 0 (by omega)).trans g0, gn, (e 1 (by omega)).trans g1, g1a, g1b, (e 2 (by omega)).trans g2, g2a, g2b, (e 3 (by omega)).trans g3, g3a, g3b, (e 4 (by omega)).trans g4, g4b, (e 5 (by omega)).trans g5, g5b⟩
/-- where a pallet stood before another went -/
def skp (k i : Nat) : Nat := if i < k then i else i + 1
theorem startN_pal {N : Nat → Int32} {w k e z i f : Nat} (he1 : 212 ≤ e) (hw8 : w ≤ 8) (hk : k < w) (hi : i < w - 1) (hf : f < 6) : palG (startN N w k e z) i f = palG N (skp k i) f := by
  unfold palG startN palletGoesN skp
  rw [if_neg (by omega)]
  by_cases z1 : i < k
  · rw [if_neg (by omega), if_pos z1, upd_ne _ _ (by omega), upd_ne _ _ (by omega)]
    exact if_neg (by omega)
  · rw [if_pos (by omega), if_neg z1, upd_ne _ _ (by omega), upd_ne _ _ (by omega)]
    refine (if_neg (by omega)).trans (congrArg N (by omega))
theorem startN_1 {N : Nat → Int32} {w k e z : Nat} : startN N w k e z 1 = nI (w - 1) := by
  unfold startN palletGoesN
  rw [if_pos rfl]
theorem startN_12 {N : Nat → Int32} {w k e z : Nat} (he1 : 212 ≤ e) (hw8 : w ≤ 8) : startN N w k e z (e + 12) = nI z := by
  unfold startN palletGoesN
  rw [if_neg (by omega), if_neg (by omega), upd_eq]
theorem startN_0 {N : Nat → Int32} {w k e z : Nat} (he1 : 212 ≤ e) (hw8 : w ≤ 8) : startN N w k e z e = N (140 + 6 * k) := by
  unfold startN palletGoesN
  rw [if_neg (by omega), if_neg (by omega), upd_ne _ _ (by omega), upd_eq]
theorem finN_ne {N : Nat → Int32} {e z g j : Nat} (h1 : j ≠ 7) (h2 : j ≠ 17) (h3 : j ≠ 18) (h4 : j ≠ 19) (h5 : j ≠ e + 1) (h6 : j ≠ e + 8) (h7 : j ≠ e + 9) : finN N e z g j = N j := by
  unfold finN endN
  rw [addC_ne _ _ h1, upd_ne _ _ h3, upd_ne _ _ h4, addC_ne _ _ h2, upd_ne _ _ h7, upd_ne _ _ h6, upd_ne _ _ h5]
theorem finN_7 {N : Nat → Int32} {e z g : Nat} (he1 : 212 ≤ e) : finN N e z g 7 = N 7 + nI 1 := by
  unfold finN endN
  rw [addC_eq, upd_ne _ _ (by omega), upd_ne _ _ (by omega), addC_ne _ _ (by omega), upd_ne _ _ (by omega), upd_ne _ _ (by omega), upd_ne _ _ (by omega)]
theorem finN_18 {N : Nat → Int32} {e z g : Nat} : finN N e z g 18 = N 18 + N (e + 11) - (N 18 + N (e + 11)) / nI 1000000000 * nI 1000000000 := by
  unfold finN
  rw [addC_ne _ _ (by omega), upd_eq]
theorem finN_19 {N : Nat → Int32} {e z g : Nat} : finN N e z g 19 = N 19 + (N 18 + N (e + 11)) / nI 1000000000 := by
  unfold finN
  rw [addC_ne _ _ (by omega), upd_ne _ _ (by omega), upd_eq]
theorem finN_17 {N : Nat → Int32} {e z g : Nat} (he1 : 212 ≤ e) : finN N e z g 17 = N 17 + nI (if g = 0 then 0 else 1) := by
  unfold finN endN
  rw [addC_ne _ _ (by omega), upd_ne _ _ (by omega), upd_ne _ _ (by omega), addC_eq, upd_ne _ _ (by omega), upd_ne _ _ (by omega), upd_ne _ _ (by omega)]
theorem finN_1 {N : Nat → Int32} {e z g : Nat} (he1 : 212 ≤ e) : finN N e z g (e + 1) = nI g := by
  unfold finN endN
  rw [addC_ne _ _ (by omega), upd_ne _ _ (by omega), upd_ne _ _ (by omega), addC_ne _ _ (by omega), upd_ne _ _ (by omega), upd_ne _ _ (by omega), upd_eq]
theorem finN_8 {N : Nat → Int32} {e z g : Nat} (he1 : 212 ≤ e) : finN N e z g (e + 8) = leastL N e z := by
  unfold finN endN
  rw [addC_ne _ _ (by omega), upd_ne _ _ (by omega), upd_ne _ _ (by omega), addC_ne _ _ (by omega), upd_ne _ _ (by omega), upd_eq]
theorem finN_9 {N : Nat → Int32} {e z g : Nat} (he1 : 212 ≤ e) : finN N e z g (e + 9) = mostL N e z := by
  unfold finN endN
  rw [addC_ne _ _ (by omega), upd_ne _ _ (by omega), upd_ne _ _ (by omega), addC_ne _ _ (by omega), upd_eq]
/-- the run of a wrapping, in one word -/
def runW (fu : Nat) (N : Nat → Int32) (w k d : Nat) (acc : List (Nat × Nat)) : Nat × (Nat → Int32) := runT fu (entE d) (palV N k 4) (2 * (palV N k 1 + palV N k 2)) ((palV N k 3 + 9) / 10) (crsL (palV N k 3 - 50) acc (0, 40, 100)) (startN N w k (entE d) ((palV N k 3 + 9) / 10))
theorem wrapsN_eq (fu : Nat) (N : Nat → Int32) (w k d : Nat) (acc : List (Nat × Nat)) : wrapsN fu N w k d acc = ((runW fu N w k d acc).1, finN (runW fu N w k d acc).2 (entE d) ((palV N k 3 + 9) / 10) (runW fu N w k d acc).1) := rfl
theorem entE_b (d : Nat) : 212 ≤ entE d ∧ entE d ≤ 532 := by unfold entE; omega
theorem runW_inv {fu : Nat} {N : Nat → Int32} {K c w k d nx lo hi : Nat} {acc : List (Nat × Nat)} (iv : INV N K c w d nx lo hi acc) (hk : k < w) (hfu : 600007 ≤ fu) : ∃ c' th, TI (runW fu N w k d acc).2 (entE d) ((palV N k 3 + 9) / 10) (palV N k 4) c' th ∧ TFr (entE d) (startN N w k (entE d) ((palV N k 3 + 9) / 10)) (runW fu N w k d acc).2 ∧ (runW fu N w k d acc).1 ≤ 2 ∧ 1 ≤ (palV N k 3 + 9) / 10 ∧ (palV N k 3 + 9) / 10 ≤ 25 ∧ palV N k 4 ≤ 5000 := by
  obtain ⟨ri, pi, si, ⟨th, hth, ht⟩, -⟩ := iv
  have hw8 := pi.2.1
  obtain ⟨n, wd, dp, hh, lim, du, g0, gn, g1, g1a, g1b, g2, g2a, g2b, g3, g3a, g3b, g4, g4b, g5, g5b⟩ := pi.2.2.1 k hk
  have p1 : palV N k 1 = wd := palV_eq g1 (by omega)
  have p2 : palV N k 2 = dp := palV_eq g2 (by omega)
  have p3 : palV N k 3 = hh := palV_eq g3 (by omega)
  have p4 : palV N k 4 = lim := palV_eq g4 (by omega)
  unfold runW
  rw [p1, p2, p3, p4]
  have ti := start_TI (N := N) (z := (hh + 9) / 10) (w := w) (k := k) (lim := lim) (entE_b d).1 hw8 (by omega) ri hth ht
  have ml := meas_le ti.1
  obtain ⟨c', b1, b2, b3, b4⟩ := run_inv (fu := fu) (rnd := 2 * (wd + dp)) (entE_b d).1 (entE_b d).2 (by omega) g4b (by omega) (crsL (hh - 50) acc (0, 40, 100)) _ c (crsL_le (by omega) acc _ si.2.2.1 ⟨by decide, by decide, by decide⟩) ti (by omega)
  exact ⟨c', th, b1, b2, b4, by omega, by omega, g4b⟩
theorem wraps_inv {fu : Nat} {N : Nat → Int32} {K c w k d nx lo hi : Nat} {acc : List (Nat × Nat)} (iv : INV N K c w d nx lo hi acc) (hK : K < 2 ^ 28) (hk : k < w) (hfu : 600007 ≤ fu) : (∃ c' lo' hi', INV (wrapsN fu N w k d acc).2 (K + 1) c' (w - 1) (d + 1) nx lo' hi' acc) ∧ (wrapsN fu N w k d acc).1 ≤ 2 := by
  obtain ⟨c', th, b1, b2, b4, hz1, hz, hl⟩ := runW_inv iv hk hfu
  rw [wrapsN_eq]
  obtain ⟨ri, pi, si, ⟨th', hth, ht⟩, ⟨pa, hpa, hp⟩, ⟨h7, h7d⟩, ⟨h2, h2n⟩, hnum, ⟨h18, hlo, h19, hhi⟩, hzo, hz6⟩ := iv
  have hw8 := pi.2.1
  obtain ⟨he1, he2⟩ := entE_b d
  have eE : entE d = 212 + 64 * (d % 6) := rfl
  generalize entE d = e at *
  generalize (palV N k 3 + 9) / 10 = z at *
  generalize palV N k 4 = lim at *
  generalize (runW fu N w k d acc).1 = g at *
  generalize (runW fu N w k d acc).2 = N1 at *
  dsimp only
  obtain ⟨ri1, h41, ht1, fo1, wv, hwv, hwb⟩ := b1
  have keep : ∀ j, ((1 < j ∧ j ≤ 5) ∨ (188 ≤ j ∧ j < e) ∨ e + 64 ≤ j) → finN N1 e z g j = N j := fun j hj => by
    rw [finN_ne (by omega) (by omega) (by omega) (by omega) (by omega) (by omega) (by omega), b2 j (by omega), startN_lo he1 hw8 (by omega) (by omega)]
  have pal : ∀ i, i < w - 1 → ∀ f, f < 6 → palG (finN N1 e z g) i f = palG N (skp k i) f := fun i hi f hf => by
    rw [← startN_pal (z := z) he1 hw8 hk hi hf]
    unfold palG
    rw [finN_ne (by omega) (by omega) (by omega) (by omega) (by omega) (by omega) (by omega), b2 _ (by omega)]
  have skl : ∀ i, i < w - 1 → skp k i < w := fun i hi => by unfold skp; split <;> omega
  refine ⟨⟨c', (lo + wv) % 1000000000, hi + (lo + wv) / 1000000000, ?_, ⟨?_, by omega, fun i hi => pOk_congr (fun f hf => pal i hi f hf) (pi.2.2.1 _ (skl i hi)), fun i j hij hj => ?_⟩, SI_congr (fun j hj => keep j (by omega)) si, ⟨th', (keep 4 (by omega)).trans hth, ht⟩, ⟨pa, (keep 5 (by omega)).trans hpa, hp⟩, ⟨?_, by omega⟩, ⟨(keep 2 (by omega)).trans h2, by omega⟩, fun i hi => ?_, ⟨?_, Nat.mod_lt _ (by omega), ?_, ?_⟩, fun i hi => ?_, fun j hj => (keep j (by omega)).trans (hz6 j hj)⟩, b4⟩
  · exact RI_congr (fun j hj => finN_ne (by omega) (by omega) (by omega) (by omega) (by omega) (by omega) (by omega)) ri1
  · rw [finN_ne (by omega) (by omega) (by omega) (by omega) (by omega) (by omega) (by omega), b2 1 (by omega), startN_1]
  · rw [pal i (by omega) 0 (by omega), pal j hj 0 (by omega)]
    refine pi.2.2.2 _ _ ?_ (skl j hj)
    unfold skp
    (repeat' split) <;> omega
  · rw [finN_7 he1, b2 7 (by omega), startN_lo he1 hw8 (by omega) (by omega), h7, nI_add]
  · rw [pal i hi 0 (by omega)]
    exact hnum _ (skl i hi)
  · rw [finN_18, b2 18 (by omega), startN_lo he1 hw8 (by omega) (by omega), h18, hwv, nI_add, pk_rem (by omega) (by omega) (by omega)]
  · rw [finN_19, b2 19 (by omega), b2 18 (by omega), startN_lo he1 hw8 (by omega) (by omega), startN_lo he1 hw8 (by omega) (by omega), h18, h19, hwv, nI_add, pk_div (by omega) (by omega) (by omega), nI_add]
  · omega
  · by_cases q : 212 + 64 * i = e
    · rw [q]
      refine ⟨z, hz, ?_⟩
      rw [finN_ne (by omega) (by omega) (by omega) (by omega) (by omega) (by omega) (by omega), b2 _ (by omega), startN_12 he1 hw8]
    · rw [keep _ (by omega)]
      exact hzo i hi

