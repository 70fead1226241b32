/-! the model: a pallet is wrapped -/
def aheadV (N : Nat → Int32) (i k : Nat) : Prop := (N (140 + 6 * i + 5)).toInt < (N (140 + 6 * k + 5)).toInt ∨ ((N (140 + 6 * i + 5)).toInt = (N (140 + 6 * k + 5)).toInt ∧ (N (140 + 6 * i + 0)).toInt < (N (140 + 6 * k + 0)).toInt)
theorem aheadP_iff {N : Nat → Int32} {i k : Nat} : aheadP N i k ↔ aheadV N i k := by
  unfold aheadP aheadV
  rw [Int32.lt_iff_toInt_lt, Int32.lt_iff_toInt_lt, Int32.toInt_inj]
/-- the pallet whose turn it is -/
def frontK (N : Nat → Int32) (w k : Nat) : Prop := k < w ∧ aheadC N k w = 0 ∧ ∀ j, j < k → aheadC N j w ≠ 0
def pOk (g : Nat → Int32) : Prop := ∃ n wd dp hi lim du : Nat, g 0 = nI n ∧ n < 2 ^ 29 ∧ g 1 = nI wd ∧ 20 ≤ wd ∧ wd ≤ 200 ∧ g 2 = nI dp ∧ 20 ≤ dp ∧ dp ≤ 200 ∧ g 3 = nI hi ∧ 10 ≤ hi ∧ hi ≤ 250 ∧ g 4 = nI lim ∧ lim ≤ 5000 ∧ g 5 = nI du ∧ du ≤ 9999
def palG (N : Nat → Int32) (i : Nat) : Nat → Int32 := fun k => N (140 + 6 * i + k)
def PI (N : Nat → Int32) (w : Nat) : Prop := N 1 = nI w ∧ w ≤ 8 ∧ (∀ i, i < w → pOk (palG N i)) ∧ ∀ i j, i < j → j < w → palG N i 0 ≠ palG N j 0
def SI (N : Nat → Int32) (acc : List (Nat × Nat)) : Prop := N 3 = nI acc.length ∧ acc.length ≤ 12 ∧ StepsOk acc ∧ RowA (fun j => N (188 + j)) acc
def entE (d : Nat) : Nat := 212 + 64 * (d % 6)
def zeroN (N : Nat → Int32) (e i : Nat) : Nat → Int32 := fun j => if e ≤ j ∧ j < e + i then 0 else N j
def startN (N : Nat → Int32) (w k e z : Nat) : Nat → Int32 := palletGoesN (upd (upd (zeroN N e 64) e (N (140 + 6 * k))) (e + 12) (nI z)) w k
def leastL (N : Nat → Int32) (e : Nat) : Nat → Int32
  | 0 => N (e + 13)
  | i + 1 => lesser (leastL N e i) (N (e + 13 + i))
def mostL (N : Nat → Int32) (e : Nat) : Nat → Int32
  | 0 => N (e + 9)
  | i + 1 => if mostL N e i < N (e + 38 + i) then N (e + 38 + i) else mostL N e i
def endN (N : Nat → Int32) (e z g : Nat) : Nat → Int32 := addC (upd (upd (upd N (e + 1) (nI g)) (e + 8) (leastL N e z)) (e + 9) (mostL N e z)) 17 (nI (if g = 0 then 0 else 1))
def finN (N : Nat → Int32) (e z g : Nat) : Nat → Int32 := addC (upd (upd (endN N e z g) 19 (N 19 + (N 18 + N (e + 11)) / nI 1000000000)) 18 (N 18 + N (e + 11) - (N 18 + N (e + 11)) / nI 1000000000 * nI 1000000000)) 7 (nI 1)
def palV (N : Nat → Int32) (k f : Nat) : Nat := nn (N (140 + 6 * k + f))
def wrapsN (fu : Nat) (N : Nat → Int32) (w k d : Nat) (acc : List (Nat × Nat)) : Nat × (Nat → Int32) :=
  ((runT fu (entE d) (palV N k 4) (2 * (palV N k 1 + palV N k 2)) ((palV N k 3 + 9) / 10) (crsL (palV N k 3 - 50) acc (0, 40, 100)) (startN N w k (entE d) ((palV N k 3 + 9) / 10))).1,
   finN (runT fu (entE d) (palV N k 4) (2 * (palV N k 1 + palV N k 2)) ((palV N k 3 + 9) / 10) (crsL (palV N k 3 - 50) acc (0, 40, 100)) (startN N w k (entE d) ((palV N k 3 + 9) / 10))).2 (entE d) ((palV N k 3 + 9) / 10) (runT fu (entE d) (palV N k 4) (2 * (palV N k 1 + palV N k 2)) ((palV N k 3 + 9) / 10) (crsL (palV N k 3 - 50) acc (0, 40, 100)) (startN N w k (entE d) ((palV N k 3 + 9) / 10))).1)
theorem meas_le {N : Nat → Int32} {c : Nat} (ri : RI N c) : meas N c ≤ 600006 := by
  unfold meas
  by_cases z : c = 0
  · rw [if_pos z]; omega
  · rw [if_neg z]
    obtain ⟨l, wt, pos, wk, h0, _, hl, _⟩ := RI_first ri (by omega)
    rw [h0, nn_nI (by omega)]
    have := ri.2.1
    omega
theorem palV_eq {N : Nat → Int32} {k f v : Nat} (h : N (140 + 6 * k + f) = nI v) (hv : v < 2 ^ 31) : palV N k f = v := by
  unfold palV
  rw [h, nn_nI hv]
theorem startN_lo {N : Nat → Int32} {w k e z j : Nat} (he1 : 212 ≤ e) (hw8 : w ≤ 8) (h1 : j ≠ 1) (h : j < 140 ∨ (188 ≤ j ∧ j < e) ∨ e + 64 ≤ j) : startN N w k e z j = N j := by
  unfold startN palletGoesN
  rw [if_neg h1, if_neg (by omega), upd_ne _ _ (by omega), upd_ne _ _ (by omega)]
  exact if_neg (by omega)
theorem startN_e {N : Nat → Int32} {w k e z j : Nat} (he1 : 212 ≤ e) (hw8 : w ≤ 8) (h : e < j) (h2 : j < e + 64) (h3 : j ≠ e + 12) : startN N w k e z j = 0 := by
  unfold startN palletGoesN
  rw [if_neg (by omega), if_neg (by omega), upd_ne _ _ h3, upd_ne _ _ (by omega)]
  exact if_pos (by omega)
theorem RI_congr {N N' : Nat → Int32} {c : Nat} (e : ∀ j, (j = 0 ∨ (20 ≤ j ∧ j < 140)) → N' j = N j) (h : RI N c) : RI N' c := by
  obtain ⟨h0, h6, hr⟩ := h
  exact ⟨(e 0 (Or.inl rfl)).trans h0, h6, fun i hi => rOk_congr (fun k hk => e _ (by omega)) (hr i hi)⟩
theorem start_TI {N : Nat → Int32} {w k e z lim c th : Nat} (he1 : 212 ≤ e) (hw8 : w ≤ 8) (hz : z ≤ 25) (ri : RI N c) (hth : N 4 = nI th) (ht : th ≤ 500) : TI (startN N w k e z) e z lim c th := by
  have r' : RI (startN N w k e z) c := RI_congr (fun j hj => startN_lo he1 hw8 (by omega) (by omega)) ri
  refine ⟨r', (startN_lo he1 hw8 (by omega) (by omega)).trans hth, ht, fun i hi => ⟨0, startN_e he1 hw8 (by omega) (by omega) (by omega), Nat.zero_le _⟩, 0, startN_e he1 hw8 (by omega) (by omega) (by omega), ?_⟩
  have := meas_le r'
  omega
theorem upL_le {top a ten st : Nat} (h1 : top ≤ 1000) (h2 : ten ≤ 1000) (h3 : st ≤ 1000) : ∀ f h, TLe (upL top a ten st f h) := by
  intro f
  induction f with
  | zero => intro h q hq; cases hq
  | succ f ih =>
    intro h
    show TLe (if h < top then (min (h + a) top, ten, st) :: upL top a ten st f (min (h + a) top) else [])
    by_cases c : h < top
    · rw [if_pos c]
      intro q hq
      rcases List.mem_cons.mp hq with e | e
      · subst e; exact ⟨by show min (h + a) top ≤ 1000; omega, h2, h3⟩
      · exact ih _ q e
    · rw [if_neg c]; intro q hq; cases hq
theorem dnL_le {a ten st : Nat} (h2 : ten ≤ 1000) (h3 : st ≤ 1000) : ∀ f h, h ≤ 1000 → TLe (dnL a ten st f h) := by
  intro f
  induction f with
  | zero => intro h _ q hq; cases hq
  | succ f ih =>
    intro h h1
    show TLe (if 0 < h then (h - a, ten, st) :: dnL a ten st f (h - a) else [])
    by_cases c : 0 < h
    · rw [if_pos c]
      intro q hq
      rcases List.mem_cons.mp hq with e | e
      · subst e; exact ⟨by show h - a ≤ 1000; omega, h2, h3⟩
      · exact ih _ (by omega) q e
    · rw [if_neg c]; intro q hq; cases hq
theorem stL_le {top : Nat} {q : Nat × Nat} {s : Nat × Nat × Nat} (ht : top ≤ 1000) (sl : s.1 ≤ 1000 ∧ s.2.1 ≤ 1000 ∧ s.2.2 ≤ 1000) : TLe (stL top q s) := by
  unfold stL
  split
  · intro x hx
    rw [List.eq_of_mem_replicate hx]; exact sl
  split
  · exact upL_le ht sl.2.1 sl.2.2 _ _
  split
  · exact dnL_le sl.2.1 sl.2.2 _ _ sl.1
  · intro x hx; cases hx
theorem stE_le {top : Nat} {q : Nat × Nat} {s : Nat × Nat × Nat} (ht : top ≤ 1000) (qa : q.2 ≤ 300) (sl : s.1 ≤ 1000 ∧ s.2.1 ≤ 1000 ∧ s.2.2 ≤ 1000) : (stE top q s).1 ≤ 1000 ∧ (stE top q s).2.1 ≤ 1000 ∧ (stE top q s).2.2 ≤ 1000 := by
  unfold stE
  (repeat' split) <;> (refine ⟨?_, ?_, ?_⟩ <;> (try dsimp only) <;> omega)
theorem amt300 {q : Nat × Nat} (h5 : q.1 < 5) (h : q.2 ≤ amtHi q.1) : q.2 ≤ 300 := by
  unfold amtHi at h
  (repeat' split at h) <;> omega
theorem amt1 {q : Nat × Nat} (h : amtLo q.1 ≤ q.2) : q.1 < 3 → 1 ≤ q.2 := by
  intro h3
  unfold amtLo at h
  rw [if_pos h3] at h
  exact h
theorem crsL_le {top : Nat} (ht : top ≤ 1000) : ∀ (acc : List (Nat × Nat)) (s : Nat × Nat × Nat), StepsOk acc → s.1 ≤ 1000 ∧ s.2.1 ≤ 1000 ∧ s.2.2 ≤ 1000 → TLe (crsL top acc s) := by
  intro acc
  induction acc with
  | nil => intro s _ _ x hx; cases hx
  | cons q r ih =>
    intro s so sl x hx
    have q1 := so q (List.mem_cons_self ..)
    rcases List.mem_append.mp hx with e | e
    · exact stL_le ht sl x e
    · exact ih _ (fun y hy => so y (List.mem_cons_of_mem _ hy)) (stE_le ht (amt300 q1.1 q1.2.2) sl) x e

