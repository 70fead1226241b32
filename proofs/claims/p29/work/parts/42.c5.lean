/-! a state of the class, and the row of the model that it stands for -/
def RowP (r : Nat → Nat) (n base step : Nat) : Prop := (∀ i, i < n → ∃ j, j < n ∧ r i = base + step * j) ∧ ∀ i j, i < j → j < n → r i ≠ r j
def LSs (h : AH) (x : Nat) : Prop := gs h x = some (5, 11) ∧ gs h (x + 1) = some (12, 6) ∧ gs h (x + 20) = some (13, 8) ∧ gs h (x + 29) = some (14, 6) ∧ gs h (x + 51) = some (6, 12) ∧ ∀ i, i < 8 → gs h (x + 21 + 1 * i) = some (1, 6)
def LSf (h : AH) (x : Nat) : Prop := gr h x 0 = x + 1 ∧ gr h x 2 = x + 20 ∧ gr h x 5 = x + 29 ∧ gr h x 7 = x + 48 ∧ gr h x 8 = x + 51 ∧ ProgO h (x + 48) ∧ (∀ i, i < 6 → RollO h (x + 2 + 3 * i)) ∧ ∀ i, i < 6 → ResO h (x + 30 + 3 * i)
def LayS (h : AH) (x : Nat) : Prop := LSs h x ∧ LSf h x ∧ RowP (gr h (x + 1)) 6 (x + 2) 3 ∧ RowP (gr h (x + 20)) 8 (x + 21) 1 ∧ RowP (gr h (x + 29)) 6 (x + 30) 3
theorem O3_frm {h h' : AH} {t n r i j a : Nat} (o : O3 h t n r i j a) (e : gs h' = gs h) (e2 : gr h' a = gr h a) : O3 h' t n r i j a := by
  obtain ⟨a1, a2, a3, a4, a5⟩ := o
  refine ⟨?_, ?_, ?_, ?_, ?_⟩
  · rw [e]; exact a1
  · rw [e]; exact a2
  · rw [e]; exact a3
  · rw [e2]; exact a4
  · rw [e2]; exact a5
theorem LSs_frm {h h' : AH} {x : Nat} (l : LSs h x) (e : gs h' = gs h) : LSs h' x := by
  unfold LSs at *
  rw [e]
  exact l
theorem LSf_frm {h h' : AH} {x : Nat} (l : LSf h x) (e : gs h' = gs h) (e2 : ∀ b, (b = x ∨ (x + 2 ≤ b ∧ b < x + 20) ∨ (x + 30 ≤ b ∧ b < x + 51)) → gr h' b = gr h b) : LSf h' x := by
  obtain ⟨a0, a1, a2, a3, a4, a5, a6, a7⟩ := l
  have ex := e2 x (Or.inl rfl)
  refine ⟨?_, ?_, ?_, ?_, ?_, O3_frm a5 e (e2 _ (by omega)), fun i hi => O3_frm (a6 i hi) e (e2 _ (by omega)), fun i hi => O3_frm (a7 i hi) e (e2 _ (by omega))⟩
  · rw [ex]; exact a0
  · rw [ex]; exact a1
  · rw [ex]; exact a2
  · rw [ex]; exact a3
  · rw [ex]; exact a4
theorem LayS_gr {h h' : AH} {x : Nat} (l : LayS h x) (e : gs h' = gs h) (e2 : ∀ b, x ≤ b → b < x + 52 → gr h' b = gr h b) : LayS h' x := by
  obtain ⟨a, b, c, d, f⟩ := l
  refine ⟨LSs_frm a e, LSf_frm b e (fun b hb => e2 b (by omega) (by omega)), ?_, ?_, ?_⟩
  · rw [e2 _ (by omega) (by omega)]; exact c
  · rw [e2 _ (by omega) (by omega)]; exact d
  · rw [e2 _ (by omega) (by omega)]; exact f
theorem LayS_frm {h h' : AH} {x lo hi : Nat} (l : LayS h x) (f : Frm lo hi h h') (d : hi ≤ x ∨ x + 52 ≤ lo) : LayS h' x := LayS_gr l f.1 (fun b h1 h2 => (f.2 b (by omega)).2.1)
/-- where the class's rows begin -/
def rA (h : AH) (x i : Nat) : Nat := gr h (x + 1) i
def pA (h : AH) (x i : Nat) : Nat := gr h (x + 20) i
def kA (h : AH) (x i : Nat) : Nat := gr h (x + 29) i
theorem LayS.roll {h : AH} {x : Nat} (l : LayS h x) {i : Nat} (hi : i < 6) : ∃ j, j < 6 ∧ rA h x i = x + 2 + 3 * j ∧ RollO h (rA h x i) := by
  obtain ⟨j, hj, e⟩ := l.2.2.1.1 i hi
  refine ⟨j, hj, e, ?_⟩
  unfold rA
  rw [e]
  exact l.2.1.2.2.2.2.2.2.1 j hj
theorem LayS.pal {h : AH} {x : Nat} (l : LayS h x) {i : Nat} (hi : i < 8) : ∃ j, j < 8 ∧ pA h x i = x + 21 + j ∧ gs h (pA h x i) = some (1, 6) := by
  obtain ⟨j, hj, e⟩ := l.2.2.2.1.1 i hi
  refine ⟨j, hj, by rw [show x + 21 + j = x + 21 + 1 * j from by omega]; exact e, ?_⟩
  unfold pA
  rw [e]
  exact l.1.2.2.2.2.2 j hj
theorem LayS.res {h : AH} {x : Nat} (l : LayS h x) {i : Nat} (hi : i < 6) : ∃ j, j < 6 ∧ kA h x i = x + 30 + 3 * j ∧ ResO h (kA h x i) := by
  obtain ⟨j, hj, e⟩ := l.2.2.2.2.1 i hi
  refine ⟨j, hj, e, ?_⟩
  unfold kA
  rw [e]
  exact l.2.1.2.2.2.2.2.2.2 j hj
theorem LayS.prog {h : AH} {x : Nat} (l : LayS h x) : ProgO h (x + 48) := l.2.1.2.2.2.2.2.1
theorem LayS.rne {h : AH} {x : Nat} (l : LayS h x) {i k : Nat} (hi : i < 6) (hk : k < 6) (ne : i ≠ k) : rA h x i + 3 ≤ rA h x k ∨ rA h x k + 3 ≤ rA h x i := by
  obtain ⟨j, hj, e, _⟩ := l.roll hi
  obtain ⟨j2, hj2, e2, _⟩ := l.roll hk
  have : rA h x i ≠ rA h x k := by
    rcases Nat.lt_or_gt_of_ne ne with q | q
    · exact l.2.2.1.2 i k q hk
    · exact (l.2.2.1.2 k i q hi).symm
  omega
theorem LayS.pne {h : AH} {x : Nat} (l : LayS h x) {i k : Nat} (hi : i < 8) (hk : k < 8) (ne : i ≠ k) : pA h x i ≠ pA h x k := by
  rcases Nat.lt_or_gt_of_ne ne with q | q
  · exact l.2.2.2.1.2 i k q hk
  · exact (l.2.2.2.1.2 k i q hi).symm
theorem LayS.kne {h : AH} {x : Nat} (l : LayS h x) {i k : Nat} (hi : i < 6) (hk : k < 6) (ne : i ≠ k) : kA h x i + 3 ≤ kA h x k ∨ kA h x k + 3 ≤ kA h x i := by
  obtain ⟨j, hj, e, _⟩ := l.res hi
  obtain ⟨j2, hj2, e2, _⟩ := l.res hk
  have : kA h x i ≠ kA h x k := by
    rcases Nat.lt_or_gt_of_ne ne with q | q
    · exact l.2.2.2.2.2 i k q hk
    · exact (l.2.2.2.2.2 k i q hi).symm
  omega
/-- a roll stands for G -/
def rollV (g p s G : Nat → Int32) : Prop := (∀ k, k < 4 → g k = G k) ∧ ∃ wk : Nat, G 3 = nI wk ∧ wk ≤ 8 ∧ weakR wk p s (fun k => G (4 + k)) (fun k => G (12 + k))
def palT (g : Nat → Int32) : Int32 × Int32 × Int32 × Int32 × Int32 × Int32 := (g 0, g 1, g 2, g 3, g 4, g 5)
def palsL (w : Nat) (f : Nat → Nat → Int32) : List (Int32 × Int32 × Int32 × Int32 × Int32 × Int32) := (List.range w).map (fun i => palT (f i))
def befG (g g' : Nat → Int32) : Prop := (g 5).toInt < (g' 5).toInt ∨ ((g 5).toInt = (g' 5).toInt ∧ (g 0).toInt < (g' 0).toInt)
/-- the pallets in their order -/
def palsR (w : Nat) (f F : Nat → Nat → Int32) : Prop := (palsL w f).Perm (palsL w F) ∧ ∀ i j, i < j → j < w → befG (f i) (f j)
theorem palT_congr {g g' : Nat → Int32} (e : ∀ k, k < 6 → g' k = g k) : palT g' = palT g := by
  unfold palT
  rw [e 0 (by omega), e 1 (by omega), e 2 (by omega), e 3 (by omega), e 4 (by omega), e 5 (by omega)]
theorem palT_inj {g g' : Nat → Int32} (e : palT g' = palT g) : ∀ k, k < 6 → g' k = g k := by
  intro k hk
  have e0 := congrArg Prod.fst e
  have e1 := congrArg (fun q => q.2.1) e
  have e2 := congrArg (fun q => q.2.2.1) e
  have e3 := congrArg (fun q => q.2.2.2.1) e
  have e4 := congrArg (fun q => q.2.2.2.2.1) e
  have e5 := congrArg (fun q => q.2.2.2.2.2) e
  have : k = 0 ∨ k = 1 ∨ k = 2 ∨ k = 3 ∨ k = 4 ∨ k = 5 := by omega
  rcases this with rfl | rfl | rfl | rfl | rfl | rfl
  · exact e0
  · exact e1
  · exact e2
  · exact e3
  · exact e4
  · exact e5
theorem palsL_congr {w : Nat} {f f' : Nat → Nat → Int32} (e : ∀ i, i < w → ∀ k, k < 6 → f' i k = f i k) : palsL w f' = palsL w f := List.map_congr_left (fun i hi => palT_congr (e i (List.mem_range.mp hi)))
theorem palsR_congr {w : Nat} {f f' F F' : Nat → Nat → Int32} (v : palsR w f F) (e : ∀ i, i < w → ∀ k, k < 6 → f' i k = f i k) (e2 : ∀ i, i < w → ∀ k, k < 6 → F' i k = F i k) : palsR w f' F' := by
  refine ⟨?_, fun i j h1 h2 => ?_⟩
  · rw [palsL_congr e, palsL_congr e2]; exact v.1
  · unfold befG
    rw [e i (by omega) 5 (by omega), e i (by omega) 0 (by omega), e j h2 5 (by omega), e j h2 0 (by omega)]
    exact v.2 i j h1 h2
def gmn (f : Nat → Int32) : Nat → Int32
  | 0 => f 0
  | i + 1 => lesser (gmn f i) (f i)
def gmx (f : Nat → Int32) : Nat → Int32
  | 0 => 0
  | i + 1 => if gmx f i < f i then f i else gmx f i
/-- what is kept of a pallet -/
def keptV (g la fo N : Nat → Int32) (e : Nat) : Prop := g 0 = N e ∧ g 1 = N (e + 12) ∧ g 2 = N (e + 1) ∧ g 3 = N (e + 2) ∧ g 4 = N (e + 3) ∧ g 5 = N (e + 4) ∧ g 6 + g 7 + g 8 = N (e + 5) ∧ g 9 = N (e + 6) ∧ g 10 = N (e + 7) ∧ g 11 = N (e + 10) ∧ g 12 = N (e + 11) ∧ ∃ z : Nat, N (e + 12) = nI z ∧ 1 ≤ z ∧ z ≤ 25 ∧ (∀ i, i < z → la i = N (e + 13 + i) ∧ fo i = N (e + 38 + i)) ∧ N (e + 8) = gmn (fun i => N (e + 13 + i)) z ∧ N (e + 9) = gmx (fun i => N (e + 38 + i)) z
theorem keptV_congr {g la fo N g' la' fo' : Nat → Int32} {e : Nat} (v : keptV g la fo N e) (e1 : ∀ k, k < 13 → g' k = g k) (e2 : ∀ z : Nat, N (e + 12) = nI z → z ≤ 25 → ∀ i, i < z → la' i = la i ∧ fo' i = fo i) : keptV g' la' fo' N e := by
  obtain ⟨a0, a1, a2, a3, a4, a5, a6, a7, a8, a9, a10, z, b1, b2, b3, b4, b5⟩ := v
  refine ⟨(e1 0 (by omega)).trans a0, (e1 1 (by omega)).trans a1, (e1 2 (by omega)).trans a2, (e1 3 (by omega)).trans a3, (e1 4 (by omega)).trans a4, (e1 5 (by omega)).trans a5, ?_, (e1 9 (by omega)).trans a7, (e1 10 (by omega)).trans a8, (e1 11 (by omega)).trans a9, (e1 12 (by omega)).trans a10, z, b1, b2, b3, fun i hi => ?_, b5⟩
  · rw [e1 6 (by omega), e1 7 (by omega), e1 8 (by omega)]; exact a6
  · obtain ⟨c1, c2⟩ := e2 z b1 b3 i hi
    rw [c1, c2]; exact b4 i hi
def progV (g k a : Nat → Int32) (acc : List (Nat × Nat)) : Prop := g 0 = nI acc.length ∧ acc.length ≤ 12 ∧ ∀ (i : Nat) (q : Nat × Nat), acc[i]? = some q → k i = nI q.1 ∧ a i = nI q.2
def sumV (sm : Nat → Int32) (wg : Int64) (N : Nat → Int32) : Prop := sm 0 = N 7 ∧ sm 1 = N 17 ∧ sm 2 = N 15 ∧ sm 3 = N 16 ∧ sm 4 = N 9 ∧ sm 5 = N 10 ∧ sm 6 = N 11 ∧ sm 7 = N 12 ∧ sm 8 = N 13 ∧ sm 9 = N 14 ∧ sm 10 = N 6 ∧ N 8 = N 9 + N 10 + N 11 + N 12 ∧ wg = weightR N
theorem sumV_congr {sm sm' : Nat → Int32} {wg : Int64} {N : Nat → Int32} (v : sumV sm wg N) (e : ∀ k, k < 11 → sm' k = sm k) : sumV sm' wg N := by
  unfold sumV at *
  rw [e 0 (by omega), e 1 (by omega), e 2 (by omega), e 3 (by omega), e 4 (by omega), e 5 (by omega), e 6 (by omega), e 7 (by omega), e 8 (by omega), e 9 (by omega), e 10 (by omega)]
  exact v
def ValS (h : AH) (x : Nat) (N : Nat → Int32) (c w d : Nat) (acc : List (Nat × Nat)) : Prop := (gi h x 1 = nI c ∧ c ≤ 6 ∧ ∀ i, i < c → rollV (gi h (rA h x i)) (gi h (rA h x i + 1)) (gi h (rA h x i + 2)) (rollG N i)) ∧ (gi h x 3 = nI w ∧ w ≤ 8 ∧ palsR w (fun i => gi h (pA h x i)) (palG N)) ∧ gi h x 4 = N 2 ∧ (gi h x 6 = nI (min d 6) ∧ ∀ i, i < min d 6 → keptV (gi h (kA h x i)) (gi h (kA h x i + 1)) (gi h (kA h x i + 2)) N (keptB d i)) ∧ progV (gi h (x + 48)) (gi h (x + 49)) (gi h (x + 50)) acc ∧ sumV (gi h (x + 51)) (gl h (x + 51) 11) N ∧ gi h x 9 = N 4 ∧ gi h x 10 = N 5
theorem ValS_frm {h h' : AH} {x lo hi : Nat} {N : Nat → Int32} {c w d : Nat} {acc : List (Nat × Nat)} (l : LayS h x) (v : ValS h x N c w d acc) (f : Frm lo hi h h') (dj : hi ≤ x ∨ x + 52 ≤ lo) : ValS h' x N c w d acc := by
  have ei : ∀ b, x ≤ b → b < x + 52 → gi h' b = gi h b := fun b h1 h2 => (f.2 b (by omega)).1
  have er : ∀ b, x ≤ b → b < x + 52 → gr h' b = gr h b := fun b h1 h2 => (f.2 b (by omega)).2.1
  have e1 : ∀ i, rA h' x i = rA h x i := fun i => by unfold rA; rw [er _ (by omega) (by omega)]
  have e2 : ∀ i, pA h' x i = pA h x i := fun i => by unfold pA; rw [er _ (by omega) (by omega)]
  have e3 : ∀ i, kA h' x i = kA h x i := fun i => by unfold kA; rw [er _ (by omega) (by omega)]
  obtain ⟨⟨v1, v2, v3⟩, ⟨w1, w2, w3⟩, n1, ⟨k1, k2⟩, p1, s1, t1, t2⟩ := v
  have ex := ei x (by omega) (by omega)
  refine ⟨⟨by rw [ex]; exact v1, v2, fun i hi => ?_⟩, ⟨by rw [ex]; exact w1, w2, ?_⟩, by rw [ex]; exact n1, ⟨by rw [ex]; exact k1, fun i hi => ?_⟩, ?_, ?_, by rw [ex]; exact t1, by rw [ex]; exact t2⟩
  · obtain ⟨j, hj, e, _⟩ := l.roll (i := i) (by omega)
    rw [e1, ei _ (by omega) (by omega), ei _ (by omega) (by omega), ei _ (by omega) (by omega)]
    exact v3 i hi
  · refine palsR_congr w3 (fun i hi k _ => ?_) (fun _ _ _ _ => rfl)
    obtain ⟨j, hj, e, _⟩ := l.pal (i := i) (by omega)
    show gi h' (pA h' x i) k = gi h (pA h x i) k
    rw [e2, ei _ (by omega) (by omega)]
  · obtain ⟨j, hj, e, _⟩ := l.res (i := i) (by omega)
    rw [e3, ei _ (by omega) (by omega), ei _ (by omega) (by omega), ei _ (by omega) (by omega)]
    exact k2 i hi
  · rw [ei _ (by omega) (by omega), ei _ (by omega) (by omega), ei _ (by omega) (by omega)]; exact p1
  · rw [ei _ (by omega) (by omega), (f.2 _ (by omega)).2.2]; exact s1

