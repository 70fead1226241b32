/-! the model: the film of a turn -/
/-- the weak place that comes next with less strength than s -/
def wkB (N : Nat → Int32) (s : Int32) : Nat → Option Nat
  | 0 => none
  | k + 1 => match wkB N s k with
    | none => if N 22 < N (24 + k) ∧ N (32 + k) < s then some k else none
    | some b => if (N 22 < N (24 + k) ∧ N (32 + k) < s) ∧ N (24 + k) < N (24 + b) then some k else some b
abbrev wkD (N : Nat → Int32) (s : Int32) (k : Nat) : Prop := N 22 < N (24 + k) ∧ N (32 + k) < s
theorem wkB_spec (N : Nat → Int32) (s : Int32) : ∀ k, (wkB N s k = none ∧ ∀ j, j < k → ¬ wkD N s j) ∨ ∃ b, b < k ∧ wkB N s k = some b ∧ wkD N s b ∧ ∀ j, j < k → wkD N s j → ¬ N (24 + j) < N (24 + b) := by
  intro k
  induction k with
  | zero => exact Or.inl ⟨rfl, fun j hj => absurd hj (by omega)⟩
  | succ k ih =>
    rcases ih with ⟨h1, h2⟩ | ⟨b, hb, h1, h2, h3⟩
    · have e : wkB N s (k + 1) = if wkD N s k then some k else none := by show (match wkB N s k with | none => _ | some b => _) = _; rw [h1]
      by_cases c : wkD N s k
      · refine Or.inr ⟨k, by omega, by rw [e, if_pos c], c, fun j hj hd => ?_⟩
        by_cases z : j < k
        · exact absurd hd (h2 j z)
        · rw [show j = k from by omega]; exact fun q => Int32.lt_irrefl q
      · refine Or.inl ⟨by rw [e, if_neg c], fun j hj => ?_⟩
        by_cases z : j < k
        · exact h2 j z
        · rw [show j = k from by omega]; exact c
    · have e : wkB N s (k + 1) = if wkD N s k ∧ N (24 + k) < N (24 + b) then some k else some b := by show (match wkB N s k with | none => _ | some b => _) = _; rw [h1]
      by_cases c : wkD N s k ∧ N (24 + k) < N (24 + b)
      · refine Or.inr ⟨k, by omega, by rw [e, if_pos c], c.1, fun j hj hd => ?_⟩
        by_cases z : j < k
        · intro q
          exact h3 j z hd (Int32.lt_trans q c.2)
        · rw [show j = k from by omega]; exact fun q => Int32.lt_irrefl q
      · refine Or.inr ⟨b, by omega, by rw [e, if_neg c], h2, fun j hj hd => ?_⟩
        by_cases z : j < k
        · exact h3 j z hd
        · intro q
          rw [show j = k from by omega] at hd q
          exact c ⟨hd, q⟩
/-- where the film breaks when need is drawn with tension t -/
def brkF (N : Nat → Int32) (t need wk : Nat) : Option Int32 := match wkB N (nI t) wk with
  | none => none
  | some b => if N (24 + b) ≤ N 22 + nI need then some (N (24 + b)) else none
/-- a roll: twenty numbers -/
def rOk (g : Nat → Int32) : Prop := ∃ len wt pos wk : Nat, g 0 = nI len ∧ 100 ≤ len ∧ len ≤ 100000 ∧ g 1 = nI wt ∧ 1 ≤ wt ∧ wt ≤ 50 ∧ g 2 = nI pos ∧ pos ≤ len ∧ g 3 = nI wk ∧ wk ≤ 8 ∧ (∀ k, k < wk → ∃ p s : Nat, g (4 + k) = nI p ∧ 1 ≤ p ∧ p < len ∧ g (12 + k) = nI s ∧ s ≤ 199) ∧ ∀ j k, j < k → k < wk → g (4 + j) ≠ g (4 + k)
theorem rOk_congr {g g' : Nat → Int32} (e : ∀ k, k < 20 → g' k = g k) (h : rOk g) : rOk g' := by
  obtain ⟨len, wt, pos, wk, h0, hl, hl2, h1, hw1, hw2, h2, hp, h3, hk, hw, hd⟩ := h
  exact ⟨len, wt, pos, wk, (e 0 (by omega)).trans h0, hl, hl2, (e 1 (by omega)).trans h1, hw1, hw2, (e 2 (by omega)).trans h2, hp, (e 3 (by omega)).trans h3, hk, fun k q => by rw [e _ (by omega), e _ (by omega)]; exact hw k q, fun j k q1 q2 => by rw [e _ (by omega), e _ (by omega)]; exact hd j k q1 q2⟩
/-- the same roll with another position -/
theorem rOk_pos {g g' : Nat → Int32} {p l : Nat} (e : ∀ k, k < 20 → k ≠ 2 → g' k = g k) (h : rOk g) (h0 : g 0 = nI l) (hl2 : l < 2 ^ 31) (h2 : g' 2 = nI p) (hp : p ≤ l) : rOk g' := by
  obtain ⟨len, wt, pos, wk, z0, hl, hl3, h1, hw1, hw2, z2, hp2, h3, hk, hw, hd⟩ := h
  have : len = l := by rw [z0] at h0; exact (nI_eq (by omega) (by omega)).mp h0
  exact ⟨len, wt, p, wk, (e 0 (by omega) (by omega)).trans z0, hl, hl3, (e 1 (by omega) (by omega)).trans h1, hw1, hw2, h2, by omega, (e 3 (by omega) (by omega)).trans h3, hk, fun k q => by rw [e _ (by omega) (by omega), e _ (by omega) (by omega)]; exact hw k q, fun j k q1 q2 => by rw [e _ (by omega) (by omega), e _ (by omega) (by omega)]; exact hd j k q1 q2⟩
def rollG (N : Nat → Int32) (i : Nat) : Nat → Int32 := fun k => N (20 + 20 * i + k)
def RI (N : Nat → Int32) (c : Nat) : Prop := N 0 = nI c ∧ c ≤ 6 ∧ ∀ i, i < c → rOk (rollG N i)
/-- a roll goes, as the next one is threaded -/
def chgN (N : Nat → Int32) (e c : Nat) : Nat → Int32 := lastsN (addC (addC (rollGoesN (wastesN N e 2 (N 20 - N 22)) c) 14 (nI 1)) (e + 7) (nI 1)) e (nI 60)
/-- the film of a turn: by what the pallet is given up -/
def fetchN (e t need rnd y z : Nat) : Nat → (Nat → Int32) → Nat × (Nat → Int32)
  | 0, N => (1, N)
  | fu + 1, N => if N 0 = 0 then (1, N) else if N 20 - N 22 < nI need then fetchN e t need rnd y z fu (chgN N e (nn (N 0))) else
    match brkF N t need (nn (N 23)) with
    | some p => if breaksN N e p (e + 6) ≤ breaksN N e p 5 then fetchN e t need rnd y z fu (breaksN N e p) else (2, breaksN N e p)
    | none => (0, layZ (laysG N e need rnd) e y z (forceF (nI t)))
def meas (N : Nat → Int32) (c : Nat) : Nat := if c = 0 then 0 else (c - 1) * 100001 + (nn (N 20) - nn (N 22)) + 1

theorem addC_ne (f : Nat → Int32) {i j : Nat} (v : Int32) (h : j ≠ i) : addC f i v j = f j := if_neg h
theorem addC_eq (f : Nat → Int32) (i : Nat) (v : Int32) : addC f i v i = f i + v := if_pos rfl
theorem wastes_ne (N : Nat → Int32) {e tt j : Nat} (v : Int32) (h : j ≠ 8 + tt) (h2 : j ≠ 8) (h3 : j ≠ e + 5) : wastesN N e tt v j = N j := by
  unfold wastesN
  rw [addC_ne _ _ h3, addC_ne _ _ h2, addC_ne _ _ h]
theorem lasts_ne (N : Nat → Int32) {e j : Nat} (v : Int32) (h : j ≠ 6) (h3 : j ≠ e + 10) : lastsN N e v j = N j := by
  unfold lastsN
  rw [addC_ne _ _ h, addC_ne _ _ h3]
theorem chg_0 {N : Nat → Int32} {e c : Nat} (he1 : 212 ≤ e) : chgN N e c 0 = nI (c - 1) := by
  unfold chgN
  rw [lasts_ne _ _ (by omega) (by omega), addC_ne _ _ (by omega), addC_ne _ _ (by omega)]
  rfl
theorem chg_lo {N : Nat → Int32} {e c j : Nat} (he1 : 212 ≤ e) (hj : 1 ≤ j) (hj2 : j < 20) (h6 : j ≠ 6) (h8 : j ≠ 8) (h10 : j ≠ 10) (h14 : j ≠ 14) : chgN N e c j = N j := by
  unfold chgN
  rw [lasts_ne _ _ (by omega) (by omega), addC_ne _ _ (by omega), addC_ne _ _ (by omega)]
  unfold rollGoesN
  rw [if_neg (by omega), if_neg (by omega), wastes_ne _ _ (by omega) (by omega) (by omega)]
theorem chg_r {N : Nat → Int32} {e c j : Nat} (he1 : 212 ≤ e) (hc : c ≤ 6) (hj : 20 ≤ j) (hj2 : j < 20 * c) : chgN N e c j = N (j + 20) := by
  unfold chgN
  rw [lasts_ne _ _ (by omega) (by omega), addC_ne _ _ (by omega), addC_ne _ _ (by omega)]
  unfold rollGoesN
  rw [if_neg (by omega), if_pos (by omega), wastes_ne _ _ (by omega) (by omega) (by omega)]
theorem brk_ne {N : Nat → Int32} {e j : Nat} (p : Int32) (he1 : 212 ≤ e) (hj2 : j < 140) (h6 : j ≠ 6) (h8 : j ≠ 8) (h11 : j ≠ 11) (h12 : j ≠ 12) (h13 : j ≠ 13) (h22 : j ≠ 22) : breaksN N e p j = N j := by
  unfold breaksN
  rw [lasts_ne _ _ (by omega) (by omega), addC_ne _ _ (by omega), addC_ne _ _ (by omega), upd_ne _ _ (by omega), wastes_ne _ _ (by omega) (by omega) (by omega), wastes_ne _ _ (by omega) (by omega) (by omega)]
theorem brk_22 {N : Nat → Int32} {e : Nat} (p : Int32) (he1 : 212 ≤ e) : breaksN N e p 22 = p + lesser (N 4) (N 20 - p) := by
  unfold breaksN
  rw [lasts_ne _ _ (by omega) (by omega), addC_ne _ _ (by omega), addC_ne _ _ (by omega), upd_eq]
theorem RI_chg {N : Nat → Int32} {e c : Nat} (he1 : 212 ≤ e) (h : RI N (c + 1)) : RI (chgN N e (c + 1)) c := by
  obtain ⟨h0, h6, hr⟩ := h
  refine ⟨chg_0 he1, by omega, fun i hi => rOk_congr (fun k hk => ?_) (hr (i + 1) (by omega))⟩
  unfold rollG
  rw [chg_r he1 (by omega) (by omega) (by omega)]
  exact congrArg N (by omega)
theorem lesser_nI {a b : Nat} (ha : a < 2 ^ 31) (hb : b < 2 ^ 31) : lesser (nI a) (nI b) = nI (min a b) := by
  unfold lesser
  by_cases z : a < b
  · rw [if_pos ((nI_ltI ha hb).mpr z), Nat.min_eq_left (by omega)]
  · rw [if_neg (fun q => z ((nI_ltI ha hb).mp q)), Nat.min_eq_right (by omega)]
theorem RI_brk {N : Nat → Int32} {e c p l th : Nat} (he1 : 212 ≤ e) (h : RI N c) (hc : 1 ≤ c) (hth : N 4 = nI th) (ht : th ≤ 500) (hl : N 20 = nI l) (hl2 : l ≤ 100000) (hp : p ≤ l) : RI (breaksN N e (nI p)) c ∧ breaksN N e (nI p) 22 = nI (p + min th (l - p)) := by
  have e22 : breaksN N e (nI p) 22 = nI (p + min th (l - p)) := by rw [brk_22 _ he1, hth, hl, pk_sub hp, lesser_nI (by omega) (by omega), nI_add]
  obtain ⟨h0, h6, hr⟩ := h
  refine ⟨⟨(brk_ne _ he1 (by omega) (by omega) (by omega) (by omega) (by omega) (by omega) (by omega)).trans h0, h6, fun i hi => ?_⟩, e22⟩
  by_cases z : i = 0
  · subst z
    refine rOk_pos (g := rollG N 0) (p := p + min th (l - p)) (l := l) (fun k hk h2 => ?_) (hr 0 hi) hl (by omega) e22 (by omega)
    exact brk_ne _ he1 (by omega) (by omega) (by omega) (by omega) (by omega) (by omega) (by omega)
  · refine rOk_congr (fun k hk => ?_) (hr i hi)
    exact brk_ne _ he1 (by omega) (by omega) (by omega) (by omega) (by omega) (by omega) (by omega)
/-- the first roll -/
theorem RI_first {N : Nat → Int32} {c : Nat} (h : RI N c) (hc : 1 ≤ c) : ∃ l wt pos wk : Nat, N 20 = nI l ∧ 100 ≤ l ∧ l ≤ 100000 ∧ N 21 = nI wt ∧ 1 ≤ wt ∧ wt ≤ 50 ∧ N 22 = nI pos ∧ pos ≤ l ∧ N 23 = nI wk ∧ wk ≤ 8 ∧ ∀ k, k < wk → ∃ p s : Nat, N (24 + k) = nI p ∧ 1 ≤ p ∧ p < l ∧ N (32 + k) = nI s ∧ s ≤ 199 := by
  obtain ⟨len, wt, pos, wk, h0, hl, hl2, h1, hw1, hw2, h2, hp, h3, hk, hw, hd⟩ := h.2.2 0 (by omega)
  refine ⟨len, wt, pos, wk, h0, hl, hl2, h1, hw1, hw2, h2, hp, h3, hk, fun k q => ?_⟩
  obtain ⟨p, s, a1, a2, a3, a4, a5⟩ := hw k q
  refine ⟨p, s, ?_, a2, a3, ?_, a5⟩
  · rw [← a1]; exact congrArg N (by omega)
  · rw [← a4]; exact congrArg N (by omega)
theorem meas_chg {N : Nat → Int32} {e c : Nat} (he1 : 212 ≤ e) (h : RI N (c + 1)) : meas (chgN N e (c + 1)) c < meas N (c + 1) := by
  unfold meas
  rw [if_neg (by omega : ¬ c + 1 = 0)]
  by_cases z : c = 0
  · rw [if_pos z]; omega
  · rw [if_neg z]
    obtain ⟨l, wt, pos, wk, h0, _, hl, _⟩ := RI_first (RI_chg he1 h) (by omega)
    rw [h0, nn_nI (by omega)]
    omega
theorem meas_brk {N : Nat → Int32} {e c p l th pos : Nat} (he1 : 212 ≤ e) (h : RI N c) (hc : 1 ≤ c) (hth : N 4 = nI th) (ht : th ≤ 500) (hl : N 20 = nI l) (hl2 : l ≤ 100000) (hp : p ≤ l) (hpo : N 22 = nI pos) (hp2 : pos < p) : meas (breaksN N e (nI p)) c < meas N c := by
  unfold meas
  rw [if_neg (by omega), if_neg (by omega), (RI_brk he1 h hc hth ht hl hl2 hp).2, brk_ne _ he1 (by omega) (by omega) (by omega) (by omega) (by omega) (by omega) (by omega), hl, hpo, nn_nI (by omega), nn_nI (by omega), nn_nI (by omega)]
  omega

