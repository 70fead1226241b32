/-! the order of the pallets -/
abbrev PT : Type := Int32 × Int32 × Int32 × Int32 × Int32 × Int32
abbrev befT (a b : PT) : Prop := a.2.2.2.2.2.toInt < b.2.2.2.2.2.toInt ∨ (a.2.2.2.2.2.toInt = b.2.2.2.2.2.toInt ∧ a.1.toInt < b.1.toInt)
theorem befT_G (g g' : Nat → Int32) : befT (palT g) (palT g') ↔ befG g g' := Iff.rfl
theorem cnt_lt (i : Nat) (P : Nat → Bool) : ∀ n, i ≤ n → (∀ j, j < n → (P j = true ↔ j < i)) → (List.range n).countP P = i := by
  intro n
  induction n with
  | zero => intro h _; simp; omega
  | succ n ih =>
    intro h1 h2
    rw [List.range_succ, List.countP_append]
    by_cases c : i = n + 1
    · have e : (List.range n).countP P = n := by
        have : (List.range n).countP P = (List.range n).length := by
          rw [List.countP_eq_length]
          intro j hj
          have := List.mem_range.mp hj
          exact (h2 j (by omega)).mpr (by omega)
        rw [this, List.length_range]
      have pn : P n = true := (h2 n (by omega)).mpr (by omega)
      rw [e]; simp [pn]; omega
    · rw [ih (by omega) (fun j hj => h2 j (by omega))]
      have pn : P n = false := by
        cases hb : P n with
        | true => have := (h2 n (by omega)).mp hb; omega
        | false => rfl
      simp [pn]
theorem aheadC_cnt (N : Nat → Int32) (k : Nat) : ∀ w, aheadC N k w = (palsL w (palG N)).countP (fun t => decide (befT t (palT (palG N k)))) := by
  intro w
  induction w with
  | zero => rfl
  | succ w ih =>
    have e : palsL (w + 1) (palG N) = palsL w (palG N) ++ [palT (palG N w)] := by simp [palsL, List.range_succ]
    rw [e, List.countP_append, ← ih]
    have e2 : aheadC N k (w + 1) = aheadC N k w + (if N (140 + 6 * w + 5) < N (140 + 6 * k + 5) ∨ (N (140 + 6 * w + 5) = N (140 + 6 * k + 5) ∧ N (140 + 6 * w + 0) < N (140 + 6 * k + 0)) then 1 else 0) := rfl
    rw [e2]
    congr 1
    by_cases c : befT (palT (palG N w)) (palT (palG N k))
    · rw [if_pos]
      · simp [c]
      · exact aheadP_iff.mpr c
    · rw [if_neg]
      · simp [c]
      · exact fun q => c (aheadP_iff.mp q)
theorem befG_irr (g : Nat → Int32) : ¬ befG g g := by unfold befG; omega
theorem befG_asym {g g' : Nat → Int32} (h : befG g g') : ¬ befG g' g := by unfold befG at *; omega
theorem palsL_mem {w : Nat} {f : Nat → Nat → Int32} {q : PT} : q ∈ palsL w f ↔ ∃ k, k < w ∧ palT (f k) = q := by simp [palsL]
/-- the class's pallet i is the one of rank i in the row -/
theorem palsR.fwd {w : Nat} {f : Nat → Nat → Int32} {N : Nat → Int32} (v : palsR w f (palG N)) {i : Nat} (hi : i < w) : ∃ k, k < w ∧ aheadC N k w = i ∧ ∀ q, q < 6 → f i q = palG N k q := by
  obtain ⟨k, hk, e⟩ := palsL_mem.mp (v.1.mem_iff.mp (palsL_mem.mpr ⟨i, hi, rfl⟩))
  refine ⟨k, hk, ?_, fun q hq => (palT_inj e q hq).symm⟩
  rw [aheadC_cnt, ← v.1.countP_eq, e]
  unfold palsL
  rw [List.countP_map]
  refine cnt_lt i _ w (by omega) (fun j hj => ?_)
  simp only [Function.comp, decide_eq_true_eq]
  rw [befT_G]
  constructor
  · intro q
    by_cases z : j < i
    · exact z
    by_cases z2 : j = i
    · rw [z2] at q; exact absurd q (befG_irr _)
    · exact absurd q (befG_asym (v.2 i j (by omega) hj))
  · intro q; exact v.2 j i q hi
theorem palsR.bwd {w : Nat} {f : Nat → Nat → Int32} {N : Nat → Int32} (v : palsR w f (palG N)) {k : Nat} (hk : k < w) : ∃ i, i < w ∧ aheadC N k w = i ∧ ∀ q, q < 6 → f i q = palG N k q := by
  obtain ⟨i, hi, e⟩ := palsL_mem.mp (v.1.mem_iff.mpr (palsL_mem.mpr ⟨k, hk, rfl⟩))
  refine ⟨i, hi, ?_, fun q hq => palT_inj e q hq⟩
  rw [aheadC_cnt, ← v.1.countP_eq, ← e]
  unfold palsL
  rw [List.countP_map]
  refine cnt_lt i _ w (by omega) (fun j hj => ?_)
  simp only [Function.comp, decide_eq_true_eq]
  rw [befT_G]
  constructor
  · intro q
    by_cases z : j < i
    · exact z
    by_cases z2 : j = i
    · rw [z2] at q; exact absurd q (befG_irr _)
    · exact absurd q (befG_asym (v.2 i j (by omega) hj))
  · intro q; exact v.2 j i q hi
theorem t8_waiting {ω : Om} {h : AH} {Q : Option Value → AH → Prop} (hw : ω.2.2.2.1 = true) {B : Nat} {N : Nat → Int32} {H : List (Nat → Int32)} {T : Nat → Int32} {len K : Nat} {x y : Int32} (cw : CW h B N H T len K) (q1 : ¬ (¬ x < 0 ∧ (0 ≤ y ∧ y ≤ nI 5)) → Q (some (.int (-1))) h) (q2 : ∀ w : Nat, N 1 = nI w → w ≤ 8 → (¬ x < 0 ∧ (0 ≤ y ∧ y ≤ nI 5)) → (∀ k, k < w → ¬ nI (aheadC N k w) = x) → Q (some (.int (-4))) h) (q3 : ∀ w i j : Nat, N 1 = nI w → w ≤ 8 → x = nI i → y = nI j → i < w → j < 6 → ∀ v : Int32, (∀ k, k < w → aheadC N k w = i → v = N (140 + 6 * k + j)) → Q (some (.int v)) h) : Ex ω M8_waiting 0 [some (.ref B), some (.int x), some (.int y)] [] h 0 0 Q := by
  obtain ⟨c, w, d, nx, lo, hi, acc, vs, iv⟩ := cw.2.1
  have lw := cw.1
  have ls := lw.2.2.2.2.1
  have n1 := iv.2.1.1
  obtain ⟨w1, w8, pr⟩ := vs.2.1
  refine B8_waiting_0 hw (fun c => B8_waiting_13 hw (q1 (fun o => o.1 c))) (fun cx => ?_)
  refine B8_waiting_4 hw (t8_outside hw (fun a1 a2 => ?_) (fun z => ?_))
  rotate_left
  · exact B8_waiting_10 hw (fun c => absurd c (by decide)) (fun _ => B8_waiting_13 hw (q1 (fun o => z o.2)))
  refine B8_waiting_10 hw (fun _ => ?_) (fun c => absurd rfl c)
  obtain ⟨i, hi', rfl⟩ := nI_of cx
  refine B8_waiting_15 hw lw.1.1 (fun c => ?_) (fun c => ?_)
  · rw [lw.2.1.1, w1, nI_ltI (by omega) (by omega)] at c
    obtain ⟨j, rfl, _, hj⟩ := bd_of (lo := 0) (hi := 5) (by omega) (by omega) a1 a2
    obtain ⟨jj, hjj, ej, oj⟩ := ls.pal (i := i) (by omega)
    refine B8_waiting_29 hw lw.1.1 (vp_in_nI (by omega) (by omega)) ?_
    rw [lw.2.1.1, ls.2.1.2.1, nI_clamp (by omega), show gr h (B + 1 + 20) i = pA h (B + 1) i from rfl]
    refine t1_property hw oj (by omega) (B8_waiting_42 hw (q3 w i j n1 vs.2.1.2.1 rfl rfl c (by omega) _ (fun k hk e => ?_)))
    obtain ⟨i2, _, e2, e3⟩ := pr.bwd hk
    have : i2 = i := by omega
    subst this
    exact e3 j (by omega)
  · rw [lw.2.1.1, w1, nI_ltI (by omega) (by omega)] at c
    refine B8_waiting_26 hw (q2 w n1 vs.2.1.2.1 ⟨cx, a1, a2⟩ (fun k hk e => ?_))
    obtain ⟨i2, hi2, e2, _⟩ := pr.bwd hk
    rw [nI_eq (by omega) (by omega)] at e
    omega

