/-! a roll's properties, and where it breaks -/
theorem t4_property {ω : Om} {h : AH} {Q : Option Value → AH → Prop} (hw : ω.2.2.2.1 = true) {a wk j : Nat} (o : RollO h a) (hwk : gi h a 3 = nI wk) (h8 : wk ≤ 8) (hj : j < 6) (hq : ∀ nx, nxR wk (gi h (a + 1)) (gi h a 2) nx → Q (some (.int (if j < 3 then gi h a j else if j = 3 then nI (wk - nx) else if nx < wk then (if j = 4 then gi h (a + 1) nx else gi h (a + 2) nx) else -4))) h) : Ex ω M4_property 0 [some (.ref a), some (.int (nI j)), none] [] h 0 0 Q := by
  refine B4_property_0 hw o.1 (t4_nextWeak hw o hwk h8 (fun nx hn => ?_))
  have hq' := hq nx hn
  have h1 := hn.1
  refine B4_property_4 hw (fun c => ?_) (fun c => ?_) (fun c => ?_) (fun c => ?_) (fun c => ?_) (fun c => ?_)
  · rw [nI_eq (by omega) (by omega)] at c; subst c; exact B4_property_40 hw o.1 hq'
  · rw [nI_eq (by omega) (by omega)] at c; subst c; exact B4_property_45 hw o.1 hq'
  · rw [nI_eq (by omega) (by omega)] at c; subst c; exact B4_property_50 hw o.1 hq'
  · rw [nI_eq (by omega) (by omega)] at c; subst c
    refine B4_property_55 hw o.1 ?_
    rw [hwk, pk_sub h1]; exact hq'
  · rw [nI_eq (by omega) (by omega)] at c; subst c
    rw [if_neg (by omega), if_neg (by omega), if_pos rfl] at hq'
    refine B4_property_62 hw o.1 (fun c => ?_) (fun c => ?_)
    · rw [hwk, nI_leI (by omega) (by omega)] at c
      rw [if_neg (by omega)] at hq'
      exact B4_property_79 hw (B4_property_81 hw hq')
    · rw [hwk, nI_leI (by omega) (by omega)] at c
      rw [if_pos (by omega)] at hq'
      refine B4_property_70 hw o.1 (vp_in_nI (by omega) (by omega)) (B4_property_81 hw ?_)
      rw [o.2.2.2.1, nI_clamp (by omega)]; exact hq'
  · rw [show (0 : Int32) = nI 0 from rfl, nI_leI (by omega) (by omega), nI_leI (by omega) (by omega)] at c
    obtain rfl : j = 5 := by omega
    rw [if_neg (by omega), if_neg (by omega), if_neg (show ¬ (5 = 4) by omega)] at hq'
    refine B4_property_82 hw o.1 (fun c => ?_) (fun c => ?_)
    · rw [hwk, nI_leI (by omega) (by omega)] at c
      rw [if_neg (by omega)] at hq'
      exact B4_property_99 hw (B4_property_101 hw hq')
    · rw [hwk, nI_leI (by omega) (by omega)] at c
      rw [if_pos (by omega)] at hq'
      refine B4_property_90 hw o.1 (vp_in_nI (by omega) (by omega)) (B4_property_101 hw ?_)
      rw [o.2.2.2.2, nI_clamp (by omega)]; exact hq'
/-- where the class's roll breaks: at the place of i, or nowhere -/
def bkR (wk : Nat) (p s : Nat → Int32) (pos nd t : Int32) (r : Option Nat) : Prop := (∃ i, r = some i ∧ i < wk ∧ pos < p i ∧ p i ≤ pos + nd ∧ s i < t ∧ ∀ j, j < i → ¬ (pos < p j ∧ s j < t)) ∨ (r = none ∧ ∀ j, j < wk → pos < p j → s j < t → ¬ p j ≤ pos + nd)
theorem t4_breakingPlace {ω : Om} {h : AH} {Q : Option Value → AH → Prop} (hw : ω.2.2.2.1 = true) {a wk : Nat} {nd t : Int32} (o : RollO h a) (hwk : gi h a 3 = nI wk) (h8 : wk ≤ 8) (so : ∀ i j, i < j → j < wk → gi h (a + 1) i < gi h (a + 1) j) (q1 : ∀ i, bkR wk (gi h (a + 1)) (gi h (a + 2)) (gi h a 2) nd t (some i) → Q (some (.int (gi h (a + 1) i))) h) (q0 : bkR wk (gi h (a + 1)) (gi h (a + 2)) (gi h a 2) nd t none → Q (some (.int (-1))) h) : Ex ω M4_breakingPlace 0 [some (.ref a), some (.int nd), some (.int t), none] [] h 0 0 Q := by
  refine B4_breakingPlace_0 hw o.1 (t4_nextWeak hw o hwk h8 (fun nx hn => B4_breakingPlace_4 hw ?_))
  obtain ⟨n1, n2, n3⟩ := hn
  have beh : ∀ i, nx ≤ i → i < wk → gi h a 2 < gi h (a + 1) i := by
    intro i h1 h2
    by_cases z : i = nx
    · rw [z]; exact n3 (by omega)
    · exact Int32.lt_trans (n3 (by omega)) (so nx i (by omega) h2)
  have lp : ∀ d i : Nat, i + d = wk → nx ≤ i → (∀ j, nx ≤ j → j < i → ¬ gi h (a + 2) j < t) → Ex ω M4_breakingPlace 5 [some (.ref a), some (.int nd), some (.int t), some (.int (nI i))] [] h 0 0 Q := by
    intro d
    induction d with
    | zero =>
      intro i hi hi2 hp
      refine B4_breakingPlace_5 hw o.1 (fun _ => B4_breakingPlace_51 hw (q0 (Or.inr ⟨rfl, fun j hj h1 h2 => ?_⟩))) (fun c => ?_)
      · by_cases z : j < nx
        · exact absurd h1 (n2 j z)
        · exact absurd h2 (hp j (by omega) (by omega))
      · rw [hwk] at c
        exact absurd (nI_le (by omega) (by omega)) c
    | succ d ih =>
      intro i hi hi2 hp
      refine B4_breakingPlace_5 hw o.1 (fun c => ?_) (fun _ => ?_)
      · rw [hwk] at c
        exact absurd c (nI_ge (by omega) (by omega))
      refine B4_breakingPlace_13 hw o.1 (vp_in_nI (by omega) (by omega)) (fun c => ?_) (fun c => ?_)
      · rw [nI_clamp (by omega), o.2.2.2.1] at c
        refine B4_breakingPlace_51 hw (q0 (Or.inr ⟨rfl, fun j hj h1 h2 h3 => ?_⟩))
        by_cases z : j < nx
        · exact absurd h1 (n2 j z)
        by_cases z2 : j < i
        · exact absurd h2 (hp j (by omega) z2)
        by_cases z3 : j = i
        · rw [z3] at h3; exact absurd c (Int32.not_lt.mpr h3)
        · exact absurd (Int32.lt_trans c (so i j (by omega) hj)) (Int32.not_lt.mpr h3)
      · rw [nI_clamp (by omega), o.2.2.2.1] at c
        refine B4_breakingPlace_28 hw o.1 (vp_in_nI (by omega) (by omega)) (fun c2 => ?_) (fun c2 => ?_)
        · rw [nI_clamp (by omega), o.2.2.2.2] at c2
          refine B4_breakingPlace_45 hw ?_
          rw [nI_add]
          refine ih (i + 1) (by omega) (by omega) (fun j h1 h2 => ?_)
          by_cases z : j = i
          · rw [z]; exact Int32.not_lt.mpr c2
          · exact hp j h1 (by omega)
        · rw [nI_clamp (by omega), o.2.2.2.2] at c2
          refine B4_breakingPlace_38 hw o.1 (vp_in_nI (by omega) (by omega)) ?_
          rw [nI_clamp (by omega), o.2.2.2.1]
          refine q1 i (Or.inl ⟨i, rfl, by omega, beh i hi2 (by omega), Int32.not_lt.mp c, Int32.not_le.mp c2, fun j hj q => ?_⟩)
          by_cases z : j < nx
          · exact n2 j z q.1
          · exact hp j (by omega) hj q.2
  exact lp (wk - nx) nx (by omega) (Nat.le_refl _) (fun j h1 h2 => by omega)
/-- the same break in the row -/
theorem bk_brk {N p s : Nat → Int32} {wk t need : Nat} {r : Option Nat} (w : weakR wk p s (fun k => N (24 + k)) (fun k => N (32 + k))) (h : bkR wk p s (N 22) (nI need) (nI t) r) : brkF N t need wk = r.map p := by
  unfold brkF
  rcases h with ⟨i, rfl, hi, h1, h2, h3, h4⟩ | ⟨rfl, h1⟩
  · obtain ⟨k, hk, e1, e2⟩ := w.fwd hi
    rcases wkB_spec N (nI t) wk with ⟨_, g⟩ | ⟨b, g0, g1, g2, g3⟩
    · exact absurd ⟨by rw [e1]; exact h1, by rw [e2]; exact h3⟩ (g k hk)
    · rw [g1]
      show (if N (24 + b) ≤ N 22 + nI need then some (N (24 + b)) else none) = some (p i)
      obtain ⟨i', hi', e3, e4⟩ := w.bwd g0
      have e : N (24 + b) = p i := by
        have a1 := g3 k hk ⟨by rw [e1]; exact h1, by rw [e2]; exact h3⟩
        rw [e1] at a1
        by_cases z : i' < i
        · exact absurd ⟨by rw [e3]; exact g2.1, by rw [e4]; exact g2.2⟩ (h4 i' z)
        by_cases z2 : i' = i
        · rw [← z2]; exact e3.symm
        · have := w.2 i i' (by omega) hi'
          rw [e3] at this
          exact absurd this a1
      rw [e, if_pos h2]
  · rcases wkB_spec N (nI t) wk with ⟨g0, _⟩ | ⟨b, g0, g1, g2, g3⟩
    · rw [g0]; rfl
    · rw [g1]
      show (if N (24 + b) ≤ N 22 + nI need then some (N (24 + b)) else none) = none
      obtain ⟨i', hi', e3, e4⟩ := w.bwd g0
      rw [if_neg]
      have := h1 i' hi' (by rw [e3]; exact g2.1) (by rw [e4]; exact g2.2)
      rw [e3] at this
      exact this
/-- the next one, and how many are behind -/
theorem nx_wkI {N p s : Nat → Int32} {i wk nx : Nat} {b : Int32} (w : weakR wk p s (fun k => N (24 + 20 * i + k)) (fun k => N (32 + 20 * i + k))) (hs : ∀ k, k < wk → s k < nI 1000) (hn : nxR wk p (N (22 + 20 * i)) nx) (h : wkI N i (nI 1000) wk b) (hwk : wk ≤ 8) : (b < 0 ∧ nx = wk) ∨ ∃ b' : Nat, b = nI b' ∧ b' < wk ∧ nx < wk ∧ N (24 + 20 * i + b') = p nx ∧ N (32 + 20 * i + b') = s nx := by
  obtain ⟨n1, n2, n3⟩ := hn
  have cv : ∀ j, wkC N i (nI 1000) j ↔ (N (22 + 20 * i) < N (24 + 20 * i + j) ∧ N (32 + 20 * i + j) < nI 1000) := by
    intro j
    unfold wkC
    rw [show 20 + 20 * i + 2 = 22 + 20 * i from by omega, show 20 + 20 * i + (4 + j) = 24 + 20 * i + j from by omega, show 20 + 20 * i + (12 + j) = 32 + 20 * i + j from by omega]
  rcases h with ⟨h1, h2⟩ | ⟨b', hb, h1, h2, h3⟩
  · refine Or.inl ⟨by rw [h1]; decide, ?_⟩
    by_cases z : nx < wk
    · obtain ⟨k, hk, e1, e2⟩ := w.fwd z
      exact absurd ((cv k).mpr ⟨by rw [e1]; exact n3 z, by rw [e2]; exact hs nx z⟩) (h2 k hk)
    · omega
  · refine Or.inr ⟨b', h1, hb, ?_⟩
    have c2 := (cv b').mp h2
    obtain ⟨i', hi', e1, e2⟩ := w.bwd hb
    have z : nx < wk := by
      by_cases z : nx < wk
      · exact z
      · exact absurd (by rw [e1]; exact c2.1) (n2 i' (by omega))
    have ii : i' = nx := by
      by_cases z1 : i' < nx
      · exact absurd (by rw [e1]; exact c2.1) (n2 i' z1)
      by_cases z2 : nx < i'
      · obtain ⟨k, hk, e3, e4⟩ := w.fwd z
        have a1 := h3 k hk ((cv k).mpr ⟨by rw [e3]; exact n3 z, by rw [e4]; exact hs nx z⟩)
        rw [show 20 + 20 * i + (4 + k) = 24 + 20 * i + k from by omega, show 20 + 20 * i + (4 + b') = 24 + 20 * i + b' from by omega, e3] at a1
        have a2 := w.2 nx i' z2 hi'
        rw [e1] at a2
        exact absurd a2 a1
      · omega
    subst ii
    exact ⟨z, e1.symm, e2.symm⟩
theorem cnt_thr (nx : Nat) (P : Nat → Bool) : ∀ n, nx ≤ n → (∀ i, i < n → (P i = true ↔ nx ≤ i)) → (List.range n).countP P = n - nx := by
  intro n
  induction n with
  | zero => intro _ _; simp
  | succ n ih =>
    intro h1 h2
    rw [List.range_succ, List.countP_append]
    by_cases c : nx = n + 1
    · have : (List.range n).countP P = 0 := by
        rw [List.countP_eq_zero]
        intro i hi q
        have := (h2 i (by have := List.mem_range.mp hi; omega)).mp q
        have := List.mem_range.mp hi
        omega
      rw [this]
      have pn : P n = false := by
        cases hb : P n with
        | true => have := (h2 n (by omega)).mp hb; omega
        | false => rfl
      simp [pn]; omega
    · rw [ih (by omega) (fun i hi => h2 i (by omega))]
      have pn : P n = true := (h2 n (by omega)).mpr (by omega)
      simp [pn]; omega
theorem nx_count {N p s : Nat → Int32} {i wk nx : Nat} (w : weakR wk p s (fun k => N (24 + 20 * i + k)) (fun k => N (32 + 20 * i + k))) (hn : nxR wk p (N (22 + 20 * i)) nx) : wkCount N i wk = wk - nx := by
  obtain ⟨n1, n2, n3⟩ := hn
  unfold wkCount
  rw [← List.countP_eq_length_filter]
  have e1 : (List.range wk).countP (fun k => decide (N (20 + 20 * i + 2) < N (20 + 20 * i + (4 + k)))) = (prL wk (fun k => N (24 + 20 * i + k)) (fun k => N (32 + 20 * i + k))).countP (fun q => decide (N (22 + 20 * i) < q.1)) := by
    unfold prL
    rw [List.countP_map]
    refine List.countP_congr (fun k _ => ?_)
    simp only [Function.comp]
    rw [show 20 + 20 * i + 2 = 22 + 20 * i from by omega, show 20 + 20 * i + (4 + k) = 24 + 20 * i + k from by omega]
  rw [e1, ← w.1.countP_eq]
  unfold prL
  rw [List.countP_map]
  refine cnt_thr nx _ wk n1 (fun k hk => ?_)
  simp only [Function.comp, decide_eq_true_eq]
  constructor
  · intro q
    by_cases z : k < nx
    · exact absurd q (n2 k z)
    · omega
  · intro q
    by_cases z : k = nx
    · rw [z]; exact n3 (by omega)
    · exact Int32.lt_trans (n3 (by omega)) (w.2 nx k (by omega) hk)

