/-! the model: weak places -/
/-- weak place k of roll i is a candidate: behind the position, weaker than s -/
def wkC (N : Nat → Int32) (i : Nat) (s : Int32) (k : Nat) : Prop := N (20 + 20 * i + 2) < N (20 + 20 * i + (4 + k)) ∧ N (20 + 20 * i + (12 + k)) < s
def wkI (N : Nat → Int32) (i : Nat) (s : Int32) (k : Nat) (b : Int32) : Prop := (b = -1 ∧ ∀ j, j < k → ¬ wkC N i s j) ∨ ∃ b' : Nat, b' < k ∧ b = nI b' ∧ wkC N i s b' ∧ ∀ j, j < k → wkC N i s j → ¬ N (20 + 20 * i + (4 + j)) < N (20 + 20 * i + (4 + b'))
theorem wkI_skip {N : Nat → Int32} {i : Nat} {s : Int32} {k : Nat} {b : Int32} (h : wkI N i s k b) (hc : ¬ wkC N i s k) : wkI N i s (k + 1) b := by
  rcases h with ⟨h1, h2⟩ | ⟨b', h1, h2, h3, h4⟩
  · refine Or.inl ⟨h1, fun j hj => ?_⟩
    by_cases e : j = k
    · rw [e]; exact hc
    · exact h2 j (by omega)
  · refine Or.inr ⟨b', by omega, h2, h3, fun j hj hj2 => ?_⟩
    by_cases e : j = k
    · subst e; exact absurd hj2 hc
    · exact h4 j (by omega) hj2
theorem l9_weakBehind {ω : Om} {h : AH} {m : Nat} {F N S A T R : Nat → Int32} {Q : Option Value → AH → Prop} (hw : ω.2.2.2.1 = true) (ml : ML h m) {i wk : Nat} {s : Int32} (hi : i < 6) (hwk : N (20 + 20 * i + 3) = nI wk) (hwk8 : wk ≤ 8) (hq : ∀ b, wkI N i s wk b → Q (some (.int b)) (hM h m F N S A T R)) : ∀ (d k : Nat) (b : Int32), k + d = wk → wkI N i s k b → Ex ω M9_weakBehind 5 [some (.ref m), some (.int (nI i)), some (.int s), some (.int b), some (.int (nI k)), none] [] (hM h m F N S A T R) 0 0 Q := by
  intro d
  induction d with
  | zero =>
    intro k b hk hI
    obtain rfl : k = wk := by omega
    refine B9_weakBehind_5 hw ml.1 ?_
    refine t9_rollAt hw ml hi (k := 3) (by omega) ?_
    refine B9_weakBehind_13 hw (fun _ => ?_) (fun c => absurd (by rw [hwk]; exact nI_le (by omega) (by omega)) c)
    exact B9_weakBehind_97 hw (hq b hI)
  | succ d ih =>
    intro k b hk hI
    refine B9_weakBehind_5 hw ml.1 ?_
    refine t9_rollAt hw ml hi (k := 3) (by omega) ?_
    refine B9_weakBehind_13 hw (fun c => absurd c (by rw [hwk]; exact nI_ge (by omega) (by omega))) (fun _ => ?_)
    refine B9_weakBehind_16 hw ml.1 ?_
    rw [nI_add]
    refine t9_rollAt hw ml hi (k := 4 + k) (by omega) ?_
    refine B9_weakBehind_25 hw ml.1 ?_
    refine t9_rollAt hw ml hi (k := 2) (by omega) ?_
    have step : ∀ b', wkI N i s (k + 1) b' → Ex ω M9_weakBehind 90 [some (.ref m), some (.int (nI i)), some (.int s), none, some (.int (nI k)), none] [.int b'] (hM h m F N S A T R) 0 0 Q := fun b' hb' => by
      refine B9_weakBehind_90 hw ?_
      rw [nI_add]
      exact ih (k + 1) b' (by omega) hb'
    have skip : ¬ wkC N i s k → Ex ω M9_weakBehind 52 [some (.ref m), some (.int (nI i)), some (.int s), some (.int b), some (.int (nI k)), none] [] (hM h m F N S A T R) 0 0 Q := fun hc => by
      refine B9_weakBehind_52 hw (B9_weakBehind_53 hw (fun _ => ?_) (fun c => absurd rfl c))
      refine B9_weakBehind_89 hw (x_dr3 (step b (wkI_skip hI hc)))
    refine B9_weakBehind_31 hw (fun c => skip (fun z => Int32.not_le.mpr z.1 c)) (fun c1 => ?_)
    refine B9_weakBehind_34 hw ml.1 ?_
    rw [nI_add]
    refine t9_rollAt hw ml hi (k := 12 + k) (by omega) ?_
    refine B9_weakBehind_44 hw (fun c => skip (fun z => Int32.not_le.mpr z.2 c)) (fun c2 => ?_)
    have hc : wkC N i s k := ⟨Int32.not_le.mp c1, Int32.not_le.mp c2⟩
    refine B9_weakBehind_48 hw (B9_weakBehind_53 hw (fun c => absurd c (by decide)) (fun _ => ?_))
    have take : (∀ j, j < k → wkC N i s j → ¬ N (20 + 20 * i + (4 + j)) < N (20 + 20 * i + (4 + k))) → Ex ω M9_weakBehind 84 [some (.ref m), some (.int (nI i)), some (.int s), some (.int b), some (.int (nI k)), none] [] (hM h m F N S A T R) 0 0 Q := fun ha => by
      refine B9_weakBehind_84 hw (step _ (Or.inr ⟨k, by omega, rfl, hc, fun j hj hj2 => ?_⟩))
      by_cases e : j = k
      · subst e; exact Int32.lt_irrefl
      · exact ha j (by omega) hj2
    refine B9_weakBehind_60 hw (fun c3 => ?_) (fun c3 => ?_)
    · rcases hI with ⟨-, h2⟩ | ⟨b', h1, rfl, h3, h4⟩
      · exact take (fun j hj hj2 => absurd hj2 (h2 j hj))
      · exact absurd c3 (nI_pos (by omega))
    · rcases hI with ⟨rfl, h2⟩ | ⟨b', h1, rfl, h3, h4⟩
      · exact absurd (by decide) c3
      · refine B9_weakBehind_64 hw ml.1 ?_
        rw [nI_add]
        refine t9_rollAt hw ml hi (k := 4 + k) (by omega) ?_
        refine B9_weakBehind_73 hw ml.1 ?_
        rw [nI_add]
        refine t9_rollAt hw ml hi (k := 4 + b') (by omega) ?_
        refine B9_weakBehind_81 hw (fun c4 => ?_) (fun c4 => ?_)
        · refine B9_weakBehind_89 hw (x_dr3 (step (nI b') (Or.inr ⟨b', by omega, rfl, h3, fun j hj hj2 => ?_⟩)))
          by_cases e : j = k
          · subst e; exact Int32.not_lt.mpr c4
          · exact h4 j (by omega) hj2
        · refine take (fun j hj hj2 z => h4 j hj hj2 ?_)
          exact Int32.lt_trans z (Int32.not_le.mp c4)
theorem t9_weakBehind {ω : Om} {h : AH} {m : Nat} {F N S A T R : Nat → Int32} {Q : Option Value → AH → Prop} (hw : ω.2.2.2.1 = true) (ml : ML h m) {i wk : Nat} {s : Int32} (hi : i < 6) (hwk : N (20 + 20 * i + 3) = nI wk) (hwk8 : wk ≤ 8) (hq : ∀ b, wkI N i s wk b → Q (some (.int b)) (hM h m F N S A T R)) : Ex ω M9_weakBehind 0 [some (.ref m), some (.int (nI i)), some (.int s), none, none, none] [] (hM h m F N S A T R) 0 0 Q :=
  B9_weakBehind_0 hw (l9_weakBehind hw ml hi hwk hwk8 hq wk 0 (-1) (by omega) (Or.inl ⟨rfl, fun j hj => by omega⟩))
/-- a roll's property -/
theorem l9_roll {ω : Om} {h : AH} {m : Nat} {F N S A T R : Nat → Int32} {Q : Option Value → AH → Prop} (hw : ω.2.2.2.1 = true) (ml : ML h m) {i wk : Nat} {r w : Int32} (hi : i < 6) (hwk : N (20 + 20 * i + 3) = nI wk) (hwk8 : wk ≤ 8) (hq : ∀ b : Nat, b = ((List.range wk).filter (fun k => decide (N (20 + 20 * i + 2) < N (20 + 20 * i + (4 + k))))).length → Ex ω M9_roll 82 [some (.ref m), some (.int (nI i)), some (.int w), some (.int (nI b)), none] [] (hM h m F N S A T R) 0 0 Q) : ∀ (d k : Nat), k + d = wk → Ex ω M9_roll 39 [some (.ref m), some (.int (nI i)), some (.int w), some (.int (nI ((List.range k).filter (fun k => decide (N (20 + 20 * i + 2) < N (20 + 20 * i + (4 + k))))).length)), some (.int (nI k))] [] (hM h m F N S A T R) 0 0 Q := by
  intro d
  induction d with
  | zero =>
    intro k hk
    obtain rfl : k = wk := by omega
    refine B9_roll_39 hw ml.1 ?_
    refine t9_rollAt hw ml hi (k := 3) (by omega) ?_
    refine B9_roll_47 hw (fun _ => ?_) (fun c => absurd (by rw [hwk]; exact nI_le (by omega) (by omega)) c)
    exact x_dr4 (hq _ rfl)
  | succ d ih =>
    intro k hk
    refine B9_roll_39 hw ml.1 ?_
    refine t9_rollAt hw ml hi (k := 3) (by omega) ?_
    refine B9_roll_47 hw (fun c => absurd c (by rw [hwk]; exact nI_ge (by omega) (by omega))) (fun _ => ?_)
    refine B9_roll_50 hw ml.1 ?_
    rw [nI_add]
    refine t9_rollAt hw ml hi (k := 4 + k) (by omega) ?_
    refine B9_roll_60 hw ml.1 ?_
    refine t9_rollAt hw ml hi (k := 2) (by omega) ?_
    have e := List.range_succ (n := k)
    have hI := ih (k + 1) (by omega)
    rw [e, List.filter_append, List.length_append] at hI
    refine B9_roll_66 hw (fun c => ?_) (fun c => ?_)
    · refine B9_roll_73 hw (B9_roll_74 hw ?_)
      rw [nI_add, nI_add]
      rw [show ([k].filter (fun k => decide (N (20 + 20 * i + 2) < N (20 + 20 * i + (4 + k))))) = [] from by simp [Int32.not_lt.mpr c]] at hI
      exact hI
    · refine B9_roll_69 hw (B9_roll_74 hw ?_)
      rw [nI_add, nI_add]
      rw [show ([k].filter (fun k => decide (N (20 + 20 * i + 2) < N (20 + 20 * i + (4 + k))))) = [k] from by simp [Int32.not_le.mp c]] at hI
      exact hI
/-- what 'roll' answers -/
def wkCount (N : Nat → Int32) (i wk : Nat) : Nat := ((List.range wk).filter (fun k => decide (N (20 + 20 * i + 2) < N (20 + 20 * i + (4 + k))))).length
theorem t9_roll {ω : Om} {h : AH} {m : Nat} {F N S A T R : Nat → Int32} {Q : Option Value → AH → Prop} (hw : ω.2.2.2.1 = true) (ml : ML h m) {c : Nat} {r w : Int32} (hN0 : N 0 = nI c) (hc : c ≤ 6) (hwk : ∀ i, i < c → ∃ wk, N (20 + 20 * i + 3) = nI wk ∧ wk ≤ 8) (q1 : ¬ ((0 ≤ r ∧ r < nI c) ∧ (0 ≤ w ∧ w ≤ nI 5)) → Q (some (.int (-1))) (hM h m F N S A T R))
    (q2 : ∀ i j : Nat, i < c → r = nI i → w = nI j → j < 3 → Q (some (.int (N (20 + 20 * i + j)))) (hM h m F N S A T R))
    (q3 : ∀ i wk : Nat, i < c → r = nI i → w = nI 3 → N (20 + 20 * i + 3) = nI wk → wk ≤ 8 → Q (some (.int (nI (wkCount N i wk)))) (hM h m F N S A T R))
    (q4 : ∀ (i j wk : Nat) (b : Int32), i < c → r = nI i → w = nI j → j = 4 ∨ j = 5 → N (20 + 20 * i + 3) = nI wk → wk ≤ 8 → wkI N i (nI 1000) wk b → Q (some (.int (if b < 0 then -4 else N (20 + 20 * i + (if j = 4 then 4 + nn b else 12 + nn b))))) (hM h m F N S A T R)) : Ex ω M9_roll 0 [some (.ref m), some (.int r), some (.int w), none, none] [] (hM h m F N S A T R) 0 0 Q := by
  refine B9_roll_0 hw ml.1 ?_
  refine t9_isRoll hw ml hN0 hc (fun i hi hr => ?_) (fun z => ?_)
  · subst hr
    refine B9_roll_5 hw (fun c => absurd c (by decide)) (fun _ => ?_)
    refine B9_roll_8 hw ?_
    refine t9_in hw (lo := 0) (hi := nI 5) rfl rfl (fun a1 a2 => ?_) (fun a => ?_)
    · refine B9_roll_17 hw (fun _ => ?_) (fun c => absurd c (by decide))
      obtain ⟨j, rfl, -, hj5⟩ := bd_of (lo := 0) (hi := 5) (by omega) (by omega) a1 a2
      obtain ⟨wk, hk1, hk2⟩ := hwk i hi
      refine B9_roll_22 hw (fun z => ?_) (fun z => ?_)
      · rw [nI_leI (by omega) (by omega)] at z
        refine B9_roll_34 hw ?_
        refine l9_roll (r := nI i) hw ml (by omega) hk1 hk2 (fun b hb => ?_) wk 0 (by omega)
        refine B9_roll_82 hw ml.1 ?_
        refine t9_weakBehind hw ml (by omega) hk1 hk2 (fun b2 hb2 => ?_)
        refine B9_roll_90 hw (fun z2 => ?_) (fun z2 => ?_)
        · rw [nI_eq (by omega) (by omega)] at z2
          have q := q4 i j wk b2 hi rfl rfl (by omega) hk1 hk2 hb2
          refine B9_roll_101 hw (fun z3 => ?_) (fun z3 => ?_)
          · rw [if_neg (Int32.not_lt.mpr z3)] at q
            rcases hb2 with ⟨rfl, -⟩ | ⟨b', h1, rfl, -, -⟩
            · exact absurd z3 (by decide)
            rw [nn_nI (by omega)] at q
            refine B9_roll_111 hw (fun z4 => ?_) (fun z4 => ?_)
            · rw [nI_eq (by omega) (by omega)] at z4
              refine B9_roll_122 hw (B9_roll_124 hw ml.1 ?_)
              rw [nI_add]
              refine t9_rollAt hw ml (by omega) (k := 12 + b') (by omega) ?_
              rw [if_neg z4] at q
              exact B9_roll_130 hw q
            · rw [nI_eq (by omega) (by omega)] at z4
              refine B9_roll_118 hw (B9_roll_124 hw ml.1 ?_)
              rw [nI_add]
              refine t9_rollAt hw ml (by omega) (k := 4 + b') (by omega) ?_
              rw [if_pos z4] at q
              exact B9_roll_130 hw q
          · rw [if_pos (Int32.not_le.mp z3)] at q
            exact B9_roll_106 hw (B9_roll_130 hw q)
        · rw [nI_eq (by omega) (by omega)] at z2
          subst z2; subst hb
          exact B9_roll_97 hw (B9_roll_130 hw (q3 i wk hi rfl rfl hk1 hk2))
      · rw [nI_leI (by omega) (by omega)] at z
        refine B9_roll_27 hw ml.1 ?_
        refine t9_rollAt hw ml (by omega) (k := j) (by omega) ?_
        exact B9_roll_33 hw (q2 i j hi rfl rfl (by omega))
    · refine B9_roll_17 hw (fun c => absurd rfl c) (fun _ => ?_)
      exact B9_roll_20 hw (q1 (fun z => a z.2))
  · refine B9_roll_5 hw (fun _ => ?_) (fun c => absurd rfl c)
    exact B9_roll_20 hw (q1 (fun y => z y.1))
