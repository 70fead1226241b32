/-! the model: weaken, rolls and pallets that go, pallets that come, the order of the pallets, settings -/
def wkArg (N : Nat → Int32) (c : Nat) (r p s : Int32) : Prop := (0 ≤ r ∧ r < nI c) ∧ (nI 1 ≤ p ∧ p ≤ N (20 + 20 * nn r + 0) - nI 1) ∧ (0 ≤ s ∧ s ≤ nI 199)
def wkHas (N : Nat → Int32) (i wk : Nat) (p : Int32) : Prop := p ≤ N (20 + 20 * i + 2) ∨ ∃ k, k < wk ∧ N (20 + 20 * i + (4 + k)) = p
def weakenN (N : Nat → Int32) (i wk : Nat) (p s : Int32) : Nat → Int32 := fun j => if j = 20 + 20 * i + 3 then nI (wk + 1) else if j = 20 + 20 * i + (4 + wk) then p else if j = 20 + 20 * i + (12 + wk) then s else N j
theorem l9_weaken {ω : Om} {h : AH} {m : Nat} {F N S A T R : Nat → Int32} {Q : Option Value → AH → Prop} (hw : ω.2.2.2.1 = true) (ml : ML h m) {i wk : Nat} {r p s : Int32} (hi : i < 6) (hwk : N (20 + 20 * i + 3) = nI wk) (hwk8 : wk ≤ 8)
    (hq : ∀ f : Nat, (f = 1 ∧ wkHas N i wk p) ∨ (f = 0 ∧ ¬ wkHas N i wk p) → Ex ω M9_weaken 102 [some (.ref m), some (.int (nI i)), some (.int p), some (.int s), some (.int (nI f)), none] [] (hM h m F N S A T R) 0 0 Q) :
    ∀ (d k f : Nat), k + d = wk → ((f = 1 ∧ wkHas N i k p) ∨ (f = 0 ∧ ¬ wkHas N i k p)) → Ex ω M9_weaken 60 [some (.ref m), some (.int (nI i)), some (.int p), some (.int s), some (.int (nI f)), some (.int (nI k))] [] (hM h m F N S A T R) 0 0 Q := by
  intro d
  induction d with
  | zero =>
    intro k f hk hf
    obtain rfl : k = wk := by omega
    refine B9_weaken_60 hw ml.1 ?_
    refine t9_rollAt hw ml hi (k := 3) (by omega) ?_
    refine B9_weaken_68 hw (fun _ => ?_) (fun c => absurd (by rw [hwk]; exact nI_le (by omega) (by omega)) c)
    exact x_dr5 (hq f hf)
  | succ d ih =>
    intro k f hk hf
    refine B9_weaken_60 hw ml.1 ?_
    refine t9_rollAt hw ml hi (k := 3) (by omega) ?_
    refine B9_weaken_68 hw (fun c => absurd c (by rw [hwk]; exact nI_ge (by omega) (by omega))) (fun _ => ?_)
    have yes : wkHas N i (k + 1) p → Ex ω M9_weaken 89 [some (.ref m), some (.int (nI i)), some (.int p), some (.int s), some (.int (nI f)), some (.int (nI k))] [] (hM h m F N S A T R) 0 0 Q := fun hy => by
      refine B9_weaken_89 hw (B9_weaken_94 hw ?_)
      rw [nI_add]
      exact ih (k + 1) 1 (by omega) (Or.inl ⟨rfl, hy⟩)
    refine B9_weaken_71 hw (fun c => ?_) (fun c => ?_)
    · refine yes ?_
      rcases hf with ⟨-, h1⟩ | ⟨rfl, -⟩
      · rcases h1 with h1 | ⟨k', h1, h2⟩
        · exact Or.inl h1
        · exact Or.inr ⟨k', by omega, h2⟩
      · exact absurd rfl c
    · have hno : ¬ wkHas N i k p := by
        rcases hf with ⟨rfl, -⟩ | ⟨-, h1⟩
        · exact absurd c (by decide)
        · exact h1
      refine B9_weaken_76 hw ml.1 ?_
      rw [nI_add]
      refine t9_rollAt hw ml hi (k := 4 + k) (by omega) ?_
      refine B9_weaken_85 hw (fun c2 => ?_) (fun c2 => ?_)
      · refine B9_weaken_93 hw (B9_weaken_94 hw ?_)
        rw [nI_add]
        refine ih (k + 1) 0 (by omega) (Or.inr ⟨rfl, fun hy => hno ?_⟩)
        rcases hy with hy | ⟨k', h1, h2⟩
        · exact Or.inl hy
        · refine Or.inr ⟨k', ?_, h2⟩
          by_cases e : k' = k
          · subst e; exact absurd h2 c2
          · omega
      · exact x_dr4 (by
          have := yes (Or.inr ⟨k, by omega, c2⟩)
          exact B9_weaken_89 hw (B9_weaken_94 hw (by
            rw [nI_add]
            exact ih (k + 1) 1 (by omega) (Or.inl ⟨rfl, Or.inr ⟨k, by omega, c2⟩⟩))))
theorem t9_weaken {ω : Om} {h : AH} {m : Nat} {F N S A T R : Nat → Int32} {Q : Option Value → AH → Prop} (hw : ω.2.2.2.1 = true) (ml : ML h m) {c st : Nat} {r p s : Int32} (hN0 : N 0 = nI c) (hc : c ≤ 6) (hst : st ≤ 4) (hF : F 2 = nI st) (zN : Z596 N) (hwk : ∀ i, i < c → ∃ wk, N (20 + 20 * i + 3) = nI wk ∧ wk ≤ 8)
    (q1 : ¬ wkArg N c r p s → Q (some (.int (-1))) (hM h m F N S A T R))
    (q2 : ∀ i wk : Nat, i < c → r = nI i → N (20 + 20 * i + 3) = nI wk → wk ≤ 8 → wkArg N c r p s → wkHas N i wk p → Q (some (.int (-2))) (hM h m F N S A T R))
    (q3 : ∀ i wk : Nat, i < c → r = nI i → N (20 + 20 * i + 3) = nI wk → wkArg N c r p s → ¬ wkHas N i wk p → wk = 8 → Q (some (.int (-3))) (hM h m F N S A T R))
    (q4 : ∀ i wk : Nat, i < c → r = nI i → N (20 + 20 * i + 3) = nI wk → wkArg N c r p s → ¬ wkHas N i wk p → wk < 8 → ∀ (S' : Nat → Int32) (st' : Nat), st' ≤ 4 → MH S' st' = pushH (MH S st) N → Q (some (.int (nI (wk + 1)))) (hM h m (upd F 2 (nI st')) (weakenN N i wk p s) S' A T R)) : Ex ω M9_weaken 0 [some (.ref m), some (.int r), some (.int p), some (.int s), none, none] [] (hM h m F N S A T R) 0 0 Q := by
  refine B9_weaken_0 hw ml.1 ?_
  refine t9_isRoll hw ml hN0 hc (fun i hi hr => ?_) (fun z => ?_)
  · subst hr
    have hi6 : i < 6 := by omega
    obtain ⟨wk, hk1, hk2⟩ := hwk i hi
    have hr0 : (0 : Int32) ≤ nI i ∧ nI i < nI c := ⟨nI_pos' (by omega), nI_lt hi (by omega)⟩
    have en : nn (nI i) = i := nn_nI (by omega)
    refine B9_weaken_5 hw (fun c => absurd c (by decide)) (fun _ => ?_)
    refine B9_weaken_8 hw ml.1 ?_
    refine t9_rollAt hw ml hi6 (k := 0) (by omega) ?_
    refine B9_weaken_17 hw ?_
    refine t9_in hw (lo := nI 1) (hi := N (20 + 20 * i + 0) - nI 1) rfl rfl (fun a1 a2 => ?_) (fun a => ?_)
    · refine B9_weaken_23 hw (fun c => absurd c (by decide)) (fun _ => ?_)
      refine B9_weaken_26 hw ?_
      refine t9_in hw (lo := 0) (hi := nI 199) rfl rfl (fun b1 b2 => ?_) (fun b => ?_)
      · have ok : wkArg N c (nI i) p s := ⟨hr0, by rw [en]; exact ⟨a1, a2⟩, b1, b2⟩
        refine B9_weaken_35 hw (fun _ => ?_) (fun c => absurd c (by decide))
        refine B9_weaken_40 hw ml.1 ?_
        refine t9_rollAt hw ml hi6 (k := 2) (by omega) ?_
        have cont : ∀ f : Nat, ((f = 1 ∧ wkHas N i wk p) ∨ (f = 0 ∧ ¬ wkHas N i wk p)) → Ex ω M9_weaken 102 [some (.ref m), some (.int (nI i)), some (.int p), some (.int s), some (.int (nI f)), none] [] (hM h m F N S A T R) 0 0 Q := fun f hf => by
          refine B9_weaken_102 hw (fun z => ?_) (fun z => ?_)
          · have hno : ¬ wkHas N i wk p := by
              rcases hf with ⟨rfl, -⟩ | ⟨-, h1⟩
              · exact absurd z (by decide)
              · exact h1
            refine x_dr4 (B9_weaken_110 hw ml.1 ?_)
            refine t9_rollAt hw ml hi6 (k := 3) (by omega) ?_
            refine B9_weaken_116 hw (fun z2 => ?_) (fun z2 => ?_)
            · rw [hk1, nI_eq (by omega) (by omega)] at z2
              refine B9_weaken_124 hw ml.1 ?_
              refine t9_change hw ml hst hF zN (fun S' st' hst' hm => ?_)
              refine B9_weaken_128 hw ml.1 (by simp only [pk_mul, nI_add]; exact vp_in_nI (by omega) (by omega)) ?_ ?_
              · simp (disch := omega) only [gr_hM, gs_hM, ml.2.1, ml.2.2.1, ml.2.2.2.1, ml.2.2.2.2.1, ml.2.2.2.2.2, hM_F, hM_N, hM_S, hM_A, hM_T, hM_R, hM_sF, hM_sN, hM_sS, hM_sA, hM_sT, hM_sR, pk_mul, nI_add, nI_clamp, upd_eq, upd_ne]
                rw [hk1]
                simp (disch := omega) only [gr_hM, gs_hM, ml.2.1, ml.2.2.1, ml.2.2.2.1, ml.2.2.2.2.1, ml.2.2.2.2.2, hM_F, hM_N, hM_S, hM_A, hM_T, hM_R, hM_sF, hM_sN, hM_sS, hM_sA, hM_sT, hM_sR, pk_mul, nI_add, nI_clamp, upd_eq, upd_ne]
                exact vp_in_nI (by omega) (by omega)
              · simp (disch := omega) only [gr_hM, gs_hM, ml.2.1, ml.2.2.1, ml.2.2.2.1, ml.2.2.2.2.1, ml.2.2.2.2.2, hM_F, hM_N, hM_S, hM_A, hM_T, hM_R, hM_sF, hM_sN, hM_sS, hM_sA, hM_sT, hM_sR, pk_mul, nI_add, nI_clamp, upd_eq, upd_ne]
                rw [hk1]
                simp (disch := omega) only [gr_hM, gs_hM, ml.2.1, ml.2.2.1, ml.2.2.2.1, ml.2.2.2.2.1, ml.2.2.2.2.2, hM_F, hM_N, hM_S, hM_A, hM_T, hM_R, hM_sF, hM_sN, hM_sS, hM_sA, hM_sT, hM_sR, pk_mul, nI_add, nI_clamp, upd_eq, upd_ne]
                refine B9_weaken_157 hw ml.1 (by simp (disch := omega) only [gr_hM, gs_hM, ml.2.1, ml.2.2.1, ml.2.2.2.1, ml.2.2.2.2.1, ml.2.2.2.2.2, hM_F, hM_N, hM_S, hM_A, hM_T, hM_R, hM_sF, hM_sN, hM_sS, hM_sA, hM_sT, hM_sR, pk_mul, nI_add, nI_clamp, upd_eq, upd_ne]; exact vp_in_nI (by omega) (by omega)) ?_ (by simp (disch := omega) only [gr_hM, gs_hM, ml.2.1, ml.2.2.1, ml.2.2.2.1, ml.2.2.2.2.1, ml.2.2.2.2.2, hM_F, hM_N, hM_S, hM_A, hM_T, hM_R, hM_sF, hM_sN, hM_sS, hM_sA, hM_sT, hM_sR, pk_mul, nI_add, nI_clamp, upd_eq, upd_ne]; exact vp_in_nI (by omega) (by omega)) (by simp (disch := omega) only [gr_hM, gs_hM, ml.2.1, ml.2.2.1, ml.2.2.2.1, ml.2.2.2.2.1, ml.2.2.2.2.2, hM_F, hM_N, hM_S, hM_A, hM_T, hM_R, hM_sF, hM_sN, hM_sS, hM_sA, hM_sT, hM_sR, pk_mul, nI_add, nI_clamp, upd_eq, upd_ne]; exact vp_in_nI (by omega) (by omega)) ?_
                · simp (disch := omega) only [gr_hM, gs_hM, ml.2.1, ml.2.2.1, ml.2.2.2.1, ml.2.2.2.2.1, ml.2.2.2.2.2, hM_F, hM_N, hM_S, hM_A, hM_T, hM_R, hM_sF, hM_sN, hM_sS, hM_sA, hM_sT, hM_sR, pk_mul, nI_add, nI_clamp, upd_eq, upd_ne]
                  rw [hk1, nI_add]; exact vp_in_nI (by omega) (by omega)
                · simp (disch := omega) only [gr_hM, gs_hM, ml.2.1, ml.2.2.1, ml.2.2.2.1, ml.2.2.2.2.1, ml.2.2.2.2.2, hM_F, hM_N, hM_S, hM_A, hM_T, hM_R, hM_sF, hM_sN, hM_sS, hM_sA, hM_sT, hM_sR, pk_mul, nI_add, nI_clamp, upd_eq, upd_ne]
                  rw [hk1]
                  simp (disch := omega) only [gr_hM, gs_hM, ml.2.1, ml.2.2.1, ml.2.2.2.1, ml.2.2.2.2.1, ml.2.2.2.2.2, hM_F, hM_N, hM_S, hM_A, hM_T, hM_R, hM_sF, hM_sN, hM_sS, hM_sA, hM_sT, hM_sR, pk_mul, nI_add, nI_clamp, upd_eq, upd_ne]
                  refine B9_weaken_191 hw ml.1 (by simp (disch := omega) only [gr_hM, gs_hM, ml.2.1, ml.2.2.1, ml.2.2.2.1, ml.2.2.2.2.1, ml.2.2.2.2.2, hM_F, hM_N, hM_S, hM_A, hM_T, hM_R, hM_sF, hM_sN, hM_sS, hM_sA, hM_sT, hM_sR, pk_mul, nI_add, nI_clamp, upd_eq, upd_ne]; exact vp_in_nI (by omega) (by omega)) ?_
                  simp (disch := omega) only [gr_hM, gs_hM, ml.2.1, ml.2.2.1, ml.2.2.2.1, ml.2.2.2.2.1, ml.2.2.2.2.2, hM_F, hM_N, hM_S, hM_A, hM_T, hM_R, hM_sF, hM_sN, hM_sS, hM_sA, hM_sT, hM_sR, pk_mul, nI_add, nI_clamp, upd_eq, upd_ne]
                  rw [hk1, nI_add]
                  have e : upd (upd (upd N (20 + 20 * i + 4 + wk) p) (20 + 20 * i + 12 + wk) s) (20 + 20 * i + 3) (nI (wk + 1)) = weakenN N i wk p s := (by funext j; simp only [upd, weakenN]; (repeat' split) <;> first | rfl | (exfalso; omega) | (congr 1; omega))
                  rw [e]
                  exact q4 i wk hi rfl hk1 ok hno (by omega) S' st' hst' hm
            · rw [hk1, nI_eq (by omega) (by omega)] at z2
              exact B9_weaken_121 hw (q3 i wk hi rfl hk1 ok hno z2)
          · have hyes : wkHas N i wk p := by
              rcases hf with ⟨-, h1⟩ | ⟨rfl, -⟩
              · exact h1
              · exact absurd rfl z
            exact B9_weaken_107 hw (q2 i wk hi rfl hk1 hk2 ok hyes)
        refine B9_weaken_47 hw (fun z => ?_) (fun z => ?_)
        · refine B9_weaken_54 hw (B9_weaken_55 hw ?_)
          refine l9_weaken (r := nI i) hw ml hi6 hk1 hk2 cont wk 0 0 (by omega) (Or.inr ⟨rfl, fun hy => ?_⟩)
          rcases hy with hy | ⟨k', h1, -⟩
          · exact Int32.not_le.mpr z hy
          · omega
        · refine B9_weaken_50 hw (B9_weaken_55 hw ?_)
          exact l9_weaken (r := nI i) hw ml hi6 hk1 hk2 cont wk 0 1 (by omega) (Or.inl ⟨rfl, Or.inl (Int32.not_lt.mp z)⟩)
      · refine B9_weaken_35 hw (fun c => absurd rfl c) (fun _ => ?_)
        exact B9_weaken_38 hw (q1 (fun z => b z.2.2))
    · refine B9_weaken_23 hw (fun _ => ?_) (fun c => absurd rfl c)
      exact B9_weaken_38 hw (q1 (fun z => a (by have := z.2.1; rw [en] at this; exact this)))
  · refine B9_weaken_5 hw (fun _ => ?_) (fun c => absurd rfl c)
    exact B9_weaken_38 hw (q1 (fun y => z y.1))
/-! what goes -/
def rollGoesN (N : Nat → Int32) (c : Nat) : Nat → Int32 := fun j => if j = 0 then nI (c - 1) else if 20 ≤ j ∧ j < 20 * c then N (j + 20) else N j
theorem t9_rollGoes {ω : Om} {h : AH} {m : Nat} {F N S A T R : Nat → Int32} {Q : Option Value → AH → Prop} (hw : ω.2.2.2.1 = true) (ml : ML h m) {c : Nat} (hN0 : N 0 = nI c) (h1 : 1 ≤ c) (hc : c ≤ 6) (hq : Q none (hM h m F (rollGoesN N c) S A T R)) : Ex ω M9_rollGoes 0 [some (.ref m), none] [] (hM h m F N S A T R) 0 0 Q := by
  refine B9_rollGoes_0 hw ml.1 ?_
  simp (disch := omega) only [gr_hM, gs_hM, ml.2.1, ml.2.2.1, ml.2.2.2.1, ml.2.2.2.2.1, ml.2.2.2.2.2, hM_F, hM_N, hM_S, hM_A, hM_T, hM_R, hM_sF, hM_sN, hM_sS, hM_sA, hM_sT, hM_sR, pk_mul, nI_add, nI_clamp, upd_eq, upd_ne]
  rw [hN0, pk_sub h1]
  have lp : ∀ (d i : Nat), i + d = 20 * c → 20 ≤ i → Ex ω M9_rollGoes 13 [some (.ref m), some (.int (nI i))] [] (hM h m F (fun j => if j = 0 then nI (c - 1) else if 20 ≤ j ∧ j < i then N (j + 20) else N j) S A T R) 0 0 Q := by
    intro d
    induction d with
    | zero =>
      intro i hi h20
      refine B9_rollGoes_13 hw ml.1 (fun _ => ?_) (fun z => ?_)
      · refine B9_rollGoes_50 hw ?_
        obtain rfl : i = 20 * c := by omega
        exact hq
      · simp (disch := omega) only [gr_hM, gs_hM, ml.2.1, ml.2.2.1, ml.2.2.2.1, ml.2.2.2.2.1, ml.2.2.2.2.2, hM_F, hM_N, hM_S, hM_A, hM_T, hM_R, hM_sF, hM_sN, hM_sS, hM_sA, hM_sT, hM_sR, pk_mul, nI_add, nI_clamp, upd_eq, upd_ne] at z
        rw [if_pos trivial] at z
        simp only [pk_mul, nI_add] at z
        exact absurd (nI_le (by omega) (by omega)) z
    | succ d ih =>
      intro i hi h20
      refine B9_rollGoes_13 hw ml.1 (fun z => ?_) (fun z => ?_)
      · simp (disch := omega) only [gr_hM, gs_hM, ml.2.1, ml.2.2.1, ml.2.2.2.1, ml.2.2.2.2.1, ml.2.2.2.2.2, hM_F, hM_N, hM_S, hM_A, hM_T, hM_R, hM_sF, hM_sN, hM_sS, hM_sA, hM_sT, hM_sR, pk_mul, nI_add, nI_clamp, upd_eq, upd_ne] at z
        rw [if_pos trivial] at z
        simp only [pk_mul, nI_add] at z
        exact absurd z (nI_ge (by omega) (by omega))
      · refine B9_rollGoes_29 hw ml.1 (by simp (disch := omega) only [gr_hM, gs_hM, ml.2.1, ml.2.2.1, ml.2.2.2.1, ml.2.2.2.2.1, ml.2.2.2.2.2, hM_F, hM_N, hM_S, hM_A, hM_T, hM_R, hM_sF, hM_sN, hM_sS, hM_sA, hM_sT, hM_sR, pk_mul, nI_add, nI_clamp, upd_eq, upd_ne]; exact vp_in_nI (by omega) (by omega)) (by (try simp (disch := omega) only [gr_hM, gs_hM, ml.2.1, ml.2.2.1, ml.2.2.2.1, ml.2.2.2.2.1, ml.2.2.2.2.2, hM_F, hM_N, hM_S, hM_A, hM_T, hM_R, hM_sF, hM_sN, hM_sS, hM_sA, hM_sT, hM_sR, pk_mul, nI_add, nI_clamp, upd_eq, upd_ne]); exact vp_in_nI (by omega) (by omega)) ?_
        simp (disch := omega) only [gr_hM, gs_hM, ml.2.1, ml.2.2.1, ml.2.2.2.1, ml.2.2.2.2.1, ml.2.2.2.2.2, hM_F, hM_N, hM_S, hM_A, hM_T, hM_R, hM_sF, hM_sN, hM_sS, hM_sA, hM_sT, hM_sR, pk_mul, nI_add, nI_clamp, upd_eq, upd_ne]
        have e : upd (fun j => if j = 0 then nI (c - 1) else if 20 ≤ j ∧ j < i then N (j + 20) else N j) i (if i + 20 = 0 then nI (c - 1) else if 20 ≤ i + 20 ∧ i + 20 < i then N (i + 20 + 20) else N (i + 20)) = (fun j => if j = 0 then nI (c - 1) else if 20 ≤ j ∧ j < i + 1 then N (j + 20) else N j) := by
          rw [if_neg (by omega), if_neg (by omega)]
          exact (by funext j; simp only [upd]; (repeat' split) <;> first | rfl | (exfalso; omega) | (congr 1; omega))
        rw [e]
        exact ih (i + 1) (by omega) (by omega)
  have := lp (20 * c - 20) 20 (by omega) (by omega)
  rwa [show (fun j => if j = 0 then nI (c - 1) else if 20 ≤ j ∧ j < 20 then N (j + 20) else N j) = upd N 0 (nI (c - 1)) from (by funext j; simp only [upd]; (repeat' split) <;> first | rfl | (exfalso; omega) | (congr 1; omega))] at this
def palletGoesN (N : Nat → Int32) (w k : Nat) : Nat → Int32 := fun j => if j = 1 then nI (w - 1) else if 140 + 6 * k ≤ j ∧ j < 134 + 6 * w then N (j + 6) else N j
theorem t9_palletGoes {ω : Om} {h : AH} {m : Nat} {F N S A T R : Nat → Int32} {Q : Option Value → AH → Prop} (hw : ω.2.2.2.1 = true) (ml : ML h m) {w k : Nat} (hN1 : N 1 = nI w) (hk : k < w) (hw8 : w ≤ 8) (hq : Q none (hM h m F (palletGoesN N w k) S A T R)) : Ex ω M9_palletGoes 0 [some (.ref m), some (.int (nI k)), none] [] (hM h m F N S A T R) 0 0 Q := by
  refine B9_palletGoes_0 hw ml.1 ?_
  simp (disch := omega) only [gr_hM, gs_hM, ml.2.1, ml.2.2.1, ml.2.2.2.1, ml.2.2.2.2.1, ml.2.2.2.2.2, hM_F, hM_N, hM_S, hM_A, hM_T, hM_R, hM_sF, hM_sN, hM_sS, hM_sA, hM_sT, hM_sR, pk_mul, nI_add, nI_clamp, upd_eq, upd_ne]
  rw [hN1, pk_sub (by omega)]
  have lp : ∀ (d i : Nat), i + d = 134 + 6 * w → 140 + 6 * k ≤ i → ∀ o : Option Value, Ex ω M9_palletGoes 19 [some (.ref m), o, some (.int (nI i))] [] (hM h m F (fun j => if j = 1 then nI (w - 1) else if 140 + 6 * k ≤ j ∧ j < i then N (j + 6) else N j) S A T R) 0 0 Q := by
    intro d
    induction d with
    | zero =>
      intro i hi h20 o
      refine B9_palletGoes_19 hw ml.1 (fun _ => ?_) (fun z => ?_)
      · refine B9_palletGoes_57 hw ?_
        obtain rfl : i = 134 + 6 * w := by omega
        exact hq
      · simp (disch := omega) only [gr_hM, gs_hM, ml.2.1, ml.2.2.1, ml.2.2.2.1, ml.2.2.2.2.1, ml.2.2.2.2.2, hM_F, hM_N, hM_S, hM_A, hM_T, hM_R, hM_sF, hM_sN, hM_sS, hM_sA, hM_sT, hM_sR, pk_mul, nI_add, nI_clamp, upd_eq, upd_ne] at z
        rw [if_pos trivial] at z
        simp only [pk_mul, nI_add] at z
        exact absurd (nI_le (by omega) (by omega)) z
    | succ d ih =>
      intro i hi h20 o
      refine B9_palletGoes_19 hw ml.1 (fun z => ?_) (fun z => ?_)
      · simp (disch := omega) only [gr_hM, gs_hM, ml.2.1, ml.2.2.1, ml.2.2.2.1, ml.2.2.2.2.1, ml.2.2.2.2.2, hM_F, hM_N, hM_S, hM_A, hM_T, hM_R, hM_sF, hM_sN, hM_sS, hM_sA, hM_sT, hM_sR, pk_mul, nI_add, nI_clamp, upd_eq, upd_ne] at z
        rw [if_pos trivial] at z
        simp only [pk_mul, nI_add] at z
        exact absurd z (nI_ge (by omega) (by omega))
      · refine B9_palletGoes_36 hw ml.1 (by simp (disch := omega) only [gr_hM, gs_hM, ml.2.1, ml.2.2.1, ml.2.2.2.1, ml.2.2.2.2.1, ml.2.2.2.2.2, hM_F, hM_N, hM_S, hM_A, hM_T, hM_R, hM_sF, hM_sN, hM_sS, hM_sA, hM_sT, hM_sR, pk_mul, nI_add, nI_clamp, upd_eq, upd_ne]; exact vp_in_nI (by omega) (by omega)) (by (try simp (disch := omega) only [gr_hM, gs_hM, ml.2.1, ml.2.2.1, ml.2.2.2.1, ml.2.2.2.2.1, ml.2.2.2.2.2, hM_F, hM_N, hM_S, hM_A, hM_T, hM_R, hM_sF, hM_sN, hM_sS, hM_sA, hM_sT, hM_sR, pk_mul, nI_add, nI_clamp, upd_eq, upd_ne]); exact vp_in_nI (by omega) (by omega)) ?_
        simp (disch := omega) only [gr_hM, gs_hM, ml.2.1, ml.2.2.1, ml.2.2.2.1, ml.2.2.2.2.1, ml.2.2.2.2.2, hM_F, hM_N, hM_S, hM_A, hM_T, hM_R, hM_sF, hM_sN, hM_sS, hM_sA, hM_sT, hM_sR, pk_mul, nI_add, nI_clamp, upd_eq, upd_ne]
        have e : upd (fun j => if j = 1 then nI (w - 1) else if 140 + 6 * k ≤ j ∧ j < i then N (j + 6) else N j) i (if i + 6 = 1 then nI (w - 1) else if 140 + 6 * k ≤ i + 6 ∧ i + 6 < i then N (i + 6 + 6) else N (i + 6)) = (fun j => if j = 1 then nI (w - 1) else if 140 + 6 * k ≤ j ∧ j < i + 1 then N (j + 6) else N j) := by
          rw [if_neg (by omega), if_neg (by omega)]
          exact (by funext j; simp only [upd]; (repeat' split) <;> first | rfl | (exfalso; omega) | (congr 1; omega))
        rw [e]
        exact ih (i + 1) (by omega) (by omega) none
  have := lp (134 + 6 * w - (140 + 6 * k)) (140 + 6 * k) (by omega) (by omega) (some (.int (nI k)))
  rwa [show (fun j => if j = 1 then nI (w - 1) else if 140 + 6 * k ≤ j ∧ j < 140 + 6 * k then N (j + 6) else N j) = upd N 1 (nI (w - 1)) from (by funext j; simp only [upd]; (repeat' split) <;> first | rfl | (exfalso; omega) | (congr 1; omega))] at this
