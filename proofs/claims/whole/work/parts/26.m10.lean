/-! the model: fault, load -/
theorem t9_fault {ω : Om} {h : AH} {m : Nat} {F N S A T R : Nat → Int32} {Q : Option Value → AH → Prop} (hw : ω.2.2.2.1 = true) (ml : ML h m) {len : Nat} (hl : len ≤ 100) (hF5 : F 5 = nI len) (q1 : ∀ x F' R', FK F F' → (parsT T len).1 = some x → x < 2 ^ 30 → Q (some (.int (nI x))) (hM h m F' N S A T R')) (q2 : ∀ F' R', FK F F' → (parsT T len).1 = none → Q (some (.int (-4))) (hM h m F' N S A T R')) : Ex ω M9_fault 0 [some (.ref m)] [] (hM h m F N S A T R) 0 0 Q := by
  refine B9_fault_0 hw ml.1 (t9_faultOf hw ml hl hF5 (fun x F' R' fk hx hx2 => B9_fault_4 hw (q1 x F' R' fk hx hx2)) (fun F' R' fk hn _ _ _ _ => B9_fault_4 hw (q2 F' R' fk hn)))
/-- now's row with the steps -/
def loadN (N : Nat → Int32) (acc : List (Nat × Nat)) : Nat → Int32 := fun j => if j = 3 then nI acc.length else if 188 ≤ j ∧ j < 188 + 2 * acc.length then (if (j - 188) % 2 = 0 then nI (acc.getD ((j - 188) / 2) (0, 0)).1 else nI (acc.getD ((j - 188) / 2) (0, 0)).2) else N j
theorem RowA.at {R : Nat → Int32} {acc : List (Nat × Nat)} (h : RowA R acc) {i : Nat} (hi : i < 2 * acc.length) : R i = (if i % 2 = 0 then nI (acc.getD (i / 2) (0, 0)).1 else nI (acc.getD (i / 2) (0, 0)).2) := by
  have hl : i / 2 < acc.length := by omega
  obtain ⟨h1, h2⟩ := h (i / 2) acc[i / 2] (List.getElem?_eq_getElem hl)
  have e : acc.getD (i / 2) (0, 0) = acc[i / 2] := by rw [List.getD_eq_getElem?_getD, List.getElem?_eq_getElem hl]; rfl
  rw [e]
  by_cases z : i % 2 = 0
  · rw [if_pos z, ← h1]; congr 1; omega
  · rw [if_neg z, ← h2]; congr 1; omega
theorem t9_load {ω : Om} {h : AH} {m : Nat} {F N S A T R : Nat → Int32} {Q : Option Value → AH → Prop} (hw : ω.2.2.2.1 = true) (ml : ML h m) {len st : Nat} (hl : len ≤ 100) (hF5 : F 5 = nI len) (hst : st ≤ 4) (hF : F 2 = nI st) (zN : Z596 N) (q1 : ∀ F' R', FK F F' → (parsT T len).1 ≠ none → Q (some (.int (-2))) (hM h m F' N S A T R'))
    (q2 : ∀ (F' R' S' : Nat → Int32) (st' : Nat), (parsT T len).1 = none → (parsT T len).2.length ≤ 12 → StepsOk (parsT T len).2 → st' ≤ 4 → MH S' st' = pushH (MH S st) N → F' 2 = nI st' → F' 5 = F 5 → Q (some (.int (nI (parsT T len).2.length))) (hM h m F' (loadN N (parsT T len).2) S' A T R')) : Ex ω M9_load 0 [some (.ref m), none] [] (hM h m F N S A T R) 0 0 Q := by
  refine B9_load_0 hw ml.1 (t9_faultOf hw ml hl hF5 (fun x F' R' fk hx hx2 => ?_) (fun F' R' fk hn h12 h7 hR hO => ?_))
  · refine B9_load_4 hw (fun c => ?_) (fun _ => B9_load_9 hw (q1 F' R' fk (by rw [hx]; exact fun z => by cases z)))
    have : ¬ nI x < 0 := nI_pos (by omega)
    rw [c] at this
    exact absurd (by decide) this
  · refine B9_load_4 hw (fun _ => ?_) (fun c => absurd rfl c)
    refine B9_load_12 hw ml.1 (t9_change hw ml hst (fk.1.trans hF) zN (fun S' st' hst' hm => ?_))
    have q2' := q2 (upd F' 2 (nI st')) R' S' st' hn h12 hO hst' hm (upd_eq _ _ _) (by rw [upd_ne _ _ (by omega)]; exact fk.2)
    generalize (parsT T len).2 = acc at *
    have h7' : (upd F' 2 (nI st')) 7 = nI acc.length := by rw [upd_ne _ _ (by omega)]; exact h7
    refine B9_load_16 hw ml.1 ?_
    simp (disch := omega) only [gr_hM, gs_hM, ml.2.1, ml.2.2.1, ml.2.2.2.1, ml.2.2.2.2.1, ml.2.2.2.2.2, hM_F, hM_N, hM_S, hM_A, hM_T, hM_R, hM_sF, hM_sN, hM_sS, hM_sA, hM_sT, hM_sR, pk_mul, nI_add, nI_clamp, upd_eq, upd_ne]
    rw [h7]
    have lp : ∀ d i : Nat, i + d = 2 * acc.length → Ex ω M9_load 28 [some (.ref m), some (.int (nI i))] [] (hM h m (upd F' 2 (nI st')) (fun j => if j = 3 then nI acc.length else if 188 ≤ j ∧ j < 188 + i then R' (j - 188) else N j) S' A T R') 0 0 Q := by
      intro d
      induction d with
      | zero =>
        intro i hi
        refine B9_load_28 hw ml.1 (fun _ => ?_) (fun c => ?_)
        · refine B9_load_60 hw ml.1 ?_
          simp (disch := omega) only [gr_hM, gs_hM, ml.2.1, ml.2.2.1, ml.2.2.2.1, ml.2.2.2.2.1, ml.2.2.2.2.2, hM_F, hM_N, hM_S, hM_A, hM_T, hM_R, hM_sF, hM_sN, hM_sS, hM_sA, hM_sT, hM_sR, pk_mul, nI_add, nI_clamp, upd_eq, upd_ne]
          rw [h7]
          have e : (fun j => if j = 3 then nI acc.length else if 188 ≤ j ∧ j < 188 + i then R' (j - 188) else N j) = loadN N acc := by
            funext j
            unfold loadN
            by_cases z : j = 3
            · rw [if_pos z, if_pos z]
            rw [if_neg z, if_neg z]
            by_cases z2 : 188 ≤ j ∧ j < 188 + i
            · rw [if_pos z2, if_pos (by omega)]
              exact hR.at (by omega)
            · rw [if_neg z2, if_neg (by omega)]
          rw [e]
          exact q2'
        · simp (disch := omega) only [gr_hM, gs_hM, ml.2.1, ml.2.2.1, ml.2.2.2.1, ml.2.2.2.2.1, ml.2.2.2.2.2, hM_F, hM_N, hM_S, hM_A, hM_T, hM_R, hM_sF, hM_sN, hM_sS, hM_sA, hM_sT, hM_sR, pk_mul, nI_add, nI_clamp, upd_eq, upd_ne] at c
          rw [h7, pk_mul] at c
          exact absurd (nI_le (by omega) (by omega)) c
      | succ d ih =>
        intro i hi
        refine B9_load_28 hw ml.1 (fun c => ?_) (fun _ => ?_)
        · simp (disch := omega) only [gr_hM, gs_hM, ml.2.1, ml.2.2.1, ml.2.2.2.1, ml.2.2.2.2.1, ml.2.2.2.2.2, hM_F, hM_N, hM_S, hM_A, hM_T, hM_R, hM_sF, hM_sN, hM_sS, hM_sA, hM_sT, hM_sR, pk_mul, nI_add, nI_clamp, upd_eq, upd_ne] at c
          rw [h7, pk_mul] at c
          exact absurd c (nI_ge (by omega) (by omega))
        · refine B9_load_38 hw ml.1 (vp_in_nI (by omega) (by omega)) (by rw [nI_add]; exact vp_in_nI (by omega) (by omega)) ?_
          simp (disch := omega) only [gr_hM, gs_hM, ml.2.1, ml.2.2.1, ml.2.2.2.1, ml.2.2.2.2.1, ml.2.2.2.2.2, hM_F, hM_N, hM_S, hM_A, hM_T, hM_R, hM_sF, hM_sN, hM_sS, hM_sA, hM_sT, hM_sR, pk_mul, nI_add, nI_clamp, upd_eq, upd_ne]
          have e : upd (fun j => if j = 3 then nI acc.length else if 188 ≤ j ∧ j < 188 + i then R' (j - 188) else N j) (188 + i) (R' i) = (fun j => if j = 3 then nI acc.length else if 188 ≤ j ∧ j < 188 + (i + 1) then R' (j - 188) else N j) := by
            funext j
            simp only [upd]
            by_cases z : j = 188 + i
            · rw [if_pos z, if_neg (by omega), if_pos (by omega)]
              exact congrArg R' (by omega)
            · rw [if_neg z]
              by_cases z2 : j = 3
              · rw [if_pos z2, if_pos z2]
              rw [if_neg z2, if_neg z2]
              by_cases z3 : 188 ≤ j ∧ j < 188 + i
              · rw [if_pos z3, if_pos (by omega)]
              · rw [if_neg z3, if_neg (by omega)]
          rw [e]
          exact ih (i + 1) (by omega)
    have := lp (2 * acc.length) 0 (by omega)
    rwa [show (fun j => if j = 3 then nI acc.length else if 188 ≤ j ∧ j < 188 + 0 then R' (j - 188) else N j) = upd N 3 (nI acc.length) from (by funext j; simp only [upd]; (repeat' split) <;> first | rfl | (exfalso; omega) | exact congrArg _ (by omega))] at this
