/-! the model: rolls -/
/-- a number from lo to hi -/
def bd (x : Int32) (lo hi : Nat) : Prop := ∃ n : Nat, x = nI n ∧ lo ≤ n ∧ n ≤ hi
def nn (x : Int32) : Nat := x.toNatClampNeg
theorem nn_nI {n : Nat} (h : n < 2 ^ 31) : nn (nI n) = n := nI_clamp h
theorem bd.eq {x : Int32} {lo hi : Nat} (h : bd x lo hi) (hh : hi < 2 ^ 31) : x = nI (nn x) ∧ lo ≤ nn x ∧ nn x ≤ hi := by
  obtain ⟨n, rfl, h1, h2⟩ := h
  rw [nn_nI (by omega)]
  exact ⟨rfl, h1, h2⟩
theorem bd_of {x : Int32} {lo hi : Nat} (hl : lo < 2 ^ 31) (hh : hi < 2 ^ 31) (h1 : nI lo ≤ x) (h2 : x ≤ nI hi) : bd x lo hi := by
  have e2 := Int32.le_iff_toInt_le.mp h1
  rw [nI_toInt hl] at e2
  have h0 : ¬ x < 0 := fun z => by
    have e1 := Int32.lt_iff_toInt_lt.mp z
    have e3 : (0 : Int32).toInt = 0 := rfl
    omega
  obtain ⟨n, hn, rfl⟩ := nI_of h0
  exact ⟨n, rfl, (nI_leI hl hn).mp h1, (nI_leI hn hh).mp h2⟩
theorem bd_to {x : Int32} {lo hi : Nat} (hh : hi < 2 ^ 31) (h : bd x lo hi) : nI lo ≤ x ∧ x ≤ nI hi := by
  obtain ⟨n, rfl, h1, h2⟩ := h
  exact ⟨nI_le h1 (by omega), nI_le h2 hh⟩
/-- now's row with a new roll -/
def addRollN (N : Nat → Int32) (c : Nat) (len wt : Int32) : Nat → Int32 := fun j => if j = 0 then nI (c + 1) else if j = 20 + 20 * c then len else if j = 21 + 20 * c then wt else if 20 + 20 * c ≤ j ∧ j < 40 + 20 * c then 0 else N j
theorem l9_addRoll {ω : Om} {h : AH} {m : Nat} {F N S A T R : Nat → Int32} {Q : Option Value → AH → Prop} (hw : ω.2.2.2.1 = true) (ml : ML h m) {c : Nat} {l w : Int32} (hc : c < 6) (hq : Ex ω M9_addRoll 85 [some (.ref m), some (.int l), some (.int w), some (.int (nI (20 + 20 * c))), some (.int (nI 20))] [] (hM h m F (fun j => if 20 + 20 * c ≤ j ∧ j < 20 + 20 * c + 20 then 0 else N j) S A T R) 0 0 Q) : ∀ d i : Nat, i + d = 20 → Ex ω M9_addRoll 62 [some (.ref m), some (.int l), some (.int w), some (.int (nI (20 + 20 * c))), some (.int (nI i))] [] (hM h m F (fun j => if 20 + 20 * c ≤ j ∧ j < 20 + 20 * c + i then 0 else N j) S A T R) 0 0 Q := by
  intro d
  induction d with
  | zero =>
    intro i hi
    refine B9_addRoll_62 hw (fun _ => ?_) (fun c => absurd (nI_le (by omega) (by omega)) c)
    obtain rfl : i = 20 := by omega
    exact hq
  | succ d ih =>
    intro i hi
    refine B9_addRoll_62 hw (fun c => absurd c (nI_ge (by omega) (by omega))) (fun _ => ?_)
    refine B9_addRoll_69 hw ml.1 (by rw [nI_add]; exact vp_in_nI (by omega) (by omega)) ?_
    simp (disch := omega) only [gr_hM, gs_hM, ml.2.1, ml.2.2.1, ml.2.2.2.1, ml.2.2.2.2.1, ml.2.2.2.2.2, hM_F, hM_N, hM_S, hM_A, hM_T, hM_R, hM_sF, hM_sN, hM_sS, hM_sA, hM_sT, hM_sR, pk_mul, nI_add, nI_clamp, upd_eq, upd_ne]
    rw [show upd (fun j => if 20 + 20 * c ≤ j ∧ j < 20 + 20 * c + i then 0 else N j) (20 + 20 * c + i) (nI 0) = (fun j => if 20 + 20 * c ≤ j ∧ j < 20 + 20 * c + (i + 1) then 0 else N j) from (by funext j; simp only [upd]; (repeat' split) <;> first | rfl | (exfalso; omega) | (congr 1; omega))]
    exact ih (i + 1) (by omega)
/-- what a new roll's numbers may be -/
def okRoll (l w : Int32) : Prop := (nI 100 ≤ l ∧ l ≤ nI 100000) ∧ (nI 1 ≤ w ∧ w ≤ nI 50)
theorem t9_addRoll {ω : Om} {h : AH} {m : Nat} {F N S A T R : Nat → Int32} {Q : Option Value → AH → Prop} (hw : ω.2.2.2.1 = true) (ml : ML h m) {c st : Nat} {l w : Int32} (hN0 : N 0 = nI c) (hc : c ≤ 6) (hst : st ≤ 4) (hF : F 2 = nI st) (zN : Z596 N) (q1 : ¬ okRoll l w → Q (some (.int (-1))) (hM h m F N S A T R)) (q2 : okRoll l w → c = 6 → Q (some (.int (-3))) (hM h m F N S A T R))
    (q3 : okRoll l w → c < 6 → ∀ (S' : Nat → Int32) (st' : Nat), st' ≤ 4 → MH S' st' = pushH (MH S st) N → Q (some (.int (nI (c + 1)))) (hM h m (upd F 2 (nI st')) (addRollN N c l w) S' A T R)) : Ex ω M9_addRoll 0 [some (.ref m), some (.int l), some (.int w), none, none] [] (hM h m F N S A T R) 0 0 Q := by
  refine B9_addRoll_0 hw ?_
  refine t9_in hw (lo := nI 100) (hi := nI 100000) rfl rfl (fun a1 a2 => ?_) (fun a => ?_)
  · refine B9_addRoll_11 hw (fun c => absurd c (by decide)) (fun _ => ?_)
    refine B9_addRoll_14 hw ?_
    refine t9_in hw (lo := nI 1) (hi := nI 50) rfl rfl (fun b1 b2 => ?_) (fun b => ?_)
    · have ok : okRoll l w := ⟨⟨a1, a2⟩, ⟨b1, b2⟩⟩
      refine B9_addRoll_23 hw (fun _ => ?_) (fun c => absurd c (by decide))
      refine B9_addRoll_28 hw ml.1 (fun z => ?_) (fun z => ?_)
      · simp (disch := omega) only [gr_hM, gs_hM, ml.2.1, ml.2.2.1, ml.2.2.2.1, ml.2.2.2.2.1, ml.2.2.2.2.2, hM_F, hM_N, hM_S, hM_A, hM_T, hM_R, hM_sF, hM_sN, hM_sS, hM_sA, hM_sT, hM_sR, pk_mul, nI_add, nI_clamp, upd_eq, upd_ne] at z
        rw [hN0, nI_eq (by omega) (by omega)] at z
        have hc6 : c < 6 := by omega
        refine B9_addRoll_42 hw ml.1 ?_
        refine t9_change hw ml hst hF zN (fun S' st' hst' hm => ?_)
        refine B9_addRoll_46 hw ml.1 ?_
        simp (disch := omega) only [gr_hM, gs_hM, ml.2.1, ml.2.2.1, ml.2.2.2.1, ml.2.2.2.2.1, ml.2.2.2.2.2, hM_F, hM_N, hM_S, hM_A, hM_T, hM_R, hM_sF, hM_sN, hM_sS, hM_sA, hM_sT, hM_sR, pk_mul, nI_add, nI_clamp, upd_eq, upd_ne]
        rw [hN0, pk_mul, nI_add]
        have := l9_addRoll (F := upd F 2 (nI st')) (N := N) (S := S') (A := A) (T := T) (R := R) (Q := Q) (c := c) (l := l) (w := w) hw ml hc6 ?_ 20 0 rfl
        · rwa [show (fun j => if 20 + 20 * c ≤ j ∧ j < 20 + 20 * c + 0 then (0 : Int32) else N j) = N from by funext j; rw [if_neg (by omega)]] at this
        · refine B9_addRoll_85 hw ml.1 (by rw [nI_add]; exact vp_in_nI (by omega) (by omega)) (by rw [nI_add]; exact vp_in_nI (by omega) (by omega)) ?_
          simp (disch := omega) only [gr_hM, gs_hM, ml.2.1, ml.2.2.1, ml.2.2.2.1, ml.2.2.2.2.1, ml.2.2.2.2.2, hM_F, hM_N, hM_S, hM_A, hM_T, hM_R, hM_sF, hM_sN, hM_sS, hM_sA, hM_sT, hM_sR, pk_mul, nI_add, nI_clamp, upd_eq, upd_ne]
          refine B9_addRoll_113 hw ml.1 ?_
          simp (disch := omega) only [gr_hM, gs_hM, ml.2.1, ml.2.2.1, ml.2.2.2.1, ml.2.2.2.2.1, ml.2.2.2.2.2, hM_F, hM_N, hM_S, hM_A, hM_T, hM_R, hM_sF, hM_sN, hM_sS, hM_sA, hM_sT, hM_sR, pk_mul, nI_add, nI_clamp, upd_eq, upd_ne]
          rw [if_neg (by omega), hN0, nI_add]
          have e : upd (upd (upd (fun j => if 20 + 20 * c ≤ j ∧ j < 20 + 20 * c + 20 then 0 else N j) (20 + 20 * c + 0) l) (20 + 20 * c + 1) w) 0 (nI (c + 1)) = addRollN N c l w := (by funext j; simp only [upd, addRollN]; (repeat' split) <;> first | rfl | (exfalso; omega) | (congr 1; omega))
          rw [e]
          exact q3 ok hc6 S' st' hst' hm
      · simp (disch := omega) only [gr_hM, gs_hM, ml.2.1, ml.2.2.1, ml.2.2.2.1, ml.2.2.2.2.1, ml.2.2.2.2.2, hM_F, hM_N, hM_S, hM_A, hM_T, hM_R, hM_sF, hM_sN, hM_sS, hM_sA, hM_sT, hM_sR, pk_mul, nI_add, nI_clamp, upd_eq, upd_ne] at z
        rw [hN0, nI_eq (by omega) (by omega)] at z
        exact B9_addRoll_39 hw (q2 ok z)
    · refine B9_addRoll_23 hw (fun c => absurd rfl c) (fun _ => ?_)
      exact B9_addRoll_26 hw (q1 (fun z => b z.2))
  · refine B9_addRoll_11 hw (fun _ => ?_) (fun c => absurd rfl c)
    exact B9_addRoll_26 hw (q1 (fun z => a z.1))
