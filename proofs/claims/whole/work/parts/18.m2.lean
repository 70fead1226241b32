/-! the model: history, laying aside, taking back, undo; rolls and pallets that go -/
theorem cp_step (f g : Nat → Int32) (i : Nat) : upd (fun j => if j < i then f j else g j) i (f i) = (fun j => if j < i + 1 then f j else g j) := by
  funext j
  unfold upd
  by_cases e : j = i
  · subst e; rw [if_pos rfl, if_pos (by omega)]
  · rw [if_neg e]
    show (if j < i then f j else g j) = _
    by_cases e2 : j < i
    · rw [if_pos e2, if_pos (by omega)]
    · rw [if_neg e2, if_neg (by omega)]
theorem cp_0 (f g : Nat → Int32) : (fun j => if j < 0 then f j else g j) = g := by funext j; rw [if_neg (by omega)]
theorem upd_upd (f : Nat → Int32) (k : Nat) (x y : Int32) : upd (upd f k x) k y = upd f k y := by
  funext j; unfold upd; by_cases e : j = k <;> simp [e]
theorem upd_id (f : Nat → Int32) (k : Nat) : upd f k (f k) = f := by
  funext j; unfold upd; by_cases e : j = k <;> simp [e]
/-- nothing stands behind a row's end -/
def Z596 (N : Nat → Int32) : Prop := ∀ j, 596 ≤ j → N j = 0
theorem Z596.eq {N A : Nat → Int32} (hN : Z596 N) (hA : Z596 A) : (fun j => if j < 596 then N j else A j) = N := by
  funext j
  by_cases e : j < 596
  · rw [if_pos e]
  · rw [if_neg e, hA j (by omega), hN j (by omega)]
theorem Z596.upd {N : Nat → Int32} (hN : Z596 N) {k : Nat} (hk : k < 596) (v : Int32) : Z596 (upd N k v) := fun j hj => by
  rw [upd_ne _ _ (by omega)]; exact hN j hj
theorem l9_takesBack {ω : Om} {h : AH} {m : Nat} {F N S A T R : Nat → Int32} {Q : Option Value → AH → Prop} (hw : ω.2.2.2.1 = true) (ml : ML h m) (hq : Q none (hM h m F (fun j => if j < 596 then A j else N j) S A T R)) : ∀ d i : Nat, i + d = 596 → Ex ω M9_takesBack 2 [some (.ref m), some (.int (nI i))] [] (hM h m F (fun j => if j < i then A j else N j) S A T R) 0 0 Q := by
  intro d
  induction d with
  | zero =>
    intro i hi
    refine B9_takesBack_2 hw (fun _ => ?_) (fun c => absurd (nI_le (by omega) (by omega)) c)
    obtain rfl : i = 596 := by omega
    exact B9_takesBack_27 hw hq
  | succ d ih =>
    intro i hi
    refine B9_takesBack_2 hw (fun c => absurd c (nI_ge (by omega) (by omega))) (fun _ => ?_)
    refine B9_takesBack_9 hw ml.1 (vp_in_nI (by omega) (by omega)) (vp_in_nI (by omega) (by omega)) ?_
    simp (disch := omega) only [gr_hM, gs_hM, ml.2.1, ml.2.2.1, ml.2.2.2.1, ml.2.2.2.2.1, ml.2.2.2.2.2, hM_F, hM_N, hM_S, hM_A, hM_T, hM_R, hM_sF, hM_sN, hM_sS, hM_sA, hM_sT, hM_sR, pk_mul, nI_add, nI_clamp, upd_eq, upd_ne]
    rw [cp_step A N i]
    exact ih (i + 1) (by omega)
theorem t9_takesBack {ω : Om} {h : AH} {m : Nat} {F N S A T R : Nat → Int32} {Q : Option Value → AH → Prop} (hw : ω.2.2.2.1 = true) (ml : ML h m) (zN : Z596 N) (zA : Z596 A) (hq : Q none (hM h m F A S A T R)) : Ex ω M9_takesBack 0 [some (.ref m), none] [] (hM h m F N S A T R) 0 0 Q := by
  refine B9_takesBack_0 hw ?_
  have := l9_takesBack (F := F) (N := N) (S := S) (A := A) (T := T) (R := R) (Q := Q) hw ml (by rw [zA.eq zN]; exact hq) 596 0 rfl
  rwa [cp_0] at this
theorem l9_laysAside {ω : Om} {h : AH} {m : Nat} {F N S A T R : Nat → Int32} {Q : Option Value → AH → Prop} (hw : ω.2.2.2.1 = true) (ml : ML h m) (hq : Q none (hM h m F N S (fun j => if j < 596 then N j else A j) T R)) : ∀ d i : Nat, i + d = 596 → Ex ω M9_laysAside 2 [some (.ref m), some (.int (nI i))] [] (hM h m F N S (fun j => if j < i then N j else A j) T R) 0 0 Q := by
  intro d
  induction d with
  | zero =>
    intro i hi
    refine B9_laysAside_2 hw (fun _ => ?_) (fun c => absurd (nI_le (by omega) (by omega)) c)
    obtain rfl : i = 596 := by omega
    exact B9_laysAside_27 hw hq
  | succ d ih =>
    intro i hi
    refine B9_laysAside_2 hw (fun c => absurd c (nI_ge (by omega) (by omega))) (fun _ => ?_)
    refine B9_laysAside_9 hw ml.1 (vp_in_nI (by omega) (by omega)) (vp_in_nI (by omega) (by omega)) ?_
    simp (disch := omega) only [gr_hM, gs_hM, ml.2.1, ml.2.2.1, ml.2.2.2.1, ml.2.2.2.2.1, ml.2.2.2.2.2, hM_F, hM_N, hM_S, hM_A, hM_T, hM_R, hM_sF, hM_sN, hM_sS, hM_sA, hM_sT, hM_sR, pk_mul, nI_add, nI_clamp, upd_eq, upd_ne]
    rw [cp_step N A i]
    exact ih (i + 1) (by omega)
theorem t9_laysAside {ω : Om} {h : AH} {m : Nat} {F N S A T R : Nat → Int32} {Q : Option Value → AH → Prop} (hw : ω.2.2.2.1 = true) (ml : ML h m) (zN : Z596 N) (zA : Z596 A) (hq : Q none (hM h m F N S N T R)) : Ex ω M9_laysAside 0 [some (.ref m), none] [] (hM h m F N S A T R) 0 0 Q := by
  refine B9_laysAside_0 hw ?_
  have := l9_laysAside (F := F) (N := N) (S := S) (A := A) (T := T) (R := R) (Q := Q) hw ml (by rw [zN.eq zA]; exact hq) 596 0 rfl
  rwa [cp_0] at this
/-- the history's row i -/
def rowS (S : Nat → Int32) (i : Nat) : Nat → Int32 := fun k => if k < 596 then S (i * 596 + k) else 0
def MH (S : Nat → Int32) (st : Nat) : List (Nat → Int32) := (List.range st).map (rowS S)
def pushH (H : List (Nat → Int32)) (N : Nat → Int32) : List (Nat → Int32) := (if H.length = 4 then H.tail else H) ++ [N]
theorem MH_len (S : Nat → Int32) (st : Nat) : (MH S st).length = st := by simp [MH]
theorem MH_congr {S S' : Nat → Int32} {st : Nat} (e : ∀ i, i < st → rowS S' i = rowS S i) : MH S' st = MH S st := List.map_congr_left (fun i hi => e i (List.mem_range.mp hi))
theorem MH_succ (S : Nat → Int32) (st : Nat) : MH S (st + 1) = MH S st ++ [rowS S st] := by simp [MH, List.range_succ]
theorem MH_tail (S : Nat → Int32) : (MH S 4).tail = [rowS S 1, rowS S 2, rowS S 3] := by simp [MH, List.range_succ]
def wrS (S N : Nat → Int32) (st i : Nat) : Nat → Int32 := fun j => if st * 596 ≤ j ∧ j < st * 596 + i then N (j - st * 596) else S j
theorem wrS_step (S N : Nat → Int32) (st i : Nat) : upd (wrS S N st i) (st * 596 + i) (N i) = wrS S N st (i + 1) := by
  funext j
  unfold upd wrS
  by_cases e : j = st * 596 + i
  · subst e; rw [if_pos rfl, if_pos (by omega)]; congr 1; omega
  · rw [if_neg e]
    by_cases e2 : st * 596 ≤ j ∧ j < st * 596 + i
    · rw [if_pos e2, if_pos (by omega)]
    · rw [if_neg e2, if_neg (by omega)]
theorem wrS_0 (S N : Nat → Int32) (st : Nat) : wrS S N st 0 = S := by
  funext j; unfold wrS; rw [if_neg (by omega)]
theorem wrS_row {S N : Nat → Int32} (zN : Z596 N) (st : Nat) : rowS (wrS S N st 596) st = N := by
  funext k
  unfold rowS wrS
  by_cases e : k < 596
  · rw [if_pos e, if_pos (by omega)]; congr 1; omega
  · rw [if_neg e, zN k (by omega)]
theorem wrS_other {S N : Nat → Int32} {st i : Nat} (hi : i < st) : rowS (wrS S N st 596) i = rowS S i := by
  funext k
  unfold rowS wrS
  by_cases e : k < 596
  · rw [if_pos e, if_pos e, if_neg]
    have : i * 596 + 596 ≤ st * 596 := by
      have h1 : (i + 1) * 596 ≤ st * 596 := Nat.mul_le_mul_right _ hi
      omega
    omega
  · rw [if_neg e, if_neg e]
def shS (S : Nat → Int32) (i : Nat) : Nat → Int32 := fun j => if j < i then S (j + 596) else S j
theorem shS_step (S : Nat → Int32) (i : Nat) : upd (shS S i) i (S (i + 596)) = shS S (i + 1) := by
  funext j
  unfold upd shS
  by_cases e : j = i
  · subst e; rw [if_pos rfl, if_pos (by omega)]
  · rw [if_neg e]
    by_cases e2 : j < i
    · rw [if_pos e2, if_pos (by omega)]
    · rw [if_neg e2, if_neg (by omega)]
theorem shS_row {S : Nat → Int32} {i : Nat} (hi : i < 3) : rowS (shS S 1788) i = rowS S (i + 1) := by
  funext k
  unfold rowS shS
  by_cases e : k < 596
  · rw [if_pos e, if_pos e, if_pos (by omega)]; exact congrArg S (by omega)
  · rw [if_neg e, if_neg e]
theorem l9_changeB {ω : Om} {h : AH} {m : Nat} {F N S A T R : Nat → Int32} {Q : Option Value → AH → Prop} (hw : ω.2.2.2.1 = true) (ml : ML h m) {st : Nat} (hst : st < 4) (hF : F 2 = nI st) (hq : Q none (hM h m (upd F 2 (nI (st + 1))) N (wrS S N st 596) A T R)) : ∀ d i : Nat, i + d = 596 → Ex ω M9_change 51 [some (.ref m), some (.int (nI i))] [] (hM h m F N (wrS S N st i) A T R) 0 0 Q := by
  intro d
  induction d with
  | zero =>
    intro i hi
    refine B9_change_51 hw (fun _ => ?_) (fun c => absurd (nI_le (by omega) (by omega)) c)
    obtain rfl : i = 596 := by omega
    refine B9_change_85 hw ml.1 ?_
    simp (disch := omega) only [gr_hM, gs_hM, ml.2.1, ml.2.2.1, ml.2.2.2.1, ml.2.2.2.2.1, ml.2.2.2.2.2, hM_F, hM_N, hM_S, hM_A, hM_T, hM_R, hM_sF, hM_sN, hM_sS, hM_sA, hM_sT, hM_sR, pk_mul, nI_add, nI_clamp, upd_eq, upd_ne]
    rw [hF, nI_add]
    exact hq
  | succ d ih =>
    intro i hi
    refine B9_change_51 hw (fun c => absurd c (nI_ge (by omega) (by omega))) (fun _ => ?_)
    have e1 : nI st * nI 596 + nI i = nI (st * 596 + i) := by rw [pk_mul, nI_add]
    refine B9_change_58 hw ml.1 (vp_in_nI (by omega) (by omega)) ?_ ?_
    · simp (disch := omega) only [gr_hM, gs_hM, ml.2.1, ml.2.2.1, ml.2.2.2.1, ml.2.2.2.2.1, ml.2.2.2.2.2, hM_F, hM_N, hM_S, hM_A, hM_T, hM_R, hM_sF, hM_sN, hM_sS, hM_sA, hM_sT, hM_sR, pk_mul, nI_add, nI_clamp, upd_eq, upd_ne]
      rw [hF, e1]
      exact vp_in_nI (by omega) (by omega)
    · simp (disch := omega) only [gr_hM, gs_hM, ml.2.1, ml.2.2.1, ml.2.2.2.1, ml.2.2.2.2.1, ml.2.2.2.2.2, hM_F, hM_N, hM_S, hM_A, hM_T, hM_R, hM_sF, hM_sN, hM_sS, hM_sA, hM_sT, hM_sR, pk_mul, nI_add, nI_clamp, upd_eq, upd_ne]
      rw [hF, e1, nI_clamp (by omega), wrS_step]
      exact ih (i + 1) (by omega)
theorem l9_changeA {ω : Om} {h : AH} {m : Nat} {F N S A T R : Nat → Int32} {Q : Option Value → AH → Prop} (hw : ω.2.2.2.1 = true) (ml : ML h m) (hF : F 2 = nI 4) (hq : Ex ω M9_change 49 [some (.ref m), none] [] (hM h m (upd F 2 (nI 3)) N (shS S 1788) A T R) 0 0 Q) : ∀ d i : Nat, i + d = 1788 → Ex ω M9_change 10 [some (.ref m), some (.int (nI i))] [] (hM h m F N (shS S i) A T R) 0 0 Q := by
  intro d
  induction d with
  | zero =>
    intro i hi
    refine B9_change_10 hw (fun _ => ?_) (fun c => absurd (nI_le (by omega) (by omega)) c)
    obtain rfl : i = 1788 := by omega
    refine B9_change_39 hw ml.1 ?_
    simp (disch := omega) only [gr_hM, gs_hM, ml.2.1, ml.2.2.1, ml.2.2.2.1, ml.2.2.2.2.1, ml.2.2.2.2.2, hM_F, hM_N, hM_S, hM_A, hM_T, hM_R, hM_sF, hM_sN, hM_sS, hM_sA, hM_sT, hM_sR, pk_mul, nI_add, nI_clamp, upd_eq, upd_ne]
    rw [hF]
    exact hq
  | succ d ih =>
    intro i hi
    refine B9_change_10 hw (fun c => absurd c (nI_ge (by omega) (by omega))) (fun _ => ?_)
    refine B9_change_17 hw ml.1 ?_ (vp_in_nI (by omega) (by omega)) ?_
    · rw [nI_add]; exact vp_in_nI (by omega) (by omega)
    · simp (disch := omega) only [gr_hM, gs_hM, ml.2.1, ml.2.2.1, ml.2.2.2.1, ml.2.2.2.2.1, ml.2.2.2.2.2, hM_F, hM_N, hM_S, hM_A, hM_T, hM_R, hM_sF, hM_sN, hM_sS, hM_sA, hM_sT, hM_sR, pk_mul, nI_add, nI_clamp, upd_eq, upd_ne]
      rw [show shS S i (i + 596) = S (i + 596) from if_neg (by omega), shS_step]
      exact ih (i + 1) (by omega)
/-- change: now is pushed on the history -/
theorem t9_change {ω : Om} {h : AH} {m : Nat} {F N S A T R : Nat → Int32} {Q : Option Value → AH → Prop} (hw : ω.2.2.2.1 = true) (ml : ML h m) {st : Nat} (hst : st ≤ 4) (hF : F 2 = nI st) (zN : Z596 N) (hq : ∀ (S' : Nat → Int32) (st' : Nat), st' ≤ 4 → MH S' st' = pushH (MH S st) N → Q none (hM h m (upd F 2 (nI st')) N S' A T R)) : Ex ω M9_change 0 [some (.ref m), none] [] (hM h m F N S A T R) 0 0 Q := by
  refine B9_change_0 hw ml.1 (fun c => ?_) (fun c => ?_)
  · simp (disch := omega) only [gr_hM, gs_hM, ml.2.1, ml.2.2.1, ml.2.2.2.1, ml.2.2.2.2.1, ml.2.2.2.2.2, hM_F, hM_N, hM_S, hM_A, hM_T, hM_R, hM_sF, hM_sN, hM_sS, hM_sA, hM_sT, hM_sR, pk_mul, nI_add, nI_clamp, upd_eq, upd_ne] at c
    rw [hF] at c
    have h4 : st < 4 := by
      rcases Nat.lt_or_ge st 4 with z | z
      · exact z
      · obtain rfl : st = 4 := by omega
        exact absurd rfl c
    refine B9_change_49 hw ?_
    have := l9_changeB (F := F) (N := N) (S := S) (A := A) (T := T) (R := R) (Q := Q) hw ml h4 hF (hq (wrS S N st 596) (st + 1) (by omega) ?_) 596 0 rfl
    · rwa [wrS_0] at this
    · unfold pushH
      rw [MH_len, if_neg (by omega), MH_succ, wrS_row zN, MH_congr (fun i hi => wrS_other hi)]
  · simp (disch := omega) only [gr_hM, gs_hM, ml.2.1, ml.2.2.1, ml.2.2.2.1, ml.2.2.2.2.1, ml.2.2.2.2.2, hM_F, hM_N, hM_S, hM_A, hM_T, hM_R, hM_sF, hM_sN, hM_sS, hM_sA, hM_sT, hM_sR, pk_mul, nI_add, nI_clamp, upd_eq, upd_ne] at c
    rw [hF] at c
    obtain rfl : st = 4 := by
      have := (nI_eq (by omega) (by omega)).mp c
      exact this
    refine B9_change_8 hw ?_
    have := l9_changeA (F := F) (N := N) (S := S) (A := A) (T := T) (R := R) (Q := Q) hw ml hF ?_ 1788 0 rfl
    · rwa [show shS S 0 = S from by funext j; unfold shS; rw [if_neg (by omega)]] at this
    · refine B9_change_49 hw ?_
      have e9 : MH (wrS (shS S 1788) N 3 596) 4 = pushH (MH S 4) N := by
        unfold pushH
        rw [MH_len, if_pos rfl, MH_tail]
        simp only [MH, List.range_succ, List.range_zero, List.nil_append, List.cons_append, List.map_cons, List.map_nil]
        rw [wrS_row zN, wrS_other (by omega : 0 < 3), wrS_other (by omega : 1 < 3), wrS_other (by omega : 2 < 3), shS_row (by omega), shS_row (by omega), shS_row (by omega)]
      have := l9_changeB (F := upd F 2 (nI 3)) (N := N) (S := shS S 1788) (A := A) (T := T) (R := R) (Q := Q) (st := 3) hw ml (by omega) (upd_eq _ _ _) (by rw [upd_upd]; exact hq (wrS (shS S 1788) N 3 596) 4 (by omega) e9) 596 0 rfl
      rwa [wrS_0] at this
theorem l9_undo {ω : Om} {h : AH} {m : Nat} {F N S A T R : Nat → Int32} {Q : Option Value → AH → Prop} (hw : ω.2.2.2.1 = true) (ml : ML h m) {st : Nat} (hst : st < 4) (hF : F 2 = nI st) (hq : Q (some (.int (nI st))) (hM h m F (fun j => if j < 596 then S (st * 596 + j) else N j) S A T R)) : ∀ d i : Nat, i + d = 596 → Ex ω M9_undo 22 [some (.ref m), some (.int (nI i))] [] (hM h m F (fun j => if j < i then S (st * 596 + j) else N j) S A T R) 0 0 Q := by
  intro d
  induction d with
  | zero =>
    intro i hi
    refine B9_undo_22 hw (fun _ => ?_) (fun c => absurd (nI_le (by omega) (by omega)) c)
    obtain rfl : i = 596 := by omega
    refine B9_undo_56 hw ml.1 ?_
    simp (disch := omega) only [gr_hM, gs_hM, ml.2.1, ml.2.2.1, ml.2.2.2.1, ml.2.2.2.2.1, ml.2.2.2.2.2, hM_F, hM_N, hM_S, hM_A, hM_T, hM_R, hM_sF, hM_sN, hM_sS, hM_sA, hM_sT, hM_sR, pk_mul, nI_add, nI_clamp, upd_eq, upd_ne]
    rw [hF]
    exact hq
  | succ d ih =>
    intro i hi
    refine B9_undo_22 hw (fun c => absurd c (nI_ge (by omega) (by omega))) (fun _ => ?_)
    have e1 : nI st * nI 596 + nI i = nI (st * 596 + i) := by rw [pk_mul, nI_add]
    refine B9_undo_29 hw ml.1 ?_ (vp_in_nI (by omega) (by omega)) ?_
    · simp (disch := omega) only [gr_hM, gs_hM, ml.2.1, ml.2.2.1, ml.2.2.2.1, ml.2.2.2.2.1, ml.2.2.2.2.2, hM_F, hM_N, hM_S, hM_A, hM_T, hM_R, hM_sF, hM_sN, hM_sS, hM_sA, hM_sT, hM_sR, pk_mul, nI_add, nI_clamp, upd_eq, upd_ne]
      rw [hF, e1]
      exact vp_in_nI (by omega) (by omega)
    · simp (disch := omega) only [gr_hM, gs_hM, ml.2.1, ml.2.2.1, ml.2.2.2.1, ml.2.2.2.2.1, ml.2.2.2.2.2, hM_F, hM_N, hM_S, hM_A, hM_T, hM_R, hM_sF, hM_sN, hM_sS, hM_sA, hM_sT, hM_sR, pk_mul, nI_add, nI_clamp, upd_eq, upd_ne]
      rw [hF, e1, nI_clamp (by omega), cp_step (fun j => S (st * 596 + j)) N i]
      exact ih (i + 1) (by omega)
/-- undo: the latest row comes back -/
theorem t9_undo {ω : Om} {h : AH} {m : Nat} {F N S A T R : Nat → Int32} {Q : Option Value → AH → Prop} (hw : ω.2.2.2.1 = true) (ml : ML h m) {st : Nat} (hst : st ≤ 4) (hF : F 2 = nI st) (zN : Z596 N) (q0 : st = 0 → Q (some (.int (-2))) (hM h m F N S A T R)) (q1 : ∀ st' : Nat, st = st' + 1 → Q (some (.int (nI st'))) (hM h m (upd F 2 (nI st')) (rowS S st') S A T R)) : Ex ω M9_undo 0 [some (.ref m), none] [] (hM h m F N S A T R) 0 0 Q := by
  refine B9_undo_0 hw ml.1 (fun c => ?_) (fun c => ?_)
  · simp (disch := omega) only [gr_hM, gs_hM, ml.2.1, ml.2.2.1, ml.2.2.2.1, ml.2.2.2.2.1, ml.2.2.2.2.2, hM_F, hM_N, hM_S, hM_A, hM_T, hM_R, hM_sF, hM_sN, hM_sS, hM_sA, hM_sT, hM_sR, pk_mul, nI_add, nI_clamp, upd_eq, upd_ne] at c
    rw [hF] at c
    obtain ⟨st', rfl⟩ : ∃ x, st = x + 1 := by
      cases st with
      | zero => exact absurd rfl c
      | succ x => exact ⟨x, rfl⟩
    refine B9_undo_10 hw ml.1 ?_
    simp (disch := omega) only [gr_hM, gs_hM, ml.2.1, ml.2.2.1, ml.2.2.2.1, ml.2.2.2.2.1, ml.2.2.2.2.2, hM_F, hM_N, hM_S, hM_A, hM_T, hM_R, hM_sF, hM_sN, hM_sS, hM_sA, hM_sT, hM_sR, pk_mul, nI_add, nI_clamp, upd_eq, upd_ne]
    rw [hF, show nI (st' + 1) - nI 1 = nI st' from by rw [pk_sub (by omega)]; rfl]
    · have := l9_undo (F := upd F 2 (nI st')) (N := N) (S := S) (A := A) (T := T) (R := R) (Q := Q) hw ml (by omega) (upd_eq _ _ _) (by
        rw [show (fun j => if j < 596 then S (st' * 596 + j) else N j) = rowS S st' from by
          funext j; unfold rowS
          by_cases e : j < 596
          · rw [if_pos e, if_pos e]
          · rw [if_neg e, if_neg e, zN j (by omega)]]
        exact q1 st' rfl) 596 0 rfl
      rwa [cp_0] at this
  · simp (disch := omega) only [gr_hM, gs_hM, ml.2.1, ml.2.2.1, ml.2.2.2.1, ml.2.2.2.2.1, ml.2.2.2.2.2, hM_F, hM_N, hM_S, hM_A, hM_T, hM_R, hM_sF, hM_sN, hM_sS, hM_sA, hM_sT, hM_sR, pk_mul, nI_add, nI_clamp, upd_eq, upd_ne] at c
    rw [hF] at c
    have := (nI_eq (b := 0) (by omega) (by omega)).mp c
    exact B9_undo_7 hw (q0 this)
