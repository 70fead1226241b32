/-! the model: pallets that come, are dropped, their order; settings, counts, texts by place, what is kept, sums -/
def okPal (a b c d e : Int32) : Prop := (nI 20 ≤ a ∧ a ≤ nI 200) ∧ (nI 20 ≤ b ∧ b ≤ nI 200) ∧ (nI 10 ≤ c ∧ c ≤ nI 250) ∧ (0 ≤ d ∧ d ≤ nI 5000) ∧ (0 ≤ e ∧ e ≤ nI 9999)
def addPalletN (N : Nat → Int32) (w : Nat) (a b c d e : Int32) : Nat → Int32 := fun j => if j = 1 then nI (w + 1) else if j = 2 then N 2 + nI 1 else if j = 140 + 6 * w then N 2 else if j = 141 + 6 * w then a else if j = 142 + 6 * w then b else if j = 143 + 6 * w then c else if j = 144 + 6 * w then d else if j = 145 + 6 * w then e else N j
theorem add_sub1 (x : Int32) : x + nI 1 - nI 1 = x := by
  rw [Int32.add_sub_cancel]
theorem t9_addPallet {ω : Om} {h : AH} {m : Nat} {F N S A T R : Nat → Int32} {Q : Option Value → AH → Prop} (hw : ω.2.2.2.1 = true) (ml : ML h m) {w st : Nat} {a b c d e : Int32} (hN1 : N 1 = nI w) (hw8 : w ≤ 8) (hst : st ≤ 4) (hF : F 2 = nI st) (zN : Z596 N) (q1 : ¬ okPal a b c d e → Q (some (.int (-1))) (hM h m F N S A T R)) (q2 : okPal a b c d e → w = 8 → Q (some (.int (-3))) (hM h m F N S A T R))
    (q3 : okPal a b c d e → w < 8 → ∀ (S' : Nat → Int32) (st' : Nat), st' ≤ 4 → MH S' st' = pushH (MH S st) N → Q (some (.int (N 2))) (hM h m (upd F 2 (nI st')) (addPalletN N w a b c d e) S' A T R)) : Ex ω M9_addPallet 0 [some (.ref m), some (.int a), some (.int b), some (.int c), some (.int d), some (.int e), none] [] (hM h m F N S A T R) 0 0 Q := by
  have bad : ¬ okPal a b c d e → Ex ω M9_addPallet 68 [some (.ref m), some (.int a), some (.int b), some (.int c), some (.int d), some (.int e), none] [] (hM h m F N S A T R) 0 0 Q := fun z => B9_addPallet_68 hw (q1 z)
  refine B9_addPallet_0 hw (t9_in hw (lo := nI 20) (hi := nI 200) rfl rfl (fun a1 a2 => ?_) (fun z => ?_))
  rotate_left
  · exact B9_addPallet_11 hw (fun _ => bad (fun y => z y.1)) (fun c => absurd rfl c)
  refine B9_addPallet_11 hw (fun c => absurd c (by decide)) (fun _ => ?_)
  refine B9_addPallet_14 hw (t9_in hw (lo := nI 20) (hi := nI 200) rfl rfl (fun b1 b2 => ?_) (fun z => ?_))
  rotate_left
  · exact B9_addPallet_25 hw (fun _ => bad (fun y => z y.2.1)) (fun c => absurd rfl c)
  refine B9_addPallet_25 hw (fun c => absurd c (by decide)) (fun _ => ?_)
  refine B9_addPallet_28 hw (t9_in hw (lo := nI 10) (hi := nI 250) rfl rfl (fun c1 c2 => ?_) (fun z => ?_))
  rotate_left
  · exact B9_addPallet_39 hw (fun _ => bad (fun y => z y.2.2.1)) (fun c => absurd rfl c)
  refine B9_addPallet_39 hw (fun c => absurd c (by decide)) (fun _ => ?_)
  refine B9_addPallet_42 hw (t9_in hw (lo := 0) (hi := nI 5000) rfl rfl (fun d1 d2 => ?_) (fun z => ?_))
  rotate_left
  · exact B9_addPallet_52 hw (fun _ => bad (fun y => z y.2.2.2.1)) (fun c => absurd rfl c)
  refine B9_addPallet_52 hw (fun c => absurd c (by decide)) (fun _ => ?_)
  refine B9_addPallet_55 hw (t9_in hw (lo := 0) (hi := nI 9999) rfl rfl (fun e1 e2 => ?_) (fun z => ?_))
  rotate_left
  · exact B9_addPallet_65 hw (fun c => absurd rfl c) (fun _ => bad (fun y => z y.2.2.2.2))
  have ok : okPal a b c d e := ⟨⟨a1, a2⟩, ⟨b1, b2⟩, ⟨c1, c2⟩, ⟨d1, d2⟩, ⟨e1, e2⟩⟩
  refine B9_addPallet_65 hw (fun _ => ?_) (fun c => absurd c (by decide))
  refine B9_addPallet_70 hw ml.1 (fun z => ?_) (fun z => ?_)
  · simp (disch := omega) only [gr_hM, gs_hM, ml.2.1, ml.2.2.1, ml.2.2.2.1, ml.2.2.2.2.1, ml.2.2.2.2.2, hM_F, hM_N, hM_S, hM_A, hM_T, hM_R, hM_sF, hM_sN, hM_sS, hM_sA, hM_sT, hM_sR, pk_mul, nI_add, nI_clamp, upd_eq, upd_ne] at z
    rw [hN1, nI_eq (by omega) (by omega)] at z
    refine B9_addPallet_84 hw ml.1 ?_
    refine t9_change hw ml hst hF zN (fun S' st' hst' hm => ?_)
    refine B9_addPallet_88 hw ml.1 ?_ ?_ ?_
    · simp (disch := omega) only [gr_hM, gs_hM, ml.2.1, ml.2.2.1, ml.2.2.2.1, ml.2.2.2.2.1, ml.2.2.2.2.2, hM_F, hM_N, hM_S, hM_A, hM_T, hM_R, hM_sF, hM_sN, hM_sS, hM_sA, hM_sT, hM_sR, pk_mul, nI_add, nI_clamp, upd_eq, upd_ne]; rw [hN1]; simp (disch := omega) only [gr_hM, gs_hM, ml.2.1, ml.2.2.1, ml.2.2.2.1, ml.2.2.2.2.1, ml.2.2.2.2.2, hM_F, hM_N, hM_S, hM_A, hM_T, hM_R, hM_sF, hM_sN, hM_sS, hM_sA, hM_sT, hM_sR, pk_mul, nI_add, nI_clamp, upd_eq, upd_ne]; exact vp_in_nI (by omega) (by omega)
    · simp (disch := omega) only [gr_hM, gs_hM, ml.2.1, ml.2.2.1, ml.2.2.2.1, ml.2.2.2.2.1, ml.2.2.2.2.2, hM_F, hM_N, hM_S, hM_A, hM_T, hM_R, hM_sF, hM_sN, hM_sS, hM_sA, hM_sT, hM_sR, pk_mul, nI_add, nI_clamp, upd_eq, upd_ne]; rw [hN1]; simp (disch := omega) only [gr_hM, gs_hM, ml.2.1, ml.2.2.1, ml.2.2.2.1, ml.2.2.2.2.1, ml.2.2.2.2.2, hM_F, hM_N, hM_S, hM_A, hM_T, hM_R, hM_sF, hM_sN, hM_sS, hM_sA, hM_sT, hM_sR, pk_mul, nI_add, nI_clamp, upd_eq, upd_ne]; exact vp_in_nI (by omega) (by omega)
    · simp (disch := omega) only [gr_hM, gs_hM, ml.2.1, ml.2.2.1, ml.2.2.2.1, ml.2.2.2.2.1, ml.2.2.2.2.2, hM_F, hM_N, hM_S, hM_A, hM_T, hM_R, hM_sF, hM_sN, hM_sS, hM_sA, hM_sT, hM_sR, pk_mul, nI_add, nI_clamp, upd_eq, upd_ne]
      rw [hN1]
      simp (disch := omega) only [gr_hM, gs_hM, ml.2.1, ml.2.2.1, ml.2.2.2.1, ml.2.2.2.2.1, ml.2.2.2.2.2, hM_F, hM_N, hM_S, hM_A, hM_T, hM_R, hM_sF, hM_sN, hM_sS, hM_sA, hM_sT, hM_sR, pk_mul, nI_add, nI_clamp, upd_eq, upd_ne]
      refine B9_addPallet_126 hw ml.1 (by simp (disch := omega) only [gr_hM, gs_hM, ml.2.1, ml.2.2.1, ml.2.2.2.1, ml.2.2.2.2.1, ml.2.2.2.2.2, hM_F, hM_N, hM_S, hM_A, hM_T, hM_R, hM_sF, hM_sN, hM_sS, hM_sA, hM_sT, hM_sR, pk_mul, nI_add, nI_clamp, upd_eq, upd_ne]; exact vp_in_nI (by omega) (by omega)) (by simp (disch := omega) only [gr_hM, gs_hM, ml.2.1, ml.2.2.1, ml.2.2.2.1, ml.2.2.2.2.1, ml.2.2.2.2.2, hM_F, hM_N, hM_S, hM_A, hM_T, hM_R, hM_sF, hM_sN, hM_sS, hM_sA, hM_sT, hM_sR, pk_mul, nI_add, nI_clamp, upd_eq, upd_ne]; exact vp_in_nI (by omega) (by omega)) (by simp (disch := omega) only [gr_hM, gs_hM, ml.2.1, ml.2.2.1, ml.2.2.2.1, ml.2.2.2.2.1, ml.2.2.2.2.2, hM_F, hM_N, hM_S, hM_A, hM_T, hM_R, hM_sF, hM_sN, hM_sS, hM_sA, hM_sT, hM_sR, pk_mul, nI_add, nI_clamp, upd_eq, upd_ne]; exact vp_in_nI (by omega) (by omega)) ?_
      simp (disch := omega) only [gr_hM, gs_hM, ml.2.1, ml.2.2.1, ml.2.2.2.1, ml.2.2.2.2.1, ml.2.2.2.2.2, hM_F, hM_N, hM_S, hM_A, hM_T, hM_R, hM_sF, hM_sN, hM_sS, hM_sA, hM_sT, hM_sR, pk_mul, nI_add, nI_clamp, upd_eq, upd_ne]
      refine B9_addPallet_157 hw ml.1 (by simp (disch := omega) only [gr_hM, gs_hM, ml.2.1, ml.2.2.1, ml.2.2.2.1, ml.2.2.2.2.1, ml.2.2.2.2.2, hM_F, hM_N, hM_S, hM_A, hM_T, hM_R, hM_sF, hM_sN, hM_sS, hM_sA, hM_sT, hM_sR, pk_mul, nI_add, nI_clamp, upd_eq, upd_ne]; exact vp_in_nI (by omega) (by omega)) ?_
      simp (disch := omega) only [gr_hM, gs_hM, ml.2.1, ml.2.2.1, ml.2.2.2.1, ml.2.2.2.2.1, ml.2.2.2.2.2, hM_F, hM_N, hM_S, hM_A, hM_T, hM_R, hM_sF, hM_sN, hM_sS, hM_sA, hM_sT, hM_sR, pk_mul, nI_add, nI_clamp, upd_eq, upd_ne]
      refine B9_addPallet_178 hw ml.1 ?_
      simp (disch := omega) only [gr_hM, gs_hM, ml.2.1, ml.2.2.1, ml.2.2.2.1, ml.2.2.2.2.1, ml.2.2.2.2.2, hM_F, hM_N, hM_S, hM_A, hM_T, hM_R, hM_sF, hM_sN, hM_sS, hM_sA, hM_sT, hM_sR, pk_mul, nI_add, nI_clamp, upd_eq, upd_ne]
      rw [hN1, add_sub1, nI_add]
      have e : upd (upd (upd (upd (upd (upd (upd (upd N (140 + 6 * w) (N 2)) (140 + 6 * w + 1) a) (140 + 6 * w + 2) b) (140 + 6 * w + 3) c) (140 + 6 * w + 4) d) (140 + 6 * w + 5) e) 2 (N 2 + nI 1)) 1 (nI (w + 1)) = addPalletN N w a b c d e := (by funext j; simp only [upd, addPalletN]; (repeat' split) <;> first | rfl | (exfalso; omega) | (congr 1; omega))
      rw [e]
      exact q3 ok (by omega) S' st' hst' hm
  · simp (disch := omega) only [gr_hM, gs_hM, ml.2.1, ml.2.2.1, ml.2.2.2.1, ml.2.2.2.2.1, ml.2.2.2.2.2, hM_F, hM_N, hM_S, hM_A, hM_T, hM_R, hM_sF, hM_sN, hM_sS, hM_sA, hM_sT, hM_sR, pk_mul, nI_add, nI_clamp, upd_eq, upd_ne] at z
    rw [hN1, nI_eq (by omega) (by omega)] at z
    exact B9_addPallet_81 hw (q2 ok z)
theorem t9_drop {ω : Om} {h : AH} {m : Nat} {F N S A T R : Nat → Int32} {Q : Option Value → AH → Prop} (hw : ω.2.2.2.1 = true) (ml : ML h m) {w st : Nat} {p : Int32} (hN1 : N 1 = nI w) (hw8 : w ≤ 8) (hst : st ≤ 4) (hF : F 2 = nI st) (zN : Z596 N) (q1 : p < 0 → Q (some (.int (-1))) (hM h m F N S A T R)) (q2 : ¬ p < 0 → (∀ k, k < w → ¬ N (140 + 6 * k + 0) = p) → Q (some (.int (-4))) (hM h m F N S A T R))
    (q3 : ¬ p < 0 → ∀ k, k < w → N (140 + 6 * k + 0) = p → ∀ (S' : Nat → Int32) (st' : Nat), st' ≤ 4 → MH S' st' = pushH (MH S st) N → Q (some (.int (nI (w - 1)))) (hM h m (upd F 2 (nI st')) (palletGoesN N w k) S' A T R)) : Ex ω M9_drop 0 [some (.ref m), some (.int p), none] [] (hM h m F N S A T R) 0 0 Q := by
  refine B9_drop_0 hw (fun z => ?_) (fun z => B9_drop_4 hw (q1 (Int32.not_le.mp z)))
  have hp : ¬ p < 0 := Int32.not_lt.mpr z
  refine B9_drop_6 hw ?_
  have lp : ∀ d k : Nat, k + d = w → (∀ j, j < k → ¬ N (140 + 6 * j + 0) = p) → Ex ω M9_drop 8 [some (.ref m), some (.int p), some (.int (nI k))] [] (hM h m F N S A T R) 0 0 Q := by
    intro d
    induction d with
    | zero =>
      intro k hk hj
      obtain rfl : k = w := by omega
      refine B9_drop_8 hw ml.1 (fun _ => B9_drop_50 hw (q2 hp hj)) (fun c => ?_)
      simp (disch := omega) only [gr_hM, gs_hM, ml.2.1, ml.2.2.1, ml.2.2.2.1, ml.2.2.2.2.1, ml.2.2.2.2.2, hM_F, hM_N, hM_S, hM_A, hM_T, hM_R, hM_sF, hM_sN, hM_sS, hM_sA, hM_sT, hM_sR, pk_mul, nI_add, nI_clamp, upd_eq, upd_ne] at c
      rw [hN1] at c
      exact absurd (nI_le (by omega) (by omega)) c
    | succ d ih =>
      intro k hk hj
      refine B9_drop_8 hw ml.1 (fun c => ?_) (fun c => ?_)
      · simp (disch := omega) only [gr_hM, gs_hM, ml.2.1, ml.2.2.1, ml.2.2.2.1, ml.2.2.2.2.1, ml.2.2.2.2.2, hM_F, hM_N, hM_S, hM_A, hM_T, hM_R, hM_sF, hM_sN, hM_sS, hM_sA, hM_sT, hM_sR, pk_mul, nI_add, nI_clamp, upd_eq, upd_ne] at c
        rw [hN1] at c
        exact absurd c (nI_ge (by omega) (by omega))
      · refine B9_drop_18 hw ml.1 (t9_palletAt hw ml (by omega) (k := 0) (by omega) ?_)
        refine B9_drop_24 hw (fun c2 => ?_) (fun c2 => ?_)
        · refine B9_drop_44 hw ?_
          rw [nI_add]
          refine ih (k + 1) (by omega) (fun j hj2 => ?_)
          by_cases e : j = k
          · subst e; exact c2
          · exact hj j (by omega)
        · refine B9_drop_28 hw ml.1 (t9_change hw ml hst hF zN (fun S' st' hst' hm => ?_))
          refine B9_drop_32 hw ml.1 (t9_palletGoes hw ml hN1 (by omega) hw8 ?_)
          refine B9_drop_37 hw ml.1 ?_
          simp (disch := omega) only [gr_hM, gs_hM, ml.2.1, ml.2.2.1, ml.2.2.2.1, ml.2.2.2.2.1, ml.2.2.2.2.2, hM_F, hM_N, hM_S, hM_A, hM_T, hM_R, hM_sF, hM_sN, hM_sS, hM_sA, hM_sT, hM_sR, pk_mul, nI_add, nI_clamp, upd_eq, upd_ne]
          rw [show palletGoesN N w k 1 = nI (w - 1) from if_pos rfl]
          exact q3 hp k (by omega) c2 S' st' hst' hm
  exact lp w 0 (by omega) (fun j hj => by omega)
/-- pallet i comes before pallet k -/
def aheadP (N : Nat → Int32) (i k : Nat) : Prop := N (140 + 6 * i + 5) < N (140 + 6 * k + 5) ∨ (N (140 + 6 * i + 5) = N (140 + 6 * k + 5) ∧ N (140 + 6 * i + 0) < N (140 + 6 * k + 0))
def aheadC (N : Nat → Int32) (k : Nat) : Nat → Nat
  | 0 => 0
  | w + 1 => aheadC N k w + (if N (140 + 6 * w + 5) < N (140 + 6 * k + 5) ∨ (N (140 + 6 * w + 5) = N (140 + 6 * k + 5) ∧ N (140 + 6 * w + 0) < N (140 + 6 * k + 0)) then 1 else 0)
theorem aheadC_le (N : Nat → Int32) (k : Nat) : ∀ w, aheadC N k w ≤ w := by
  intro w
  induction w with
  | zero => exact Nat.le_refl _
  | succ w ih => unfold aheadC; split <;> omega
theorem t9_byTurn {ω : Om} {h : AH} {m : Nat} {F N S A T R : Nat → Int32} {Q : Option Value → AH → Prop} (hw : ω.2.2.2.1 = true) (ml : ML h m) {w : Nat} {x : Int32} (hN1 : N 1 = nI w) (hw8 : w ≤ 8) (q1 : (∀ k, k < w → ¬ nI (aheadC N k w) = x) → Q (some (.int (-1))) (hM h m F N S A T R)) (q2 : ∀ k, k < w → nI (aheadC N k w) = x → (∀ j, j < k → ¬ nI (aheadC N j w) = x) → Q (some (.int (nI k))) (hM h m F N S A T R)) : Ex ω M9_byTurn 0 [some (.ref m), some (.int x), none, none, none] [] (hM h m F N S A T R) 0 0 Q := by
  refine B9_byTurn_0 hw ?_
  have inner : ∀ (k : Nat), k < w → (Ex ω M9_byTurn 90 [some (.ref m), some (.int x), some (.int (nI k)), some (.int (nI (aheadC N k w))), none] [] (hM h m F N S A T R) 0 0 Q) → ∀ d i : Nat, i + d = w → Ex ω M9_byTurn 17 [some (.ref m), some (.int x), some (.int (nI k)), some (.int (nI (aheadC N k i))), some (.int (nI i))] [] (hM h m F N S A T R) 0 0 Q := by
    intro k hk hend d
    induction d with
    | zero =>
      intro i hi
      obtain rfl : i = w := by omega
      refine B9_byTurn_17 hw ml.1 (fun _ => x_dr4 hend) (fun c => ?_)
      simp (disch := omega) only [gr_hM, gs_hM, ml.2.1, ml.2.2.1, ml.2.2.2.1, ml.2.2.2.2.1, ml.2.2.2.2.2, hM_F, hM_N, hM_S, hM_A, hM_T, hM_R, hM_sF, hM_sN, hM_sS, hM_sA, hM_sT, hM_sR, pk_mul, nI_add, nI_clamp, upd_eq, upd_ne] at c
      rw [hN1] at c
      exact absurd (nI_le (by omega) (by omega)) c
    | succ d ih =>
      intro i hi
      refine B9_byTurn_17 hw ml.1 (fun c => ?_) (fun _ => ?_)
      · simp (disch := omega) only [gr_hM, gs_hM, ml.2.1, ml.2.2.1, ml.2.2.2.1, ml.2.2.2.2.1, ml.2.2.2.2.2, hM_F, hM_N, hM_S, hM_A, hM_T, hM_R, hM_sF, hM_sN, hM_sS, hM_sA, hM_sT, hM_sR, pk_mul, nI_add, nI_clamp, upd_eq, upd_ne] at c
        rw [hN1] at c
        exact absurd c (nI_ge (by omega) (by omega))
      have hI := ih (i + 1) (by omega)
      unfold aheadC at hI
      have yes : (N (140 + 6 * i + 5) < N (140 + 6 * k + 5) ∨ (N (140 + 6 * i + 5) = N (140 + 6 * k + 5) ∧ N (140 + 6 * i + 0) < N (140 + 6 * k + 0))) → Ex ω M9_byTurn 77 [some (.ref m), some (.int x), some (.int (nI k)), none, some (.int (nI i))] [.int (nI (aheadC N k i))] (hM h m F N S A T R) 0 0 Q := fun hy => by
        refine B9_byTurn_77 hw (B9_byTurn_82 hw ?_)
        rw [if_pos hy] at hI
        rw [nI_add, nI_add]
        exact hI
      have no : ¬ (N (140 + 6 * i + 5) < N (140 + 6 * k + 5) ∨ (N (140 + 6 * i + 5) = N (140 + 6 * k + 5) ∧ N (140 + 6 * i + 0) < N (140 + 6 * k + 0))) → Ex ω M9_byTurn 81 [some (.ref m), some (.int x), some (.int (nI k)), none, some (.int (nI i))] [.int (nI (aheadC N k i))] (hM h m F N S A T R) 0 0 Q := fun hy => by
        refine B9_byTurn_81 hw (B9_byTurn_82 hw ?_)
        rw [if_neg hy] at hI
        rw [nI_add, nI_add]
        exact hI
      refine B9_byTurn_28 hw ml.1 (t9_palletAt hw ml (by omega) (k := 5) (by omega) ?_)
      refine B9_byTurn_36 hw ml.1 (t9_palletAt hw ml (by omega) (k := 5) (by omega) ?_)
      refine B9_byTurn_42 hw (fun c => yes (Or.inl c)) (fun c => ?_)
      refine B9_byTurn_45 hw ml.1 (t9_palletAt hw ml (by omega) (k := 5) (by omega) ?_)
      refine B9_byTurn_52 hw ml.1 (t9_palletAt hw ml (by omega) (k := 5) (by omega) ?_)
      refine B9_byTurn_58 hw (fun c2 => no (fun z => z.elim (fun y => c y) (fun y => c2 y.1))) (fun c2 => ?_)
      refine B9_byTurn_61 hw ml.1 (t9_palletAt hw ml (by omega) (k := 0) (by omega) ?_)
      refine B9_byTurn_68 hw ml.1 (t9_palletAt hw ml (by omega) (k := 0) (by omega) ?_)
      refine B9_byTurn_74 hw (fun c3 => no (fun z => z.elim (fun y => c y) (fun y => Int32.not_le.mpr y.2 c3))) (fun c3 => yes (Or.inr ⟨c2, Int32.not_le.mp c3⟩))
  have outer : ∀ d k : Nat, k + d = w → (∀ j, j < k → ¬ nI (aheadC N j w) = x) → Ex ω M9_byTurn 2 [some (.ref m), some (.int x), some (.int (nI k)), none, none] [] (hM h m F N S A T R) 0 0 Q := by
    intro d
    induction d with
    | zero =>
      intro k hk hj
      obtain rfl : k = w := by omega
      refine B9_byTurn_2 hw ml.1 (fun _ => B9_byTurn_103 hw (q1 hj)) (fun c => ?_)
      simp (disch := omega) only [gr_hM, gs_hM, ml.2.1, ml.2.2.1, ml.2.2.2.1, ml.2.2.2.2.1, ml.2.2.2.2.2, hM_F, hM_N, hM_S, hM_A, hM_T, hM_R, hM_sF, hM_sN, hM_sS, hM_sA, hM_sT, hM_sR, pk_mul, nI_add, nI_clamp, upd_eq, upd_ne] at c
      rw [hN1] at c
      exact absurd (nI_le (by omega) (by omega)) c
    | succ d ih =>
      intro k hk hj
      refine B9_byTurn_2 hw ml.1 (fun c => ?_) (fun _ => ?_)
      · simp (disch := omega) only [gr_hM, gs_hM, ml.2.1, ml.2.2.1, ml.2.2.2.1, ml.2.2.2.2.1, ml.2.2.2.2.2, hM_F, hM_N, hM_S, hM_A, hM_T, hM_R, hM_sF, hM_sN, hM_sS, hM_sA, hM_sT, hM_sR, pk_mul, nI_add, nI_clamp, upd_eq, upd_ne] at c
        rw [hN1] at c
        exact absurd c (nI_ge (by omega) (by omega))
      refine B9_byTurn_12 hw ?_
      refine inner k (by omega) ?_ w 0 (by omega)
      refine B9_byTurn_90 hw (fun c => ?_) (fun c => B9_byTurn_95 hw (q2 k (by omega) c hj))
      refine x_dr3 (B9_byTurn_97 hw ?_)
      rw [nI_add]
      refine ih (k + 1) (by omega) (fun j hj2 => ?_)
      by_cases e : j = k
      · subst e; exact c
      · exact hj j (by omega)
  exact outer w 0 (by omega) (fun j hj => by omega)
theorem t9_waiting {ω : Om} {h : AH} {m : Nat} {F N S A T R : Nat → Int32} {Q : Option Value → AH → Prop} (hw : ω.2.2.2.1 = true) (ml : ML h m) {w : Nat} {x y : Int32} (hN1 : N 1 = nI w) (hw8 : w ≤ 8) (q1 : ¬ (¬ x < 0 ∧ (0 ≤ y ∧ y ≤ nI 5)) → Q (some (.int (-1))) (hM h m F N S A T R)) (q2 : (¬ x < 0 ∧ (0 ≤ y ∧ y ≤ nI 5)) → (∀ k, k < w → ¬ nI (aheadC N k w) = x) → Q (some (.int (-4))) (hM h m F N S A T R)) (q3 : ∀ j k : Nat, y = nI j → j < 6 → k < w → nI (aheadC N k w) = x → Q (some (.int (N (140 + 6 * k + j)))) (hM h m F N S A T R)) : Ex ω M9_waiting 0 [some (.ref m), some (.int x), some (.int y), none] [] (hM h m F N S A T R) 0 0 Q := by
  refine B9_waiting_0 hw (fun z => B9_waiting_16 hw (q1 (fun c => c.1 z))) (fun z => ?_)
  refine B9_waiting_4 hw (t9_in hw (lo := 0) (hi := nI 5) rfl rfl (fun a1 a2 => ?_) (fun a => ?_))
  · refine B9_waiting_13 hw (fun _ => ?_) (fun c => absurd c (by decide))
    obtain ⟨j, rfl, -, hj⟩ := bd_of (lo := 0) (hi := 5) (by omega) (by omega) a1 a2
    refine B9_waiting_18 hw ml.1 (t9_byTurn hw ml hN1 hw8 (fun hn => ?_) (fun k hk e _ => ?_))
    · refine B9_waiting_23 hw (fun c => absurd c (by decide)) (fun _ => ?_)
      exact B9_waiting_28 hw (B9_waiting_39 hw (q2 ⟨z, a1, a2⟩ hn))
    · refine B9_waiting_23 hw (fun _ => ?_) (fun c => absurd (nI_pos' (by omega)) c)
      refine B9_waiting_33 hw ml.1 (t9_palletAt hw ml (by omega) (k := j) (by omega) ?_)
      exact B9_waiting_39 hw (q3 j k rfl (by omega) hk e)
  · refine B9_waiting_13 hw (fun c => absurd rfl c) (fun _ => B9_waiting_16 hw (q1 (fun c => a c.2)))
def okSet (x y : Int32) : Prop := (0 ≤ x ∧ x ≤ nI 1) ∧ (0 ≤ y ∧ y ≤ (if x = 0 then nI 500 else nI 20))
theorem t9_set {ω : Om} {h : AH} {m : Nat} {F N S A T R : Nat → Int32} {Q : Option Value → AH → Prop} (hw : ω.2.2.2.1 = true) (ml : ML h m) {st : Nat} {x y : Int32} (hst : st ≤ 4) (hF : F 2 = nI st) (zN : Z596 N) (q1 : ¬ okSet x y → Q (some (.int (-1))) (hM h m F N S A T R)) (q2 : ∀ j : Nat, x = nI j → j < 2 → okSet x y → ∀ (S' : Nat → Int32) (st' : Nat), st' ≤ 4 → MH S' st' = pushH (MH S st) N → Q (some (.int (N (4 + j)))) (hM h m (upd F 2 (nI st')) (upd N (4 + j) y) S' A T R)) : Ex ω M9_set 0 [some (.ref m), some (.int x), some (.int y), none] [] (hM h m F N S A T R) 0 0 Q := by
  refine B9_set_0 hw (t9_in hw (lo := 0) (hi := nI 1) rfl rfl (fun a1 a2 => ?_) (fun a => ?_))
  rotate_left
  · exact B9_set_7 hw (fun _ => B9_set_32 hw (q1 (fun c => a c.1))) (fun c => absurd rfl c)
  refine B9_set_7 hw (fun c => absurd c (by decide)) (fun _ => ?_)
  obtain ⟨j, rfl, -, hj⟩ := bd_of (lo := 0) (hi := 1) (by omega) (by omega) a1 a2
  have fin : okSet (nI j) y → Ex ω M9_set 34 [some (.ref m), some (.int (nI j)), some (.int y), none] [] (hM h m F N S A T R) 0 0 Q := fun ok => by
    refine B9_set_34 hw ml.1 (t9_change hw ml hst hF zN (fun S' st' hst' hm => ?_))
    refine B9_set_38 hw ml.1 (by rw [nI_add]; exact vp_in_nI (by omega) (by omega)) (by rw [nI_add]; exact vp_in_nI (by omega) (by omega)) ?_
    simp (disch := omega) only [gr_hM, gs_hM, ml.2.1, ml.2.2.1, ml.2.2.2.1, ml.2.2.2.2.1, ml.2.2.2.2.2, hM_F, hM_N, hM_S, hM_A, hM_T, hM_R, hM_sF, hM_sN, hM_sS, hM_sA, hM_sT, hM_sR, pk_mul, nI_add, nI_clamp, upd_eq, upd_ne]
    exact q2 j rfl (by omega) ok S' st' hst' hm
  refine B9_set_10 hw (fun z => ?_) (fun z => ?_)
  · refine B9_set_23 hw (B9_set_26 hw (t9_in hw (lo := 0) (hi := nI 20) rfl rfl (fun b1 b2 => ?_) (fun b => ?_)))
    · exact B9_set_29 hw (fun _ => fin ⟨⟨a1, a2⟩, b1, by rw [if_neg z]; exact b2⟩) (fun c => absurd c (by decide))
    · exact B9_set_29 hw (fun c => absurd rfl c) (fun _ => B9_set_32 hw (q1 (fun c => b (by have := c.2; rw [if_neg z] at this; exact this))))
  · refine B9_set_17 hw (B9_set_26 hw (t9_in hw (lo := 0) (hi := nI 500) rfl rfl (fun b1 b2 => ?_) (fun b => ?_)))
    · exact B9_set_29 hw (fun _ => fin ⟨⟨a1, a2⟩, b1, by rw [if_pos z]; exact b2⟩) (fun c => absurd c (by decide))
    · exact B9_set_29 hw (fun c => absurd rfl c) (fun _ => B9_set_32 hw (q1 (fun c => b (by have := c.2; rw [if_pos z] at this; exact this))))
