/-! the model: counts, the text by place, steps by place, sums, what is kept -/
/-- what 'count' answers -/
def countR (N : Nat → Int32) (st len : Nat) (x : Int32) : Int32 := if x = nI 0 then N 0 else if x = nI 1 then N 1 else if x = nI 2 then N 7 else if x = nI 3 then N 3 else if x = nI 4 then N 4 else if x = nI 5 then N 5 else if x = nI 6 then nI st else if x = nI 7 then nI len else if x = nI 8 then N 6 else -1
theorem t9_count {ω : Om} {h : AH} {m : Nat} {F N S A T R : Nat → Int32} {Q : Option Value → AH → Prop} (hw : ω.2.2.2.1 = true) (ml : ML h m) {st len : Nat} {x : Int32} (hF2 : F 2 = nI st) (hF5 : F 5 = nI len) (hq : Q (some (.int (countR N st len x))) (hM h m F N S A T R)) : Ex ω M9_count 0 [some (.ref m), some (.int x)] [] (hM h m F N S A T R) 0 0 Q := by
  have e4 : Int32.toNatClampNeg (nI 4) = 4 := nI_clamp (by omega)
  have e5 : Int32.toNatClampNeg (nI 5) = 5 := nI_clamp (by omega)
  refine B9_count_0 hw (fun z => ?_) (fun z => ?_) (fun z => ?_) (fun z => ?_) (fun z => ?_) (fun z => ?_) (fun z => ?_) (fun z => ?_) (fun z => ?_) (fun z => ?_)
  · subst z; refine B9_count_52 hw ml.1 ?_; simp (disch := omega) only [gr_hM, gs_hM, ml.2.1, ml.2.2.1, ml.2.2.2.1, ml.2.2.2.2.1, ml.2.2.2.2.2, hM_F, hM_N, hM_S, hM_A, hM_T, hM_R, hM_sF, hM_sN, hM_sS, hM_sA, hM_sT, hM_sR, pk_mul, nI_add, nI_clamp, upd_eq, upd_ne]; exact hq
  · subst z; refine B9_count_59 hw ml.1 ?_; simp (disch := omega) only [gr_hM, gs_hM, ml.2.1, ml.2.2.1, ml.2.2.2.1, ml.2.2.2.2.1, ml.2.2.2.2.2, hM_F, hM_N, hM_S, hM_A, hM_T, hM_R, hM_sF, hM_sN, hM_sS, hM_sA, hM_sT, hM_sR, pk_mul, nI_add, nI_clamp, upd_eq, upd_ne]; exact hq
  · subst z; refine B9_count_66 hw ml.1 ?_; simp (disch := omega) only [gr_hM, gs_hM, ml.2.1, ml.2.2.1, ml.2.2.2.1, ml.2.2.2.2.1, ml.2.2.2.2.2, hM_F, hM_N, hM_S, hM_A, hM_T, hM_R, hM_sF, hM_sN, hM_sS, hM_sA, hM_sT, hM_sR, pk_mul, nI_add, nI_clamp, upd_eq, upd_ne]; exact hq
  · subst z; refine B9_count_74 hw ml.1 ?_; simp (disch := omega) only [gr_hM, gs_hM, ml.2.1, ml.2.2.1, ml.2.2.2.1, ml.2.2.2.2.1, ml.2.2.2.2.2, hM_F, hM_N, hM_S, hM_A, hM_T, hM_R, hM_sF, hM_sN, hM_sS, hM_sA, hM_sT, hM_sR, pk_mul, nI_add, nI_clamp, upd_eq, upd_ne]; exact hq
  · subst z; refine B9_count_81 hw ml.1 (vp_in_nI (by omega) (by omega)) ?_; simp (disch := omega) only [gr_hM, gs_hM, ml.2.1, ml.2.2.1, ml.2.2.2.1, ml.2.2.2.2.1, ml.2.2.2.2.2, hM_F, hM_N, hM_S, hM_A, hM_T, hM_R, hM_sF, hM_sN, hM_sS, hM_sA, hM_sT, hM_sR, pk_mul, nI_add, nI_clamp, upd_eq, upd_ne]; exact hq
  · subst z; refine B9_count_81 hw ml.1 (vp_in_nI (by omega) (by omega)) ?_; simp (disch := omega) only [gr_hM, gs_hM, ml.2.1, ml.2.2.1, ml.2.2.2.1, ml.2.2.2.2.1, ml.2.2.2.2.2, hM_F, hM_N, hM_S, hM_A, hM_T, hM_R, hM_sF, hM_sN, hM_sS, hM_sA, hM_sT, hM_sR, pk_mul, nI_add, nI_clamp, upd_eq, upd_ne]; exact hq
  · subst z; refine B9_count_88 hw ml.1 ?_; simp (disch := omega) only [gr_hM, gs_hM, ml.2.1, ml.2.2.1, ml.2.2.2.1, ml.2.2.2.2.1, ml.2.2.2.2.2, hM_F, hM_N, hM_S, hM_A, hM_T, hM_R, hM_sF, hM_sN, hM_sS, hM_sA, hM_sT, hM_sR, pk_mul, nI_add, nI_clamp, upd_eq, upd_ne]; rw [hF2]; exact hq
  · subst z; refine B9_count_93 hw ml.1 ?_; simp (disch := omega) only [gr_hM, gs_hM, ml.2.1, ml.2.2.1, ml.2.2.2.1, ml.2.2.2.2.1, ml.2.2.2.2.2, hM_F, hM_N, hM_S, hM_A, hM_T, hM_R, hM_sF, hM_sN, hM_sS, hM_sA, hM_sT, hM_sR, pk_mul, nI_add, nI_clamp, upd_eq, upd_ne]; rw [hF5]; exact hq
  · subst z; refine B9_count_98 hw ml.1 ?_; simp (disch := omega) only [gr_hM, gs_hM, ml.2.1, ml.2.2.1, ml.2.2.2.1, ml.2.2.2.2.1, ml.2.2.2.2.2, hM_F, hM_N, hM_S, hM_A, hM_T, hM_R, hM_sF, hM_sN, hM_sS, hM_sA, hM_sT, hM_sR, pk_mul, nI_add, nI_clamp, upd_eq, upd_ne]; exact hq
  · refine B9_count_106 hw ?_
    have e : countR N st len x = -1 := by
      unfold countR
      rw [if_neg (fun y => z (by rw [y]; decide)), if_neg (fun y => z (by rw [y]; decide)), if_neg (fun y => z (by rw [y]; decide)), if_neg (fun y => z (by rw [y]; decide)), if_neg (fun y => z (by rw [y]; decide)), if_neg (fun y => z (by rw [y]; decide)), if_neg (fun y => z (by rw [y]; decide)), if_neg (fun y => z (by rw [y]; decide)), if_neg (fun y => z (by rw [y]; decide))]
    rw [e] at hq
    exact hq
theorem t9_type {ω : Om} {h : AH} {m : Nat} {F N S A T R : Nat → Int32} {Q : Option Value → AH → Prop} (hw : ω.2.2.2.1 = true) (ml : ML h m) {len : Nat} {x : Int32} (hF5 : F 5 = nI len) (hl : len ≤ 100) (q1 : ¬ (nI 32 ≤ x ∧ x ≤ nI 126) → Q (some (.int (-1))) (hM h m F N S A T R)) (q2 : (nI 32 ≤ x ∧ x ≤ nI 126) → len = 100 → Q (some (.int (-3))) (hM h m F N S A T R)) (q3 : (nI 32 ≤ x ∧ x ≤ nI 126) → len < 100 → Q (some (.int (nI (len + 1)))) (hM h m (upd F 5 (nI (len + 1))) N S A (upd T len x) R)) : Ex ω M9_type 0 [some (.ref m), some (.int x)] [] (hM h m F N S A T R) 0 0 Q := by
  refine B9_type_0 hw (t9_in hw (lo := nI 32) (hi := nI 126) rfl rfl (fun a1 a2 => ?_) (fun a => ?_))
  · refine B9_type_11 hw (fun _ => ?_) (fun c => absurd c (by decide))
    refine B9_type_16 hw ml.1 (fun z => ?_) (fun z => ?_)
    · simp (disch := omega) only [gr_hM, gs_hM, ml.2.1, ml.2.2.1, ml.2.2.2.1, ml.2.2.2.2.1, ml.2.2.2.2.2, hM_F, hM_N, hM_S, hM_A, hM_T, hM_R, hM_sF, hM_sN, hM_sS, hM_sA, hM_sT, hM_sR, pk_mul, nI_add, nI_clamp, upd_eq, upd_ne] at z
      rw [hF5, nI_eq (by omega) (by omega)] at z
      refine B9_type_28 hw ml.1 (by simp (disch := omega) only [gr_hM, gs_hM, ml.2.1, ml.2.2.1, ml.2.2.2.1, ml.2.2.2.2.1, ml.2.2.2.2.2, hM_F, hM_N, hM_S, hM_A, hM_T, hM_R, hM_sF, hM_sN, hM_sS, hM_sA, hM_sT, hM_sR, pk_mul, nI_add, nI_clamp, upd_eq, upd_ne]; rw [hF5]; exact vp_in_nI (by omega) (by omega)) ?_
      simp (disch := omega) only [gr_hM, gs_hM, ml.2.1, ml.2.2.1, ml.2.2.2.1, ml.2.2.2.2.1, ml.2.2.2.2.2, hM_F, hM_N, hM_S, hM_A, hM_T, hM_R, hM_sF, hM_sN, hM_sS, hM_sA, hM_sT, hM_sR, pk_mul, nI_add, nI_clamp, upd_eq, upd_ne]
      rw [hF5, nI_add, nI_clamp (by omega)]
      refine B9_type_48 hw ml.1 ?_
      simp (disch := omega) only [gr_hM, gs_hM, ml.2.1, ml.2.2.1, ml.2.2.2.1, ml.2.2.2.2.1, ml.2.2.2.2.2, hM_F, hM_N, hM_S, hM_A, hM_T, hM_R, hM_sF, hM_sN, hM_sS, hM_sA, hM_sT, hM_sR, pk_mul, nI_add, nI_clamp, upd_eq, upd_ne]
      exact q3 ⟨a1, a2⟩ (by omega)
    · simp (disch := omega) only [gr_hM, gs_hM, ml.2.1, ml.2.2.1, ml.2.2.2.1, ml.2.2.2.2.1, ml.2.2.2.2.2, hM_F, hM_N, hM_S, hM_A, hM_T, hM_R, hM_sF, hM_sN, hM_sS, hM_sA, hM_sT, hM_sR, pk_mul, nI_add, nI_clamp, upd_eq, upd_ne] at z
      rw [hF5, nI_eq (by omega) (by omega)] at z
      exact B9_type_25 hw (q2 ⟨a1, a2⟩ z)
  · exact B9_type_11 hw (fun c => absurd rfl c) (fun _ => B9_type_14 hw (q1 a))
theorem t9_clearText {ω : Om} {h : AH} {m : Nat} {F N S A T R : Nat → Int32} {Q : Option Value → AH → Prop} (hw : ω.2.2.2.1 = true) (ml : ML h m) {len : Nat} (hF5 : F 5 = nI len) (hq : Q (some (.int (nI len))) (hM h m (upd F 5 (nI 0)) N S A T R)) : Ex ω M9_clearText 0 [some (.ref m), none] [] (hM h m F N S A T R) 0 0 Q := by
  refine B9_clearText_0 hw ml.1 ?_
  simp (disch := omega) only [gr_hM, gs_hM, ml.2.1, ml.2.2.1, ml.2.2.2.1, ml.2.2.2.2.1, ml.2.2.2.2.2, hM_F, hM_N, hM_S, hM_A, hM_T, hM_R, hM_sF, hM_sN, hM_sS, hM_sA, hM_sT, hM_sR, pk_mul, nI_add, nI_clamp, upd_eq, upd_ne]
  rw [hF5]
  exact hq
theorem t9_textAt {ω : Om} {h : AH} {m : Nat} {F N S A T R : Nat → Int32} {Q : Option Value → AH → Prop} (hw : ω.2.2.2.1 = true) (ml : ML h m) {len : Nat} {x : Int32} (hF5 : F 5 = nI len) (hl : len ≤ 100) (q1 : x < 0 → Q (some (.int (-1))) (hM h m F N S A T R)) (q2 : ¬ x < 0 → nI len ≤ x → Q (some (.int (-4))) (hM h m F N S A T R)) (q3 : ∀ j : Nat, j < len → x = nI j → Q (some (.int (T j))) (hM h m F N S A T R)) : Ex ω M9_textAt 0 [some (.ref m), some (.int x)] [] (hM h m F N S A T R) 0 0 Q := by
  refine B9_textAt_0 hw (fun z => ?_) (fun z => B9_textAt_4 hw (B9_textAt_27 hw (q1 (Int32.not_le.mp z))))
  obtain ⟨j, hj, rfl⟩ := nI_of (Int32.not_lt.mpr z)
  refine B9_textAt_8 hw ml.1 (fun z2 => ?_) (fun z2 => ?_)
  · simp (disch := omega) only [gr_hM, gs_hM, ml.2.1, ml.2.2.1, ml.2.2.2.1, ml.2.2.2.2.1, ml.2.2.2.2.2, hM_F, hM_N, hM_S, hM_A, hM_T, hM_R, hM_sF, hM_sN, hM_sS, hM_sA, hM_sT, hM_sR, pk_mul, nI_add, nI_clamp, upd_eq, upd_ne] at z2
    rw [hF5] at z2
    exact B9_textAt_25 hw (B9_textAt_27 hw (q2 (Int32.not_lt.mpr z) z2))
  · simp (disch := omega) only [gr_hM, gs_hM, ml.2.1, ml.2.2.1, ml.2.2.2.1, ml.2.2.2.2.1, ml.2.2.2.2.2, hM_F, hM_N, hM_S, hM_A, hM_T, hM_R, hM_sF, hM_sN, hM_sS, hM_sA, hM_sT, hM_sR, pk_mul, nI_add, nI_clamp, upd_eq, upd_ne] at z2
    rw [hF5, nI_leI (by omega) (by omega)] at z2
    refine B9_textAt_16 hw ml.1 (vp_in_nI (by omega) (by omega)) ?_
    simp (disch := omega) only [gr_hM, gs_hM, ml.2.1, ml.2.2.1, ml.2.2.2.1, ml.2.2.2.2.1, ml.2.2.2.2.2, hM_F, hM_N, hM_S, hM_A, hM_T, hM_R, hM_sF, hM_sN, hM_sS, hM_sA, hM_sT, hM_sR, pk_mul, nI_add, nI_clamp, upd_eq, upd_ne]
    exact B9_textAt_27 hw (q3 j (by omega) rfl)
theorem t9_step {ω : Om} {h : AH} {m : Nat} {F N S A T R : Nat → Int32} {Q : Option Value → AH → Prop} (hw : ω.2.2.2.1 = true) (ml : ML h m) {sn : Nat} {x y : Int32} (hN3 : N 3 = nI sn) (hs : sn ≤ 12) (q1 : ¬ (¬ x < 0 ∧ (0 ≤ y ∧ y ≤ nI 1)) → Q (some (.int (-1))) (hM h m F N S A T R)) (q2 : (¬ x < 0 ∧ (0 ≤ y ∧ y ≤ nI 1)) → nI sn ≤ x → Q (some (.int (-4))) (hM h m F N S A T R)) (q3 : ∀ i j : Nat, x = nI i → y = nI j → i < sn → j < 2 → Q (some (.int (N (188 + 2 * i + j)))) (hM h m F N S A T R)) : Ex ω M9_step 0 [some (.ref m), some (.int x), some (.int y)] [] (hM h m F N S A T R) 0 0 Q := by
  refine B9_step_0 hw (fun z => B9_step_14 hw (q1 (fun c => c.1 z))) (fun z => ?_)
  refine B9_step_4 hw (t9_in hw (lo := 0) (hi := nI 1) rfl rfl (fun a1 a2 => ?_) (fun a => ?_))
  · refine B9_step_11 hw (fun _ => ?_) (fun c => absurd c (by decide))
    obtain ⟨i, hi, rfl⟩ := nI_of z
    obtain ⟨j, rfl, -, hj⟩ := bd_of (lo := 0) (hi := 1) (by omega) (by omega) a1 a2
    refine B9_step_16 hw ml.1 (fun c => ?_) (fun c => ?_)
    · simp (disch := omega) only [gr_hM, gs_hM, ml.2.1, ml.2.2.1, ml.2.2.2.1, ml.2.2.2.2.1, ml.2.2.2.2.2, hM_F, hM_N, hM_S, hM_A, hM_T, hM_R, hM_sF, hM_sN, hM_sS, hM_sA, hM_sT, hM_sR, pk_mul, nI_add, nI_clamp, upd_eq, upd_ne] at c
      rw [hN3] at c
      exact B9_step_43 hw (B9_step_45 hw (q2 ⟨z, a1, a2⟩ c))
    · simp (disch := omega) only [gr_hM, gs_hM, ml.2.1, ml.2.2.1, ml.2.2.2.1, ml.2.2.2.2.1, ml.2.2.2.2.2, hM_F, hM_N, hM_S, hM_A, hM_T, hM_R, hM_sF, hM_sN, hM_sS, hM_sA, hM_sT, hM_sR, pk_mul, nI_add, nI_clamp, upd_eq, upd_ne] at c
      rw [hN3, nI_leI (by omega) (by omega)] at c
      refine B9_step_26 hw ml.1 (by simp only [pk_mul, nI_add]; exact vp_in_nI (by omega) (by omega)) ?_
      simp (disch := omega) only [gr_hM, gs_hM, ml.2.1, ml.2.2.1, ml.2.2.2.1, ml.2.2.2.2.1, ml.2.2.2.2.2, hM_F, hM_N, hM_S, hM_A, hM_T, hM_R, hM_sF, hM_sN, hM_sS, hM_sA, hM_sT, hM_sR, pk_mul, nI_add, nI_clamp, upd_eq, upd_ne]
      exact B9_step_45 hw (q3 i j rfl rfl (by omega) (by omega))
  · exact B9_step_11 hw (fun c => absurd rfl c) (fun _ => B9_step_14 hw (q1 (fun c => a c.2)))
theorem t9_total {ω : Om} {h : AH} {m : Nat} {F N S A T R : Nat → Int32} {Q : Option Value → AH → Prop} (hw : ω.2.2.2.1 = true) (ml : ML h m) {x : Int32} (q1 : ¬ (0 ≤ x ∧ x ≤ nI 9) → Q (some (.int (-1))) (hM h m F N S A T R)) (q2 : ∀ j : Nat, x = nI j → j < 10 → Q (some (.int (N (8 + j)))) (hM h m F N S A T R)) : Ex ω M9_total 0 [some (.ref m), some (.int x)] [] (hM h m F N S A T R) 0 0 Q := by
  refine B9_total_0 hw (t9_in hw (lo := 0) (hi := nI 9) rfl rfl (fun a1 a2 => ?_) (fun a => ?_))
  · refine B9_total_9 hw (fun c => absurd c (by decide)) (fun _ => ?_)
    obtain ⟨j, rfl, -, hj⟩ := bd_of (lo := 0) (hi := 9) (by omega) (by omega) a1 a2
    refine B9_total_12 hw ml.1 (by rw [nI_add]; exact vp_in_nI (by omega) (by omega)) ?_
    simp (disch := omega) only [gr_hM, gs_hM, ml.2.1, ml.2.2.1, ml.2.2.2.1, ml.2.2.2.2.1, ml.2.2.2.2.2, hM_F, hM_N, hM_S, hM_A, hM_T, hM_R, hM_sF, hM_sN, hM_sS, hM_sA, hM_sT, hM_sR, pk_mul, nI_add, nI_clamp, upd_eq, upd_ne]
    exact B9_total_25 hw (q2 j rfl (by omega))
  · exact B9_total_9 hw (fun _ => B9_total_24 hw (B9_total_25 hw (q1 a))) (fun c => absurd rfl c)
def weightR (N : Nat → Int32) : Int64 := (1000000000 : Int64) * Int32.toInt64 (N 19) + Int32.toInt64 (N 18)
theorem t9_weight {ω : Om} {h : AH} {m : Nat} {F N S A T R : Nat → Int32} {Q : Option Value → AH → Prop} (hw : ω.2.2.2.1 = true) (ml : ML h m) (hq : Q (some (.long (weightR N))) (hM h m F N S A T R)) : Ex ω M9_weight 0 [some (.ref m)] [] (hM h m F N S A T R) 0 0 Q := by
  refine B9_weight_0 hw ml.1 ?_
  simp (disch := omega) only [gr_hM, gs_hM, ml.2.1, ml.2.2.1, ml.2.2.2.1, ml.2.2.2.2.1, ml.2.2.2.2.2, hM_F, hM_N, hM_S, hM_A, hM_T, hM_R, hM_sF, hM_sN, hM_sS, hM_sA, hM_sT, hM_sR, pk_mul, nI_add, nI_clamp, upd_eq, upd_ne]
  exact hq
/-- where a kept pallet lies -/
def keptB (dn i : Nat) : Nat := 212 + 64 * ((dn - 1 - i) % 6)
theorem t9_keptAt {ω : Om} {h : AH} {m : Nat} {F N S A T R : Nat → Int32} {Q : Option Value → AH → Prop} (hw : ω.2.2.2.1 = true) (ml : ML h m) {dn i : Nat} (hN7 : N 7 = nI dn) (hd : dn < 2 ^ 30) (hi : i < 2 ^ 31) (q1 : i < dn → i < 6 → Q (some (.int (nI (keptB dn i)))) (hM h m F N S A T R)) (q0 : ¬ (i < dn ∧ i < 6) → Q (some (.int (-1))) (hM h m F N S A T R)) : Ex ω M9_keptAt 0 [some (.ref m), some (.int (nI i))] [] (hM h m F N S A T R) 0 0 Q := by
  refine B9_keptAt_0 hw ml.1 ?_
  simp (disch := omega) only [gr_hM, gs_hM, ml.2.1, ml.2.2.1, ml.2.2.2.1, ml.2.2.2.2.1, ml.2.2.2.2.2, hM_F, hM_N, hM_S, hM_A, hM_T, hM_R, hM_sF, hM_sN, hM_sS, hM_sA, hM_sT, hM_sR, pk_mul, nI_add, nI_clamp, upd_eq, upd_ne]
  rw [hN7]
  refine t9_lesser hw ?_
  have e : lesser (nI dn) (nI 6) = nI (min dn 6) := by
    unfold lesser
    by_cases z : dn < 6
    · rw [if_pos (nI_lt z (by omega)), Nat.min_eq_left (by omega)]
    · rw [if_neg (nI_nlt (by omega) (by omega)), Nat.min_eq_right (by omega)]
  rw [e]
  refine B9_keptAt_13 hw (fun z => ?_) (fun z => ?_)
  · rw [nI_leI (by omega) (by omega)] at z
    exact B9_keptAt_40 hw (B9_keptAt_41 hw (q0 (by omega)))
  · rw [nI_leI (by omega) (by omega)] at z
    refine B9_keptAt_16 hw ml.1 ?_
    simp (disch := omega) only [gr_hM, gs_hM, ml.2.1, ml.2.2.1, ml.2.2.2.1, ml.2.2.2.2.1, ml.2.2.2.2.2, hM_F, hM_N, hM_S, hM_A, hM_T, hM_R, hM_sF, hM_sN, hM_sS, hM_sA, hM_sT, hM_sR, pk_mul, nI_add, nI_clamp, upd_eq, upd_ne]
    rw [hN7, pk_sub (by omega), pk_sub (by omega), pk_rem (by omega) (by omega) (by omega)]
    simp (disch := omega) only [gr_hM, gs_hM, ml.2.1, ml.2.2.1, ml.2.2.2.1, ml.2.2.2.2.1, ml.2.2.2.2.2, hM_F, hM_N, hM_S, hM_A, hM_T, hM_R, hM_sF, hM_sN, hM_sS, hM_sA, hM_sT, hM_sR, pk_mul, nI_add, nI_clamp, upd_eq, upd_ne]
    exact B9_keptAt_41 hw (q1 (by omega) (by omega))
theorem t9_done {ω : Om} {h : AH} {m : Nat} {F N S A T R : Nat → Int32} {Q : Option Value → AH → Prop} (hw : ω.2.2.2.1 = true) (ml : ML h m) {dn : Nat} {x y : Int32} (hN7 : N 7 = nI dn) (hd : dn < 2 ^ 30) (q1 : ¬ (¬ x < 0 ∧ (0 ≤ y ∧ y ≤ nI 12)) → Q (some (.int (-1))) (hM h m F N S A T R)) (q2 : ∀ i : Nat, x = nI i → i < 2 ^ 31 → (0 ≤ y ∧ y ≤ nI 12) → ¬ (i < dn ∧ i < 6) → Q (some (.int (-4))) (hM h m F N S A T R)) (q3 : ∀ i j : Nat, x = nI i → y = nI j → i < dn → i < 6 → j ≤ 12 → Q (some (.int (N (keptB dn i + j)))) (hM h m F N S A T R)) : Ex ω M9_done 0 [some (.ref m), some (.int x), some (.int y), none] [] (hM h m F N S A T R) 0 0 Q := by
  refine B9_done_0 hw (fun z => B9_done_16 hw (q1 (fun c => c.1 z))) (fun z => ?_)
  refine B9_done_4 hw (t9_in hw (lo := 0) (hi := nI 12) rfl rfl (fun a1 a2 => ?_) (fun a => ?_))
  · refine B9_done_13 hw (fun _ => ?_) (fun c => absurd c (by decide))
    obtain ⟨i, hi, rfl⟩ := nI_of z
    obtain ⟨j, rfl, -, hj⟩ := bd_of (lo := 0) (hi := 12) (by omega) (by omega) a1 a2
    refine B9_done_18 hw ml.1 (t9_keptAt hw ml hN7 hd hi (fun k1 k2 => ?_) (fun k0 => ?_))
    · have hb : keptB dn i < 533 := by unfold keptB; omega
      refine B9_done_23 hw (fun _ => ?_) (fun c => absurd (nI_pos' (by omega)) c)
      refine B9_done_33 hw ml.1 (by rw [nI_add]; exact vp_in_nI (by omega) (by omega)) ?_
      simp (disch := omega) only [gr_hM, gs_hM, ml.2.1, ml.2.2.1, ml.2.2.2.1, ml.2.2.2.2.1, ml.2.2.2.2.2, hM_F, hM_N, hM_S, hM_A, hM_T, hM_R, hM_sF, hM_sN, hM_sS, hM_sA, hM_sT, hM_sR, pk_mul, nI_add, nI_clamp, upd_eq, upd_ne]
      exact B9_done_41 hw (q3 i j rfl rfl k1 k2 hj)
    · refine B9_done_23 hw (fun c => absurd c (by decide)) (fun _ => ?_)
      exact B9_done_28 hw (B9_done_41 hw (q2 i rfl hi ⟨a1, a2⟩ k0))
  · exact B9_done_13 hw (fun c => absurd rfl c) (fun _ => B9_done_16 hw (q1 (fun c => a c.2)))
theorem t9_zone {ω : Om} {h : AH} {m : Nat} {F N S A T R : Nat → Int32} {Q : Option Value → AH → Prop} (hw : ω.2.2.2.1 = true) (ml : ML h m) (hs1 : gs h (m + 1) = some (10, 596)) {dn : Nat} {x z y : Int32} (hN7 : N 7 = nI dn) (hd : dn < 2 ^ 30) (hz : ∀ i, i < dn → i < 6 → ∃ zn, N (keptB dn i + 12) = nI zn ∧ zn ≤ 25) (q1 : ¬ (¬ x < 0 ∧ ¬ z < 0 ∧ (0 ≤ y ∧ y ≤ nI 1)) → Q (some (.int (-1))) (hM h m F N S A T R)) (q2 : ∀ i : Nat, x = nI i → i < 2 ^ 31 → ¬ z < 0 → (0 ≤ y ∧ y ≤ nI 1) → ¬ (i < dn ∧ i < 6 ∧ z < N (keptB dn i + 12)) → Q (some (.int (-4))) (hM h m F N S A T R)) (q3 : ∀ i k j : Nat, x = nI i → z = nI k → y = nI j → i < dn → i < 6 → z < N (keptB dn i + 12) → k < 25 → j ≤ 1 → Q (some (.int (N (keptB dn i + (if j = 0 then 13 else 38) + k)))) (hM h m F N S A T R)) : Ex ω M9_zone 0 [some (.ref m), some (.int x), some (.int z), some (.int y), none] [] (hM h m F N S A T R) 0 0 Q := by
  refine B9_zone_0 hw (fun c0 => B9_zone_18 hw (q1 (fun c => c.1 c0))) (fun c0 => ?_)
  refine B9_zone_4 hw (fun c1 => B9_zone_18 hw (q1 (fun c => c.2.1 c1))) (fun c1 => ?_)
  refine B9_zone_8 hw (t9_in hw (lo := 0) (hi := nI 1) rfl rfl (fun a1 a2 => ?_) (fun a => ?_))
  · refine B9_zone_15 hw (fun _ => ?_) (fun c => absurd c (by decide))
    obtain ⟨i, hi, rfl⟩ := nI_of c0
    obtain ⟨k, hk, rfl⟩ := nI_of c1
    obtain ⟨j, rfl, -, hj⟩ := bd_of (lo := 0) (hi := 1) (by omega) (by omega) a1 a2
    refine B9_zone_20 hw ml.1 (t9_keptAt hw ml hN7 hd hi (fun k1 k2 => ?_) (fun k0 => ?_))
    · have hb : keptB dn i < 533 := by unfold keptB; omega
      obtain ⟨zn, hzn, hz25⟩ := hz i k1 k2
      refine B9_zone_25 hw (fun c => absurd c (nI_pos (by omega))) (fun _ => ?_)
      refine B9_zone_32 hw ml.1 (by rw [nI_add]; exact vp_in_nI (by omega) (by omega)) (fun c2 => ?_) (fun c2 => ?_)
      · simp (disch := omega) only [gr_hM, gs_hM, ml.2.1, ml.2.2.1, ml.2.2.2.1, ml.2.2.2.2.1, ml.2.2.2.2.2, hM_F, hM_N, hM_S, hM_A, hM_T, hM_R, hM_sF, hM_sN, hM_sS, hM_sA, hM_sT, hM_sR, pk_mul, nI_add, nI_clamp, upd_eq, upd_ne] at c2
        have c3 := c2
        rw [hzn, nI_ltI (by omega) (by omega)] at c3
        refine B9_zone_51 hw ml.1 (fun c4 => ?_) (fun c4 => ?_)
        · rw [show (0 : Int32) = nI 0 from rfl, nI_eq (by omega) (by omega)] at c4
          refine B9_zone_66 hw (B9_zone_68 hw (ny0 := 596) (by simp (disch := omega) only [gr_hM, gs_hM, ml.2.1, ml.2.2.1, ml.2.2.2.1, ml.2.2.2.2.1, ml.2.2.2.2.2, hM_F, hM_N, hM_S, hM_A, hM_T, hM_R, hM_sF, hM_sN, hM_sS, hM_sA, hM_sT, hM_sR, pk_mul, nI_add, nI_clamp, upd_eq, upd_ne]; exact hs1) (by simp only [nI_add]; exact vp_in_nI (by omega) (by omega)) ?_)
          simp (disch := omega) only [gr_hM, gs_hM, ml.2.1, ml.2.2.1, ml.2.2.2.1, ml.2.2.2.2.1, ml.2.2.2.2.2, hM_F, hM_N, hM_S, hM_A, hM_T, hM_R, hM_sF, hM_sN, hM_sS, hM_sA, hM_sT, hM_sR, pk_mul, nI_add, nI_clamp, upd_eq, upd_ne]
          have q := q3 i k j rfl rfl rfl k1 k2 c2 (by omega) hj
          rw [if_neg c4] at q
          exact B9_zone_72 hw q
        · rw [show (0 : Int32) = nI 0 from rfl, nI_eq (by omega) (by omega)] at c4
          refine B9_zone_61 hw (B9_zone_68 hw (ny0 := 596) (by simp (disch := omega) only [gr_hM, gs_hM, ml.2.1, ml.2.2.1, ml.2.2.2.1, ml.2.2.2.2.1, ml.2.2.2.2.2, hM_F, hM_N, hM_S, hM_A, hM_T, hM_R, hM_sF, hM_sN, hM_sS, hM_sA, hM_sT, hM_sR, pk_mul, nI_add, nI_clamp, upd_eq, upd_ne]; exact hs1) (by simp only [nI_add]; exact vp_in_nI (by omega) (by omega)) ?_)
          simp (disch := omega) only [gr_hM, gs_hM, ml.2.1, ml.2.2.1, ml.2.2.2.1, ml.2.2.2.2.1, ml.2.2.2.2.2, hM_F, hM_N, hM_S, hM_A, hM_T, hM_R, hM_sF, hM_sN, hM_sS, hM_sA, hM_sT, hM_sR, pk_mul, nI_add, nI_clamp, upd_eq, upd_ne]
          have q := q3 i k j rfl rfl rfl k1 k2 c2 (by omega) hj
          rw [if_pos c4] at q
          exact B9_zone_72 hw q
      · simp (disch := omega) only [gr_hM, gs_hM, ml.2.1, ml.2.2.1, ml.2.2.2.1, ml.2.2.2.2.1, ml.2.2.2.2.2, hM_F, hM_N, hM_S, hM_A, hM_T, hM_R, hM_sF, hM_sN, hM_sS, hM_sA, hM_sT, hM_sR, pk_mul, nI_add, nI_clamp, upd_eq, upd_ne] at c2
        exact B9_zone_46 hw (B9_zone_72 hw (q2 i rfl hi c1 ⟨a1, a2⟩ (fun y => c2 y.2.2)))
    · refine B9_zone_25 hw (fun _ => ?_) (fun c => absurd (by decide) c)
      exact B9_zone_46 hw (B9_zone_72 hw (q2 i rfl hi c1 ⟨a1, a2⟩ (fun y => k0 ⟨y.1, y.2.1⟩)))
  · exact B9_zone_15 hw (fun c => absurd rfl c) (fun _ => B9_zone_18 hw (q1 (fun c => a c.2.2)))
