/-! the model: a turn -/
abbrev covP (y z : Nat) : Prop := 10 * z < y + 50 ∧ y < 10 * z + 10
theorem t9_covers {ω : Om} {h : AH} {m : Nat} {F N S A T R : Nat → Int32} {Q : Option Value → AH → Prop} (hw : ω.2.2.2.1 = true) (ml : ML h m) {y z : Nat} (hy : y < 2 ^ 20) (hz : z < 2 ^ 20) (q1 : covP y z → Q (some (.int 1)) (hM h m F N S A T R)) (q0 : ¬ covP y z → Q (some (.int 0)) (hM h m F N S A T R)) : Ex ω M9_covers 0 [some (.ref m), some (.int (nI y)), some (.int (nI z))] [] (hM h m F N S A T R) 0 0 Q := by
  refine B9_covers_0 hw (fun c => ?_) (fun c => ?_)
  · rw [pk_mul, nI_add, nI_leI (by omega) (by omega)] at c
    exact B9_covers_26 hw (B9_covers_27 hw rfl (q0 (fun z => by omega)))
  · rw [pk_mul, nI_add, nI_leI (by omega) (by omega)] at c
    refine B9_covers_11 hw (fun c2 => ?_) (fun c2 => ?_)
    · rw [pk_mul, nI_add, nI_leI (by omega) (by omega)] at c2
      exact B9_covers_26 hw (B9_covers_27 hw rfl (q0 (fun z => by omega)))
    · rw [pk_mul, nI_add, nI_leI (by omega) (by omega)] at c2
      exact B9_covers_22 hw (B9_covers_27 hw rfl (q1 (by omega)))
/-- the greatest force over the covered zones -/
def mostW (N : Nat → Int32) (e y : Nat) : Nat → Nat
  | 0 => 0
  | i + 1 => if covP y i ∧ mostW N e y i < nn (N (e + 38 + i)) then nn (N (e + 38 + i)) else mostW N e y i
def tB (lim most ten : Nat) : Nat := min ten ((100 * (lim - most) + 99) / 141)
def FoOk (N : Nat → Int32) (e z lim : Nat) : Prop := ∀ i, i < z → ∃ v : Nat, N (e + 38 + i) = nI v ∧ v ≤ lim
theorem mostW_le {N : Nat → Int32} {e y z lim : Nat} (hl : lim ≤ 5000) (h : FoOk N e z lim) : ∀ i, i ≤ z → mostW N e y i ≤ lim := by
  intro i
  induction i with
  | zero => intro _; exact Nat.zero_le _
  | succ i ih =>
    intro hi
    obtain ⟨v, hv, hv2⟩ := h i (by omega)
    show (if covP y i ∧ mostW N e y i < nn (N (e + 38 + i)) then nn (N (e + 38 + i)) else mostW N e y i) ≤ lim
    rw [hv, nn_nI (by omega)]
    split
    · exact hv2
    · exact ih (by omega)
theorem tB_le (lim most ten : Nat) : tB lim most ten ≤ ten := Nat.min_le_left _ _
theorem tB_force {lim most ten t : Nat} (hm : most ≤ lim) (ht : t ≤ ten) : most + t * 141 / 100 ≤ lim ↔ t ≤ tB lim most ten := by
  unfold tB
  omega
theorem forceF_nI {t : Nat} (ht : t ≤ 1000) : forceF (nI t) = nI (t * 141 / 100) := by
  unfold forceF
  rw [pk_mul]
  exact pk_div (a := t * 141) (d := 100) (by omega) (by omega) (by omega)
theorem t9_bearable {ω : Om} {h : AH} {m : Nat} {F N S A T R : Nat → Int32} {Q : Option Value → AH → Prop} (hw : ω.2.2.2.1 = true) (ml : ML h m) {e z y lim ten : Nat} (hE : F 9 = nI e) (he1 : 212 ≤ e) (he2 : e ≤ 532) (hZ : F 12 = nI z) (hz : z ≤ 25) (hY : F 14 = nI y) (hy : y ≤ 1000) (hL : F 11 = nI lim) (hl : lim ≤ 5000) (hT : F 15 = nI ten) (ht : ten ≤ 1000) (fo : FoOk N e z lim) (hq : Q (some (.int (nI (tB lim (mostW N e y z) ten)))) (hM h m F N S A T R)) : Ex ω M9_bearable 0 [some (.ref m), none, none] [] (hM h m F N S A T R) 0 0 Q := by
  refine B9_bearable_0 hw ?_
  have l2 : ∀ (mo : Nat), mo ≤ lim → ∀ d t : Nat, t = tB lim mo ten + d → t ≤ ten → Q (some (.int (nI (tB lim mo ten)))) (hM h m F N S A T R) → Ex ω M9_bearable 72 [some (.ref m), some (.int (nI mo)), some (.int (nI t))] [] (hM h m F N S A T R) 0 0 Q := by
    intro mo hmo d
    induction d with
    | zero =>
      intro t e0 htt hq
      have tl := tB_le lim mo ten
      refine B9_bearable_72 hw (fun c => ?_) (fun c => ?_)
      · exact B9_bearable_95 hw (by rw [e0]; exact hq)
      · refine B9_bearable_76 hw (t9_forceOf hw ?_)
        refine B9_bearable_81 hw ml.1 (fun c2 => ?_) (fun c2 => ?_)
        · exact B9_bearable_95 hw (by rw [e0]; exact hq)
        · rw [forceF_nI (by omega)] at c2
          simp (disch := omega) only [gr_hM, gs_hM, ml.2.1, ml.2.2.1, ml.2.2.2.1, ml.2.2.2.2.1, ml.2.2.2.2.2, hM_F, hM_N, hM_S, hM_A, hM_T, hM_R, hM_sF, hM_sN, hM_sS, hM_sA, hM_sT, hM_sR, pk_mul, nI_add, nI_clamp, upd_eq, upd_ne] at c2
          rw [hL, nI_leI (by omega) (by omega), tB_force hmo htt] at c2
          omega
    | succ d ih =>
      intro t e0 htt hq
      have tl := tB_le lim mo ten
      refine B9_bearable_72 hw (fun c => ?_) (fun c => ?_)
      · rw [show (0 : Int32) = nI 0 from rfl, nI_leI (by omega) (by omega)] at c
        omega
      · refine B9_bearable_76 hw (t9_forceOf hw ?_)
        refine B9_bearable_81 hw ml.1 (fun c2 => ?_) (fun c2 => ?_)
        · rw [forceF_nI (by omega)] at c2
          simp (disch := omega) only [gr_hM, gs_hM, ml.2.1, ml.2.2.1, ml.2.2.2.1, ml.2.2.2.2.1, ml.2.2.2.2.2, hM_F, hM_N, hM_S, hM_A, hM_T, hM_R, hM_sF, hM_sN, hM_sS, hM_sA, hM_sT, hM_sR, pk_mul, nI_add, nI_clamp, upd_eq, upd_ne] at c2
          rw [hL, nI_leI (by omega) (by omega), tB_force hmo htt] at c2
          omega
        · refine B9_bearable_89 hw ?_
          obtain ⟨t', rfl⟩ : ∃ t', t = t' + 1 := ⟨t - 1, by omega⟩
          rw [pk_m1]
          exact ih t' (by omega) (by omega) hq
  have l1 : ∀ d i : Nat, i + d = z → Ex ω M9_bearable 4 [some (.ref m), some (.int (nI (mostW N e y i))), some (.int (nI i))] [] (hM h m F N S A T R) 0 0 Q := by
    intro d
    induction d with
    | zero =>
      intro i hi
      have := mostW_le (y := y) hl fo i (by omega)
      refine B9_bearable_4 hw ml.1 (fun _ => ?_) (fun c => ?_)
      · refine B9_bearable_67 hw ml.1 ?_
        simp (disch := omega) only [gr_hM, gs_hM, ml.2.1, ml.2.2.1, ml.2.2.2.1, ml.2.2.2.2.1, ml.2.2.2.2.2, hM_F, hM_N, hM_S, hM_A, hM_T, hM_R, hM_sF, hM_sN, hM_sS, hM_sA, hM_sT, hM_sR, pk_mul, nI_add, nI_clamp, upd_eq, upd_ne, hT]
        have ez : i = z := by omega
        subst ez
        exact l2 _ (by omega) (ten - tB lim (mostW N e y i) ten) ten (by have := tB_le lim (mostW N e y i) ten; omega) (Nat.le_refl _) hq
      · simp (disch := omega) only [gr_hM, gs_hM, ml.2.1, ml.2.2.1, ml.2.2.2.1, ml.2.2.2.2.1, ml.2.2.2.2.2, hM_F, hM_N, hM_S, hM_A, hM_T, hM_R, hM_sF, hM_sN, hM_sS, hM_sA, hM_sT, hM_sR, pk_mul, nI_add, nI_clamp, upd_eq, upd_ne, hZ] at c
        exact absurd (nI_le (by omega) (by omega)) c
    | succ d ih =>
      intro i hi
      have := mostW_le (y := y) hl fo i (by omega)
      have ii := ih (i + 1) (by omega)
      obtain ⟨v, hv, hv2⟩ := fo i (by omega)
      refine B9_bearable_4 hw ml.1 (fun c => ?_) (fun _ => ?_)
      · simp (disch := omega) only [gr_hM, gs_hM, ml.2.1, ml.2.2.1, ml.2.2.2.1, ml.2.2.2.2.1, ml.2.2.2.2.2, hM_F, hM_N, hM_S, hM_A, hM_T, hM_R, hM_sF, hM_sN, hM_sS, hM_sA, hM_sT, hM_sR, pk_mul, nI_add, nI_clamp, upd_eq, upd_ne, hZ] at c
        exact absurd c (nI_ge (by omega) (by omega))
      · refine B9_bearable_12 hw ml.1 ?_
        simp (disch := omega) only [gr_hM, gs_hM, ml.2.1, ml.2.2.1, ml.2.2.2.1, ml.2.2.2.2.1, ml.2.2.2.2.2, hM_F, hM_N, hM_S, hM_A, hM_T, hM_R, hM_sF, hM_sN, hM_sS, hM_sA, hM_sT, hM_sR, pk_mul, nI_add, nI_clamp, upd_eq, upd_ne, hY]
        refine t9_covers hw ml (by omega) (by omega) (fun c => ?_) (fun c => ?_)
        · refine B9_bearable_21 hw (fun z => absurd z (by decide)) (fun _ => ?_)
          refine B9_bearable_24 hw ml.1 (by simp (disch := omega) only [gr_hM, gs_hM, ml.2.1, ml.2.2.1, ml.2.2.2.1, ml.2.2.2.2.1, ml.2.2.2.2.2, hM_F, hM_N, hM_S, hM_A, hM_T, hM_R, hM_sF, hM_sN, hM_sS, hM_sA, hM_sT, hM_sR, pk_mul, nI_add, nI_clamp, upd_eq, upd_ne, hE]; exact vp_in_nI (by omega) (by omega)) (fun c2 => ?_) (fun c2 => ?_)
          · simp (disch := omega) only [gr_hM, gs_hM, ml.2.1, ml.2.2.1, ml.2.2.2.1, ml.2.2.2.2.1, ml.2.2.2.2.2, hM_F, hM_N, hM_S, hM_A, hM_T, hM_R, hM_sF, hM_sN, hM_sS, hM_sA, hM_sT, hM_sR, pk_mul, nI_add, nI_clamp, upd_eq, upd_ne, hE, hv] at c2
            rw [nI_leI (by omega) (by omega)] at c2
            refine B9_bearable_59 hw (B9_bearable_60 hw ?_)
            rw [show mostW N e y (i + 1) = mostW N e y i from if_neg (by rw [hv, nn_nI (by omega)]; omega)] at ii
            rw [nI_add]
            exact ii
          · simp (disch := omega) only [gr_hM, gs_hM, ml.2.1, ml.2.2.1, ml.2.2.2.1, ml.2.2.2.2.1, ml.2.2.2.2.2, hM_F, hM_N, hM_S, hM_A, hM_T, hM_R, hM_sF, hM_sN, hM_sS, hM_sA, hM_sT, hM_sR, pk_mul, nI_add, nI_clamp, upd_eq, upd_ne, hE, hv] at c2
            rw [nI_leI (by omega) (by omega)] at c2
            refine B9_bearable_42 hw ml.1 (by simp (disch := omega) only [gr_hM, gs_hM, ml.2.1, ml.2.2.1, ml.2.2.2.1, ml.2.2.2.2.1, ml.2.2.2.2.2, hM_F, hM_N, hM_S, hM_A, hM_T, hM_R, hM_sF, hM_sN, hM_sS, hM_sA, hM_sT, hM_sR, pk_mul, nI_add, nI_clamp, upd_eq, upd_ne, hE]; exact vp_in_nI (by omega) (by omega)) (B9_bearable_60 hw ?_)
            rw [show mostW N e y (i + 1) = v from (if_pos (by rw [hv, nn_nI (by omega)]; exact ⟨c, by omega⟩)).trans (by rw [hv, nn_nI (by omega)])] at ii
            simp (disch := omega) only [gr_hM, gs_hM, ml.2.1, ml.2.2.1, ml.2.2.2.1, ml.2.2.2.2.1, ml.2.2.2.2.2, hM_F, hM_N, hM_S, hM_A, hM_T, hM_R, hM_sF, hM_sN, hM_sS, hM_sA, hM_sT, hM_sR, pk_mul, nI_add, nI_clamp, upd_eq, upd_ne, hE, hv]
            exact ii
        · refine B9_bearable_21 hw (fun _ => ?_) (fun z => absurd rfl z)
          refine B9_bearable_59 hw (B9_bearable_60 hw ?_)
          rw [show mostW N e y (i + 1) = mostW N e y i from if_neg (fun z => c z.1)] at ii
          rw [nI_add]
          exact ii
  exact l1 z 0 (by omega)

def addC (f : Nat → Int32) (i : Nat) (v : Int32) : Nat → Int32 := upd f i (f i + v)
def wastesN (N : Nat → Int32) (e tt : Nat) (v : Int32) : Nat → Int32 := addC (addC (addC N (8 + tt) v) 8 v) (e + 5) v
def lastsN (N : Nat → Int32) (e : Nat) (v : Int32) : Nat → Int32 := addC (addC N (e + 10) v) 6 v
theorem t9_wastes {ω : Om} {h : AH} {m : Nat} {F N S A T R : Nat → Int32} {Q : Option Value → AH → Prop} (hw : ω.2.2.2.1 = true) (ml : ML h m) {e tt : Nat} {v : Int32} (hE : F 9 = nI e) (he1 : 212 ≤ e) (he2 : e ≤ 532) (ht : 1 ≤ tt) (ht2 : tt ≤ 9) (hq : Q none (hM h m F (wastesN N e tt v) S A T R)) : Ex ω M9_wastes 0 [some (.ref m), some (.int (nI tt)), some (.int v)] [] (hM h m F N S A T R) 0 0 Q := by
  have hin : vp_in (nI 8 + nI tt) 596 := by rw [nI_add]; exact vp_in_nI (by omega) (by omega)
  unfold wastesN addC at hq
  refine B9_wastes_0 hw ml.1 hin hin ?_
  simp (disch := omega) only [gr_hM, gs_hM, ml.2.1, ml.2.2.1, ml.2.2.2.1, ml.2.2.2.2.1, ml.2.2.2.2.2, hM_F, hM_N, hM_S, hM_A, hM_T, hM_R, hM_sF, hM_sN, hM_sS, hM_sA, hM_sT, hM_sR, pk_mul, nI_add, nI_clamp, upd_eq, upd_ne]
  have hin2 : vp_in (gi (hM h m F (upd (upd N (8 + tt) (N (8 + tt) + v)) 8 (N 8 + v)) S A T R) m 9 + nI 5) 596 := by simp (disch := omega) only [gr_hM, gs_hM, ml.2.1, ml.2.2.1, ml.2.2.2.1, ml.2.2.2.2.1, ml.2.2.2.2.2, hM_F, hM_N, hM_S, hM_A, hM_T, hM_R, hM_sF, hM_sN, hM_sS, hM_sA, hM_sT, hM_sR, pk_mul, nI_add, nI_clamp, upd_eq, upd_ne, hE]; exact vp_in_nI (by omega) (by omega)
  refine B9_wastes_24 hw ml.1 hin2 hin2 (B9_wastes_39 hw ?_)
  simp (disch := omega) only [gr_hM, gs_hM, ml.2.1, ml.2.2.1, ml.2.2.2.1, ml.2.2.2.2.1, ml.2.2.2.2.2, hM_F, hM_N, hM_S, hM_A, hM_T, hM_R, hM_sF, hM_sN, hM_sS, hM_sA, hM_sT, hM_sR, pk_mul, nI_add, nI_clamp, upd_eq, upd_ne, hE]
  simp (disch := omega) only [gr_hM, gs_hM, ml.2.1, ml.2.2.1, ml.2.2.2.1, ml.2.2.2.2.1, ml.2.2.2.2.2, hM_F, hM_N, hM_S, hM_A, hM_T, hM_R, hM_sF, hM_sN, hM_sS, hM_sA, hM_sT, hM_sR, pk_mul, nI_add, nI_clamp, upd_eq, upd_ne] at hq
  exact hq
theorem t9_lasts {ω : Om} {h : AH} {m : Nat} {F N S A T R : Nat → Int32} {Q : Option Value → AH → Prop} (hw : ω.2.2.2.1 = true) (ml : ML h m) {e : Nat} {v : Int32} (hE : F 9 = nI e) (he1 : 212 ≤ e) (he2 : e ≤ 532) (hq : Q none (hM h m F (lastsN N e v) S A T R)) : Ex ω M9_lasts 0 [some (.ref m), some (.int v)] [] (hM h m F N S A T R) 0 0 Q := by
  have hin : vp_in (gi (hM h m F N S A T R) m 9 + nI 10) 596 := by simp (disch := omega) only [gr_hM, gs_hM, ml.2.1, ml.2.2.1, ml.2.2.2.1, ml.2.2.2.2.1, ml.2.2.2.2.2, hM_F, hM_N, hM_S, hM_A, hM_T, hM_R, hM_sF, hM_sN, hM_sS, hM_sA, hM_sT, hM_sR, pk_mul, nI_add, nI_clamp, upd_eq, upd_ne, hE]; exact vp_in_nI (by omega) (by omega)
  unfold lastsN addC at hq
  refine B9_lasts_0 hw ml.1 hin hin (B9_lasts_16 hw (by exact ml.1) ?_)
  simp (disch := omega) only [gr_hM, gs_hM, ml.2.1, ml.2.2.1, ml.2.2.2.1, ml.2.2.2.2.1, ml.2.2.2.2.2, hM_F, hM_N, hM_S, hM_A, hM_T, hM_R, hM_sF, hM_sN, hM_sS, hM_sA, hM_sT, hM_sR, pk_mul, nI_add, nI_clamp, upd_eq, upd_ne, hE]
  simp (disch := omega) only [gr_hM, gs_hM, ml.2.1, ml.2.2.1, ml.2.2.2.1, ml.2.2.2.2.1, ml.2.2.2.2.2, hM_F, hM_N, hM_S, hM_A, hM_T, hM_R, hM_sF, hM_sN, hM_sS, hM_sA, hM_sT, hM_sR, pk_mul, nI_add, nI_clamp, upd_eq, upd_ne] at hq
  exact hq
/-- the film breaks at p -/
def breaksN (N : Nat → Int32) (e : Nat) (p : Int32) : Nat → Int32 := lastsN (addC (addC (upd (wastesN (wastesN N e 3 (p - N 22)) e 4 (lesser (N 4) (N 20 - p))) 22 (p + lesser (N 4) (N 20 - p))) 13 (nI 1)) (e + 6) (nI 1)) e (nI 40)
theorem t9_breaks {ω : Om} {h : AH} {m : Nat} {F N S A T R : Nat → Int32} {Q : Option Value → AH → Prop} (hw : ω.2.2.2.1 = true) (ml : ML h m) {e w : Nat} (hE : F 9 = nI e) (he1 : 212 ≤ e) (he2 : e ≤ 532) (hw8 : w < 8) (q1 : ¬ breaksN N e (N (24 + w)) (e + 6) ≤ breaksN N e (N (24 + w)) 5 → Q (some (.int 1)) (hM h m F (breaksN N e (N (24 + w))) S A T R)) (q0 : breaksN N e (N (24 + w)) (e + 6) ≤ breaksN N e (N (24 + w)) 5 → Q (some (.int 0)) (hM h m F (breaksN N e (N (24 + w))) S A T R)) : Ex ω M9_breaks 0 [some (.ref m), some (.int (nI w)), none, none] [] (hM h m F N S A T R) 0 0 Q := by
  refine B9_breaks_0 hw ml.1 ?_
  rw [nI_add]
  refine t9_rollAt hw ml (i := 0) (by omega) (by omega) ?_
  rw [show 20 + 20 * 0 + (4 + w) = 24 + w from by omega]
  generalize N (24 + w) = p at q1 q0 ⊢
  refine B9_breaks_8 hw ml.1 (t9_rollAt hw ml (i := 0) (by omega) (by omega) ?_)
  refine B9_breaks_18 hw ml.1 (t9_wastes hw ml hE he1 he2 (by omega) (by omega) ?_)
  have e4 : wastesN N e 3 (p - N 22) 4 = N 4 := by unfold wastesN addC; simp (disch := omega) only [gr_hM, gs_hM, ml.2.1, ml.2.2.1, ml.2.2.2.1, ml.2.2.2.2.1, ml.2.2.2.2.2, hM_F, hM_N, hM_S, hM_A, hM_T, hM_R, hM_sF, hM_sN, hM_sS, hM_sA, hM_sT, hM_sR, pk_mul, nI_add, nI_clamp, upd_eq, upd_ne]
  have e20 : wastesN N e 3 (p - N 22) 20 = N 20 := by unfold wastesN addC; simp (disch := omega) only [gr_hM, gs_hM, ml.2.1, ml.2.2.1, ml.2.2.2.1, ml.2.2.2.2.1, ml.2.2.2.2.2, hM_F, hM_N, hM_S, hM_A, hM_T, hM_R, hM_sF, hM_sN, hM_sS, hM_sA, hM_sT, hM_sR, pk_mul, nI_add, nI_clamp, upd_eq, upd_ne]
  refine B9_breaks_22 hw ml.1 (t9_rollAt hw ml (i := 0) (by omega) (by omega) ?_)
  refine B9_breaks_34 hw (t9_lesser hw ?_)
  refine B9_breaks_39 hw ml.1 (t9_wastes hw ml hE he1 he2 (by omega) (by omega) ?_)
  simp (disch := omega) only [gr_hM, gs_hM, ml.2.1, ml.2.2.1, ml.2.2.2.1, ml.2.2.2.2.1, ml.2.2.2.2.2, hM_F, hM_N, hM_S, hM_A, hM_T, hM_R, hM_sF, hM_sN, hM_sS, hM_sA, hM_sT, hM_sR, pk_mul, nI_add, nI_clamp, upd_eq, upd_ne]
  rw [e4, show 20 + 20 * 0 + 0 = 20 from rfl, e20, show 20 + 20 * 0 + 2 = 22 from rfl]
  have hin : ∀ N', vp_in (gi (hM h m F N' S A T R) m 9 + nI 6) 596 := by intro N'; simp (disch := omega) only [gr_hM, gs_hM, ml.2.1, ml.2.2.1, ml.2.2.2.1, ml.2.2.2.2.1, ml.2.2.2.2.2, hM_F, hM_N, hM_S, hM_A, hM_T, hM_R, hM_sF, hM_sN, hM_sS, hM_sA, hM_sT, hM_sR, pk_mul, nI_add, nI_clamp, upd_eq, upd_ne, hE]; exact vp_in_nI (by omega) (by omega)
  have hin0 : vp_in (F 9 + nI 6) 596 := by rw [hE, nI_add]; exact vp_in_nI (by omega) (by omega)
  refine B9_breaks_46 hw ml.1 (by simp (disch := omega) only [gr_hM, gs_hM, ml.2.1, ml.2.2.1, ml.2.2.2.1, ml.2.2.2.2.1, ml.2.2.2.2.2, hM_F, hM_N, hM_S, hM_A, hM_T, hM_R, hM_sF, hM_sN, hM_sS, hM_sA, hM_sT, hM_sR, pk_mul, nI_add, nI_clamp, upd_eq, upd_ne]; exact hin0) (by simp (disch := omega) only [gr_hM, gs_hM, ml.2.1, ml.2.2.1, ml.2.2.2.1, ml.2.2.2.2.1, ml.2.2.2.2.2, hM_F, hM_N, hM_S, hM_A, hM_T, hM_R, hM_sF, hM_sN, hM_sS, hM_sA, hM_sT, hM_sR, pk_mul, nI_add, nI_clamp, upd_eq, upd_ne]; exact hin0) ?_
  simp (disch := omega) only [gr_hM, gs_hM, ml.2.1, ml.2.2.1, ml.2.2.2.1, ml.2.2.2.2.1, ml.2.2.2.2.2, hM_F, hM_N, hM_S, hM_A, hM_T, hM_R, hM_sF, hM_sN, hM_sS, hM_sA, hM_sT, hM_sR, pk_mul, nI_add, nI_clamp, upd_eq, upd_ne, hE]
  refine B9_breaks_83 hw ml.1 (t9_lasts hw ml hE he1 he2 ?_)
  unfold breaksN at q1 q0
  have en : upd (upd (upd (wastesN (wastesN N e 3 (p - N 22)) e 4 (lesser (N 4) (N 20 - p))) 22 (p + lesser (N 4) (N 20 - p))) 13 (wastesN (wastesN N e 3 (p - N 22)) e 4 (lesser (N 4) (N 20 - p)) 13 + nI 1)) (e + 6) (wastesN (wastesN N e 3 (p - N 22)) e 4 (lesser (N 4) (N 20 - p)) (e + 6) + nI 1) = addC (addC (upd (wastesN (wastesN N e 3 (p - N 22)) e 4 (lesser (N 4) (N 20 - p))) 22 (p + lesser (N 4) (N 20 - p))) 13 (nI 1)) (e + 6) (nI 1) := by unfold addC; simp (disch := omega) only [gr_hM, gs_hM, ml.2.1, ml.2.2.1, ml.2.2.2.1, ml.2.2.2.2.1, ml.2.2.2.2.2, hM_F, hM_N, hM_S, hM_A, hM_T, hM_R, hM_sF, hM_sN, hM_sS, hM_sA, hM_sT, hM_sR, pk_mul, nI_add, nI_clamp, upd_eq, upd_ne]
  rw [en]
  generalize lastsN (addC (addC (upd (wastesN (wastesN N e 3 (p - N 22)) e 4 (lesser (N 4) (N 20 - p))) 22 (p + lesser (N 4) (N 20 - p))) 13 (nI 1)) (e + 6) (nI 1)) e (nI 40) = X at *
  refine B9_breaks_89 hw ml.1 (hin X) (fun c => ?_) (fun c => ?_)
  · refine B9_breaks_114 hw (B9_breaks_115 hw rfl (q0 ?_))
    simp (disch := omega) only [gr_hM, gs_hM, ml.2.1, ml.2.2.1, ml.2.2.2.1, ml.2.2.2.2.1, ml.2.2.2.2.2, hM_F, hM_N, hM_S, hM_A, hM_T, hM_R, hM_sF, hM_sN, hM_sS, hM_sA, hM_sT, hM_sR, pk_mul, nI_add, nI_clamp, upd_eq, upd_ne, hE] at c
    exact c
  · refine B9_breaks_110 hw (B9_breaks_115 hw rfl (q1 ?_))
    simp (disch := omega) only [gr_hM, gs_hM, ml.2.1, ml.2.2.1, ml.2.2.2.1, ml.2.2.2.2.1, ml.2.2.2.2.2, hM_F, hM_N, hM_S, hM_A, hM_T, hM_R, hM_sF, hM_sN, hM_sS, hM_sA, hM_sT, hM_sR, pk_mul, nI_add, nI_clamp, upd_eq, upd_ne, hE] at c
    exact c

/-- a layer on the covered zones below k -/
def layZ (G : Nat → Int32) (e y k : Nat) (fo : Int32) : Nat → Int32 := fun j => if e + 13 ≤ j ∧ j < e + 13 + k ∧ covP y (j - (e + 13)) then G j + nI 1 else if e + 38 ≤ j ∧ j < e + 38 + k ∧ covP y (j - (e + 38)) then G j + fo else G j
theorem layZ_0 (G : Nat → Int32) (e y : Nat) (fo : Int32) : layZ G e y 0 fo = G := by
  funext j
  unfold layZ
  rw [if_neg (by omega), if_neg (by omega)]
theorem layZ_no {G : Nat → Int32} {e y k : Nat} {fo : Int32} (c : ¬ covP y k) : layZ G e y (k + 1) fo = layZ G e y k fo := by
  funext j
  unfold layZ
  have c1 : ∀ x, x = k → ¬ covP y x := fun x h => by rw [h]; exact c
  have c2 := c1 (j - (e + 13))
  have c3 := c1 (j - (e + 38))
  (repeat' split) <;> first | rfl | (exfalso; omega)
theorem layZ_yes {G : Nat → Int32} {e y k : Nat} {fo : Int32} (hk : k < 25) (c : covP y k) : upd (upd (layZ G e y k fo) (e + 13 + k) (layZ G e y k fo (e + 13 + k) + nI 1)) (e + 38 + k) (layZ G e y k fo (e + 38 + k) + fo) = layZ G e y (k + 1) fo := by
  funext j
  have a1 : layZ G e y k fo (e + 13 + k) = G (e + 13 + k) := by unfold layZ; rw [if_neg (by omega), if_neg (by omega)]
  have a2 : layZ G e y k fo (e + 38 + k) = G (e + 38 + k) := by unfold layZ; rw [if_neg (by omega), if_neg (by omega)]
  rw [a1, a2]
  by_cases z : j = e + 38 + k
  · subst z
    rw [upd_eq]
    unfold layZ
    rw [if_neg (by omega), if_pos ⟨by omega, by omega, by rw [show e + 38 + k - (e + 38) = k from by omega]; exact c⟩]
  rw [upd_ne _ _ z]
  by_cases z2 : j = e + 13 + k
  · subst z2
    rw [upd_eq]
    unfold layZ
    rw [if_pos ⟨by omega, by omega, by rw [show e + 13 + k - (e + 13) = k from by omega]; exact c⟩]
  rw [upd_ne _ _ z2]
  unfold layZ
  (repeat' split) <;> first | rfl | (exfalso; omega)
def laysG (N : Nat → Int32) (e need rnd : Nat) : Nat → Int32 := lastsN (addC (addC (addC (addC (addC (addC (addC N 22 (nI need)) 8 (nI need)) 9 (nI need)) 15 (nI 1)) (e + 2) (nI 1)) (e + 4) (nI need)) (e + 11) (nI need * N 21)) e (nI ((rnd + 39) / 40))

theorem t9_lays {ω : Om} {h : AH} {m : Nat} {F N S A T R : Nat → Int32} {Q : Option Value → AH → Prop} (hw : ω.2.2.2.1 = true) (ml : ML h m) (hs1 : gs h (m + 1) = some (10, 596)) {e z y rnd need t : Nat} (hE : F 9 = nI e) (he1 : 212 ≤ e) (he2 : e ≤ 532) (hZ : F 12 = nI z) (hz : z ≤ 25) (hY : F 14 = nI y) (hy : y ≤ 1000) (hR : F 10 = nI rnd) (hr : rnd ≤ 1000) (hq : Q none (hM h m F (layZ (laysG N e need rnd) e y z (forceF (nI t))) S A T R)) : Ex ω M9_lays 0 [some (.ref m), some (.int (nI t)), some (.int (nI need)), none] [] (hM h m F N S A T R) 0 0 Q := by
  have hin : ∀ k, k ≤ 63 → vp_in (F 9 + nI k) 596 := by intro k hk; rw [hE, nI_add]; exact vp_in_nI (by omega) (by omega)
  have hin' : ∀ N' k, k ≤ 63 → vp_in (gi (hM h m F N' S A T R) m 9 + nI k) 596 := by intro N' k hk; simp (disch := omega) only [gr_hM, gs_hM, ml.2.1, ml.2.2.1, ml.2.2.2.1, ml.2.2.2.2.1, ml.2.2.2.2.2, hM_F, hM_N, hM_S, hM_A, hM_T, hM_R, hM_sF, hM_sN, hM_sS, hM_sA, hM_sT, hM_sR, pk_mul, nI_add, nI_clamp, upd_eq, upd_ne]; exact hin k hk
  refine B9_lays_0 hw ml.1 ?_
  simp (disch := omega) only [gr_hM, gs_hM, ml.2.1, ml.2.2.1, ml.2.2.2.1, ml.2.2.2.2.1, ml.2.2.2.2.2, hM_F, hM_N, hM_S, hM_A, hM_T, hM_R, hM_sF, hM_sN, hM_sS, hM_sA, hM_sT, hM_sR, pk_mul, nI_add, nI_clamp, upd_eq, upd_ne]
  refine B9_lays_22 hw ml.1 ?_
  simp (disch := omega) only [gr_hM, gs_hM, ml.2.1, ml.2.2.1, ml.2.2.2.1, ml.2.2.2.2.1, ml.2.2.2.2.2, hM_F, hM_N, hM_S, hM_A, hM_T, hM_R, hM_sF, hM_sN, hM_sS, hM_sA, hM_sT, hM_sR, pk_mul, nI_add, nI_clamp, upd_eq, upd_ne]
  refine B9_lays_44 hw ml.1 (hin' _ _ (by omega)) (hin' _ _ (by omega)) ?_
  simp (disch := omega) only [gr_hM, gs_hM, ml.2.1, ml.2.2.1, ml.2.2.2.1, ml.2.2.2.2.1, ml.2.2.2.2.2, hM_F, hM_N, hM_S, hM_A, hM_T, hM_R, hM_sF, hM_sN, hM_sS, hM_sA, hM_sT, hM_sR, pk_mul, nI_add, nI_clamp, upd_eq, upd_ne, hE]
  refine B9_lays_59 hw ml.1 (hin' _ _ (by omega)) (hin' _ _ (by omega)) ?_
  simp (disch := omega) only [gr_hM, gs_hM, ml.2.1, ml.2.2.1, ml.2.2.2.1, ml.2.2.2.2.1, ml.2.2.2.2.2, hM_F, hM_N, hM_S, hM_A, hM_T, hM_R, hM_sF, hM_sN, hM_sS, hM_sA, hM_sT, hM_sR, pk_mul, nI_add, nI_clamp, upd_eq, upd_ne, hE]
  refine B9_lays_74 hw ml.1 (hin' _ _ (by omega)) (t9_rollAt hw ml (i := 0) (by omega) (by omega) ?_)
  simp (disch := omega) only [gr_hM, gs_hM, ml.2.1, ml.2.2.1, ml.2.2.2.1, ml.2.2.2.2.1, ml.2.2.2.2.2, hM_F, hM_N, hM_S, hM_A, hM_T, hM_R, hM_sF, hM_sN, hM_sS, hM_sA, hM_sT, hM_sR, pk_mul, nI_add, nI_clamp, upd_eq, upd_ne, hE]
  refine B9_lays_94 hw (ny0 := 596) (by simp (disch := omega) only [gr_hM, gs_hM, ml.2.1, ml.2.2.1, ml.2.2.2.1, ml.2.2.2.2.1, ml.2.2.2.2.2, hM_F, hM_N, hM_S, hM_A, hM_T, hM_R, hM_sF, hM_sN, hM_sS, hM_sA, hM_sT, hM_sR, pk_mul, nI_add, nI_clamp, upd_eq, upd_ne]; exact hs1) ml.1 (vp_in_nI (by omega) (by omega)) ?_
  simp (disch := omega) only [gr_hM, gs_hM, ml.2.1, ml.2.2.1, ml.2.2.2.1, ml.2.2.2.2.1, ml.2.2.2.2.2, hM_F, hM_N, hM_S, hM_A, hM_T, hM_R, hM_sF, hM_sN, hM_sS, hM_sA, hM_sT, hM_sR, pk_mul, nI_add, nI_clamp, upd_eq, upd_ne, hR]
  refine t9_up hw (by decide) ?_
  refine B9_lays_107 hw ml.1 (t9_lasts hw ml hE he1 he2 ?_)
  rw [nI_add, pk_sub (by omega), pk_div (by omega) (by omega) (by omega), show rnd + 40 - 1 = rnd + 39 from by omega]
  have ee : lastsN (upd (upd (upd (upd (upd (upd (upd N 22 (N 22 + nI need)) 8 (N 8 + nI need)) 9 (N 9 + nI need)) 15 (N 15 + nI 1)) (e + 2) (N (e + 2) + nI 1)) (e + 4) (N (e + 4) + nI need)) (e + 11) (N (e + 11) + nI need * N (20 + 20 * 0 + 1))) e (nI ((rnd + 39) / 40)) = laysG N e need rnd := by
    unfold laysG addC
    simp (disch := omega) only [gr_hM, gs_hM, ml.2.1, ml.2.2.1, ml.2.2.2.1, ml.2.2.2.2.1, ml.2.2.2.2.2, hM_F, hM_N, hM_S, hM_A, hM_T, hM_R, hM_sF, hM_sN, hM_sS, hM_sA, hM_sT, hM_sR, pk_mul, nI_add, nI_clamp, upd_eq, upd_ne]
  rw [ee]
  generalize laysG N e need rnd = G at *
  have lp : ∀ d i : Nat, i + d = z → Ex ω M9_lays 112 [some (.ref m), some (.int (nI t)), none, some (.int (nI i))] [] (hM h m F (layZ G e y i (forceF (nI t))) S A T R) 0 0 Q := by
    intro d
    induction d with
    | zero =>
      intro i hi
      refine B9_lays_112 hw ml.1 (fun _ => B9_lays_177 hw ?_) (fun c => ?_)
      · rw [show i = z from by omega]; exact hq
      · simp (disch := omega) only [gr_hM, gs_hM, ml.2.1, ml.2.2.1, ml.2.2.2.1, ml.2.2.2.2.1, ml.2.2.2.2.2, hM_F, hM_N, hM_S, hM_A, hM_T, hM_R, hM_sF, hM_sN, hM_sS, hM_sA, hM_sT, hM_sR, pk_mul, nI_add, nI_clamp, upd_eq, upd_ne, hZ] at c
        exact absurd (nI_le (by omega) (by omega)) c
    | succ d ih =>
      intro i hi
      have ii := ih (i + 1) (by omega)
      refine B9_lays_112 hw ml.1 (fun c => ?_) (fun _ => ?_)
      · simp (disch := omega) only [gr_hM, gs_hM, ml.2.1, ml.2.2.1, ml.2.2.2.1, ml.2.2.2.2.1, ml.2.2.2.2.2, hM_F, hM_N, hM_S, hM_A, hM_T, hM_R, hM_sF, hM_sN, hM_sS, hM_sA, hM_sT, hM_sR, pk_mul, nI_add, nI_clamp, upd_eq, upd_ne, hZ] at c
        exact absurd c (nI_ge (by omega) (by omega))
      · refine B9_lays_120 hw ml.1 ?_
        simp (disch := omega) only [gr_hM, gs_hM, ml.2.1, ml.2.2.1, ml.2.2.2.1, ml.2.2.2.2.1, ml.2.2.2.2.2, hM_F, hM_N, hM_S, hM_A, hM_T, hM_R, hM_sF, hM_sN, hM_sS, hM_sA, hM_sT, hM_sR, pk_mul, nI_add, nI_clamp, upd_eq, upd_ne, hY]
        refine t9_covers hw ml (by omega) (by omega) (fun c => ?_) (fun c => ?_)
        · rw [← layZ_yes (by omega) c] at ii
          refine B9_lays_129 hw (fun z => absurd z (by decide)) (fun _ => ?_)
          have h13 : vp_in (F 9 + nI 13 + nI i) 596 := by rw [hE, nI_add, nI_add]; exact vp_in_nI (by omega) (by omega)
          have h38 : vp_in (F 9 + nI 38 + nI i) 596 := by rw [hE, nI_add, nI_add]; exact vp_in_nI (by omega) (by omega)
          refine B9_lays_132 hw ml.1 (by simp (disch := omega) only [gr_hM, gs_hM, ml.2.1, ml.2.2.1, ml.2.2.2.1, ml.2.2.2.2.1, ml.2.2.2.2.2, hM_F, hM_N, hM_S, hM_A, hM_T, hM_R, hM_sF, hM_sN, hM_sS, hM_sA, hM_sT, hM_sR, pk_mul, nI_add, nI_clamp, upd_eq, upd_ne]; exact h13) (by simp (disch := omega) only [gr_hM, gs_hM, ml.2.1, ml.2.2.1, ml.2.2.2.1, ml.2.2.2.2.1, ml.2.2.2.2.2, hM_F, hM_N, hM_S, hM_A, hM_T, hM_R, hM_sF, hM_sN, hM_sS, hM_sA, hM_sT, hM_sR, pk_mul, nI_add, nI_clamp, upd_eq, upd_ne]; exact h13) ?_
          simp (disch := omega) only [gr_hM, gs_hM, ml.2.1, ml.2.2.1, ml.2.2.2.1, ml.2.2.2.2.1, ml.2.2.2.2.2, hM_F, hM_N, hM_S, hM_A, hM_T, hM_R, hM_sF, hM_sN, hM_sS, hM_sA, hM_sT, hM_sR, pk_mul, nI_add, nI_clamp, upd_eq, upd_ne, hE]
          refine B9_lays_150 hw ml.1 (by simp (disch := omega) only [gr_hM, gs_hM, ml.2.1, ml.2.2.1, ml.2.2.2.1, ml.2.2.2.2.1, ml.2.2.2.2.2, hM_F, hM_N, hM_S, hM_A, hM_T, hM_R, hM_sF, hM_sN, hM_sS, hM_sA, hM_sT, hM_sR, pk_mul, nI_add, nI_clamp, upd_eq, upd_ne]; exact h38) (t9_forceOf hw ?_)
          simp (disch := omega) only [gr_hM, gs_hM, ml.2.1, ml.2.2.1, ml.2.2.2.1, ml.2.2.2.2.1, ml.2.2.2.2.2, hM_F, hM_N, hM_S, hM_A, hM_T, hM_R, hM_sF, hM_sN, hM_sS, hM_sA, hM_sT, hM_sR, pk_mul, nI_add, nI_clamp, upd_eq, upd_ne, hE]
          refine B9_lays_169 hw (ny0 := 596) (by simp (disch := omega) only [gr_hM, gs_hM, ml.2.1, ml.2.2.1, ml.2.2.2.1, ml.2.2.2.2.1, ml.2.2.2.2.2, hM_F, hM_N, hM_S, hM_A, hM_T, hM_R, hM_sF, hM_sN, hM_sS, hM_sA, hM_sT, hM_sR, pk_mul, nI_add, nI_clamp, upd_eq, upd_ne]; exact hs1) (vp_in_nI (by omega) (by omega)) ?_
          simp (disch := omega) only [gr_hM, gs_hM, ml.2.1, ml.2.2.1, ml.2.2.2.1, ml.2.2.2.2.1, ml.2.2.2.2.2, hM_F, hM_N, hM_S, hM_A, hM_T, hM_R, hM_sF, hM_sN, hM_sS, hM_sA, hM_sT, hM_sR, pk_mul, nI_add, nI_clamp, upd_eq, upd_ne]
          refine B9_lays_171 hw ?_
          simp (disch := omega) only [gr_hM, gs_hM, ml.2.1, ml.2.2.1, ml.2.2.2.1, ml.2.2.2.2.1, ml.2.2.2.2.2, hM_F, hM_N, hM_S, hM_A, hM_T, hM_R, hM_sF, hM_sN, hM_sS, hM_sA, hM_sT, hM_sR, pk_mul, nI_add, nI_clamp, upd_eq, upd_ne]
          exact ii
        · rw [layZ_no c] at ii
          refine B9_lays_129 hw (fun _ => ?_) (fun z => absurd rfl z)
          refine B9_lays_171 hw ?_
          rw [nI_add]
          exact ii
  have := lp z 0 (by omega)
  rw [layZ_0] at this
  exact B9_lays_110 hw this
