/-! the model: plans -/
def cntL (zn : Nat) : List (Nat × Nat × Nat) → Nat
  | [] => 0
  | q :: l => (if covP q.1 zn then 1 else 0) + cntL zn l
theorem cntL_app (zn : Nat) (l1 l2 : List (Nat × Nat × Nat)) : cntL zn (l1 ++ l2) = cntL zn l1 + cntL zn l2 := by
  induction l1 with
  | nil => exact (Nat.zero_add _).symm
  | cons q l ih => show _ + cntL zn (l ++ l2) = _ + cntL zn l + _; rw [ih]; omega
theorem cntL_rep (zn : Nat) (s : Nat × Nat × Nat) (d : Nat) : cntL zn (List.replicate d s) = if covP s.1 zn then d else 0 := by
  induction d with
  | zero => split <;> rfl
  | succ d ih =>
    rw [List.replicate_succ]
    show (if covP s.1 zn then 1 else 0) + cntL zn (List.replicate d s) = _
    rw [ih]
    split <;> omega
theorem t9_plans {ω : Om} {h : AH} {m : Nat} {F N S A T R : Nat → Int32} {Q : Option Value → AH → Prop} (hw : ω.2.2.2.1 = true) (ml : ML h m) {top zn : Nat} {s : Nat × Nat × Nat} {q : Nat × Nat} (ht : F 13 = nI top) (htb : top ≤ 1000) (hs : F 14 = nI s.1) (sl : s.1 ≤ 1000) (q5 : q.1 < 5) (qa : q.2 ≤ 300) (qp : q.1 < 3 → 1 ≤ q.2) (hzn : zn < 2 ^ 20) (hq : ∀ F' : Nat → Int32, F' 14 = nI (stE top q s).1 → (∀ j, j ≠ 14 → F' j = F j) → Q (some (.int (nI (cntL zn (stL top q s))))) (hM h m F' N S A T R)) : Ex ω M9_plans 0 [some (.ref m), some (.int (nI q.1)), some (.int (nI q.2)), some (.int (nI zn)), none] [] (hM h m F N S A T R) 0 0 Q := by
  obtain ⟨k, a⟩ := q
  obtain ⟨y, ten, st⟩ := s
  dsimp only at q5 qa qp sl hs ⊢
  refine B9_plans_0 hw (fun c0 => ?_) (fun c0 => ?_) (fun c0 => ?_) (fun c0 => ?_)
  · rw [nI_eq (by omega) (by omega)] at c0
    subst c0
    have hq' := hq F hs (fun _ _ => rfl)
    replace hq' : Q (some (.int (nI (cntL zn (List.replicate a (y, ten, st)))))) (hM h m F N S A T R) := hq'
    rw [cntL_rep] at hq'
    dsimp only at hq'
    refine B9_plans_32 hw ml.1 ?_
    simp (disch := omega) only [gr_hM, gs_hM, ml.2.1, ml.2.2.1, ml.2.2.2.1, ml.2.2.2.2.1, ml.2.2.2.2.2, hM_F, hM_N, hM_S, hM_A, hM_T, hM_R, hM_sF, hM_sN, hM_sS, hM_sA, hM_sT, hM_sR, pk_mul, nI_add, nI_clamp, upd_eq, upd_ne, hs]
    refine t9_covers hw ml (by omega) hzn (fun c => ?_) (fun c => ?_)
    · rw [if_pos c] at hq'
      exact B9_plans_41 hw (fun c => absurd c (by decide)) (fun _ => B9_plans_44 hw (B9_plans_49 hw (B9_plans_161 hw hq')))
    · rw [if_neg c] at hq'
      exact B9_plans_41 hw (fun _ => B9_plans_48 hw (B9_plans_49 hw (B9_plans_161 hw hq'))) (fun c => absurd rfl c)
  · rw [nI_eq (by omega) (by omega)] at c0
    subst c0
    have qp' : 1 ≤ a := qp (by omega)
    have lp : ∀ (f y n : Nat) (F' : Nat → Int32), F' 14 = nI y → y ≤ 1000 → (∀ j, j ≠ 14 → F' j = F j) → top - y ≤ f → (∀ F' : Nat → Int32, F' 14 = nI (max y top) → (∀ j, j ≠ 14 → F' j = F j) → Q (some (.int (nI (n + cntL zn (upL top a ten st f y))))) (hM h m F' N S A T R)) → Ex ω M9_plans 54 [some (.ref m), none, some (.int (nI a)), some (.int (nI zn)), some (.int (nI n))] [] (hM h m F' N S A T R) 0 0 Q := by
      intro f
      induction f with
      | zero =>
        intro y n F' hs hy hF hf hq
        refine B9_plans_54 hw ml.1 (fun _ => B9_plans_161 hw (hq F' ?_ hF)) (fun c => ?_)
        · rw [Nat.max_eq_left (by omega)]; exact hs
        · simp (disch := omega) only [gr_hM, gs_hM, ml.2.1, ml.2.2.1, ml.2.2.2.1, ml.2.2.2.2.1, ml.2.2.2.2.2, hM_F, hM_N, hM_S, hM_A, hM_T, hM_R, hM_sF, hM_sN, hM_sS, hM_sA, hM_sT, hM_sR, pk_mul, nI_add, nI_clamp, upd_eq, upd_ne, hs, hF 13 (by omega), ht] at c
          exact absurd (nI_le (by omega) (by omega)) c
      | succ f ih =>
        intro y n F' hs hy hF hf hq
        have e13 : F' 13 = nI top := (hF 13 (by omega)).trans ht
        have es : upL top a ten st (f + 1) y = if y < top then (min (y + a) top, ten, st) :: upL top a ten st f (min (y + a) top) else [] := rfl
        rw [es] at hq
        refine B9_plans_54 hw ml.1 (fun c1 => ?_) (fun c1 => ?_)
        · simp (disch := omega) only [gr_hM, gs_hM, ml.2.1, ml.2.2.1, ml.2.2.2.1, ml.2.2.2.2.1, ml.2.2.2.2.2, hM_F, hM_N, hM_S, hM_A, hM_T, hM_R, hM_sF, hM_sN, hM_sS, hM_sA, hM_sT, hM_sR, pk_mul, nI_add, nI_clamp, upd_eq, upd_ne, hs, e13] at c1
          rw [nI_leI (by omega) (by omega)] at c1
          rw [if_neg (by omega)] at hq
          refine B9_plans_161 hw (hq F' ?_ hF)
          rw [Nat.max_eq_left (by omega)]; exact hs
        · simp (disch := omega) only [gr_hM, gs_hM, ml.2.1, ml.2.2.1, ml.2.2.2.1, ml.2.2.2.2.1, ml.2.2.2.2.2, hM_F, hM_N, hM_S, hM_A, hM_T, hM_R, hM_sF, hM_sN, hM_sS, hM_sA, hM_sT, hM_sR, pk_mul, nI_add, nI_clamp, upd_eq, upd_ne, hs, e13] at c1
          rw [nI_leI (by omega) (by omega)] at c1
          rw [if_pos (by omega)] at hq
          refine B9_plans_65 hw ml.1 ?_
          simp (disch := omega) only [gr_hM, gs_hM, ml.2.1, ml.2.2.1, ml.2.2.2.1, ml.2.2.2.2.1, ml.2.2.2.2.2, hM_F, hM_N, hM_S, hM_A, hM_T, hM_R, hM_sF, hM_sN, hM_sS, hM_sA, hM_sT, hM_sR, pk_mul, nI_add, nI_clamp, upd_eq, upd_ne, hs, e13]
          refine t9_lesser hw ?_
          rw [lesser_nI (by omega) (by omega)]
          refine B9_plans_79 hw ml.1 ml.1 ?_
          simp (disch := omega) only [gr_hM, gs_hM, ml.2.1, ml.2.2.1, ml.2.2.2.1, ml.2.2.2.2.1, ml.2.2.2.2.2, hM_F, hM_N, hM_S, hM_A, hM_T, hM_R, hM_sF, hM_sN, hM_sS, hM_sA, hM_sT, hM_sR, pk_mul, nI_add, nI_clamp, upd_eq, upd_ne]
          have hF' : ∀ j, j ≠ 14 → upd F' 14 (nI (min (y + a) top)) j = F j := fun j j1 => (upd_ne _ _ j1).trans (hF j j1)
          have go : ∀ v : Nat, v = (if covP (min (y + a) top) zn then 1 else 0) → Ex ω M9_plans 101 [some (.ref m), none, some (.int (nI a)), some (.int (nI zn)), none] [.int (nI v), .int (nI n)] (hM h m (upd F' 14 (nI (min (y + a) top))) N S A T R) 0 0 Q := by
            intro v hv
            refine B9_plans_101 hw ?_
            rw [nI_add]
            refine ih (min (y + a) top) (n + v) _ (upd_eq _ _ _) (by omega) hF' (by omega) ?_
            rw [show max (min (y + a) top) top = max y top from by omega, Nat.add_assoc, hv]
            exact hq
          refine t9_covers hw ml (by omega) hzn (fun c => ?_) (fun c => ?_)
          · exact B9_plans_93 hw (fun c => absurd c (by decide)) (fun _ => B9_plans_96 hw (go 1 (if_pos c).symm))
          · exact B9_plans_93 hw (fun _ => B9_plans_100 hw (go 0 (if_neg c).symm)) (fun c => absurd rfl c)
    refine x_dr1 (lp top y 0 F hs sl (fun _ _ => rfl) (by omega) (fun F' h1 h2 => ?_))
    have := hq F' h1 h2
    rw [Nat.zero_add]
    exact this
  · rw [nI_eq (by omega) (by omega)] at c0
    subst c0
    have qp' : 1 ≤ a := qp (by omega)
    have lp : ∀ (f y n : Nat) (F' : Nat → Int32), F' 14 = nI y → y ≤ 1000 → (∀ j, j ≠ 14 → F' j = F j) → y ≤ f → (∀ F' : Nat → Int32, F' 14 = nI 0 → (∀ j, j ≠ 14 → F' j = F j) → Q (some (.int (nI (n + cntL zn (dnL a ten st f y))))) (hM h m F' N S A T R)) → Ex ω M9_plans 107 [some (.ref m), none, some (.int (nI a)), some (.int (nI zn)), some (.int (nI n))] [] (hM h m F' N S A T R) 0 0 Q := by
      intro f
      induction f with
      | zero =>
        intro y n F' hs hy hF hf hq
        have y0 : y = 0 := by omega
        subst y0
        refine B9_plans_107 hw ml.1 (fun _ => B9_plans_161 hw (hq F' hs hF)) (fun c => ?_)
        simp (disch := omega) only [gr_hM, gs_hM, ml.2.1, ml.2.2.1, ml.2.2.2.1, ml.2.2.2.2.1, ml.2.2.2.2.2, hM_F, hM_N, hM_S, hM_A, hM_T, hM_R, hM_sF, hM_sN, hM_sS, hM_sA, hM_sT, hM_sR, pk_mul, nI_add, nI_clamp, upd_eq, upd_ne, hs] at c
        exact absurd (show nI 0 ≤ 0 from by decide) c
      | succ f ih =>
        intro y n F' hs hy hF hf hq
        have es : dnL a ten st (f + 1) y = if 0 < y then (y - a, ten, st) :: dnL a ten st f (y - a) else [] := rfl
        rw [es] at hq
        refine B9_plans_107 hw ml.1 (fun c1 => ?_) (fun c1 => ?_)
        · simp (disch := omega) only [gr_hM, gs_hM, ml.2.1, ml.2.2.1, ml.2.2.2.1, ml.2.2.2.2.1, ml.2.2.2.2.2, hM_F, hM_N, hM_S, hM_A, hM_T, hM_R, hM_sF, hM_sN, hM_sS, hM_sA, hM_sT, hM_sR, pk_mul, nI_add, nI_clamp, upd_eq, upd_ne, hs] at c1
          rw [show (0 : Int32) = nI 0 from rfl, nI_leI (by omega) (by omega)] at c1
          have y0 : y = 0 := by omega
          subst y0
          rw [if_neg (by omega)] at hq
          exact B9_plans_161 hw (hq F' hs hF)
        · simp (disch := omega) only [gr_hM, gs_hM, ml.2.1, ml.2.2.1, ml.2.2.2.1, ml.2.2.2.2.1, ml.2.2.2.2.2, hM_F, hM_N, hM_S, hM_A, hM_T, hM_R, hM_sF, hM_sN, hM_sS, hM_sA, hM_sT, hM_sR, pk_mul, nI_add, nI_clamp, upd_eq, upd_ne, hs] at c1
          rw [show (0 : Int32) = nI 0 from rfl, nI_leI (by omega) (by omega)] at c1
          rw [if_pos (by omega)] at hq
          have hF' : ∀ j, j ≠ 14 → upd F' 14 (nI (y - a)) j = F j := fun j j1 => (upd_ne _ _ j1).trans (hF j j1)
          have go : ∀ v : Nat, v = (if covP (y - a) zn then 1 else 0) → Ex ω M9_plans 155 [some (.ref m), none, some (.int (nI a)), some (.int (nI zn)), none] [.int (nI v), .int (nI n)] (hM h m (upd F' 14 (nI (y - a))) N S A T R) 0 0 Q := by
            intro v hv
            refine B9_plans_155 hw ?_
            rw [nI_add]
            refine ih (y - a) (n + v) _ (upd_eq _ _ _) (by omega) hF' (by omega) ?_
            rw [Nat.add_assoc, hv]
            exact hq
          have go2 : Ex ω M9_plans 133 [some (.ref m), none, some (.int (nI a)), some (.int (nI zn)), some (.int (nI n))] [.int (nI (y - a)), .ref m] (hM h m F' N S A T R) 0 0 Q := by
            refine B9_plans_133 hw ml.1 ml.1 ?_
            simp (disch := omega) only [gr_hM, gs_hM, ml.2.1, ml.2.2.1, ml.2.2.2.1, ml.2.2.2.2.1, ml.2.2.2.2.2, hM_F, hM_N, hM_S, hM_A, hM_T, hM_R, hM_sF, hM_sN, hM_sS, hM_sA, hM_sT, hM_sR, pk_mul, nI_add, nI_clamp, upd_eq, upd_ne]
            refine t9_covers hw ml (by omega) hzn (fun c => ?_) (fun c => ?_)
            · exact B9_plans_147 hw (fun c => absurd c (by decide)) (fun _ => B9_plans_150 hw (go 1 (if_pos c).symm))
            · exact B9_plans_147 hw (fun _ => B9_plans_154 hw (go 0 (if_neg c).symm)) (fun c => absurd rfl c)
          refine B9_plans_114 hw ml.1 (fun c3 => ?_) (fun c3 => ?_)
          · simp (disch := omega) only [gr_hM, gs_hM, ml.2.1, ml.2.2.1, ml.2.2.2.1, ml.2.2.2.2.1, ml.2.2.2.2.2, hM_F, hM_N, hM_S, hM_A, hM_T, hM_R, hM_sF, hM_sN, hM_sS, hM_sA, hM_sT, hM_sR, pk_mul, nI_add, nI_clamp, upd_eq, upd_ne, hs] at c3
            rw [nI_leI (by omega) (by omega)] at c3
            rw [show y - a = 0 from by omega] at go2
            exact B9_plans_132 hw go2
          · simp (disch := omega) only [gr_hM, gs_hM, ml.2.1, ml.2.2.1, ml.2.2.2.1, ml.2.2.2.2.1, ml.2.2.2.2.2, hM_F, hM_N, hM_S, hM_A, hM_T, hM_R, hM_sF, hM_sN, hM_sS, hM_sA, hM_sT, hM_sR, pk_mul, nI_add, nI_clamp, upd_eq, upd_ne, hs] at c3
            rw [nI_leI (by omega) (by omega)] at c3
            refine B9_plans_123 hw ml.1 ?_
            simp (disch := omega) only [gr_hM, gs_hM, ml.2.1, ml.2.2.1, ml.2.2.2.1, ml.2.2.2.2.1, ml.2.2.2.2.2, hM_F, hM_N, hM_S, hM_A, hM_T, hM_R, hM_sF, hM_sN, hM_sS, hM_sA, hM_sT, hM_sR, pk_mul, nI_add, nI_clamp, upd_eq, upd_ne, hs]
            rw [pk_sub (by omega)]
            exact go2
    refine x_dr1 (lp y y 0 F hs sl (fun _ _ => rfl) (by omega) (fun F' h1 h2 => ?_))
    have := hq F' h1 h2
    rw [Nat.zero_add]
    exact this
  · have c4 : 3 ≤ k := by
      by_cases c5 : k ≤ 2
      · exact absurd ⟨by rw [show (0 : Int32) = nI 0 from rfl, nI_leI (by omega) (by omega)]; omega, by rw [nI_leI (by omega) (by omega)]; omega⟩ c0
      · omega
    have e1 : stL top (k, a) (y, ten, st) = [] := by
      unfold stL
      rw [if_neg (by omega), if_neg (by omega), if_neg (by omega)]
    have e2 : (stE top (k, a) (y, ten, st)).1 = y := by
      unfold stE
      rw [if_neg (by dsimp only; omega), if_neg (by dsimp only; omega), if_neg (by dsimp only; omega)]
      split <;> rfl
    rw [e1, e2] at hq
    exact B9_plans_161 hw (hq F hs (fun _ _ => rfl))
theorem t9_beginsF {ω : Om} {h : AH} {m : Nat} {F N S A T R : Nat → Int32} {Q : Option Value → AH → Prop} (hw : ω.2.2.2.1 = true) (ml : ML h m) {w k K c d nx lo hi : Nat} {acc : List (Nat × Nat)} (iv : INV N K c w d nx lo hi acc) (fr : frontK N w k) (hq : ∀ F' : Nat → Int32, F' 12 = nI ((palV N k 3 + 9) / 10) → F' 13 = nI (palV N k 3 - 50) → F' 11 = nI (palV N k 4) → F' 14 = nI 0 → palV N k 3 ≤ 250 → palV N k 4 ≤ 5000 → (∀ j, j < 10 → F' j = F j) → Q none (hM h m F' N S A T R)) : Ex ω M9_begins 0 [some (.ref m), some (.int (nI k))] [] (hM h m F N S A T R) 0 0 Q := by
  have pi := iv.2.1
  have hk := fr.1
  have hw8 := pi.2.1
  obtain ⟨n, wd, dp, hh, lim, du, g0, gn, g1, g1a, g1b, g2, g2a, g2b, g3, g3a, g3b, g4, g4b, g5, g5b⟩ := pi.2.2.1 k hk
  have p3 : palV N k 3 = hh := palV_eq g3 (by omega)
  have p4 : palV N k 4 = lim := palV_eq g4 (by omega)
  rw [p3, p4] at hq
  exact t9_begins hw ml (by omega) (wd := wd) (dp := dp) (hi := hh) (lim := lim) (by rw [← g1]; exact congrArg N (by omega)) (by rw [← g2]; exact congrArg N (by omega)) (by rw [← g3]; exact congrArg N (by omega)) (by rw [← g4]; exact congrArg N (by omega)) g1b g2b g3b (fun F' f10 f12 f13 f11 frs fo => hq F' f12 f13 f11 frs.1 g3b g4b fo)
theorem t9_planned {ω : Om} {h : AH} {m : Nat} {F N S A T R : Nat → Int32} {Q : Option Value → AH → Prop} (hw : ω.2.2.2.1 = true) (ml : ML h m) {w k K c d nx lo hi : Nat} {acc : List (Nat × Nat)} {x : Int32} (iv : INV N K c w d nx lo hi acc) (fr : 1 ≤ w → frontK N w k) (qx : x < 0 → Q (some (.int (-1))) (hM h m F N S A T R)) (q0 : ¬ x < 0 → w = 0 → Q (some (.int (-2))) (hM h m F N S A T R)) (q1 : 1 ≤ w → ∀ i : Nat, x = nI i → i < 2 ^ 31 → (palV N k 3 + 9) / 10 ≤ i → ∀ F' : Nat → Int32, F' 2 = F 2 → F' 5 = F 5 → Q (some (.int (-4))) (hM h m F' N S A T R)) (q2 : 1 ≤ w → ∀ i : Nat, x = nI i → i < (palV N k 3 + 9) / 10 → ∀ F' : Nat → Int32, F' 2 = F 2 → F' 5 = F 5 → Q (some (.int (nI (cntL i (crsL (palV N k 3 - 50) acc (0, 40, 100)))))) (hM h m F' N S A T R)) : Ex ω M9_planned 0 [some (.ref m), some (.int x), none, none] [] (hM h m F N S A T R) 0 0 Q := by
  have h1 := iv.2.1.1
  have hw8 := iv.2.1.2.1
  have si := iv.2.2.1
  have sl12 := si.2.1
  refine B9_planned_0 hw (fun c => ?_) (fun c => B9_planned_4 hw (qx (Int32.not_le.mp c)))
  obtain ⟨i, hi, rfl⟩ := nI_of (fun q => Int32.not_le.mpr q c)
  refine B9_planned_6 hw ml.1 (fun c => ?_) (fun c => ?_)
  · simp (disch := omega) only [gr_hM, gs_hM, ml.2.1, ml.2.2.1, ml.2.2.2.1, ml.2.2.2.2.1, ml.2.2.2.2.2, hM_F, hM_N, hM_S, hM_A, hM_T, hM_R, hM_sF, hM_sN, hM_sS, hM_sA, hM_sT, hM_sR, pk_mul, nI_add, nI_clamp, upd_eq, upd_ne, h1] at c
    rw [show (0 : Int32) = nI 0 from rfl, nI_eq (by omega) (by omega)] at c
    refine B9_planned_18 hw ml.1 (t9_first hw ml h1 hw8 (fr (by omega)) ?_)
    refine B9_planned_24 hw ml.1 (t9_beginsF hw ml iv (fr (by omega)) (fun F' f12 f13 f11 f14 hh9 hl9 fo => ?_))
    have q1' := q1 (by omega) i rfl hi
    have q2' := q2 (by omega) i rfl
    generalize palV N k 3 = hh at *
    refine B9_planned_27 hw ml.1 (fun c => ?_) (fun c => ?_)
    · simp (disch := omega) only [gr_hM, gs_hM, ml.2.1, ml.2.2.1, ml.2.2.2.1, ml.2.2.2.2.1, ml.2.2.2.2.2, hM_F, hM_N, hM_S, hM_A, hM_T, hM_R, hM_sF, hM_sN, hM_sS, hM_sA, hM_sT, hM_sR, pk_mul, nI_add, nI_clamp, upd_eq, upd_ne, f12] at c
      rw [nI_ltI (by omega) (by omega)] at c
      have q2 := q2' c
      refine B9_planned_38 hw ?_
      have lp : ∀ (dd j n : Nat) (s : Nat × Nat × Nat) (F'' : Nat → Int32), j + dd = acc.length → F'' 14 = nI s.1 → s.1 ≤ 1000 ∧ s.2.1 ≤ 1000 ∧ s.2.2 ≤ 1000 → (∀ j, j ≠ 14 → F'' j = F' j) → n + cntL i (crsL (hh - 50) (acc.drop j) s) = cntL i (crsL (hh - 50) acc (0, 40, 100)) → Ex ω M9_planned 42 [some (.ref m), some (.int (nI i)), some (.int (nI n)), some (.int (nI j))] [] (hM h m F'' N S A T R) 0 0 Q := by
        intro dd
        induction dd with
        | zero =>
          intro j n s F'' hj hs sl hF hn
          rw [List.drop_eq_nil_of_le (by omega)] at hn
          refine B9_planned_42 hw ml.1 (fun _ => B9_planned_92 hw ?_) (fun c => ?_)
          · rw [show n = cntL i (crsL (hh - 50) acc (0, 40, 100)) from hn]
            exact q2 F'' ((hF 2 (by omega)).trans (fo 2 (by omega))) ((hF 5 (by omega)).trans (fo 5 (by omega)))
          · simp (disch := omega) only [gr_hM, gs_hM, ml.2.1, ml.2.2.1, ml.2.2.2.1, ml.2.2.2.2.1, ml.2.2.2.2.2, hM_F, hM_N, hM_S, hM_A, hM_T, hM_R, hM_sF, hM_sN, hM_sS, hM_sA, hM_sT, hM_sR, pk_mul, nI_add, nI_clamp, upd_eq, upd_ne, si.1] at c
            exact absurd (nI_le (by omega) (by omega)) c
        | succ dd ih =>
          intro j n s F'' hj hs sl hF hn
          have hj' : j < acc.length := by omega
          obtain ⟨a1, a2, a3, a4, a5⟩ := SI_get si hj'
          rw [List.drop_eq_getElem_cons hj', crsL, cntL_app] at hn
          refine B9_planned_42 hw ml.1 (fun c => ?_) (fun _ => ?_)
          · simp (disch := omega) only [gr_hM, gs_hM, ml.2.1, ml.2.2.1, ml.2.2.2.1, ml.2.2.2.2.1, ml.2.2.2.2.2, hM_F, hM_N, hM_S, hM_A, hM_T, hM_R, hM_sF, hM_sN, hM_sS, hM_sA, hM_sT, hM_sR, pk_mul, nI_add, nI_clamp, upd_eq, upd_ne, si.1] at c
            exact absurd c (nI_ge (by omega) (by omega))
          refine B9_planned_52 hw ml.1 (by simp only [pk_mul, nI_add]; exact vp_in_nI (by omega) (by omega)) (by simp only [pk_mul, nI_add]; exact vp_in_nI (by omega) (by omega)) ?_
          simp (disch := omega) only [gr_hM, gs_hM, ml.2.1, ml.2.2.1, ml.2.2.2.1, ml.2.2.2.2.1, ml.2.2.2.2.2, hM_F, hM_N, hM_S, hM_A, hM_T, hM_R, hM_sF, hM_sN, hM_sS, hM_sA, hM_sT, hM_sR, pk_mul, nI_add, nI_clamp, upd_eq, upd_ne, a1, a2]
          refine t9_plans hw ml (s := s) (q := acc[j]) ((hF 13 (by omega)).trans f13) (by omega) hs sl.1 a3 (amt300 a3 a5) (amt1 a4) (by omega) (fun F3 h3 h4 => ?_)
          refine B9_planned_84 hw ?_
          rw [nI_add, nI_add]
          exact ih (j + 1) _ (stE (hh - 50) acc[j] s) F3 (by omega) h3 (stE_le (by omega) (amt300 a3 a5) sl) (fun j j1 => (h4 j j1).trans (hF j j1)) (by omega)
      exact lp acc.length 0 0 (0, 40, 100) F' (by omega) f14 ⟨by decide, by decide, by decide⟩ (fun _ _ => rfl) (by rw [List.drop_zero, Nat.zero_add])
    · simp (disch := omega) only [gr_hM, gs_hM, ml.2.1, ml.2.2.1, ml.2.2.2.1, ml.2.2.2.2.1, ml.2.2.2.2.2, hM_F, hM_N, hM_S, hM_A, hM_T, hM_R, hM_sF, hM_sN, hM_sS, hM_sA, hM_sT, hM_sR, pk_mul, nI_add, nI_clamp, upd_eq, upd_ne, f12] at c
      rw [nI_ltI (by omega) (by omega)] at c
      exact B9_planned_35 hw (q1' (by omega) F' (fo 2 (by omega)) (fo 5 (by omega)))
  · simp (disch := omega) only [gr_hM, gs_hM, ml.2.1, ml.2.2.1, ml.2.2.2.1, ml.2.2.2.2.1, ml.2.2.2.2.2, hM_F, hM_N, hM_S, hM_A, hM_T, hM_R, hM_sF, hM_sN, hM_sS, hM_sA, hM_sT, hM_sR, pk_mul, nI_add, nI_clamp, upd_eq, upd_ne, h1] at c
    rw [show (0 : Int32) = nI 0 from rfl, nI_eq (by omega) (by omega)] at c
    exact B9_planned_15 hw (q0 (nI_pos hi) c)

/-- all zones get n layers when the foil rises by s a turn -/
abbrev riseP (top z n s : Nat) : Prop := ∀ i, i < z → n ≤ cntL i (crsL top [(0, 1), (1, s)] (0, 40, 100))
def riseF (top z n : Nat) : Nat → Int32
  | 0 => -4
  | s + 1 => if riseP top z n (s + 1) then nI (s + 1) else riseF top z n s
theorem cnt_len (zn : Nat) : ∀ l : List (Nat × Nat × Nat), cntL zn l ≤ l.length := by
  intro l
  induction l with
  | nil => exact Nat.le_refl _
  | cons q l ih => show (if covP q.1 zn then 1 else 0) + cntL zn l ≤ l.length + 1; split <;> omega
theorem upL_len (top a ten st : Nat) : ∀ f h, (upL top a ten st f h).length ≤ f := by
  intro f
  induction f with
  | zero => intro h; exact Nat.le_refl _
  | succ f ih =>
    intro h
    show (if h < top then (min (h + a) top, ten, st) :: upL top a ten st f (min (h + a) top) else []).length ≤ f + 1
    split
    · have := ih (min (h + a) top)
      simp only [List.length_cons]; omega
    · exact Nat.zero_le _
theorem t9_riseFor {ω : Om} {h : AH} {m : Nat} {F N S A T R : Nat → Int32} {Q : Option Value → AH → Prop} (hw : ω.2.2.2.1 = true) (ml : ML h m) {w k K c d nx lo hi : Nat} {acc : List (Nat × Nat)} {x : Int32} (iv : INV N K c w d nx lo hi acc) (fr : 1 ≤ w → frontK N w k) (qx : ¬ (nI 1 ≤ x ∧ x ≤ nI 50) → Q (some (.int (-1))) (hM h m F N S A T R)) (q0 : (nI 1 ≤ x ∧ x ≤ nI 50) → w = 0 → Q (some (.int (-2))) (hM h m F N S A T R)) (q1 : 1 ≤ w → ∀ n : Nat, x = nI n → 1 ≤ n → n ≤ 50 → ∀ F' : Nat → Int32, F' 2 = F 2 → F' 5 = F 5 → Q (some (.int (riseF (palV N k 3 - 50) ((palV N k 3 + 9) / 10) n 100))) (hM h m F' N S A T R)) : Ex ω M9_riseFor 0 [some (.ref m), some (.int x), none, none, none] [] (hM h m F N S A T R) 0 0 Q := by
  have h1 := iv.2.1.1
  have hw8 := iv.2.1.2.1
  refine B9_riseFor_0 hw (t9_in hw (lo := nI 1) (hi := nI 50) rfl rfl (fun a1 a2 => ?_) (fun a => ?_))
  · refine B9_riseFor_9 hw (fun _ => ?_) (fun c => absurd c (by decide))
    refine B9_riseFor_14 hw ml.1 (fun c => ?_) (fun c => ?_)
    · simp (disch := omega) only [gr_hM, gs_hM, ml.2.1, ml.2.2.1, ml.2.2.2.1, ml.2.2.2.2.1, ml.2.2.2.2.2, hM_F, hM_N, hM_S, hM_A, hM_T, hM_R, hM_sF, hM_sN, hM_sS, hM_sA, hM_sT, hM_sR, pk_mul, nI_add, nI_clamp, upd_eq, upd_ne, h1] at c
      rw [show (0 : Int32) = nI 0 from rfl, nI_eq (by omega) (by omega)] at c
      obtain ⟨n, rfl, hn1, hn⟩ := bd_of (lo := 1) (hi := 50) (by omega) (by omega) a1 a2
      refine B9_riseFor_26 hw ml.1 (t9_first hw ml h1 hw8 (fr (by omega)) ?_)
      refine B9_riseFor_32 hw ml.1 (t9_beginsF hw ml iv (fr (by omega)) (fun F' f12 f13 f11 f14 hh9 hl9 fo => ?_))
      have q1' := q1 (by omega) n rfl hn1 hn
      generalize palV N k 3 = hh at *
      generalize hz0 : (hh + 9) / 10 = z at *
      generalize ht0 : hh - 50 = top at *
      have htop : top ≤ 200 := by omega
      have hz : z ≤ 25 := by omega
      refine B9_riseFor_35 hw ?_
      have inner : ∀ (s : Nat), 1 ≤ s → s ≤ 100 → (∀ F2 : Nat → Int32, (∀ j, j ≠ 14 → F2 j = F' j) → riseP top z n s → Q (some (.int (nI s))) (hM h m F2 N S A T R)) → (∀ F2 : Nat → Int32, (∀ j, j ≠ 14 → F2 j = F' j) → ¬ riseP top z n s → Ex ω M9_riseFor 104 [some (.ref m), some (.int (nI n)), some (.int (nI s)), some (.int 0), none] [] (hM h m F2 N S A T R) 0 0 Q) → ∀ (dd i : Nat) (b : Bool) (F2 : Nat → Int32), i + dd = z → (∀ j, j ≠ 14 → F2 j = F' j) → (b = true → ∀ i', i' < i → n ≤ cntL i' (crsL top [(0, 1), (1, s)] (0, 40, 100))) → (b = false → ¬ riseP top z n s) → Ex ω M9_riseFor 47 [some (.ref m), some (.int (nI n)), some (.int (nI s)), some (.int (if b then 1 else 0)), some (.int (nI i))] [] (hM h m F2 N S A T R) 0 0 Q := by
        intro s hs1 hs2 k1 k0 dd
        have out : ∀ (i : Nat) (b : Bool) (F2 : Nat → Int32), (∀ j, j ≠ 14 → F2 j = F' j) → (b = true → riseP top z n s) → (b = false → ¬ riseP top z n s) → Ex ω M9_riseFor 98 [some (.ref m), some (.int (nI n)), some (.int (nI s)), some (.int (if b then 1 else 0)), some (.int (nI i))] [] (hM h m F2 N S A T R) 0 0 Q := by
          intro i b F2 hF b1 b0
          cases b with
          | true => exact B9_riseFor_98 hw (fun c => absurd c (by decide)) (fun _ => B9_riseFor_102 hw (k1 F2 hF (b1 rfl)))
          | false => exact B9_riseFor_98 hw (fun _ => k0 F2 hF (b0 rfl)) (fun c => absurd rfl c)
        induction dd with
        | zero =>
          intro i b F2 hi hF b1 b0
          refine B9_riseFor_47 hw ml.1 (fun _ => out i b F2 hF (fun e i' hi' => b1 e i' (by omega)) b0) (fun c => ?_)
          simp (disch := omega) only [gr_hM, gs_hM, ml.2.1, ml.2.2.1, ml.2.2.2.1, ml.2.2.2.2.1, ml.2.2.2.2.2, hM_F, hM_N, hM_S, hM_A, hM_T, hM_R, hM_sF, hM_sN, hM_sS, hM_sA, hM_sT, hM_sR, pk_mul, nI_add, nI_clamp, upd_eq, upd_ne, hF 12 (by omega), f12] at c
          exact absurd (nI_le (by omega) (by omega)) c
        | succ dd ih =>
          intro i b F2 hi hF b1 b0
          refine B9_riseFor_47 hw ml.1 (fun c => ?_) (fun _ => ?_)
          · simp (disch := omega) only [gr_hM, gs_hM, ml.2.1, ml.2.2.1, ml.2.2.2.1, ml.2.2.2.2.1, ml.2.2.2.2.2, hM_F, hM_N, hM_S, hM_A, hM_T, hM_R, hM_sF, hM_sN, hM_sS, hM_sA, hM_sT, hM_sR, pk_mul, nI_add, nI_clamp, upd_eq, upd_ne, hF 12 (by omega), f12] at c
            exact absurd c (nI_ge (by omega) (by omega))
          cases b with
          | false => exact B9_riseFor_56 hw (fun _ => out i false F2 hF (fun e => absurd e (by decide)) b0) (fun c => absurd rfl c)
          | true =>
            refine B9_riseFor_56 hw (fun c => absurd c (by decide)) (fun _ => ?_)
            refine B9_riseFor_60 hw ml.1 ?_
            simp (disch := omega) only [gr_hM, gs_hM, ml.2.1, ml.2.2.1, ml.2.2.2.1, ml.2.2.2.2.1, ml.2.2.2.2.2, hM_F, hM_N, hM_S, hM_A, hM_T, hM_R, hM_sF, hM_sN, hM_sS, hM_sA, hM_sT, hM_sR, pk_mul, nI_add, nI_clamp, upd_eq, upd_ne]
            have hF2' : ∀ j, j ≠ 14 → upd F2 14 (nI 0) j = F' j := fun j j1 => (upd_ne _ _ j1).trans (hF j j1)
            refine t9_plans hw ml (top := top) (s := (0, 40, 100)) (q := (0, 1)) ((hF2' 13 (by omega)).trans f13) (by omega) (upd_eq _ _ _) (by decide) (by decide) (by decide) (fun _ => by decide) (by omega) (fun F3 h3 h4 => ?_)
            have hF3 : ∀ j, j ≠ 14 → F3 j = F' j := fun j j1 => (h4 j j1).trans (hF2' j j1)
            refine B9_riseFor_73 hw ml.1 ?_
            refine t9_plans hw ml (top := top) (s := (0, 40, 100)) (q := (1, s)) ((hF3 13 (by omega)).trans f13) (by omega) h3 (by decide) (by decide : 1 < 5) (by dsimp only; omega) (fun _ => hs1) (by omega) (fun F4 h5 h6 => ?_)
            have hF4 : ∀ j, j ≠ 14 → F4 j = F' j := fun j j1 => (h6 j j1).trans (hF3 j j1)
            have ec : cntL i (stL top (0, 1) (0, 40, 100)) + cntL i (stL top (1, s) (0, 40, 100)) = cntL i (crsL top [(0, 1), (1, s)] (0, 40, 100)) := by
              show _ = cntL i (stL top (0, 1) (0, 40, 100) ++ (stL top (1, s) (0, 40, 100) ++ []))
              rw [cntL_app, List.append_nil]
            have cb : cntL i (stL top (0, 1) (0, 40, 100)) ≤ 1 := cnt_len i (stL top (0, 1) (0, 40, 100))
            have cb2 : cntL i (stL top (1, s) (0, 40, 100)) ≤ top := Nat.le_trans (cnt_len i _) (upL_len top s 40 100 top 0)
            refine B9_riseFor_81 hw (fun c => ?_) (fun c => ?_)
            · rw [nI_add, nI_ltI (by omega) (by omega), ec] at c
              have nr : ¬ riseP top z n s := fun q => by have := q i (by omega); omega
              refine B9_riseFor_90 hw (B9_riseFor_91 hw ?_)
              rw [nI_add]
              exact ih (i + 1) false F4 (by omega) hF4 (fun e => absurd e (by decide)) (fun _ => nr)
            · rw [nI_add, nI_ltI (by omega) (by omega), ec] at c
              refine B9_riseFor_86 hw (B9_riseFor_91 hw ?_)
              rw [nI_add]
              refine ih (i + 1) true F4 (by omega) hF4 (fun _ i' hi' => ?_) (fun e => absurd e (by decide))
              by_cases zz : i' = i
              · subst zz; omega
              · exact b1 rfl i' (by omega)
      have outer : ∀ (s : Nat) (F2 : Nat → Int32), s ≤ 100 → (∀ j, j ≠ 14 → F2 j = F' j) → riseF top z n s = riseF top z n 100 → Ex ω M9_riseFor 38 [some (.ref m), some (.int (nI n)), some (.int (nI s)), none, none] [] (hM h m F2 N S A T R) 0 0 Q := by
        intro s
        induction s with
        | zero =>
          intro F2 hs hF e
          refine B9_riseFor_38 hw (fun _ => B9_riseFor_110 hw ?_) (fun c => absurd (by decide) c)
          have := q1' F2 ((hF 2 (by omega)).trans (fo 2 (by omega))) ((hF 5 (by omega)).trans (fo 5 (by omega)))
          rw [← e] at this
          exact this
        | succ s ih =>
          intro F2 hs hF e
          have es : riseF top z n (s + 1) = if riseP top z n (s + 1) then nI (s + 1) else riseF top z n s := rfl
          rw [es] at e
          refine B9_riseFor_38 hw (fun c => ?_) (fun _ => ?_)
          · rw [show (0 : Int32) = nI 0 from rfl, nI_leI (by omega) (by omega)] at c
            omega
          refine B9_riseFor_42 hw (inner (s + 1) (by omega) hs (fun F3 hF3 hr => ?_) (fun F3 hF3 hr => ?_) z 0 true F2 (by omega) hF (fun _ i' hi' => absurd hi' (by omega)) (fun e => absurd e (by decide)))
          · rw [if_pos hr] at e
            rw [e]
            exact q1' F3 ((hF3 2 (by omega)).trans (fo 2 (by omega))) ((hF3 5 (by omega)).trans (fo 5 (by omega)))
          · rw [if_neg hr] at e
            refine B9_riseFor_104 hw ?_
            rw [pk_m1]
            exact ih F3 (by omega) hF3 e
      exact outer 100 F' (Nat.le_refl _) (fun _ _ => rfl) rfl
    · simp (disch := omega) only [gr_hM, gs_hM, ml.2.1, ml.2.2.1, ml.2.2.2.1, ml.2.2.2.2.1, ml.2.2.2.2.2, hM_F, hM_N, hM_S, hM_A, hM_T, hM_R, hM_sF, hM_sN, hM_sS, hM_sA, hM_sT, hM_sR, pk_mul, nI_add, nI_clamp, upd_eq, upd_ne, h1] at c
      rw [show (0 : Int32) = nI 0 from rfl, nI_eq (by omega) (by omega)] at c
      exact B9_riseFor_23 hw (q0 ⟨a1, a2⟩ c)
  · exact B9_riseFor_9 hw (fun c => absurd rfl c) (fun _ => B9_riseFor_12 hw (qx a))
theorem t9_tensionFor {ω : Om} {h : AH} {m : Nat} {F N S A T R : Nat → Int32} {Q : Option Value → AH → Prop} (hw : ω.2.2.2.1 = true) (ml : ML h m) {w k K c d nx lo hi : Nat} {acc : List (Nat × Nat)} {x : Int32} (iv : INV N K c w d nx lo hi acc) (fr : 1 ≤ w → frontK N w k) (qx : ¬ (nI 1 ≤ x ∧ x ≤ nI 500) → Q (some (.int (-1))) (hM h m F N S A T R)) (q0 : (nI 1 ≤ x ∧ x ≤ nI 500) → w = 0 → Q (some (.int (-2))) (hM h m F N S A T R)) (q1 : 1 ≤ w → ∀ n : Nat, x = nI n → 1 ≤ n → n ≤ 500 → ∀ F' : Nat → Int32, F' 2 = F 2 → F' 5 = F 5 → Q (some (.int (nI (tB (palV N k 4 / n) 0 199)))) (hM h m F' N S A T R)) : Ex ω M9_tensionFor 0 [some (.ref m), some (.int x), none] [] (hM h m F N S A T R) 0 0 Q := by
  have h1 := iv.2.1.1
  have hw8 := iv.2.1.2.1
  refine B9_tensionFor_0 hw (t9_in hw (lo := nI 1) (hi := nI 500) rfl rfl (fun a1 a2 => ?_) (fun a => ?_))
  · refine B9_tensionFor_9 hw (fun _ => ?_) (fun c => absurd c (by decide))
    refine B9_tensionFor_14 hw ml.1 (fun c => ?_) (fun c => ?_)
    · simp (disch := omega) only [gr_hM, gs_hM, ml.2.1, ml.2.2.1, ml.2.2.2.1, ml.2.2.2.2.1, ml.2.2.2.2.2, hM_F, hM_N, hM_S, hM_A, hM_T, hM_R, hM_sF, hM_sN, hM_sS, hM_sA, hM_sT, hM_sR, pk_mul, nI_add, nI_clamp, upd_eq, upd_ne, h1] at c
      rw [show (0 : Int32) = nI 0 from rfl, nI_eq (by omega) (by omega)] at c
      obtain ⟨n, rfl, hn1, hn⟩ := bd_of (lo := 1) (hi := 500) (by omega) (by omega) a1 a2
      refine B9_tensionFor_26 hw ml.1 (t9_first hw ml h1 hw8 (fr (by omega)) ?_)
      refine B9_tensionFor_32 hw ml.1 (t9_beginsF hw ml iv (fr (by omega)) (fun F' f12 f13 f11 f14 hh9 hl9 fo => ?_))
      have q2 := q1 (by omega) n rfl hn1 hn F' (fo 2 (by omega)) (fo 5 (by omega))
      generalize palV N k 4 = lim at *
      refine B9_tensionFor_35 hw ?_
      have key : ∀ t, t ≤ 199 → (n * (t * 141 / 100) ≤ lim ↔ t ≤ tB (lim / n) 0 199) := by
        intro t ht
        rw [← tB_force (Nat.zero_le _) ht, Nat.zero_add, Nat.le_div_iff_mul_le (by omega), Nat.mul_comm]
      have mb : ∀ t, t ≤ 199 → n * (t * 141 / 100) ≤ 500 * 281 := fun t ht => Nat.mul_le_mul hn (by omega)
      have lp : ∀ dd t : Nat, t = tB (lim / n) 0 199 + dd → t ≤ 199 → Ex ω M9_tensionFor 39 [some (.ref m), some (.int (nI n)), some (.int (nI t))] [] (hM h m F' N S A T R) 0 0 Q := by
        intro dd
        induction dd with
        | zero =>
          intro t et ht
          have := mb t ht
          refine B9_tensionFor_39 hw (t9_forceOf hw (B9_tensionFor_44 hw ml.1 (fun _ => B9_tensionFor_58 hw ?_) (fun c => ?_)))
          · rw [show t = tB (lim / n) 0 199 from et]; exact q2
          · rw [forceF_nI (by omega), pk_mul] at c
            simp (disch := omega) only [gr_hM, gs_hM, ml.2.1, ml.2.2.1, ml.2.2.2.1, ml.2.2.2.2.1, ml.2.2.2.2.2, hM_F, hM_N, hM_S, hM_A, hM_T, hM_R, hM_sF, hM_sN, hM_sS, hM_sA, hM_sT, hM_sR, pk_mul, nI_add, nI_clamp, upd_eq, upd_ne, f11] at c
            rw [nI_leI (by omega) (by omega), key t ht] at c
            omega
        | succ dd ih =>
          intro t et ht
          have := mb t ht
          refine B9_tensionFor_39 hw (t9_forceOf hw (B9_tensionFor_44 hw ml.1 (fun c => ?_) (fun c => B9_tensionFor_52 hw ?_)))
          · rw [forceF_nI (by omega), pk_mul] at c
            simp (disch := omega) only [gr_hM, gs_hM, ml.2.1, ml.2.2.1, ml.2.2.2.1, ml.2.2.2.2.1, ml.2.2.2.2.2, hM_F, hM_N, hM_S, hM_A, hM_T, hM_R, hM_sF, hM_sN, hM_sS, hM_sA, hM_sT, hM_sR, pk_mul, nI_add, nI_clamp, upd_eq, upd_ne, f11] at c
            rw [nI_leI (by omega) (by omega), key t ht] at c
            omega
          · obtain ⟨t', rfl⟩ : ∃ t', t = t' + 1 := ⟨t - 1, by omega⟩
            rw [pk_m1]
            exact ih t' (by omega) (by omega)
      have tl := tB_le (lim / n) 0 199
      exact lp (199 - tB (lim / n) 0 199) 199 (by omega) (Nat.le_refl _)
    · simp (disch := omega) only [gr_hM, gs_hM, ml.2.1, ml.2.2.1, ml.2.2.2.1, ml.2.2.2.2.1, ml.2.2.2.2.2, hM_F, hM_N, hM_S, hM_A, hM_T, hM_R, hM_sF, hM_sN, hM_sS, hM_sA, hM_sT, hM_sR, pk_mul, nI_add, nI_clamp, upd_eq, upd_ne, h1] at c
      rw [show (0 : Int32) = nI 0 from rfl, nI_eq (by omega) (by omega)] at c
      exact B9_tensionFor_23 hw (q0 ⟨a1, a2⟩ c)
  · exact B9_tensionFor_9 hw (fun c => absurd rfl c) (fun _ => B9_tensionFor_12 hw (qx a))
