/-! the model: write -/
def putC (p : (Nat → Int32) × Nat) (c : Int32) : (Nat → Int32) × Nat := if p.2 < 100 then (upd p.1 p.2 c, p.2 + 1) else p
def putL : List Int32 → (Nat → Int32) × Nat → (Nat → Int32) × Nat
  | [], p => p
  | c :: l, p => putL l (putC p c)
theorem putC_le {p : (Nat → Int32) × Nat} (h : p.2 ≤ 100) (c : Int32) : (putC p c).2 ≤ 100 := by
  unfold putC
  split
  · dsimp only; omega
  · exact h
def nameC (k : Nat) : Nat → Nat → List Int32
  | _, 0 => []
  | j, d + 1 => chS k j :: nameC k (j + 1) d
def digC (a : Nat) : List Int32 := (if 99 < a then [nI (48 + a / 100 % 10)] else []) ++ ((if 9 < a then [nI (48 + a / 10 % 10)] else []) ++ [nI (48 + a % 10)])
def stepC (q : Nat × Nat) : List Int32 := nameC q.1 0 (lenS.getD q.1 0) ++ (nI 32 :: digC q.2)
def progC : Bool → List (Nat × Nat) → List Int32
  | _, [] => []
  | true, q :: r => stepC q ++ progC false r
  | false, q :: r => nI 44 :: nI 32 :: (stepC q ++ progC false r)
theorem t9_writes {ω : Om} {h : AH} {m : Nat} {F N S A T R : Nat → Int32} {Q : Option Value → AH → Prop} (hw : ω.2.2.2.1 = true) (ml : ML h m) {p : (Nat → Int32) × Nat} {c : Int32} (hl : p.2 ≤ 100) (hF : F 5 = nI p.2) (hT : T = p.1) (hq : ∀ F' : Nat → Int32, F' 5 = nI (putC p c).2 → F' 2 = F 2 → Q none (hM h m F' N S A (putC p c).1 R)) : Ex ω M9_writes 0 [some (.ref m), some (.int c)] [] (hM h m F N S A T R) 0 0 Q := by
  subst hT
  unfold putC at hq
  refine B9_writes_0 hw ml.1 (fun z => ?_) (fun z => ?_)
  · simp (disch := omega) only [gr_hM, gs_hM, ml.2.1, ml.2.2.1, ml.2.2.2.1, ml.2.2.2.2.1, ml.2.2.2.2.2, hM_F, hM_N, hM_S, hM_A, hM_T, hM_R, hM_sF, hM_sN, hM_sS, hM_sA, hM_sT, hM_sR, pk_mul, nI_add, nI_clamp, upd_eq, upd_ne, hF] at z
    rw [nI_leI (by omega) (by omega)] at z
    rw [if_neg (by omega)] at hq
    exact B9_writes_29 hw (hq F hF rfl)
  · simp (disch := omega) only [gr_hM, gs_hM, ml.2.1, ml.2.2.1, ml.2.2.2.1, ml.2.2.2.2.1, ml.2.2.2.2.2, hM_F, hM_N, hM_S, hM_A, hM_T, hM_R, hM_sF, hM_sN, hM_sS, hM_sA, hM_sT, hM_sR, pk_mul, nI_add, nI_clamp, upd_eq, upd_ne, hF] at z
    rw [nI_leI (by omega) (by omega)] at z
    rw [if_pos (by omega)] at hq
    refine B9_writes_9 hw ml.1 (by simp (disch := omega) only [gr_hM, gs_hM, ml.2.1, ml.2.2.1, ml.2.2.2.1, ml.2.2.2.2.1, ml.2.2.2.2.2, hM_F, hM_N, hM_S, hM_A, hM_T, hM_R, hM_sF, hM_sN, hM_sS, hM_sA, hM_sT, hM_sR, pk_mul, nI_add, nI_clamp, upd_eq, upd_ne, hF]; exact vp_in_nI (by omega) (by omega)) (B9_writes_29 hw ?_)
    simp (disch := omega) only [gr_hM, gs_hM, ml.2.1, ml.2.2.1, ml.2.2.2.1, ml.2.2.2.2.1, ml.2.2.2.2.2, hM_F, hM_N, hM_S, hM_A, hM_T, hM_R, hM_sF, hM_sN, hM_sS, hM_sA, hM_sT, hM_sR, pk_mul, nI_add, nI_clamp, upd_eq, upd_ne, hF]
    exact hq _ (upd_eq _ _ _) (upd_ne _ _ (by omega))
theorem t9_write {ω : Om} {h : AH} {m : Nat} {F N S A T R : Nat → Int32} {Q : Option Value → AH → Prop} (hw : ω.2.2.2.1 = true) (ml : ML h m) {acc : List (Nat × Nat)} (si : SI N acc) (hq : ∀ F' : Nat → Int32, F' 5 = nI (putL (progC true acc) (T, 0)).2 → F' 2 = F 2 → (putL (progC true acc) (T, 0)).2 ≤ 100 → Q (some (.int (nI (putL (progC true acc) (T, 0)).2))) (hM h m F' N S A (putL (progC true acc) (T, 0)).1 R)) : Ex ω M9_write 0 [some (.ref m), none, none, none, none] [] (hM h m F N S A T R) 0 0 Q := by
  have sl12 := si.2.1
  refine B9_write_0 hw ml.1 ?_
  simp (disch := omega) only [gr_hM, gs_hM, ml.2.1, ml.2.2.1, ml.2.2.2.1, ml.2.2.2.2.1, ml.2.2.2.2.2, hM_F, hM_N, hM_S, hM_A, hM_T, hM_R, hM_sF, hM_sN, hM_sS, hM_sA, hM_sT, hM_sR, pk_mul, nI_add, nI_clamp, upd_eq, upd_ne]
  have hF2 : upd F 5 (nI 0) 2 = F 2 := upd_ne _ _ (by omega)
  have hF5 : upd F 5 (nI 0) 5 = nI 0 := upd_eq _ _ _
  generalize upd F 5 (nI 0) = F1 at *
  generalize hfin : putL (progC true acc) (T, 0) = fin at *
  -- one char
  have wr : ∀ (F' : Nat → Int32) (p : (Nat → Int32) × Nat) (c : Int32) (Q' : Option Value → AH → Prop), p.2 ≤ 100 → F' 5 = nI p.2 → F' 2 = F 2 → (∀ (F2 : Nat → Int32) (p2 : (Nat → Int32) × Nat), p2 = putC p c → p2.2 ≤ 100 → F2 5 = nI p2.2 → F2 2 = F 2 → Q' none (hM h m F2 N S A p2.1 R)) → Ex ω M9_writes 0 [some (.ref m), some (.int c)] [] (hM h m F' N S A p.1 R) 0 0 Q' := by
    intro F' p c Q' hp h5 h2 hq'
    exact t9_writes hw ml hp h5 rfl (fun F2 a b => hq' F2 _ rfl (putC_le hp c) a (b.trans h2))
  -- the digits
  have dg : ∀ (i a : Nat) (rest : List Int32), a ≤ 300 → (∀ (F' : Nat → Int32) (p : (Nat → Int32) × Nat), p.2 ≤ 100 → F' 5 = nI p.2 → F' 2 = F 2 → putL rest p = fin → Ex ω M9_write 7 [some (.ref m), some (.int (nI (i + 1))), none, none, none] [] (hM h m F' N S A p.1 R) 0 0 Q) → ∀ (F' : Nat → Int32) (p : (Nat → Int32) × Nat), p.2 ≤ 100 → F' 5 = nI p.2 → F' 2 = F 2 → putL (digC a ++ rest) p = fin → Ex ω M9_write 95 [some (.ref m), some (.int (nI i)), none, some (.int (nI a)), none] [] (hM h m F' N S A p.1 R) 0 0 Q := by
    intro i a rest ha k F' p hp h5 h2 hr
    have d1 : ∀ (F' : Nat → Int32) (p : (Nat → Int32) × Nat), p.2 ≤ 100 → F' 5 = nI p.2 → F' 2 = F 2 → putL (nI (48 + a % 10) :: rest) p = fin → Ex ω M9_write 120 [some (.ref m), some (.int (nI i)), none, some (.int (nI a)), some (.int (nI 1))] [] (hM h m F' N S A p.1 R) 0 0 Q := by
      intro F' p hp h5 h2 hr
      refine B9_write_120 hw (fun c => absurd c (by decide)) (fun _ => ?_)
      refine B9_write_125 hw ml.1 (by decide) ?_
      rw [pk_div (by omega) (by omega) (by omega), pk_rem (by omega) (by omega) (by omega), nI_add, Nat.div_one]
      refine wr F' p _ _ hp h5 h2 (fun F2 p2 e hp2 g5 g2 => ?_)
      refine B9_write_139 hw ?_
      rw [pk_div (by omega) (by omega) (by omega)]
      refine B9_write_120 hw (fun _ => B9_write_149 hw ?_) (fun c => absurd (by decide) c)
      rw [nI_add]
      refine k F2 p2 hp2 g5 g2 ?_
      rw [e]; exact hr
    have d10 : ∀ (F' : Nat → Int32) (p : (Nat → Int32) × Nat), p.2 ≤ 100 → F' 5 = nI p.2 → F' 2 = F 2 → putL (nI (48 + a / 10 % 10) :: nI (48 + a % 10) :: rest) p = fin → Ex ω M9_write 120 [some (.ref m), some (.int (nI i)), none, some (.int (nI a)), some (.int (nI 10))] [] (hM h m F' N S A p.1 R) 0 0 Q := by
      intro F' p hp h5 h2 hr
      refine B9_write_120 hw (fun c => absurd c (by decide)) (fun _ => ?_)
      refine B9_write_125 hw ml.1 (by decide) ?_
      rw [pk_div (by omega) (by omega) (by omega), pk_rem (by omega) (by omega) (by omega), nI_add]
      refine wr F' p _ _ hp h5 h2 (fun F2 p2 e hp2 g5 g2 => ?_)
      refine B9_write_139 hw ?_
      rw [pk_div (by omega) (by omega) (by omega)]
      refine d1 F2 p2 hp2 g5 g2 ?_
      rw [e]; exact hr
    have d100 : ∀ (F' : Nat → Int32) (p : (Nat → Int32) × Nat), p.2 ≤ 100 → F' 5 = nI p.2 → F' 2 = F 2 → putL (nI (48 + a / 100 % 10) :: nI (48 + a / 10 % 10) :: nI (48 + a % 10) :: rest) p = fin → Ex ω M9_write 120 [some (.ref m), some (.int (nI i)), none, some (.int (nI a)), some (.int (nI 100))] [] (hM h m F' N S A p.1 R) 0 0 Q := by
      intro F' p hp h5 h2 hr
      refine B9_write_120 hw (fun c => absurd c (by decide)) (fun _ => ?_)
      refine B9_write_125 hw ml.1 (by decide) ?_
      rw [pk_div (by omega) (by omega) (by omega), pk_rem (by omega) (by omega) (by omega), nI_add]
      refine wr F' p _ _ hp h5 h2 (fun F2 p2 e hp2 g5 g2 => ?_)
      refine B9_write_139 hw ?_
      rw [pk_div (by omega) (by omega) (by omega)]
      refine d10 F2 p2 hp2 g5 g2 ?_
      rw [e]; exact hr
    unfold digC at hr
    refine B9_write_95 hw (fun c => ?_) (fun c => ?_)
    · rw [nI_leI (by omega) (by omega)] at c
      rw [if_neg (by omega)] at hr
      refine B9_write_106 hw (fun c2 => ?_) (fun c2 => ?_)
      · rw [nI_leI (by omega) (by omega)] at c2
        rw [if_neg (by omega)] at hr
        exact B9_write_117 hw (B9_write_118 hw (d1 F' p hp h5 h2 hr))
      · rw [nI_leI (by omega) (by omega)] at c2
        rw [if_pos (by omega)] at hr
        exact B9_write_112 hw (B9_write_118 hw (d10 F' p hp h5 h2 hr))
    · rw [nI_leI (by omega) (by omega)] at c
      rw [if_pos (by omega), if_pos (by omega)] at hr
      exact B9_write_101 hw (B9_write_118 hw (d100 F' p hp h5 h2 hr))
  -- the name
  have nm : ∀ (i k a : Nat) (rest : List Int32), k < 5 → a ≤ 300 → (∀ (F' : Nat → Int32) (p : (Nat → Int32) × Nat), p.2 ≤ 100 → F' 5 = nI p.2 → F' 2 = F 2 → putL rest p = fin → Ex ω M9_write 7 [some (.ref m), some (.int (nI (i + 1))), none, none, none] [] (hM h m F' N S A p.1 R) 0 0 Q) → ∀ (dd j : Nat) (F' : Nat → Int32) (p : (Nat → Int32) × Nat), j + dd = lenS.getD k 0 → p.2 ≤ 100 → F' 5 = nI p.2 → F' 2 = F 2 → putL (nameC k j dd ++ (nI 32 :: digC a ++ rest)) p = fin → Ex ω M9_write 64 [some (.ref m), some (.int (nI i)), some (.int (nI k)), some (.int (nI a)), some (.int (nI j))] [] (hM h m F' N S A p.1 R) 0 0 Q := by
    intro i k a rest hk ha kk dd
    have ln : lenS.getD k 0 ≤ 7 := by
      have : k = 0 ∨ k = 1 ∨ k = 2 ∨ k = 3 ∨ k = 4 := by omega
      rcases this with rfl | rfl | rfl | rfl | rfl <;> decide
    induction dd with
    | zero =>
      intro j F' p hj hp h5 h2 hr
      refine B9_write_64 hw (t9_nameSize hw hk ?_)
      refine B9_write_70 hw (fun _ => ?_) (fun c => absurd (nI_le (by omega) (by omega)) c)
      refine B9_write_89 hw ml.1 (wr F' p _ _ hp h5 h2 (fun F2 p2 e hp2 g5 g2 => ?_))
      refine dg i a rest ha kk F2 p2 hp2 g5 g2 ?_
      rw [e]; exact hr
    | succ dd ih =>
      intro j F' p hj hp h5 h2 hr
      refine B9_write_64 hw (t9_nameSize hw hk ?_)
      refine B9_write_70 hw (fun c => absurd c (nI_ge (by omega) (by omega))) (fun _ => ?_)
      refine B9_write_73 hw (t9_nameAt hw hk (by omega) ?_)
      refine B9_write_80 hw ml.1 (wr F' p _ _ hp h5 h2 (fun F2 p2 e hp2 g5 g2 => ?_))
      refine B9_write_83 hw ?_
      rw [nI_add]
      refine ih (j + 1) F2 p2 (by omega) hp2 g5 g2 ?_
      rw [e]; exact hr
  have lp : ∀ (dd i : Nat) (F' : Nat → Int32) (p : (Nat → Int32) × Nat), i + dd = acc.length → p.2 ≤ 100 → F' 5 = nI p.2 → F' 2 = F 2 → putL (progC (decide (i = 0)) (acc.drop i)) p = fin → Ex ω M9_write 7 [some (.ref m), some (.int (nI i)), none, none, none] [] (hM h m F' N S A p.1 R) 0 0 Q := by
    intro dd
    induction dd with
    | zero =>
      intro i F' p hi hp h5 h2 hr
      rw [List.drop_eq_nil_of_le (by omega)] at hr
      have hr' : p = fin := by
        rw [← hr]; cases decide (i = 0) <;> rfl
      subst hr'
      refine B9_write_7 hw ml.1 (fun _ => B9_write_155 hw ml.1 ?_) (fun c => ?_)
      · simp (disch := omega) only [gr_hM, gs_hM, ml.2.1, ml.2.2.1, ml.2.2.2.1, ml.2.2.2.2.1, ml.2.2.2.2.2, hM_F, hM_N, hM_S, hM_A, hM_T, hM_R, hM_sF, hM_sN, hM_sS, hM_sA, hM_sT, hM_sR, pk_mul, nI_add, nI_clamp, upd_eq, upd_ne, h5]
        exact hq F' h5 h2 hp
      · simp (disch := omega) only [gr_hM, gs_hM, ml.2.1, ml.2.2.1, ml.2.2.2.1, ml.2.2.2.2.1, ml.2.2.2.2.2, hM_F, hM_N, hM_S, hM_A, hM_T, hM_R, hM_sF, hM_sN, hM_sS, hM_sA, hM_sT, hM_sR, pk_mul, nI_add, nI_clamp, upd_eq, upd_ne, si.1] at c
        exact absurd (nI_le (by omega) (by omega)) c
    | succ dd ih =>
      intro i F' p hi hp h5 h2 hr
      have hi' : i < acc.length := by omega
      obtain ⟨a1, a2, a3, a4, a5⟩ := SI_get si hi'
      rw [List.drop_eq_getElem_cons hi'] at hr
      have next : ∀ (F' : Nat → Int32) (p : (Nat → Int32) × Nat), p.2 ≤ 100 → F' 5 = nI p.2 → F' 2 = F 2 → putL (progC false (acc.drop (i + 1))) p = fin → Ex ω M9_write 7 [some (.ref m), some (.int (nI (i + 1))), none, none, none] [] (hM h m F' N S A p.1 R) 0 0 Q := fun F' p b1 b2 b3 b4 => ih (i + 1) F' p (by omega) b1 b2 b3 b4
      have n2 := nm i acc[i].1 acc[i].2 (progC false (acc.drop (i + 1))) a3 (amt300 a3 a5) next (lenS.getD acc[i].1 0) 0
      refine B9_write_7 hw ml.1 (fun c => ?_) (fun _ => ?_)
      · simp (disch := omega) only [gr_hM, gs_hM, ml.2.1, ml.2.2.1, ml.2.2.2.1, ml.2.2.2.2.1, ml.2.2.2.2.2, hM_F, hM_N, hM_S, hM_A, hM_T, hM_R, hM_sF, hM_sN, hM_sS, hM_sA, hM_sT, hM_sR, pk_mul, nI_add, nI_clamp, upd_eq, upd_ne, si.1] at c
        exact absurd c (nI_ge (by omega) (by omega))
      refine B9_write_17 hw ml.1 (by simp only [pk_mul, nI_add]; exact vp_in_nI (by omega) (by omega)) (by simp only [pk_mul, nI_add]; exact vp_in_nI (by omega) (by omega)) (fun c => ?_) (fun c => ?_)
      · rw [show (0 : Int32) = nI 0 from rfl, nI_leI (by omega) (by omega)] at c
        simp (disch := omega) only [gr_hM, gs_hM, ml.2.1, ml.2.2.1, ml.2.2.2.1, ml.2.2.2.2.1, ml.2.2.2.2.2, hM_F, hM_N, hM_S, hM_A, hM_T, hM_R, hM_sF, hM_sN, hM_sS, hM_sA, hM_sT, hM_sR, pk_mul, nI_add, nI_clamp, upd_eq, upd_ne, a1, a2]
        rw [show decide (i = 0) = true from decide_eq_true (by omega)] at hr
        refine B9_write_61 hw (n2 F' p (by omega) hp h5 h2 ?_)
        rw [← hr]
        show _ = putL ((nameC _ 0 _ ++ (nI 32 :: digC _)) ++ progC false _) p
        rw [List.append_assoc]
      · rw [show (0 : Int32) = nI 0 from rfl, nI_leI (by omega) (by omega)] at c
        simp (disch := omega) only [gr_hM, gs_hM, ml.2.1, ml.2.2.1, ml.2.2.2.1, ml.2.2.2.2.1, ml.2.2.2.2.2, hM_F, hM_N, hM_S, hM_A, hM_T, hM_R, hM_sF, hM_sN, hM_sS, hM_sA, hM_sT, hM_sR, pk_mul, nI_add, nI_clamp, upd_eq, upd_ne, a1, a2]
        rw [show decide (i = 0) = false from decide_eq_false (by omega)] at hr
        refine B9_write_49 hw ml.1 (wr F' p _ _ hp h5 h2 (fun F2 p2 e hp2 g5 g2 => ?_))
        refine B9_write_55 hw ml.1 (wr F2 p2 _ _ hp2 g5 g2 (fun F3 p3 e3 hp3 h53 h23 => ?_))
        refine B9_write_61 hw (n2 F3 p3 (by omega) hp3 h53 h23 ?_)
        rw [← hr, e3, e]
        show _ = putL ((nameC _ 0 _ ++ (nI 32 :: digC _)) ++ progC false _) _
        rw [List.append_assoc]
  exact lp acc.length 0 F1 (T, 0) (by omega) (Nat.zero_le _) hF5 hF2 (by rw [← hfin]; rfl)
