/-! the model: wraps -/
theorem SI_get {N : Nat → Int32} {acc : List (Nat × Nat)} (si : SI N acc) {i : Nat} (hi : i < acc.length) : N (188 + 2 * i) = nI acc[i].1 ∧ N (188 + 2 * i + 1) = nI acc[i].2 ∧ acc[i].1 < 5 ∧ amtLo acc[i].1 ≤ acc[i].2 ∧ acc[i].2 ≤ amtHi acc[i].1 := by
  obtain ⟨h1, h2⟩ := si.2.2.2 i acc[i] (List.getElem?_eq_getElem hi)
  exact ⟨h1, h2, si.2.2.1 _ (List.getElem_mem hi)⟩
theorem SI_congr {N N' : Nat → Int32} {acc : List (Nat × Nat)} (e : ∀ j, (j = 3 ∨ (188 ≤ j ∧ j < 212)) → N' j = N j) (si : SI N acc) : SI N' acc := by
  refine ⟨(e 3 (Or.inl rfl)).trans si.1, si.2.1, si.2.2.1, fun i q hq => ?_⟩
  obtain ⟨h1, h2⟩ := si.2.2.2 i q hq
  have := (List.getElem?_eq_some_iff.mp hq).1
  have := si.2.1
  exact ⟨(e _ (by omega)).trans h1, (e _ (by omega)).trans h2⟩
theorem t9_wraps {ω : Om} {h : AH} {m : Nat} {F N S A T R : Nat → Int32} {Q : Option Value → AH → Prop} (hw : ω.2.2.2.1 = true) (ml : ML h m) (hs1 : gs h (m + 1) = some (10, 596)) {fu w k c th d : Nat} {acc : List (Nat × Nat)} (pi : PI N w) (fr : frontK N w k) (si : SI N acc) (ri : RI N c) (hth : N 4 = nI th) (ht : th ≤ 500) (hd : N 7 = nI d) (hd2 : d < 2 ^ 29) (hfu : 600007 ≤ fu) (hq : ∀ F' : Nat → Int32, F' 2 = F 2 → F' 5 = F 5 → F' 9 = nI (entE d) → Q (some (.int (nI (wrapsN fu N w k d acc).1))) (hM h m F' (wrapsN fu N w k d acc).2 S A T R)) : Ex ω M9_wraps 0 [some (.ref m), none, none, none] [] (hM h m F N S A T R) 0 0 Q := by
  have hk := fr.1
  have hw8 := pi.2.1
  obtain ⟨n, wd, dp, hi, lim, du, g0, gn, g1, g1a, g1b, g2, g2a, g2b, g3, g3a, g3b, g4, g4b, g5, g5b⟩ := pi.2.2.1 k hk
  have p1 : palV N k 1 = wd := palV_eq g1 (by omega)
  have p2 : palV N k 2 = dp := palV_eq g2 (by omega)
  have p3 : palV N k 3 = hi := palV_eq g3 (by omega)
  have p4 : palV N k 4 = lim := palV_eq g4 (by omega)
  unfold wrapsN at hq
  rw [p1, p2, p3, p4] at hq
  dsimp only at hq
  have he1 : 212 ≤ entE d := by unfold entE; omega
  have he2 : entE d ≤ 532 := by unfold entE; omega
  refine B9_wraps_0 hw ml.1 (t9_first hw ml pi.1 hw8 fr ?_)
  refine B9_wraps_5 hw ml.1 (t9_begins hw ml (by omega) (wd := wd) (dp := dp) (hi := hi) (lim := lim) (by rw [← g1]; exact congrArg N (by omega)) (by rw [← g2]; exact congrArg N (by omega)) (by rw [← g3]; exact congrArg N (by omega)) (by rw [← g4]; exact congrArg N (by omega)) g1b g2b g3b (fun F' f10 f12 f13 f11 frs fo => ?_))
  refine B9_wraps_11 hw ml.1 ?_
  simp (disch := omega) only [gr_hM, gs_hM, ml.2.1, ml.2.2.1, ml.2.2.2.1, ml.2.2.2.2.1, ml.2.2.2.2.2, hM_F, hM_N, hM_S, hM_A, hM_T, hM_R, hM_sF, hM_sN, hM_sS, hM_sA, hM_sT, hM_sR, pk_mul, nI_add, nI_clamp, upd_eq, upd_ne, hd]
  rw [pk_rem (by omega) (by omega) (by omega), pk_mul, nI_add, show 212 + 64 * (d % 6) = entE d from rfl]
  have hF2 : upd F' 9 (nI (entE d)) 2 = F 2 := (upd_ne _ _ (by omega)).trans (fo 2 (by omega))
  have hF5 : upd F' 9 (nI (entE d)) 5 = F 5 := (upd_ne _ _ (by omega)).trans (fo 5 (by omega))
  have rg : RG (upd F' 9 (nI (entE d))) (entE d) ((hi + 9) / 10) (2 * (wd + dp)) lim (hi - 50) := ⟨upd_eq _ _ _, (upd_ne _ _ (by omega)).trans f12, (upd_ne _ _ (by omega)).trans f10, (upd_ne _ _ (by omega)).trans f11, (upd_ne _ _ (by omega)).trans f13⟩
  have rs : RS (upd F' 9 (nI (entE d))) (0, 40, 100) := ⟨(upd_ne _ _ (by omega)).trans frs.1, (upd_ne _ _ (by omega)).trans frs.2.1, (upd_ne _ _ (by omega)).trans frs.2.2⟩
  generalize entE d = e at *
  clear frs fo f10 f11 f12 f13
  generalize upd F' 9 (nI e) = F' at *
  generalize hz0 : (hi + 9) / 10 = z at *
  have hz : z ≤ 25 := by omega
  have rb : RGb e z (2 * (wd + dp)) lim (hi - 50) := ⟨he1, he2, hz, by omega, g4b, by omega⟩
  generalize 2 * (wd + dp) = rnd at *
  generalize hi - 50 = top at *
  have hE := rg.1
  -- the entry is emptied
  have lp : ∀ dd i : Nat, i + dd = 64 → (Ex ω M9_wraps 34 [some (.ref m), some (.int (nI k)), some (.int (nI 64)), none] [] (hM h m F' (zeroN N e 64) S A T R) 0 0 Q) → Ex ω M9_wraps 34 [some (.ref m), some (.int (nI k)), some (.int (nI i)), none] [] (hM h m F' (zeroN N e i) S A T R) 0 0 Q := by
    intro dd
    induction dd with
    | zero => intro i hi hh; rw [show i = 64 from by omega]; exact hh
    | succ dd ih =>
      intro i hi hh
      refine B9_wraps_34 hw (fun c => absurd c (nI_ge (by omega) (by omega))) (fun _ => ?_)
      refine B9_wraps_40 hw ml.1 (by simp (disch := omega) only [gr_hM, gs_hM, ml.2.1, ml.2.2.1, ml.2.2.2.1, ml.2.2.2.2.1, ml.2.2.2.2.2, hM_F, hM_N, hM_S, hM_A, hM_T, hM_R, hM_sF, hM_sN, hM_sS, hM_sA, hM_sT, hM_sR, pk_mul, nI_add, nI_clamp, upd_eq, upd_ne, hE]; exact vp_in_nI (by omega) (by omega)) ?_
      simp (disch := omega) only [gr_hM, gs_hM, ml.2.1, ml.2.2.1, ml.2.2.2.1, ml.2.2.2.2.1, ml.2.2.2.2.2, hM_F, hM_N, hM_S, hM_A, hM_T, hM_R, hM_sF, hM_sN, hM_sS, hM_sA, hM_sT, hM_sR, pk_mul, nI_add, nI_clamp, upd_eq, upd_ne, hE]
      have e1 : upd (zeroN N e i) (e + i) (nI 0) = zeroN N e (i + 1) := by
        funext j
        unfold zeroN
        simp only [upd]
        by_cases z1 : j = e + i
        · rw [if_pos z1, if_pos (by omega)]; rfl
        · rw [if_neg z1]
          by_cases z2 : e ≤ j ∧ j < e + i
          · rw [if_pos z2, if_pos (by omega)]
          · rw [if_neg z2, if_neg (by omega)]
      rw [e1]
      exact ih (i + 1) (by omega) hh
  have zz : zeroN N e 0 = N := by
    funext j
    unfold zeroN
    rw [if_neg (by omega)]
  have lp0 := lp 64 0 (by omega)
  rw [zz] at lp0
  refine lp0 ?_
  refine B9_wraps_34 hw (fun _ => ?_) (fun c => absurd (nI_le (by omega) (by omega)) c)
  refine B9_wraps_58 hw ml.1 (t9_palletAt hw ml (by omega) (by omega) ?_)
  simp (disch := omega) only [gr_hM, gs_hM, ml.2.1, ml.2.2.1, ml.2.2.2.1, ml.2.2.2.2.1, ml.2.2.2.2.2, hM_F, hM_N, hM_S, hM_A, hM_T, hM_R, hM_sF, hM_sN, hM_sS, hM_sA, hM_sT, hM_sR, pk_mul, nI_add, nI_clamp, upd_eq, upd_ne, hE]
  refine B9_wraps_72 hw (ny0 := 596) (by simp (disch := omega) only [gr_hM, gs_hM, ml.2.1, ml.2.2.1, ml.2.2.2.1, ml.2.2.2.2.1, ml.2.2.2.2.2, hM_F, hM_N, hM_S, hM_A, hM_T, hM_R, hM_sF, hM_sN, hM_sS, hM_sA, hM_sT, hM_sR, pk_mul, nI_add, nI_clamp, upd_eq, upd_ne]; exact hs1) ml.1 (vp_in_nI (by omega) (by omega)) (by simp (disch := omega) only [gr_hM, gs_hM, ml.2.1, ml.2.2.1, ml.2.2.2.1, ml.2.2.2.2.1, ml.2.2.2.2.2, hM_F, hM_N, hM_S, hM_A, hM_T, hM_R, hM_sF, hM_sN, hM_sS, hM_sA, hM_sT, hM_sR, pk_mul, nI_add, nI_clamp, upd_eq, upd_ne, hE]; exact vp_in_nI (by omega) (by omega)) ?_
  simp (disch := omega) only [gr_hM, gs_hM, ml.2.1, ml.2.2.1, ml.2.2.2.1, ml.2.2.2.2.1, ml.2.2.2.2.2, hM_F, hM_N, hM_S, hM_A, hM_T, hM_R, hM_sF, hM_sN, hM_sS, hM_sA, hM_sT, hM_sR, pk_mul, nI_add, nI_clamp, upd_eq, upd_ne, hE, rg.2.1]
  have n1 : upd (upd (zeroN N e 64) e (zeroN N e 64 (140 + 6 * k + 0))) (e + 12) (nI z) 1 = nI w := by
    rw [upd_ne _ _ (by omega), upd_ne _ _ (by omega)]
    exact (if_neg (by omega)).trans pi.1
  refine B9_wraps_89 hw ml.1 (t9_palletGoes hw ml n1 hk hw8 ?_)
  have e2 : palletGoesN (upd (upd (zeroN N e 64) e (zeroN N e 64 (140 + 6 * k + 0))) (e + 12) (nI z)) w k = startN N w k e z := by
    unfold startN
    rw [show zeroN N e 64 (140 + 6 * k + 0) = N (140 + 6 * k) from if_neg (by omega)]
  rw [e2]
  have ti := start_TI (z := z) (w := w) (k := k) (lim := lim) he1 hw8 hz ri hth ht
  have si' : SI (startN N w k e z) acc := SI_congr (fun j hj => startN_lo he1 hw8 (by omega) (by omega)) si
  have ml1 := meas_le ti.1
  generalize startN N w k e z = N0 at *
  clear lp lp0 zz n1 e2
  refine B9_wraps_94 hw ?_
  have run : ∀ (dd i g c : Nat) (s : Nat × Nat × Nat) (F'' N1 : Nat → Int32), i + dd = acc.length → (g = 0 → RS F'' s) → s.1 ≤ 1000 ∧ s.2.1 ≤ 1000 ∧ s.2.2 ≤ 1000 → (∀ j, j ≠ 14 → j ≠ 15 → j ≠ 16 → F'' j = F' j) → TI N1 e z lim c th → meas N1 c < fu → SI N1 acc → g ≤ 2 → (g = 0 → runT fu e lim rnd z (crsL top (acc.drop i) s) N1 = runT fu e lim rnd z (crsL top acc (0, 40, 100)) N0) → (g ≠ 0 → (g, N1) = runT fu e lim rnd z (crsL top acc (0, 40, 100)) N0) → Ex ω M9_wraps 98 [some (.ref m), none, some (.int (nI g)), some (.int (nI i))] [] (hM h m F'' N1 S A T R) 0 0 Q := by
    intro dd
    have fin : ∀ (i g : Nat) (F'' N1 : Nat → Int32), (∀ j, j ≠ 14 → j ≠ 15 → j ≠ 16 → F'' j = F' j) → g ≤ 2 → (g, N1) = runT fu e lim rnd z (crsL top acc (0, 40, 100)) N0 → Ex ω M9_wraps 149 [some (.ref m), none, some (.int (nI g)), some (.int (nI i))] [] (hM h m F'' N1 S A T R) 0 0 Q := by
      intro i g F'' N1 hF hg he
      rw [← he] at hq
      refine x_dr3 (t9_wrapsE hw ml hs1 ((hF 9 (by omega) (by omega) (by omega)).trans hE) he1 he2 ((hF 12 (by omega) (by omega) (by omega)).trans rg.2.1) hz hg ?_)
      exact hq F'' ((hF 2 (by omega) (by omega) (by omega)).trans hF2) ((hF 5 (by omega) (by omega) (by omega)).trans hF5) ((hF 9 (by omega) (by omega) (by omega)).trans hE)
    induction dd with
    | zero =>
      intro i g c s F'' N1 hi hrs sl hF ti hm si1 hg q0 q1
      have hend : (g, N1) = runT fu e lim rnd z (crsL top acc (0, 40, 100)) N0 := by
        by_cases g0 : g = 0
        · have := q0 g0
          rw [List.drop_eq_nil_of_le (by omega)] at this
          rw [← this, g0]; rfl
        · exact q1 g0
      refine B9_wraps_98 hw ml.1 (fun _ => fin _ g F'' N1 hF hg hend) (fun c => ?_)
      simp (disch := omega) only [gr_hM, gs_hM, ml.2.1, ml.2.2.1, ml.2.2.2.1, ml.2.2.2.2.1, ml.2.2.2.2.2, hM_F, hM_N, hM_S, hM_A, hM_T, hM_R, hM_sF, hM_sN, hM_sS, hM_sA, hM_sT, hM_sR, pk_mul, nI_add, nI_clamp, upd_eq, upd_ne, si1.1] at c
      have := si.2.1
      exact absurd (nI_le (by omega) (by omega)) c
    | succ dd ih =>
      intro i g c s F'' N1 hi hrs sl hF ti hm si1 hg q0 q1
      have := si.2.1
      refine B9_wraps_98 hw ml.1 (fun c => ?_) (fun _ => ?_)
      · simp (disch := omega) only [gr_hM, gs_hM, ml.2.1, ml.2.2.1, ml.2.2.2.1, ml.2.2.2.2.1, ml.2.2.2.2.2, hM_F, hM_N, hM_S, hM_A, hM_T, hM_R, hM_sF, hM_sN, hM_sS, hM_sA, hM_sT, hM_sR, pk_mul, nI_add, nI_clamp, upd_eq, upd_ne, si1.1] at c
        exact absurd c (nI_ge (by omega) (by omega))
      refine B9_wraps_108 hw (fun c1 => ?_) (fun c1 => ?_)
      · rw [show (0 : Int32) = nI 0 from rfl, nI_eq (by omega) (by omega)] at c1
        exact fin _ g F'' N1 hF hg (q1 c1)
      · rw [show (0 : Int32) = nI 0 from rfl, nI_eq (by omega) (by omega)] at c1
        subst c1
        have hi' : i < acc.length := by omega
        obtain ⟨a1, a2, a3, a4, a5⟩ := SI_get si1 hi'
        have q0' := q0 rfl
        rw [List.drop_eq_getElem_cons hi', crsL, runT_app] at q0'
        refine B9_wraps_112 hw ml.1 (by simp only [pk_mul, nI_add]; exact vp_in_nI (by omega) (by omega)) (by simp only [pk_mul, nI_add]; exact vp_in_nI (by omega) (by omega)) ?_
        simp (disch := omega) only [gr_hM, gs_hM, ml.2.1, ml.2.2.1, ml.2.2.2.1, ml.2.2.2.2.1, ml.2.2.2.2.2, hM_F, hM_N, hM_S, hM_A, hM_T, hM_R, hM_sF, hM_sN, hM_sS, hM_sA, hM_sT, hM_sR, pk_mul, nI_add, nI_clamp, upd_eq, upd_ne, a1, a2]
        have rg'' : RG F'' e z rnd lim top := ⟨(hF 9 (by omega) (by omega) (by omega)).trans rg.1, (hF 12 (by omega) (by omega) (by omega)).trans rg.2.1, (hF 10 (by omega) (by omega) (by omega)).trans rg.2.2.1, (hF 11 (by omega) (by omega) (by omega)).trans rg.2.2.2.1, (hF 13 (by omega) (by omega) (by omega)).trans rg.2.2.2.2⟩
        have tl := stL_le (top := top) (q := acc[i]) rb.2.2.2.2.2 sl
        obtain ⟨c2, b1, b2, b3, b4⟩ := run_inv (fu := fu) (rnd := rnd) he1 he2 hz g4b rb.2.2.2.1 (stL top acc[i] s) N1 c tl ti hm
        refine t9_does hw ml hs1 rg'' rb (hrs rfl) sl a3 (amt300 a3 a5) (amt1 a4) ti hm (fun F3 h3 h4 => ?_)
        refine B9_wraps_142 hw ?_
        rw [nI_add]
        have si3 : SI (runT fu e lim rnd z (stL top acc[i] s) N1).2 acc := SI_congr (fun j hj => b2 j (by omega)) si1
        have hF3 : ∀ j, j ≠ 14 → j ≠ 15 → j ≠ 16 → F3 j = F' j := fun j j1 j2 j3 => (h4 j j1 j2 j3).trans (hF j j1 j2 j3)
        refine ih (i + 1) _ c2 (stE top acc[i] s) F3 _ (by omega) h3 (stE_le rb.2.2.2.2.2 (amt300 a3 a5) sl) hF3 b1 (by omega) si3 b4 (fun g0 => ?_) (fun g0 => ?_)
        · rw [if_pos g0] at q0'
          exact q0'
        · rw [if_neg g0] at q0'
          rw [← q0']
  exact run acc.length 0 0 c (0, 40, 100) F' N0 (by omega) (fun _ => rs) ⟨by decide, by decide, by decide⟩ (fun _ _ _ _ => rfl) ti (by omega) si' (by omega) (fun _ => by rw [List.drop_zero]) (fun g => absurd rfl g)
