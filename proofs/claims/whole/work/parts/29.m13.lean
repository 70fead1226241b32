theorem fetchN_succ (e t need rnd y z fu : Nat) (N : Nat → Int32) : fetchN e t need rnd y z (fu + 1) N = if N 0 = 0 then (1, N) else if N 20 - N 22 < nI need then fetchN e t need rnd y z fu (chgN N e (nn (N 0))) else
    match brkF N t need (nn (N 23)) with
    | some p => if breaksN N e p (e + 6) ≤ breaksN N e p 5 then fetchN e t need rnd y z fu (breaksN N e p) else (2, breaksN N e p)
    | none => (0, layZ (laysG N e need rnd) e y z (forceF (nI t))) := rfl
theorem t9_fetch {ω : Om} {h : AH} {m : Nat} {F S A T R : Nat → Int32} {Q : Option Value → AH → Prop} (hw : ω.2.2.2.1 = true) (ml : ML h m) (hs1 : gs h (m + 1) = some (10, 596)) {e z y rnd need t th : Nat} (hE : F 9 = nI e) (he1 : 212 ≤ e) (he2 : e ≤ 532) (hZ : F 12 = nI z) (hz : z ≤ 25) (hY : F 14 = nI y) (hy : y ≤ 1000) (hR : F 10 = nI rnd) (hr : rnd ≤ 1000) (ht2 : th ≤ 500) : ∀ (fu : Nat) (N : Nat → Int32) (c : Nat), RI N c → N 4 = nI th → meas N c < fu → Q (some (.int (nI (fetchN e t need rnd y z fu N).1))) (hM h m F (fetchN e t need rnd y z fu N).2 S A T R) → Ex ω M9_turns 62 [some (.ref m), some (.int (nI t)), some (.int (nI need)), none, none] [] (hM h m F N S A T R) 0 0 Q := by
  intro fu
  induction fu with
  | zero => intro N c _ _ hm; omega
  | succ fu ih =>
    intro N c ri hth hm hq
    rw [fetchN_succ] at hq
    have h0 := ri.1
    have hc6 := ri.2.1
    refine B9_turns_62 hw ml.1 (fun c1 => ?_) (fun c1 => ?_)
    · simp (disch := omega) only [gr_hM, gs_hM, ml.2.1, ml.2.2.1, ml.2.2.2.1, ml.2.2.2.2.1, ml.2.2.2.2.2, hM_F, hM_N, hM_S, hM_A, hM_T, hM_R, hM_sF, hM_sN, hM_sS, hM_sA, hM_sT, hM_sR, pk_mul, nI_add, nI_clamp, upd_eq, upd_ne, h0] at c1
      rw [show (0 : Int32) = nI 0 from rfl, nI_leI (by omega) (by omega)] at c1
      rw [if_pos (by rw [h0, show c = 0 from by omega]; rfl)] at hq
      exact B9_turns_191 hw hq
    · simp (disch := omega) only [gr_hM, gs_hM, ml.2.1, ml.2.2.1, ml.2.2.2.1, ml.2.2.2.2.1, ml.2.2.2.2.2, hM_F, hM_N, hM_S, hM_A, hM_T, hM_R, hM_sF, hM_sN, hM_sS, hM_sA, hM_sT, hM_sR, pk_mul, nI_add, nI_clamp, upd_eq, upd_ne, h0] at c1
      rw [show (0 : Int32) = nI 0 from rfl, nI_leI (by omega) (by omega)] at c1
      rw [if_neg (by rw [h0, show (0 : Int32) = nI 0 from rfl, nI_eq (by omega) (by omega)]; omega)] at hq
      obtain ⟨l, wt, pos, wk, hl, hl1, hl2, _, _, _, hpos, hpl, hwk, hwk8, hws⟩ := RI_first ri (by omega)
      refine B9_turns_71 hw ml.1 (t9_rollAt hw ml (i := 0) (by omega) (by omega) ?_)
      refine B9_turns_77 hw ml.1 (t9_rollAt hw ml (i := 0) (by omega) (by omega) ?_)
      refine B9_turns_83 hw ml.1 (t9_weakBehind hw ml (i := 0) (by omega) hwk hwk8 (fun b wi => ?_))
      rw [show 20 + 20 * 0 + 0 = 20 from rfl, show 20 + 20 * 0 + 2 = 22 from rfl]
      refine B9_turns_91 hw (fun c2 => ?_) (fun c2 => ?_)
      · rw [if_neg (Int32.not_lt.mpr c2)] at hq
        have lay : brkF N t need (nn (N 23)) = none → Ex ω M9_turns 180 [some (.ref m), some (.int (nI t)), some (.int (nI need)), none, some (.int b)] [] (hM h m F N S A T R) 0 0 Q := by
          intro hb
          rw [hb] at hq
          exact B9_turns_180 hw ml.1 (t9_lays hw ml hs1 hE he1 he2 hZ hz hY hy hR hr (B9_turns_186 hw hq))
        rw [hwk, nn_nI (by omega)] at hq lay
        rcases wkI_wkB wi with ⟨e1, e2⟩ | ⟨b', b2, hb', e1, e2, hb2, e3⟩
        · refine B9_turns_144 hw (fun _ => ?_) (fun c3 => ?_)
          · exact lay (by unfold brkF; rw [e2])
          · rw [e1] at c3
            exact absurd (by decide) c3
        · refine B9_turns_144 hw (fun c3 => ?_) (fun c3 => ?_)
          · rw [e1] at c3
            exact absurd c3 (nI_pos (by omega))
          · subst e1
            refine B9_turns_149 hw ml.1 ?_
            rw [nI_add]
            refine t9_rollAt hw ml (i := 0) (by omega) (by omega) ?_
            rw [show 20 + 20 * 0 + (4 + b') = 24 + b' from by omega]
            refine B9_turns_158 hw ml.1 (t9_rollAt hw ml (i := 0) (by omega) (by omega) ?_)
            rw [show 20 + 20 * 0 + 2 = 22 from rfl]
            refine B9_turns_164 hw (fun c4 => ?_) (fun c4 => ?_)
            · refine lay ?_
              unfold brkF
              rw [e2]
              show (if N (24 + b2) ≤ N 22 + nI need then some (N (24 + b2)) else none) = none
              rw [if_neg]
              rw [← e3]
              exact Int32.not_le.mpr c4
            · have hb : brkF N t need wk = some (N (24 + b')) := by
                unfold brkF
                rw [e2]
                show (if N (24 + b2) ≤ N 22 + nI need then some (N (24 + b2)) else none) = _
                rw [← e3, if_pos (Int32.not_lt.mp c4)]
              rw [hb] at hq
              obtain ⟨p, s, hp, hp1, hp2, _, _⟩ := hws b' hb'
              have hpp : pos < p := by
                rcases wkB_spec N (nI t) wk with ⟨g, _⟩ | ⟨b3, g0, g1, g2, g3⟩
                · rw [e2] at g; exact absurd g (by simp)
                · rw [e2] at g1
                  rw [← Option.some.inj g1] at g2
                  have := g2.1
                  rw [← e3, hp, hpos, nI_ltI (by omega) (by omega)] at this
                  exact this
              refine B9_turns_169 hw ml.1 (t9_breaks hw ml hE he1 he2 (by omega) (fun c5 => ?_) (fun c5 => ?_))
              · refine B9_turns_175 hw (fun z => absurd z (by decide)) (fun _ => B9_turns_178 hw ?_)
                replace hq : Q (some (.int (nI (if breaksN N e (N (24 + b')) (e + 6) ≤ breaksN N e (N (24 + b')) 5 then fetchN e t need rnd y z fu (breaksN N e (N (24 + b'))) else (2, breaksN N e (N (24 + b')))).1))) (hM h m F (if breaksN N e (N (24 + b')) (e + 6) ≤ breaksN N e (N (24 + b')) 5 then fetchN e t need rnd y z fu (breaksN N e (N (24 + b'))) else (2, breaksN N e (N (24 + b')))).2 S A T R) := hq
                rw [if_neg c5] at hq
                exact hq
              · refine B9_turns_175 hw (fun _ => B9_turns_188 hw ?_) (fun z => absurd rfl z)
                replace hq : Q (some (.int (nI (if breaksN N e (N (24 + b')) (e + 6) ≤ breaksN N e (N (24 + b')) 5 then fetchN e t need rnd y z fu (breaksN N e (N (24 + b'))) else (2, breaksN N e (N (24 + b')))).1))) (hM h m F (if breaksN N e (N (24 + b')) (e + 6) ≤ breaksN N e (N (24 + b')) 5 then fetchN e t need rnd y z fu (breaksN N e (N (24 + b'))) else (2, breaksN N e (N (24 + b')))).2 S A T R) := hq
                rw [if_pos c5] at hq
                rw [hp] at hq ⊢
                have mb := meas_brk he1 ri (by omega) hth ht2 hl (by omega) (by omega : p ≤ l) hpos hpp
                exact ih _ c (RI_brk he1 ri (by omega) hth ht2 hl (by omega) (by omega)).1 ((brk_ne _ he1 (by omega) (by omega) (by omega) (by omega) (by omega) (by omega) (by omega)).trans hth) (by omega) hq
      · rw [if_pos (Int32.not_le.mp c2), h0, nn_nI (by omega)] at hq
        obtain ⟨c', rfl⟩ : ∃ c', c = c' + 1 := ⟨c - 1, by omega⟩
        refine B9_turns_98 hw ml.1 (t9_wastes hw ml hE he1 he2 (by omega) (by omega) ?_)
        have w0 : wastesN N e 2 (N 20 - N 22) 0 = nI (c' + 1) := (wastes_ne _ _ (by omega) (by omega) (by omega)).trans h0
        refine B9_turns_104 hw ml.1 (t9_rollGoes hw ml w0 (by omega) hc6 ?_)
        have hin0 : vp_in (F 9 + nI 7) 596 := by rw [hE, nI_add]; exact vp_in_nI (by omega) (by omega)
        refine B9_turns_108 hw ml.1 (by simp (disch := omega) only [gr_hM, gs_hM, ml.2.1, ml.2.2.1, ml.2.2.2.1, ml.2.2.2.2.1, ml.2.2.2.2.2, hM_F, hM_N, hM_S, hM_A, hM_T, hM_R, hM_sF, hM_sN, hM_sS, hM_sA, hM_sT, hM_sR, pk_mul, nI_add, nI_clamp, upd_eq, upd_ne]; exact hin0) (by simp (disch := omega) only [gr_hM, gs_hM, ml.2.1, ml.2.2.1, ml.2.2.2.1, ml.2.2.2.2.1, ml.2.2.2.2.2, hM_F, hM_N, hM_S, hM_A, hM_T, hM_R, hM_sF, hM_sN, hM_sS, hM_sA, hM_sT, hM_sR, pk_mul, nI_add, nI_clamp, upd_eq, upd_ne]; exact hin0) ?_
        simp (disch := omega) only [gr_hM, gs_hM, ml.2.1, ml.2.2.1, ml.2.2.2.1, ml.2.2.2.2.1, ml.2.2.2.2.2, hM_F, hM_N, hM_S, hM_A, hM_T, hM_R, hM_sF, hM_sN, hM_sS, hM_sA, hM_sT, hM_sR, pk_mul, nI_add, nI_clamp, upd_eq, upd_ne, hE]
        have en : upd (upd (rollGoesN (wastesN N e 2 (N 20 - N 22)) (c' + 1)) 14 (rollGoesN (wastesN N e 2 (N 20 - N 22)) (c' + 1) 14 + nI 1)) (e + 7) (rollGoesN (wastesN N e 2 (N 20 - N 22)) (c' + 1) (e + 7) + nI 1) = addC (addC (rollGoesN (wastesN N e 2 (N 20 - N 22)) (c' + 1)) 14 (nI 1)) (e + 7) (nI 1) := by
          unfold addC
          rw [upd_ne _ _ (by omega : e + 7 ≠ 14)]
        rw [en]
        refine B9_turns_135 hw ml.1 (t9_lasts hw ml hE he1 he2 (B9_turns_141 hw (B9_turns_188 hw ?_)))
        have mc := meas_chg he1 ri
        exact ih _ c' (RI_chg he1 ri) ((chg_lo he1 (by omega) (by omega) (by omega) (by omega) (by omega) (by omega)).trans hth) (by show meas (chgN N e (c' + 1)) c' < fu; omega) hq
def needF (rnd st : Nat) : Nat := (rnd * 100 + (100 + st) - 1) / (100 + st)
/-- a turn at height, tension, stretch: by what the pallet is given up, or 0 -/
def turnN (fu e lim rnd z : Nat) (q : Nat × Nat × Nat) (N : Nat → Int32) : Nat × (Nat → Int32) :=
  if tB lim (mostW N e q.1 z) q.2.1 = 0 ∧ 0 < q.2.1 then (0, addC (addC N 16 (nI 1)) (e + 3) (nI 1)) else fetchN e (tB lim (mostW N e q.1 z) q.2.1) (needF rnd q.2.2) rnd q.1 z fu N
theorem t9_turns {ω : Om} {h : AH} {m : Nat} {F N S A T R : Nat → Int32} {Q : Option Value → AH → Prop} (hw : ω.2.2.2.1 = true) (ml : ML h m) (hs1 : gs h (m + 1) = some (10, 596)) {fu e z y rnd lim ten st th c : Nat} (hE : F 9 = nI e) (he1 : 212 ≤ e) (he2 : e ≤ 532) (hZ : F 12 = nI z) (hz : z ≤ 25) (hY : F 14 = nI y) (hy : y ≤ 1000) (hR : F 10 = nI rnd) (hr : rnd ≤ 1000) (hL : F 11 = nI lim) (hl : lim ≤ 5000) (hT : F 15 = nI ten) (ht : ten ≤ 1000) (hS : F 16 = nI st) (hs : st ≤ 1000) (ht2 : th ≤ 500) (fo : FoOk N e z lim) (ri : RI N c) (hth : N 4 = nI th) (hm : meas N c < fu) (hq : Q (some (.int (nI (turnN fu e lim rnd z (y, ten, st) N).1))) (hM h m F (turnN fu e lim rnd z (y, ten, st) N).2 S A T R)) : Ex ω M9_turns 0 [some (.ref m), none, none, none, none] [] (hM h m F N S A T R) 0 0 Q := by
  unfold turnN at hq
  refine B9_turns_0 hw ml.1 (t9_bearable hw ml hE he1 he2 hZ hz hY hy hL hl hT ht fo ?_)
  replace hq : Q (some (.int (nI (if tB lim (mostW N e y z) ten = 0 ∧ 0 < ten then (0, addC (addC N 16 (nI 1)) (e + 3) (nI 1)) else fetchN e (tB lim (mostW N e y z) ten) (needF rnd st) rnd y z fu N).1))) (hM h m F (if tB lim (mostW N e y z) ten = 0 ∧ 0 < ten then (0, addC (addC N 16 (nI 1)) (e + 3) (nI 1)) else fetchN e (tB lim (mostW N e y z) ten) (needF rnd st) rnd y z fu N).2 S A T R) := hq
  have tl := tB_le lim (mostW N e y z) ten
  generalize tB lim (mostW N e y z) ten = t at *
  have go : ¬ (t = 0 ∧ 0 < ten) → Ex ω M9_turns 44 [some (.ref m), some (.int (nI t)), none, none, none] [] (hM h m F N S A T R) 0 0 Q := by
    intro c1
    rw [if_neg c1] at hq
    refine B9_turns_44 hw ml.1 ?_
    simp (disch := omega) only [gr_hM, gs_hM, ml.2.1, ml.2.2.1, ml.2.2.2.1, ml.2.2.2.2.1, ml.2.2.2.2.2, hM_F, hM_N, hM_S, hM_A, hM_T, hM_R, hM_sF, hM_sN, hM_sS, hM_sA, hM_sT, hM_sR, pk_mul, nI_add, nI_clamp, upd_eq, upd_ne, hR, hS]
    refine t9_up hw (by rw [show (0 : Int32) = nI 0 from rfl, nI_eq (by omega) (by omega)]; omega) ?_
    have en : (nI (rnd * 100) + nI (100 + st) - nI 1) / nI (100 + st) = nI (needF rnd st) := by
      unfold needF
      rw [nI_add, pk_sub (by omega), pk_div (by omega) (by omega) (by omega)]
    rw [en]
    exact B9_turns_61 hw (t9_fetch hw ml hs1 hE he1 he2 hZ hz hY hy hR hr ht2 fu N c ri hth hm hq)
  refine B9_turns_4 hw (fun c1 => ?_) (fun c1 => ?_)
  · refine go (fun q => c1 ?_)
    rw [q.1]; rfl
  · rw [show (0 : Int32) = nI 0 from rfl, nI_eq (by omega) (by omega)] at c1
    refine B9_turns_9 hw ml.1 (fun c2 => ?_) (fun c2 => ?_)
    · simp (disch := omega) only [gr_hM, gs_hM, ml.2.1, ml.2.2.1, ml.2.2.2.1, ml.2.2.2.2.1, ml.2.2.2.2.2, hM_F, hM_N, hM_S, hM_A, hM_T, hM_R, hM_sF, hM_sN, hM_sS, hM_sA, hM_sT, hM_sR, pk_mul, nI_add, nI_clamp, upd_eq, upd_ne, hT] at c2
      rw [show (0 : Int32) = nI 0 from rfl, nI_leI (by omega) (by omega)] at c2
      exact go (by omega)
    · simp (disch := omega) only [gr_hM, gs_hM, ml.2.1, ml.2.2.1, ml.2.2.2.1, ml.2.2.2.2.1, ml.2.2.2.2.2, hM_F, hM_N, hM_S, hM_A, hM_T, hM_R, hM_sF, hM_sN, hM_sS, hM_sA, hM_sT, hM_sR, pk_mul, nI_add, nI_clamp, upd_eq, upd_ne, hT] at c2
      rw [show (0 : Int32) = nI 0 from rfl, nI_leI (by omega) (by omega)] at c2
      rw [if_pos ⟨c1, by omega⟩] at hq
      have hin0 : vp_in (F 9 + nI 3) 596 := by rw [hE, nI_add]; exact vp_in_nI (by omega) (by omega)
      refine B9_turns_16 hw ml.1 (by simp (disch := omega) only [gr_hM, gs_hM, ml.2.1, ml.2.2.1, ml.2.2.2.1, ml.2.2.2.2.1, ml.2.2.2.2.2, hM_F, hM_N, hM_S, hM_A, hM_T, hM_R, hM_sF, hM_sN, hM_sS, hM_sA, hM_sT, hM_sR, pk_mul, nI_add, nI_clamp, upd_eq, upd_ne]; exact hin0) (by simp (disch := omega) only [gr_hM, gs_hM, ml.2.1, ml.2.2.1, ml.2.2.2.1, ml.2.2.2.2.1, ml.2.2.2.2.2, hM_F, hM_N, hM_S, hM_A, hM_T, hM_R, hM_sF, hM_sN, hM_sS, hM_sA, hM_sT, hM_sR, pk_mul, nI_add, nI_clamp, upd_eq, upd_ne]; exact hin0) (B9_turns_42 hw ?_)
      simp (disch := omega) only [gr_hM, gs_hM, ml.2.1, ml.2.2.1, ml.2.2.2.1, ml.2.2.2.2.1, ml.2.2.2.2.2, hM_F, hM_N, hM_S, hM_A, hM_T, hM_R, hM_sF, hM_sN, hM_sS, hM_sA, hM_sT, hM_sR, pk_mul, nI_add, nI_clamp, upd_eq, upd_ne, hE]
      unfold addC at hq
      rw [upd_ne _ _ (by omega : e + 3 ≠ 16)] at hq
      exact hq
