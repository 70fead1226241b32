/-! the class: a turn, whole -/
theorem runV_lay {f p s p' s' N0 N : Nat → Int32} {e z y need rnd : Nat} {fo o : Int32} (r : runV f p s N0 N e z) (he1 : 212 ≤ e) (he2 : e ≤ 532) (hz : z ≤ 25) (hp : ∀ k, k < z → p' k = (if covP y k then p k + nI 1 else p k) ∧ s' k = (if covP y k then s k + fo else s k)) : runV (upd (upd (upd (upd (upd f 5 (f 5 + nI need)) 12 (f 12 + nI need * N 21)) 2 o) 3 (f 3 + nI 1)) 11 (f 11 + nI ((rnd + 39) / 40))) p' s' N0 (layZ (laysG N e need rnd) e y z fo) e z := by
  obtain ⟨⟨a0, a1, a2, a3, a4, a5, a6, a7, a8, a9⟩, ⟨b0, b1, b2, b3, b4, b5, b6, b7, b8, b9⟩, d⟩ := r
  have lz : ∀ j, (j < e + 13 ∨ e + 63 ≤ j) → layZ (laysG N e need rnd) e y z fo j = laysG N e need rnd j := fun j hj => layZ_ne hz hj
  refine ⟨⟨?_, ?_, ?_, ?_, ?_, ?_, ?_, ?_, ?_, ?_⟩, ⟨?_, ?_, ?_, ?_, ?_, ?_, ?_, ?_, ?_, ?_⟩, fun i hi => ⟨?_, ?_⟩⟩
  all_goals first
    | rw [lz _ (by omega), lz _ (by omega), lz _ (by omega), lz _ (by omega), lz _ (by omega)]
    | rw [lz _ (by omega)]
    | skip
  case refine_21 =>
    rw [(hp i hi).1, (d i hi).1, layZ_l hz hi, laysG_ne (by omega) (by omega) (by omega) (by omega) (by omega) (by omega) (by omega) (by omega) (by omega)]
  case refine_22 =>
    rw [(hp i hi).2, (d i hi).2, layZ_f hz hi, laysG_ne (by omega) (by omega) (by omega) (by omega) (by omega) (by omega) (by omega) (by omega) (by omega)]
  all_goals simp (disch := omega) only [laysG, lastsN, addC_ne, addC_eq, upd_eq, upd_ne, Nat.reduceAdd]
  all_goals first | assumption | skip
  all_goals simp only [← a0, ← a1, ← a2, ← a3, ← a4, ← a5, ← a6, ← a7, ← a8, ← a9, b0, b1, b2, b3, b4, b5, b6, b7, b8, b9]
  all_goals ac_rfl
theorem runV_skip {f p s N0 N : Nat → Int32} {e z : Nat} (r : runV f p s N0 N e z) (he1 : 212 ≤ e) (he2 : e ≤ 532) (hz : z ≤ 25) : runV (upd f 4 (f 4 + nI 1)) p s N0 (addC (addC N 16 (nI 1)) (e + 3) (nI 1)) e z := by
  obtain ⟨⟨a0, a1, a2, a3, a4, a5, a6, a7, a8, a9⟩, ⟨b0, b1, b2, b3, b4, b5, b6, b7, b8, b9⟩, d⟩ := r
  refine ⟨⟨?_, ?_, ?_, ?_, ?_, ?_, ?_, ?_, ?_, ?_⟩, ⟨?_, ?_, ?_, ?_, ?_, ?_, ?_, ?_, ?_, ?_⟩, fun i hi => ⟨?_, ?_⟩⟩
  case refine_21 => rw [addC_ne _ _ (by omega), addC_ne _ _ (by omega)]; exact (d i hi).1
  case refine_22 => rw [addC_ne _ _ (by omega), addC_ne _ _ (by omega)]; exact (d i hi).2
  all_goals simp (disch := omega) only [addC_ne, addC_eq, upd_eq, upd_ne]
  all_goals first | assumption | skip
  · rw [a3]
  · rw [b7]; ac_rfl
theorem RunFr.wi {x R : Nat} {hs h : AH} {f : Nat → Int32} (a : RunFr x R hs h) (b : R + 3 ≤ x ∨ x < R) : RunFr x R hs (wi h R f) := by
  refine a.trans ⟨rfl, rfl, fun _ _ => rfl, fun b h1 h2 => gi_wi_ne _ _ _ (by omega), fun k hk => ?_⟩
  rw [gi_wi_ne _ _ _ (by omega)]
theorem RunFr.w3 {x R : Nat} {hs h : AH} {f p s : Nat → Int32} (a : RunFr x R hs h) (b : R + 3 ≤ x ∨ x < R) : RunFr x R hs (w3 h R f p s) := by
  refine a.trans ⟨rfl, rfl, fun _ _ => rfl, fun b h1 h2 => w3_ne _ _ _ _ _ (by omega), fun k hk => ?_⟩
  rw [w3_ne _ _ _ _ _ (by omega)]
theorem RunR.keep {h h' : AH} {x R c : Nat} {N N' : Nat → Int32} (r : RunR h x c N) (l : LayX h x R) (c6 : c ≤ 6) (e : ∀ b, b < R → gi h' b = gi h b) (g : gr h' = gr h) (n : ∀ j, 20 ≤ j → j < 140 → N' j = N j) : RunR h' x c N' := by
  have b1 := l.2.2.2.1
  refine ⟨by rw [e _ (by omega)]; exact r.1, by rw [g]; exact r.2.1, fun i hi => ?_⟩
  obtain ⟨j, hj, ej, _⟩ := r.at l (i := i) (by omega)
  have er : rA h' x i = rA h x i := by unfold rA; rw [g]
  rw [er, e _ (by omega), e _ (by omega), e _ (by omega)]
  exact rollV_G (r.2.2 i hi) (fun k hk => n _ (by omega) (by omega))
theorem t5_turnOnce {ω : Om} {h : AH} {Q : Option Value → AH → Prop} (hw : ω.2.2.2.1 = true) {x R C P e z lim wd dp y ten st th c fu : Nat} {N N0 : Nat → Int32} (lx : LayX h x R) (bC : C < x ∨ x + 52 ≤ C) (sC : gs h C = some (0, 7)) (c4 : gi h C 4 = nI y) (c5 : gi h C 5 = nI ten) (c6 : gi h C 6 = nI st) (hy : y ≤ 1000) (ht : ten ≤ 1000) (hst : st ≤ 1000) (bP : x + 20 ≤ P ∧ P < x + 30) (sP : gs h P = some (1, 6)) (p1 : gi h P 1 = nI wd) (p2 : gi h P 2 = nI dp) (p4 : gi h P 4 = nI lim) (w2 : wd ≤ 200) (d2 : dp ≤ 200) (hl : lim ≤ 5000) (he1 : 212 ≤ e) (he2 : e ≤ 532) (hz : z ≤ 25) (ti : TI N e z lim c th) (x9 : gi h x 9 = N 4) (x10 : gi h x 10 = N 5) (hm : meas N c < fu) (hfu : fu ≤ 1000000) (rr : RunR h x c N) (rv : runV (gi h R) (gi h (R + 1)) (gi h (R + 2)) N0 N e z) (o2 : gi h R 2 = nI 0)
    (hq : ∀ (h' : AH) (c' : Nat), RunFr x R h h' → RunR h' x c' (turnN fu e lim (2 * (wd + dp)) z (y, ten, st) N).2 → ((turnN fu e lim (2 * (wd + dp)) z (y, ten, st) N).2 0 = nI c' ∧ c' ≤ 6) → runV (gi h' R) (gi h' (R + 1)) (gi h' (R + 2)) N0 (turnN fu e lim (2 * (wd + dp)) z (y, ten, st) N).2 e z → gi h' R 2 = nI (turnN fu e lim (2 * (wd + dp)) z (y, ten, st) N).1 → Q none h') : Ex ω M5_turnOnce 0 [some (.ref x), some (.ref P), some (.ref C), some (.ref R), none, none, none] [] h 0 0 Q := by
  obtain ⟨ri, hth, ht2, fo, wb⟩ := ti
  have b1 := lx.2.2.2.1
  have b2 := lx.2.2.2.2
  have hc6 := ri.2.1
  unfold turnN at hq
  dsimp only at hq
  refine B5_turnOnce_0 hw sC lx.2.2.1.1 ?_
  rw [c4, rv.1.2.1]
  refine t8_zonesEnd hw hy (by omega) (B5_turnOnce_11 hw sP sC ?_)
  rw [c4]
  refine t8_firstZone hw hy (B5_turnOnce_25 hw lx.2.2.1.1 (t3_greatestForce hw lx.2.2.1 (by omega) (by omega) (B5_turnOnce_30 hw sC ?_)))
  have ml := mostW_le (y := y) hl fo z (Nat.le_refl _)
  rw [mostW_gmxF hl fo (fun k hk => (rv.2.2 k hk).2), p4, pk_sub ml, c5]
  have tl := tB_le lim (mostW N e y z) ten
  refine t8_greatestTension hw ht (by omega) ?_
  rw [show min ten ((100 * (lim - mostW N e y z) + 99) / 141) = tB lim (mostW N e y z) ten from rfl]
  generalize tB lim (mostW N e y z) ten = t at *
  have nd : needF (2 * (wd + dp)) st < 2 ^ 30 := by
    unfold needF
    have : (2 * (wd + dp) * 100 + (100 + st) - 1) / (100 + st) ≤ 2 * (wd + dp) * 100 + (100 + st) - 1 := Nat.div_le_self _ _
    omega
  have go : ¬ (t = 0 ∧ 0 < ten) → Ex ω M5_turnOnce 67 [some (.ref x), some (.ref P), some (.ref C), some (.ref R), none, none, some (.int (nI t))] [] h 0 0 Q := by
    intro z1
    rw [if_neg z1] at hq
    refine B5_turnOnce_67 hw sC sP ?_
    rw [c6]
    refine t1_lengthOfTurn hw sP p1 p2 w2 d2 hst (B5_turnOnce_77 hw lx.1.1 (B5_fetchFilm_0 hw ?_))
    generalize needF (2 * (wd + dp)) st = need at *
    refine t5_fetchFilm hw (x := x) (R := R) (e := e) (z := z) (need := need) (rnd := 2 * (wd + dp)) (y := y) (t := t) (th := th) (N0 := N0) he1 he2 hz ht2 nd fu N c h 0 (RunFr.refl _ _ _) lx ri hth x9 x10 hm (by omega) rr rv (fun h' N1 c' f a1 a2 a3 a4 a5 a6 a7 => ?_) (fun h' g c' N' a1 a2 a3 a4 a5 a6 a7 a8 => ?_)
    · rw [a1] at hq
      dsimp only at hq
      have lx' := lx.run a2
      have gC : gi h' C = gi h C := a2.2.2.2.1 C (by omega) (by omega)
      have gP : gi h' P = gi h P := a2.2.2.2.1 P (by omega) (by omega)
      refine B5_turnOnce_83 hw lx'.2.2.1.1 lx'.2.2.1.1 (fun c => absurd (by simp (disch := omega) only [si_wi, sr_wr, sl_wl, gi_wi, gi_wi_ne, gr_wi, gs_wi, gl_wi, gi_wr, gr_wr, gr_wr_ne, gs_wr, gl_wr, gi_wl, gr_wl, gs_wl, gl_wl, gl_wl_ne, wi_wi, wr_wr, updN_eq, updN_ne, pk_mul, nI_add, nI_clamp, upd_eq, upd_ne]; rfl) c) (fun _ => ?_)
      simp (disch := omega) only [si_wi, sr_wr, sl_wl, gi_wi, gi_wi_ne, gr_wi, gs_wi, gl_wi, gi_wr, gr_wr, gr_wr_ne, gs_wr, gl_wr, gi_wl, gr_wl, gs_wl, gl_wl, gl_wl_ne, wi_wi, wr_wr, updN_eq, updN_ne, pk_mul, nI_add, nI_clamp, upd_eq, upd_ne]
      refine B5_turnOnce_93 hw (by exact lx'.2.2.1.1) (by rw [gs_wi, a2.1]; exact sP) ?_
      simp (disch := omega) only [si_wi, sr_wr, sl_wl, gi_wi, gi_wi_ne, gr_wi, gs_wi, gl_wi, gi_wr, gr_wr, gr_wr_ne, gs_wr, gl_wr, gi_wl, gr_wl, gs_wl, gl_wl, gl_wl_ne, wi_wi, wr_wr, updN_eq, updN_ne, pk_mul, nI_add, nI_clamp, upd_eq, upd_ne]
      refine t1_timeOfTurn hw (by rw [gs_wi, a2.1]; exact sP) (by rw [gi_wi_ne _ _ _ (by omega), gP]; exact p1) (by rw [gi_wi_ne _ _ _ (by omega), gP]; exact p2) w2 d2 (B5_turnOnce_112 hw (by exact lx'.2.2.1.1) (by rw [gs_wi, a2.1]; exact sC) ?_)
      simp (disch := omega) only [si_wi, sr_wr, sl_wl, gi_wi, gi_wi_ne, gr_wi, gs_wi, gl_wi, gi_wr, gr_wr, gr_wr_ne, gs_wr, gl_wr, gi_wl, gr_wl, gs_wl, gl_wl, gl_wl_ne, wi_wi, wr_wr, updN_eq, updN_ne, pk_mul, nI_add, nI_clamp, upd_eq, upd_ne]
      refine B8_forceOf_0 hw (B5_turnOnce_126 hw (by exact lx'.2.2.1.1) ?_)
      rw [gC, c4, ← show forceF (nI t) = nI t * nI 141 / nI 100 from rfl]
      rw [a5]
      simp (disch := omega) only [si_wi, sr_wr, sl_wl, gi_wi, gi_wi_ne, gr_wi, gs_wi, gl_wi, gi_wr, gr_wr, gr_wr_ne, gs_wr, gl_wr, gi_wl, gr_wl, gs_wl, gl_wl, gl_wl_ne, wi_wi, wr_wr, updN_eq, updN_ne, pk_mul, nI_add, nI_clamp, upd_eq, upd_ne, wi_w3]
      refine t3_addLayer hw lx'.2.2.1 (z := z) ?_ hz hy (fun p' s' hp => B5_turnOnce_129 hw ?_)
      · simp (disch := omega) only [si_wi, sr_wr, sl_wl, gi_wi, gi_wi_ne, gr_wi, gs_wi, gl_wi, gi_wr, gr_wr, gr_wr_ne, gs_wr, gl_wr, gi_wl, gr_wl, gs_wl, gl_wl, gl_wl_ne, wi_wi, wr_wr, updN_eq, updN_ne, pk_mul, nI_add, nI_clamp, upd_eq, upd_ne]
        exact a4.1.2.1
      have rv2 := runV_lay (need := need) (rnd := 2 * (wd + dp)) (o := nI 0) a4 he1 he2 hz hp
      refine hq _ c' (a2.w3 (by omega)) (a3.keep lx' a7.2 (fun b hb => w3_ne _ _ _ _ _ (by omega)) rfl (fun j h1 h2 => ?_)) ⟨?_, a7.2⟩ ?_ ?_
      · rw [layZ_ne hz (by omega)]
        by_cases j2 : j = 22
        · subst j2; rw [laysG_22 he1, upd_eq]
        · rw [laysG_ne (by omega) (by omega) (by omega) (by omega) (by omega) (by omega) (by omega) (by omega) (by omega), upd_ne _ _ j2]
      · rw [layZ_ne hz (by omega), laysG_ne (by omega) (by omega) (by omega) (by omega) (by omega) (by omega) (by omega) (by omega) (by omega)]; exact a7.1
      · rw [w3_0, w3_1, w3_2]; exact rv2
      · rw [w3_0]
        simp (disch := omega) only [si_wi, sr_wr, sl_wl, gi_wi, gi_wi_ne, gr_wi, gs_wi, gl_wi, gi_wr, gr_wr, gr_wr_ne, gs_wr, gl_wr, gi_wl, gr_wl, gs_wl, gl_wl, gl_wl_ne, wi_wi, wr_wr, updN_eq, updN_ne, pk_mul, nI_add, nI_clamp, upd_eq, upd_ne]
    · rw [a1] at hq
      dsimp only at hq
      have lx' := lx.run a4
      refine B5_turnOnce_83 hw lx'.2.2.1.1 lx'.2.2.1.1 (fun _ => ?_) (fun c => ?_)
      · simp (disch := omega) only [si_wi, sr_wr, sl_wl, gi_wi, gi_wi_ne, gr_wi, gs_wi, gl_wi, gi_wr, gr_wr, gr_wr_ne, gs_wr, gl_wr, gi_wl, gr_wl, gs_wl, gl_wl, gl_wl_ne, wi_wi, wr_wr, updN_eq, updN_ne, pk_mul, nI_add, nI_clamp, upd_eq, upd_ne]
        have eo : ∀ k, k ≠ 2 → upd (gi h' R) 2 (nI g) k = gi h' R k := fun k hk => upd_ne _ _ hk
        refine B5_turnOnce_129 hw (hq _ c' (a4.wi (by omega)) (a5.keep lx' a8.2 (fun b hb => gi_wi_ne _ _ _ (by omega)) rfl (fun _ _ _ => rfl)) a8 ?_ (by rw [gi_wi, upd_eq]))
        rw [gi_wi, gi_wi_ne _ _ _ (by omega), gi_wi_ne _ _ _ (by omega)]
        unfold runV
        rw [eo 0 (by omega), eo 1 (by omega), eo 3 (by omega), eo 4 (by omega), eo 5 (by omega), eo 6 (by omega), eo 7 (by omega), eo 8 (by omega), eo 9 (by omega), eo 10 (by omega), eo 11 (by omega), eo 12 (by omega)]
        exact a6
      · simp (disch := omega) only [si_wi, sr_wr, sl_wl, gi_wi, gi_wi_ne, gr_wi, gs_wi, gl_wi, gi_wr, gr_wr, gr_wr_ne, gs_wr, gl_wr, gi_wl, gr_wl, gs_wl, gl_wl, gl_wl_ne, wi_wi, wr_wr, updN_eq, updN_ne, pk_mul, nI_add, nI_clamp, upd_eq, upd_ne] at c
        rw [show (0 : Int32) = nI 0 from rfl, nI_eq (by omega) (by omega)] at c
        exact absurd c a2
  refine B5_turnOnce_42 hw (fun z1 => ?_) (fun z1 => ?_)
  · exact go (fun q => z1 (by rw [q.1]; rfl))
  · rw [show (0 : Int32) = nI 0 from rfl, nI_eq (by omega) (by omega)] at z1
    refine B5_turnOnce_49 hw sC (fun z2 => ?_) (fun z2 => ?_)
    · rw [c5, show (0 : Int32) = nI 0 from rfl, nI_eq (by omega) (by omega)] at z2
      exact go (by omega)
    · rw [c5, show (0 : Int32) = nI 0 from rfl, nI_eq (by omega) (by omega)] at z2
      rw [if_pos ⟨z1, by omega⟩] at hq
      refine B5_turnOnce_56 hw lx.2.2.1.1 ?_
      simp (disch := omega) only [si_wi, sr_wr, sl_wl, gi_wi, gi_wi_ne, gr_wi, gs_wi, gl_wi, gi_wr, gr_wr, gr_wr_ne, gs_wr, gl_wr, gi_wl, gr_wl, gs_wl, gl_wl, gl_wl_ne, wi_wi, wr_wr, updN_eq, updN_ne, pk_mul, nI_add, nI_clamp, upd_eq, upd_ne]
      refine hq _ c ((RunFr.refl x R h).wi (by omega)) (rr.keep lx hc6 (fun b hb => gi_wi_ne _ _ _ (by omega)) rfl (fun j h1 h2 => ?_)) ⟨?_, hc6⟩ ?_ ?_
      · show addC (addC N 16 (nI 1)) (e + 3) (nI 1) j = N j
        rw [addC_ne _ _ (by omega), addC_ne _ _ (by omega)]
      · show addC (addC N 16 (nI 1)) (e + 3) (nI 1) 0 = nI c
        rw [addC_ne _ _ (by omega), addC_ne _ _ (by omega)]; exact ri.1
      · rw [gi_wi, gi_wi_ne _ _ _ (by omega), gi_wi_ne _ _ _ (by omega)]; exact runV_skip rv he1 he2 hz
      · rw [gi_wi, upd_ne _ _ (by omega)]; exact o2

