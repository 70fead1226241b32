/-! the class: the turns of a wrapping -/
theorem dnL_len (a ten st : Nat) : ∀ f h, (dnL a ten st f h).length ≤ f := by
  intro f
  induction f with
  | zero => intro h; exact Nat.le_refl _
  | succ f ih =>
    intro h
    show (if 0 < h then (h - a, ten, st) :: dnL a ten st f (h - a) else []).length ≤ f + 1
    by_cases c : 0 < h
    · rw [if_pos c]; have := ih (h - a); simp only [List.length_cons]; omega
    · rw [if_neg c]; exact Nat.zero_le _
theorem stL_len {top : Nat} {q : Nat × Nat} {s : Nat × Nat × Nat} (ht : top ≤ 1000) (qa : q.2 ≤ 300) (hs : s.1 ≤ 1000) : (stL top q s).length ≤ 1000 := by
  unfold stL
  split
  · rw [List.length_replicate]; omega
  split
  · exact Nat.le_trans (upL_len _ _ _ _ _ _) ht
  split
  · exact Nat.le_trans (dnL_len _ _ _ _ _) hs
  · exact Nat.zero_le _
theorem crsL_len {top : Nat} (ht : top ≤ 1000) : ∀ (acc : List (Nat × Nat)) (s : Nat × Nat × Nat), StepsOk acc → TLb s → (crsL top acc s).length ≤ 1000 * acc.length := by
  intro acc
  induction acc with
  | nil => intro s _ _; exact Nat.zero_le _
  | cons q r ih =>
    intro s so sl
    have q1 := so q (List.mem_cons_self ..)
    have qa := amt300 q1.1 q1.2.2
    have e := ih (stE top q s) (fun y hy => so y (List.mem_cons_of_mem _ hy)) (stE_le ht qa sl)
    have e2 := stL_len (q := q) ht qa sl.1
    show (stL top q s ++ crsL top r (stE top q s)).length ≤ 1000 * (r.length + 1)
    rw [List.length_append]
    omega
theorem t0_begin {ω : Om} {h : AH} {Q : Option Value → AH → Prop} (hw : ω.2.2.2.1 = true) {C pr top : Nat} (sC : gs h C = some (0, 7)) (sp : gs h pr = some (2, 3)) (hq : ∀ f : Nat → Int32, CrsV f top 0 0 (0, 40, 100) → Q none (wi (wr h C (updN (gr h C) 0 pr)) C f)) : Ex ω M0_begin 0 [some (.ref C), some (.ref pr), some (.int (nI top))] [] h 0 0 Q := by
  refine B0_begin_0 hw sC sp ?_
  simp (disch := omega) only [si_wi, sr_wr, sl_wl, gi_wi, gi_wi_ne, gr_wi, gs_wi, gl_wi, gi_wr, gr_wr, gr_wr_ne, gs_wr, gl_wr, gi_wl, gr_wl, gs_wl, gl_wl, gl_wl_ne, wi_wi, wr_wr, updN_eq, updN_ne, pk_mul, nI_add, nI_clamp, upd_eq, upd_ne]
  exact hq _ ⟨rfl, rfl, rfl, rfl, rfl, rfl⟩
theorem t5_wrapLoop {ω : Om} {h : AH} {Q : Option Value → AH → Prop} (hw : ω.2.2.2.1 = true) {x R C P e z lim wd dp top fu th : Nat} {N0 : Nat → Int32} {acc : List (Nat × Nat)} (lx : LayX h x R) (bC : C < x ∨ x + 52 ≤ C) (sC : gs h C = some (0, 7)) (rC : gr h C 0 = x + 48) (pv : progV (gi h (x + 48)) (gi h (x + 49)) (gi h (x + 50)) acc) (ok : StepsOk acc) (htop : top ≤ 1000) (bP : x + 20 ≤ P ∧ P < x + 30) (sP : gs h P = some (1, 6)) (p1 : gi h P 1 = nI wd) (p2 : gi h P 2 = nI dp) (p4 : gi h P 4 = nI lim) (w2 : wd ≤ 200) (d2 : dp ≤ 200) (hl : lim ≤ 5000) (he1 : 212 ≤ e) (he2 : e ≤ 532) (hz : z ≤ 25) (hfu : fu ≤ 1000000) :
    ∀ (L : List (Nat × Nat × Nat)) (N : Nat → Int32) (c : Nat) (h1 : AH) (r i sd : Nat) (f : Nat → Int32) (s : Nat × Nat × Nat), RunFr x R (wi h C f) h1 → CrsV f top i sd s → i ≤ acc.length → sd ≤ 1000 → TLb s → curL top (acc.drop i) sd s = L → r + L.length < 1000000 → TI N e z lim c th → gi h1 x 9 = N 4 → gi h1 x 10 = N 5 → meas N c < fu → RunR h1 x c N → runV (gi h1 R) (gi h1 (R + 1)) (gi h1 (R + 2)) N0 N e z → gi h1 R 2 = nI 0 →
    (∀ (h' : AH) (c' r' : Nat) (f' : Nat → Int32), RunFr x R (wi h C f') h' → RunR h' x c' (runT fu e lim (2 * (wd + dp)) z L N).2 → ((runT fu e lim (2 * (wd + dp)) z L N).2 0 = nI c' ∧ c' ≤ 6) → runV (gi h' R) (gi h' (R + 1)) (gi h' (R + 2)) N0 (runT fu e lim (2 * (wd + dp)) z L N).2 e z → gi h' R 2 = nI (runT fu e lim (2 * (wd + dp)) z L N).1 → Ex ω M5_wrapNext 66 [some (.ref x), some (.ref C), some (.ref P), some (.ref R), some (.int (nI r'))] [] h' 0 0 Q) →
    Ex ω M5_wrapNext 32 [some (.ref x), some (.ref C), some (.ref P), some (.ref R), some (.int (nI r))] [] h1 0 0 Q := by
  have b1 := lx.2.2.2.1
  have b2 := lx.2.2.2.2
  intro L
  induction L with
  | nil =>
    intro N c h1 r i sd f s fr cv hi hsd hs hL hr ti x9 x10 hm rr rv o2 hq
    have lx1 : LayX h1 x R := LayX.run (h := wi h C f) ⟨LSs_frm lx.1 rfl, LSf_frm lx.2.1 rfl (fun _ _ => rfl), O3_frm lx.2.2.1 rfl rfl, b1, b2⟩ fr
    have gC : gi h1 C = f := by rw [fr.2.2.2.1 C (by omega) (by omega), gi_wi]
    have gO : ∀ b, x + 48 ≤ b → b < x + 51 → gi h1 b = gi h b := fun b q1 q2 => by rw [fr.2.2.2.1 b (by omega) (by omega), gi_wi_ne _ _ _ (by omega)]
    have e : wi h1 C f = h1 := by rw [← gC]; exact wi_self h1 C
    refine B5_wrapNext_32 hw (fun q => absurd q (nI_ge (by omega) (by omega))) (fun _ => ?_)
    refine B5_wrapNext_39 hw lx1.2.2.1.1 (fun q => absurd (by rw [o2]; rfl) q) (fun _ => ?_)
    refine B5_wrapNext_46 hw (by rw [fr.1]; exact sC) ?_
    rw [← e]
    refine t0_advance hw (pr := x + 48) (top := top) (acc := acc) (by rw [fr.1]; exact sC) (by rw [fr.2.2.1 C (by omega)]; exact rC) lx1.2.1.2.2.2.2.2.1 (by omega) (by rw [show x + 48 + 1 = x + 49 from rfl, show x + 48 + 2 = x + 50 from rfl, gO _ (by omega) (by omega), gO _ (by omega) (by omega), gO _ (by omega) (by omega)]; exact pv) ok htop (acc.length - i) i sd f s (by omega) cv hsd hs (fun _ f' => ?_) (fun t l f' i' sd' z1 => absurd (hL.symm.trans z1) (by simp))
    refine B5_wrapNext_50 hw (fun _ => ?_) (fun c => absurd rfl c)
    have k : ∀ b, b ≠ C → gi (wi h1 C f') b = gi h1 b := fun b hb => gi_wi_ne _ _ _ hb
    have r1 := rr.1
    refine hq (wi h1 C f') c r f' (fr.crs (by omega)) ⟨by rw [k _ (by omega)]; exact r1, rr.2.1, fun q hq => ?_⟩ ⟨ti.1.1, ti.1.2.1⟩ (by rw [k _ (by omega), k _ (by omega), k _ (by omega)]; exact rv) (by rw [k _ (by omega)]; exact o2)
    have ti6 := ti.1.2.1
    obtain ⟨j, hj, ej, _⟩ := rr.at lx1 (i := q) (by omega)
    show rollV (gi _ (rA h1 x q)) (gi _ (rA h1 x q + 1)) (gi _ (rA h1 x q + 2)) (rollG N q)
    rw [k _ (by omega), k _ (by omega), k _ (by omega)]
    exact rr.2.2 q hq
  | cons t L ih =>
    intro N c h1 r i sd f s fr cv hi hsd hs hL hr ti x9 x10 hm rr rv o2 hq
    rw [List.length_cons] at hr
    have lx1 : LayX h1 x R := LayX.run (h := wi h C f) ⟨LSs_frm lx.1 rfl, LSf_frm lx.2.1 rfl (fun _ _ => rfl), O3_frm lx.2.2.1 rfl rfl, b1, b2⟩ fr
    have gC : gi h1 C = f := by rw [fr.2.2.2.1 C (by omega) (by omega), gi_wi]
    have gO : ∀ b, x + 48 ≤ b → b < x + 51 → gi h1 b = gi h b := fun b q1 q2 => by rw [fr.2.2.2.1 b (by omega) (by omega), gi_wi_ne _ _ _ (by omega)]
    have e0 : wi h1 C f = h1 := by rw [← gC]; exact wi_self h1 C
    refine B5_wrapNext_32 hw (fun q => absurd q (nI_ge (by omega) (by omega))) (fun _ => ?_)
    refine B5_wrapNext_39 hw lx1.2.2.1.1 (fun q => absurd (by rw [o2]; rfl) q) (fun _ => ?_)
    refine B5_wrapNext_46 hw (by rw [fr.1]; exact sC) ?_
    rw [← e0]
    refine t0_advance hw (pr := x + 48) (top := top) (acc := acc) (by rw [fr.1]; exact sC) (by rw [fr.2.2.1 C (by omega)]; exact rC) lx1.2.1.2.2.2.2.2.1 (by omega) (by rw [show x + 48 + 1 = x + 49 from rfl, show x + 48 + 2 = x + 50 from rfl, gO _ (by omega) (by omega), gO _ (by omega) (by omega), gO _ (by omega) (by omega)]; exact pv) ok htop (acc.length - i) i sd f s (by omega) cv hsd hs (fun z1 => absurd (hL.symm.trans z1) (by simp)) (fun t2 l f' i' sd' z1 z2 z3 z4 z5 z6 => ?_)
    have z7 := hL.symm.trans z1
    have zt : t = t2 := (List.cons.inj z7).1
    have zl : L = l := (List.cons.inj z7).2
    subst zt
    rw [← zl] at z6
    refine B5_wrapNext_50 hw (fun c => absurd c (by decide)) (fun _ => ?_)
    have k : ∀ b, b ≠ C → gi (wi h1 C f') b = gi h1 b := fun b hb => gi_wi_ne _ _ _ hb
    have r1 := rr.1
    have ti6 := ti.1.2.1
    have lx2 : LayX (wi h1 C f') x R := ⟨LSs_frm lx1.1 rfl, LSf_frm lx1.2.1 rfl (fun _ _ => rfl), O3_frm lx1.2.2.1 rfl rfl, b1, b2⟩
    have rr2 : RunR (wi h1 C f') x c N := by
      refine ⟨by rw [k _ (by omega)]; exact r1, rr.2.1, fun q hq => ?_⟩
      obtain ⟨j, hj, ej, _⟩ := rr.at lx1 (i := q) (by omega)
      show rollV (gi _ (rA h1 x q)) (gi _ (rA h1 x q + 1)) (gi _ (rA h1 x q + 2)) (rollG N q)
      rw [k _ (by omega), k _ (by omega), k _ (by omega)]
      exact rr.2.2 q hq
    have gP : gi (wi h1 C f') P = gi h P := by rw [k _ (by omega), fr.2.2.2.1 P (by omega) (by omega), gi_wi_ne _ _ _ (by omega)]
    have fr2 : RunFr x R (wi h C f') (wi h1 C f') := fr.crs (by omega)
    obtain ⟨t1, tt, ts⟩ := t
    obtain ⟨z41, z42, z43⟩ := z4
    obtain ⟨c2, a1, a2, a3, a4⟩ := turn_inv (fu := fu) (rnd := 2 * (wd + dp)) (q := (t1, tt, ts)) he1 he2 hz hl (by omega) z42 z43 ti hm
    rw [runT_cons] at hq
    refine B5_wrapNext_53 hw lx2.1.1 (t5_turnOnce hw lx2 (by omega) (by rw [gs_wi, fr.1]; exact sC) (by rw [gi_wi]; exact z5.2.2.2.1) (by rw [gi_wi]; exact z5.2.2.2.2.1) (by rw [gi_wi]; exact z5.2.2.2.2.2) z41 z42 z43 bP (by rw [gs_wi, fr.1]; exact sP) (by rw [gP]; exact p1) (by rw [gP]; exact p2) (by rw [gP]; exact p4) w2 d2 hl he1 he2 hz ti (by rw [k _ (by omega)]; exact x9) (by rw [k _ (by omega)]; exact x10) hm hfu rr2 (by rw [k _ (by omega), k _ (by omega), k _ (by omega)]; exact rv) (by rw [k _ (by omega)]; exact o2) (fun h3 c3 g1 g2 g3 g4 g5 => ?_))
    have ec : c3 = c2 := by
      have := g3.1.symm.trans a1.1.1
      have c26 := a1.1.2.1
      rw [nI_eq (by omega) (by omega)] at this
      exact this
    subst ec
    have fr3 := fr2.trans g1
    have lx3 := lx2.run g1
    refine B5_wrapNext_60 hw ?_
    rw [nI_add]
    generalize turnN fu e lim (2 * (wd + dp)) z (t1, tt, ts) N = tn at *
    by_cases gz : tn.1 = 0
    · rw [if_pos gz] at hq
      rw [gz] at g5
      exact ih tn.2 c3 h3 (r + 1) i' sd' f' (t1, tt, ts) fr3 z5 z2 z3 ⟨z41, z42, z43⟩ z6 (by omega) a1 (by rw [g1.2.2.2.2 9 (by omega), k _ (by omega), x9, a2 4 (by omega)]) (by rw [g1.2.2.2.2 10 (by omega), k _ (by omega), x10, a2 5 (by omega)]) (by omega) g2 g4 g5 hq
    · rw [if_neg gz] at hq
      refine B5_wrapNext_32 hw (fun _ => hq h3 c3 (r + 1) f' fr3 g2 g3 g4 g5) (fun _ => ?_)
      refine B5_wrapNext_39 hw lx3.2.2.1.1 (fun _ => hq h3 c3 (r + 1) f' fr3 g2 g3 g4 g5) (fun q => ?_)
      rw [g5, show (0 : Int32) = nI 0 from rfl, nI_eq (by omega) (by omega)] at q
      exact absurd q gz

