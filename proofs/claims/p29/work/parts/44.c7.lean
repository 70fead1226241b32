theorem t5_copyFrom {ω : Om} {h : AH} {Q : Option Value → AH → Prop} (hw : ω.2.2.2.1 = true) {x y c w d : Nat} {N : Nat → Int32} {acc : List (Nat × Nat)} (lx : LayS h x) (ly : LayS h y) (dj : y + 52 ≤ x ∨ x + 52 ≤ y) (v : ValS h y N c w d acc) (hq : ∀ h' : AH, Frm x (x + 52) h h' → LayS h' x → ValS h' x N c w d acc → Q none h') : Ex ω M5_copyFrom 0 [some (.ref x), some (.ref y), none] [] h 0 0 Q := by
  obtain ⟨⟨v1, v2, v3⟩, ⟨w1, w2, w3'⟩, n1, ⟨k1, k2⟩, ⟨p1, p2, p3⟩, s1, t1, t2⟩ := v
  refine B5_copyFrom_0 hw ly.1.1 lx.1.1 ?_
  simp (disch := omega) only [si_wi, sr_wr, sl_wl, gi_wi, gi_wi_ne, gr_wi, gs_wi, gl_wi, gi_wr, gr_wr, gr_wr_ne, gs_wr, gl_wr, gi_wl, gr_wl, gs_wl, gl_wl, gl_wl_ne, wi_wi, pk_mul, nI_add, nI_clamp, upd_eq, upd_ne, v1]
  have fa := Frm.wi x (x + 1) h (upd (gi h x) 1 (nI c)) (Nat.le_refl _) (by omega)
  have ga : gi (wi h x (upd (gi h x) 1 (nI c))) x 1 = nI c := by rw [gi_wi, upd_eq]
  have ra : gr (wi h x (upd (gi h x) 1 (nI c))) = gr h := rfl
  generalize wi h x (upd (gi h x) 1 (nI c)) = ha at *
  have la := LayS_gr lx fa.1 (fun b _ _ => by rw [ra])
  have lya := LayS_frm ly fa (by omega)
  have er1 : ∀ i, rA ha y i = rA h y i := fun i => by unfold rA; rw [ra]
  have er2 : ∀ i, rA ha x i = rA h x i := fun i => by unfold rA; rw [ra]
  refine t5_copyR hw (G := rollG N) (fun hb fb rb qb => ?_) la lya dj ga v2 (fun i hi => ?_)
  rotate_left
  · obtain ⟨j, hj, e, _⟩ := ly.roll (i := i) (by omega)
    rw [er1, (fa.2 _ (by omega)).1, (fa.2 _ (by omega)).1, (fa.2 _ (by omega)).1]
    exact v3 i hi
  have sbx : gs hb x = some (5, 11) := by rw [fb.1, fa.1]; exact lx.1.1
  have sby : gs hb y = some (5, 11) := by rw [fb.1, fa.1]; exact ly.1.1
  refine B5_copyFrom_39 hw sby sbx ?_
  have wy : gi hb y 3 = nI w := by rw [(fb.2 _ (by omega)).1, (fa.2 _ (by omega)).1]; exact w1
  simp (disch := omega) only [si_wi, sr_wr, sl_wl, gi_wi, gi_wi_ne, gr_wi, gs_wi, gl_wi, gi_wr, gr_wr, gr_wr_ne, gs_wr, gl_wr, gi_wl, gr_wl, gs_wl, gl_wl, gl_wl_ne, wi_wi, pk_mul, nI_add, nI_clamp, upd_eq, upd_ne, wy]
  have fc := Frm.wi x (x + 1) hb (upd (gi hb x) 3 (nI w)) (Nat.le_refl _) (by omega)
  have gc : gi (wi hb x (upd (gi hb x) 3 (nI w))) x 3 = nI w := by rw [gi_wi, upd_eq]
  have gc1 : gi (wi hb x (upd (gi hb x) 3 (nI w))) x 1 = nI c := by rw [gi_wi, upd_ne _ _ (by omega), (fb.2 _ (by omega)).1]; exact ga
  have rc : gr (wi hb x (upd (gi hb x) 3 (nI w))) = gr h := by rw [gr_wi, rb, ra]
  generalize wi hb x (upd (gi hb x) 3 (nI w)) = hc at *
  have gsc : gs hc = gs h := by rw [fc.1, fb.1, fa.1]
  have lc := LayS_gr lx gsc (fun b _ _ => by rw [rc])
  have lyc := LayS_gr ly gsc (fun b _ _ => by rw [rc])
  refine t5_copyP hw (w := w) (fun hd fd rd qd => ?_) lc lyc dj gc w2
  have ec1 : ∀ i, pA hc y i = pA h y i := fun i => by unfold pA; rw [rc]
  have ec2 : ∀ i, pA hc x i = pA h x i := fun i => by unfold pA; rw [rc]
  have rd' : gr hd = gr h := by rw [rd, rc]
  have gsd : gs hd = gs h := by rw [fd.1, gsc]
  refine B5_copyFrom_78 hw (by rw [gsd]; exact ly.1.1) (by rw [gsd]; exact lx.1.1) ?_
  have yd : ∀ b, y ≤ b → b < y + 52 → gi hd b = gi h b := fun b h1 h2 => by rw [(fd.2 _ (by omega)).1, (fc.2 _ (by omega)).1, (fb.2 _ (by omega)).1, (fa.2 _ (by omega)).1]
  have y4 : gi hd y 4 = N 2 := by rw [yd y (by omega) (by omega)]; exact n1
  have y6 : gi hd y 6 = nI (min d 6) := by rw [yd y (by omega) (by omega)]; exact k1
  simp (disch := omega) only [si_wi, sr_wr, sl_wl, gi_wi, gi_wi_ne, gr_wi, gs_wi, gl_wi, gi_wr, gr_wr, gr_wr_ne, gs_wr, gl_wr, gi_wl, gr_wl, gs_wl, gl_wl, gl_wl_ne, wi_wi, pk_mul, nI_add, nI_clamp, upd_eq, upd_ne, y4, y6]
  have fe := Frm.wi x (x + 1) hd (upd (upd (gi hd x) 4 (N 2)) 6 (nI (min d 6))) (Nat.le_refl _) (by omega)
  have re : gr (wi hd x (upd (upd (gi hd x) 4 (N 2)) 6 (nI (min d 6)))) = gr h := by rw [gr_wi, rd']
  have ge6 : gi (wi hd x (upd (upd (gi hd x) 4 (N 2)) 6 (nI (min d 6)))) x 6 = nI (min d 6) := by rw [gi_wi, upd_eq]
  have ge4 : gi (wi hd x (upd (upd (gi hd x) 4 (N 2)) 6 (nI (min d 6)))) x 4 = N 2 := by rw [gi_wi, upd_ne _ _ (by omega), upd_eq]
  have ge1 : gi (wi hd x (upd (upd (gi hd x) 4 (N 2)) 6 (nI (min d 6)))) x 1 = nI c := by rw [gi_wi, upd_ne _ _ (by omega), upd_ne _ _ (by omega), (fd.2 _ (by omega)).1]; exact gc1
  have ge3 : gi (wi hd x (upd (upd (gi hd x) 4 (N 2)) 6 (nI (min d 6)))) x 3 = nI w := by rw [gi_wi, upd_ne _ _ (by omega), upd_ne _ _ (by omega), (fd.2 _ (by omega)).1]; exact gc
  generalize wi hd x (upd (upd (gi hd x) 4 (N 2)) 6 (nI (min d 6))) = he at *
  have gse : gs he = gs h := by rw [fe.1, gsd]
  have le := LayS_gr lx gse (fun b _ _ => by rw [re])
  have lye := LayS_gr ly gse (fun b _ _ => by rw [re])
  have ye : ∀ b, y ≤ b → b < y + 52 → gi he b = gi h b := fun b h1 h2 => by rw [(fe.2 _ (by omega)).1, yd b h1 h2]
  have ee1 : ∀ i, kA he y i = kA h y i := fun i => by unfold kA; rw [re]
  have ee2 : ∀ i, kA he x i = kA h x i := fun i => by unfold kA; rw [re]
  refine t5_copyK hw (N := N) (E := keptB d) (fun hf ff rf qf => ?_) le lye dj ge6 (by omega) (fun i hi => ?_)
  rotate_left
  · obtain ⟨j, hj, e, _⟩ := ly.res (i := i) (by omega)
    rw [ee1, ye _ (by omega) (by omega), ye _ (by omega) (by omega), ye _ (by omega) (by omega)]
    exact k2 i hi
  have rf' : gr hf = gr h := by rw [rf, re]
  have gsf : gs hf = gs h := by rw [ff.1, gse]
  have lf := LayS_gr lx gsf (fun b _ _ => by rw [rf'])
  have lyf := LayS_gr ly gsf (fun b _ _ => by rw [rf'])
  have yf : ∀ b, y ≤ b → b < y + 52 → gi hf b = gi h b := fun b h1 h2 => by rw [(ff.2 _ (by omega)).1, ye b h1 h2]
  refine B5_copyFrom_125 hw (by rw [gsf]; exact lx.1.1) (by rw [gsf]; exact ly.1.1) ?_
  rw [rf', lx.2.1.2.2.2.1, ly.2.1.2.2.2.1]
  rw [← w3_self hf (x + 48)]
  refine t2_copyFrom hw lf.prog lyf.prog (by omega) (n := acc.length) (by rw [yf _ (by omega) (by omega)]; exact p1) p2 (fun f' p' s' g1 g2 => ?_)
  have fg := Frm.w3 (x + 48) (x + 51) hf f' p' s' (Nat.le_refl _) (by omega)
  have gg0 := w3_0 hf (x + 48) f' p' s'
  have gg1 := w3_1 hf (x + 48) f' p' s'
  have gg2 := w3_2 hf (x + 48) f' p' s'
  have rg : gr (w3 hf (x + 48) f' p' s') = gr h := by rw [gr_w3, rf']
  generalize w3 hf (x + 48) f' p' s' = hg at *
  have gsg : gs hg = gs h := by rw [fg.1, gsf]
  refine B5_copyFrom_136 hw (by rw [gsg]; exact lx.1.1) (by rw [gsg]; exact ly.1.1) ?_
  rw [rg, lx.2.1.2.2.2.2.1, ly.2.1.2.2.2.2.1]
  refine t6_copyFrom hw (by rw [gsg]; exact lx.1.2.2.2.2.1) (by rw [gsg]; exact ly.1.2.2.2.2.1) (by omega) (fun hh fh rh qh ql => ?_)
  have rh' : gr hh = gr h := by rw [rh, rg]
  have gsh : gs hh = gs h := by rw [fh.1, gsg]
  have yh : ∀ b, y ≤ b → b < y + 52 → gi hh b = gi h b := fun b h1 h2 => by rw [(fh.2 _ (by omega)).1, (fg.2 _ (by omega)).1, yf b h1 h2]
  refine B5_copyFrom_147 hw (by rw [gsh]; exact ly.1.1) (by rw [gsh]; exact lx.1.1) ?_
  have y9 : gi hh y 9 = N 4 := by rw [yh y (by omega) (by omega)]; exact t1
  have y10 : gi hh y 10 = N 5 := by rw [yh y (by omega) (by omega)]; exact t2
  simp (disch := omega) only [si_wi, sr_wr, sl_wl, gi_wi, gi_wi_ne, gr_wi, gs_wi, gl_wi, gi_wr, gr_wr, gr_wr_ne, gs_wr, gl_wr, gi_wl, gr_wl, gs_wl, gl_wl, gl_wl_ne, wi_wi, pk_mul, nI_add, nI_clamp, upd_eq, upd_ne, y9, y10]
  have fi := Frm.wi x (x + 1) hh (upd (upd (gi hh x) 9 (N 4)) 10 (N 5)) (Nat.le_refl _) (by omega)
  have ri : gr (wi hh x (upd (upd (gi hh x) 9 (N 4)) 10 (N 5))) = gr h := by rw [gr_wi, rh']
  have gx : gi hh x = gi he x := by rw [(fh.2 _ (by omega)).1, (fg.2 _ (by omega)).1, (ff.2 _ (by omega)).1]
  have gix : gi (wi hh x (upd (upd (gi hh x) 9 (N 4)) 10 (N 5))) x = upd (upd (gi hh x) 9 (N 4)) 10 (N 5) := gi_wi _ _ _
  generalize wi hh x (upd (upd (gi hh x) 9 (N 4)) 10 (N 5)) = hi at *
  have gsi : gs hi = gs h := by rw [fi.1, gsh]
  have frm : Frm x (x + 52) h hi := (fa.mono (by omega) (by omega)).trans ((fb.mono (by omega) (by omega)).trans ((fc.mono (by omega) (by omega)).trans ((fd.mono (by omega) (by omega)).trans ((fe.mono (by omega) (by omega)).trans ((ff.mono (by omega) (by omega)).trans ((fg.mono (by omega) (by omega)).trans ((fh.mono (by omega) (by omega)).trans (fi.mono (by omega) (by omega)))))))))
  have rR : ∀ b, x + 2 ≤ b → b < x + 20 → gi hi b = gi hb b := fun b h1 h2 => by rw [(fi.2 _ (by omega)).1, (fh.2 _ (by omega)).1, (fg.2 _ (by omega)).1, (ff.2 _ (by omega)).1, (fe.2 _ (by omega)).1, (fd.2 _ (by omega)).1, (fc.2 _ (by omega)).1]
  have rP : ∀ b, x + 21 ≤ b → b < x + 29 → gi hi b = gi hd b := fun b h1 h2 => by rw [(fi.2 _ (by omega)).1, (fh.2 _ (by omega)).1, (fg.2 _ (by omega)).1, (ff.2 _ (by omega)).1, (fe.2 _ (by omega)).1]
  have rK : ∀ b, x + 30 ≤ b → b < x + 48 → gi hi b = gi hf b := fun b h1 h2 => by rw [(fi.2 _ (by omega)).1, (fh.2 _ (by omega)).1, (fg.2 _ (by omega)).1]
  have rG : ∀ b, x + 48 ≤ b → b < x + 51 → gi hi b = gi hg b := fun b h1 h2 => by rw [(fi.2 _ (by omega)).1, (fh.2 _ (by omega)).1]
  have e1 : ∀ i, rA hi x i = rA h x i := fun i => by unfold rA; rw [ri]
  have e2 : ∀ i, pA hi x i = pA h x i := fun i => by unfold pA; rw [ri]
  have e3 : ∀ i, kA hi x i = kA h x i := fun i => by unfold kA; rw [ri]
  refine hq hi frm (LayS_gr lx gsi (fun b _ _ => by rw [ri])) ⟨⟨?_, v2, fun i hi' => ?_⟩, ⟨?_, w2, ?_⟩, ?_, ⟨?_, fun i hi' => ?_⟩, ⟨?_, p2, fun i q hq' => ?_⟩, ?_, ?_, ?_⟩
  · rw [gix, upd_ne _ _ (by omega), upd_ne _ _ (by omega), gx]; exact ge1
  · obtain ⟨j, hj, e, _⟩ := lx.roll (i := i) (by omega)
    rw [e1, rR _ (by omega) (by omega), rR _ (by omega) (by omega), rR _ (by omega) (by omega)]
    have := qb i hi'
    rw [er2] at this
    exact this
  · rw [gix, upd_ne _ _ (by omega), upd_ne _ _ (by omega), gx]; exact ge3
  · refine palsR_congr w3' (fun i hi' k hk => ?_) (fun _ _ _ _ => rfl)
    obtain ⟨j, hj, e, _⟩ := lx.pal (i := i) (by omega)
    obtain ⟨j2, hj2, e2', _⟩ := ly.pal (i := i) (by omega)
    show gi hi (pA hi x i) k = gi h (pA h y i) k
    rw [e2, rP _ (by omega) (by omega)]
    have := qd i hi' k hk
    rw [ec1, ec2] at this
    rw [this, (fc.2 _ (by omega)).1, (fb.2 _ (by omega)).1, (fa.2 _ (by omega)).1]
  · rw [gix, upd_ne _ _ (by omega), upd_ne _ _ (by omega), gx]; exact ge4
  · rw [gix, upd_ne _ _ (by omega), upd_ne _ _ (by omega), gx]; exact ge6
  · obtain ⟨j, hj, e, _⟩ := lx.res (i := i) (by omega)
    rw [e3, rK _ (by omega) (by omega), rK _ (by omega) (by omega), rK _ (by omega) (by omega)]
    have := qf i hi'
    rw [ee2] at this
    exact this
  · rw [rG _ (by omega) (by omega), gg0]; exact g1
  · have il := (List.getElem?_eq_some_iff.mp hq').1
    rw [rG _ (by omega) (by omega), rG _ (by omega) (by omega), gg1, gg2, (g2 i il).1, (g2 i il).2, yf _ (by omega) (by omega), yf _ (by omega) (by omega)]
    exact p3 i q hq'
  · have ey : ∀ k, k < 11 → gi hi (x + 51) k = gi h (y + 51) k := fun k hk => by
      rw [(fi.2 _ (by omega)).1, qh k hk, (fg.2 _ (by omega)).1, yf _ (by omega) (by omega)]
    have el : gl hi (x + 51) 11 = gl h (y + 51) 11 := by
      rw [(fi.2 _ (by omega)).2.2, ql, (fg.2 _ (by omega)).2.2, (ff.2 _ (by omega)).2.2, (fe.2 _ (by omega)).2.2, (fd.2 _ (by omega)).2.2, (fc.2 _ (by omega)).2.2, (fb.2 _ (by omega)).2.2, (fa.2 _ (by omega)).2.2]
    rw [el]
    exact sumV_congr s1 ey
  · rw [gix, upd_ne _ _ (by omega), upd_eq]
  · rw [gix, upd_eq]

