/-! the class: a wrapping -/
def FrC (x C : Nat) (h h' : AH) : Prop := gs h' = gs h ∧ ∀ b, (b < x ∨ x + 52 ≤ b) → b ≠ C → gi h' b = gi h b ∧ gr h' b = gr h b ∧ gl h' b = gl h b
theorem t5_wrapNext {ω : Om} {h : AH} {Q : Option Value → AH → Prop} (hw : ω.2.2.2.1 = true) {x C K c w k d nx lo hi fu : Nat} {N : Nat → Int32} {acc : List (Nat × Nat)} (l : LayS h x) (vs : ValS h x N c w d acc) (iv : INV N K c w d nx lo hi acc) (hK : K < 2 ^ 28) (fk : frontK N w k) (hfu : 600007 ≤ fu) (hfu2 : fu ≤ 1000000) (bC : C < x ∨ x + 52 ≤ C) (sC : gs h C = some (0, 7))
    (hq : ∀ (h' : AH) (c' lo' hi' : Nat), FrC x C h h' → LayS h' x → ValS h' x (wrapsN fu N w k d acc).2 c' (w - 1) (d + 1) acc → INV (wrapsN fu N w k d acc).2 (K + 1) c' (w - 1) (d + 1) nx lo' hi' acc → Q (some (.int (nI (wrapsN fu N w k d acc).1))) h') : Ex ω M5_wrapNext 0 [some (.ref x), some (.ref C), none, none, none] [] h 0 0 Q := by
  obtain ⟨hk, hk0, _⟩ := fk
  obtain ⟨⟨cI, loI, hiI, ivN⟩, hg2⟩ := wraps_inv (fu := fu) iv hK hk hfu
  have riN := ivN.1
  rw [wrapsN_eq] at hq ivN hg2 riN
  obtain ⟨cz, th0, rti, rtf, rg, rz1, rz, rl⟩ := runW_inv (fu := fu) iv hk hfu
  obtain ⟨n, wd, dp, hh, lim, du, g0, gn, g1, g1a, g1b, g2, g2a, g2b, g3, g3a, g3b, g4, g4b, g5, g5b⟩ := iv.2.1.2.2.1 k hk
  have e1 : palV N k 1 = wd := palV_eq g1 (by omega)
  have e2 : palV N k 2 = dp := palV_eq g2 (by omega)
  have e3 : palV N k 3 = hh := palV_eq g3 (by omega)
  have e4 : palV N k 4 = lim := palV_eq g4 (by omega)
  unfold runW at hq rti rtf rg ivN hg2 riN
  rw [e1, e2, e3, e4] at hq rti rtf rg ivN hg2 riN
  rw [e3] at rz1 rz
  obtain ⟨i0, hi0, ei0, hP⟩ := vs.2.1.2.2.bwd hk
  have i00 : i0 = 0 := ei0.symm.trans hk0
  subst i00
  have w8 := vs.2.1.2.1
  obtain ⟨jP, hjP, ejP, oP⟩ := l.pal (i := 0) (by omega)
  obtain ⟨jR, hjR, ejR, oR⟩ := l.res (i := 5) (by omega)
  obtain ⟨th, hth, ht⟩ := iv.2.2.2.1
  have ok := iv.2.2.1.2.2.1
  have p12 := iv.2.2.1.2.1
  obtain ⟨he1, he2⟩ := entE_b d
  obtain ⟨P, hPe⟩ : ∃ P, pA h x 0 = P := ⟨_, rfl⟩
  obtain ⟨R, hRe⟩ : ∃ R, kA h x 5 = R := ⟨_, rfl⟩
  rw [hPe] at ejP oP
  rw [hRe] at ejR oR
  have hP' := hP
  rw [hPe] at hP
  have hd6 := vs.2.2.2.1.1
  refine B5_wrapNext_0 hw l.1.1 ?_
  rw [l.2.1.2.1, show gr h (x + 20) 0 = P from hPe]
  refine t5_keepNewResult hw l hd6 (fun h1 k1 k2 k3 k4 k5 k6 => ?_)
  rw [show gr h (x + 29) 5 = R from hRe]
  have oR1 : ResO h1 R := O3_frm oR k1 (k5 _ (by omega))
  have gP1 : gi h1 P = gi h P := k3 _ (by omega)
  refine B5_wrapNext_11 hw oR1.1 ?_
  rw [← w3_self h1 R]
  refine t3_begin hw oR1 (by rw [k1]; exact oP) (by omega) (hi := hh) (by rw [gP1, hP 3 (by omega)]; exact g3) g3b (fun f p s f0 f1 fz pz => ?_)
  refine B5_wrapNext_17 hw (by rw [gs_w3, k1]; exact l.1.1) (by rw [gs_w3, k1]; exact oP) ?_
  refine t1_top hw (by rw [gs_w3, k1]; exact oP) (hi := hh) (by rw [w3_ne _ _ _ _ _ (by omega), gP1, hP 3 (by omega)]; exact g3) (by omega) ?_
  rw [gr_w3, k5 x (by omega), l.2.1.2.2.2.1]
  refine B5_wrapNext_26 hw (by rw [gs_w3, k1]; exact sC) (t0_begin hw (by rw [gs_w3, k1]; exact sC) (by rw [gs_w3, k1]; exact l.prog.1) (fun fc cv => ?_))
  -- the base of the turns
  have b1 : gs (wr (w3 h1 R f p s) C (updN (gr (w3 h1 R f p s) C) 0 (x + 48))) = gs h := k1
  have b2 : gl (wr (w3 h1 R f p s) C (updN (gr (w3 h1 R f p s) C) 0 (x + 48))) = gl h := k2
  have b3 : ∀ b, b ≠ x + 29 → b ≠ C → gr (wr (w3 h1 R f p s) C (updN (gr (w3 h1 R f p s) C) 0 (x + 48))) b = gr h b := fun b h1 h2 => by rw [gr_wr_ne _ _ _ h2, gr_w3]; exact k5 b h1
  have b4 : ∀ j, j < 6 → gr (wr (w3 h1 R f p s) C (updN (gr (w3 h1 R f p s) C) 0 (x + 48))) (x + 29) j = shR (gr h (x + 29)) j := fun j hj => by rw [gr_wr_ne _ _ _ (by omega), gr_w3]; exact k6 j hj
  have b5 : gr (wr (w3 h1 R f p s) C (updN (gr (w3 h1 R f p s) C) 0 (x + 48))) C 0 = x + 48 := by rw [gr_wr, updN_eq]
  have b6 : ∀ b, b ≠ x → (b < R ∨ R + 3 ≤ b) → gi (wr (w3 h1 R f p s) C (updN (gr (w3 h1 R f p s) C) 0 (x + 48))) b = gi h b := fun b h1 h2 => by rw [gi_wr, w3_ne _ _ _ _ _ h2]; exact k3 b h1
  have b7 : gi (wr (w3 h1 R f p s) C (updN (gr (w3 h1 R f p s) C) 0 (x + 48))) x = upd (gi h x) 6 (nI (min (d + 1) 6)) := by rw [gi_wr, w3_ne _ _ _ _ _ (by omega)]; exact k4
  have b8 : gi (wr (w3 h1 R f p s) C (updN (gr (w3 h1 R f p s) C) 0 (x + 48))) R = f := by rw [gi_wr, w3_0]
  have b9 : gi (wr (w3 h1 R f p s) C (updN (gr (w3 h1 R f p s) C) 0 (x + 48))) (R + 1) = p := by rw [gi_wr, w3_1]
  have b10 : gi (wr (w3 h1 R f p s) C (updN (gr (w3 h1 R f p s) C) 0 (x + 48))) (R + 2) = s := by rw [gi_wr, w3_2]
  rw [gP1] at f0
  generalize wr (w3 h1 R f p s) C (updN (gr (w3 h1 R f p s) C) 0 (x + 48)) = hb at *
  clear k1 k2 k3 k4 k5 k6 oR1 gP1 h1
  have lx : LayX hb x R := ⟨LSs_frm l.1 b1, LSf_frm l.2.1 b1 (fun b hb => b3 b (by omega) (by omega)), O3_frm oR b1 (b3 _ (by omega) (by omega)), by omega, by omega⟩
  have kb : ∀ b, b ≠ C → gi (wi hb C fc) b = gi hb b := fun b hb => gi_wi_ne _ _ _ hb
  refine B5_wrapNext_29 hw ?_
  have ti0 := start_TI (N := N) (z := (hh + 9) / 10) (w := w) (k := k) (lim := lim) (entE_b d).1 w8 (by omega) iv.1 hth ht
  have ml := meas_le ti0.1
  have n0 : ∀ j, j ≠ 1 → j < 20 → startN N w k (entE d) ((hh + 9) / 10) j = N j := fun j h1 h2 => startN_lo he1 w8 h1 (by omega)
  have nz : ∀ q, 0 < q → q < 64 → q ≠ 12 → startN N w k (entE d) ((hh + 9) / 10) (entE d + q) = nI 0 := fun q h1 h2 h3 => startN_e he1 w8 (by omega) (by omega) (by omega)
  have az : ∀ a : Int32, a = a + nI 0 := fun a => (Int32.add_zero a).symm
  have ll := crsL_len (top := hh - 50) (by omega) acc (0, 40, 100) ok ⟨by decide, by decide, by decide⟩
  refine t5_wrapLoop hw (h := hb) (x := x) (R := R) (C := C) (P := P) (e := entE d) (z := (hh + 9) / 10) (lim := lim) (wd := wd) (dp := dp) (top := hh - 50) (fu := fu) (th := th) (N0 := N) (acc := acc) lx bC (by rw [b1]; exact sC) b5 (by rw [b6 _ (by omega) (by omega), b6 _ (by omega) (by omega), b6 _ (by omega) (by omega)]; exact vs.2.2.2.2.1) ok (by omega) (by omega) (by rw [b1]; exact oP) (by rw [b6 _ (by omega) (by omega), hP 1 (by omega)]; exact g1) (by rw [b6 _ (by omega) (by omega), hP 2 (by omega)]; exact g2) (by rw [b6 _ (by omega) (by omega), hP 4 (by omega)]; exact g4) g1b g2b g4b he1 he2 rz hfu2
    (crsL (hh - 50) acc (0, 40, 100)) (startN N w k (entE d) ((hh + 9) / 10)) c (wi hb C fc) 0 0 0 fc (0, 40, 100) (RunFr.refl _ _ _) cv (Nat.zero_le _) (by omega) ⟨by decide, by decide, by decide⟩ (by rw [List.drop_zero, curL_0]) (by omega) ti0 (by rw [kb _ (by omega), b7, upd_ne _ _ (by omega), n0 4 (by omega) (by omega)]; exact vs.2.2.2.2.2.2.1) (by rw [kb _ (by omega), b7, upd_ne _ _ (by omega), n0 5 (by omega) (by omega)]; exact vs.2.2.2.2.2.2.2) (by omega) ?_ ?_ (by rw [kb _ (by omega), b8]; exact fz 2 (by omega) (by omega)) (fun h4 c4 r4 f4 fr4 rr4 hc4 rv4 o4 => ?_)
  · refine ⟨by rw [kb _ (by omega), b7, upd_ne _ _ (by omega)]; exact vs.1.1, by rw [gr_wi, b3 _ (by omega) (by omega)]; exact l.2.2.1, fun i hi => ?_⟩
    obtain ⟨j, hj, ej, _⟩ := l.roll (i := i) (by have := vs.1.2.1; omega)
    have er : rA (wi hb C fc) x i = rA h x i := by
      show gr hb (x + 1) i = gr h (x + 1) i
      rw [b3 _ (by omega) (by omega)]
    rw [er, kb _ (by omega), kb _ (by omega), kb _ (by omega), b6 _ (by omega) (by omega), b6 _ (by omega) (by omega), b6 _ (by omega) (by omega)]
    exact rollV_G (vs.1.2.2 i hi) (fun q hq => startN_lo he1 w8 (by omega) (by have := vs.1.2.1; omega))
  · rw [kb _ (by omega), kb _ (by omega), kb _ (by omega), b8, b9, b10]
    refine ⟨⟨?_, f1, (fz 3 (by omega) (by omega)).trans (nz 2 (by omega) (by omega) (by omega)).symm, (fz 4 (by omega) (by omega)).trans (nz 3 (by omega) (by omega) (by omega)).symm, (fz 5 (by omega) (by omega)).trans (nz 4 (by omega) (by omega) (by omega)).symm, ?_, (fz 9 (by omega) (by omega)).trans (nz 6 (by omega) (by omega) (by omega)).symm, (fz 10 (by omega) (by omega)).trans (nz 7 (by omega) (by omega) (by omega)).symm, (fz 11 (by omega) (by omega)).trans (nz 10 (by omega) (by omega) (by omega)).symm, (fz 12 (by omega) (by omega)).trans (nz 11 (by omega) (by omega) (by omega)).symm⟩, ⟨?_, ?_, ?_, ?_, ?_, ?_, ?_, ?_, ?_, ?_⟩, fun i hi => ⟨?_, ?_⟩⟩
    · rw [f0, hP 0 (by omega), startN_0 he1 w8]; rfl
    · rw [fz 6 (by omega) (by omega), fz 7 (by omega) (by omega), fz 8 (by omega) (by omega), nz 5 (by omega) (by omega) (by omega)]; rfl
    · rw [n0 9 (by omega) (by omega), fz 5 (by omega) (by omega)]; exact az _
    · rw [n0 10 (by omega) (by omega), fz 6 (by omega) (by omega)]; exact az _
    · rw [n0 11 (by omega) (by omega), fz 7 (by omega) (by omega)]; exact az _
    · rw [n0 12 (by omega) (by omega), fz 8 (by omega) (by omega)]; exact az _
    · rw [n0 13 (by omega) (by omega), fz 9 (by omega) (by omega)]; exact az _
    · rw [n0 14 (by omega) (by omega), fz 10 (by omega) (by omega)]; exact az _
    · rw [n0 15 (by omega) (by omega), fz 3 (by omega) (by omega)]; exact az _
    · rw [n0 16 (by omega) (by omega), fz 4 (by omega) (by omega)]; exact az _
    · rw [n0 6 (by omega) (by omega), fz 11 (by omega) (by omega)]; exact az _
    · rw [n0 8 (by omega) (by omega), n0 9 (by omega) (by omega), n0 10 (by omega) (by omega), n0 11 (by omega) (by omega), n0 12 (by omega) (by omega)]
      exact vs.2.2.2.2.2.1.2.2.2.2.2.2.2.2.2.2.2.1
    · rw [(pz i hi).1, show entE d + 13 + i = entE d + (13 + i) from by omega, nz _ (by omega) (by omega) (by omega)]
    · rw [(pz i hi).2, show entE d + 38 + i = entE d + (38 + i) from by omega, nz _ (by omega) (by omega) (by omega)]
  · -- the end
    generalize runT fu (entE d) lim (2 * (wd + dp)) ((hh + 9) / 10) (crsL (hh - 50) acc (0, 40, 100)) (startN N w k (entE d) ((hh + 9) / 10)) = rt at *
    dsimp only at hq hg2
    have lx4 := (LayX.run (h := wi hb C f4) ⟨LSs_frm lx.1 rfl, LSf_frm lx.2.1 rfl (fun _ _ => rfl), O3_frm lx.2.2.1 rfl rfl, lx.2.2.2⟩ fr4)
    obtain ⟨q1, q2, q3, q4, q5⟩ := fr4
    have kb4 : ∀ b, b ≠ C → gi (wi hb C f4) b = gi hb b := fun b hb => gi_wi_ne _ _ _ hb
    have x4 : ∀ q, q ≠ 1 → q ≠ 6 → gi h4 x q = gi h x q := fun q a1 a2 => by rw [q5 q a1, kb4 _ (by omega), b7, upd_ne _ _ a2]
    have x46 : gi h4 x 6 = nI (min (d + 1) 6) := by rw [q5 6 (by omega), kb4 _ (by omega), b7, upd_eq]
    have g4o : ∀ b, (b < x ∨ x + 20 ≤ b) → (b < R ∨ R + 3 ≤ b) → b ≠ C → gi h4 b = gi h b := fun b a1 a2 a3 => by rw [q4 b a1 a2, kb4 b a3, b6 b (by omega) a2]
    have r4o : ∀ b, b ≠ x + 1 → b ≠ x + 29 → b ≠ C → gr h4 b = gr h b := fun b a1 a2 a3 => by rw [q3 b a1, gr_wi, b3 b a2 a3]
    have r4k : ∀ j, j < 6 → gr h4 (x + 29) j = shR (gr h (x + 29)) j := fun j hj => by rw [q3 _ (by omega), gr_wi]; exact b4 j hj
    have gs4 : gs h4 = gs h := q1.trans b1
    have gl4 : gl h4 = gl h := q2.trans b2
    have lay4 : LayS h4 x := ⟨lx4.1, lx4.2.1, rr4.2.1, by rw [r4o _ (by omega) (by omega) (by omega)]; exact l.2.2.2.1, shR_P l.2.2.2.2 r4k⟩
    refine B5_wrapNext_66 hw lx4.1.1 (t5_removePallet hw lay4 (w := w) (by rw [x4 3 (by omega) (by omega)]; exact vs.2.1.1) w8 (i := 0) (by omega) (fun h5 m1 m2 m3 m4 m5 m6 => ?_))
    have s5 : gs h5 = gs h := m1.trans gs4
    refine B5_wrapNext_71 hw (by rw [s5]; exact l.1.1) ?_
    rw [m5 x (by omega), r4o x (by omega) (by omega) (by omega), l.2.1.2.2.2.2.1]
    refine t6_add hw (g := rt.1) (by rw [s5]; exact l.1.2.2.2.2.1) (by rw [s5]; exact oR.1) (by omega) (by rw [m3 _ (by omega)]; exact o4) (by omega) (fun fs ws a1 a2 a3 a4 => ?_)
    have kk : ∀ b, b ≠ x + 51 → gi (wl (wi h5 (x + 51) fs) (x + 51) ws) b = gi h5 b := fun b hb => by rw [gi_wl, gi_wi_ne _ _ _ hb]
    have ks : gi (wl (wi h5 (x + 51) fs) (x + 51) ws) (x + 51) = fs := by rw [gi_wl, gi_wi]
    have kl : gl (wl (wi h5 (x + 51) fs) (x + 51) ws) (x + 51) = ws := gl_wl _ _ _
    have klo : ∀ b, b ≠ x + 51 → gl (wl (wi h5 (x + 51) fs) (x + 51) ws) b = gl h5 b := fun b hb => by rw [gl_wl_ne _ _ _ hb, gl_wi]
    have kr : gr (wl (wi h5 (x + 51) fs) (x + 51) ws) = gr h5 := rfl
    have kg : gs (wl (wi h5 (x + 51) fs) (x + 51) ws) = gs h := s5
    generalize wl (wi h5 (x + 51) fs) (x + 51) ws = h6 at *
    have o6 : ∀ b, (b < x ∨ x + 20 ≤ b) → (b < R ∨ R + 3 ≤ b) → b ≠ C → b ≠ x + 51 → gi h6 b = gi h b := fun b a1 a2 a3 a4 => by rw [kk b a4, m3 b (by omega), g4o b a1 a2 a3]
    have rr6 : RunR h6 x c4 rt.2 := by
      refine ⟨by rw [kk _ (by omega), m4, upd_ne _ _ (by omega)]; exact rr4.1, by rw [kr, m5 _ (by omega)]; exact rr4.2.1, fun i hi => ?_⟩
      obtain ⟨j, hj, ej, _⟩ := rr4.at lx4 (i := i) (by omega)
      have er : rA h6 x i = rA h4 x i := by unfold rA; rw [kr, m5 _ (by omega)]
      rw [er, kk _ (by omega), kk _ (by omega), kk _ (by omega), m3 _ (by omega), m3 _ (by omega), m3 _ (by omega)]
      exact rr4.2.2 i hi
    have ri4 : RI rt.2 c4 := by
      have c26 := rti.1.2.1
      have := rti.1.1.symm.trans hc4.1
      rw [nI_eq (by omega) (by omega)] at this
      rw [← this]; exact rti.1
    have wv4 : ∃ wv : Nat, rt.2 (entE d + 11) = nI wv ∧ wv ≤ 30000300 := by
      obtain ⟨wv, h1, h2⟩ := rti.2.2.2.2
      exact ⟨wv, h1, by omega⟩
    have sm4 : ∀ q, gi h5 (x + 51) q = gi h (x + 51) q := fun q => by rw [m3 _ (by omega), g4o _ (by omega) (by omega) (by omega)]
    have fin := ValS_wrapped (h6 := h6) (C := C) (R := R) (g := rt.1) (th := 0) l vs iv hK hk hP' bC hRe.symm rz1 rz hg2 rtf ri4 wv4 kg (fun b h1 h2 h3 h4 => by rw [kr, m5 b h2, r4o b h1 h3 h4]) (fun j hj => by rw [kr, m6 j hj, r4o _ (by omega) (by omega) (by omega)]) (fun j hj => by rw [kr, m5 _ (by omega)]; exact r4k j hj) o6 (fun q a1 a2 a3 => by rw [kk _ (by omega), m4, upd_ne _ _ a2]; exact x4 q a1 a3) (by rw [kk _ (by omega), m4, upd_eq]) (by rw [kk _ (by omega), m4, upd_ne _ _ (by omega)]; exact x46) rr6 (by rw [kk _ (by omega), kk _ (by omega), kk _ (by omega), m3 _ (by omega), m3 _ (by omega), m3 _ (by omega)]; exact rv4) (by rw [kk _ (by omega), m3 _ (by omega)]; exact o4) (by rw [ks, a1, sm4]) (by rw [ks, a2, sm4]) (fun q h1 h2 => by rw [ks, a3 q h1 h2, sm4, kk _ (by omega)]) (by rw [kl, a4, m2, gl4, kk _ (by omega)])
    refine B5_wrapNext_79 hw (by rw [kg]; exact oR.1) ?_
    rw [kk _ (by omega), m3 _ (by omega), o4]
    have cE : c4 = cI := by
      have c26 := riN.2.1
      have c27 := hc4.2
      have e9 : finN rt.2 (entE d) ((hh + 9) / 10) rt.1 0 = rt.2 0 := finN_ne (by omega) (by omega) (by omega) (by omega) (by omega) (by omega) (by omega)
      have : (nI c4 : Int32) = nI cI := hc4.1.symm.trans (e9.symm.trans riN.1)
      rw [nI_eq (by omega) (by omega)] at this
      exact this
    refine hq h6 c4 loI hiI ⟨kg, fun b hb1 hb2 => ⟨o6 b (by omega) (by omega) hb2 (by omega), by rw [kr, m5 b (by omega), r4o b (by omega) (by omega) hb2], by rw [klo b (by omega), m2, gl4]⟩⟩ fin.1 fin.2 ?_
    rw [cE]
    exact ivN

