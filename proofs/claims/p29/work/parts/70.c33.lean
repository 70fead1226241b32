/-! the class: the film of a turn -/
theorem t5_fetchFilm {ω : Om} {h : AH} {Q : Option Value → AH → Prop} (hw : ω.2.2.2.1 = true) {x R e z need rnd y t th : Nat} {N0 : Nat → Int32} (he1 : 212 ≤ e) (he2 : e ≤ 532) (hz : z ≤ 25) (ht2 : th ≤ 500) (hnd : need < 2 ^ 30) :
    ∀ (fu : Nat) (N : Nat → Int32) (c : Nat) (h1 : AH) (r : Nat), RunFr x R h h1 → LayX h1 x R → RI N c → N 4 = nI th → gi h1 x 9 = N 4 → gi h1 x 10 = N 5 → meas N c < fu → r + fu ≤ 1000000 → RunR h1 x c N → runV (gi h1 R) (gi h1 (R + 1)) (gi h1 (R + 2)) N0 N e z →
    (∀ (h' : AH) (N1 : Nat → Int32) (c' : Nat) (f : Nat → Int32), fetchN e t need rnd y z fu N = (0, layZ (laysG N1 e need rnd) e y z (forceF (nI t))) → RunFr x R h h' → RunR h' x c' (upd N1 22 (N1 22 + nI need)) → runV f (gi h' (R + 1)) (gi h' (R + 2)) N0 N1 e z → gi h' R = upd (upd f 5 (f 5 + nI need)) 12 (f 12 + nI need * N1 21) → f 2 = gi h1 R 2 → (N1 0 = nI c' ∧ c' ≤ 6) → Q (some (.int (nI 0))) h') →
    (∀ (h' : AH) (g c' : Nat) (N' : Nat → Int32), fetchN e t need rnd y z fu N = (g, N') → g ≠ 0 → g ≤ 2 → RunFr x R h h' → RunR h' x c' N' → runV (gi h' R) (gi h' (R + 1)) (gi h' (R + 2)) N0 N' e z → gi h' R 2 = gi h1 R 2 → (N' 0 = nI c' ∧ c' ≤ 6) → Q (some (.int (nI g))) h') →
    Ex ω M5_fetchFilm 3 [some (.ref x), some (.int (nI need)), some (.int (nI t)), some (.ref R), some (.int (nI r)), none] [] h1 0 0 Q := by
  intro fu
  induction fu with
  | zero => intro N c h1 r _ _ _ _ _ _ hm; omega
  | succ fu ih =>
    intro N c h1 r fr lx ri hth x9 x10 hm hr rr rv q0 q1
    rw [fetchN_succ] at q0 q1
    have h0 := ri.1
    have hc6 := ri.2.1
    refine B5_fetchFilm_3 hw (fun z => absurd z (nI_ge (by omega) (by omega))) (fun _ => ?_)
    by_cases c0 : c = 0
    · subst c0
      rw [if_pos (by rw [h0]; rfl)] at q1
      refine B5_fetchFilm_10 hw lx.1.1 (fun _ => B5_fetchFilm_130 hw (q1 h1 1 0 N rfl (by omega) (by omega) fr rr rv rfl ⟨h0, by omega⟩)) (fun z => ?_)
      rw [rr.1] at z
      exact absurd (show nI 0 ≤ 0 from by decide) z
    obtain ⟨c', rfl⟩ : ∃ c', c = c' + 1 := ⟨c - 1, by omega⟩
    have n0 : ¬ N 0 = 0 := by rw [h0, show (0 : Int32) = nI 0 from rfl, nI_eq (by omega) (by omega)]; omega
    rw [if_neg n0] at q0 q1
    obtain ⟨l, wt, pos, wk, hl0, hl1, hl2, hw0, hw1, hw2, hpos, hpl, hwk, hwk8, hws⟩ := RI_first ri (by omega)
    obtain ⟨j, hj, ej, oj⟩ := rr.at lx (i := 0) (by omega)
    obtain ⟨v0, wk', v3, v8, vw⟩ := rr.2.2 0 (by omega)
    have ewk : wk' = wk := by
      have : rollG N 0 3 = nI wk := hwk
      rw [v3, nI_eq (by omega) (by omega)] at this
      exact this
    subst ewk
    have v00 : gi h1 (rA h1 x 0) 0 = nI l := (v0 0 (by omega)).trans hl0
    have v01 : gi h1 (rA h1 x 0) 1 = N 21 := v0 1 (by omega)
    have v02 : gi h1 (rA h1 x 0) 2 = nI pos := (v0 2 (by omega)).trans hpos
    have v03 : gi h1 (rA h1 x 0) 3 = nI wk' := (v0 3 (by omega)).trans hwk
    have l20 := lx.2.1.1
    refine B5_fetchFilm_10 hw lx.1.1 (fun z => ?_) (fun _ => ?_)
    · rw [rr.1, show (0 : Int32) = nI 0 from rfl, nI_leI (by omega) (by omega)] at z; omega
    refine B5_fetchFilm_17 hw lx.1.1 ?_
    rw [l20, show gr h1 (x + 1) 0 = rA h1 x 0 from rfl]
    refine B4_rest_0 hw oj.1 ?_
    rw [v00, v02, pk_sub hpl]
    rw [hl0, hpos, pk_sub hpl, h0, nn_nI (by omega), hwk, nn_nI (by omega)] at q0 q1
    refine B5_fetchFilm_26 hw (fun d1 => ?_) (fun d1 => ?_)
    · rw [nI_leI (by omega) (by omega)] at d1
      rw [if_neg (by rw [nI_ltI (by omega) (by omega)]; omega)] at q0 q1
      refine B5_fetchFilm_38 hw lx.1.1 ?_
      rw [l20, show gr h1 (x + 1) 0 = rA h1 x 0 from rfl]
      have w' : weakR wk' (gi h1 (rA h1 x 0 + 1)) (gi h1 (rA h1 x 0 + 2)) (fun k => N (24 + k)) (fun k => N (32 + k)) := weakR_congr vw (fun _ _ => ⟨rfl, rfl⟩) (fun k _ => ⟨congrArg N (by omega), congrArg N (by omega)⟩)
      refine t4_breakingPlace hw oj v03 (by omega) vw.2 (fun i bk => ?_) (fun bk => ?_)
      · have ib : i < wk' := by
          rcases bk with ⟨i2, e2, b2, _⟩ | ⟨e2, _⟩
          · have e2 := Option.some.inj e2; omega
          · cases e2
        rw [v02, ← hpos] at bk
        have bf := bk_brk w' bk
        rw [bf] at q0 q1
        obtain ⟨k, hk, ek, _⟩ := w'.fwd ib
        obtain ⟨p, s, hp, hp1, hp2, _, _⟩ := hws k hk
        have epl : gi h1 (rA h1 x 0 + 1) i = nI p := by rw [← ek]; exact hp
        have hpp : pos < p := by
          rcases bk with ⟨i2, e2, b2, b3, _⟩ | ⟨e2, _⟩
          · have e2 := Option.some.inj e2
            subst e2
            rw [hpos, epl, nI_ltI (by omega) (by omega)] at b3
            exact b3
          · cases e2
        dsimp only [Option.map] at q0 q1
        rw [epl] at q0 q1 ⊢
        refine B5_fetchFilm_49 hw (fun _ => ?_) (fun z => absurd z (ne_m1 (by omega)))
        refine B5_fetchFilm_104 hw lx.1.1 (t5_breakFilm hw lx rr hc6 (by omega) rv he1 he2 hz x9 (fun h2 fr2 rr2 rv2 g2 => ?_))
        have lx2 := lx.run fr2
        have b4 := (brk_ne (N := N) (nI p) he1 (by omega) (by omega) (by omega) (by omega) (by omega) (by omega) (by omega) : breaksN N e (nI p) 4 = N 4)
        have b5 := (brk_ne (N := N) (nI p) he1 (by omega) (by omega) (by omega) (by omega) (by omega) (by omega) (by omega) : breaksN N e (nI p) 5 = N 5)
        have mb := meas_brk he1 ri (by omega) hth ht2 hl0 (by omega) (by omega : p ≤ l) hpos hpp
        have rb := (RI_brk he1 ri (by omega) hth ht2 hl0 (by omega) (by omega : p ≤ l)).1
        have x92 : gi h2 x 9 = breaksN N e (nI p) 4 := by rw [fr2.2.2.2.2 9 (by omega), b4]; exact x9
        have x102 : gi h2 x 10 = breaksN N e (nI p) 5 := by rw [fr2.2.2.2.2 10 (by omega), b5]; exact x10
        have e6 : gi h2 R 9 = breaksN N e (nI p) (e + 6) := rv2.1.2.2.2.2.2.2.1
        refine B5_fetchFilm_111 hw lx2.2.2.1.1 lx2.1.1 (fun d2 => ?_) (fun d2 => ?_)
        · rw [e6, x102] at d2
          rw [if_pos d2] at q0 q1
          refine B5_fetchFilm_124 hw ?_
          rw [nI_add]
          exact ih _ (c' + 1) h2 (r + 1) (fr.trans fr2) lx2 rb (b4.trans hth) x92 x102 (by omega) (by omega) rr2 rv2 (fun h' N1 c1 f a1 a2 a3 a4 a5 a6 a8 => q0 h' N1 c1 f a1 a2 a3 a4 a5 (a6.trans g2) a8) (fun h' g c1 N' a1 a2 a3 a4 a5 a6 a7 a8 => q1 h' g c1 N' a1 a2 a3 a4 a5 a6 (a7.trans g2) a8)
        · rw [e6, x102] at d2
          rw [if_neg d2] at q1
          exact B5_fetchFilm_122 hw (q1 h2 2 (c' + 1) _ rfl (by omega) (by omega) (fr.trans fr2) rr2 rv2 g2 ⟨rb.1, hc6⟩)
      · rw [v02, ← hpos] at bk
        have bf := bk_brk w' bk
        rw [bf] at q0
        dsimp only [Option.map] at q0
        refine B5_fetchFilm_49 hw (fun z => absurd rfl z) (fun _ => ?_)
        refine B5_fetchFilm_57 hw lx.1.1 lx.2.2.1.1 ?_
        have b1 := lx.2.2.2.1
        have b2 := lx.2.2.2.2
        rw [l20, show gr h1 (x + 1) 0 = rA h1 x 0 from rfl]
        have rf : ∀ i, i < 6 → ∃ q, q < 6 ∧ rA h1 x i = x + 2 + 3 * q := fun i hi => rr.2.1.1 i hi
        have rn := fun i hi (z : i ≠ 0) => rr.ne (i := i) (k := 0) hi (by omega) z
        have rr1 := rr.1
        have rr0 := rr.2.1
        have rr2 := rr.2.2
        have r00 := rr2 0 (by omega)
        obtain ⟨A, hA⟩ : ∃ A, rA h1 x 0 = A := ⟨_, rfl⟩
        rw [hA] at ej oj v00 v01 v02 v03 r00 ⊢
        simp (disch := omega) only [si_wi, sr_wr, sl_wl, gi_wi, gi_wi_ne, gr_wi, gs_wi, gl_wi, gi_wr, gr_wr, gr_wr_ne, gs_wr, gl_wr, gi_wl, gr_wl, gs_wl, gl_wl, gl_wl_ne, wi_wi, wr_wr, updN_eq, updN_ne, pk_mul, nI_add, nI_clamp, upd_eq, upd_ne, v02]
        refine B5_fetchFilm_82 hw (by exact lx.2.2.1.1) (by exact lx.1.1) ?_
        rw [show gr (wi (wi h1 A (upd (gi h1 A) 2 (nI (pos + need)))) R (upd (gi h1 R) 5 (gi h1 R 5 + nI need))) (gr (wi (wi h1 A (upd (gi h1 A) 2 (nI (pos + need)))) R (upd (gi h1 R) 5 (gi h1 R 5 + nI need))) x 0) 0 = A from by rw [gr_wi, gr_wi, l20]; exact hA]
        simp (disch := omega) only [si_wi, sr_wr, sl_wl, gi_wi, gi_wi_ne, gr_wi, gs_wi, gl_wi, gi_wr, gr_wr, gr_wr_ne, gs_wr, gl_wr, gi_wl, gr_wl, gs_wl, gl_wl, gl_wl_ne, wi_wi, wr_wr, updN_eq, updN_ne, pk_mul, nI_add, nI_clamp, upd_eq, upd_ne, v01]
        refine q0 _ N (c' + 1) (gi h1 R) rfl (fr.trans ⟨rfl, rfl, fun _ _ => rfl, fun b h1 h2 => ?_, fun k hk => ?_⟩) ⟨?_, rr0, fun i hi => ?_⟩ ?_ ?_ rfl ⟨h0, hc6⟩
        · simp (disch := omega) only [si_wi, sr_wr, sl_wl, gi_wi, gi_wi_ne, gr_wi, gs_wi, gl_wi, gi_wr, gr_wr, gr_wr_ne, gs_wr, gl_wr, gi_wl, gr_wl, gs_wl, gl_wl, gl_wl_ne, wi_wi, wr_wr, updN_eq, updN_ne, pk_mul, nI_add, nI_clamp, upd_eq, upd_ne]
        · simp (disch := omega) only [si_wi, sr_wr, sl_wl, gi_wi, gi_wi_ne, gr_wi, gs_wi, gl_wi, gi_wr, gr_wr, gr_wr_ne, gs_wr, gl_wr, gi_wl, gr_wl, gs_wl, gl_wl, gl_wl_ne, wi_wi, wr_wr, updN_eq, updN_ne, pk_mul, nI_add, nI_clamp, upd_eq, upd_ne]
        · simp (disch := omega) only [si_wi, sr_wr, sl_wl, gi_wi, gi_wi_ne, gr_wi, gs_wi, gl_wi, gi_wr, gr_wr, gr_wr_ne, gs_wr, gl_wr, gi_wl, gr_wl, gs_wl, gl_wl, gl_wl_ne, wi_wi, wr_wr, updN_eq, updN_ne, pk_mul, nI_add, nI_clamp, upd_eq, upd_ne, rr1]
        · show rollV (gi _ (rA h1 x i)) (gi _ (rA h1 x i + 1)) (gi _ (rA h1 x i + 2)) (rollG (upd N 22 (N 22 + nI need)) i)
          have vi := rr2 i hi
          by_cases z0 : i = 0
          · subst z0
            rw [hA] at vi ⊢
            simp (disch := omega) only [si_wi, sr_wr, sl_wl, gi_wi, gi_wi_ne, gr_wi, gs_wi, gl_wi, gi_wr, gr_wr, gr_wr_ne, gs_wr, gl_wr, gi_wl, gr_wl, gs_wl, gl_wl, gl_wl_ne, wi_wi, wr_wr, updN_eq, updN_ne, pk_mul, nI_add, nI_clamp, upd_eq, upd_ne]
            obtain ⟨g4, wk, g3, g8, gw⟩ := vi
            have eg : ∀ k, k < 20 → k ≠ 2 → rollG (upd N 22 (N 22 + nI need)) 0 k = rollG N 0 k := fun k h1 h2 => upd_ne _ _ (by omega)
            refine ⟨fun k hk => ?_, wk, by rw [eg 3 (by omega) (by omega)]; exact g3, g8, weakR_congr gw (fun _ _ => ⟨rfl, rfl⟩) (fun k hk => ⟨eg _ (by omega) (by omega), eg _ (by omega) (by omega)⟩)⟩
            by_cases k2 : k = 2
            · subst k2
              rw [upd_eq]
              show _ = upd N 22 (N 22 + nI need) 22
              rw [upd_eq, hpos, nI_add]
            · rw [upd_ne _ _ k2, eg k (by omega) k2]; exact g4 k hk
          · obtain ⟨q, hq6, eq⟩ := rf i (by omega)
            have rn := rn i (by omega) z0
            rw [hA] at rn
            simp (disch := omega) only [si_wi, sr_wr, sl_wl, gi_wi, gi_wi_ne, gr_wi, gs_wi, gl_wi, gi_wr, gr_wr, gr_wr_ne, gs_wr, gl_wr, gi_wl, gr_wl, gs_wl, gl_wl, gl_wl_ne, wi_wi, wr_wr, updN_eq, updN_ne, pk_mul, nI_add, nI_clamp, upd_eq, upd_ne]
            exact rollV_G vi (fun k hk => upd_ne _ _ (by omega))
        · simp (disch := omega) only [si_wi, sr_wr, sl_wl, gi_wi, gi_wi_ne, gr_wi, gs_wi, gl_wi, gi_wr, gr_wr, gr_wr_ne, gs_wr, gl_wr, gi_wl, gr_wl, gs_wl, gl_wl, gl_wl_ne, wi_wi, wr_wr, updN_eq, updN_ne, pk_mul, nI_add, nI_clamp, upd_eq, upd_ne]
          exact rv
        · simp (disch := omega) only [si_wi, sr_wr, sl_wl, gi_wi, gi_wi_ne, gr_wi, gs_wi, gl_wi, gi_wr, gr_wr, gr_wr_ne, gs_wr, gl_wr, gi_wl, gr_wl, gs_wl, gl_wl, gl_wl_ne, wi_wi, wr_wr, updN_eq, updN_ne, pk_mul, nI_add, nI_clamp, upd_eq, upd_ne]
    · rw [nI_leI (by omega) (by omega)] at d1
      rw [if_pos (by rw [nI_ltI (by omega) (by omega)]; omega)] at q0 q1
      refine B5_fetchFilm_30 hw lx.1.1 (t5_changeRoll hw lx rr hc6 (by omega) rv he1 he2 hz (fun h2 fr2 rr2 rv2 g2 => ?_))
      have lx2 := lx.run fr2
      have mc := meas_chg he1 ri
      have b4 : chgN N e (c' + 1) 4 = N 4 := chg_lo he1 (by omega) (by omega) (by omega) (by omega) (by omega) (by omega)
      have b5 : chgN N e (c' + 1) 5 = N 5 := chg_lo he1 (by omega) (by omega) (by omega) (by omega) (by omega) (by omega)
      refine B5_fetchFilm_35 hw (B5_fetchFilm_124 hw ?_)
      rw [nI_add]
      exact ih _ c' h2 (r + 1) (fr.trans fr2) lx2 (RI_chg he1 ri) (b4.trans hth) (by rw [fr2.2.2.2.2 9 (by omega), b4]; exact x9) (by rw [fr2.2.2.2.2 10 (by omega), b5]; exact x10) (by show meas (chgN N e (c' + 1)) c' < fu; omega) (by omega) rr2 rv2 (fun h' N1 c1 f a1 a2 a3 a4 a5 a6 a8 => q0 h' N1 c1 f a1 a2 a3 a4 a5 (a6.trans g2) a8) (fun h' g c1 N' a1 a2 a3 a4 a5 a6 a7 a8 => q1 h' g c1 N' a1 a2 a3 a4 a5 a6 (a7.trans g2) a8)

