/-! the class: the roll is changed, the film breaks -/
def LayX (h : AH) (x R : Nat) : Prop := LSs h x ∧ LSf h x ∧ ResO h R ∧ x + 30 ≤ R ∧ R + 3 ≤ x + 48
theorem LayX.run {h h' : AH} {x R : Nat} (l : LayX h x R) (f : RunFr x R h h') : LayX h' x R := ⟨LSs_frm l.1 f.1, LSf_frm l.2.1 f.1 (fun b hb => f.2.2.1 b (by omega)), O3_frm l.2.2.1 f.1 (f.2.2.1 _ (by have := l.2.2.2; omega)), l.2.2.2⟩
theorem RunR.at {h : AH} {x R c i : Nat} {N : Nat → Int32} (r : RunR h x c N) (l : LayX h x R) (hi : i < 6) : ∃ j, j < 6 ∧ rA h x i = x + 2 + 3 * j ∧ RollO h (rA h x i) := by
  obtain ⟨j, hj, e⟩ := r.2.1.1 i hi
  refine ⟨j, hj, e, ?_⟩
  unfold rA
  rw [e]
  exact l.2.1.2.2.2.2.2.2.1 j hj
theorem RunR.ne {h : AH} {x c i k : Nat} {N : Nat → Int32} (r : RunR h x c N) (hi : i < 6) (hk : k < 6) (ne : i ≠ k) : rA h x i + 3 ≤ rA h x k ∨ rA h x k + 3 ≤ rA h x i := by
  obtain ⟨j, hj, e⟩ := r.2.1.1 i hi
  obtain ⟨j2, hj2, e2⟩ := r.2.1.1 k hk
  have : gr h (x + 1) i ≠ gr h (x + 1) k := by
    rcases Nat.lt_or_gt_of_ne ne with q | q
    · exact r.2.1.2 i k q hk
    · exact (r.2.1.2 k i q hi).symm
  unfold rA
  omega
theorem rollV_G {g p s G G' : Nat → Int32} (v : rollV g p s G) (e : ∀ k, k < 20 → G' k = G k) : rollV g p s G' := by
  obtain ⟨g4, wk, g3, g8, gw⟩ := v
  exact ⟨fun k hk => by rw [e k (by omega)]; exact g4 k hk, wk, by rw [e 3 (by omega)]; exact g3, g8, weakR_congr gw (fun _ _ => ⟨rfl, rfl⟩) (fun k hk => ⟨e _ (by omega), e _ (by omega)⟩)⟩
theorem t5_changeRoll {ω : Om} {h : AH} {Q : Option Value → AH → Prop} (hw : ω.2.2.2.1 = true) {x R c e z : Nat} {N N0 : Nat → Int32} (lx : LayX h x R) (rr : RunR h x c N) (c6 : c ≤ 6) (c1 : 1 ≤ c) (rv : runV (gi h R) (gi h (R + 1)) (gi h (R + 2)) N0 N e z) (he1 : 212 ≤ e) (he2 : e ≤ 532) (hz : z ≤ 25) (hq : ∀ h' : AH, RunFr x R h h' → RunR h' x (c - 1) (chgN N e c) → runV (gi h' R) (gi h' (R + 1)) (gi h' (R + 2)) N0 (chgN N e c) e z → gi h' R 2 = gi h R 2 → Q none h') : Ex ω M5_changeRoll 0 [some (.ref x), some (.ref R)] [] h 0 0 Q := by
  obtain ⟨l1, l2, l3, b1, b2⟩ := lx
  obtain ⟨j, hj, ej, oj⟩ := rr.at ⟨l1, l2, l3, b1, b2⟩ (i := 0) (by omega)
  have v0 := (rr.2.2 0 (by omega)).1
  have v00 : gi h (rA h x 0) 0 = N 20 := v0 0 (by omega)
  have v02 : gi h (rA h x 0) 2 = N 22 := v0 2 (by omega)
  have rf : ∀ i, i < 6 → ∃ q, q < 6 ∧ rA h x i = x + 2 + 3 * q := fun i hi => rr.2.1.1 i hi
  refine B5_changeRoll_0 hw l3.1 l1.1 ?_
  rw [l2.1, show gr h (x + 1) 0 = rA h x 0 from rfl]
  refine B4_rest_0 hw oj.1 ?_
  rw [v00, v02]
  refine B5_changeRoll_14 hw l3.1 l3.1 ?_
  simp (disch := omega) only [si_wi, sr_wr, sl_wl, gi_wi, gi_wi_ne, gr_wi, gs_wi, gl_wi, gi_wr, gr_wr, gr_wr_ne, gs_wr, gl_wr, gi_wl, gr_wl, gs_wl, gl_wl, gl_wl_ne, wi_wi, wr_wr, updN_eq, updN_ne, pk_mul, nI_add, nI_clamp, upd_eq, upd_ne]
  have rv' := runV_chg rv he1 he2 hz c6 rfl
  have e2 : upd (upd (upd (gi h R) 6 (gi h R 6 + (N 20 - N 22))) 10 (gi h R 10 + nI 1)) 11 (gi h R 11 + nI 60) 2 = gi h R 2 := by rw [upd_ne _ _ (by omega), upd_ne _ _ (by omega), upd_ne _ _ (by omega)]
  generalize upd (upd (upd (gi h R) 6 (gi h R 6 + (N 20 - N 22))) 10 (gi h R 10 + nI 1)) 11 (gi h R 11 + nI 60) = f' at *
  refine B5_changeRoll_39 hw l1.1 (t5_removePresentRoll hw (LSs_frm l1 rfl) (by exact l2.1) (by rw [gi_wi_ne _ _ _ (by omega)]; exact rr.1) c6 c1 (by exact oj.1) (fun h' g1 g2 g3 g4 g5 g6 => B5_changeRoll_43 hw ?_))
  have gR : gi h' R = f' := by rw [g3 _ (by omega), gi_wi]
  have gO : ∀ b, b ≠ x → b ≠ R → gi h' b = gi h b := fun b hb1 hb2 => by rw [g3 _ hb1, gi_wi_ne _ _ _ hb2]
  have gX : gi h' x = upd (gi h x) 1 (nI (c - 1)) := by rw [g4, gi_wi_ne _ _ _ (by omega)]
  refine hq h' ⟨g1, g2, g5, fun b h1 h2 => gO b (by omega) (by omega), fun k hk => by rw [gX, upd_ne _ _ hk]⟩ ⟨by rw [gX, upd_eq], rotR_P6 rr.2.1 c1 c6 g6, fun i hi => ?_⟩ ?_ (by rw [gR]; exact e2)
  · have ea : rA h' x i = rA h x (i + 1) := by
      show gr h' (x + 1) i = gr h (x + 1) (i + 1)
      rw [g6 i (by omega)]
      exact if_pos ⟨by omega, by omega⟩
    obtain ⟨q, hq6, eq⟩ := rf (i + 1) (by omega)
    rw [ea, gO _ (by omega) (by omega), gO _ (by omega) (by omega), gO _ (by omega) (by omega)]
    refine rollV_G (rr.2.2 (i + 1) (by omega)) (fun k hk => ?_)
    unfold rollG
    rw [chg_r he1 c6 (by omega) (by omega)]
    exact congrArg N (by omega)
  · rw [gR, gO _ (by omega) (by omega), gO _ (by omega) (by omega)]; exact rv'
theorem runV_brk {f p s N0 N : Nat → Int32} {e z : Nat} {v w pl : Int32} (r : runV f p s N0 N e z) (he1 : 212 ≤ e) (he2 : e ≤ 532) (hz : z ≤ 25) (hv : v = pl - N 22) (hw : w = lesser (N 4) (N 20 - pl)) : runV (upd (upd (upd (upd f 7 (f 7 + v)) 8 (f 8 + w)) 9 (f 9 + nI 1)) 11 (f 11 + nI 40)) p s N0 (breaksN N e pl) e z := by
  obtain ⟨⟨a0, a1, a2, a3, a4, a5, a6, a7, a8, a9⟩, ⟨b0, b1, b2, b3, b4, b5, b6, b7, b8, b9⟩, d⟩ := r
  subst hv
  subst hw
  refine ⟨⟨?_, ?_, ?_, ?_, ?_, ?_, ?_, ?_, ?_, ?_⟩, ⟨?_, ?_, ?_, ?_, ?_, ?_, ?_, ?_, ?_, ?_⟩, fun i hi => ⟨by rw [(d i hi).1, brk_hi pl he1 (by omega)], by rw [(d i hi).2, brk_hi pl he1 (by omega)]⟩⟩
  all_goals simp (disch := omega) only [breaksN, lastsN, wastesN, addC_ne, addC_eq, upd_eq, upd_ne, Nat.reduceAdd]
  all_goals first | assumption | skip
  · rw [← a5]; ac_rfl
  · rw [a6]
  · rw [a8]
  · rw [b2]; ac_rfl
  · rw [b3]; ac_rfl
  · rw [b4]; ac_rfl
  · rw [b8]; ac_rfl
  · rw [b9]; ac_rfl
theorem t5_breakFilm {ω : Om} {h : AH} {Q : Option Value → AH → Prop} (hw : ω.2.2.2.1 = true) {x R c e z : Nat} {pl : Int32} {N N0 : Nat → Int32} (lx : LayX h x R) (rr : RunR h x c N) (c6 : c ≤ 6) (c1 : 1 ≤ c) (rv : runV (gi h R) (gi h (R + 1)) (gi h (R + 2)) N0 N e z) (he1 : 212 ≤ e) (he2 : e ≤ 532) (hz : z ≤ 25) (x9 : gi h x 9 = N 4) (hq : ∀ h' : AH, RunFr x R h h' → RunR h' x c (breaksN N e pl) → runV (gi h' R) (gi h' (R + 1)) (gi h' (R + 2)) N0 (breaksN N e pl) e z → gi h' R 2 = gi h R 2 → Q none h') : Ex ω M5_breakFilm 0 [some (.ref x), some (.int pl), some (.ref R), none, none] [] h 0 0 Q := by
  obtain ⟨l1, l2, l3, b1, b2⟩ := lx
  obtain ⟨j, hj, ej, oj⟩ := rr.at ⟨l1, l2, l3, b1, b2⟩ (i := 0) (by omega)
  have v0 := (rr.2.2 0 (by omega)).1
  have v00 : gi h (rA h x 0) 0 = N 20 := v0 0 (by omega)
  have v02 : gi h (rA h x 0) 2 = N 22 := v0 2 (by omega)
  have rf : ∀ i, i < 6 → ∃ q, q < 6 ∧ rA h x i = x + 2 + 3 * q := fun i hi => rr.2.1.1 i hi
  have rn := fun i hi (z : i ≠ 0) => rr.ne (i := i) (k := 0) hi (by omega) z
  have rr2 := rr.2.2
  have rr1 := rr.1
  have rr0 := rr.2.1
  refine B5_breakFilm_0 hw l1.1 l3.1 ?_
  rw [l2.1, show gr h (x + 1) 0 = rA h x 0 from rfl]
  obtain ⟨A, hA⟩ : ∃ A, rA h x 0 = A := ⟨_, rfl⟩
  rw [hA] at ej oj v00 v02 ⊢
  simp (disch := omega) only [si_wi, sr_wr, sl_wl, gi_wi, gi_wi_ne, gr_wi, gs_wi, gl_wi, gi_wr, gr_wr, gr_wr_ne, gs_wr, gl_wr, gi_wl, gr_wl, gs_wl, gl_wl, gl_wl_ne, wi_wi, wr_wr, updN_eq, updN_ne, pk_mul, nI_add, nI_clamp, upd_eq, upd_ne, v02]
  refine B4_rest_0 hw (by exact oj.1) (B5_breakFilm_35 hw (by exact l3.1) (by exact oj.1) ?_)
  rw [lesser_max]
  simp (disch := omega) only [si_wi, sr_wr, sl_wl, gi_wi, gi_wi_ne, gr_wi, gs_wi, gl_wi, gi_wr, gr_wr, gr_wr_ne, gs_wr, gl_wr, gi_wl, gr_wl, gs_wl, gl_wl, gl_wl_ne, wi_wi, wr_wr, updN_eq, updN_ne, pk_mul, nI_add, nI_clamp, upd_eq, upd_ne, v00, x9]
  refine B5_breakFilm_62 hw (by exact l3.1) ?_
  simp (disch := omega) only [si_wi, sr_wr, sl_wl, gi_wi, gi_wi_ne, gr_wi, gs_wi, gl_wi, gi_wr, gr_wr, gr_wr_ne, gs_wr, gl_wr, gi_wl, gr_wl, gs_wl, gl_wl, gl_wl_ne, wi_wi, wr_wr, updN_eq, updN_ne, pk_mul, nI_add, nI_clamp, upd_eq, upd_ne]
  have rv' := runV_brk rv he1 he2 hz (v := pl - N 22) (w := lesser (N 4) (N 20 - pl)) (pl := pl) rfl rfl
  refine hq _ ⟨rfl, rfl, fun _ _ => rfl, fun b h1 h2 => ?_, fun k hk => ?_⟩ ⟨?_, rr0, fun i hi => ?_⟩ ?_ ?_
  · simp (disch := omega) only [si_wi, sr_wr, sl_wl, gi_wi, gi_wi_ne, gr_wi, gs_wi, gl_wi, gi_wr, gr_wr, gr_wr_ne, gs_wr, gl_wr, gi_wl, gr_wl, gs_wl, gl_wl, gl_wl_ne, wi_wi, wr_wr, updN_eq, updN_ne, pk_mul, nI_add, nI_clamp, upd_eq, upd_ne]
  · simp (disch := omega) only [si_wi, sr_wr, sl_wl, gi_wi, gi_wi_ne, gr_wi, gs_wi, gl_wi, gi_wr, gr_wr, gr_wr_ne, gs_wr, gl_wr, gi_wl, gr_wl, gs_wl, gl_wl, gl_wl_ne, wi_wi, wr_wr, updN_eq, updN_ne, pk_mul, nI_add, nI_clamp, upd_eq, upd_ne]
  · simp (disch := omega) only [si_wi, sr_wr, sl_wl, gi_wi, gi_wi_ne, gr_wi, gs_wi, gl_wi, gi_wr, gr_wr, gr_wr_ne, gs_wr, gl_wr, gi_wl, gr_wl, gs_wl, gl_wl, gl_wl_ne, wi_wi, wr_wr, updN_eq, updN_ne, pk_mul, nI_add, nI_clamp, upd_eq, upd_ne, rr1]
  · show rollV (gi _ (rA h x i)) (gi _ (rA h x i + 1)) (gi _ (rA h x i + 2)) (rollG (breaksN N e pl) i)
    have vi := rr2 i hi
    by_cases z0 : i = 0
    · subst z0
      rw [hA] at vi ⊢
      simp (disch := omega) only [si_wi, sr_wr, sl_wl, gi_wi, gi_wi_ne, gr_wi, gs_wi, gl_wi, gi_wr, gr_wr, gr_wr_ne, gs_wr, gl_wr, gi_wl, gr_wl, gs_wl, gl_wl, gl_wl_ne, wi_wi, wr_wr, updN_eq, updN_ne, pk_mul, nI_add, nI_clamp, upd_eq, upd_ne]
      obtain ⟨g4, wk, g3, g8, gw⟩ := vi
      have eg : ∀ k, k < 20 → k ≠ 2 → rollG (breaksN N e pl) 0 k = rollG N 0 k := fun k h1 h2 => brk_ne pl he1 (by omega) (by omega) (by omega) (by omega) (by omega) (by omega) (by omega)
      refine ⟨fun k hk => ?_, wk, by rw [eg 3 (by omega) (by omega)]; exact g3, g8, weakR_congr gw (fun _ _ => ⟨rfl, rfl⟩) (fun k hk => ⟨eg _ (by omega) (by omega), eg _ (by omega) (by omega)⟩)⟩
      by_cases k2 : k = 2
      · subst k2
        rw [upd_eq]
        exact (brk_22 pl he1).symm
      · rw [upd_ne _ _ k2, upd_ne _ _ k2, eg k (by omega) k2]; exact g4 k hk
    · obtain ⟨q, hq6, eq⟩ := rf i (by omega)
      have rn := rn i (by omega) z0
      rw [hA] at rn
      simp (disch := omega) only [si_wi, sr_wr, sl_wl, gi_wi, gi_wi_ne, gr_wi, gs_wi, gl_wi, gi_wr, gr_wr, gr_wr_ne, gs_wr, gl_wr, gi_wl, gr_wl, gs_wl, gl_wl, gl_wl_ne, wi_wi, wr_wr, updN_eq, updN_ne, pk_mul, nI_add, nI_clamp, upd_eq, upd_ne]
      exact rollV_G vi (fun k hk => brk_ne pl he1 (by omega) (by omega) (by omega) (by omega) (by omega) (by omega) (by omega))
  · simp (disch := omega) only [si_wi, sr_wr, sl_wl, gi_wi, gi_wi_ne, gr_wi, gs_wi, gl_wi, gi_wr, gr_wr, gr_wr_ne, gs_wr, gl_wr, gi_wl, gr_wl, gs_wl, gl_wl, gl_wl_ne, wi_wi, wr_wr, updN_eq, updN_ne, pk_mul, nI_add, nI_clamp, upd_eq, upd_ne]
    exact rv'
  · simp (disch := omega) only [si_wi, sr_wr, sl_wl, gi_wi, gi_wi_ne, gr_wi, gs_wi, gl_wi, gi_wr, gr_wr, gr_wr_ne, gs_wr, gl_wr, gi_wl, gr_wl, gs_wl, gl_wl, gl_wl_ne, wi_wi, wr_wr, updN_eq, updN_ne, pk_mul, nI_add, nI_clamp, upd_eq, upd_ne]

