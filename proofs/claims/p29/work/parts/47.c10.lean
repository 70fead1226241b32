/-! changes of the row and of the state, part by part -/
theorem PI_congr {N N' : Nat → Int32} {w : Nat} (e : ∀ j, (j = 1 ∨ (140 ≤ j ∧ j < 188)) → N' j = N j) (h : PI N w) : PI N' w := by
  obtain ⟨a, b, c, d⟩ := h
  refine ⟨(e 1 (Or.inl rfl)).trans a, b, fun i hi => pOk_congr (fun k hk => e _ (by omega)) (c i hi), fun i j h1 h2 => ?_⟩
  unfold palG
  rw [e _ (by omega), e _ (by omega)]
  exact d i j h1 h2
theorem INV_rolls {N N' : Nat → Int32} {K c c' w d nx lo hi : Nat} {acc : List (Nat × Nat)} (iv : INV N K c w d nx lo hi acc) (e : ∀ j, ((1 ≤ j ∧ j < 20) ∨ 140 ≤ j) → N' j = N j) (ri : RI N' c') : INV N' K c' w d nx lo hi acc := by
  obtain ⟨_, a2, a3, ⟨th, a4, a4'⟩, ⟨pa, a5, a5'⟩, ⟨a6, a6'⟩, ⟨a7, a7'⟩, a8, ⟨a9, a10, a11, a12⟩, a13, a14⟩ := iv
  refine ⟨ri, PI_congr (fun j hj => e j (by omega)) a2, SI_congr (fun j hj => e j (by omega)) a3, ⟨th, (e 4 (by omega)).trans a4, a4'⟩, ⟨pa, (e 5 (by omega)).trans a5, a5'⟩, ⟨(e 7 (by omega)).trans a6, a6'⟩, ⟨(e 2 (by omega)).trans a7, a7'⟩, fun i hi => ?_, ⟨(e 18 (by omega)).trans a9, a10, (e 19 (by omega)).trans a11, a12⟩, fun i hi => ?_, fun j hj => (e j (by omega)).trans (a14 j hj)⟩
  · have := a2.2.1
    unfold palG
    rw [e _ (by omega)]
    exact a8 i hi
  · rw [e _ (by omega)]; exact a13 i hi
theorem gmn_congr {f f' : Nat → Int32} : ∀ z, (∀ i, i ≤ z → f' i = f i) → gmn f' z = gmn f z := by
  intro z
  induction z with
  | zero => intro h; exact h 0 (Nat.le_refl _)
  | succ z ih =>
    intro h
    show lesser (gmn f' z) (f' z) = lesser (gmn f z) (f z)
    rw [ih (fun i hi => h i (by omega)), h z (by omega)]
theorem gmx_congr {f f' : Nat → Int32} : ∀ z, (∀ i, i < z → f' i = f i) → gmx f' z = gmx f z := by
  intro z
  induction z with
  | zero => intro _; rfl
  | succ z ih =>
    intro h
    show (if gmx f' z < f' z then f' z else gmx f' z) = if gmx f z < f z then f z else gmx f z
    rw [ih (fun i hi => h i (by omega)), h z (by omega)]
theorem keptV_N {g la fo N N' : Nat → Int32} {e : Nat} (v : keptV g la fo N e) (q : ∀ j, e ≤ j → j < e + 64 → N' j = N j) : keptV g la fo N' e := by
  obtain ⟨a0, a1, a2, a3, a4, a5, a6, a7, a8, a9, a10, z, b1, b2, b3, b4, b5, b6⟩ := v
  refine ⟨a0.trans (q _ (by omega) (by omega)).symm, a1.trans (q _ (by omega) (by omega)).symm, a2.trans (q _ (by omega) (by omega)).symm, a3.trans (q _ (by omega) (by omega)).symm, a4.trans (q _ (by omega) (by omega)).symm, a5.trans (q _ (by omega) (by omega)).symm, a6.trans (q _ (by omega) (by omega)).symm, a7.trans (q _ (by omega) (by omega)).symm, a8.trans (q _ (by omega) (by omega)).symm, a9.trans (q _ (by omega) (by omega)).symm, a10.trans (q _ (by omega) (by omega)).symm, z, (q _ (by omega) (by omega)).trans b1, b2, b3, fun i hi => ?_, ?_, ?_⟩
  · rw [q _ (by omega) (by omega), q _ (by omega) (by omega)]; exact b4 i hi
  · rw [q _ (by omega) (by omega), b5]
    exact (gmn_congr z (fun i hi => q _ (by omega) (by omega))).symm
  · rw [q _ (by omega) (by omega), b6]
    exact (gmx_congr z (fun i hi => q _ (by omega) (by omega))).symm
theorem sumV_N {sm N N' : Nat → Int32} {wg : Int64} (v : sumV sm wg N) (e : ∀ j, 6 ≤ j → j < 20 → N' j = N j) : sumV sm wg N' := by
  unfold sumV weightR at *
  rw [e 7 (by omega) (by omega), e 17 (by omega) (by omega), e 15 (by omega) (by omega), e 16 (by omega) (by omega), e 9 (by omega) (by omega), e 10 (by omega) (by omega), e 11 (by omega) (by omega), e 12 (by omega) (by omega), e 13 (by omega) (by omega), e 14 (by omega) (by omega), e 6 (by omega) (by omega), e 8 (by omega) (by omega), e 18 (by omega) (by omega), e 19 (by omega) (by omega)]
  exact v
theorem keptB_b (d i : Nat) : 212 ≤ keptB d i ∧ keptB d i ≤ 532 := by unfold keptB; omega
/-- only the rolls changed -/
theorem ValS_rolls {h h' : AH} {x : Nat} {N N' : Nat → Int32} {c c' w d : Nat} {acc : List (Nat × Nat)} (l : LayS h x) (v : ValS h x N c w d acc) (f : Frm x (x + 20) h h') (gx : ∀ k, k ≠ 1 → gi h' x k = gi h x k) (g1 : gi h' x 1 = nI c') (c6 : c' ≤ 6) (e : ∀ j, ((1 ≤ j ∧ j < 20) ∨ 140 ≤ j) → N' j = N j) (hr : ∀ i, i < c' → rollV (gi h' (rA h' x i)) (gi h' (rA h' x i + 1)) (gi h' (rA h' x i + 2)) (rollG N' i)) : ValS h' x N' c' w d acc := by
  obtain ⟨⟨v1, v2, v3⟩, ⟨w1, w2, w3⟩, n1, ⟨k1, k2⟩, p1, s1, t1, t2⟩ := v
  have e2 : ∀ i, pA h' x i = pA h x i := fun i => by unfold pA; rw [(f.2 _ (by omega)).2.1]
  have e3 : ∀ i, kA h' x i = kA h x i := fun i => by unfold kA; rw [(f.2 _ (by omega)).2.1]
  refine ⟨⟨g1, c6, hr⟩, ⟨(gx 3 (by omega)).trans w1, w2, ?_⟩, ?_, ⟨(gx 6 (by omega)).trans k1, fun i hi => ?_⟩, ?_, ?_, ?_, ?_⟩
  · refine palsR_congr w3 (fun i hi k _ => ?_) (fun i hi k hk => e _ (by omega))
    obtain ⟨j, hj, e, _⟩ := l.pal (i := i) (by omega)
    show gi h' (pA h' x i) k = gi h (pA h x i) k
    rw [e2, (f.2 _ (by omega)).1]
  · rw [gx 4 (by omega), e 2 (by omega)]; exact n1
  · obtain ⟨j, hj, ea, _⟩ := l.res (i := i) (by omega)
    have kb := keptB_b d i
    rw [e3, (f.2 _ (by omega)).1, (f.2 _ (by omega)).1, (f.2 _ (by omega)).1]
    exact keptV_N (k2 i hi) (fun j h1 h2 => e j (by omega))
  · rw [(f.2 _ (by omega)).1, (f.2 _ (by omega)).1, (f.2 _ (by omega)).1]; exact p1
  · rw [(f.2 _ (by omega)).1, (f.2 _ (by omega)).2.2]; exact sumV_N s1 (fun j h1 h2 => e j (by omega))
  · rw [gx 9 (by omega), e 4 (by omega)]; exact t1
  · rw [gx 10 (by omega), e 5 (by omega)]; exact t2
theorem RI_addRoll {N : Nat → Int32} {c : Nat} {l w : Int32} (ri : RI N c) (ok : okRoll l w) (h6 : c < 6) : RI (addRollN N c l w) (c + 1) := by
  obtain ⟨ln, rfl, l1, l2⟩ := bd_of (by omega) (by omega) ok.1.1 ok.1.2
  obtain ⟨wn, rfl, w1, w2⟩ := bd_of (by omega) (by omega) ok.2.1 ok.2.2
  refine ⟨?_, by omega, fun i hi => ?_⟩
  · unfold addRollN; rw [if_pos rfl]
  · by_cases z : i = c
    · subst z
      refine ⟨ln, wn, 0, 0, ?_, l1, l2, ?_, w1, w2, ?_, Nat.zero_le _, ?_, Nat.zero_le _, fun k hk => by omega, fun j k _ hk => by omega⟩
      · unfold rollG addRollN; rw [if_neg (by omega), if_pos (by omega)]
      · unfold rollG addRollN; rw [if_neg (by omega), if_neg (by omega), if_pos (by omega)]
      · unfold rollG addRollN; rw [if_neg (by omega), if_neg (by omega), if_neg (by omega), if_pos (by omega)]; rfl
      · unfold rollG addRollN; rw [if_neg (by omega), if_neg (by omega), if_neg (by omega), if_pos (by omega)]; rfl
    · refine rOk_congr (fun k hk => ?_) (ri.2.2 i (by omega))
      unfold rollG addRollN
      rw [if_neg (by omega), if_neg (by omega), if_neg (by omega), if_neg (by omega)]
theorem t8_addRoll {ω : Om} {h : AH} {Q : Option Value → AH → Prop} (hw : ω.2.2.2.1 = true) {B : Nat} {N : Nat → Int32} {H : List (Nat → Int32)} {T : Nat → Int32} {len K : Nat} {a b : Int32} (cw : CW h B N H T len K) (q1 : ¬ okRoll a b → Q (some (.int (-1))) h) (q2 : ∀ c : Nat, N 0 = nI c → okRoll a b → c = 6 → Q (some (.int (-3))) h) (q3 : ∀ c : Nat, N 0 = nI c → okRoll a b → c < 6 → ∀ h' : AH, Frm B (B + 324) h h' → CW h' B (addRollN N c a b) (pushH H N) T len K → Q (some (.int (nI (c + 1)))) h') : Ex ω M8_addRoll 0 [some (.ref B), some (.int a), some (.int b)] [] h 0 0 Q := by
  obtain ⟨c, w, d, nx, lo, hi, acc, vs, iv⟩ := cw.2.1
  have lw := cw.1
  have c6 := vs.1.2.1
  refine B8_addRoll_0 hw (t8_outside hw (fun a1 a2 => ?_) (fun z => ?_))
  rotate_left
  · exact B8_addRoll_8 hw (fun _ => B8_addRoll_21 hw (q1 (fun y => z y.1))) (fun c => absurd c (by decide))
  refine B8_addRoll_8 hw (fun c => absurd rfl c) (fun _ => ?_)
  refine B8_addRoll_11 hw (t8_outside hw (fun b1 b2 => ?_) (fun z => ?_))
  rotate_left
  · exact B8_addRoll_18 hw (fun c => absurd c (by decide)) (fun _ => B8_addRoll_21 hw (q1 (fun y => z y.2)))
  have ok : okRoll a b := ⟨⟨a1, a2⟩, b1, b2⟩
  refine B8_addRoll_18 hw (fun _ => ?_) (fun c => absurd rfl c)
  refine B8_addRoll_23 hw lw.1.1 (fun q => ?_) (fun q => ?_)
  · rw [lw.2.1.1, vs.1.1, nI_ltI (by omega) (by omega)] at q
    have q3' := q3 c iv.1.1 ok q
    refine B8_addRoll_38 hw lw.1.1 (t8_recordC hw cw (fun h1 f1 e1 cw1 s1 => ?_))
    refine B8_addRoll_42 hw cw1.1.1.1 ?_
    rw [e1, lw.2.1.1]
    have vs1 := ValS_at lw.2.2.2.2.1 vs (fun b hb1 hb2 => s1 b hb1 (by omega))
    have l1 := cw1.1.2.2.2.2.1
    refine B5_appendRoll_0 hw l1.1.1 (fun q2 => ?_) (fun _ => ?_)
    · rw [vs1.1.1, nI_leI (by omega) (by omega)] at q2; omega
    obtain ⟨j, hj, ej, oj⟩ := l1.roll q
    obtain ⟨A, hA⟩ : ∃ A, rA h1 (B + 1) c = A := ⟨_, rfl⟩
    rw [hA] at ej oj
    refine B5_appendRoll_9 hw l1.1.1 (by rw [vs1.1.1]; exact vp_in_nI (by omega) (by omega)) ?_
    rw [vs1.1.1, nI_clamp (by omega), l1.2.1.1]
    rw [show gr h1 (B + 1 + 1) c = A from hA]
    have rn0 : ∀ i, i < 6 → i ≠ c → A + 3 ≤ rA h1 (B + 1) i ∨ rA h1 (B + 1) i + 3 ≤ A := fun i hi ne => by rw [← hA]; exact l1.rne (i := c) (k := i) (by omega) hi (Ne.symm ne)
    rw [← w3_self h1 A]
    refine t4_begin hw oj (B5_appendRoll_23 hw (by exact l1.1.1) (B5_appendRoll_33 hw ?_))
    have ex : gi (w3 h1 (A) (upd (upd (upd (upd (gi h1 (A)) 0 a) 1 b) 2 (nI 0)) 3 (nI 0)) (gi h1 (A + 1)) (gi h1 (A + 2))) (B + 1) = gi h1 (B + 1) := w3_ne _ _ _ _ _ (by omega)
    simp (disch := omega) only [si_wi, sr_wr, sl_wl, gi_wi, gi_wi_ne, gr_wi, gs_wi, gl_wi, gi_wr, gr_wr, gr_wr_ne, gs_wr, gl_wr, gi_wl, gr_wl, gs_wl, gl_wl, gl_wl_ne, wi_wi, wr_wr, updN_eq, updN_ne, pk_mul, nI_add, nI_clamp, upd_eq, upd_ne, ex, vs1.1.1]
    refine B8_addRoll_51 hw (by exact cw1.1.1.1) ?_
    have f2 : Frm (B + 1) (B + 21) h1 (wi (w3 h1 (A) (upd (upd (upd (upd (gi h1 (A)) 0 a) 1 b) 2 (nI 0)) 3 (nI 0)) (gi h1 (A + 1)) (gi h1 (A + 2))) (B + 1) (upd (gi h1 (B + 1)) 1 (nI (c + 1)))) := (Frm.w3 _ _ _ _ _ _ (by omega) (by omega)).trans (Frm.wi _ _ _ _ (by omega) (by omega))
    have r2 : gr (wi (w3 h1 (A) (upd (upd (upd (upd (gi h1 (A)) 0 a) 1 b) 2 (nI 0)) 3 (nI 0)) (gi h1 (A + 1)) (gi h1 (A + 2))) (B + 1) (upd (gi h1 (B + 1)) 1 (nI (c + 1)))) = gr h1 := rfl
    have gx : gi (wi (w3 h1 (A) (upd (upd (upd (upd (gi h1 (A)) 0 a) 1 b) 2 (nI 0)) 3 (nI 0)) (gi h1 (A + 1)) (gi h1 (A + 2))) (B + 1) (upd (gi h1 (B + 1)) 1 (nI (c + 1)))) (B + 1) = upd (gi h1 (B + 1)) 1 (nI (c + 1)) := gi_wi _ _ _
    have go : ∀ bb, bb ≠ B + 1 → gi (wi (w3 h1 (A) (upd (upd (upd (upd (gi h1 (A)) 0 a) 1 b) 2 (nI 0)) 3 (nI 0)) (gi h1 (A + 1)) (gi h1 (A + 2))) (B + 1) (upd (gi h1 (B + 1)) 1 (nI (c + 1)))) bb = gi (w3 h1 (A) (upd (upd (upd (upd (gi h1 (A)) 0 a) 1 b) 2 (nI 0)) 3 (nI 0)) (gi h1 (A + 1)) (gi h1 (A + 2))) bb := fun bb hb => gi_wi_ne _ _ _ hb
    generalize wi (w3 h1 (A) (upd (upd (upd (upd (gi h1 (A)) 0 a) 1 b) 2 (nI 0)) 3 (nI 0)) (gi h1 (A + 1)) (gi h1 (A + 2))) (B + 1) (upd (gi h1 (B + 1)) 1 (nI (c + 1))) = h2 at *
    rw [r2, e1, lw.2.1.1, gx, upd_eq]
    have er : ∀ i, rA h2 (B + 1) i = rA h1 (B + 1) i := fun i => by unfold rA; rw [r2]
    have l2 := LayS_gr l1 f2.1 (fun b _ _ => by rw [r2])
    have ne : ∀ jj, ((1 ≤ jj ∧ jj < 20) ∨ 140 ≤ jj) → addRollN N c a b jj = N jj := fun jj hjj => by
      unfold addRollN
      rw [if_neg (by omega), if_neg (by omega), if_neg (by omega), if_neg (by omega)]
    refine q3' h2 (f1.trans (f2.mono (by omega) (by omega))) (cw1.pres (f2.mono (by omega) (by omega)) l2 ⟨c + 1, w, d, nx, lo, hi, acc, ?_, INV_rolls iv ne (RI_addRoll iv.1 ok q)⟩)
    refine ValS_rolls l1 vs1 f2 (fun k hk => by rw [gx, upd_ne _ _ hk]) (by rw [gx, upd_eq]) (by omega) ne (fun i hi => ?_)
    rw [er]
    by_cases z : i = c
    · subst z
      rw [hA, go _ (by omega), go _ (by omega), go _ (by omega), w3_0, w3_1, w3_2]
      refine ⟨fun k hk => ?_, 0, ?_, Nat.zero_le _, ⟨List.Perm.refl _, fun i j h1 h2 => by omega⟩⟩
      · have : k = 0 ∨ k = 1 ∨ k = 2 ∨ k = 3 := by omega
        unfold rollG addRollN
        rcases this with rfl | rfl | rfl | rfl
        · rw [if_neg (by omega), if_pos (by omega)]; rfl
        · rw [if_neg (by omega), if_neg (by omega), if_pos (by omega)]; rfl
        · rw [if_neg (by omega), if_neg (by omega), if_neg (by omega), if_pos (by omega)]; rfl
        · rw [if_neg (by omega), if_neg (by omega), if_neg (by omega), if_pos (by omega)]; rfl
      · unfold rollG addRollN
        rw [if_neg (by omega), if_neg (by omega), if_neg (by omega), if_pos (by omega)]; rfl
    · have rn := rn0 i (by omega) z
      obtain ⟨j2, hj2, ej2, _⟩ := l1.roll (i := i) (by omega)
      rw [go _ (by omega), go _ (by omega), go _ (by omega), w3_ne _ _ _ _ _ (by omega), w3_ne _ _ _ _ _ (by omega), w3_ne _ _ _ _ _ (by omega)]
      have vi := vs1.1.2.2 i (by omega)
      have : rollG (addRollN N c a b) i = rollG (addRollN N c a b) i := rfl
      obtain ⟨g4, wk, g3, g8, gw⟩ := vi
      have eg : ∀ k, k < 20 → rollG (addRollN N c a b) i k = rollG N i k := fun k hk => by
        unfold rollG addRollN
        rw [if_neg (by omega), if_neg (by omega), if_neg (by omega), if_neg (by omega)]
      exact ⟨fun k hk => by rw [eg k (by omega)]; exact g4 k hk, wk, by rw [eg 3 (by omega)]; exact g3, g8, weakR_congr gw (fun _ _ => ⟨rfl, rfl⟩) (fun k hk => ⟨eg _ (by omega), eg _ (by omega)⟩)⟩
  · rw [lw.2.1.1, vs.1.1, nI_ltI (by omega) (by omega)] at q
    exact B8_addRoll_35 hw (q2 c iv.1.1 ok (by omega))

