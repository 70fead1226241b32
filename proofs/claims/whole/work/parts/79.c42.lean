/-! the class: planned, riseFor, tensionFor -/
theorem CW.side {h h' : AH} {B len K : Nat} {N : Nat → Int32} {H : List (Nat → Int32)} {T : Nat → Int32} (c : CW h B N H T len K) (g : gs h' = gs h) (e : ∀ b, (b < B + 316 ∨ B + 324 ≤ b) → gi h' b = gi h b ∧ gr h' b = gr h b ∧ gl h' b = gl h b) (r : gr h' (B + 316) = gr h (B + 316)) : CW h' B N H T len K :=
  c.gen g (LayS_gr c.1.2.2.2.2.1 g (fun b h1 h2 => (e b (by omega)).2.1)) (c.2.1.at c.1.2.2.2.2.1 (fun b h1 h2 => e b (by omega))) (Nat.le_refl _) (LayS_gr c.1.2.2.2.2.2.1 g (fun b h1 h2 => (e b (by omega)).2.1)) (fun b h1 h2 => e b h2) r
theorem PlanFr.e {B : Nat} {h h' : AH} (p : PlanFr (B + 319) (B + 323) h h') : ∀ b, (b < B + 319 ∨ B + 324 ≤ b) → gi h' b = gi h b ∧ gr h' b = gr h b ∧ gl h' b = gl h b := fun b hb => ⟨p.2.2.1 b (by omega) (by omega), p.2.2.2 b (by omega), by rw [p.2.1]⟩
/-- the pallet whose turn it is -/
theorem front_pal {h : AH} {x K c w d nx lo hi k : Nat} {N : Nat → Int32} {acc : List (Nat × Nat)} (l : LayS h x) (vs : ValS h x N c w d acc) (iv : INV N K c w d nx lo hi acc) (fk : frontK N w k) : ∃ P hh lim, pA h x 0 = P ∧ x + 20 ≤ P ∧ P < x + 30 ∧ gs h P = some (1, 6) ∧ gi h P 3 = nI hh ∧ 10 ≤ hh ∧ hh ≤ 250 ∧ gi h P 4 = nI lim ∧ lim ≤ 5000 ∧ palV N k 3 = hh ∧ palV N k 4 = lim := by
  obtain ⟨hk, hk0, _⟩ := fk
  obtain ⟨n, wd, dp, hh, lim, du, g0, gn, g1, g1a, g1b, g2, g2a, g2b, g3, g3a, g3b, g4, g4b, g5, g5b⟩ := iv.2.1.2.2.1 k hk
  obtain ⟨i0, hi0, ei0, hP⟩ := vs.2.1.2.2.bwd hk
  have i00 : i0 = 0 := ei0.symm.trans hk0
  subst i00
  have w8 := vs.2.1.2.1
  obtain ⟨jP, hjP, ejP, oP⟩ := l.pal (i := 0) (by omega)
  exact ⟨pA h x 0, hh, lim, rfl, by omega, by omega, oP, (hP 3 (by omega)).trans g3, g3a, g3b, (hP 4 (by omega)).trans g4, g4b, palV_eq g3 (by omega), palV_eq g4 (by omega)⟩
theorem t8_planned {ω : Om} {h : AH} {Q : Option Value → AH → Prop} (hw : ω.2.2.2.1 = true) {B : Nat} {N : Nat → Int32} {H : List (Nat → Int32)} {T : Nat → Int32} {len K c w k d nx lo hi : Nat} {acc : List (Nat × Nat)} {y : Int32} (cw : CW h B N H T len K) (vs : ValS h (B + 1) N c w d acc) (iv : INV N K c w d nx lo hi acc) (fk : 1 ≤ w → frontK N w k) (qx : y < 0 → Q (some (.int (-1))) h) (q0 : ¬ y < 0 → w = 0 → Q (some (.int (-2))) h) (q1 : 1 ≤ w → ∀ i : Nat, y = nI i → i < 2 ^ 31 → (palV N k 3 + 9) / 10 ≤ i → Q (some (.int (-4))) h) (q2 : 1 ≤ w → ∀ i : Nat, y = nI i → i < (palV N k 3 + 9) / 10 → ∀ h' : AH, Frm B (B + 324) h h' → CW h' B N H T len K → Q (some (.int (nI (cntL i (crsL (palV N k 3 - 50) acc (0, 40, 100)))))) h') : Ex ω M8_planned 0 [some (.ref B), some (.int y)] [] h 0 0 Q := by
  have lw := cw.1
  have ls := lw.2.2.2.2.1
  have w8 := vs.2.1.2.1
  refine B8_planned_0 hw (fun cx => ?_) (fun cx => B8_planned_4 hw (qx (Int32.not_le.mp cx)))
  have cx := Int32.not_lt.mpr cx
  refine B8_planned_6 hw lw.1.1 (fun z => ?_) (fun z => ?_)
  · rw [lw.2.1.1, vs.2.1.1, show (0 : Int32) = nI 0 from rfl, nI_eq (by omega) (by omega)] at z
    obtain ⟨i, hi', rfl⟩ := nI_of cx
    obtain ⟨P, hh, lim, hP, bP1, bP2, sP, p3, h10, h250, p4, hl, e3, e4⟩ := front_pal ls vs iv (fk (by omega))
    rw [e3] at q1 q2
    refine B8_planned_19 hw lw.1.1 ?_
    rw [lw.2.1.1, ls.2.1.2.1, show gr h (B + 1 + 20) 0 = P from hP]
    refine t1_zones hw sP p3 (by omega) (B8_planned_32 hw (fun c1 => ?_) (fun c1 => ?_))
    · rw [nI_ltI (by omega) (by omega)] at c1
      refine B8_planned_38 hw lw.1.1 ?_
      rw [lw.2.1.1, ls.2.1.2.1, ls.2.1.2.2.2.1, show gr h (B + 1 + 20) 0 = P from hP]
      refine t8_planLayers hw lw sP p3 h250 (by omega) ls.prog (by omega) vs.2.2.2.2.1 iv.2.2.1.2.2.1 (fun h1 pf hD => ?_)
      refine B8_planned_58 hw (by rw [pf.1]; exact lw.1.1) (vp_in_nI (by omega) (by omega)) ?_
      rw [pf.2.2.2 B (by omega), lw.2.1.2.2.2.2.2.2, nI_clamp (by omega), hD i c1]
      exact q2 (by omega) i rfl c1 h1 ⟨pf.1, fun b hb => pf.e b (by omega)⟩ (cw.side pf.1 (fun b hb => pf.e b (by omega)) (pf.e _ (by omega)).2.1)
    · rw [nI_ltI (by omega) (by omega)] at c1
      exact B8_planned_35 hw (q1 (by omega) i rfl hi' (by omega))
  · rw [lw.2.1.1, vs.2.1.1, show (0 : Int32) = nI 0 from rfl, nI_eq (by omega) (by omega)] at z
    exact B8_planned_16 hw (q0 cx z)
theorem gmn_ge {f : Nat → Int32} {v : Nat → Nat} {n z : Nat} (hf : ∀ i, i < z → f i = nI (v i) ∧ v i < 2 ^ 30) (h1 : 1 ≤ z) (hn : n < 2 ^ 30) : ∃ u, gmn f z = nI u ∧ u < 2 ^ 30 ∧ (n ≤ u ↔ ∀ i, i < z → n ≤ v i) := by
  have gen : ∀ m, m ≤ z → ∃ u, gmn f m = nI u ∧ u < 2 ^ 30 ∧ (n ≤ u ↔ (n ≤ v 0 ∧ ∀ i, i < m → n ≤ v i)) := by
    intro m
    induction m with
    | zero => intro _; exact ⟨v 0, (hf 0 (by omega)).1, (hf 0 (by omega)).2, ⟨fun h => ⟨h, fun i hi => by omega⟩, fun h => h.1⟩⟩
    | succ m ih =>
      intro hm
      obtain ⟨u, e, b, iff⟩ := ih (by omega)
      obtain ⟨fm, vm⟩ := hf m (by omega)
      refine ⟨min u (v m), ?_, by omega, ?_⟩
      · show lesser (gmn f m) (f m) = _
        rw [e, fm, lesser_nI (by omega) (by omega)]
      · constructor
        · intro h
          obtain ⟨a1, a2⟩ := iff.mp (by omega)
          refine ⟨a1, fun i hi => ?_⟩
          by_cases q : i = m
          · subst q; omega
          · exact a2 i (by omega)
        · intro h
          have h1 := iff.mpr ⟨h.1, fun i hi => h.2 i (by omega)⟩
          have h2 := h.2 m (by omega)
          omega
  obtain ⟨u, e, b, iff⟩ := gen z (Nat.le_refl _)
  exact ⟨u, e, b, iff.trans ⟨fun h => h.2, fun h => ⟨h 0 (by omega), h⟩⟩⟩
theorem t8_riseFor {ω : Om} {h : AH} {Q : Option Value → AH → Prop} (hw : ω.2.2.2.1 = true) {B : Nat} {N : Nat → Int32} {H : List (Nat → Int32)} {T : Nat → Int32} {len K c w k d nx lo hi : Nat} {acc : List (Nat × Nat)} {y : Int32} (cw : CW h B N H T len K) (vs : ValS h (B + 1) N c w d acc) (iv : INV N K c w d nx lo hi acc) (fk : 1 ≤ w → frontK N w k) (qx : ¬ (nI 1 ≤ y ∧ y ≤ nI 50) → Q (some (.int (-1))) h) (q0 : (nI 1 ≤ y ∧ y ≤ nI 50) → w = 0 → Q (some (.int (-2))) h) (q1 : 1 ≤ w → ∀ n : Nat, y = nI n → 1 ≤ n → n ≤ 50 → ∀ h' : AH, Frm B (B + 324) h h' → CW h' B N H T len K → Q (some (.int (riseF (palV N k 3 - 50) ((palV N k 3 + 9) / 10) n 100))) h') : Ex ω M8_riseFor 0 [some (.ref B), some (.int y), none] [] h 0 0 Q := by
  have lw := cw.1
  have ls := lw.2.2.2.2.1
  have w8 := vs.2.1.2.1
  refine B8_riseFor_0 hw (t8_outside hw (fun a1 a2 => ?_) (fun z => ?_))
  rotate_left
  · exact B8_riseFor_7 hw (fun c => absurd c (by decide)) (fun _ => B8_riseFor_10 hw (qx z))
  refine B8_riseFor_7 hw (fun _ => ?_) (fun c => absurd rfl c)
  refine B8_riseFor_12 hw lw.1.1 (fun z => ?_) (fun z => ?_)
  rotate_left
  · rw [lw.2.1.1, vs.2.1.1, show (0 : Int32) = nI 0 from rfl, nI_eq (by omega) (by omega)] at z
    exact B8_riseFor_22 hw (q0 ⟨a1, a2⟩ z)
  rw [lw.2.1.1, vs.2.1.1, show (0 : Int32) = nI 0 from rfl, nI_eq (by omega) (by omega)] at z
  obtain ⟨n, rfl, hn1, hn⟩ := bd_of (lo := 1) (hi := 50) (by omega) (by omega) a1 a2
  obtain ⟨P, hh, lim, hP, bP1, bP2, sP, p3, h10, h250, p4, hl, e3, e4⟩ := front_pal ls vs iv (fk (by omega))
  rw [e3] at q1
  refine B8_riseFor_25 hw ?_
  have fin : ∀ h1 : AH, gs h1 = gs h → (∀ b, (b < B + 316 ∨ B + 324 ≤ b) → gi h1 b = gi h b ∧ gr h1 b = gr h b ∧ gl h1 b = gl h b) → gr h1 (B + 316) = gr h (B + 316) → Q (some (.int (riseF (hh - 50) ((hh + 9) / 10) n 100))) h1 := fun h1 g e r => q1 (by omega) n rfl hn1 hn h1 ⟨g, fun b hb => e b (by omega)⟩ (cw.side g e r)
  have lp : ∀ (s : Nat) (h1 : AH), s ≤ 100 → gs h1 = gs h → (∀ b, (b < B + 316 ∨ B + 324 ≤ b) → gi h1 b = gi h b ∧ gr h1 b = gr h b ∧ gl h1 b = gl h b) → gr h1 (B + 316) = gr h (B + 316) → riseF (hh - 50) ((hh + 9) / 10) n s = riseF (hh - 50) ((hh + 9) / 10) n 100 → Ex ω M8_riseFor 28 [some (.ref B), some (.int (nI n)), some (.int (nI s))] [] h1 0 0 Q := by
    intro s
    induction s with
    | zero =>
      intro h1 hs g e r er
      refine B8_riseFor_28 hw (fun _ => B8_riseFor_107 hw ?_) (fun c => absurd (by decide) c)
      have f := fin h1 g e r
      rw [← er] at f
      exact f
    | succ s ih =>
      intro h1 hs g e r er
      have cw1 := cw.side g e r
      have lw1 := cw1.1
      have eB := (e B (by omega)).2.1
      refine B8_riseFor_28 hw (fun c => ?_) (fun _ => ?_)
      · rw [nI_ltI (by omega) (by omega)] at c; omega
      refine B8_riseFor_33 hw lw1.1.1 ?_
      rw [lw1.2.1.2.2.2.2.1, si_wi, wi_w3]
      refine t2_append hw lw1.2.2.2.1 (n := 0) (upd_eq _ _ _) (by omega) (B8_riseFor_50 hw (by exact lw1.1.1) ?_)
      rw [gr_w3, lw1.2.1.2.2.2.2.1]
      refine t2_append hw lw1.2.2.2.1 (n := 1) (upd_eq _ _ _) (by omega) (B8_riseFor_59 hw (by exact lw1.1.1) ?_)
      rw [gr_w3, lw1.2.1.2.2.2.2.1, lw1.2.1.1, lw1.2.2.2.2.1.2.1.2.1]
      have ep : gr h1 (B + 1 + 20) 0 = P := by rw [(e _ (by omega)).2.1]; exact hP
      rw [ep]
      have pv : progV (upd (upd (upd (gi h1 (B + 316)) 0 (nI 0)) 0 (nI (0 + 1))) 0 (nI (1 + 1))) (upd (upd (gi h1 (B + 316 + 1)) 0 (nI 0)) 1 (nI 1)) (upd (upd (gi h1 (B + 316 + 2)) 0 (nI 1)) 1 (nI (s + 1))) [(0, 1), (1, s + 1)] := by
        refine ⟨upd_eq _ _ _, by show 2 ≤ 12; omega, fun i q hq => ?_⟩
        match i with
        | 0 =>
          have hq : (0, 1) = q := Option.some.inj hq
          subst hq
          exact ⟨rfl, rfl⟩
        | 1 =>
          have hq : (1, s + 1) = q := Option.some.inj hq
          subst hq
          exact ⟨upd_eq _ _ _, upd_eq _ _ _⟩
        | i + 2 => exact absurd hq (by simp)
      have ok : StepsOk [(0, 1), (1, s + 1)] := by
        intro q hq
        rcases List.mem_cons.mp hq with q1 | q1
        · subst q1; exact (by decide : 0 < 5 ∧ amtLo 0 ≤ 1 ∧ 1 ≤ amtHi 0)
        · rcases List.mem_cons.mp q1 with q2 | q2
          · subst q2
            refine ⟨by show 1 < 5; omega, ?_, ?_⟩
            · show amtLo 1 ≤ s + 1
              rw [show amtLo 1 = 1 from rfl]; omega
            · show s + 1 ≤ amtHi 1
              rw [show amtHi 1 = 100 from rfl]; omega
          · cases q2
      generalize upd (upd (upd (gi h1 (B + 316)) 0 (nI 0)) 0 (nI (0 + 1))) 0 (nI (1 + 1)) = f1 at *
      generalize upd (upd (gi h1 (B + 316 + 1)) 0 (nI 0)) 1 (nI 1) = f2 at *
      generalize upd (upd (gi h1 (B + 316 + 2)) 0 (nI 1)) 1 (nI (s + 1)) = f3 at *
      have cw2 := cw1.draft f1 f2 f3
      have e2 : ∀ b, (b < B + 316 ∨ B + 324 ≤ b) → gi (w3 h1 (B + 316) f1 f2 f3) b = gi h b ∧ gr (w3 h1 (B + 316) f1 f2 f3) b = gr h b ∧ gl (w3 h1 (B + 316) f1 f2 f3) b = gl h b := fun b hb => by
        obtain ⟨a1, a2, a3⟩ := e b hb
        exact ⟨(w3_ne _ _ _ _ _ (by omega)).trans a1, a2, a3⟩
      have d0 : gi (w3 h1 (B + 316) f1 f2 f3) (B + 316) = f1 := w3_0 _ _ _ _ _
      have d1 : gi (w3 h1 (B + 316) f1 f2 f3) (B + 316 + 1) = f2 := w3_1 _ _ _ _ _
      have d2 : gi (w3 h1 (B + 316) f1 f2 f3) (B + 316 + 2) = f3 := w3_2 _ _ _ _ _
      have g2 : gs (w3 h1 (B + 316) f1 f2 f3) = gs h := g
      have r2 : gr (w3 h1 (B + 316) f1 f2 f3) (B + 316) = gr h (B + 316) := r
      generalize w3 h1 (B + 316) f1 f2 f3 = h2 at *
      refine t8_planLayers hw cw2.1 (P := P) (by rw [g2]; exact sP) (by rw [(e2 P (by omega)).1]; exact p3) h250 (by omega) (pr := B + 316) cw2.1.2.2.2.1 (by omega) (by rw [d0, d1, d2]; exact pv) ok (fun h3 pf hD => ?_)
      have g3 : gs h3 = gs h := pf.1.trans g2
      have e3 : ∀ b, (b < B + 316 ∨ B + 324 ≤ b) → gi h3 b = gi h b ∧ gr h3 b = gr h b ∧ gl h3 b = gl h b := fun b hb => by
        obtain ⟨a1, a2, a3⟩ := e2 b hb
        obtain ⟨b1, b2, b3⟩ := pf.e b (by omega)
        exact ⟨b1.trans a1, b2.trans a2, b3.trans a3⟩
      have r3 : gr h3 (B + 316) = gr h (B + 316) := (pf.e _ (by omega)).2.1.trans r2
      have cw3 := cw.side g3 e3 r3
      have lw3 := cw3.1
      refine B8_riseFor_76 hw lw3.1.1 ?_
      rw [lw3.2.1.1, lw3.2.2.2.2.1.2.1.2.1, show gr h3 (B + 1 + 20) 0 = P from by rw [(e3 _ (by omega)).2.1]; exact hP, lw3.2.1.2.2.2.2.2.2]
      refine t1_zones hw (by rw [g3]; exact sP) (by rw [(e3 P (by omega)).1]; exact p3) (by omega) (B8_riseFor_92 hw (t8_least hw lw3.1.2.2.2.2.2 (by omega) (by omega) ?_))
      have cl := crsL_len (top := hh - 50) (by omega) [(0, 1), (1, s + 1)] (0, 40, 100) ok ⟨by decide, by decide, by decide⟩
      obtain ⟨u, eu, bu, iff⟩ := gmn_ge (n := n) (z := (hh + 9) / 10) (v := fun i => cntL i (crsL (hh - 50) [(0, 1), (1, s + 1)] (0, 40, 100))) (fun i hi => ⟨hD i hi, by
        have := cnt_len i (crsL (hh - 50) [(0, 1), (1, s + 1)] (0, 40, 100))
        have : [(0, 1), (1, s + 1)].length = 2 := rfl
        show cntL i (crsL (hh - 50) [(0, 1), (1, s + 1)] (0, 40, 100)) < 2 ^ 30
        omega⟩) (by omega) (by omega)
      rw [eu]
      have er2 : (if riseP (hh - 50) ((hh + 9) / 10) n (s + 1) then nI (s + 1) else riseF (hh - 50) ((hh + 9) / 10) n s) = riseF (hh - 50) ((hh + 9) / 10) n 100 := er
      refine B8_riseFor_95 hw (fun c => ?_) (fun c => ?_)
      · rw [nI_ltI (by omega) (by omega)] at c
        rw [if_neg (fun q => by have := iff.mpr q; omega)] at er2
        refine B8_riseFor_101 hw ?_
        rw [pk_m1]
        exact ih h3 (by omega) g3 e3 r3 er2
      · rw [nI_ltI (by omega) (by omega)] at c
        rw [if_pos (iff.mp (by omega))] at er2
        refine B8_riseFor_99 hw ?_
        rw [er2]
        exact fin h3 g3 e3 r3
  exact lp 100 h (Nat.le_refl _) rfl (fun _ _ => ⟨rfl, rfl, rfl⟩) rfl rfl
theorem t8_tensionFor {ω : Om} {h : AH} {Q : Option Value → AH → Prop} (hw : ω.2.2.2.1 = true) {B : Nat} {N : Nat → Int32} {H : List (Nat → Int32)} {T : Nat → Int32} {len K c w k d nx lo hi : Nat} {acc : List (Nat × Nat)} {y : Int32} (cw : CW h B N H T len K) (vs : ValS h (B + 1) N c w d acc) (iv : INV N K c w d nx lo hi acc) (fk : 1 ≤ w → frontK N w k) (qx : ¬ (nI 1 ≤ y ∧ y ≤ nI 500) → Q (some (.int (-1))) h) (q0 : (nI 1 ≤ y ∧ y ≤ nI 500) → w = 0 → Q (some (.int (-2))) h) (q1 : 1 ≤ w → ∀ n : Nat, y = nI n → 1 ≤ n → n ≤ 500 → Q (some (.int (nI (tB (palV N k 4 / n) 0 199)))) h) : Ex ω M8_tensionFor 0 [some (.ref B), some (.int y)] [] h 0 0 Q := by
  have lw := cw.1
  have ls := lw.2.2.2.2.1
  have w8 := vs.2.1.2.1
  refine B8_tensionFor_0 hw (t8_outside hw (fun a1 a2 => ?_) (fun z => ?_))
  rotate_left
  · exact B8_tensionFor_8 hw (fun c => absurd c (by decide)) (fun _ => B8_tensionFor_11 hw (qx z))
  refine B8_tensionFor_8 hw (fun _ => ?_) (fun c => absurd rfl c)
  refine B8_tensionFor_13 hw lw.1.1 (fun z => ?_) (fun z => ?_)
  · rw [lw.2.1.1, vs.2.1.1, show (0 : Int32) = nI 0 from rfl, nI_eq (by omega) (by omega)] at z
    obtain ⟨n, rfl, hn1, hn⟩ := bd_of (lo := 1) (hi := 500) (by omega) (by omega) a1 a2
    obtain ⟨P, hh, lim, hP, bP1, bP2, sP, p3, h10, h250, p4, hl, e3, e4⟩ := front_pal ls vs iv (fk (by omega))
    rw [e4] at q1
    refine B8_tensionFor_26 hw lw.1.1 (by rw [show (0 : Int32) = nI 0 from rfl, nI_eq (by omega) (by omega)]; omega) ?_
    rw [lw.2.1.1, ls.2.1.2.1, show gr h (B + 1 + 20) 0 = P from hP, p4, pk_div (by omega) (by omega) (by omega)]
    have hle : lim / n ≤ lim := Nat.div_le_self _ _
    refine t8_greatestTension hw (by omega) (by omega) (B8_tensionFor_46 hw ?_)
    exact q1 (by omega) n rfl hn1 hn
  · rw [lw.2.1.1, vs.2.1.1, show (0 : Int32) = nI 0 from rfl, nI_eq (by omega) (by omega)] at z
    exact B8_tensionFor_23 hw (q0 ⟨a1, a2⟩ z)
