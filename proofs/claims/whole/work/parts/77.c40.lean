/-! the class: wrap, ifWrap, supply -/
theorem CW.gen {h h' : AH} {B len K K' : Nat} {N N' : Nat → Int32} {H : List (Nat → Int32)} {T : Nat → Int32} (c : CW h B N H T len K) (g : gs h' = gs h) (l1 : LayS h' (B + 1)) (o : OkS h' (B + 1) N' K') (hK : K ≤ K') (l2 : LayS h' (B + 53)) (e : ∀ b, (b < B + 1 ∨ B + 105 ≤ b) → (b < B + 316 ∨ B + 324 ≤ b) → gi h' b = gi h b ∧ gr h' b = gr h b ∧ gl h' b = gl h b) (r : gr h' (B + 316) = gr h (B + 316)) : CW h' B N' H T len K' := by
  obtain ⟨⟨⟨s1, s2, s3, s4, s5, s6⟩, rr, t, p, a, b, cc, dd⟩, b2, d, tx⟩ := c
  refine ⟨⟨⟨by rw [g]; exact s1, by rw [g]; exact s2, by rw [g]; exact s3, by rw [g]; exact s4, by rw [g]; exact s5, by rw [g]; exact s6⟩, by rw [(e B (by omega) (by omega)).2.1]; exact rr, by rw [(e _ (by omega) (by omega)).2.1]; exact t, O3_frm p g r, l1, l2, fun j hj => LayS_gr (cc j hj) g (fun q h1 h2 => (e q (by omega) (by omega)).2.1), by rw [(e _ (by omega) (by omega)).2.1]; exact dd⟩, o, ⟨by rw [(e B (by omega) (by omega)).1]; exact d.1, d.2.1, fun i N2 hi => ?_⟩, tx.at (e _ (by omega) (by omega)).1 (e _ (by omega) (by omega)).1⟩
  have il := (List.getElem?_eq_some_iff.mp hi).1
  have h4 := d.2.1
  obtain ⟨j, hj, ej⟩ := dd.1 i (by omega)
  rw [(e (B + 105) (by omega) (by omega)).2.1]
  refine ((d.2.2 i N2 hi).at (x := gr h (B + 105) i) (h' := h') ?_ (fun q h1 h2 => e q (by omega) (by omega))).mono hK
  rw [ej]
  exact cc j hj
theorem t8_wrap {ω : Om} {h : AH} {Q : Option Value → AH → Prop} (hw : ω.2.2.2.1 = true) {B : Nat} {N : Nat → Int32} {H : List (Nat → Int32)} {T : Nat → Int32} {len K c w k d nx lo hi fu : Nat} {acc : List (Nat × Nat)} (cw : CW h B N H T len K) (vs : ValS h (B + 1) N c w d acc) (iv : INV N K c w d nx lo hi acc) (hK : K < 2 ^ 28) (fk : 1 ≤ w → frontK N w k) (hfu : 600007 ≤ fu) (hfu2 : fu ≤ 1000000) (q0 : w = 0 → Q (some (.int (-2))) h) (q1 : 1 ≤ w → ∀ h' : AH, Frm B (B + 324) h h' → CW h' B (wrapsN fu N w k d acc).2 (pushH H N) T len (K + 1) → Q (some (.int (nI (wrapsN fu N w k d acc).1))) h') : Ex ω M8_wrap 0 [some (.ref B)] [] h 0 0 Q := by
  have lw := cw.1
  have w8 := vs.2.1.2.1
  refine B8_wrap_0 hw lw.1.1 (fun z => ?_) (fun z => ?_)
  · rw [lw.2.1.1, vs.2.1.1, show (0 : Int32) = nI 0 from rfl, nI_eq (by omega) (by omega)] at z
    refine B8_wrap_13 hw lw.1.1 (t8_recordC hw cw (fun h1 f1 e1 cw1 s1 => ?_))
    have vs1 := ValS_at lw.2.2.2.2.1 vs (fun b hb1 hb2 => s1 b hb1 (by omega))
    have l1 := cw1.1.2.2.2.2.1
    refine B8_wrap_17 hw cw1.1.1.1 ?_
    rw [e1, lw.2.1.1, lw.2.1.2.2.2.2.2.1]
    refine t5_wrapNext hw l1 vs1 iv hK (fk (by omega)) hfu hfu2 (by omega) cw1.1.1.2.2.2.2.1 (fun h2 c2 lo2 hi2 fc l2 vs2 iv2 => B8_wrap_28 hw ?_)
    have eo : ∀ b, (b < B + 1 ∨ B + 53 ≤ b) → b ≠ B + 319 → gi h2 b = gi h1 b ∧ gr h2 b = gr h1 b ∧ gl h2 b = gl h1 b := fun b h1 h2 => fc.2 b (by omega) h2
    refine q1 (by omega) h2 (f1.trans ⟨fc.1, fun b hb => eo b (by omega) (by omega)⟩) ?_
    exact cw1.gen fc.1 l2 ⟨_, _, _, _, _, _, _, vs2, iv2⟩ (by omega) (LayS_gr cw1.1.2.2.2.2.2.1 fc.1 (fun b h1 h2 => (eo b (by omega) (by omega)).2.1)) (fun b h1 h2 => eo b (by omega) (by omega)) (eo _ (by omega) (by omega)).2.1
  · rw [lw.2.1.1, vs.2.1.1, show (0 : Int32) = nI 0 from rfl, nI_eq (by omega) (by omega)] at z
    exact B8_wrap_10 hw (q0 z)
theorem t8_ifWrap {ω : Om} {h : AH} {Q : Option Value → AH → Prop} (hw : ω.2.2.2.1 = true) {B : Nat} {N : Nat → Int32} {H : List (Nat → Int32)} {T : Nat → Int32} {len K c w k d nx lo hi fu : Nat} {acc : List (Nat × Nat)} {y : Int32} (cw : CW h B N H T len K) (vs : ValS h (B + 1) N c w d acc) (iv : INV N K c w d nx lo hi acc) (hK : K < 2 ^ 28) (fk : 1 ≤ w → frontK N w k) (hfu : 600007 ≤ fu) (hfu2 : fu ≤ 1000000) (qx : ¬ (0 ≤ y ∧ y ≤ nI 9) → Q (some (.int (-1))) h) (q0 : (0 ≤ y ∧ y ≤ nI 9) → w = 0 → Q (some (.int (-2))) h) (q1 : 1 ≤ w → ∀ j : Nat, y = nI j → j ≤ 9 → ∀ h' : AH, Frm B (B + 324) h h' → CW h' B N H T len K → Q (some (.int ((wrapsN fu N w k d acc).2 (entE d + 1 + j)))) h') : Ex ω M8_ifWrap 0 [some (.ref B), some (.int y)] [] h 0 0 Q := by
  have lw := cw.1
  have ls := lw.2.2.2.2.1
  have lt := lw.2.2.2.2.2.1
  have w8 := vs.2.1.2.1
  refine B8_ifWrap_0 hw (t8_outside hw (fun a1 a2 => ?_) (fun z => ?_))
  rotate_left
  · exact B8_ifWrap_7 hw (fun c => absurd c (by decide)) (fun _ => B8_ifWrap_10 hw (qx z))
  refine B8_ifWrap_7 hw (fun _ => ?_) (fun c => absurd rfl c)
  refine B8_ifWrap_12 hw lw.1.1 (fun z => ?_) (fun z => ?_)
  · rw [lw.2.1.1, vs.2.1.1, show (0 : Int32) = nI 0 from rfl, nI_eq (by omega) (by omega)] at z
    obtain ⟨j, rfl, _, hj⟩ := bd_of (lo := 0) (hi := 9) (by omega) (by omega) a1 a2
    refine B8_ifWrap_25 hw lw.1.1 ?_
    rw [lw.2.1.2.1, lw.2.1.1]
    refine t5_copyFrom hw lt ls (by omega) vs (fun h1 f1 l1 v1 => ?_)
    have eB : gr h1 B = gr h B := (f1.2 B (by omega)).2.1
    refine B8_ifWrap_36 hw (by rw [f1.1]; exact lw.1.1) ?_
    rw [eB, lw.2.1.2.1, lw.2.1.2.2.2.2.2.1]
    refine t5_wrapNext hw l1 v1 iv hK (fk (by omega)) hfu hfu2 (by omega) (by rw [f1.1]; exact lw.1.2.2.2.2.1) (fun h2 c2 lo2 hi2 fc l2 vs2 iv2 => ?_)
    have eo : ∀ b, (b < B + 53 ∨ B + 105 ≤ b) → b ≠ B + 319 → gi h2 b = gi h b ∧ gr h2 b = gr h b ∧ gl h2 b = gl h b := fun b p1 p2 => by
      obtain ⟨x1, x2, x3⟩ := fc.2 b (by omega) p2
      obtain ⟨y1, y2, y3⟩ := f1.2 b (by omega)
      exact ⟨x1.trans y1, x2.trans y2, x3.trans y3⟩
    have gs2 : gs h2 = gs h := fc.1.trans f1.1
    refine B8_ifWrap_47 hw (by rw [gs2]; exact lw.1.1) ?_
    rw [(eo B (by omega) (by omega)).2.1, lw.2.1.2.1, l2.2.1.2.2.1, nI_add, show gr h2 (B + 53 + 29) 0 = kA h2 (B + 53) 0 from rfl]
    obtain ⟨j2, hj2, ej2, o2⟩ := l2.res (i := 0) (by omega)
    have kv := vs2.2.2.2.1.2 0 (by omega)
    rw [show keptB (d + 1) 0 = entE d from by unfold keptB entE; omega] at kv
    refine t3_property hw o2 kv (j := j + 1) (by omega) (B8_ifWrap_63 hw ?_)
    rw [show entE d + (j + 1) = entE d + 1 + j from by omega]
    refine q1 (by omega) j rfl (by omega) h2 ⟨gs2, fun b hb => eo b (by omega) (by omega)⟩ ?_
    exact cw.gen gs2 (LayS_gr ls gs2 (fun b h1 h2 => (eo b (by omega) (by omega)).2.1)) (cw.2.1.at ls (fun b h1 h2 => eo b (by omega) (by omega))) (Nat.le_refl _) l2 (fun b h1 h2 => eo b (by omega) (by omega)) (eo _ (by omega) (by omega)).2.1
  · rw [lw.2.1.1, vs.2.1.1, show (0 : Int32) = nI 0 from rfl, nI_eq (by omega) (by omega)] at z
    exact B8_ifWrap_22 hw (q0 ⟨a1, a2⟩ z)
theorem t8_supply {ω : Om} {h : AH} {Q : Option Value → AH → Prop} (hw : ω.2.2.2.1 = true) {B : Nat} {N : Nat → Int32} {H : List (Nat → Int32)} {T : Nat → Int32} {len K c w d nx lo hi fu : Nat} {acc : List (Nat × Nat)} (cw : CW h B N H T len K) (vs : ValS h (B + 1) N c w d acc) (iv : INV N K c w d nx lo hi acc) (hK : K < 2 ^ 27) (hfu : 600007 ≤ fu) (hfu2 : fu ≤ 1000000) (hq : ∀ h' : AH, Frm B (B + 324) h h' → CW h' B N H T len K → Q (some (.int (nI (supN fu acc w d N)))) h') : Ex ω M8_supply 0 [some (.ref B), none, none] [] h 0 0 Q := by
  have lw := cw.1
  have ls := lw.2.2.2.2.1
  have lt := lw.2.2.2.2.2.1
  have w8 := vs.2.1.2.1
  refine B8_supply_0 hw lw.1.1 ?_
  rw [lw.2.1.2.1, lw.2.1.1]
  refine t5_copyFrom hw lt ls (by omega) vs (fun h1 f1 l1 v1 => B8_supply_11 hw ?_)
  have fin : ∀ (h2 : AH), gs h2 = gs h → (∀ b, (b < B + 53 ∨ B + 105 ≤ b) → b ≠ B + 319 → gi h2 b = gi h b ∧ gr h2 b = gr h b ∧ gl h2 b = gl h b) → LayS h2 (B + 53) → Q (some (.int (nI (supN fu acc w d N)))) h2 := fun h2 gs2 eo l2 => hq h2 ⟨gs2, fun b hb => eo b (by omega) (by omega)⟩ (cw.gen gs2 (LayS_gr ls gs2 (fun b h1 h2 => (eo b (by omega) (by omega)).2.1)) (cw.2.1.at ls (fun b h1 h2 => eo b (by omega) (by omega))) (Nat.le_refl _) l2 (fun b h1 h2 => eo b (by omega) (by omega)) (eo _ (by omega) (by omega)).2.1)
  have lp : ∀ (w' n d' K' c' lo' hi' : Nat) (N' : Nat → Int32) (h2 : AH), n + w' ≤ 8 → gs h2 = gs h → (∀ b, (b < B + 53 ∨ B + 105 ≤ b) → b ≠ B + 319 → gi h2 b = gi h b ∧ gr h2 b = gr h b ∧ gl h2 b = gl h b) → LayS h2 (B + 53) → ValS h2 (B + 53) N' c' w' d' acc → INV N' K' c' w' d' nx lo' hi' acc → K' + w' < 2 ^ 28 → n + supN fu acc w' d' N' = supN fu acc w d N → Ex ω M8_supply 15 [some (.ref B), some (.int (nI n)), some (.int (nI n))] [] h2 0 0 Q := by
    intro w'
    induction w' with
    | zero =>
      intro n d' K' c' lo' hi' N' h2 hn gs2 eo l2 v2 iv2 hK2 hs
      have hs : n = supN fu acc w d N := hs
      have f := fin h2 gs2 eo l2
      rw [← hs] at f
      refine B8_supply_15 hw (fun _ => B8_supply_56 hw f) (fun _ => ?_)
      refine B8_supply_21 hw (by rw [gs2]; exact lw.1.1) (fun _ => B8_supply_56 hw f) (fun z => ?_)
      rw [(eo B (by omega) (by omega)).2.1, lw.2.1.2.1, v2.2.1.1] at z
      exact absurd (show nI 0 ≤ 0 from by decide) z
    | succ w' ih =>
      intro n d' K' c' lo' hi' N' h2 hn gs2 eo l2 v2 iv2 hK2 hs
      rw [supN_succ] at hs
      refine B8_supply_15 hw (fun z => absurd z (nI_ge (by omega) (by omega))) (fun _ => ?_)
      refine B8_supply_21 hw (by rw [gs2]; exact lw.1.1) (fun z => ?_) (fun _ => ?_)
      · rw [(eo B (by omega) (by omega)).2.1, lw.2.1.2.1, v2.2.1.1, show (0 : Int32) = nI 0 from rfl, nI_leI (by omega) (by omega)] at z
        omega
      refine B8_supply_31 hw (by rw [gs2]; exact lw.1.1) ?_
      rw [(eo B (by omega) (by omega)).2.1, lw.2.1.2.1, lw.2.1.2.2.2.2.2.1]
      refine t5_wrapNext hw l2 v2 iv2 (by omega) (frontF_k (by omega)) hfu hfu2 (by omega) (by rw [gs2]; exact lw.1.2.2.2.2.1) (fun h3 c3 lo3 hi3 fc l3 vs3 iv3 => ?_)
      have eo3 : ∀ b, (b < B + 53 ∨ B + 105 ≤ b) → b ≠ B + 319 → gi h3 b = gi h b ∧ gr h3 b = gr h b ∧ gl h3 b = gl h b := fun b p1 p2 => by
        obtain ⟨x1, x2, x3⟩ := fc.2 b (by omega) p2
        obtain ⟨y1, y2, y3⟩ := eo b p1 p2
        exact ⟨x1.trans y1, x2.trans y2, x3.trans y3⟩
      have gs3 : gs h3 = gs h := fc.1.trans gs2
      have hg := (wraps_inv (fu := fu) iv2 (by omega) (frontF_k (N := N') (w := w' + 1) (by omega)).1 hfu).2
      generalize wrapsN fu N' (w' + 1) (frontF N' (w' + 1) (w' + 1)) d' acc = wn at *
      by_cases g : wn.1 = 0
      · rw [if_pos g] at hs
        refine B8_supply_42 hw (fun _ => B8_supply_47 hw ?_) (fun z => absurd (by rw [g]; rfl) z)
        rw [nI_add]
        exact ih (n + 1) (d' + 1) (K' + 1) c3 lo3 hi3 wn.2 h3 (by omega) gs3 eo3 l3 vs3 iv3 (by omega) (by omega)
      · rw [if_neg g] at hs
        have f := fin h3 gs3 eo3 l3
        rw [← hs, Nat.add_zero] at f
        refine B8_supply_42 hw (fun z => ?_) (fun _ => B8_supply_45 hw f)
        rw [show (0 : Int32) = nI 0 from rfl, nI_eq (by omega) (by omega)] at z
        exact absurd z g
  exact lp w 0 d K c lo hi N h1 (by omega) f1.1 (fun b p1 p2 => f1.2 b (by omega)) l1 v1 iv (by omega) (Nat.zero_add _)
