/-! the class: wrap, ifWrap, supply -/
theorem CW.gen {h h' : AH} {B len K K' : Nat} {N N' : Nat → Int32} {H : List (Nat → Int32)} {T : Nat → Int32} (c : CW h B N H T len K) (g : gs h' = gs h) (l1 : LayS h' (B + 1)) (o : OkS h' (B + 1) N' K') (hK : K ≤ K') (l2 : LayS h' (B + 53)) (e : ∀ b, (b < B + 1 ∨ B + 105 ≤ b) → (b < B + 316 ∨ B + 324 ≤ b) → gi h' b = gi h b ∧ gr h' b = gr h b ∧ gl h' b = gl h b) (r : gr h' (B + 316) = gr h (B + 316)) : CW h' B N' H T len K' := by
  obtain ⟨⟨⟨s1, s2, s3, s4, s5, s6⟩, rr, t, p, a, b, cc, dd⟩, b2, d, tx⟩ := c
  refine ⟨⟨⟨by rw [g]; exact s1, by rw [g]; exact s2, by rw [g]; exact s3, by rw [g]; exact s4, by rw [g]; exact s5, by rw [g]; exact s6⟩, by rw [(e B (by omega) (by omega)).2.1]; exact rr, by rw [(e _ (by omega) (by omega)).2.1]; exact t, O3_frm p g r, l1, l2, fun j hj => LayS_gr (cc j hj) g (fun q h1 h2 => (e q (by omega) (by omega)).2.1), by rw [(e _ (by omega) (by omega)).2.1]; exact dd⟩, o, ⟨by rw [(e B (by omega) (by omega)).1]; exact d.1, d.2.1, fun i N2 hi => ?_⟩, tx.at (e _ (by omega) (by omega)).1 (e _ (by omega) (by omega)).1⟩
  have il := (List.getElem?_eq_some_iff.mp hi).1
  have h4 := d.2.1
  obtain ⟨j, hj, ej⟩ := dd.1 i (by omega)
  rw [(e (B + 105) (by omega) (by omega)).2.1]
  refine ((d.2.2 i N2 hi).at (x := gr h (B + 105) i) (h' := h') ?_ (fun q h1 h2 => e q (by omega) (by omega))).mono hK
  rw [ej]
  exact cc j hj
theorem t8_wrap {ω : Om} {h : AH} {Q : Option Value → AH → Prop} (hw : ω.2.2.2.1 = true) {B : Nat} {N : Nat → Int32} {H : List (Nat → Int32)} {T : Nat → Int32} {len K c w k d nx lo hi fu : Nat} {acc : List (Nat × Nat)} (cw : CW h B N H T len K) (vs : ValS h (B + 1) N c w d acc) (iv : INV N K c w d nx lo hi acc) (hK : K < 2 ^ 28) (fk : 1 ≤ w → frontK N w k) (hfu : 600007 ≤ fu) (hfu2 : fu ≤ 1000000) (q0 : w = 0 → Q (some (.int (-2))) h) (q1 : 1 ≤ w → ∀ h' : AH, Frm B (B + 324) h h' → CW h' B (wrapsN fu N w k d acc).2 (pushH H N) T len (K + 1) → Q (some (.int (nI (wrapsN fu N w k d acc).1))) h') : Ex ω M8_wrap 0 [some (.ref B)] [] h 0 0 Q := by
  have lw := cw.1
  have w8 := vs.2.1.2.1
  refine B8_wrap_0 hw lw.1.1 (fun z => ?_) (fun z => ?_)
  · rw [lw.2.1.1, vs.2.1.1, show (0 : Int32) = nI 0 from rfl, nI_eq (by omega) (by omega)] at z
    refine B8_wrap_13 hw lw.1.1 (t8_recordC hw cw (fun h1 f1 e1 cw1 s1 => ?_))
    have vs1 := ValS_at lw.2.2.2.2.1 vs (fun b hb1 hb2 => s1 b hb1 (by omega))
    have l1 := cw1.1.2.2.2.2.1
    refine B8_wrap_17 hw cw1.1.1.1 ?_
    rw [e1, lw.2.1.1, lw.2.1.2.2.2.2.2.1]
    refine t5_wrapNext hw l1 vs1 iv hK (fk (by omega)) hfu hfu2 (by omega) cw1.1.1.2.2.2.2.1 (fun h2 c2 lo2 hi2 fc l2 vs2 iv2 => B8_wrap_28 hw ?_)
    have eo : ∀ b, (b < B + 1 ∨ B + 53 ≤ b) → b ≠ B + 319 → gi h2 b = gi h1 b ∧ gr h2 b = gr h1 b ∧ gl h2 b = gl h1 b := fun b h1 h2 => fc.2 b (by omega) h2
    refine q1 (by omega) h2 (f1.trans ⟨fc.1, fun b hb => eo b (by omega) (by omega)⟩) ?_
    exact cw1.gen fc.1 l2 ⟨_, _, _, _, _, _, _, vs2, iv2⟩ (by omega) (LayS_gr cw1.1.2.2.2.2.2.1 fc.1 (fun b h1 h2 => (eo b (by omega) (by omega)).2.1)) (fun b h1 h2 => eo b (by omega) (by omega)) (eo _ (by omega) (by omega)).2.1
  · rw [lw.2.1.1, vs.2.1.1, show (0 : Int32) = nI 0 from rfl, nI_eq (by omega) (by omega)] at z
    exact B8_wrap_10 hw (q0 z)
