/-- a pallet is taken out of the state -/
theorem ValS_drop {h h' : AH} {x : Nat} {N : Nat → Int32} {c w d i k : Nat} {acc : List (Nat × Nat)} (l : LayS h x) (v : ValS h x N c w d acc) (hi : i < w) (hk : k < w) (e : ∀ q, q < 6 → gi h (pA h x i) q = palG N k q) (hs : gs h' = gs h) (hl : gl h' = gl h) (go : ∀ b, b ≠ x → gi h' b = gi h b) (gx : gi h' x = upd (gi h x) 3 (nI (w - 1))) (ro : ∀ b, b ≠ x + 20 → gr h' b = gr h b) (rp : ∀ j, j < 8 → gr h' (x + 20) j = rotR (gr h (x + 20)) i w j) : LayS h' x ∧ ValS h' x (palletGoesN N w k) c (w - 1) d acc := by
  obtain ⟨⟨v1, v2, v3⟩, ⟨w1, w2, w3⟩, n1, ⟨k1, k2⟩, p1, s1, t1, t2⟩ := v
  have en : ∀ j, j ≠ 1 → (j < 140 ∨ 188 ≤ j) → palletGoesN N w k j = N j := fun j h1 h2 => palletGoesN_ne h1 (by omega)
  have e1 : ∀ j, rA h' x j = rA h x j := fun j => by unfold rA; rw [ro _ (by omega)]
  have e3 : ∀ j, kA h' x j = kA h x j := fun j => by unfold kA; rw [ro _ (by omega)]
  have e2 : ∀ j, j < w - 1 → pA h' x j = pA h x (skp i j) := fun j hj => by
    unfold pA
    rw [rp j (by omega)]
    unfold rotR skp
    by_cases z : j < i
    · rw [if_pos z, if_neg (by omega), if_neg (by omega)]
    · rw [if_neg z, if_pos (by omega)]
  refine ⟨⟨LSs_frm l.1 hs, LSf_frm l.2.1 hs (fun b hb => ro b (by omega)), by rw [ro _ (by omega)]; exact l.2.2.1, rotR_P l.2.2.2.1 hi w2 rp, by rw [ro _ (by omega)]; exact l.2.2.2.2⟩, ⟨by rw [gx, upd_ne _ _ (by omega)]; exact v1, v2, fun j hj => ?_⟩, ⟨by rw [gx, upd_eq], by omega, ?_⟩, by rw [gx, upd_ne _ _ (by omega), en 2 (by omega) (by omega)]; exact n1, ⟨by rw [gx, upd_ne _ _ (by omega)]; exact k1, fun j hj => ?_⟩, ?_, ?_, by rw [gx, upd_ne _ _ (by omega), en 4 (by omega) (by omega)]; exact t1, by rw [gx, upd_ne _ _ (by omega), en 5 (by omega) (by omega)]; exact t2⟩
  · obtain ⟨jj, hjj, ej, _⟩ := l.roll (i := j) (by omega)
    rw [e1, go _ (by omega), go _ (by omega), go _ (by omega)]
    obtain ⟨g4, wk, y3, y8, yw⟩ := v3 j hj
    have eg : ∀ q, q < 20 → rollG (palletGoesN N w k) j q = rollG N j q := fun q hq => en _ (by omega) (by omega)
    exact ⟨fun q hq => by rw [eg q (by omega)]; exact g4 q hq, wk, by rw [eg 3 (by omega)]; exact y3, y8, weakR_congr yw (fun _ _ => ⟨rfl, rfl⟩) (fun q hq => ⟨eg _ (by omega), eg _ (by omega)⟩)⟩
  · refine palsR_drop w3 hi hk e (fun j hj q hq => ?_) (fun j hj q hq => palletGoesN_p hj hq)
    have sl : skp i j < 8 := by unfold skp; split <;> omega
    obtain ⟨jj, hjj, ej, _⟩ := l.pal (i := skp i j) sl
    show gi h' (pA h' x j) q = gi h (pA h x (skp i j)) q
    rw [e2 j hj, go _ (by omega)]
  · obtain ⟨jj, hjj, ea, _⟩ := l.res (i := j) (by omega)
    have kb := keptB_b d j
    rw [e3, go _ (by omega), go _ (by omega), go _ (by omega)]
    exact keptV_N (k2 j hj) (fun q h1 h2 => en q (by omega) (by omega))
  · rw [go _ (by omega), go _ (by omega), go _ (by omega)]; exact p1
  · rw [go _ (by omega), hl]; exact sumV_N s1 (fun q h1 h2 => en q (by omega) (by omega))
theorem t8_drop {ω : Om} {h : AH} {Q : Option Value → AH → Prop} (hw : ω.2.2.2.1 = true) {B : Nat} {N : Nat → Int32} {H : List (Nat → Int32)} {T : Nat → Int32} {len K : Nat} {p : Int32} (cw : CW h B N H T len K) (q1 : p < 0 → Q (some (.int (-1))) h) (q2 : ∀ w : Nat, N 1 = nI w → w ≤ 8 → ¬ p < 0 → (∀ k, k < w → ¬ N (140 + 6 * k + 0) = p) → Q (some (.int (-4))) h) (q3 : ∀ w k : Nat, N 1 = nI w → w ≤ 8 → ¬ p < 0 → k < w → N (140 + 6 * k + 0) = p → ∀ h' : AH, Frm B (B + 324) h h' → CW h' B (palletGoesN N w k) (pushH H N) T len K → Q (some (.int (nI (w - 1)))) h') : Ex ω M8_drop 0 [some (.ref B), some (.int p), none] [] h 0 0 Q := by
  obtain ⟨c, w, d, nx, lo, hi, acc, vs, iv⟩ := cw.2.1
  have lw := cw.1
  have ls := lw.2.2.2.2.1
  have n1 := iv.2.1.1
  obtain ⟨w1, w8, pr⟩ := vs.2.1
  refine B8_drop_0 hw (fun cx => ?_) (fun c => B8_drop_4 hw (q1 (Int32.not_le.mp c)))
  have np : ¬ p < 0 := Int32.not_lt.mpr cx
  refine B8_drop_6 hw lw.1.1 ?_
  rw [lw.2.1.1]
  refine t5_indexOfPallet hw ls w1 w8 (fun i hi' e => ?_) (fun no => ?_)
  · obtain ⟨k, hk, _, ek⟩ := pr.fwd hi'
    have q3' := q3 w k n1 vs.2.1.2.1 np hk ((ek 0 (by omega)).symm.trans e)
    refine B8_drop_14 hw (fun _ => ?_) (fun c => absurd (by rw [c]; decide) (nI_pos (n := i) (by omega)))
    refine B8_drop_23 hw lw.1.1 (t8_recordC hw cw (fun h1 f1 e1 cw1 s1 => ?_))
    have vs1 := ValS_at ls vs (fun b hb1 hb2 => s1 b hb1 (by omega))
    have l1 := cw1.1.2.2.2.2.1
    refine B8_drop_27 hw cw1.1.1.1 ?_
    rw [e1, lw.2.1.1]
    refine t5_removePallet hw l1 vs1.2.1.1 w8 hi' (fun h2 g1 g2 g3 g4 g5 g6 => ?_)
    refine B8_drop_35 hw (by rw [g1]; exact cw1.1.1.1) ?_
    rw [g5 B (by omega), e1, lw.2.1.1, g4, upd_eq]
    have ep : ∀ q, q < 6 → gi h1 (pA h1 (B + 1) i) q = palG N k q := fun q hq => by
      obtain ⟨jj, hjj, ej, _⟩ := ls.pal (i := i) (by omega)
      have : pA h1 (B + 1) i = pA h (B + 1) i := by unfold pA; rw [(s1 _ (by omega) (by omega)).2.1]
      rw [this, (s1 _ (by omega) (by omega)).1]
      exact ek q hq
    obtain ⟨l2, vs2⟩ := ValS_drop l1 vs1 hi' hk ep g1 g2 g3 g4 g5 g6
    have f2 : Frm (B + 1) (B + 53) h1 h2 := ⟨g1, fun b hb => ⟨g3 b (by omega), g5 b (by omega), by rw [g2]⟩⟩
    exact q3' h2 (f1.trans (f2.mono (by omega) (by omega))) (cw1.pres f2 l2 ⟨c, w - 1, d, nx, lo, hi, acc, vs2, INV_drop iv hk⟩)
  · refine B8_drop_14 hw (fun c => absurd rfl c) (fun _ => B8_drop_20 hw (q2 w n1 vs.2.1.2.1 np (fun k hk e => ?_)))
    obtain ⟨i, hi', _, ei⟩ := pr.bwd hk
    exact no i hi' ((ei 0 (by omega)).trans e)
