theorem t8_addPallet {ω : Om} {h : AH} {Q : Option Value → AH → Prop} (hw : ω.2.2.2.1 = true) {B : Nat} {N : Nat → Int32} {H : List (Nat → Int32)} {T : Nat → Int32} {len K : Nat} {a b c d e : Int32} (cw : CW h B N H T len K) (hK : K < 2 ^ 28) (q1 : ¬ okPal a b c d e → Q (some (.int (-1))) h) (q2 : ∀ w : Nat, N 1 = nI w → okPal a b c d e → w = 8 → Q (some (.int (-3))) h) (q3 : ∀ w : Nat, N 1 = nI w → okPal a b c d e → w < 8 → ∀ h' : AH, Frm B (B + 324) h h' → CW h' B (addPalletN N w a b c d e) (pushH H N) T len (K + 1) → Q (some (.int (N 2))) h') : Ex ω M8_addPallet 0 [some (.ref B), some (.int a), some (.int b), some (.int c), some (.int d), some (.int e), none] [] h 0 0 Q := by
  obtain ⟨c0, w, d0, nx, lo, hi, acc, vs, iv⟩ := cw.2.1
  have lw := cw.1
  have ls := lw.2.2.2.2.1
  have n1 := iv.2.1.1
  obtain ⟨w1, w8, pr⟩ := vs.2.1
  refine B8_addPallet_0 hw (t8_outside hw (fun a1 a2 => ?_) (fun z => ?_))
  rotate_left
  · exact B8_addPallet_9 hw (fun _ => B8_addPallet_36 hw (q1 (fun o => z o.1))) (fun c => absurd c (by decide))
  refine B8_addPallet_9 hw (fun c => absurd rfl c) (fun _ => ?_)
  refine B8_addPallet_12 hw (t8_outside hw (fun b1 b2 => ?_) (fun z => ?_))
  rotate_left
  · exact B8_addPallet_21 hw (fun _ => B8_addPallet_36 hw (q1 (fun o => z o.2.1))) (fun c => absurd c (by decide))
  refine B8_addPallet_21 hw (fun c => absurd rfl c) (fun _ => ?_)
  refine B8_addPallet_24 hw (t8_outside hw (fun c1 c2 => ?_) (fun z => ?_))
  rotate_left
  · exact B8_addPallet_33 hw (fun c => absurd c (by decide)) (fun _ => B8_addPallet_36 hw (q1 (fun o => z o.2.2.1)))
  refine B8_addPallet_33 hw (fun _ => ?_) (fun c => absurd rfl c)
  refine B8_addPallet_38 hw (t8_outside hw (fun d1 d2 => ?_) (fun z => ?_))
  rotate_left
  · exact B8_addPallet_47 hw (fun _ => B8_addPallet_62 hw (q1 (fun o => z o.2.2.2.1))) (fun c => absurd c (by decide))
  refine B8_addPallet_47 hw (fun c => absurd rfl c) (fun _ => ?_)
  refine B8_addPallet_50 hw (t8_outside hw (fun e1 e2 => ?_) (fun z => ?_))
  rotate_left
  · exact B8_addPallet_59 hw (fun c => absurd c (by decide)) (fun _ => B8_addPallet_62 hw (q1 (fun o => z o.2.2.2.2)))
  refine B8_addPallet_59 hw (fun _ => ?_) (fun c => absurd rfl c)
  have ok : okPal a b c d e := ⟨⟨a1, a2⟩, ⟨b1, b2⟩, ⟨c1, c2⟩, ⟨d1, d2⟩, e1, e2⟩
  refine B8_addPallet_64 hw lw.1.1 (fun q => ?_) (fun q => ?_)
  rotate_left
  · rw [lw.2.1.1, w1, nI_ltI (by omega) (by omega)] at q
    exact B8_addPallet_76 hw (q2 w n1 ok (by omega))
  rw [lw.2.1.1, w1, nI_ltI (by omega) (by omega)] at q
  have q3' := q3 w n1 ok q
  refine B8_addPallet_79 hw lw.1.1 (t8_recordC hw cw (fun h1 f1 e1' cw1 s1 => ?_))
  have vs1 := ValS_at ls vs (fun b hb1 hb2 => s1 b hb1 (by omega))
  have l1 := cw1.1.2.2.2.2.1
  refine B8_addPallet_83 hw cw1.1.1.1 ?_
  rw [e1', lw.2.1.1]
  obtain ⟨A, hA⟩ : ∃ A, pA h1 (B + 1) w = A := ⟨_, rfl⟩
  obtain ⟨jA, hjA, eA, oA⟩ := l1.pal q
  rw [hA] at eA oA
  have so : ∀ i j, i < j → j < w → gi h1 (pA h1 (B + 1) i) 5 ≤ gi h1 (pA h1 (B + 1) j) 5 := fun i j hij hj => by
    have := vs1.2.1.2.2.2 i j hij hj
    unfold befG at this
    dsimp only at this
    rw [Int32.le_iff_toInt_le]
    omega
  refine t5_insertPallet hw l1 vs1.2.1.1 q vs1.2.2.1 so (fun h2 ix hix b1' b2' g1 g2 g3 g4 g5 g6 g7 => ?_)
  rw [hA] at g3 g5 ⊢
  refine B8_addPallet_92 hw (by rw [g1]; exact oA) (t1_measure hw (by rw [g1]; exact oA) (B8_addPallet_104 hw (by rw [gs_wi, g1]; exact oA) ?_))
  have y0 : gi (wi h2 A (upd (upd (upd (upd (gi h2 A) 1 a) 2 b) 3 c) 4 d)) A 0 = N 2 := by
    rw [gi_wi, upd_ne _ _ (by omega), upd_ne _ _ (by omega), upd_ne _ _ (by omega), upd_ne _ _ (by omega), g5, upd_ne _ _ (by omega), upd_eq]
  have y5 : gi (wi h2 A (upd (upd (upd (upd (gi h2 A) 1 a) 2 b) 3 c) 4 d)) A 5 = e := by
    rw [gi_wi, upd_ne _ _ (by omega), upd_ne _ _ (by omega), upd_ne _ _ (by omega), upd_ne _ _ (by omega), g5, upd_eq]
  have y1 : gi (wi h2 A (upd (upd (upd (upd (gi h2 A) 1 a) 2 b) 3 c) 4 d)) A 1 = a := by rw [gi_wi, upd_ne _ _ (by omega), upd_ne _ _ (by omega), upd_ne _ _ (by omega), upd_eq]
  have y2 : gi (wi h2 A (upd (upd (upd (upd (gi h2 A) 1 a) 2 b) 3 c) 4 d)) A 2 = b := by rw [gi_wi, upd_ne _ _ (by omega), upd_ne _ _ (by omega), upd_eq]
  have y3 : gi (wi h2 A (upd (upd (upd (upd (gi h2 A) 1 a) 2 b) 3 c) 4 d)) A 3 = c := by rw [gi_wi, upd_ne _ _ (by omega), upd_eq]
  have y4 : gi (wi h2 A (upd (upd (upd (upd (gi h2 A) 1 a) 2 b) 3 c) 4 d)) A 4 = d := by rw [gi_wi, upd_eq]
  have z1 : ∀ q, q ≠ A → gi (wi h2 A (upd (upd (upd (upd (gi h2 A) 1 a) 2 b) 3 c) 4 d)) q = gi h2 q := fun q hq => gi_wi_ne _ _ _ hq
  have z2 : gr (wi h2 A (upd (upd (upd (upd (gi h2 A) 1 a) 2 b) 3 c) 4 d)) = gr h2 := rfl
  have z3 : gl (wi h2 A (upd (upd (upd (upd (gi h2 A) 1 a) 2 b) 3 c) 4 d)) = gl h2 := rfl
  have z4 : gs (wi h2 A (upd (upd (upd (upd (gi h2 A) 1 a) 2 b) 3 c) 4 d)) = gs h2 := rfl
  generalize wi h2 A (upd (upd (upd (upd (gi h2 A) 1 a) 2 b) 3 c) 4 d) = h3 at *
  rw [y0]
  have hnum : ∀ i, i < w → (palG N i 0).toInt < (N 2).toInt := fun i hi => by
    obtain ⟨n, hn, en⟩ := iv.2.2.2.2.2.2.2.1 i hi
    have n2 := iv.2.2.2.2.2.2.1
    rw [en, n2.1, nI_toInt (by omega), nI_toInt (by omega)]
    omega
  obtain ⟨l3, vs3⟩ := ValS_add (a := a) (b := b) (c := c) (d := d) (e := e) l1 vs1 q hnum hA hix b1' b2' (z4.trans g1) (z3.trans g2) (fun qq h1 h2 => (z1 qq h2).trans (g3 qq h1 h2)) ((z1 _ (by omega)).trans g4) ⟨y0, y1, y2, y3, y4, y5⟩ (fun qq hqq => by rw [z2]; exact g6 qq hqq) (fun j hj => by rw [z2]; exact g7 j hj)
  have f2 : Frm (B + 1) (B + 53) h1 h3 := ⟨z4.trans g1, fun b hb => ⟨(z1 b (by omega)).trans (g3 b (by omega) (by omega)), by rw [z2]; exact g6 b (by omega), by rw [z3, g2]⟩⟩
  exact q3' h3 (f1.trans (f2.mono (by omega) (by omega))) ((cw1.mono (Nat.le_succ K)).pres f2 l3 ⟨c0, w + 1, d0, nx + 1, lo, hi, acc, vs3, INV_addPallet iv hK ok q⟩)

