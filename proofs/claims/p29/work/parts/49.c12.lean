theorem t8_weaken {ω : Om} {h : AH} {Q : Option Value → AH → Prop} (hw : ω.2.2.2.1 = true) {B : Nat} {N : Nat → Int32} {H : List (Nat → Int32)} {T : Nat → Int32} {len K : Nat} {r p s : Int32} (cw : CW h B N H T len K) (q1 : ∀ c : Nat, N 0 = nI c → c ≤ 6 → ¬ wkArg N c r p s → Q (some (.int (-1))) h)
    (q2 : ∀ c i wk : Nat, N 0 = nI c → c ≤ 6 → i < c → r = nI i → N (20 + 20 * i + 3) = nI wk → wk ≤ 8 → wkArg N c r p s → wkHas N i wk p → Q (some (.int (-2))) h)
    (q3 : ∀ c i wk : Nat, N 0 = nI c → c ≤ 6 → i < c → r = nI i → N (20 + 20 * i + 3) = nI wk → wkArg N c r p s → ¬ wkHas N i wk p → wk = 8 → Q (some (.int (-3))) h)
    (q4 : ∀ c i wk : Nat, N 0 = nI c → c ≤ 6 → i < c → r = nI i → N (20 + 20 * i + 3) = nI wk → wkArg N c r p s → ¬ wkHas N i wk p → wk < 8 → ∀ h' : AH, Frm B (B + 324) h h' → CW h' B (weakenN N i wk p s) (pushH H N) T len K → Q (some (.int (nI (wk + 1)))) h') : Ex ω M8_weaken 0 [some (.ref B), some (.int r), some (.int p), some (.int s)] [] h 0 0 Q := by
  obtain ⟨c, w0, d, nx, lo, hi, acc, vs, iv⟩ := cw.2.1
  have lw := cw.1
  have c6 := vs.1.2.1
  have n0 := iv.1.1
  refine B8_weaken_0 hw lw.1.1 ?_
  rw [lw.2.1.1, vs.1.1]
  refine t8_outside hw (fun a1 a2 => ?_) (fun z => ?_)
  rotate_left
  · exact B8_weaken_14 hw (fun _ => B8_weaken_28 hw (q1 c n0 c6 (fun y => idx_no (by omega) z y.1))) (fun c => absurd c (by decide))
  obtain ⟨i, hi', rfl⟩ := idx_of (by omega) a1 a2
  refine B8_weaken_14 hw (fun c => absurd rfl c) (fun _ => ?_)
  refine B8_weaken_17 hw (t8_outside hw (fun b1 b2 => ?_) (fun z => ?_))
  rotate_left
  · exact B8_weaken_25 hw (fun c => absurd c (by decide)) (fun _ => B8_weaken_28 hw (q1 c n0 c6 (fun y => z y.2.2)))
  refine B8_weaken_25 hw (fun _ => ?_) (fun c => absurd rfl c)
  have ls := lw.2.2.2.2.1
  obtain ⟨jj, hjj, ej, oj⟩ := ls.roll (i := i) (by omega)
  have vi := vs.1.2.2 i hi'
  obtain ⟨wk, k3, k8, g3, wr', ws'⟩ := vi.str iv.1 hi'
  have v4 := vi.1
  have iv6 : vp_in (nI i) 6 := vp_in_nI (by omega) (by omega)
  refine B8_weaken_30 hw lw.1.1 iv6 ?_
  rw [lw.2.1.1, ls.2.1.1, nI_clamp (by omega), show gr h (B + 1 + 1) i = rA h (B + 1) i from rfl, v4 0 (by omega)]
  refine t8_outside hw (fun p1 p2 => ?_) (fun z => ?_)
  rotate_left
  · refine B8_weaken_49 hw (fun c => absurd c (by decide)) (fun _ => B8_weaken_52 hw (q1 c n0 c6 (fun y => z ⟨y.2.1.1, ?_⟩)))
    have := y.2.1.2
    rw [nn_nI (by omega)] at this
    exact this
  refine B8_weaken_49 hw (fun _ => ?_) (fun c => absurd rfl c)
  have arg : wkArg N c (nI i) p s := ⟨⟨a1, (nI_ltI (by omega) (by omega)).mpr hi'⟩, ⟨p1, by rw [nn_nI (by omega)]; exact p2⟩, b1, b2⟩
  refine B8_weaken_54 hw lw.1.1 iv6 ?_
  rw [lw.2.1.1, ls.2.1.1, nI_clamp (by omega), show gr h (B + 1 + 1) i = rA h (B + 1) i from rfl]
  have has_iff : wkHas N i wk p ↔ (p ≤ N (22 + 20 * i) ∨ ∃ k, k < wk ∧ gi h (rA h (B + 1) i + 1) k = p) := by
    unfold wkHas
    rw [show 20 + 20 * i + 2 = 22 + 20 * i from by omega]
    refine or_congr Iff.rfl ⟨fun ⟨k, hk, e⟩ => ?_, fun ⟨k, hk, e⟩ => ?_⟩
    · obtain ⟨k2, hk2, e1, _⟩ := wr'.bwd hk
      exact ⟨k2, hk2, e1.trans ((congrArg N (by omega)).trans e)⟩
    · obtain ⟨k2, hk2, e1, _⟩ := wr'.fwd hk
      exact ⟨k2, hk2, (congrArg N (by omega)).trans (e1.trans e)⟩
  have e2 : gi h (rA h (B + 1) i) 2 = N (22 + 20 * i) := (v4 2 (by omega)).trans (congrArg N (by omega))
  refine t4_isWeakAt hw oj g3 k8 (fun y => ?_) (fun y => ?_)
  · exact B8_weaken_67 hw (fun _ => B8_weaken_86 hw (q2 c i wk n0 c6 hi' rfl k3 k8 arg (has_iff.mpr (Or.inr y)))) (fun c => absurd c (by decide))
  refine B8_weaken_67 hw (fun c => absurd rfl c) (fun _ => ?_)
  refine B8_weaken_70 hw lw.1.1 iv6 (fun c1 => ?_) (fun c1 => ?_)
  rotate_left
  · rw [lw.2.1.1, ls.2.1.1, nI_clamp (by omega), show gr h (B + 1 + 1) i = rA h (B + 1) i from rfl, e2] at c1
    exact B8_weaken_86 hw (q2 c i wk n0 c6 hi' rfl k3 k8 arg (has_iff.mpr (Or.inl (Int32.not_lt.mp c1))))
  rw [lw.2.1.1, ls.2.1.1, nI_clamp (by omega), show gr h (B + 1 + 1) i = rA h (B + 1) i from rfl, e2] at c1
  have no : ¬ wkHas N i wk p := fun q => by
    rcases has_iff.mp q with q | ⟨k, hk, e⟩
    · exact absurd c1 (Int32.not_lt.mpr q)
    · exact y k hk e
  refine B8_weaken_89 hw lw.1.1 iv6 (fun c2 => ?_) (fun c2 => ?_)
  rotate_left
  · rw [lw.2.1.1, ls.2.1.1, nI_clamp (by omega), show gr h (B + 1 + 1) i = rA h (B + 1) i from rfl, g3, nI_ltI (by omega) (by omega)] at c2
    exact B8_weaken_106 hw (q3 c i wk n0 c6 hi' rfl k3 arg no (by omega))
  rw [lw.2.1.1, ls.2.1.1, nI_clamp (by omega), show gr h (B + 1 + 1) i = rA h (B + 1) i from rfl, g3, nI_ltI (by omega) (by omega)] at c2
  have q4' := q4 c i wk n0 c6 hi' rfl k3 arg no c2
  refine B8_weaken_109 hw lw.1.1 (t8_recordC hw cw (fun h1 f1 e1 cw1 s1 => ?_))
  have vs1 := ValS_at ls vs (fun b hb1 hb2 => s1 b hb1 (by omega))
  have l1 := cw1.1.2.2.2.2.1
  obtain ⟨A, hA⟩ : ∃ A, rA h1 (B + 1) i = A := ⟨_, rfl⟩
  obtain ⟨j1, hj1, ej1, oj1⟩ := l1.roll (i := i) (by omega)
  have rn0 : ∀ k, k < 6 → k ≠ i → A + 3 ≤ rA h1 (B + 1) k ∨ rA h1 (B + 1) k + 3 ≤ A := fun k hk ne => by rw [← hA]; exact l1.rne (i := i) (k := k) (by omega) hk (Ne.symm ne)
  have vi1 := vs1.1.2.2 i hi'
  obtain ⟨wk', k3', k8', g3', wr1, ws1⟩ := vi1.str iv.1 hi'
  have ewk : wk' = wk := by rw [k3'] at k3; exact (nI_eq (by omega) (by omega)).mp k3
  subst ewk
  have v41 := vi1.1
  rw [hA] at ej1 oj1 g3' wr1 v41
  have e21 : gi h1 A 2 = N (22 + 20 * i) := (v41 2 (by omega)).trans (congrArg N (by omega))
  refine B8_weaken_113 hw cw1.1.1.1 iv6 ?_
  rw [e1, lw.2.1.1, l1.2.1.1, nI_clamp (by omega), show gr h1 (B + 1 + 1) i = A from hA]
  rw [← w3_self h1 A]
  refine t4_insertWeakPlace hw oj1 g3' c2 wr1.2 (fun p' s' ix i1 i2 i3 i4 => ?_)
  refine B8_weaken_127 hw (by exact cw1.1.1.1) iv6 ?_
  have r2 : gr (w3 h1 A (upd (gi h1 A) 3 (nI (wk' + 1))) p' s') = gr h1 := rfl
  have f2 : Frm (B + 1) (B + 21) h1 (w3 h1 A (upd (gi h1 A) 3 (nI (wk' + 1))) p' s') := Frm.w3 _ _ _ _ _ _ (by omega) (by omega)
  have f2' : Frm A (A + 3) h1 (w3 h1 A (upd (gi h1 A) 3 (nI (wk' + 1))) p' s') := Frm.w3 _ _ _ _ _ _ (by omega) (by omega)
  have g0 := w3_0 h1 A (upd (gi h1 A) 3 (nI (wk' + 1))) p' s'
  have g1 := w3_1 h1 A (upd (gi h1 A) 3 (nI (wk' + 1))) p' s'
  have g2 := w3_2 h1 A (upd (gi h1 A) 3 (nI (wk' + 1))) p' s'
  generalize w3 h1 A (upd (gi h1 A) 3 (nI (wk' + 1))) p' s' = h2 at *
  rw [r2, e1, lw.2.1.1, l1.2.1.1, nI_clamp (by omega), show gr h1 (B + 1 + 1) i = A from hA, g0, upd_eq]
  have er : ∀ k, rA h2 (B + 1) k = rA h1 (B + 1) k := fun k => by unfold rA; rw [r2]
  have l2 := LayS_gr l1 f2.1 (fun b _ _ => by rw [r2])
  have ne : ∀ jj, ((1 ≤ jj ∧ jj < 20) ∨ 140 ≤ jj) → weakenN N i wk' p s jj = N jj := fun jj hjj => weakenN_ne _ _ (by omega) (by omega) (by omega)
  have gx : gi h2 (B + 1) = gi h1 (B + 1) := (f2'.2 _ (by omega)).1
  refine q4' h2 (f1.trans (f2.mono (by omega) (by omega))) (cw1.pres (f2.mono (by omega) (by omega)) l2 ⟨c, w0, d, nx, lo, hi, acc, ?_, INV_rolls iv ne (RI_weaken iv.1 hi' k3 c2 arg no)⟩)
  refine ValS_rolls l1 vs1 f2 (fun k hk => by rw [gx]) (by rw [gx]; exact vs1.1.1) c6 ne (fun k hk => ?_)
  rw [er]
  by_cases z : k = i
  · subst z
    rw [hA, g0, g1, g2]
    refine ⟨fun q hq => ?_, wk' + 1, ?_, by omega, ?_⟩
    · by_cases y3 : q = 3
      · subst y3
        rw [upd_eq]; unfold rollG weakenN; rw [if_pos rfl]
      · rw [upd_ne _ _ y3, v41 q hq]
        exact (show weakenN N k wk' p s (20 + 20 * k + q) = N (20 + 20 * k + q) from weakenN_ne _ _ (by omega) (by omega) (by omega)).symm
    · unfold rollG weakenN; rw [if_pos rfl]
    · have lt : ∀ q, q < ix → gi h1 (A + 1) q < p := fun q hq => by
        rcases Int32.lt_or_eq_of_le (i2 q hq) with y1 | y1
        · exact y1
        · obtain ⟨k2, hk2, e3, _⟩ := wr1.fwd (i := q) (by omega)
          exact absurd (Or.inr ⟨k2, hk2, (congrArg N (by omega)).trans (e3.trans y1)⟩) no
      refine weakR_insert wr1 i1 lt i3 i4 (fun q hq => ⟨?_, ?_⟩) ?_ ?_
      · exact (weakenN_ne _ _ (by omega) (by omega) (by omega)).trans (congrArg N (by omega))
      · exact (weakenN_ne _ _ (by omega) (by omega) (by omega)).trans (congrArg N (by omega))
      · show weakenN N k wk' p s (20 + 20 * k + (4 + wk')) = p
        unfold weakenN; rw [if_neg (by omega), if_pos rfl]
      · show weakenN N k wk' p s (20 + 20 * k + (12 + wk')) = s
        unfold weakenN; rw [if_neg (by omega), if_neg (by omega), if_pos rfl]
  · have rn := rn0 k (by omega) z
    rw [(f2'.2 _ (by omega)).1, (f2'.2 _ (by omega)).1, (f2'.2 _ (by omega)).1]
    obtain ⟨g4, wk2, y3, y8, yw⟩ := vs1.1.2.2 k hk
    have eg : ∀ q, q < 20 → rollG (weakenN N i wk' p s) k q = rollG N k q := fun q hq => weakenN_ne _ _ (by omega) (by omega) (by omega)
    exact ⟨fun q hq => by rw [eg q (by omega)]; exact g4 q hq, wk2, by rw [eg 3 (by omega)]; exact y3, y8, weakR_congr yw (fun _ _ => ⟨rfl, rfl⟩) (fun q hq => ⟨eg _ (by omega), eg _ (by omega)⟩)⟩

