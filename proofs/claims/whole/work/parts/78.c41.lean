/-! the class: plans -/
def PlanFr (C D : Nat) (h h' : AH) : Prop := gs h' = gs h ∧ gl h' = gl h ∧ (∀ b, b ≠ C → b ≠ D → gi h' b = gi h b) ∧ ∀ b, b ≠ C → gr h' b = gr h b
theorem t8_planLayers {ω : Om} {h : AH} {Q : Option Value → AH → Prop} (hw : ω.2.2.2.1 = true) {B pr P hh : Nat} {acc : List (Nat × Nat)} (lw : LayW h B) (sP : gs h P = some (1, 6)) (p3 : gi h P 3 = nI hh) (h250 : hh ≤ 250) (bP : P < B + 319) (po : ProgO h pr) (ne : pr + 3 ≤ B + 319) (pv : progV (gi h pr) (gi h (pr + 1)) (gi h (pr + 2)) acc) (ok : StepsOk acc)
    (hq : ∀ h' : AH, PlanFr (B + 319) (B + 323) h h' → (∀ i, i < (hh + 9) / 10 → gi h' (B + 323) i = nI (cntL i (crsL (hh - 50) acc (0, 40, 100)))) → Q none h') : Ex ω M8_planLayers 0 [some (.ref B), some (.ref pr), some (.ref P), none, none, none, none] [] h 0 0 Q := by
  have p12 := pv.2.1
  have ll := crsL_len (top := hh - 50) (by omega) acc (0, 40, 100) ok ⟨by decide, by decide, by decide⟩
  refine B8_planLayers_0 hw sP (t1_zones hw sP p3 (by omega) (B8_planLayers_4 hw ?_))
  generalize hz : (hh + 9) / 10 = z at *
  -- the turns
  have inner : ∀ (y r : Nat) (m : Nat → Nat) (f : Nat → Int32), y ≤ 1000 → (∀ i, i < z → m i < 20000) → (∀ h3 : AH, PlanFr (B + 319) (B + 323) h h3 → gi h3 (B + 319) = f → gr h3 (B + 319) 0 = pr → (∀ i, i < z → gi h3 (B + 323) i = nI ((if covP y i then 1 else 0) + m i)) → Ex ω M8_planLayers 110 [some (.ref B), none, none, some (.int (nI z)), some (.int (nI r)), none, none] [] h3 0 0 Q) → ∀ (d k : Nat) (h2 : AH), (k + d = min z ((y + 59) / 10) ∨ (k = y / 10 ∧ d = 0 ∧ min z ((y + 59) / 10) ≤ k)) → y / 10 ≤ k → PlanFr (B + 319) (B + 323) h h2 → gi h2 (B + 319) = f → gr h2 (B + 319) 0 = pr → (∀ i, i < z → gi h2 (B + 323) i = nI ((if y / 10 ≤ i ∧ i < k then 1 else 0) + m i)) → Ex ω M8_planLayers 86 [some (.ref B), none, none, some (.int (nI z)), some (.int (nI r)), some (.int (nI (min z ((y + 59) / 10)))), some (.int (nI k))] [] h2 0 0 Q := by
    intro y r m f hy hm kk d
    induction d with
    | zero =>
      intro k h2 hk hk2 pf gC rC hD
      have hk3 : min z ((y + 59) / 10) ≤ k := by omega
      refine B8_planLayers_86 hw (fun _ => x_dr5 (x_dr6 (kk h2 pf gC rC (fun i hi => ?_)))) (fun c => absurd (nI_le (by omega) (by omega)) c)
      rw [hD i hi]
      by_cases q : covP y i
      · have q2 : y / 10 ≤ i ∧ i < k := ⟨by have := q.2; omega, by have := q.1; omega⟩
        rw [if_pos q, if_pos q2]
      · have q2 : ¬ (y / 10 ≤ i ∧ i < k) := fun q2 => q ⟨by omega, by omega⟩
        rw [if_neg q, if_neg q2]
    | succ d ih =>
      intro k h2 hk hk2 pf gC rC hD
      have hk : k + (d + 1) = min z ((y + 59) / 10) := by omega
      refine B8_planLayers_86 hw (fun c => absurd c (nI_ge (by omega) (by omega))) (fun _ => ?_)
      refine B8_planLayers_93 hw (by rw [pf.1]; exact lw.1.1) (vp_in_nI (by omega) (by omega)) (vp_in_nI (by omega) (by omega)) ?_
      rw [pf.2.2.2 B (by omega), lw.2.1.2.2.2.2.2.2, nI_clamp (by omega), hD k (by omega), nI_add, nI_add, si_wi]
      refine ih (k + 1) _ (by omega) (by omega) ⟨pf.1, pf.2.1, fun b h1 h2 => by rw [gi_wi_ne _ _ _ h2]; exact pf.2.2.1 b h1 h2, pf.2.2.2⟩ (by rw [gi_wi_ne _ _ _ (by omega)]; exact gC) rC (fun i hi => ?_)
      rw [gi_wi]
      by_cases q : i = k
      · subst q
        have n1 : ¬ (y / 10 ≤ i ∧ i < i) := fun q => by omega
        have n2 : y / 10 ≤ i ∧ i < i + 1 := ⟨hk2, by omega⟩
        rw [upd_eq, if_neg n1, if_pos n2]
        congr 1; omega
      · rw [upd_ne _ _ q, hD i hi]
        by_cases q2 : y / 10 ≤ i ∧ i < k
        · have n2 : y / 10 ≤ i ∧ i < k + 1 := ⟨q2.1, by omega⟩
          rw [if_pos q2, if_pos n2]
        · have n2 : ¬ (y / 10 ≤ i ∧ i < k + 1) := fun q3 => q2 ⟨q3.1, by omega⟩
          rw [if_neg q2, if_neg n2]
  have lp : ∀ (L : List (Nat × Nat × Nat)) (h1 : AH) (r i sd : Nat) (f : Nat → Int32) (s : Nat × Nat × Nat) (m : Nat → Nat), PlanFr (B + 319) (B + 323) h h1 → gi h1 (B + 319) = f → gr h1 (B + 319) 0 = pr → CrsV f (hh - 50) i sd s → i ≤ acc.length → sd ≤ 1000 → TLb s → curL (hh - 50) (acc.drop i) sd s = L → r + L.length < 1000000 → (∀ i, i < z → gi h1 (B + 323) i = nI (m i)) → (∀ i, i < z → m i + cntL i L = cntL i (crsL (hh - 50) acc (0, 40, 100))) → Ex ω M8_planLayers 44 [some (.ref B), none, none, some (.int (nI z)), some (.int (nI r)), none, none] [] h1 0 0 Q := by
    intro L
    induction L with
    | nil =>
      intro h1 r i sd f s m pf gC rC cv hi hsd hs hL hr hD hm
      have e0 : wi h1 (B + 319) f = h1 := by rw [← gC]; exact wi_self _ _
      refine B8_planLayers_44 hw (fun q => absurd q (nI_ge (by omega) (by omega))) (fun _ => ?_)
      refine B8_planLayers_51 hw (by rw [pf.1]; exact lw.1.1) ?_
      rw [pf.2.2.2 B (by omega), lw.2.1.2.2.2.2.2.1, ← e0]
      refine t0_advance hw (pr := pr) (top := hh - 50) (acc := acc) (by rw [pf.1]; exact lw.1.2.2.2.2.1) rC (O3_frm po pf.1 (pf.2.2.2 _ (by omega))) (by omega) (by rw [pf.2.2.1 _ (by omega) (by omega), pf.2.2.1 _ (by omega) (by omega), pf.2.2.1 _ (by omega) (by omega)]; exact pv) ok (by omega) (acc.length - i) i sd f s (by omega) cv hsd hs (fun _ f' => ?_) (fun t l f' i' sd' z1 => absurd (hL.symm.trans z1) (by simp))
      refine B8_planLayers_58 hw (fun _ => B8_planLayers_116 hw ?_) (fun c => absurd rfl c)
      refine hq _ ⟨pf.1, pf.2.1, fun b h1 h2 => by rw [gi_wi_ne _ _ _ h1]; exact pf.2.2.1 b h1 h2, pf.2.2.2⟩ (fun j hj => ?_)
      rw [gi_wi_ne _ _ _ (by omega), hD j hj, ← hm j hj]; rfl
    | cons t L ih =>
      intro h1 r i sd f s m pf gC rC cv hi hsd hs hL hr hD hm
      rw [List.length_cons] at hr
      have e0 : wi h1 (B + 319) f = h1 := by rw [← gC]; exact wi_self _ _
      refine B8_planLayers_44 hw (fun q => absurd q (nI_ge (by omega) (by omega))) (fun _ => ?_)
      refine B8_planLayers_51 hw (by rw [pf.1]; exact lw.1.1) ?_
      rw [pf.2.2.2 B (by omega), lw.2.1.2.2.2.2.2.1, ← e0]
      refine t0_advance hw (pr := pr) (top := hh - 50) (acc := acc) (by rw [pf.1]; exact lw.1.2.2.2.2.1) rC (O3_frm po pf.1 (pf.2.2.2 _ (by omega))) (by omega) (by rw [pf.2.2.1 _ (by omega) (by omega), pf.2.2.1 _ (by omega) (by omega), pf.2.2.1 _ (by omega) (by omega)]; exact pv) ok (by omega) (acc.length - i) i sd f s (by omega) cv hsd hs (fun z1 => absurd (hL.symm.trans z1) (by simp)) (fun t2 l f' i' sd' z1 z2 z3 z4 z5 z6 => ?_)
      have z7 := hL.symm.trans z1
      have zt : t = t2 := (List.cons.inj z7).1
      have zl : L = l := (List.cons.inj z7).2
      subst zt
      rw [← zl] at z6
      have pf2 : PlanFr (B + 319) (B + 323) h (wi h1 (B + 319) f') := ⟨pf.1, pf.2.1, fun b h1 h2 => by rw [gi_wi_ne _ _ _ h1]; exact pf.2.2.1 b h1 h2, pf.2.2.2⟩
      refine B8_planLayers_58 hw (fun c => absurd c (by decide)) (fun _ => ?_)
      refine B8_planLayers_61 hw (by rw [gs_wi, pf.1]; exact lw.1.1) ?_
      rw [pf2.2.2.2 B (by omega), lw.2.1.2.2.2.2.2.1, gi_wi, z5.2.2.2.1]
      refine t8_zonesEnd hw z4.1 (by omega) (B8_planLayers_72 hw (by rw [gs_wi, pf.1]; exact lw.1.1) ?_)
      rw [pf2.2.2.2 B (by omega), lw.2.1.2.2.2.2.2.1, gi_wi, z5.2.2.2.1]
      refine t8_firstZone hw z4.1 (B8_planLayers_84 hw ?_)
      have hm' : ∀ i, i < z → m i < 20000 := fun i hi => by
        have := hm i hi
        have c2 := cnt_len i (crsL (hh - 50) acc (0, 40, 100))
        omega
      have iz : ∀ j, j < z → gi (wi h1 (B + 319) f') (B + 323) j = nI ((if t.1 / 10 ≤ j ∧ j < t.1 / 10 then 1 else 0) + m j) := fun j hj => by
        have n1 : ¬ (t.1 / 10 ≤ j ∧ j < t.1 / 10) := fun q => by omega
        rw [gi_wi_ne _ _ _ (by omega), hD j hj, if_neg n1, Nat.zero_add]
      refine inner t.1 r m f' z4.1 hm' (fun h3 pf3 g3 r3 hD3 => B8_planLayers_110 hw ?_) (min z ((t.1 + 59) / 10) - t.1 / 10) (t.1 / 10) _ (by omega) (Nat.le_refl _) pf2 (gi_wi _ _ _) rC iz
      rw [nI_add]
      exact ih h3 (r + 1) i' sd' f' t _ pf3 g3 r3 z5 z2 z3 z4 z6 (by omega) hD3 (fun j hj => by
        have e : (if covP t.1 j then 1 else 0) + cntL j L = cntL j (t :: L) := rfl
        have := hm j hj
        rw [← e] at this
        omega)
  -- the zeros
  have zl : ∀ (d i : Nat) (h1 : AH), i + d = 25 → PlanFr (B + 319) (B + 323) h h1 → (∀ j, j < i → gi h1 (B + 323) j = nI 0) → Ex ω M8_planLayers 8 [some (.ref B), some (.ref pr), some (.ref P), some (.int (nI z)), some (.int (nI i)), none, none] [] h1 0 0 Q := by
    intro d
    induction d with
    | zero =>
      intro i h1 hi pf h0
      refine B8_planLayers_8 hw (fun _ => ?_) (fun c => absurd (nI_le (by omega) (by omega)) c)
      have gP : gi h1 P = gi h P := pf.2.2.1 P (by omega) (by omega)
      refine B8_planLayers_29 hw (by rw [pf.1]; exact lw.1.1) (by rw [pf.1]; exact sP) (t1_top hw (by rw [pf.1]; exact sP) (by rw [gP]; exact p3) (by omega) ?_)
      rw [pf.2.2.2 B (by omega), lw.2.1.2.2.2.2.2.1]
      refine B8_planLayers_38 hw (by rw [pf.1]; exact lw.1.2.2.2.2.1) (t0_begin hw (by rw [pf.1]; exact lw.1.2.2.2.2.1) (by rw [pf.1]; exact po.1) (fun f cv => B8_planLayers_41 hw ?_))
      refine lp _ _ 0 0 0 f (0, 40, 100) (fun _ => 0) ⟨pf.1, pf.2.1, fun b h1 h2 => by rw [gi_wi_ne _ _ _ h1, gi_wr]; exact pf.2.2.1 b h1 h2, fun b h1 => by rw [gr_wi, gr_wr_ne _ _ _ h1]; exact pf.2.2.2 b h1⟩ (gi_wi _ _ _) (by rw [gr_wi, gr_wr, updN_eq]) cv (Nat.zero_le _) (by omega) ⟨by decide, by decide, by decide⟩ (by rw [List.drop_zero, curL_0]) (by omega) (fun j hj => ?_) (fun j hj => Nat.zero_add _)
      rw [gi_wi_ne _ _ _ (by omega), gi_wr]; exact h0 j (by omega)
    | succ d ih =>
      intro i h1 hi pf h0
      refine B8_planLayers_8 hw (fun c => absurd c (nI_ge (by omega) (by omega))) (fun _ => ?_)
      refine B8_planLayers_15 hw (by rw [pf.1]; exact lw.1.1) (vp_in_nI (by omega) (by omega)) ?_
      rw [pf.2.2.2 B (by omega), lw.2.1.2.2.2.2.2.2, nI_clamp (by omega), nI_add, si_wi]
      refine ih (i + 1) _ (by omega) ⟨pf.1, pf.2.1, fun b h1 h2 => by rw [gi_wi_ne _ _ _ h2]; exact pf.2.2.1 b h1 h2, pf.2.2.2⟩ (fun j hj => ?_)
      rw [gi_wi]
      by_cases q : j = i
      · rw [q, upd_eq]
      · rw [upd_ne _ _ q]; exact h0 j (by omega)
  exact zl 25 0 h (by omega) ⟨rfl, rfl, fun _ _ _ => rfl, fun _ _ => rfl⟩ (fun j hj => by omega)
