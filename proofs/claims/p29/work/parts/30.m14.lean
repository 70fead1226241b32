/-! what a turn keeps -/
def TFr (e : Nat) (N N' : Nat → Int32) : Prop := ∀ j, ((1 ≤ j ∧ j ≤ 5) ∨ j = 7 ∨ (17 ≤ j ∧ j < 20) ∨ (140 ≤ j ∧ j ≤ e + 1) ∨ j = e + 8 ∨ j = e + 9 ∨ j = e + 12 ∨ e + 63 ≤ j) → N' j = N j
theorem TFr.refl (e : Nat) (N : Nat → Int32) : TFr e N N := fun _ _ => rfl
theorem TFr.trans {e : Nat} {N N1 N2 : Nat → Int32} (a : TFr e N N1) (b : TFr e N1 N2) : TFr e N N2 := fun j h => (b j h).trans (a j h)
def WB (N : Nat → Int32) (e c : Nat) : Prop := ∃ wv : Nat, N (e + 11) = nI wv ∧ wv + 50 * meas N c ≤ 30000300
/-- the covered zones bear the tension t -/
def FoT (N : Nat → Int32) (e y z lim t : Nat) : Prop := ∀ i, i < z → ∃ v : Nat, N (e + 38 + i) = nI v ∧ v ≤ lim ∧ (covP y i → v + t * 141 / 100 ≤ lim)
theorem mostW_ge {N : Nat → Int32} {e y z lim : Nat} (hl : lim ≤ 5000) (h : FoOk N e z lim) : ∀ k, k ≤ z → ∀ i, i < k → covP y i → nn (N (e + 38 + i)) ≤ mostW N e y k := by
  intro k
  induction k with
  | zero => intro _ i hi; omega
  | succ k ih =>
    intro hk i hi c
    show _ ≤ (if covP y k ∧ mostW N e y k < nn (N (e + 38 + k)) then nn (N (e + 38 + k)) else mostW N e y k)
    by_cases z : i = k
    · subst z
      by_cases q : mostW N e y i < nn (N (e + 38 + i))
      · rw [if_pos ⟨c, q⟩]; exact Nat.le_refl _
      · rw [if_neg (fun p => q p.2)]; omega
    · have := ih (by omega) i (by omega) c
      split <;> omega
theorem FoT_of {N : Nat → Int32} {e y z lim ten t : Nat} (hl : lim ≤ 5000) (h : FoOk N e z lim) (ht : t = tB lim (mostW N e y z) ten) : FoT N e y z lim t := by
  intro i hi
  obtain ⟨v, hv, hv2⟩ := h i hi
  refine ⟨v, hv, hv2, fun c => ?_⟩
  have a1 := mostW_ge hl h z (Nat.le_refl _) i hi c
  rw [hv, nn_nI (by omega)] at a1
  have a2 := mostW_le (y := y) hl h z (Nat.le_refl _)
  have a3 := (tB_force (ten := ten) a2 (t := t) (by rw [ht]; exact tB_le _ _ _)).mpr (by omega)
  omega
theorem chg_fr {N : Nat → Int32} {e c : Nat} (he1 : 212 ≤ e) (hc : c ≤ 6) : TFr e N (chgN N e c) := by
  intro j hj
  unfold chgN
  rw [lasts_ne _ _ (by omega) (by omega), addC_ne _ _ (by omega), addC_ne _ _ (by omega)]
  unfold rollGoesN
  rw [if_neg (by omega), if_neg (by omega), wastes_ne _ _ (by omega) (by omega) (by omega)]
theorem chg_hi {N : Nat → Int32} {e c j : Nat} (he1 : 212 ≤ e) (hc : c ≤ 6) (hj : e + 11 ≤ j) : chgN N e c j = N j := by
  unfold chgN
  rw [lasts_ne _ _ (by omega) (by omega), addC_ne _ _ (by omega), addC_ne _ _ (by omega)]
  unfold rollGoesN
  rw [if_neg (by omega), if_neg (by omega), wastes_ne _ _ (by omega) (by omega) (by omega)]
theorem brk_hi {N : Nat → Int32} {e j : Nat} (p : Int32) (he1 : 212 ≤ e) (hj : e + 11 ≤ j) : breaksN N e p j = N j := by
  unfold breaksN
  rw [lasts_ne _ _ (by omega) (by omega), addC_ne _ _ (by omega), addC_ne _ _ (by omega), upd_ne _ _ (by omega), wastes_ne _ _ (by omega) (by omega) (by omega), wastes_ne _ _ (by omega) (by omega) (by omega)]
theorem brk_fr {N : Nat → Int32} {e : Nat} (p : Int32) (he1 : 212 ≤ e) : TFr e N (breaksN N e p) := by
  intro j hj
  unfold breaksN
  rw [lasts_ne _ _ (by omega) (by omega), addC_ne _ _ (by omega), addC_ne _ _ (by omega), upd_ne _ _ (by omega), wastes_ne _ _ (by omega) (by omega) (by omega), wastes_ne _ _ (by omega) (by omega) (by omega)]
theorem layZ_ne {G : Nat → Int32} {e y k j : Nat} {fo : Int32} (hk : k ≤ 25) (h : j < e + 13 ∨ e + 63 ≤ j) : layZ G e y k fo j = G j := by
  unfold layZ
  rw [if_neg (by omega), if_neg (by omega)]
theorem layZ_f {G : Nat → Int32} {e y k i : Nat} {fo : Int32} (hk : k ≤ 25) (hi : i < k) : layZ G e y k fo (e + 38 + i) = if covP y i then G (e + 38 + i) + fo else G (e + 38 + i) := by
  unfold layZ
  rw [if_neg (by omega)]
  by_cases c : covP y i
  · rw [if_pos c, if_pos ⟨by omega, by omega, by rw [show e + 38 + i - (e + 38) = i from by omega]; exact c⟩]
  · rw [if_neg c, if_neg (fun q => c (by have := q.2.2; rw [show e + 38 + i - (e + 38) = i from by omega] at this; exact this))]
theorem layZ_l {G : Nat → Int32} {e y k i : Nat} {fo : Int32} (hk : k ≤ 25) (hi : i < k) : layZ G e y k fo (e + 13 + i) = if covP y i then G (e + 13 + i) + nI 1 else G (e + 13 + i) := by
  unfold layZ
  by_cases c : covP y i
  · rw [if_pos c, if_pos ⟨by omega, by omega, by rw [show e + 13 + i - (e + 13) = i from by omega]; exact c⟩]
  · rw [if_neg c, if_neg (fun q => c (by have := q.2.2; rw [show e + 13 + i - (e + 13) = i from by omega] at this; exact this)), if_neg (by omega)]
theorem laysG_ne {N : Nat → Int32} {e need rnd j : Nat} (h1 : j ≠ 22) (h2 : j ≠ 8) (h3 : j ≠ 9) (h4 : j ≠ 15) (h5 : j ≠ e + 2) (h6 : j ≠ e + 4) (h7 : j ≠ e + 11) (h8 : j ≠ e + 10) (h9 : j ≠ 6) : laysG N e need rnd j = N j := by
  unfold laysG
  rw [lasts_ne _ _ h9 h8, addC_ne _ _ h7, addC_ne _ _ h6, addC_ne _ _ h5, addC_ne _ _ h4, addC_ne _ _ h3, addC_ne _ _ h2, addC_ne _ _ h1]
theorem laysG_22 {N : Nat → Int32} {e need rnd : Nat} (he1 : 212 ≤ e) : laysG N e need rnd 22 = N 22 + nI need := by
  unfold laysG
  rw [lasts_ne _ _ (by omega) (by omega), addC_ne _ _ (by omega), addC_ne _ _ (by omega), addC_ne _ _ (by omega), addC_ne _ _ (by omega), addC_ne _ _ (by omega), addC_ne _ _ (by omega), addC_eq]
theorem laysG_11 {N : Nat → Int32} {e need rnd : Nat} (he1 : 212 ≤ e) : laysG N e need rnd (e + 11) = N (e + 11) + nI need * N 21 := by
  unfold laysG
  rw [lasts_ne _ _ (by omega) (by omega), addC_eq, addC_ne _ _ (by omega), addC_ne _ _ (by omega), addC_ne _ _ (by omega), addC_ne _ _ (by omega), addC_ne _ _ (by omega), addC_ne _ _ (by omega)]
/-- what holds between turns -/
def TI (N : Nat → Int32) (e z lim c th : Nat) : Prop := RI N c ∧ N 4 = nI th ∧ th ≤ 500 ∧ FoOk N e z lim ∧ WB N e c
theorem fetch_inv {e z y rnd need t th lim : Nat} (he1 : 212 ≤ e) (he2 : e ≤ 532) (hz : z ≤ 25) (ht2 : th ≤ 500) (hl : lim ≤ 5000) (ht3 : t ≤ 1000) (hn : need < 2 ^ 30) : ∀ (fu : Nat) (N : Nat → Int32) (c : Nat), RI N c → N 4 = nI th → FoT N e y z lim t → WB N e c → meas N c < fu → ∃ c', TI (fetchN e t need rnd y z fu N).2 e z lim c' th ∧ TFr e N (fetchN e t need rnd y z fu N).2 ∧ meas (fetchN e t need rnd y z fu N).2 c' ≤ meas N c ∧ (fetchN e t need rnd y z fu N).1 ≤ 2 := by
  intro fu
  induction fu with
  | zero => intro N c _ _ _ _ hm; omega
  | succ fu ih =>
    intro N c ri hth fo wb hm
    rw [fetchN_succ]
    have foO : ∀ N' : Nat → Int32, (∀ j, e + 11 ≤ j → N' j = N j) → FoOk N' e z lim := fun N' hN' i hi => by
      obtain ⟨v, h1, h2, _⟩ := fo i hi
      exact ⟨v, (hN' _ (by omega)).trans h1, h2⟩
    have foT : ∀ N' : Nat → Int32, (∀ j, e + 11 ≤ j → N' j = N j) → FoT N' e y z lim t := fun N' hN' i hi => by
      obtain ⟨v, h1, h2, h3⟩ := fo i hi
      exact ⟨v, (hN' _ (by omega)).trans h1, h2, h3⟩
    have h0 := ri.1
    have hc6 := ri.2.1
    by_cases c0 : c = 0
    · rw [if_pos (by rw [h0, c0]; rfl)]
      exact ⟨c, ⟨ri, hth, ht2, foO N (fun _ _ => rfl), wb⟩, TFr.refl _ _, Nat.le_refl _, (by decide : 1 ≤ 2)⟩
    obtain ⟨c', rfl⟩ : ∃ c', c = c' + 1 := ⟨c - 1, by omega⟩
    rw [if_neg (by rw [h0, show (0 : Int32) = nI 0 from rfl, nI_eq (by omega) (by omega)]; omega)]
    obtain ⟨l, wt, pos, wk, hl0, hl1, hl2, hw0, hw1, hw2, hpos, hpl, hwk, hwk8, hws⟩ := RI_first ri (by omega)
    rw [hl0, hpos, pk_sub hpl, h0, nn_nI (by omega), hwk, nn_nI (by omega)]
    obtain ⟨wv, hwv, hwb⟩ := wb
    by_cases c1 : nI (l - pos) < nI need
    · rw [if_pos c1]
      have mc := meas_chg he1 ri
      obtain ⟨c2, a1, a2, a3, a4⟩ := ih (chgN N e (c' + 1)) c' (RI_chg he1 ri) ((chg_lo he1 (by omega) (by omega) (by omega) (by omega) (by omega) (by omega)).trans hth) (foT _ (fun j hj => chg_hi he1 hc6 hj)) ⟨wv, (chg_hi he1 hc6 (by omega)).trans hwv, by omega⟩ (by omega)
      exact ⟨c2, a1, (chg_fr he1 hc6).trans a2, by omega, a4⟩
    · rw [if_neg c1]
      rw [nI_ltI (by omega) (by omega)] at c1
      cases hb : brkF N t need wk with
      | some p0 =>
        obtain ⟨p, hp0, hpp, hpl2⟩ : ∃ p, p0 = nI p ∧ pos < p ∧ p ≤ l := by
          unfold brkF at hb
          rcases wkB_spec N (nI t) wk with ⟨g, _⟩ | ⟨b3, g0, g1, g2, g3⟩
          · rw [g] at hb; exact absurd hb (by simp)
          · rw [g1] at hb
            replace hb : (if N (24 + b3) ≤ N 22 + nI need then some (N (24 + b3)) else none) = some p0 := hb
            obtain ⟨p, s, hp, hp1, hp2, _, _⟩ := hws b3 g0
            have := g2.1
            rw [hp, hpos, nI_ltI (by omega) (by omega)] at this
            by_cases q : N (24 + b3) ≤ N 22 + nI need
            · rw [if_pos q] at hb
              exact ⟨p, (Option.some.inj hb).symm.trans hp, this, by omega⟩
            · rw [if_neg q] at hb; exact absurd hb (by simp)
        subst hp0
        have mb := meas_brk he1 ri (by omega) hth ht2 hl0 (by omega) hpl2 hpos hpp
        have rb := (RI_brk he1 ri (by omega) hth ht2 hl0 (by omega) hpl2).1
        have b4 := (brk_ne (N := N) (nI p) he1 (by omega) (by omega) (by omega) (by omega) (by omega) (by omega) (by omega) : breaksN N e (nI p) 4 = N 4).trans hth
        have wb' : WB (breaksN N e (nI p)) e (c' + 1) := ⟨wv, (brk_hi _ he1 (by omega)).trans hwv, by omega⟩
        show ∃ c2, TI (if breaksN N e (nI p) (e + 6) ≤ breaksN N e (nI p) 5 then fetchN e t need rnd y z fu (breaksN N e (nI p)) else (2, breaksN N e (nI p))).2 e z lim c2 th ∧ TFr e N (if breaksN N e (nI p) (e + 6) ≤ breaksN N e (nI p) 5 then fetchN e t need rnd y z fu (breaksN N e (nI p)) else (2, breaksN N e (nI p))).2 ∧ meas (if breaksN N e (nI p) (e + 6) ≤ breaksN N e (nI p) 5 then fetchN e t need rnd y z fu (breaksN N e (nI p)) else (2, breaksN N e (nI p))).2 c2 ≤ meas N (c' + 1) ∧ (if breaksN N e (nI p) (e + 6) ≤ breaksN N e (nI p) 5 then fetchN e t need rnd y z fu (breaksN N e (nI p)) else (2, breaksN N e (nI p))).1 ≤ 2
        by_cases c2 : breaksN N e (nI p) (e + 6) ≤ breaksN N e (nI p) 5
        · rw [if_pos c2]
          obtain ⟨c3, a1, a2, a3, a4⟩ := ih (breaksN N e (nI p)) (c' + 1) rb b4 (foT _ (fun j hj => brk_hi _ he1 hj)) wb' (by omega)
          exact ⟨c3, a1, (brk_fr _ he1).trans a2, by omega, a4⟩
        · rw [if_neg c2]
          exact ⟨c' + 1, ⟨rb, b4, ht2, foO _ (fun j hj => brk_hi _ he1 hj), wb'⟩, brk_fr _ he1, (by omega : meas (breaksN N e (nI p)) (c' + 1) ≤ meas N (c' + 1)), (by decide : 2 ≤ 2)⟩
      | none =>
        show ∃ c2, TI (layZ (laysG N e need rnd) e y z (forceF (nI t))) e z lim c2 th ∧ TFr e N (layZ (laysG N e need rnd) e y z (forceF (nI t))) ∧ meas (layZ (laysG N e need rnd) e y z (forceF (nI t))) c2 ≤ meas N (c' + 1) ∧ 0 ≤ 2
        have p22 : layZ (laysG N e need rnd) e y z (forceF (nI t)) 22 = nI (pos + need) := by rw [layZ_ne hz (by omega), laysG_22 he1, hpos, nI_add]
        have lo : ∀ j, j < 140 → j ≠ 22 → j ≠ 8 → j ≠ 9 → j ≠ 15 → j ≠ 6 → layZ (laysG N e need rnd) e y z (forceF (nI t)) j = N j := fun j h1 h2 h3 h4 h5 h6 => by rw [layZ_ne hz (by omega), laysG_ne (by omega) (by omega) (by omega) (by omega) (by omega) (by omega) (by omega) (by omega) (by omega)]
        have me : meas (layZ (laysG N e need rnd) e y z (forceF (nI t))) (c' + 1) + need = meas N (c' + 1) := by
          unfold meas
          rw [if_neg (by omega), if_neg (by omega), p22, lo 20 (by omega) (by omega) (by omega) (by omega) (by omega) (by omega), hl0, hpos, nn_nI (by omega), nn_nI (by omega), nn_nI (by omega)]
          omega
        refine ⟨c' + 1, ⟨⟨(lo 0 (by omega) (by omega) (by omega) (by omega) (by omega) (by omega)).trans h0, hc6, fun i hi => ?_⟩, (lo 4 (by omega) (by omega) (by omega) (by omega) (by omega) (by omega)).trans hth, ht2, fun i hi => ?_, ?_⟩, fun j hj => ?_, by omega, by decide⟩
        · by_cases zi : i = 0
          · subst zi
            exact rOk_pos (g := rollG N 0) (p := pos + need) (l := l) (fun k hk h2 => lo _ (by omega) (by omega) (by omega) (by omega) (by omega) (by omega)) (ri.2.2 0 hi) hl0 (by omega) p22 (by omega)
          · exact rOk_congr (fun k hk => lo _ (by omega) (by omega) (by omega) (by omega) (by omega) (by omega)) (ri.2.2 i hi)
        · obtain ⟨v, h1, h2, h3⟩ := fo i hi
          rw [layZ_f hz hi, laysG_ne (by omega) (by omega) (by omega) (by omega) (by omega) (by omega) (by omega) (by omega) (by omega), h1, forceF_nI ht3, nI_add]
          by_cases c : covP y i
          · rw [if_pos c]; exact ⟨_, rfl, h3 c⟩
          · rw [if_neg c]; exact ⟨_, rfl, h2⟩
        · refine ⟨wv + need * wt, ?_, ?_⟩
          · rw [layZ_ne hz (by omega), laysG_11 he1, hwv, hw0, pk_mul, nI_add]
          · have : need * wt ≤ need * 50 := Nat.mul_le_mul_left _ hw2
            omega
        · rw [layZ_ne hz (by omega), laysG_ne (by omega) (by omega) (by omega) (by omega) (by omega) (by omega) (by omega) (by omega) (by omega)]
theorem turn_inv {fu e z lim rnd c th : Nat} {N : Nat → Int32} {q : Nat × Nat × Nat} (he1 : 212 ≤ e) (he2 : e ≤ 532) (hz : z ≤ 25) (hl : lim ≤ 5000) (hr : rnd ≤ 1000) (hq1 : q.2.1 ≤ 1000) (hq2 : q.2.2 ≤ 1000) (ti : TI N e z lim c th) (hm : meas N c < fu) : ∃ c', TI (turnN fu e lim rnd z q N).2 e z lim c' th ∧ TFr e N (turnN fu e lim rnd z q N).2 ∧ meas (turnN fu e lim rnd z q N).2 c' ≤ meas N c ∧ (turnN fu e lim rnd z q N).1 ≤ 2 := by
  obtain ⟨ri, h4, ht, fo, wb⟩ := ti
  unfold turnN
  by_cases c1 : tB lim (mostW N e q.1 z) q.2.1 = 0 ∧ 0 < q.2.1
  · rw [if_pos c1]
    have lo : ∀ j, j ≠ 16 → j ≠ e + 3 → addC (addC N 16 (nI 1)) (e + 3) (nI 1) j = N j := fun j a b => by rw [addC_ne _ _ b, addC_ne _ _ a]
    refine ⟨c, ⟨⟨(lo 0 (by omega) (by omega)).trans ri.1, ri.2.1, fun i hi => rOk_congr (fun k hk => lo _ (by omega) (by have := ri.2.1; omega)) (ri.2.2 i hi)⟩, (lo 4 (by omega) (by omega)).trans h4, ht, fun i hi => ?_, ?_⟩, fun j hj => lo j (by omega) (by omega), ?_, (by decide : 0 ≤ 2)⟩
    · obtain ⟨v, a, b⟩ := fo i hi
      exact ⟨v, (lo _ (by omega) (by omega)).trans a, b⟩
    · obtain ⟨wv, a, b⟩ := wb
      refine ⟨wv, (lo _ (by omega) (by omega)).trans a, ?_⟩
      unfold meas at b ⊢
      dsimp only
      rw [lo 20 (by omega) (by omega), lo 22 (by omega) (by omega)]
      exact b
    · unfold meas
      dsimp only
      rw [lo 20 (by omega) (by omega), lo 22 (by omega) (by omega)]
      exact Nat.le_refl _
  · rw [if_neg c1]
    refine fetch_inv he1 he2 hz ht hl (Nat.le_trans (tB_le _ _ _) hq1) ?_ fu N c ri h4 (FoT_of hl fo rfl) wb hm
    unfold needF
    have : (rnd * 100 + (100 + q.2.2) - 1) / (100 + q.2.2) ≤ rnd * 100 + (100 + q.2.2) - 1 := Nat.div_le_self _ _
    omega

