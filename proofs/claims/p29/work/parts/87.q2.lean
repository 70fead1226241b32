/-! what a wrapping does with the film: nothing of it is lost; when a pallet is given up -/
/-- the rests of the first c rolls -/
def rs (N : Nat → Int32) : Nat → Int32
  | 0 => 0
  | c + 1 => rs N c + (N (20 + 20 * c) - N (20 + 20 * c + 2))
theorem rs_congr {N N' : Nat → Int32} : ∀ c : Nat, (∀ j, 20 ≤ j → j < 20 + 20 * c → N' j = N j) → rs N' c = rs N c := by
  intro c
  induction c with
  | zero => intro _; rfl
  | succ c ih =>
    intro e
    show rs N' c + (N' (20 + 20 * c) - N' (20 + 20 * c + 2)) = rs N c + (N (20 + 20 * c) - N (20 + 20 * c + 2))
    rw [ih (fun j h1 h2 => e j h1 (by omega)), e _ (by omega) (by omega), e _ (by omega) (by omega)]
theorem i_comm3 (a b x : Int32) : a + b + x = a + x + b := by
  rw [Int32.add_assoc, Int32.add_comm b x, ← Int32.add_assoc]
theorem rs_shift {N N' : Nat → Int32} : ∀ c : Nat, (∀ j, 20 ≤ j → j < 20 + 20 * c → N' j = N (j + 20)) → rs N' c + (N 20 - N 22) = rs N (c + 1) := by
  intro c
  induction c with
  | zero => intro _; rfl
  | succ c ih =>
    intro e
    have h := ih (fun j h1 h2 => e j h1 (by omega))
    show rs N' c + (N' (20 + 20 * c) - N' (20 + 20 * c + 2)) + (N 20 - N 22) = rs N (c + 1) + (N (20 + 20 * (c + 1)) - N (20 + 20 * (c + 1) + 2))
    rw [i_comm3, h, e _ (by omega) (by omega), e _ (by omega) (by omega)]
    have a1 : 20 + 20 * (c + 1) = 20 + 20 * c + 20 := by omega
    have a2 : 20 + 20 * (c + 1) + 2 = 20 + 20 * c + 2 + 20 := by omega
    rw [a2, a1]
theorem rs_first {N N' : Nat → Int32} (e : ∀ j, 20 ≤ j → j < 140 → j ≠ 22 → N' j = N j) : ∀ c : Nat, c < 6 → rs N' (c + 1) + N' 22 = rs N (c + 1) + N 22 := by
  intro c
  induction c with
  | zero =>
    intro _
    show 0 + (N' 20 - N' 22) + N' 22 = 0 + (N 20 - N 22) + N 22
    rw [Int32.add_assoc, Int32.sub_add_cancel, Int32.add_assoc, Int32.sub_add_cancel, e 20 (by omega) (by omega) (by omega)]
  | succ c ih =>
    intro h
    show rs N' (c + 1) + (N' (20 + 20 * (c + 1)) - N' (20 + 20 * (c + 1) + 2)) + N' 22 = rs N (c + 1) + (N (20 + 20 * (c + 1)) - N (20 + 20 * (c + 1) + 2)) + N 22
    rw [i_comm3, ih (by omega), e _ (by omega) (by omega) (by omega), e _ (by omega) (by omega) (by omega), i_comm3]
theorem i_film (r' r n8 n22 p L : Int32) (h : r' + (p + L) = r + n22) : r' + (n8 + (p - n22) + L) = r + n8 := by grind
theorem i_film2 (r' r n8 n22 x : Int32) (h : r' + (n22 + x) = r + n22) : r' + (n8 + x) = r + n8 := by grind
theorem i_film3 (r' r n8 x : Int32) (h : r' + x = r) : r' + (n8 + x) = r + n8 := by grind
theorem chg_8 {N : Nat → Int32} {e c : Nat} (he1 : 212 ≤ e) : chgN N e c 8 = N 8 + (N 20 - N 22) := by
  unfold chgN
  rw [lasts_ne _ _ (by omega) (by omega), addC_ne _ _ (by omega), addC_ne _ _ (by omega)]
  unfold rollGoesN
  rw [if_neg (by omega), if_neg (by omega)]
  unfold wastesN
  rw [addC_ne _ _ (by omega), addC_eq, addC_ne _ _ (by omega)]
theorem chg_e6 {N : Nat → Int32} {e c : Nat} (he1 : 212 ≤ e) (hc : c ≤ 6) : chgN N e c (e + 6) = N (e + 6) := by
  unfold chgN
  rw [lasts_ne _ _ (by omega) (by omega), addC_ne _ _ (by omega), addC_ne _ _ (by omega)]
  unfold rollGoesN
  rw [if_neg (by omega), if_neg (by omega), wastes_ne _ _ (by omega) (by omega) (by omega)]
theorem brk_8 {N : Nat → Int32} {e : Nat} (p : Int32) (he1 : 212 ≤ e) : breaksN N e p 8 = N 8 + (p - N 22) + lesser (N 4) (N 20 - p) := by
  unfold breaksN
  rw [lasts_ne _ _ (by omega) (by omega), addC_ne _ _ (by omega), addC_ne _ _ (by omega), upd_ne _ _ (by omega)]
  unfold wastesN
  rw [addC_ne _ _ (by omega), addC_eq, addC_ne _ _ (by omega), addC_ne _ _ (by omega), addC_eq, addC_ne _ _ (by omega)]
theorem brk_e6 {N : Nat → Int32} {e : Nat} (p : Int32) (he1 : 212 ≤ e) : breaksN N e p (e + 6) = N (e + 6) + nI 1 := by
  unfold breaksN
  rw [lasts_ne _ _ (by omega) (by omega), addC_eq, addC_ne _ _ (by omega), upd_ne _ _ (by omega), wastes_ne _ _ (by omega) (by omega) (by omega), wastes_ne _ _ (by omega) (by omega) (by omega)]
theorem laysG_8 {N : Nat → Int32} {e need rnd : Nat} (he1 : 212 ≤ e) : laysG N e need rnd 8 = N 8 + nI need := by
  unfold laysG
  rw [lasts_ne _ _ (by omega) (by omega), addC_ne _ _ (by omega), addC_ne _ _ (by omega), addC_ne _ _ (by omega), addC_ne _ _ (by omega), addC_ne _ _ (by omega), addC_eq, addC_ne _ _ (by omega)]
/-- how a turn, and a run, ends: by what is given up; the rolls; the breaks; the film -/
def FE (R : Nat × (Nat → Int32)) (e c b th pa : Nat) (S : Int32) : Prop := RI R.2 c ∧ R.2 4 = nI th ∧ R.2 5 = nI pa ∧ R.2 (e + 6) = nI b ∧ b ≤ pa + 1 ∧ (R.1 = 2 ↔ pa < b) ∧ (R.1 = 1 → c = 0) ∧ rs R.2 c + R.2 8 = S
theorem fetch_film {e z y rnd need t th pa : Nat} {S : Int32} (he1 : 212 ≤ e) (hz : z ≤ 25) (ht2 : th ≤ 500) (hn : need < 2 ^ 30) (hpa : pa ≤ 20) : ∀ (fu : Nat) (N : Nat → Int32) (c b : Nat), RI N c → N 4 = nI th → N 5 = nI pa → N (e + 6) = nI b → b ≤ pa → rs N c + N 8 = S → meas N c < fu → ∃ c' b', FE (fetchN e t need rnd y z fu N) e c' b' th pa S := by
  intro fu
  induction fu with
  | zero => intro N c b _ _ _ _ _ _ hm; omega
  | succ fu ih =>
    intro N c b ri hth h5 h6 hb hS hm
    rw [fetchN_succ]
    have h0 := ri.1
    have hc6 := ri.2.1
    by_cases c0 : c = 0
    · rw [if_pos (by rw [h0, c0]; rfl)]
      exact ⟨c, b, ri, hth, h5, h6, (by omega : b ≤ pa + 1), ⟨fun q => absurd (show (1 : Nat) = 2 from q) (by decide), fun q => absurd q (by omega)⟩, fun _ => c0, hS⟩
    obtain ⟨c', rfl⟩ : ∃ c', c = c' + 1 := ⟨c - 1, by omega⟩
    rw [if_neg (by rw [h0, show (0 : Int32) = nI 0 from rfl, nI_eq (by omega) (by omega)]; omega)]
    obtain ⟨l, wt, pos, wk, hl0, hl1, hl2, hw0, hw1, hw2, hpos, hpl, hwk, hwk8, hws⟩ := RI_first ri (by omega)
    rw [hl0, hpos, pk_sub hpl, h0, nn_nI (by omega), hwk, nn_nI (by omega)]
    by_cases c1 : nI (l - pos) < nI need
    · rw [if_pos c1]
      have mc := meas_chg he1 ri
      refine ih (chgN N e (c' + 1)) c' b (RI_chg he1 ri) ((chg_lo he1 (by omega) (by omega) (by omega) (by omega) (by omega) (by omega)).trans hth) ((chg_lo he1 (by omega) (by omega) (by omega) (by omega) (by omega) (by omega)).trans h5) ((chg_e6 he1 hc6).trans h6) hb ?_ (by omega)
      rw [chg_8 he1, ← hS]
      exact i_film3 _ _ _ _ (rs_shift c' (fun j j1 j2 => chg_r he1 hc6 j1 (by omega)))
    · rw [if_neg c1]
      rw [nI_ltI (by omega) (by omega)] at c1
      cases hbk : brkF N t need wk with
      | some p0 =>
        obtain ⟨p, hp0, hpp, hpl2⟩ : ∃ p, p0 = nI p ∧ pos < p ∧ p ≤ l := by
          unfold brkF at hbk
          rcases wkB_spec N (nI t) wk with ⟨g, _⟩ | ⟨b3, g0, g1, g2, g3⟩
          · rw [g] at hbk; exact absurd hbk (by simp)
          · rw [g1] at hbk
            replace hbk : (if N (24 + b3) ≤ N 22 + nI need then some (N (24 + b3)) else none) = some p0 := hbk
            obtain ⟨p, s, hp, hp1, hp2, _, _⟩ := hws b3 g0
            have := g2.1
            rw [hp, hpos, nI_ltI (by omega) (by omega)] at this
            by_cases q : N (24 + b3) ≤ N 22 + nI need
            · rw [if_pos q] at hbk
              exact ⟨p, (Option.some.inj hbk).symm.trans hp, this, by omega⟩
            · rw [if_neg q] at hbk; exact absurd hbk (by simp)
        subst hp0
        have mb := meas_brk he1 ri (by omega) hth ht2 hl0 (by omega) hpl2 hpos hpp
        have rb := (RI_brk he1 ri (by omega) hth ht2 hl0 (by omega) hpl2).1
        have b4 := (brk_ne (N := N) (nI p) he1 (by omega) (by omega) (by omega) (by omega) (by omega) (by omega) (by omega) : breaksN N e (nI p) 4 = N 4).trans hth
        have b5 := (brk_ne (N := N) (nI p) he1 (by omega) (by omega) (by omega) (by omega) (by omega) (by omega) (by omega) : breaksN N e (nI p) 5 = N 5).trans h5
        have b6 : breaksN N e (nI p) (e + 6) = nI (b + 1) := by rw [brk_e6 _ he1, h6, nI_add]
        have bS : rs (breaksN N e (nI p)) (c' + 1) + breaksN N e (nI p) 8 = S := by
          have f := rs_first (N := N) (N' := breaksN N e (nI p)) (fun j j1 j2 j3 => brk_ne _ he1 (by omega) (by omega) (by omega) (by omega) (by omega) (by omega) j3) c' (by omega)
          rw [brk_22 _ he1] at f
          rw [brk_8 _ he1, ← hS]
          exact i_film _ _ _ _ _ _ f
        show ∃ c2 b2, FE (if breaksN N e (nI p) (e + 6) ≤ breaksN N e (nI p) 5 then fetchN e t need rnd y z fu (breaksN N e (nI p)) else (2, breaksN N e (nI p))) e c2 b2 th pa S
        by_cases c2 : breaksN N e (nI p) (e + 6) ≤ breaksN N e (nI p) 5
        · rw [if_pos c2]
          rw [b6, b5, nI_leI (by omega) (by omega)] at c2
          exact ih (breaksN N e (nI p)) (c' + 1) (b + 1) rb b4 b5 b6 c2 bS (by omega)
        · rw [if_neg c2]
          rw [b6, b5, nI_leI (by omega) (by omega)] at c2
          exact ⟨c' + 1, b + 1, rb, b4, b5, b6, (by omega : b + 1 ≤ pa + 1), ⟨fun _ => by omega, fun _ => rfl⟩, fun q => absurd (show (2 : Nat) = 1 from q) (by decide), bS⟩
      | none =>
        show ∃ c2 b2, FE (0, layZ (laysG N e need rnd) e y z (forceF (nI t))) e c2 b2 th pa S
        have p22 : layZ (laysG N e need rnd) e y z (forceF (nI t)) 22 = nI (pos + need) := by rw [layZ_ne hz (by omega), laysG_22 he1, hpos, nI_add]
        have lo : ∀ j, j < 140 → j ≠ 22 → j ≠ 8 → j ≠ 9 → j ≠ 15 → j ≠ 6 → layZ (laysG N e need rnd) e y z (forceF (nI t)) j = N j := fun j h1 h2 h3 h4 h5 h6 => by rw [layZ_ne hz (by omega), laysG_ne (by omega) (by omega) (by omega) (by omega) (by omega) (by omega) (by omega) (by omega) (by omega)]
        refine ⟨c' + 1, b, ⟨(lo 0 (by omega) (by omega) (by omega) (by omega) (by omega) (by omega)).trans h0, hc6, fun i hi => ?_⟩, (lo 4 (by omega) (by omega) (by omega) (by omega) (by omega) (by omega)).trans hth, (lo 5 (by omega) (by omega) (by omega) (by omega) (by omega) (by omega)).trans h5, ?_, (by omega : b ≤ pa + 1), ⟨fun q => absurd (show (0 : Nat) = 2 from q) (by decide), fun q => absurd q (by omega)⟩, fun q => absurd (show (0 : Nat) = 1 from q) (by decide), ?_⟩
        · by_cases zi : i = 0
          · subst zi
            exact rOk_pos (g := rollG N 0) (p := pos + need) (l := l) (fun k hk h2 => lo _ (by omega) (by omega) (by omega) (by omega) (by omega) (by omega)) (ri.2.2 0 hi) hl0 (by omega) p22 (by omega)
          · exact rOk_congr (fun k hk => lo _ (by omega) (by omega) (by omega) (by omega) (by omega) (by omega)) (ri.2.2 i hi)
        · show layZ (laysG N e need rnd) e y z (forceF (nI t)) (e + 6) = nI b
          rw [layZ_ne hz (by omega), laysG_ne (by omega) (by omega) (by omega) (by omega) (by omega) (by omega) (by omega) (by omega) (by omega)]
          exact h6
        · show rs (layZ (laysG N e need rnd) e y z (forceF (nI t))) (c' + 1) + layZ (laysG N e need rnd) e y z (forceF (nI t)) 8 = S
          have f := rs_first (N := N) (N' := layZ (laysG N e need rnd) e y z (forceF (nI t))) (fun j j1 j2 j3 => lo j j2 j3 (by omega) (by omega) (by omega) (by omega)) c' (by omega)
          rw [layZ_ne hz (by omega), laysG_22 he1] at f
          rw [layZ_ne hz (by omega), laysG_8 he1, ← hS]
          exact i_film2 _ _ _ _ _ f
theorem turn_film {fu e z lim rnd c b th pa : Nat} {N : Nat → Int32} {S : Int32} {q : Nat × Nat × Nat} (he1 : 212 ≤ e) (hz : z ≤ 25) (hr : rnd ≤ 1000) (hq2 : q.2.2 ≤ 1000) (hpa : pa ≤ 20) (ri : RI N c) (h4 : N 4 = nI th) (ht : th ≤ 500) (h5 : N 5 = nI pa) (h6 : N (e + 6) = nI b) (hb : b ≤ pa) (hS : rs N c + N 8 = S) (hm : meas N c < fu) : ∃ c' b', FE (turnN fu e lim rnd z q N) e c' b' th pa S := by
  unfold turnN
  by_cases c1 : tB lim (mostW N e q.1 z) q.2.1 = 0 ∧ 0 < q.2.1
  · rw [if_pos c1]
    have lo : ∀ j, j ≠ 16 → j ≠ e + 3 → addC (addC N 16 (nI 1)) (e + 3) (nI 1) j = N j := fun j a b => by rw [addC_ne _ _ b, addC_ne _ _ a]
    refine ⟨c, b, ⟨(lo 0 (by omega) (by omega)).trans ri.1, ri.2.1, fun i hi => rOk_congr (fun k hk => lo _ (by omega) (by have := ri.2.1; omega)) (ri.2.2 i hi)⟩, (lo 4 (by omega) (by omega)).trans h4, (lo 5 (by omega) (by omega)).trans h5, (lo _ (by omega) (by omega)).trans h6, (by omega : b ≤ pa + 1), ⟨fun q => absurd (show (0 : Nat) = 2 from q) (by decide), fun q => absurd q (by omega)⟩, fun q => absurd (show (0 : Nat) = 1 from q) (by decide), ?_⟩
    show rs (addC (addC N 16 (nI 1)) (e + 3) (nI 1)) c + addC (addC N 16 (nI 1)) (e + 3) (nI 1) 8 = S
    have c6 := ri.2.1
    rw [rs_congr c (fun j j1 j2 => lo j (by omega) (by omega)), lo 8 (by omega) (by omega)]
    exact hS
  · rw [if_neg c1]
    refine fetch_film he1 hz ht ?_ hpa fu N c b ri h4 h5 h6 hb hS hm
    unfold needF
    have : (rnd * 100 + (100 + q.2.2) - 1) / (100 + q.2.2) ≤ rnd * 100 + (100 + q.2.2) - 1 := Nat.div_le_self _ _
    omega
theorem RI_uniq {N : Nat → Int32} {c c' : Nat} (a : RI N c) (b : RI N c') : c = c' := by
  have h := a.1.symm.trans b.1
  have h1 := a.2.1
  have h2 := b.2.1
  exact (nI_eq (by omega) (by omega)).mp h
theorem run_film {fu e z lim rnd th pa : Nat} {S : Int32} (he1 : 212 ≤ e) (he2 : e ≤ 532) (hz : z ≤ 25) (hl : lim ≤ 5000) (hr : rnd ≤ 1000) (hpa : pa ≤ 20) : ∀ (l : List (Nat × Nat × Nat)) (N : Nat → Int32) (c b : Nat), TLe l → TI N e z lim c th → N 5 = nI pa → N (e + 6) = nI b → b ≤ pa → rs N c + N 8 = S → meas N c < fu → ∃ c' b', FE (runT fu e lim rnd z l N) e c' b' th pa S := by
  intro l
  induction l with
  | nil => intro N c b _ ti h5 h6 hb hS _; exact ⟨c, b, ti.1, ti.2.1, h5, h6, (by omega : b ≤ pa + 1), ⟨fun q => absurd (show (0 : Nat) = 2 from q) (by decide), fun q => absurd q (by omega)⟩, fun q => absurd (show (0 : Nat) = 1 from q) (by decide), hS⟩
  | cons q l ih =>
    intro N c b tl ti h5 h6 hb hS hm
    rw [runT_cons]
    have q1 := tl q (List.mem_cons_self ..)
    obtain ⟨c2, a1, a2, a3, a4⟩ := turn_inv (fu := fu) (q := q) he1 he2 hz hl hr q1.2.1 q1.2.2 ti hm
    obtain ⟨c3, b3, f⟩ := turn_film (fu := fu) (lim := lim) (q := q) he1 hz hr q1.2.2 hpa ti.1 ti.2.1 ti.2.2.1 h5 h6 hb hS hm
    by_cases g : (turnN fu e lim rnd z q N).1 = 0
    · rw [if_pos g]
      obtain ⟨f1, f2, f3, f4, f5, f6, f7, f8⟩ := f
      have ec := RI_uniq a1.1 f1
      subst ec
      have hb3 : b3 ≤ pa := Nat.le_of_not_lt (fun z => by have := f6.mpr z; omega)
      exact ih _ c2 b3 (fun x hx => tl x (List.mem_cons_of_mem _ hx)) a1 f3 f4 hb3 f8 (by omega)
    · rw [if_neg g]; exact ⟨c3, b3, f⟩
/-- what a wrapping comes to -/
theorem wraps_film {fu : Nat} {N : Nat → Int32} {K c w k d nx lo hi pa : Nat} {acc : List (Nat × Nat)} (iv : INV N K c w d nx lo hi acc) (h5 : N 5 = nI pa) (hpa : pa ≤ 20) (hk : k < w) (hfu : 600007 ≤ fu) : ∃ c' b : Nat, c' ≤ 6 ∧ (wrapsN fu N w k d acc).2 0 = nI c' ∧ (wrapsN fu N w k d acc).2 (entE d + 6) = nI b ∧ b ≤ pa + 1 ∧ ((wrapsN fu N w k d acc).1 = 2 ↔ pa < b) ∧ ((wrapsN fu N w k d acc).1 = 1 → c' = 0) ∧ rs (wrapsN fu N w k d acc).2 c' + (wrapsN fu N w k d acc).2 8 = rs N c + N 8 ∧ (wrapsN fu N w k d acc).2 (entE d + 1) = nI (wrapsN fu N w k d acc).1 ∧ (wrapsN fu N w k d acc).2 5 = nI pa := by
  rw [wrapsN_eq]
  obtain ⟨ri, pi, si, ⟨th, hth, ht⟩, -⟩ := iv
  have hw8 := pi.2.1
  obtain ⟨eb1, eb2⟩ := entE_b d
  obtain ⟨n, wd, dp, hh, lim, du, g0, gn, g1, g1a, g1b, g2, g2a, g2b, g3, g3a, g3b, g4, g4b, g5, g5b⟩ := pi.2.2.1 k hk
  have p1 : palV N k 1 = wd := palV_eq g1 (by omega)
  have p2 : palV N k 2 = dp := palV_eq g2 (by omega)
  have p3 : palV N k 3 = hh := palV_eq g3 (by omega)
  have p4 : palV N k 4 = lim := palV_eq g4 (by omega)
  have sTI := start_TI (N := N) (w := w) (k := k) (e := entE d) (z := (hh + 9) / 10) (lim := lim) (c := c) (th := th) eb1 hw8 (by omega) ri hth ht
  have lo' : ∀ j, j ≠ 1 → j < 140 → startN N w k (entE d) ((hh + 9) / 10) j = N j := fun j j1 j2 => startN_lo eb1 hw8 j1 (Or.inl j2)
  have c6 := ri.2.1
  have m6 := meas_le sTI.1
  obtain ⟨c', b, f1, f2, f3, f4, f5, f6, f7, f8⟩ : ∃ c' b, FE (runW fu N w k d acc) (entE d) c' b th pa (rs N c + N 8) := by
    unfold runW
    rw [p1, p2, p3, p4]
    refine run_film (b := 0) (c := c) eb1 eb2 (by omega) g4b (by omega) hpa _ _ (crsL_le (by omega) acc _ si.2.2.1 ⟨by show 0 ≤ 1000; omega, by show 40 ≤ 1000; omega, by show 100 ≤ 1000; omega⟩) sTI ((lo' 5 (by omega) (by omega)).trans h5) (startN_e eb1 hw8 (by omega) (by omega) (by omega)) (Nat.zero_le _) ?_ (by omega)
    rw [rs_congr c (fun j j1 j2 => lo' j (by omega) (by omega)), lo' 8 (by omega) (by omega)]
  have fi : ∀ j, j ≠ 7 → j ≠ 17 → j ≠ 18 → j ≠ 19 → j ≠ entE d + 1 → j ≠ entE d + 8 → j ≠ entE d + 9 → finN (runW fu N w k d acc).2 (entE d) ((palV N k 3 + 9) / 10) (runW fu N w k d acc).1 j = (runW fu N w k d acc).2 j := fun j a1 a2 a3 a4 a5 a6 a7 => finN_ne a1 a2 a3 a4 a5 a6 a7
  have c6' := f1.2.1
  refine ⟨c', b, f1.2.1, (fi 0 (by omega) (by omega) (by omega) (by omega) (by omega) (by omega) (by omega)).trans f1.1, (fi _ (by omega) (by omega) (by omega) (by omega) (by omega) (by omega) (by omega)).trans f4, f5, f6, f7, ?_, finN_1 eb1, (fi 5 (by omega) (by omega) (by omega) (by omega) (by omega) (by omega) (by omega)).trans f3⟩
  show rs (finN (runW fu N w k d acc).2 (entE d) ((palV N k 3 + 9) / 10) (runW fu N w k d acc).1) c' + finN (runW fu N w k d acc).2 (entE d) ((palV N k 3 + 9) / 10) (runW fu N w k d acc).1 8 = rs N c + N 8
  rw [rs_congr c' (fun j j1 j2 => fi j (by omega) (by omega) (by omega) (by omega) (by omega) (by omega) (by omega)), fi 8 (by omega) (by omega) (by omega) (by omega) (by omega) (by omega) (by omega)]
  exact f8
