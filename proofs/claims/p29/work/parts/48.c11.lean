/-! roll and weaken -/
theorem idx_of {r : Int32} {c : Nat} (hc : c ≤ 1000) (h1 : nI 0 ≤ r) (h2 : r ≤ nI c - nI 1) : ∃ i : Nat, i < c ∧ r = nI i := by
  have e1 : (nI c - nI 1).toInt = (c : Int) - 1 := pk_sub_toInt (by omega) (by omega)
  obtain ⟨i, hi, rfl⟩ := nI_of (Int32.not_lt.mpr h1)
  rw [Int32.le_iff_toInt_le, e1, nI_toInt hi] at h2
  exact ⟨i, by omega, rfl⟩
theorem idx_no {r : Int32} {c : Nat} (hc : c ≤ 1000) (h : ¬ (nI 0 ≤ r ∧ r ≤ nI c - nI 1)) : ¬ (0 ≤ r ∧ r < nI c) := by
  have e1 : (nI c - nI 1).toInt = (c : Int) - 1 := pk_sub_toInt (by omega) (by omega)
  rintro ⟨a, b⟩
  refine h ⟨a, ?_⟩
  obtain ⟨i, hi, rfl⟩ := nI_of (Int32.not_lt.mpr a)
  rw [nI_ltI hi (by omega)] at b
  rw [Int32.le_iff_toInt_le, e1, nI_toInt hi]
  omega
theorem rollV.str {N : Nat → Int32} {c i : Nat} (ri : RI N c) (hi : i < c) {g p s : Nat → Int32} (v : rollV g p s (rollG N i)) : ∃ wk : Nat, N (20 + 20 * i + 3) = nI wk ∧ wk ≤ 8 ∧ g 3 = nI wk ∧ weakR wk p s (fun k => N (24 + 20 * i + k)) (fun k => N (32 + 20 * i + k)) ∧ ∀ k, k < wk → s k < nI 1000 := by
  obtain ⟨g4, wk, g3, g8, gw⟩ := v
  obtain ⟨ln, wt, pos, wk2, z0, _, _, _, _, _, _, _, z3, zk, zw, _⟩ := ri.2.2 i hi
  have e : wk2 = wk := by rw [z3] at g3; exact (nI_eq (by omega) (by omega)).mp g3
  subst e
  refine ⟨wk2, g3, g8, (g4 3 (by omega)).trans g3, weakR_congr gw (fun _ _ => ⟨rfl, rfl⟩) (fun k hk => ⟨congrArg N (by omega), congrArg N (by omega)⟩), fun k hk => ?_⟩
  obtain ⟨k2, hk2, e1, e2⟩ := gw.fwd hk
  obtain ⟨pp, ss, _, _, _, y1, y2⟩ := zw k2 hk2
  rw [← e2, y1, nI_ltI (by omega) (by omega)]; omega
theorem t8_roll {ω : Om} {h : AH} {Q : Option Value → AH → Prop} (hw : ω.2.2.2.1 = true) {B : Nat} {N : Nat → Int32} {H : List (Nat → Int32)} {T : Nat → Int32} {len K : Nat} {r w : Int32} (cw : CW h B N H T len K) (q1 : ∀ c : Nat, N 0 = nI c → c ≤ 6 → ¬ ((0 ≤ r ∧ r < nI c) ∧ (0 ≤ w ∧ w ≤ nI 5)) → Q (some (.int (-1))) h)
    (q2 : ∀ c i j : Nat, N 0 = nI c → c ≤ 6 → i < c → r = nI i → w = nI j → j < 3 → Q (some (.int (N (20 + 20 * i + j)))) h)
    (q3 : ∀ c i wk : Nat, N 0 = nI c → c ≤ 6 → i < c → r = nI i → w = nI 3 → N (20 + 20 * i + 3) = nI wk → wk ≤ 8 → Q (some (.int (nI (wkCount N i wk)))) h)
    (q4 : ∀ (c i j wk : Nat) (v : Int32), N 0 = nI c → c ≤ 6 → i < c → r = nI i → w = nI j → j = 4 ∨ j = 5 → N (20 + 20 * i + 3) = nI wk → wk ≤ 8 → (∀ b, wkI N i (nI 1000) wk b → v = (if b < 0 then -4 else N (20 + 20 * i + (if j = 4 then 4 + nn b else 12 + nn b)))) → Q (some (.int v)) h) : Ex ω M8_roll 0 [some (.ref B), some (.int r), some (.int w)] [] h 0 0 Q := by
  obtain ⟨c, w0, d, nx, lo, hi, acc, vs, iv⟩ := cw.2.1
  have lw := cw.1
  have c6 := vs.1.2.1
  have n0 := iv.1.1
  refine B8_roll_0 hw lw.1.1 ?_
  rw [lw.2.1.1, vs.1.1]
  refine t8_outside hw (fun a1 a2 => ?_) (fun z => ?_)
  rotate_left
  · exact B8_roll_14 hw (fun _ => B8_roll_26 hw (q1 c n0 c6 (fun y => idx_no (by omega) z y.1))) (fun c => absurd c (by decide))
  obtain ⟨i, hi', rfl⟩ := idx_of (by omega) a1 a2
  refine B8_roll_14 hw (fun c => absurd rfl c) (fun _ => ?_)
  refine B8_roll_17 hw (t8_outside hw (fun b1 b2 => ?_) (fun z => ?_))
  rotate_left
  · exact B8_roll_23 hw (fun c => absurd c (by decide)) (fun _ => B8_roll_26 hw (q1 c n0 c6 (fun y => z y.2)))
  refine B8_roll_23 hw (fun _ => ?_) (fun c => absurd rfl c)
  obtain ⟨j, rfl, _, hj⟩ := bd_of (by omega) (by omega) b1 b2
  have ls := lw.2.2.2.2.1
  obtain ⟨jj, hjj, ej, oj⟩ := ls.roll (i := i) (by omega)
  refine B8_roll_28 hw lw.1.1 (vp_in_nI (by omega) (by omega)) ?_
  rw [lw.2.1.1, ls.2.1.1, nI_clamp (by omega)]
  have vi := vs.1.2.2 i hi'
  obtain ⟨wk, k3, k8, g3, wr', ws'⟩ := vi.str iv.1 hi'
  have v4 := vi.1
  rw [show gr h (B + 1 + 1) i = rA h (B + 1) i from rfl]
  refine t4_property hw oj g3 k8 (by omega) (fun nx' hn => B8_roll_41 hw ?_)
  have hn' : nxR wk (gi h (rA h (B + 1) i + 1)) (N (22 + 20 * i)) nx' := by
    have e2 : gi h (rA h (B + 1) i) 2 = N (22 + 20 * i) := (v4 2 (by omega)).trans (congrArg N (by omega))
    rw [← e2]; exact hn
  by_cases z : j < 3
  · rw [if_pos z, v4 j (by omega)]
    exact q2 c i j n0 c6 hi' rfl rfl z
  rw [if_neg z]
  by_cases z3 : j = 3
  · subst z3
    rw [if_pos rfl, ← nx_count wr' hn']
    exact q3 c i wk n0 c6 hi' rfl rfl k3 k8
  rw [if_neg z3]
  refine q4 c i j wk _ n0 c6 hi' rfl rfl (by omega) k3 k8 (fun b hb => ?_)
  rcases nx_wkI wr' ws' hn' hb k8 with ⟨y1, y2⟩ | ⟨b', y1, y2, y3, y4, y5⟩
  · rw [if_neg (by omega), if_pos y1]
  · rw [if_pos y3, y1, if_neg (nI_pos (by omega)), nn_nI (by omega)]
    by_cases z4 : j = 4
    · rw [if_pos z4, if_pos z4, ← y4]; exact congrArg N (by omega)
    · rw [if_neg z4, if_neg z4, ← y5]; exact congrArg N (by omega)
theorem weakenN_ne {N : Nat → Int32} {i wk j : Nat} (p s : Int32) (h1 : j ≠ 23 + 20 * i) (h2 : j ≠ 24 + 20 * i + wk) (h3 : j ≠ 32 + 20 * i + wk) : weakenN N i wk p s j = N j := by
  unfold weakenN
  rw [if_neg (by omega), if_neg (by omega), if_neg (by omega)]
theorem RI_weaken {N : Nat → Int32} {c i wk : Nat} {p s : Int32} (ri : RI N c) (hi : i < c) (hwk : N (20 + 20 * i + 3) = nI wk) (h8 : wk < 8) (arg : wkArg N c (nI i) p s) (no : ¬ wkHas N i wk p) : RI (weakenN N i wk p s) c := by
  have c6 := ri.2.1
  refine ⟨(weakenN_ne _ _ (by omega) (by omega) (by omega)).trans ri.1, c6, fun k hk => ?_⟩
  by_cases z : k = i
  · subst z
    obtain ⟨ln, wt, pos, wk2, z0, zl, zl2, z1, zw1, zw2, z2, zp, z3, zk, zw, zd⟩ := ri.2.2 k hk
    have e : wk2 = wk := by
      have z3' : N (20 + 20 * k + 3) = nI wk2 := z3
      rw [z3'] at hwk; exact (nI_eq (by omega) (by omega)).mp hwk
    subst e
    obtain ⟨_, ⟨p1, p2⟩, s1, s2⟩ := arg
    rw [nn_nI (by omega), show N (20 + 20 * k + 0) = nI ln from z0, pk_sub (by omega)] at p2
    obtain ⟨pn, rfl, pn1, pn2⟩ := bd_of (by omega) (by omega) p1 p2
    obtain ⟨sn, rfl, _, sn2⟩ := bd_of (lo := 0) (by omega) (by omega) s1 s2
    have g : ∀ q, q < 20 → q ≠ 3 → q ≠ 4 + wk2 → q ≠ 12 + wk2 → rollG (weakenN N k wk2 (nI pn) (nI sn)) k q = rollG N k q := fun q h1 h2 h3 h4 => weakenN_ne _ _ (by omega) (by omega) (by omega)
    have gp : rollG (weakenN N k wk2 (nI pn) (nI sn)) k (4 + wk2) = nI pn := by unfold rollG weakenN; rw [if_neg (by omega), if_pos rfl]
    have gs' : rollG (weakenN N k wk2 (nI pn) (nI sn)) k (12 + wk2) = nI sn := by unfold rollG weakenN; rw [if_neg (by omega), if_neg (by omega), if_pos rfl]
    have g3 : rollG (weakenN N k wk2 (nI pn) (nI sn)) k 3 = nI (wk2 + 1) := by unfold rollG weakenN; rw [if_pos rfl]
    have nd : ∀ q, q < wk2 → rollG N k (4 + q) ≠ nI pn := fun q hq e => no (Or.inr ⟨q, hq, e⟩)
    refine ⟨ln, wt, pos, wk2 + 1, (g 0 (by omega) (by omega) (by omega) (by omega)).trans z0, zl, zl2, (g 1 (by omega) (by omega) (by omega) (by omega)).trans z1, zw1, zw2, (g 2 (by omega) (by omega) (by omega) (by omega)).trans z2, zp, g3, by omega, fun q hq => ?_, fun a b hab hb => ?_⟩
    · by_cases y : q = wk2
      · subst y
        exact ⟨pn, sn, gp, by omega, by omega, gs', by omega⟩
      · rw [g _ (by omega) (by omega) (by omega) (by omega), g _ (by omega) (by omega) (by omega) (by omega)]
        exact zw q (by omega)
    · rw [g (4 + a) (by omega) (by omega) (by omega) (by omega)]
      by_cases y : b = wk2
      · rw [y, gp]; exact nd a (by omega)
      · rw [g (4 + b) (by omega) (by omega) (by omega) (by omega)]; exact zd a b hab (by omega)
  · exact rOk_congr (fun q hq => weakenN_ne _ _ (by omega) (by omega) (by omega)) (ri.2.2 k hk)

