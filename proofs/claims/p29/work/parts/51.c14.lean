/-! the class: set, step, total, weight -/
theorem INV_set {N : Nat → Int32} {K c w d nx lo hi j : Nat} {acc : List (Nat × Nat)} {y : Int32} (iv : INV N K c w d nx lo hi acc) (hj : j < 2) (ok : okSet (nI j) y) : INV (upd N (4 + j) y) K c w d nx lo hi acc := by
  obtain ⟨a1, a2, a3, ⟨th, a4, a4'⟩, ⟨pa, a5, a5'⟩, ⟨a6, a6'⟩, ⟨a7, a7'⟩, a8, ⟨a9, a10, a11, a12⟩, a13, a14⟩ := iv
  obtain ⟨_, o1, o2⟩ := ok
  have e : ∀ q, q ≠ 4 → q ≠ 5 → upd N (4 + j) y q = N q := fun q h1 h2 => upd_ne _ _ (by omega)
  have b2 := a2.2.1
  refine ⟨RI_congr (fun q hq => e q (by omega) (by omega)) a1, PI_congr (fun q hq => e q (by omega) (by omega)) a2, SI_congr (fun q hq => e q (by omega) (by omega)) a3, ?_, ?_, ⟨(e 7 (by omega) (by omega)).trans a6, a6'⟩, ⟨(e 2 (by omega) (by omega)).trans a7, a7'⟩, fun i hi => ?_, ⟨(e 18 (by omega) (by omega)).trans a9, a10, (e 19 (by omega) (by omega)).trans a11, a12⟩, fun i hi => ?_, fun q hq => (e q (by omega) (by omega)).trans (a14 q hq)⟩
  · by_cases z : j = 0
    · subst z
      rw [if_pos (by decide)] at o2
      obtain ⟨n, rfl, _, n2⟩ := bd_of (lo := 0) (hi := 500) (by omega) (by omega) o1 o2
      exact ⟨n, upd_eq _ _ _, n2⟩
    · exact ⟨th, (upd_ne _ _ (by omega)).trans a4, a4'⟩
  · by_cases z : j = 1
    · subst z
      rw [if_neg (by decide)] at o2
      obtain ⟨n, rfl, _, n2⟩ := bd_of (lo := 0) (hi := 20) (by omega) (by omega) o1 o2
      exact ⟨n, upd_eq _ _ _, n2⟩
    · exact ⟨pa, (upd_ne _ _ (by omega)).trans a5, a5'⟩
  · unfold palG
    rw [e _ (by omega) (by omega)]
    exact a8 i hi
  · rw [e _ (by omega) (by omega)]; exact a13 i hi
theorem ValS_set {h : AH} {x : Nat} {N : Nat → Int32} {c w d j : Nat} {acc : List (Nat × Nat)} {y : Int32} (l : LayS h x) (v : ValS h x N c w d acc) (hj : j < 2) : ValS (wi h x (upd (gi h x) (9 + j) y)) x (upd N (4 + j) y) c w d acc := by
  obtain ⟨⟨v1, v2, v3⟩, ⟨w1, w2, w3⟩, n1, ⟨k1, k2⟩, p1, s1, t1, t2⟩ := v
  have g : ∀ k, k ≠ 9 → k ≠ 10 → gi (wi h x (upd (gi h x) (9 + j) y)) x k = gi h x k := fun k h1 h2 => by rw [gi_wi, upd_ne _ _ (by omega)]
  have o : ∀ b, b ≠ x → gi (wi h x (upd (gi h x) (9 + j) y)) b = gi h b := fun b hb => gi_wi_ne _ _ _ hb
  have e : ∀ q, q ≠ 4 → q ≠ 5 → upd N (4 + j) y q = N q := fun q h1 h2 => upd_ne _ _ (by omega)
  refine ⟨⟨(g 1 (by omega) (by omega)).trans v1, v2, fun i hi => ?_⟩, ⟨(g 3 (by omega) (by omega)).trans w1, w2, ?_⟩, ?_, ⟨(g 6 (by omega) (by omega)).trans k1, fun i hi => ?_⟩, ?_, ?_, ?_, ?_⟩
  · obtain ⟨jj, hjj, ej, _⟩ := l.roll (i := i) (by omega)
    show rollV (gi (wi h x (upd (gi h x) (9 + j) y)) (rA h x i)) (gi (wi h x (upd (gi h x) (9 + j) y)) (rA h x i + 1)) (gi (wi h x (upd (gi h x) (9 + j) y)) (rA h x i + 2)) (rollG (upd N (4 + j) y) i)
    rw [o _ (by omega), o _ (by omega), o _ (by omega)]
    obtain ⟨g4, wk, y3, y8, yw⟩ := v3 i hi
    have eg : ∀ q, q < 20 → rollG (upd N (4 + j) y) i q = rollG N i q := fun q hq => e _ (by omega) (by omega)
    exact ⟨fun q hq => by rw [eg q (by omega)]; exact g4 q hq, wk, by rw [eg 3 (by omega)]; exact y3, y8, weakR_congr yw (fun _ _ => ⟨rfl, rfl⟩) (fun q hq => ⟨eg _ (by omega), eg _ (by omega)⟩)⟩
  · refine palsR_congr w3 (fun i hi k _ => ?_) (fun i hi k hk => e _ (by omega) (by omega))
    obtain ⟨jj, hjj, ej, _⟩ := l.pal (i := i) (by omega)
    show gi (wi h x (upd (gi h x) (9 + j) y)) (pA h x i) k = gi h (pA h x i) k
    rw [o _ (by omega)]
  · rw [g 4 (by omega) (by omega), e 2 (by omega) (by omega)]; exact n1
  · obtain ⟨jj, hjj, ea, _⟩ := l.res (i := i) (by omega)
    have kb := keptB_b d i
    show keptV (gi (wi h x (upd (gi h x) (9 + j) y)) (kA h x i)) (gi (wi h x (upd (gi h x) (9 + j) y)) (kA h x i + 1)) (gi (wi h x (upd (gi h x) (9 + j) y)) (kA h x i + 2)) (upd N (4 + j) y) (keptB d i)
    rw [o _ (by omega), o _ (by omega), o _ (by omega)]
    exact keptV_N (k2 i hi) (fun q h1 h2 => e q (by omega) (by omega))
  · rw [o _ (by omega), o _ (by omega), o _ (by omega)]; exact p1
  · rw [o _ (by omega)]; exact sumV_N s1 (fun q h1 h2 => e q (by omega) (by omega))
  · rw [gi_wi]
    by_cases z : j = 0
    · subst z; rw [upd_eq, upd_eq]
    · rw [upd_ne _ _ (by omega), upd_ne _ _ (by omega)]; exact t1
  · rw [gi_wi]
    by_cases z : j = 1
    · subst z; rw [upd_eq, upd_eq]
    · rw [upd_ne _ _ (by omega), upd_ne _ _ (by omega)]; exact t2
theorem t8_set {ω : Om} {h : AH} {Q : Option Value → AH → Prop} (hw : ω.2.2.2.1 = true) {B : Nat} {N : Nat → Int32} {H : List (Nat → Int32)} {T : Nat → Int32} {len K : Nat} {x y : Int32} (cw : CW h B N H T len K) (q1 : ¬ okSet x y → Q (some (.int (-1))) h) (q2 : ∀ j : Nat, x = nI j → j < 2 → okSet x y → ∀ h' : AH, Frm B (B + 324) h h' → CW h' B (upd N (4 + j) y) (pushH H N) T len K → Q (some (.int (N (4 + j)))) h') : Ex ω M8_set 0 [some (.ref B), some (.int x), some (.int y), none] [] h 0 0 Q := by
  obtain ⟨c, w, d, nx, lo, hi, acc, vs, iv⟩ := cw.2.1
  have lw := cw.1
  refine B8_set_0 hw (t8_outside hw (fun a1 a2 => ?_) (fun z => ?_))
  rotate_left
  · exact B8_set_6 hw (fun _ => B8_set_29 hw (q1 (fun o => z o.1))) (fun c => absurd c (by decide))
  obtain ⟨j, rfl, _, hj⟩ := bd_of (lo := 0) (hi := 1) (by omega) (by omega) a1 a2
  have q2' := q2 j rfl (by omega)
  have good : okSet (nI j) y → Ex ω M8_set 31 [some (.ref B), some (.int (nI j)), some (.int y), none] [] h 0 0 Q := by
    intro ok
    refine B8_set_31 hw lw.1.1 (t8_recordC hw cw (fun h1 f1 e1 cw1 s1 => ?_))
    have vs1 := ValS_at lw.2.2.2.2.1 vs (fun b hb1 hb2 => s1 b hb1 (by omega))
    have l1 := cw1.1.2.2.2.2.1
    have fin : ∀ v : Int32, v = N (4 + j) → Ex ω M8_set 80 [some (.ref B), none, some (.int y), some (.int v)] [] (wi h1 (B + 1) (upd (gi h1 (B + 1)) (9 + j) y)) 0 0 Q := by
      intro v hv
      subst hv
      have f2 : Frm (B + 1) (B + 53) h1 (wi h1 (B + 1) (upd (gi h1 (B + 1)) (9 + j) y)) := Frm.wi _ _ _ _ (by omega) (by omega)
      exact B8_set_80 hw (q2' ok _ (f1.trans (f2.mono (by omega) (by omega))) (cw1.pres f2 (LayS_gr l1 rfl (fun _ _ _ => rfl)) ⟨c, w, d, nx, lo, hi, acc, ValS_set l1 vs1 (by omega), INV_set iv (by omega) ok⟩))
    by_cases z : j = 0
    · subst z
      refine B8_set_35 hw (fun c => absurd rfl c) (fun _ => ?_)
      refine B8_set_39 hw cw1.1.1.1 ?_
      rw [e1, lw.2.1.1, vs1.2.2.2.2.2.2.1]
      refine B8_set_56 hw (fun c => absurd rfl c) (fun _ => ?_)
      refine B8_set_61 hw cw1.1.1.1 ?_
      rw [e1, lw.2.1.1, si_wi]
      exact fin _ rfl
    · have z1 : j = 1 := by omega
      subst z1
      refine B8_set_35 hw (fun _ => ?_) (fun c => absurd c (by decide))
      refine B8_set_49 hw cw1.1.1.1 ?_
      rw [e1, lw.2.1.1, vs1.2.2.2.2.2.2.2]
      refine B8_set_56 hw (fun _ => ?_) (fun c => absurd c (by decide))
      refine B8_set_72 hw cw1.1.1.1 ?_
      rw [e1, lw.2.1.1, si_wi]
      exact fin _ rfl
  refine B8_set_6 hw (fun c => absurd rfl c) (fun _ => ?_)
  by_cases z : j = 0
  · subst z
    refine B8_set_9 hw (fun c => absurd rfl c) (fun _ => B8_set_15 hw (B8_set_23 hw (t8_outside hw (fun b1 b2 => ?_) (fun z => ?_))))
    · exact B8_set_26 hw (fun _ => good ⟨⟨a1, a2⟩, b1, by rw [if_pos (by decide)]; exact b2⟩) (fun c => absurd rfl c)
    · refine B8_set_26 hw (fun c => absurd c (by decide)) (fun _ => B8_set_29 hw (q1 (fun o => z ⟨o.2.1, ?_⟩)))
      have := o.2.2; rw [if_pos (by decide)] at this; exact this
  · have z1 : j = 1 := by omega
    subst z1
    refine B8_set_9 hw (fun _ => B8_set_21 hw (B8_set_23 hw (t8_outside hw (fun b1 b2 => ?_) (fun z => ?_)))) (fun c => absurd c (by decide))
    · exact B8_set_26 hw (fun _ => good ⟨⟨a1, a2⟩, b1, by rw [if_neg (by decide)]; exact b2⟩) (fun c => absurd rfl c)
    · refine B8_set_26 hw (fun c => absurd c (by decide)) (fun _ => B8_set_29 hw (q1 (fun o => z ⟨o.2.1, ?_⟩)))
      have := o.2.2; rw [if_neg (by decide)] at this; exact this

theorem t6_property {ω : Om} {h : AH} {Q : Option Value → AH → Prop} (hw : ω.2.2.2.1 = true) {s j : Nat} {N : Nat → Int32} {wg : Int64} (hs : gs h s = some (6, 12)) (v : sumV (gi h s) wg N) (hj : j < 10) (hq : Q (some (.int (N (8 + j)))) h) : Ex ω M6_property 0 [some (.ref s), some (.int (nI j))] [] h 0 0 Q := by
  obtain ⟨v0, v1, v2, v3, v4, v5, v6, v7, v8, v9, v10, v11, v12⟩ := v
  refine B6_property_0 hw (fun c => ?_) (fun c => ?_) (fun c => ?_) (fun c => ?_) (fun c => ?_) (fun c => ?_) (fun c => ?_) (fun c => ?_) (fun c => ?_) (fun c => ?_)
  · rw [nI_eq (by omega) (by omega)] at c; subst c; refine B6_property_52 hw hs ?_; rw [v4, v5, v6, v7, ← v11]; exact hq
  · rw [nI_eq (by omega) (by omega)] at c; subst c; refine B6_property_72 hw hs ?_; rw [v4]; exact hq
  · rw [nI_eq (by omega) (by omega)] at c; subst c; refine B6_property_77 hw hs ?_; rw [v5]; exact hq
  · rw [nI_eq (by omega) (by omega)] at c; subst c; refine B6_property_82 hw hs ?_; rw [v6]; exact hq
  · rw [nI_eq (by omega) (by omega)] at c; subst c; refine B6_property_87 hw hs ?_; rw [v7]; exact hq
  · rw [nI_eq (by omega) (by omega)] at c; subst c; refine B6_property_92 hw hs ?_; rw [v8]; exact hq
  · rw [nI_eq (by omega) (by omega)] at c; subst c; refine B6_property_97 hw hs ?_; rw [v9]; exact hq
  · rw [nI_eq (by omega) (by omega)] at c; subst c; refine B6_property_102 hw hs ?_; rw [v2]; exact hq
  · rw [nI_eq (by omega) (by omega)] at c; subst c; refine B6_property_107 hw hs ?_; rw [v3]; exact hq
  · rw [show (0 : Int32) = nI 0 from rfl, nI_leI (by omega) (by omega), nI_leI (by omega) (by omega)] at c
    obtain rfl : j = 9 := by omega
    refine B6_property_112 hw hs ?_; rw [v1]; exact hq
theorem t8_total {ω : Om} {h : AH} {Q : Option Value → AH → Prop} (hw : ω.2.2.2.1 = true) {B : Nat} {N : Nat → Int32} {H : List (Nat → Int32)} {T : Nat → Int32} {len K : Nat} {x : Int32} (cw : CW h B N H T len K) (q1 : ¬ (0 ≤ x ∧ x ≤ nI 9) → Q (some (.int (-1))) h) (q2 : ∀ j : Nat, x = nI j → j < 10 → Q (some (.int (N (8 + j)))) h) : Ex ω M8_total 0 [some (.ref B), some (.int x)] [] h 0 0 Q := by
  obtain ⟨c, w, d, nx, lo, hi, acc, vs, iv⟩ := cw.2.1
  have lw := cw.1
  have ls := lw.2.2.2.2.1
  refine B8_total_0 hw (t8_outside hw (fun a1 a2 => ?_) (fun z => ?_))
  · obtain ⟨j, rfl, _, hj⟩ := bd_of (lo := 0) (hi := 9) (by omega) (by omega) a1 a2
    refine B8_total_7 hw (fun _ => ?_) (fun c => absurd rfl c)
    refine B8_total_12 hw lw.1.1 ?_
    rw [lw.2.1.1, ls.2.1.2.2.2.2.1]
    exact t6_property hw ls.1.2.2.2.2.1 vs.2.2.2.2.2.1 (by omega) (B8_total_23 hw (q2 j rfl (by omega)))
  · exact B8_total_7 hw (fun c => absurd c (by decide)) (fun _ => B8_total_10 hw (q1 z))
theorem t8_weight {ω : Om} {h : AH} {Q : Option Value → AH → Prop} (hw : ω.2.2.2.1 = true) {B : Nat} {N : Nat → Int32} {H : List (Nat → Int32)} {T : Nat → Int32} {len K : Nat} (cw : CW h B N H T len K) (hq : Q (some (.long (weightR N))) h) : Ex ω M8_weight 0 [some (.ref B)] [] h 0 0 Q := by
  obtain ⟨c, w, d, nx, lo, hi, acc, vs, iv⟩ := cw.2.1
  have lw := cw.1
  have ls := lw.2.2.2.2.1
  refine B8_weight_0 hw lw.1.1 ?_
  rw [lw.2.1.1, ls.2.1.2.2.2.2.1, vs.2.2.2.2.2.1.2.2.2.2.2.2.2.2.2.2.2.2]
  exact hq
theorem t8_step {ω : Om} {h : AH} {Q : Option Value → AH → Prop} (hw : ω.2.2.2.1 = true) {B : Nat} {N : Nat → Int32} {H : List (Nat → Int32)} {T : Nat → Int32} {len K : Nat} {x y : Int32} (cw : CW h B N H T len K) (q1 : ¬ (¬ x < 0 ∧ (0 ≤ y ∧ y ≤ nI 1)) → Q (some (.int (-1))) h) (q2 : ∀ sn : Nat, N 3 = nI sn → sn ≤ 12 → (¬ x < 0 ∧ (0 ≤ y ∧ y ≤ nI 1)) → nI sn ≤ x → Q (some (.int (-4))) h) (q3 : ∀ sn i j : Nat, N 3 = nI sn → sn ≤ 12 → x = nI i → y = nI j → i < sn → j < 2 → Q (some (.int (N (188 + 2 * i + j)))) h) : Ex ω M8_step 0 [some (.ref B), some (.int x), some (.int y)] [] h 0 0 Q := by
  obtain ⟨c, w, d, nx, lo, hi, acc, vs, iv⟩ := cw.2.1
  have lw := cw.1
  have ls := lw.2.2.2.2.1
  obtain ⟨p1, p2, p3⟩ := vs.2.2.2.2.1
  have si := iv.2.2.1
  refine B8_step_0 hw (fun c => B8_step_13 hw (q1 (fun o => o.1 c))) (fun cx => ?_)
  refine B8_step_4 hw (t8_outside hw (fun a1 a2 => ?_) (fun z => ?_))
  rotate_left
  · exact B8_step_10 hw (fun c => absurd c (by decide)) (fun _ => B8_step_13 hw (q1 (fun o => z o.2)))
  refine B8_step_10 hw (fun _ => ?_) (fun c => absurd rfl c)
  refine B8_step_15 hw lw.1.1 (fun c => ?_) (fun c => ?_)
  · obtain ⟨i, hi', rfl⟩ := nI_of cx
    obtain ⟨j, rfl, _, hj⟩ := bd_of (lo := 0) (hi := 1) (by omega) (by omega) a1 a2
    rw [lw.2.1.1, ls.2.1.2.2.2.1, p1, nI_ltI (by omega) (by omega)] at c
    have q3' := q3 acc.length i j si.1 p2 rfl rfl c (by omega)
    obtain ⟨g1, g2, _⟩ := SI_get si c
    obtain ⟨r1, r2⟩ := p3 i acc[i] (List.getElem?_eq_getElem c)
    by_cases z : j = 0
    · subst z
      refine B8_step_32 hw (fun c => absurd rfl c) (fun _ => ?_)
      refine B8_step_36 hw lw.1.1 (vp_in_nI (by omega) (by omega)) (B8_step_63 hw ?_)
      rw [lw.2.1.1, ls.2.1.2.2.2.1, ls.prog.2.2.2.1, nI_clamp (by omega), r1, ← g1]
      exact q3'
    · have z1 : j = 1 := by omega
      subst z1
      refine B8_step_32 hw (fun _ => ?_) (fun c => absurd c (by decide))
      refine B8_step_51 hw lw.1.1 (vp_in_nI (by omega) (by omega)) (B8_step_63 hw ?_)
      rw [lw.2.1.1, ls.2.1.2.2.2.1, ls.prog.2.2.2.2, nI_clamp (by omega), r2, ← g2]
      exact q3'
  · rw [lw.2.1.1, ls.2.1.2.2.2.1, p1] at c
    exact B8_step_29 hw (q2 acc.length si.1 p2 ⟨cx, a1, a2⟩ (Int32.not_lt.mp c))

