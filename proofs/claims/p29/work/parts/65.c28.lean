/-! the class: fault, load -/
theorem CW.draft {h : AH} {B len K : Nat} {N : Nat → Int32} {H : List (Nat → Int32)} {T : Nat → Int32} (c : CW h B N H T len K) (f p q : Nat → Int32) : CW (w3 h (B + 316) f p q) B N H T len K := by
  have fr : Frm (B + 316) (B + 319) h (w3 h (B + 316) f p q) := Frm.w3 _ _ _ _ _ _ (by omega) (by omega)
  obtain ⟨a, b, d, t⟩ := c
  exact ⟨LayW_gr a rfl rfl, b.frm a.2.2.2.2.1 fr (by omega), d.frm a fr (by omega), t.at (fr.2 _ (by omega)).1 (fr.2 _ (by omega)).1⟩
theorem CW.tx {h : AH} {B len K : Nat} {N : Nat → Int32} {H : List (Nat → Int32)} {T : Nat → Int32} (c : CW h B N H T len K) : TX h B T len := ⟨c.1.1.2.2.1, c.1.2.2.1, c.2.2.2⟩
theorem t8_fault {ω : Om} {h : AH} {Q : Option Value → AH → Prop} (hw : ω.2.2.2.1 = true) {B : Nat} {N : Nat → Int32} {H : List (Nat → Int32)} {T : Nat → Int32} {len K : Nat} (cw : CW h B N H T len K) (q1 : ∀ (x : Nat) (h' : AH), (parsT T len).1 = some x → x < 2 ^ 30 → Frm B (B + 324) h h' → CW h' B N H T len K → Q (some (.int (nI x))) h') (q2 : ∀ h' : AH, (parsT T len).1 = none → Frm B (B + 324) h h' → CW h' B N H T len K → Q (some (.int (-4))) h') : Ex ω M8_fault 0 [some (.ref B), none] [] h 0 0 Q := by
  have lw := cw.1
  refine B8_fault_0 hw lw.1.1 ?_
  rw [lw.2.1.2.2.2.1, lw.2.1.2.2.2.2.1, ← w3_self h (B + 316)]
  refine t7_readInto hw lw cw.tx (fun x f' p' q' e hx => ?_) (fun f' p' q' e _ _ => ?_)
  · exact B8_fault_11 hw (fun _ => B8_fault_22 hw (B8_fault_23 hw (q1 x _ e hx (Frm.w3 _ _ _ _ _ _ (by omega) (by omega)) (cw.draft f' p' q')))) (fun c => absurd c (ne_m1 (by omega)))
  · exact B8_fault_11 hw (fun c => absurd rfl c) (fun _ => B8_fault_17 hw (B8_fault_23 hw (q2 _ e (Frm.w3 _ _ _ _ _ _ (by omega) (by omega)) (cw.draft f' p' q'))))
theorem loadN_ne {N : Nat → Int32} {acc : List (Nat × Nat)} (h12 : acc.length ≤ 12) {j : Nat} (h1 : j ≠ 3) (h2 : ¬ (188 ≤ j ∧ j < 212)) : loadN N acc j = N j := by
  unfold loadN
  rw [if_neg h1, if_neg (by omega)]
theorem SI_load {N : Nat → Int32} {acc : List (Nat × Nat)} (h12 : acc.length ≤ 12) (ok : StepsOk acc) : SI (loadN N acc) acc := by
  refine ⟨by unfold loadN; rw [if_pos rfl], h12, ok, fun i q hq => ?_⟩
  have il := (List.getElem?_eq_some_iff.mp hq).1
  have eq : acc.getD i (0, 0) = q := by rw [List.getD_eq_getElem?_getD, hq]; rfl
  constructor
  · show loadN N acc (188 + 2 * i) = _
    unfold loadN
    rw [if_neg (by omega), if_pos (by omega), if_pos (by omega), show (188 + 2 * i - 188) / 2 = i from by omega, eq]
  · show loadN N acc (188 + (2 * i + 1)) = _
    unfold loadN
    rw [if_neg (by omega), if_pos (by omega), if_neg (by omega), show (188 + (2 * i + 1) - 188) / 2 = i from by omega, eq]
theorem INV_load {N : Nat → Int32} {K c w d nx lo hi : Nat} {acc acc' : List (Nat × Nat)} (iv : INV N K c w d nx lo hi acc) (h12 : acc'.length ≤ 12) (ok : StepsOk acc') : INV (loadN N acc') K c w d nx lo hi acc' := by
  obtain ⟨a1, a2, a3, ⟨th, a4, a4'⟩, ⟨pa, a5, a5'⟩, ⟨a6, a6'⟩, ⟨a7, a7'⟩, a8, ⟨a9, a10, a11, a12⟩, a13, a14⟩ := iv
  have e : ∀ q, q ≠ 3 → ¬ (188 ≤ q ∧ q < 212) → loadN N acc' q = N q := fun q h1 h2 => loadN_ne h12 h1 h2
  have b2 := a2.2.1
  refine ⟨RI_congr (fun q hq => e q (by omega) (by omega)) a1, PI_congr (fun q hq => e q (by omega) (by omega)) a2, SI_load h12 ok, ⟨th, (e 4 (by omega) (by omega)).trans a4, a4'⟩, ⟨pa, (e 5 (by omega) (by omega)).trans a5, a5'⟩, ⟨(e 7 (by omega) (by omega)).trans a6, a6'⟩, ⟨(e 2 (by omega) (by omega)).trans a7, a7'⟩, fun i hi => ?_, ⟨(e 18 (by omega) (by omega)).trans a9, a10, (e 19 (by omega) (by omega)).trans a11, a12⟩, fun i hi => ?_, fun q hq => (e q (by omega) (by omega)).trans (a14 q hq)⟩
  · unfold palG
    rw [e _ (by omega) (by omega)]
    exact a8 i hi
  · rw [e _ (by omega) (by omega)]; exact a13 i hi
theorem ValS_load {h : AH} {x : Nat} {N : Nat → Int32} {c w d : Nat} {acc acc' : List (Nat × Nat)} {f p s : Nat → Int32} (l : LayS h x) (v : ValS h x N c w d acc) (pv : progV f p s acc') : ValS (w3 h (x + 48) f p s) x (loadN N acc') c w d acc' := by
  obtain ⟨⟨v1, v2, v3⟩, ⟨y1, y2, y3⟩, n1, ⟨k1, k2⟩, p1, s1, t1, t2⟩ := v
  have o : ∀ b, (b < x + 48 ∨ x + 51 ≤ b) → gi (w3 h (x + 48) f p s) b = gi h b := fun b hb => w3_ne _ _ _ _ _ (by omega)
  have e : ∀ q, q ≠ 3 → ¬ (188 ≤ q ∧ q < 212) → loadN N acc' q = N q := fun q h1 h2 => loadN_ne pv.2.1 h1 h2
  refine ⟨⟨by rw [o _ (by omega)]; exact v1, v2, fun i hi => ?_⟩, ⟨by rw [o _ (by omega)]; exact y1, y2, ?_⟩, ?_, ⟨by rw [o _ (by omega)]; exact k1, fun i hi => ?_⟩, ?_, ?_, ?_, ?_⟩
  · obtain ⟨jj, hjj, ej, _⟩ := l.roll (i := i) (by omega)
    show rollV (gi (w3 h (x + 48) f p s) (rA h x i)) (gi (w3 h (x + 48) f p s) (rA h x i + 1)) (gi (w3 h (x + 48) f p s) (rA h x i + 2)) (rollG (loadN N acc') i)
    rw [o _ (by omega), o _ (by omega), o _ (by omega)]
    obtain ⟨g4, wk, y3, y8, yw⟩ := v3 i hi
    have eg : ∀ q, q < 20 → rollG (loadN N acc') i q = rollG N i q := fun q hq => e _ (by omega) (by omega)
    exact ⟨fun q hq => by rw [eg q (by omega)]; exact g4 q hq, wk, by rw [eg 3 (by omega)]; exact y3, y8, weakR_congr yw (fun _ _ => ⟨rfl, rfl⟩) (fun q hq => ⟨eg _ (by omega), eg _ (by omega)⟩)⟩
  · refine palsR_congr y3 (fun i hi k _ => ?_) (fun i hi k hk => e _ (by omega) (by omega))
    obtain ⟨jj, hjj, ej, _⟩ := l.pal (i := i) (by omega)
    show gi (w3 h (x + 48) f p s) (pA h x i) k = gi h (pA h x i) k
    rw [o _ (by omega)]
  · rw [o _ (by omega), e 2 (by omega) (by omega)]; exact n1
  · obtain ⟨jj, hjj, ea, _⟩ := l.res (i := i) (by omega)
    have kb := keptB_b d i
    show keptV (gi (w3 h (x + 48) f p s) (kA h x i)) (gi (w3 h (x + 48) f p s) (kA h x i + 1)) (gi (w3 h (x + 48) f p s) (kA h x i + 2)) (loadN N acc') (keptB d i)
    rw [o _ (by omega), o _ (by omega), o _ (by omega)]
    exact keptV_N (k2 i hi) (fun q h1 h2 => e q (by omega) (by omega))
  · rw [w3_0, show x + 49 = x + 48 + 1 from rfl, show x + 50 = x + 48 + 2 from rfl, w3_1, w3_2]; exact pv
  · rw [o _ (by omega), gl_w3]; exact sumV_N s1 (fun q h1 h2 => e q (by omega) (by omega))
  · rw [o _ (by omega), e 4 (by omega) (by omega)]; exact t1
  · rw [o _ (by omega), e 5 (by omega) (by omega)]; exact t2
theorem t8_load {ω : Om} {h : AH} {Q : Option Value → AH → Prop} (hw : ω.2.2.2.1 = true) {B : Nat} {N : Nat → Int32} {H : List (Nat → Int32)} {T : Nat → Int32} {len K : Nat} (cw : CW h B N H T len K) (q1 : ∀ h' : AH, (parsT T len).1 ≠ none → Frm B (B + 324) h h' → CW h' B N H T len K → Q (some (.int (-2))) h') (q2 : ∀ h' : AH, (parsT T len).1 = none → (parsT T len).2.length ≤ 12 → StepsOk (parsT T len).2 → Frm B (B + 324) h h' → CW h' B (loadN N (parsT T len).2) (pushH H N) T len K → Q (some (.int (nI (parsT T len).2.length))) h') : Ex ω M8_load 0 [some (.ref B)] [] h 0 0 Q := by
  have lw := cw.1
  refine B8_load_0 hw lw.1.1 ?_
  rw [lw.2.1.2.2.2.1, lw.2.1.2.2.2.2.1, ← w3_self h (B + 316)]
  refine t7_readInto hw lw cw.tx (fun x f' p' q' e hx => ?_) (fun f' p' q' e pv ok => ?_)
  · exact B8_load_11 hw (fun c => absurd c (ne_m1 (by omega))) (fun _ => B8_load_15 hw (q1 _ (by rw [e]; exact fun z => by cases z) (Frm.w3 _ _ _ _ _ _ (by omega) (by omega)) (cw.draft f' p' q')))
  · refine B8_load_11 hw (fun _ => ?_) (fun c => absurd rfl c)
    have cw0 := cw.draft f' p' q'
    have f0 : Frm B (B + 324) h (w3 h (B + 316) f' p' q') := Frm.w3 _ _ _ _ _ _ (by omega) (by omega)
    have g0 : gi (w3 h (B + 316) f' p' q') (B + 316) = f' := w3_0 _ _ _ _ _
    have g1 : gi (w3 h (B + 316) f' p' q') (B + 317) = p' := w3_1 _ _ _ _ _
    have g2 : gi (w3 h (B + 316) f' p' q') (B + 318) = q' := w3_2 _ _ _ _ _
    generalize w3 h (B + 316) f' p' q' = h0 at *
    have lw0 := cw0.1
    refine B8_load_18 hw lw0.1.1 (t8_record hw lw0 cw0.2.1 cw0.2.2.1 (fun h1 f1 e1 l1 hh1 => ?_))
    refine B8_load_22 hw l1.1.1 ?_
    rw [l1.2.1.1, l1.2.1.2.2.2.2.1, l1.2.2.2.2.1.2.1.2.2.2.1]
    have ls1 := l1.2.2.2.2.1
    have gd : ∀ b, B + 314 ≤ b → gi h1 b = gi h0 b := fun b hb => (f1.2 b (by omega)).1
    obtain ⟨c, w, d, nx, lo, hi, acc, vs, iv⟩ := cw0.2.1
    have vs1 := ValS_at lw0.2.2.2.2.1 vs (fun b hb1 hb2 => f1.2 b (by omega))
    rw [show B + 1 + 48 = B + 49 from by omega, ← w3_self h1 (B + 49)]
    refine t2_copyFrom hw (a := B + 49) (b := B + 316) ls1.prog l1.2.2.2.1 (by omega) (n := (parsT T len).2.length) (by rw [gd _ (by omega), g0]; exact pv.1) pv.2.1 (fun f2 p2 s2 e2 e3 => ?_)
    have pv2 : progV f2 p2 s2 (parsT T len).2 := by
      refine ⟨e2, pv.2.1, fun i q hq => ?_⟩
      obtain ⟨z1, z2⟩ := e3 i (List.getElem?_eq_some_iff.mp hq).1
      rw [z1, z2, gd _ (by omega), gd _ (by omega), g1, g2]
      exact pv.2.2 i q hq
    have fr : Frm (B + 1) (B + 53) h1 (w3 h1 (B + 49) f2 p2 s2) := Frm.w3 _ _ _ _ _ _ (by omega) (by omega)
    have vs2 : ValS (w3 h1 (B + 1 + 48) f2 p2 s2) (B + 1) (loadN N (parsT T len).2) c w d (parsT T len).2 := ValS_load ls1 vs1 pv2
    rw [show B + 1 + 48 = B + 49 from by omega] at vs2
    have lx : LayS (w3 h1 (B + 49) f2 p2 s2) (B + 1) := LayS_gr ls1 rfl (fun _ _ _ => rfl)
    have cw1 : CW h1 B N (pushH H N) T len K := ⟨l1, ⟨c, w, d, nx, lo, hi, acc, vs1, iv⟩, hh1, cw0.2.2.2.at (gd _ (by omega)) (gd _ (by omega))⟩
    have cw2 := cw1.pres fr lx ⟨c, w, d, nx, lo, hi, (parsT T len).2, vs2, INV_load iv pv.2.1 ok⟩
    have f01 : Frm B (B + 324) h0 h1 := ⟨f1.1, fun b hb => f1.2 b (by omega)⟩
    refine B8_load_36 hw (by exact l1.1.1) ?_
    rw [gr_w3, l1.2.1.1, ls1.2.1.2.2.2.1, show B + 1 + 48 = B + 49 from by omega, w3_0, e2]
    exact q2 _ e pv.2.1 ok (f0.trans (f01.trans (fr.mono (by omega) (by omega)))) cw2

