/-! the law's isWritten -/
theorem t_isWritten {ω : Om} {Q : Option Value → AH → Prop} {h : AH} {B K t n : Nat} {x2 : Int32} {N : Nat → Int32} {H : List (Nat → Int32)} {T : Nat → Int32} {len : Nat} (hw : ω.2.2.2.1 = true) (ht : t < B) (st : gs h t = some (10, 24)) (cw : CW h B N H T len K) (hn : N 3 = nI n) (n1 : 1 ≤ n) (n5 : n ≤ 5) (hq : ∀ (T' : Nat → Int32) (len' : Nat) (h' : AH), gs h' = gs h → CW h' B N (pushH H N) T' len' K → Q (some (.int (nI 1))) h') : Ex ω ML_isWritten 0 [some (.ref B), some (.ref t), some (.int x2), none, none, none, none] [] h 0 0 Q := by
  refine BL_isWritten_0 hw cw.o8 (w_count hw cw (countR_3.trans hn) ?_)
  refine BL_isWritten_5 hw ?_
  -- behind the first loop
  have second : ∀ g : AH, gs g = gs h → CW g B N H T len K → (∀ j, j < 2 * n → gi g t j = N (188 + j)) → Ex ω ML_isWritten 49 [some (.ref B), some (.ref t), some (.int x2), some (.int (nI n)), some (.int (nI n)), none, none] [] g 0 0 Q := by
    intro g gsg c0 row
    refine BL_isWritten_49 hw c0.o8 ?_
    refine t8_write hw c0 (fun acc si g1 f1 c1 => ?_)
    have s12 := si.2.1
    have an : acc.length = n := (nI_eq (by omega) (by omega)).mp (si.1.symm.trans hn)
    have anil : acc ≠ [] := fun e => by rw [e] at an; simp at an; omega
    obtain ⟨y1, y2, y3, y4, y5⟩ := text_ok (T := T) (acc := acc) anil (by omega) si.2.2.1
    generalize (putL (progC true acc) (T, 0)).1 = T1 at *
    rw [y1] at c1 y5 ⊢
    generalize hL : (progC true acc).length = L1 at *
    have row1 : ∀ j, j < 2 * n → gi g1 t j = N (188 + j) := fun j hj => by rw [(f1.2 t (Or.inl ht)).1]; exact row j hj
    have st1 : gs g1 t = some (10, 24) := by rw [f1.1, gsg]; exact st
    refine BL_isWritten_53 hw c1.o8 (w_count hw c1 countR_7 ?_)
    refine BL_isWritten_61 hw (fun z => absurd rfl z) (fun _ => ?_)
    refine BL_isWritten_66 hw c1.o8 ?_
    refine t8_textAt hw c1 (fun z => absurd z (nI_pos (by omega))) (fun _ _ => ?_) (fun j hj e => absurd ((nI_eq (by omega) (by omega)).mp e) (by omega))
    refine BL_isWritten_72 hw (fun z => absurd rfl z) (fun _ => ?_)
    refine BL_isWritten_77 hw (fun z => absurd ((nI_ltI (by omega) (by omega)).mp z) (by omega)) (fun _ => ?_)
    refine BL_isWritten_84 hw c1.o8 ?_
    refine t8_step hw c1 (fun z => absurd ⟨nI_pos (by omega), (by decide : (0 : Int32) ≤ nI 0), (by decide : nI 0 ≤ nI 1)⟩ z) (fun _ _ _ _ _ => ?_) (fun sn i2 j2 e _ e1 _ b1 _ => by
      have q1 : sn = n := (nI_eq (by omega) (by omega)).mp (e.symm.trans hn)
      have q2 : n = i2 := (nI_eq (by omega) (by omega)).mp e1
      omega)
    refine BL_isWritten_90 hw (fun z => absurd rfl z) (fun _ => ?_)
    refine BL_isWritten_95 hw (BL_isWritten_100 hw (fun z => absurd ((nI_leI (by omega) (by omega)).mp z) (by omega)) (fun _ => ?_))
    refine BL_isWritten_109 hw (fun z => absurd z (by decide)) (fun _ => ?_)
    refine BL_isWritten_114 hw c1.o8 ?_
    refine t8_fault hw c1 (fun x g2 e _ _ _ => by rw [y5] at e; cases e) (fun g2 _ f2 c2 => ?_)
    refine BL_isWritten_118 hw (fun z => absurd rfl z) (fun _ => ?_)
    refine BL_isWritten_123 hw c2.o8 ?_
    refine t8_load hw c2 (fun g3 ne _ _ => absurd (by rw [y5]) ne) (fun g3 _ _ _ f3 c3 => ?_)
    rw [y5] at c3 ⊢
    rw [loadN_same si] at c3
    have row3 : ∀ j, j < 2 * n → gi g3 t j = N (188 + j) := fun j hj => by rw [(f3.2 t (Or.inl ht)).1, (f2.2 t (Or.inl ht)).1]; exact row1 j hj
    have st3 : gs g3 t = some (10, 24) := by rw [f3.1, f2.1]; exact st1
    have gs3 : gs g3 = gs h := by rw [f3.1, f2.1, f1.1, gsg]
    refine BL_isWritten_127 hw (fun z => absurd (by show nI acc.length = nI n; rw [an]) z) (fun _ => ?_)
    refine BL_isWritten_131 hw (BL_isWritten_136 hw ?_)
    -- behind the second loop
    have third : Ex ω ML_isWritten 199 [some (.ref B), some (.ref t), some (.int x2), some (.int (nI n)), some (.int (nI L1)), some (.int (nI 1)), some (.int (nI n))] [] g3 0 0 Q := by
      have fin : ∀ sg : Nat, 32 ≤ sg → sg ≤ 126 → ¬ isDg (nI sg) → (∀ x : Nat, Ex ω ML_isWritten 269 [some (.ref B), none, none, some (.int (nI n)), some (.int (nI L1)), none, some (.int (nI x))] [.int (nI sg), .ref B] g3 0 0 Q → Ex ω ML_isWritten 255 [some (.ref B), none, some (.int x2), some (.int (nI n)), some (.int (nI L1)), some (.int (nI 1)), some (.int (nI x))] [] g3 0 0 Q) → Ex ω ML_isWritten 199 [some (.ref B), some (.ref t), some (.int x2), some (.int (nI n)), some (.int (nI L1)), some (.int (nI 1)), some (.int (nI n))] [] g3 0 0 Q := by
        intro sg s1 s2 sd k
        have T2o : ∀ j, j < L1 → upd T1 L1 (nI sg) j = T1 j := fun j hj => upd_ne _ _ (by omega)
        have t2 : Tx (upd T1 L1 (nI sg)) 0 (progC true acc) := fun i ch hi => by
          have il := (List.getElem?_eq_some_iff.mp hi).1
          rw [hL] at il
          rw [Nat.zero_add, T2o i il]
          have := y4 i ch hi
          rw [Nat.zero_add] at this
          exact this
        obtain ⟨x, p1, _, p3, p4, p5⟩ := parsP_bad (T := upd T1 L1 (nI sg)) (len := L1 + 1) acc 12 0 [] anil (by omega) si.2.2.1 t2 (by rw [hL, Nat.zero_add]) (by rw [Nat.add_sub_cancel, upd_eq]; exact sd)
        rw [Nat.add_sub_cancel] at p3 p4
        have px : (parsT (upd T1 L1 (nI sg)) (L1 + 1)).1 = some x := by unfold parsT; rw [if_neg (by omega)]; exact p1
        refine BL_isWritten_199 hw (fun _ => ?_) (fun z => absurd z (nI_ne0 (by omega) (by omega)))
        refine BL_isWritten_207 hw (BL_isWritten_209 hw ?_)
        refine wr_scan (x := x) hw c3 (by omega) (by omega) (fun j j1 j2 => by rw [← T2o j j2]; exact p4 j j1 j2) ?_ ?_ (L1 - (x - 1)) L1 (by omega) (Nat.le_refl _)
        · rcases p5 with p5 | ⟨p5, p6, p7⟩
          · exact Or.inl p5
          · rw [T2o _ (by omega)] at p6 p7
            exact Or.inr ⟨p5, p6, p7⟩
        · refine k x (wr_end hw c3 (by omega) s1 s2 hn (by omega) rfl px (fun g4 f4 c4 => hq _ _ g4 (by rw [f4.1]; exact gs3) c4))
      by_cases hs : (x2 - x2 / (nI 2) * (nI 2)) = 0
      · exact fin 44 (by omega) (by omega) n44 (fun x k => BL_isWritten_255 hw (fun z => absurd hs z) (fun _ => BL_isWritten_262 hw k))
      · exact fin 35 (by omega) (by omega) n35 (fun x k => BL_isWritten_255 hw (fun _ => BL_isWritten_267 hw k) (fun z => absurd z hs))
    have loopB : ∀ (d i : Nat), i + d = n → Ex ω ML_isWritten 141 [some (.ref B), some (.ref t), some (.int x2), some (.int (nI n)), some (.int (nI L1)), some (.int (nI 1)), some (.int (nI i))] [] g3 0 0 Q := by
      intro d
      induction d with
      | zero =>
        intro i hi
        have hi' : i = n := by omega
        rw [hi']
        exact BL_isWritten_141 hw (fun _ => third) (fun z => absurd (nI_le (Nat.le_refl _) (by omega)) z)
      | succ d ih =>
        intro i hi
        refine BL_isWritten_141 hw (fun z => absurd z (nI_ge (by omega) (by omega))) (fun _ => ?_)
        refine BL_isWritten_147 hw (fun z => absurd z (by decide)) (fun _ => ?_)
        refine BL_isWritten_152 hw c3.o8 (w_step (j := 0) hw c3 hn (by omega) (by omega) (by omega) ?_)
        have m1 : nI 2 * nI i = nI (2 * i) := pk_mul 2 i
        refine BL_isWritten_159 hw st3 (by rw [m1]; exact vp_in_nI (by omega) (by omega)) (fun z => ?_) (fun _ => ?_)
        · rw [m1, nI_clamp (by omega), row3 _ (by omega)] at z
          exact absurd rfl z
        · refine BL_isWritten_168 hw c3.o8 (w_step (j := 1) hw c3 hn (by omega) (by omega) (by omega) ?_)
          have m2 : nI 2 * nI i + nI 1 = nI (2 * i + 1) := by rw [m1, nI_add]
          refine BL_isWritten_175 hw st3 (by rw [m2]; exact vp_in_nI (by omega) (by omega)) (fun z => ?_) (fun _ => ?_)
          · rw [m2, nI_clamp (by omega), row3 _ (by omega)] at z
            exact absurd rfl z
          · refine BL_isWritten_186 hw (BL_isWritten_191 hw ?_)
            rw [nI_add]
            exact ih (i + 1) (by omega)
    exact loopB n 0 (Nat.zero_add n)
  have loopA : ∀ (d i : Nat) (g : AH), i + d = n → gs g = gs h → CW g B N H T len K → (∀ j, j < 2 * i → gi g t j = N (188 + j)) → Ex ω ML_isWritten 9 [some (.ref B), some (.ref t), some (.int x2), some (.int (nI n)), some (.int (nI i)), none, none] [] g 0 0 Q := by
    intro d
    induction d with
    | zero =>
      intro i g hi gsg c row
      have hi' : i = n := by omega
      rw [hi'] at row ⊢
      exact BL_isWritten_9 hw (fun _ => second g gsg c row) (fun z => absurd (nI_le (Nat.le_refl _) (by omega)) z)
    | succ d ih =>
      intro i g hi gsg c row
      refine BL_isWritten_9 hw (fun z => absurd z (nI_ge (by omega) (by omega))) (fun _ => ?_)
      refine BL_isWritten_15 hw c.o8 (w_step (j := 0) hw c hn (by omega) (by omega) (by omega) ?_)
      have m1 : nI 2 * nI i = nI (2 * i) := pk_mul 2 i
      have m2 : nI 2 * nI i + nI 1 = nI (2 * i + 1) := by rw [m1, nI_add]
      have sg : gs g t = some (10, 24) := by rw [gsg]; exact st
      rw [m1]
      refine BL_isWritten_27 hw sg c.o8 (vp_in_nI (by omega) (by omega)) ?_
      rw [nI_clamp (by omega), m2]
      have c1 : CW (si g t (2 * i) (N (188 + 2 * i + 0))) B N H T len K := c.si ht
      refine w_step (j := 1) hw c1 hn (by omega) (by omega) (by omega) ?_
      refine BL_isWritten_42 hw sg (vp_in_nI (by omega) (by omega)) ?_
      rw [nI_clamp (by omega), nI_add]
      refine ih (i + 1) _ (by omega) gsg (c1.si ht) (fun j hj => ?_)
      rw [gi_si_at, gi_si_at]
      by_cases z1 : j = 2 * i + 1
      · rw [if_pos z1, z1]; exact congrArg N (by omega)
      · rw [if_neg z1]
        by_cases z0 : j = 2 * i
        · rw [if_pos z0, z0]; exact congrArg N (by omega)
        · rw [if_neg z0]
          exact row j (by omega)
  exact loopA n 0 h (Nat.zero_add n) rfl cw (fun j hj => by omega)
