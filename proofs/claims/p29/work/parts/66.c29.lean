/-! the class: write -/
theorem putL_app (a b : List Int32) (p : (Nat → Int32) × Nat) : putL (a ++ b) p = putL b (putL a p) := by
  induction a generalizing p with
  | nil => rfl
  | cons c l ih => exact ih (putC p c)
theorem chS_nar : ∀ k, k < 5 → ∀ j, j < lenS.getD k 0 → vp_nar .char (chS k j) = nI (nn (chS k j)) ∧ nI (nn (chS k j)) = chS k j := by
  intro k hk j hj
  have h8 := (chS_ok k hk j hj).2.1
  have e : nI (nn (chS k j)) = chS k j := by
    revert j
    have : ∀ k, k < 5 → ∀ j, j < lenS.getD k 0 → nI (nn (chS k j)) = chS k j := by decide
    exact fun j hj _ => this k hk j hj
  refine ⟨?_, e⟩
  rw [e]
  have := h8
  unfold vp_nar
  rw [this]
/-- the text after some signs -/
def TXt (h h' : AH) (B : Nat) (p : (Nat → Int32) × Nat) : Prop := Frm (B + 314) (B + 316) h h' ∧ gr h' = gr h ∧ TxtW h' B p.1 p.2
theorem t7_put {ω : Om} {h h0 : AH} {Q : Option Value → AH → Prop} (hw : ω.2.2.2.1 = true) {B n : Nat} {p : (Nat → Int32) × Nat} {x : Int32} (lw : LayW h0 B) (t : TXt h0 h B p) (hx : vp_nar .char x = nI n) (hq : ∀ h' : AH, TXt h0 h' B (putC p (nI n)) → Q none h') : Ex ω M7_append 0 [some (.ref (B + 314)), some (.int x)] [] h 0 0 Q := by
  obtain ⟨f, r, t⟩ := t
  exact t7_append hw (LayW_gr lw f.1 r) t hx (fun h' f2 r2 t2 => hq h' ⟨f.trans f2, r2.trans r, t2⟩)
theorem t7_appendName {ω : Om} {h h0 : AH} {Q : Option Value → AH → Prop} (hw : ω.2.2.2.1 = true) {B k : Nat} {p : (Nat → Int32) × Nat} (lw : LayW h0 B) (t : TXt h0 h B p) (hk : k < 5) (hq : ∀ h' : AH, TXt h0 h' B (putL (nameC k 0 (lenS.getD k 0)) p) → Q none h') : Ex ω M7_appendName 0 [some (.ref (B + 314)), some (.int (nI k)), none, none] [] h 0 0 Q := by
  have h7 := lenS_le k
  refine B7_appendName_0 hw (t8_nameOf hw hk (B7_appendName_4 hw ?_))
  generalize hfin : putL (nameC k 0 (lenS.getD k 0)) p = fin at *
  have lp : ∀ (d j : Nat) (h : AH) (p : (Nat → Int32) × Nat), j + d = lenS.getD k 0 → TXt h0 h B p → putL (nameC k j d) p = fin → Ex ω M7_appendName 7 [some (.ref (B + 314)), none, some (.ref (ω.2.2.2.2.1 k)), some (.int (nI j))] [] h 0 0 Q := by
    intro d
    induction d with
    | zero =>
      intro j h p hj t e
      refine B7_appendName_7 hw (recvS hk rfl) (tJ_length hk (B7_appendName_12 hw (fun _ => B7_appendName_30 hw ?_) (fun c3 => absurd (nI_le (by omega) (by omega)) c3)))
      have e : p = fin := e
      rw [e] at t
      exact hq h t
    | succ d ih =>
      intro j h p hj t e
      refine B7_appendName_7 hw (recvS hk rfl) (tJ_length hk (B7_appendName_12 hw (fun c3 => absurd c3 (nI_ge (by omega) (by omega))) (fun _ => ?_)))
      obtain ⟨n1, n2⟩ := chS_nar k hk j (by omega)
      refine B7_appendName_15 hw (recvS hk rfl) (tJ_charAt hk (by omega) (B7_appendName_21 hw (by rw [t.1.1]; exact lw.1.2.2.1) (t7_put hw lw t n1 (fun h' t' => B7_appendName_24 hw ?_))))
      rw [nI_add]
      refine ih (j + 1) h' _ (by omega) t' ?_
      rw [n2]
      exact e
  exact lp _ 0 h p (by omega) t hfin
theorem t7_appendAmount {ω : Om} {h h0 : AH} {Q : Option Value → AH → Prop} (hw : ω.2.2.2.1 = true) {B a : Nat} {p : (Nat → Int32) × Nat} (lw : LayW h0 B) (t : TXt h0 h B p) (ha : a ≤ 300) (hq : ∀ h' : AH, TXt h0 h' B (putL (digC a) p) → Q none h') : Ex ω M7_appendAmount 0 [some (.ref (B + 314)), some (.int (nI a))] [] h 0 0 Q := by
  have cx : ∀ n : Nat, n < 65536 → vp_nar .char (UInt32.toInt32 (Int32.toUInt32 (nI n) % 65536)) = nI n := fun n hn => by
    rw [pk_vc, pk_char, pk_tn (by omega), Nat.mod_eq_of_lt (by omega)]
  unfold digC at hq
  rw [putL_app, putL_app] at hq
  have sx : ∀ h : AH, ∀ p, TXt h0 h B p → gs h (B + 314) = some (7, 2) := fun h p t => by rw [t.1.1]; exact lw.1.2.2.1
  have s3 : ∀ (h : AH) (p : (Nat → Int32) × Nat), TXt h0 h B p → (∀ h' : AH, TXt h0 h' B (putL [nI (48 + a % 10)] p) → Q none h') → Ex ω M7_appendAmount 42 [some (.ref (B + 314)), some (.int (nI a))] [] h 0 0 Q := by
    intro h p t hq
    refine B7_appendAmount_42 hw (sx h p t) ?_
    rw [pk_rem (by omega) (by omega) (by omega), nI_add]
    exact t7_put hw lw t (cx _ (by omega)) (fun h' t' => B7_appendAmount_54 hw (hq h' t'))
  have s2 : ∀ (h : AH) (p : (Nat → Int32) × Nat), TXt h0 h B p → (∀ h' : AH, TXt h0 h' B (putL [nI (48 + a % 10)] (putL (if 9 < a then [nI (48 + a / 10 % 10)] else []) p)) → Q none h') → Ex ω M7_appendAmount 21 [some (.ref (B + 314)), some (.int (nI a))] [] h 0 0 Q := by
    intro h p t hq
    refine B7_appendAmount_21 hw (fun c => ?_) (fun c => ?_)
    · rw [nI_ltI (by omega) (by omega)] at c
      rw [if_neg (by omega)] at hq
      exact s3 h p t hq
    · rw [nI_ltI (by omega) (by omega)] at c
      rw [if_pos (by omega)] at hq
      refine B7_appendAmount_27 hw (sx h p t) ?_
      rw [pk_div (by omega) (by omega) (by omega), pk_rem (by omega) (by omega) (by omega), nI_add]
      exact t7_put hw lw t (cx _ (by omega)) (fun h' t' => s3 h' _ t' hq)
  refine B7_appendAmount_0 hw (fun c => ?_) (fun c => ?_)
  · rw [nI_ltI (by omega) (by omega)] at c
    rw [if_neg (show ¬ 99 < a from by omega)] at hq
    exact s2 h p t hq
  · rw [nI_ltI (by omega) (by omega)] at c
    rw [if_pos (show 99 < a from by omega)] at hq
    refine B7_appendAmount_6 hw (sx h p t) ?_
    rw [pk_div (by omega) (by omega) (by omega), pk_rem (by omega) (by omega) (by omega), nI_add]
    exact t7_put hw lw t (cx _ (by omega)) (fun h' t' => s2 h' _ t' hq)
theorem t8_write {ω : Om} {h : AH} {Q : Option Value → AH → Prop} (hw : ω.2.2.2.1 = true) {B : Nat} {N : Nat → Int32} {H : List (Nat → Int32)} {T : Nat → Int32} {len K : Nat} (cw : CW h B N H T len K) (hq : ∀ acc : List (Nat × Nat), SI N acc → ∀ h' : AH, Frm B (B + 324) h h' → CW h' B N H (putL (progC true acc) (T, 0)).1 (putL (progC true acc) (T, 0)).2 K → Q (some (.int (nI (putL (progC true acc) (T, 0)).2))) h') : Ex ω M8_write 0 [some (.ref B)] [] h 0 0 Q := by
  obtain ⟨c, w, d, nx, lo, hi, acc, vs, iv⟩ := cw.2.1
  have lw := cw.1
  have ls := lw.2.2.2.2.1
  have si := iv.2.2.1
  have hq := hq acc si
  obtain ⟨p1, p2, p3⟩ := vs.2.2.2.2.1
  refine B8_write_0 hw lw.1.1 ?_
  rw [lw.2.1.2.2.2.1, lw.2.1.1, ls.2.1.2.2.2.1]
  refine B7_showProgram_0 hw lw.1.2.2.1 ?_
  simp (disch := omega) only [si_wi, sr_wr, sl_wl, gi_wi, gi_wi_ne, gr_wi, gs_wi, gl_wi, gi_wr, gr_wr, gr_wr_ne, gs_wr, gl_wr, gi_wl, gr_wl, gs_wl, gl_wl, gl_wl_ne, wi_wi, wr_wr, updN_eq, updN_ne, pk_mul, nI_add, nI_clamp, upd_eq, upd_ne]
  generalize hfin : putL (progC true acc) (T, 0) = fin at *
  have lp : ∀ (n i : Nat) (h1 : AH) (p : (Nat → Int32) × Nat), i + n = acc.length → TXt h h1 B p → putL (progC (decide (i = 0)) (acc.drop i)) p = fin → Ex ω M7_showProgram 7 [some (.ref (B + 314)), some (.ref (B + 1 + 48)), some (.int (nI i))] [] h1 0 0 (fun v h' => Ex ω M8_write 14 [some (.ref B)] (v.toList ++ []) h' 0 0 Q) := by
    intro n
    induction n with
    | zero =>
      intro i h1 p hi t e
      have g : ∀ b, (b < B + 314 ∨ B + 316 ≤ b) → gi h1 b = gi h b := fun b hb => (t.1.2 b hb).1
      refine B7_showProgram_7 hw (by rw [t.1.1]; exact ls.prog.1) (fun _ => B7_showProgram_63 hw ?_) (fun c => ?_)
      · rw [List.drop_of_length_le (by omega)] at e
        have e : p = fin := by
          rw [← e]
          cases decide (i = 0) <;> rfl
        refine B8_write_14 hw (by rw [t.1.1]; exact lw.1.1) ?_
        rw [t.2.1, lw.2.1.2.2.2.1, t.2.2.1]
        rw [e] at t ⊢
        exact hq h1 (t.1.mono (by omega) (by omega)) (cw.txt t.1 t.2.1 t.2.2)
      · rw [g _ (by omega), p1] at c
        exact absurd (nI_le (by omega) (by omega)) c
    | succ n ih =>
      intro i h1 p hi t e
      have hil : i < acc.length := by omega
      have g : ∀ b, (b < B + 314 ∨ B + 316 ≤ b) → gi h1 b = gi h b := fun b hb => (t.1.2 b hb).1
      obtain ⟨r1, r2⟩ := p3 i acc[i] (List.getElem?_eq_getElem hil)
      obtain ⟨a1, a2, a3, a4, a5⟩ := SI_get si hil
      have tail : ∀ (h1 : AH) (p : (Nat → Int32) × Nat), TXt h h1 B p → putL (stepC acc[i] ++ progC false (acc.drop (i + 1))) p = fin → Ex ω M7_showProgram 31 [some (.ref (B + 314)), some (.ref (B + 1 + 48)), some (.int (nI i))] [] h1 0 0 (fun v h' => Ex ω M8_write 14 [some (.ref B)] (v.toList ++ []) h' 0 0 Q) := by
        intro h1 p t e
        have g : ∀ h1 : AH, ∀ p, TXt h h1 B p → ∀ b, (b < B + 314 ∨ B + 316 ≤ b) → gi h1 b = gi h b := fun h1 p t b hb => (t.1.2 b hb).1
        have sx : ∀ h1 : AH, ∀ p, TXt h h1 B p → gs h1 (B + 314) = some (7, 2) ∧ gs h1 (B + 1 + 48) = some (2, 3) := fun h1 p t => ⟨by rw [t.1.1]; exact lw.1.2.2.1, by rw [t.1.1]; exact ls.prog.1⟩
        unfold stepC at e
        rw [putL_app, putL_app] at e
        refine B7_showProgram_31 hw (sx h1 p t).2 (sx h1 p t).1 (vp_in_nI (by omega) (by omega)) ?_
        rw [t.2.1, ls.prog.2.2.2.1, g h1 p t _ (by omega), nI_clamp (by omega), r1]
        refine t7_appendName hw lw t a3 (fun h2 t2 => ?_)
        refine B7_showProgram_41 hw (sx h2 _ t2).1 (t7_put hw lw t2 (n := 32) (by decide) (fun h3 t3 => ?_))
        refine B7_showProgram_47 hw (sx h3 _ t3).2 (sx h3 _ t3).1 (vp_in_nI (by omega) (by omega)) ?_
        rw [t3.2.1, ls.prog.2.2.2.2, g h3 _ t3 _ (by omega), nI_clamp (by omega), r2]
        refine t7_appendAmount hw lw t3 (amt300 a3 a5) (fun h4 t4 => B7_showProgram_57 hw ?_)
        rw [nI_add]
        refine ih (i + 1) h4 _ (by omega) t4 ?_
        rw [decide_eq_false (by omega)]
        exact e
      refine B7_showProgram_7 hw (by rw [t.1.1]; exact ls.prog.1) (fun c => ?_) (fun _ => ?_)
      · rw [g _ (by omega), p1] at c
        exact absurd c (nI_ge (by omega) (by omega))
      rw [List.drop_eq_getElem_cons hil] at e
      by_cases z : i = 0
      · rw [decide_eq_true z] at e
        exact B7_showProgram_15 hw (fun _ => tail h1 p t e) (fun c => absurd (by rw [z]; decide) c)
      · rw [decide_eq_false z] at e
        refine B7_showProgram_15 hw (fun c => ?_) (fun _ => ?_)
        · rw [show (0 : Int32) = nI 0 from rfl, nI_leI (by omega) (by omega)] at c; omega
        refine B7_showProgram_19 hw (by rw [t.1.1]; exact lw.1.2.2.1) (t7_put hw lw t (n := 44) (by decide) (fun h2 t2 => ?_))
        refine B7_showProgram_25 hw (by rw [t2.1.1]; exact lw.1.2.2.1) (t7_put hw lw t2 (n := 32) (by decide) (fun h3 t3 => ?_))
        exact tail h3 _ t3 e
  exact lp acc.length 0 _ (T, 0) (by omega) ⟨Frm.wi _ _ _ _ (by omega) (by omega), rfl, by rw [gi_wi, upd_eq], by show (0 : Nat) ≤ 100; omega, fun i hi => absurd hi (Nat.not_lt_zero i)⟩ hfin

