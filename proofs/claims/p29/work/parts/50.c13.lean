/-! the class: counts, text, steps, sums -/
theorem LayW_gr {h h' : AH} {B : Nat} (l : LayW h B) (e : gs h' = gs h) (r : gr h' = gr h) : LayW h' B := by
  obtain ⟨s, q, t, p, a, b, c, d⟩ := l
  refine ⟨by rw [e]; exact s, by rw [r]; exact q, by rw [r]; exact t, O3_frm p e (by rw [r]), LayS_gr a e (fun b _ _ => by rw [r]), LayS_gr b e (fun b _ _ => by rw [r]), fun j hj => LayS_gr (c j hj) e (fun b _ _ => by rw [r]), by rw [r]; exact d⟩
theorem CW.txt {h h' : AH} {B : Nat} {N : Nat → Int32} {H : List (Nat → Int32)} {T T' : Nat → Int32} {len len' K : Nat} (c : CW h B N H T len K) (f : Frm (B + 314) (B + 316) h h') (r : gr h' = gr h) (t : TxtW h' B T' len') : CW h' B N H T' len' K := by
  obtain ⟨a, b, d, _⟩ := c
  exact ⟨LayW_gr a f.1 r, b.frm a.2.2.2.2.1 f (by omega), d.frm a f (by omega), t⟩
theorem t8_count {ω : Om} {h : AH} {Q : Option Value → AH → Prop} (hw : ω.2.2.2.1 = true) {B : Nat} {N : Nat → Int32} {H : List (Nat → Int32)} {T : Nat → Int32} {len K : Nat} {x : Int32} (cw : CW h B N H T len K) (hq : Q (some (.int (countR N H.length len x))) h) : Ex ω M8_count 0 [some (.ref B), some (.int x)] [] h 0 0 Q := by
  obtain ⟨c, w, d, nx, lo, hi, acc, vs, iv⟩ := cw.2.1
  have lw := cw.1
  have ls := lw.2.2.2.2.1
  have e0 : ∀ a b : Nat, a < 2 ^ 31 → b < 2 ^ 31 → a ≠ b → ¬ nI a = nI b := fun a b ha hb ne q => ne ((nI_eq ha hb).mp q)
  unfold countR at hq
  refine B8_count_0 hw (fun c0 => ?_) (fun c0 => ?_) (fun c0 => ?_) (fun c0 => ?_) (fun c0 => ?_) (fun c0 => ?_) (fun c0 => ?_) (fun c0 => ?_) (fun c0 => ?_) (fun c0 => ?_)
  · subst c0
    rw [if_pos rfl] at hq
    refine B8_count_52 hw lw.1.1 ?_
    rw [lw.2.1.1, vs.1.1, ← iv.1.1]; exact hq
  · subst c0
    rw [if_neg (e0 _ _ (by omega) (by omega) (by omega)), if_pos rfl] at hq
    refine B8_count_60 hw lw.1.1 ?_
    rw [lw.2.1.1, vs.2.1.1, ← iv.2.1.1]; exact hq
  · subst c0
    rw [if_neg (e0 _ _ (by omega) (by omega) (by omega)), if_neg (e0 _ _ (by omega) (by omega) (by omega)), if_pos rfl] at hq
    refine B8_count_68 hw lw.1.1 ?_
    rw [lw.2.1.1, ls.2.1.2.2.2.2.1, vs.2.2.2.2.2.1.1]; exact hq
  · subst c0
    rw [if_neg (e0 _ _ (by omega) (by omega) (by omega)), if_neg (e0 _ _ (by omega) (by omega) (by omega)), if_neg (e0 _ _ (by omega) (by omega) (by omega)), if_pos rfl] at hq
    refine B8_count_79 hw lw.1.1 ?_
    rw [lw.2.1.1, ls.2.1.2.2.2.1, vs.2.2.2.2.1.1, ← iv.2.2.1.1]; exact hq
  · subst c0
    rw [if_neg (e0 _ _ (by omega) (by omega) (by omega)), if_neg (e0 _ _ (by omega) (by omega) (by omega)), if_neg (e0 _ _ (by omega) (by omega) (by omega)), if_neg (e0 _ _ (by omega) (by omega) (by omega)), if_pos rfl] at hq
    refine B8_count_90 hw lw.1.1 ?_
    rw [lw.2.1.1, vs.2.2.2.2.2.2.1]; exact hq
  · subst c0
    rw [if_neg (e0 _ _ (by omega) (by omega) (by omega)), if_neg (e0 _ _ (by omega) (by omega) (by omega)), if_neg (e0 _ _ (by omega) (by omega) (by omega)), if_neg (e0 _ _ (by omega) (by omega) (by omega)), if_neg (e0 _ _ (by omega) (by omega) (by omega)), if_pos rfl] at hq
    refine B8_count_98 hw lw.1.1 ?_
    rw [lw.2.1.1, vs.2.2.2.2.2.2.2]; exact hq
  · subst c0
    rw [if_neg (e0 _ _ (by omega) (by omega) (by omega)), if_neg (e0 _ _ (by omega) (by omega) (by omega)), if_neg (e0 _ _ (by omega) (by omega) (by omega)), if_neg (e0 _ _ (by omega) (by omega) (by omega)), if_neg (e0 _ _ (by omega) (by omega) (by omega)), if_neg (e0 _ _ (by omega) (by omega) (by omega)), if_pos rfl] at hq
    refine B8_count_106 hw lw.1.1 ?_
    rw [cw.2.2.1.1]; exact hq
  · subst c0
    rw [if_neg (e0 _ _ (by omega) (by omega) (by omega)), if_neg (e0 _ _ (by omega) (by omega) (by omega)), if_neg (e0 _ _ (by omega) (by omega) (by omega)), if_neg (e0 _ _ (by omega) (by omega) (by omega)), if_neg (e0 _ _ (by omega) (by omega) (by omega)), if_neg (e0 _ _ (by omega) (by omega) (by omega)), if_neg (e0 _ _ (by omega) (by omega) (by omega)), if_pos rfl] at hq
    refine B8_count_111 hw lw.1.1 ?_
    rw [lw.2.1.2.2.2.1, cw.2.2.2.1]; exact hq
  · subst c0
    rw [if_neg (e0 _ _ (by omega) (by omega) (by omega)), if_neg (e0 _ _ (by omega) (by omega) (by omega)), if_neg (e0 _ _ (by omega) (by omega) (by omega)), if_neg (e0 _ _ (by omega) (by omega) (by omega)), if_neg (e0 _ _ (by omega) (by omega) (by omega)), if_neg (e0 _ _ (by omega) (by omega) (by omega)), if_neg (e0 _ _ (by omega) (by omega) (by omega)), if_neg (e0 _ _ (by omega) (by omega) (by omega)), if_pos rfl] at hq
    refine B8_count_119 hw lw.1.1 ?_
    rw [lw.2.1.1, ls.2.1.2.2.2.2.1, vs.2.2.2.2.2.1.2.2.2.2.2.2.2.2.2.2.1]; exact hq
  · have ne : ∀ k : Nat, k ≤ 8 → ¬ x = nI k := fun k hk q => c0 (by rw [q, show (0 : Int32) = nI 0 from rfl, nI_leI (by omega) (by omega), nI_leI (by omega) (by omega)]; omega)
    rw [if_neg (ne _ (by omega)), if_neg (ne _ (by omega)), if_neg (ne _ (by omega)), if_neg (ne _ (by omega)), if_neg (ne _ (by omega)), if_neg (ne _ (by omega)), if_neg (ne _ (by omega)), if_neg (ne _ (by omega)), if_neg (ne _ (by omega))] at hq
    exact B8_count_130 hw hq
theorem t7_append {ω : Om} {h : AH} {Q : Option Value → AH → Prop} (hw : ω.2.2.2.1 = true) {B len : Nat} {T : Nat → Int32} {x : Int32} {n : Nat} (lw : LayW h B) (t : TxtW h B T len) (hx : vp_nar .char x = nI n) (hq : ∀ h' : AH, Frm (B + 314) (B + 316) h h' → gr h' = gr h → TxtW h' B (putC (T, len) (nI n)).1 (putC (T, len) (nI n)).2 → Q none h') : Ex ω M7_append 0 [some (.ref (B + 314)), some (.int x)] [] h 0 0 Q := by
  obtain ⟨t1, t2, t3⟩ := t
  unfold putC at hq
  dsimp only at hq
  refine B7_append_0 hw lw.1.2.2.1 (fun c => ?_) (fun c => ?_)
  · rw [t1, nI_leI (by omega) (by omega)] at c
    rw [if_neg (by omega)] at hq
    exact B7_append_29 hw (hq h (Frm.refl _ _ _) rfl ⟨t1, t2, t3⟩)
  · rw [t1, nI_leI (by omega) (by omega)] at c
    rw [if_pos (by omega)] at hq
    refine B7_append_9 hw lw.1.2.2.1 (by rw [t1]; exact vp_in_nI (by omega) (by omega)) (B7_append_29 hw ?_)
    rw [hx, lw.2.2.1, t1, nI_clamp (by omega)]
    simp (disch := omega) only [si_wi, sr_wr, sl_wl, gi_wi, gi_wi_ne, gr_wi, gs_wi, gl_wi, gi_wr, gr_wr, gr_wr_ne, gs_wr, gl_wr, gi_wl, gr_wl, gs_wl, gl_wl, gl_wl_ne, wi_wi, wr_wr, updN_eq, updN_ne, pk_mul, nI_add, nI_clamp, upd_eq, upd_ne, t1]
    refine hq _ ((Frm.wi _ _ _ _ (by omega) (by omega)).trans (Frm.wi _ _ _ _ (by omega) (by omega))) rfl ⟨?_, by dsimp only; omega, fun i hi => ?_⟩
    · rw [gi_wi, upd_eq]
    · dsimp only at hi ⊢
      rw [gi_wi_ne _ _ _ (by omega), gi_wi]
      by_cases z : i = len
      · rw [z, upd_eq, upd_eq]
      · rw [upd_ne _ _ z, upd_ne _ _ z]; exact t3 i (by omega)
theorem t8_type {ω : Om} {h : AH} {Q : Option Value → AH → Prop} (hw : ω.2.2.2.1 = true) {B : Nat} {N : Nat → Int32} {H : List (Nat → Int32)} {T : Nat → Int32} {len K : Nat} {x : Int32} (cw : CW h B N H T len K) (q1 : ¬ (nI 32 ≤ x ∧ x ≤ nI 126) → Q (some (.int (-1))) h) (q2 : (nI 32 ≤ x ∧ x ≤ nI 126) → len = 100 → Q (some (.int (-3))) h) (q3 : (nI 32 ≤ x ∧ x ≤ nI 126) → len < 100 → ∀ h' : AH, Frm B (B + 324) h h' → CW h' B N H (upd T len x) (len + 1) K → Q (some (.int (nI (len + 1)))) h') : Ex ω M8_type 0 [some (.ref B), some (.int x)] [] h 0 0 Q := by
  have lw := cw.1
  have t := cw.2.2.2
  refine B8_type_0 hw (t8_outside hw (fun a1 a2 => ?_) (fun z => ?_))
  rotate_left
  · exact B8_type_8 hw (fun c => absurd c (by decide)) (fun _ => B8_type_11 hw (q1 z))
  refine B8_type_8 hw (fun _ => ?_) (fun c => absurd rfl c)
  have t1 := t.1
  have t2 := t.2.1
  refine B8_type_13 hw lw.1.1 (fun c => ?_) (fun c => ?_)
  · rw [lw.2.1.2.2.2.1, t1, nI_ltI (by omega) (by omega)] at c
    have q3' := q3 ⟨a1, a2⟩ c
    obtain ⟨n, rfl, n1, n2⟩ := bd_of (by omega) (by omega) a1 a2
    refine B8_type_28 hw lw.1.1 ?_
    rw [lw.2.1.2.2.2.1]
    have hx : vp_nar .char (UInt32.toInt32 (Int32.toUInt32 (nI n) % 65536)) = nI n := by
      rw [pk_vc, pk_char, pk_tn (by omega), Nat.mod_eq_of_lt (by omega)]
    refine t7_append hw lw t hx (fun h' f r t' => ?_)
    unfold putC at t'
    dsimp only at t'
    rw [if_pos c] at t'
    refine B8_type_37 hw (by rw [f.1]; exact lw.1.1) ?_
    rw [r, lw.2.1.2.2.2.1, t'.1]
    exact q3' h' (f.mono (by omega) (by omega)) (cw.txt f r t')
  · rw [lw.2.1.2.2.2.1, t1, nI_ltI (by omega) (by omega)] at c
    exact B8_type_25 hw (q2 ⟨a1, a2⟩ (by omega))
theorem t8_clearText {ω : Om} {h : AH} {Q : Option Value → AH → Prop} (hw : ω.2.2.2.1 = true) {B : Nat} {N : Nat → Int32} {H : List (Nat → Int32)} {T : Nat → Int32} {len K : Nat} (cw : CW h B N H T len K) (hq : ∀ h' : AH, Frm B (B + 324) h h' → CW h' B N H T 0 K → Q (some (.int (nI len))) h') : Ex ω M8_clearText 0 [some (.ref B), none] [] h 0 0 Q := by
  have lw := cw.1
  refine B8_clearText_0 hw lw.1.1 ?_
  simp (disch := omega) only [si_wi, sr_wr, sl_wl, gi_wi, gi_wi_ne, gr_wi, gs_wi, gl_wi, gi_wr, gr_wr, gr_wr_ne, gs_wr, gl_wr, gi_wl, gr_wl, gs_wl, gl_wl, gl_wl_ne, wi_wi, wr_wr, updN_eq, updN_ne, pk_mul, nI_add, nI_clamp, upd_eq, upd_ne, lw.2.1.2.2.2.1, cw.2.2.2.1]
  have f : Frm (B + 314) (B + 316) h (wi h (B + 314) (upd (gi h (B + 314)) 1 (nI 0))) := Frm.wi _ _ _ _ (by omega) (by omega)
  exact hq _ (f.mono (by omega) (by omega)) (cw.txt f rfl ⟨by rw [gi_wi, upd_eq], by omega, fun i hi => by omega⟩)
theorem t8_textAt {ω : Om} {h : AH} {Q : Option Value → AH → Prop} (hw : ω.2.2.2.1 = true) {B : Nat} {N : Nat → Int32} {H : List (Nat → Int32)} {T : Nat → Int32} {len K : Nat} {x : Int32} (cw : CW h B N H T len K) (q1 : x < 0 → Q (some (.int (-1))) h) (q2 : ¬ x < 0 → nI len ≤ x → Q (some (.int (-4))) h) (q3 : ∀ j : Nat, j < len → x = nI j → Q (some (.int (T j))) h) : Ex ω M8_textAt 0 [some (.ref B), some (.int x)] [] h 0 0 Q := by
  have lw := cw.1
  obtain ⟨t1, t2, t3⟩ := cw.2.2.2
  refine B8_textAt_0 hw (fun c => ?_) (fun c => B8_textAt_4 hw (q1 (Int32.not_le.mp c)))
  have nx : ¬ x < 0 := Int32.not_lt.mpr c
  refine B8_textAt_6 hw lw.1.1 (fun c => ?_) (fun c => ?_)
  · obtain ⟨j, hj, rfl⟩ := nI_of nx
    rw [lw.2.1.2.2.2.1, t1, nI_ltI (by omega) (by omega)] at c
    refine B8_textAt_20 hw lw.1.1 (vp_in_nI (by omega) (by omega)) ?_
    rw [lw.2.1.2.2.2.1, lw.2.2.1, nI_clamp (by omega), t3 j c]
    exact q3 j c rfl
  · rw [lw.2.1.2.2.2.1, t1] at c
    exact B8_textAt_17 hw (q2 nx (Int32.not_lt.mp c))

