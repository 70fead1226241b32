/-! the law's isUndone: a wrapping undone, and done again -/
theorem SI_uniq {N : Nat → Int32} {a b : List (Nat × Nat)} (sa : SI N a) (sb : SI N b) : a = b := by
  have a12 := sa.2.1
  have b12 := sb.2.1
  have el : a.length = b.length := (nI_eq (by omega) (by omega)).mp (sa.1.symm.trans sb.1)
  refine List.ext_getElem el (fun i h1 h2 => ?_)
  obtain ⟨p1, p2, p3, p4, p5⟩ := SI_get sa h1
  obtain ⟨q1, q2, q3, q4, q5⟩ := SI_get sb h2
  have pa := amt300 p3 p5
  have qa := amt300 q3 q5
  exact Prod.ext ((nI_eq (by omega) (by omega)).mp (p1.symm.trans q1)) ((nI_eq (by omega) (by omega)).mp (p2.symm.trans q2))
theorem aheadC_one (N : Nat → Int32) : aheadC N 0 1 = 0 := by
  show 0 + (if N (140 + 6 * 0 + 5) < N (140 + 6 * 0 + 5) ∨ (N (140 + 6 * 0 + 5) = N (140 + 6 * 0 + 5) ∧ N (140 + 6 * 0 + 0) < N (140 + 6 * 0 + 0)) then 1 else 0) = 0
  rw [if_neg (fun z => z.elim Int32.lt_irrefl (fun q => Int32.lt_irrefl q.2))]
theorem pushH_inj {H H' : List (Nat → Int32)} {N N' : Nat → Int32} (e : pushH H N = H' ++ [N']) : N' = N := by
  unfold pushH at e
  have := congrArg List.getLast? e
  rw [List.getLast?_append, List.getLast?_append] at this
  simpa using this.symm
section LUN
variable {ω : Om} {Q : Option Value → AH → Prop} {h : AH} {B K : Nat} {N : Nat → Int32} {H : List (Nat → Int32)} {T : Nat → Int32} {len : Nat}
theorem w_waiting (hw : ω.2.2.2.1 = true) (cw : CW h B N H T len K) (w1 : N 1 = nI 1) (hq : Q (some (.int (N 140))) h) : Ex ω M8_waiting 0 [some (.ref B), some (.int (nI 0)), some (.int (nI 0))] [] h 0 0 Q := by
  refine t8_waiting hw cw (fun z => absurd ⟨by decide, by decide, by decide⟩ z) (fun w e w8 _ z => ?_) (fun w i j e w8 e1 e2 hi hj v hv => ?_)
  · have we : w = 1 := (nI_eq (by omega) (by omega)).mp (e.symm.trans w1)
    rw [we] at z
    exact absurd (by rw [aheadC_one]) (z 0 (by omega))
  · have ie : 0 = i := (nI_eq (by omega) (by omega)).mp e1
    have je : 0 = j := (nI_eq (by omega) (by omega)).mp e2
    subst ie
    subst je
    have we : w = 1 := (nI_eq (by omega) (by omega)).mp (e.symm.trans w1)
    rw [we] at hv
    rw [hv 0 (by omega) (aheadC_one N)]
    exact hq
theorem w_done (hw : ω.2.2.2.1 = true) (cw : CW h B N H T len K) (hK : K < 2 ^ 28) {d j : Nat} (hd : N 7 = nI (d + 1)) (d30 : d + 1 < 2 ^ 30) (hj : j ≤ 12) (hq : Q (some (.int (N (entE d + j)))) h) : Ex ω M8_done 0 [some (.ref B), some (.int (nI 0)), some (.int (nI j))] [] h 0 0 Q := by
  refine t8_done hw cw hK (fun z => absurd ⟨by decide, nI_pos' (by omega), nI_le hj (by omega)⟩ z) (fun dn i e b e1 bi _ z => ?_) (fun dn i j2 e b e1 e2 bi b6 bj => ?_)
  · have de : dn = d + 1 := (nI_eq (by omega) (by omega)).mp (e.symm.trans hd)
    have ie : 0 = i := (nI_eq (by omega) (by omega)).mp e1
    exact absurd ⟨by omega, by omega⟩ z
  · have de : dn = d + 1 := (nI_eq (by omega) (by omega)).mp (e.symm.trans hd)
    have ie : 0 = i := (nI_eq (by omega) (by omega)).mp e1
    have je : j = j2 := (nI_eq (by omega) (by omega)).mp e2
    rw [← ie, ← je, de]
    have ek : keptB (d + 1) 0 = entE d := by unfold keptB entE; rw [show d + 1 - 1 - 0 = d by omega]
    rw [ek]
    exact hq
theorem t_isUndone {c : Nat} (hw : ω.2.2.2.1 = true) (cw : CW h B N H T len K) (w1 : N 1 = nI 1) (hK : K + 2 < 2 ^ 28) (h0 : N 0 = nI c) (c6 : c ≤ 6) (hq : ∀ (N' : Nat → Int32) (H' : List (Nat → Int32)) (c' : Nat) (h' : AH), Frm B (B + 324) h h' → CW h' B N' H' T len (K + 2) → N' 1 = nI 0 → N' 0 = nI c' → c' ≤ 6 → rs N' c' + N' 8 = rs N c + N 8 → Q (some (.int (nI 1))) h') : Ex ω ML_isUndone 0 [some (.ref B), none, none, none, none, none, none, none, none, none, none, none, none] [] h 0 0 Q := by
  obtain ⟨c1, w, d, nx, lo, hi, acc, vs, iv⟩ := cw.2.1
  have ce : c1 = c := (nI_eq (by have := iv.1.2.1; omega) (by omega)).mp (iv.1.1.symm.trans h0)
  have we : w = 1 := (nI_eq (by have := iv.2.1.2.1; omega) (by omega)).mp (iv.2.1.1.symm.trans w1)
  rw [ce, we] at iv vs
  obtain ⟨pa, h5, pa20⟩ := iv.2.2.2.2.1
  obtain ⟨h7a, h7b⟩ := iv.2.2.2.2.2.1
  have si := iv.2.2.1
  obtain ⟨c', b, f1, f2, f3, f4, f5, f6, f7, f8, f9⟩ := wraps_film (fu := 700000) (k := 0) iv h5 pa20 (by omega) (by omega)
  obtain ⟨⟨cI, loI, hiI, ivW⟩, le2⟩ := wraps_inv (fu := 700000) (k := 0) iv (by omega) (by omega) (by omega)
  have front : frontK N 1 0 := ⟨by omega, aheadC_one N, fun j hj => by omega⟩
  generalize hW : wrapsN 700000 N 1 0 d acc = W at *
  have n7 : W.2 7 = nI (d + 1) := ivW.2.2.2.2.2.1.1
  have n1 : W.2 1 = nI 0 := ivW.2.1.1
  have wr : ∀ (g : AH) (H2 : List (Nat → Int32)) (K2 : Nat) (Q2 : Option Value → AH → Prop), CW g B N H2 T len K2 → K2 < 2 ^ 28 → (∀ g2 : AH, Frm B (B + 324) g g2 → CW g2 B W.2 (pushH H2 N) T len (K2 + 1) → Q2 (some (.int (nI W.1))) g2) → Ex ω M8_wrap 0 [some (.ref B)] [] g 0 0 Q2 := fun g H2 K2 Q2 cc k2 hq2 => by
    obtain ⟨c2, w2, d2, nx2, lo2, hi2, acc2, vs2, iv2⟩ := cc.2.1
    have we2 : w2 = 1 := (nI_eq (by have := iv2.2.1.2.1; omega) (by omega)).mp (iv2.2.1.1.symm.trans w1)
    have de2 : d2 = d := (nI_eq (by have := iv2.2.2.2.2.2.1.2; omega) (by omega)).mp (iv2.2.2.2.2.2.1.1.symm.trans h7a)
    have ae2 : acc2 = acc := SI_uniq iv2.2.2.1 si
    rw [we2, de2, ae2] at iv2 vs2
    refine t8_wrap (fu := 700000) (k := 0) hw cc vs2 iv2 k2 (fun _ => front) (by omega) (by omega) (fun z => by omega) (fun _ g2 f2 c2' => ?_)
    rw [hW] at c2' ⊢
    exact hq2 g2 f2 c2'
  refine BL_isUndone_0 hw cw.o8 (w_count hw cw (countR_1.trans w1) ?_)
  refine BL_isUndone_5 hw cw.o8 (w_waiting hw cw w1 ?_)
  refine BL_isUndone_12 hw cw.o8 (w_count hw cw (countR_2.trans h7a) ?_)
  refine BL_isUndone_18 hw cw.o8 (w_count hw cw countR_8 ?_)
  refine BL_isUndone_25 hw cw.o8 (w_count hw cw (countR_0.trans h0) ?_)
  obtain ⟨pos, hpos⟩ : ∃ pos : Int32, pos = if c = 0 then nI 0 else N 22 := ⟨_, rfl⟩
  have s49 : Ex ω ML_isUndone 49 [some (.ref B), some (.int (nI 1)), some (.int (N 140)), some (.int (nI d)), some (.int (N 6)), some (.int (nI c)), none, none, none, none, none, none, none] [.int pos] h 0 0 Q := by
    refine BL_isUndone_49 hw cw.o8 (w_total (j := 0) hw cw (by omega) ?_)
    refine BL_isUndone_56 hw cw.o8 (t8_weight hw cw ?_)
    refine BL_isUndone_62 hw cw.o8 (wr h H K _ cw (by omega) (fun g1 fr1 c1 => ?_))
    have s184 : Ex ω ML_isUndone 184 [some (.ref B), some (.int (nI 1)), some (.int (N 140)), some (.int (nI d)), some (.int (N 6)), some (.int (nI c)), some (.int pos), some (.int (N 8)), some (.long (weightR N)), none, some (.int (nI W.1)), none, none] [.int (nI 1)] g1 0 0 Q := by
      refine BL_isUndone_184 hw c1.o8 (w_total (j := 7) hw c1 (by omega) ?_)
      refine BL_isUndone_192 hw (fun z => absurd z (by decide)) (fun _ => ?_)
      refine BL_isUndone_199 hw c1.o8 ?_
      refine t8_undo hw c1 (fun e => ?_) (fun H' N' e g2 fr2 c2 => ?_)
      · unfold pushH at e
        simp at e
      · have eN := pushH_inj e
        rw [eN] at c2
        have hl : H'.length ≤ 4 := c2.2.2.1.2.1
        refine BL_isUndone_203 hw (fun z => absurd z (nI_pos (by omega))) (fun _ => ?_)
        refine BL_isUndone_206 hw c2.o8 (w_count hw c2 (countR_1.trans w1) ?_)
        refine BL_isUndone_211 hw (fun z => absurd rfl z) (fun _ => ?_)
        refine BL_isUndone_215 hw c2.o8 (w_waiting hw c2 w1 ?_)
        refine BL_isUndone_221 hw (fun z => absurd rfl z) (fun _ => ?_)
        refine BL_isUndone_225 hw c2.o8 (w_count hw c2 (countR_2.trans h7a) ?_)
        refine BL_isUndone_230 hw (fun z => absurd rfl z) (fun _ => ?_)
        refine BL_isUndone_234 hw c2.o8 (w_count hw c2 countR_8 ?_)
        refine BL_isUndone_240 hw (fun z => absurd rfl z) (fun _ => ?_)
        refine BL_isUndone_245 hw c2.o8 (w_count hw c2 (countR_0.trans h0) ?_)
        refine BL_isUndone_250 hw (fun z => absurd rfl z) (fun _ => ?_)
        refine BL_isUndone_255 hw c2.o8 (w_total (j := 0) hw c2 (by omega) ?_)
        refine BL_isUndone_260 hw (fun z => absurd rfl z) (fun _ => ?_)
        refine BL_isUndone_265 hw c2.o8 (t8_weight hw c2 ?_)
        refine BL_isUndone_269 hw (fun z => absurd (by unfold lg_cmp; simp) z) (fun _ => ?_)
        refine BL_isUndone_275 hw (BL_isUndone_280 hw (fun z => absurd z (by decide)) (fun _ => ?_))
        have s303 : ∀ u5 u6 : Option Value, Ex ω ML_isUndone 303 [some (.ref B), none, none, none, none, u5, u6, none, none, none, some (.int (nI W.1)), none, some (.int (W.2 15))] [] g2 0 0 Q := fun u5 u6 => by
          refine BL_isUndone_303 hw c2.o8 (wr g2 H' (K + 1) _ c2 (by omega) (fun g3 fr3 c3 => ?_))
          refine BL_isUndone_307 hw (fun z => absurd rfl z) (fun _ => ?_)
          refine BL_isUndone_312 hw c3.o8 (w_total (j := 7) hw c3 (by omega) ?_)
          refine BL_isUndone_318 hw (fun z => absurd rfl z) (fun _ => ?_)
          exact BL_isUndone_323 hw (BL_isUndone_328 hw rfl (hq W.2 (pushH H' N) c' g3 ((fr1.trans fr2).trans fr3) c3 n1 f2 f1 f7))
        by_cases hc : c = 0
        · exact BL_isUndone_287 hw (fun _ => s303 _ _) (fun z => absurd (by rw [hc]; decide) z)
        · refine BL_isUndone_287 hw (fun z => absurd z (nI_ne0 (by omega) (by omega))) (fun _ => ?_)
          refine BL_isUndone_292 hw c2.o8 (w_roll (i := 0) (j := 2) hw c2 h0 c6 (by omega) (by omega) ?_)
          refine BL_isUndone_298 hw (fun z => absurd ?_ z) (fun _ => s303 _ _)
          rw [hpos, if_neg hc]
    have s165 : Ex ω ML_isUndone 165 [some (.ref B), some (.int (nI 1)), some (.int (N 140)), some (.int (nI d)), some (.int (N 6)), some (.int (nI c)), some (.int pos), some (.int (N 8)), some (.long (weightR N)), none, some (.int (nI W.1)), none, none] [] g1 0 0 Q := by
      refine BL_isUndone_165 hw (fun _ => BL_isUndone_179 hw s184) (fun z => ?_)
      have r1 : W.1 = 1 := (nI_eq (by omega) (by omega)).mp z
      refine BL_isUndone_171 hw c1.o8 (w_count hw c1 (countR_0.trans f2) ?_)
      rw [f6 r1]
      exact BL_isUndone_176 hw (fun z => absurd (by decide) z) (fun _ => BL_isUndone_179 hw s184)
    refine BL_isUndone_68 hw (fun z => absurd z (nI_pos (by omega))) (fun _ => ?_)
    refine BL_isUndone_75 hw (fun z => absurd ((nI_ltI (by omega) (by omega)).mp z) (by omega)) (fun _ => ?_)
    refine BL_isUndone_81 hw c1.o8 (w_count hw c1 (countR_1.trans n1) ?_)
    refine BL_isUndone_86 hw (fun z => absurd (by decide) z) (fun _ => ?_)
    refine BL_isUndone_92 hw c1.o8 (w_count hw c1 (countR_2.trans n7) ?_)
    refine BL_isUndone_97 hw (fun z => absurd (nI_add d 1).symm z) (fun _ => ?_)
    refine BL_isUndone_103 hw c1.o8 (w_done (j := 1) hw c1 (by omega) n7 (by omega) (by omega) ?_)
    rw [f8]
    refine BL_isUndone_109 hw (fun z => absurd rfl z) (fun _ => ?_)
    refine BL_isUndone_114 hw c1.o8 (w_done (j := 6) hw c1 (by omega) n7 (by omega) (by omega) ?_)
    rw [f3]
    refine BL_isUndone_121 hw c1.o8 (w_count hw c1 (countR_5.trans f9) ?_)
    refine BL_isUndone_126 hw (fun z => ?_) (fun _ => ?_)
    · rw [nI_add, nI_ltI (by omega) (by omega)] at z
      omega
    · by_cases r2 : W.1 = 2
      · have bp := f5.mp r2
        refine BL_isUndone_131 hw (fun z => absurd (by rw [r2]) z) (fun _ => ?_)
        refine BL_isUndone_137 hw (BL_isUndone_142 hw c1.o8 (w_done (j := 6) hw c1 (by omega) n7 (by omega) (by omega) ?_))
        rw [f3]
        refine BL_isUndone_149 hw c1.o8 (w_count hw c1 (countR_5.trans f9) ?_)
        refine BL_isUndone_154 hw (fun z => absurd ((nI_leI (by omega) (by omega)).mp z) (by omega)) (fun _ => ?_)
        exact BL_isUndone_157 hw (BL_isUndone_162 hw (fun z => absurd rfl z) (fun _ => s165))
      · have bp : b ≤ pa := Nat.le_of_not_lt (fun z => r2 (f5.mpr z))
        refine BL_isUndone_131 hw (fun _ => ?_) (fun z => absurd ((nI_eq (by omega) (by omega)).mp z) r2)
        refine BL_isUndone_141 hw (BL_isUndone_142 hw c1.o8 (w_done (j := 6) hw c1 (by omega) n7 (by omega) (by omega) ?_))
        rw [f3]
        refine BL_isUndone_149 hw c1.o8 (w_count hw c1 (countR_5.trans f9) ?_)
        refine BL_isUndone_154 hw (fun _ => ?_) (fun z => absurd (nI_le bp (by omega)) z)
        exact BL_isUndone_161 hw (BL_isUndone_162 hw (fun z => absurd rfl z) (fun _ => s165))
  refine BL_isUndone_32 hw (fun z => ?_) (fun z => ?_)
  · have hc : c = 0 := Nat.eq_zero_of_not_pos (fun q => nI_nle q (by omega) z)
    refine BL_isUndone_48 hw ?_
    rw [if_pos hc] at hpos
    rw [← hpos]
    exact s49
  · have hc : ¬ c = 0 := fun q => z (by rw [q]; decide)
    refine BL_isUndone_39 hw cw.o8 (w_roll (i := 0) (j := 2) hw cw h0 c6 (by omega) (by omega) ?_)
    refine BL_isUndone_45 hw ?_
    rw [if_neg hc] at hpos
    rw [show N (20 + 20 * 0 + 2) = pos from hpos.symm]
    exact s49
end LUN
