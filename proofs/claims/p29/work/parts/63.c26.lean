/-! the class: reading a program from the text -/
theorem t8_nameOf {ω : Om} {h : AH} {Q : Option Value → AH → Prop} (hw : ω.2.2.2.1 = true) {k : Nat} (hk : k < 5) (hq : Q (some (.ref (ω.2.2.2.2.1 k))) h) : Ex ω M8_nameOf 0 [some (.int (nI k))] [] h 0 0 Q := by
  refine B8_nameOf_0 hw (fun c => ?_) (fun c => ?_) (fun c => ?_) (fun c => ?_) (fun c => ?_)
  · rw [nI_eq (by omega) (by omega)] at c; subst c; exact B8_nameOf_32 hw hq
  · rw [nI_eq (by omega) (by omega)] at c; subst c; exact B8_nameOf_35 hw hq
  · rw [nI_eq (by omega) (by omega)] at c; subst c; exact B8_nameOf_38 hw hq
  · rw [nI_eq (by omega) (by omega)] at c; subst c; exact B8_nameOf_41 hw hq
  · rw [show (0 : Int32) = nI 0 from rfl, nI_leI (by omega) (by omega), nI_leI (by omega) (by omega)] at c
    obtain rfl : k = 4 := by omega
    exact B8_nameOf_44 hw hq
/-- the text, wherever the rest lies -/
def TX (h : AH) (B : Nat) (T : Nat → Int32) (len : Nat) : Prop := gs h (B + 314) = some (7, 2) ∧ gr h (B + 314) 0 = B + 315 ∧ TxtW h B T len
theorem TX.w3 {h : AH} {B len : Nat} {T : Nat → Int32} (t : TX h B T len) (f p s : Nat → Int32) : TX (w3 h (B + 316) f p s) B T len := by
  obtain ⟨a, b, c⟩ := t
  exact ⟨a, b, c.at (w3_ne _ _ _ _ _ (by omega)) (w3_ne _ _ _ _ _ (by omega))⟩
theorem t7_isDigit {ω : Om} {h : AH} {Q : Option Value → AH → Prop} (hw : ω.2.2.2.1 = true) {x : Int32} (q1 : nI 48 ≤ x → x ≤ nI 57 → Q (some (.int (nI 1))) h) (q0 : ¬ (nI 48 ≤ x ∧ x ≤ nI 57) → Q (some (.int (nI 0))) h) : Ex ω M7_isDigit 0 [some (.int x)] [] h 0 0 Q := by
  refine B7_isDigit_0 hw (fun c => ?_) (fun c => ?_)
  · exact B7_isDigit_16 hw (B7_isDigit_17 hw rfl (q0 (fun z => absurd c (Int32.not_lt.mpr z.1))))
  · refine B7_isDigit_6 hw (fun c2 => ?_) (fun c2 => ?_)
    · exact B7_isDigit_16 hw (B7_isDigit_17 hw rfl (q0 (fun z => absurd c2 (Int32.not_lt.mpr z.2))))
    · exact B7_isDigit_12 hw (B7_isDigit_17 hw rfl (q1 (Int32.not_lt.mp c) (Int32.not_lt.mp c2)))
theorem t7_isFollowed {ω : Om} {h : AH} {Q : Option Value → AH → Prop} (hw : ω.2.2.2.1 = true) {B len e : Nat} {T : Nat → Int32} (t : TX h B T len) (he : e ≤ 1000) (q1 : folP T len e → Q (some (.int (nI 1))) h) (q0 : ¬ folP T len e → Q (some (.int (nI 0))) h) : Ex ω M7_isFollowedByStep 0 [some (.ref (B + 314)), some (.int (nI e))] [] h 0 0 Q := by
  obtain ⟨s1, r1, t1, t2, t3⟩ := t
  refine B7_isFollowedByStep_0 hw s1 (fun c => ?_) (fun c => ?_)
  · rw [t1, nI_add, nI_leI (by omega) (by omega)] at c
    exact B7_isFollowedByStep_38 hw (B7_isFollowedByStep_39 hw rfl (q0 (fun z => by have := z.1; omega)))
  · rw [t1, nI_add, nI_leI (by omega) (by omega)] at c
    refine B7_isFollowedByStep_10 hw s1 (vp_in_nI (by omega) (by omega)) (fun c2 => ?_) (fun c2 => ?_)
    · rw [r1, nI_clamp (by omega), t3 e (by omega)] at c2
      exact B7_isFollowedByStep_38 hw (B7_isFollowedByStep_39 hw rfl (q0 (fun z => c2 z.2.1)))
    · rw [r1, nI_clamp (by omega), t3 e (by omega)] at c2
      refine B7_isFollowedByStep_21 hw s1 (by rw [nI_add]; exact vp_in_nI (by omega) (by omega)) (fun c3 => ?_) (fun c3 => ?_)
      · rw [r1, nI_add, nI_clamp (by omega), t3 (e + 1) (by omega)] at c3
        exact B7_isFollowedByStep_38 hw (B7_isFollowedByStep_39 hw rfl (q0 (fun z => c3 z.2.2)))
      · rw [r1, nI_add, nI_clamp (by omega), t3 (e + 1) (by omega)] at c3
        exact B7_isFollowedByStep_34 hw (B7_isFollowedByStep_39 hw rfl (q1 ⟨by omega, c2, c3⟩))
def bhN (T : Nat → Int32) (len s k : Nat) : Prop := s + lenS.getD k 0 < len ∧ T (s + lenS.getD k 0) = nI 32 ∧ nameSt T len s k
theorem t7_behindName {ω : Om} {h : AH} {Q : Option Value → AH → Prop} (hw : ω.2.2.2.1 = true) {B len k s : Nat} {T : Nat → Int32} (t : TX h B T len) (hk : k < 5) (hs : s ≤ 1000) (q1 : bhN T len s k → Q (some (.int (nI (s + lenS.getD k 0 + 1)))) h) (q0 : ¬ bhN T len s k → Q (some (.int (-1))) h) : Ex ω M7_behindName 0 [some (.ref (B + 314)), some (.int (nI k)), some (.int (nI s)), none, none, none] [] h 0 0 Q := by
  obtain ⟨s1, r1, t1, t2, t3⟩ := t
  have h7 := lenS_le k
  refine B7_behindName_0 hw (t8_nameOf hw hk (B7_behindName_4 hw (recvS hk rfl) (tJ_length hk ?_)))
  refine B7_behindName_10 hw s1 (fun c => ?_) (fun c => ?_)
  · rw [t1, nI_add, nI_leI (by omega) (by omega)] at c
    rw [nI_add]
    exact B7_behindName_34 hw (q0 (fun z => by have := z.1; omega))
  · rw [t1, nI_add, nI_leI (by omega) (by omega)] at c
    rw [nI_add]
    refine B7_behindName_22 hw s1 (vp_in_nI (by omega) (by omega)) (fun c2 => ?_) (fun c2 => ?_)
    · rw [r1, nI_clamp (by omega), t3 _ (by omega)] at c2
      refine B7_behindName_36 hw ?_
      have lp : ∀ d j : Nat, j + d = lenS.getD k 0 → (∀ i, i < j → s + i < len ∧ T (s + i) = chS k i) → Ex ω M7_behindName 39 [some (.ref (B + 314)), none, some (.int (nI s)), some (.ref (ω.2.2.2.2.1 k)), some (.int (nI (s + lenS.getD k 0))), some (.int (nI j))] [] h 0 0 Q := by
        intro d
        induction d with
        | zero =>
          intro j hj hp
          refine B7_behindName_39 hw (recvS hk rfl) (tJ_length hk (B7_behindName_45 hw (fun _ => B7_behindName_74 hw ?_) (fun c3 => absurd (nI_le (by omega) (by omega)) c3)))
          rw [nI_add]
          exact q1 ⟨by omega, c2, fun i hi => hp i (by omega)⟩
        | succ d ih =>
          intro j hj hp
          refine B7_behindName_39 hw (recvS hk rfl) (tJ_length hk (B7_behindName_45 hw (fun c3 => absurd c3 (nI_ge (by omega) (by omega))) (fun _ => ?_)))
          refine B7_behindName_48 hw s1 (by rw [nI_add]; exact vp_in_nI (by omega) (by omega)) (recvS hk rfl) (tJ_charAt hk (by omega) ?_)
          refine B7_behindName_63 hw (fun c4 => ?_) (fun c4 => ?_)
          · rw [r1, nI_add, nI_clamp (by omega), t3 _ (by omega)] at c4
            refine B7_behindName_68 hw ?_
            rw [nI_add]
            refine ih (j + 1) (by omega) (fun i hi => ?_)
            by_cases z : i = j
            · subst z; exact ⟨by omega, c4⟩
            · exact hp i (by omega)
          · rw [r1, nI_add, nI_clamp (by omega), t3 _ (by omega)] at c4
            exact B7_behindName_66 hw (q0 (fun z => c4 (z.2.2 j (by omega)).2))
      exact lp (lenS.getD k 0) 0 (by omega) (fun i hi => by omega)
    · rw [r1, nI_clamp (by omega), t3 _ (by omega)] at c2
      exact B7_behindName_34 hw (q0 (fun z => c2 z.2.1))
theorem chS_uni : ∀ k, k < 5 → ∀ j, j < 5 → k ≠ j → (chS k 0 ≠ chS j 0 ∨ (2 < lenS.getD k 0 ∧ 2 < lenS.getD j 0 ∧ chS k 2 ≠ chS j 2)) := by decide
theorem lenS_pos : ∀ k, k < 5 → 1 ≤ lenS.getD k 0 := by decide
theorem nameSt_uni {T : Nat → Int32} {len s k j : Nat} (hk : k < 5) (hj : j < 5) (a : nameSt T len s k) (b : nameSt T len s j) : k = j := by
  refine Classical.byContradiction fun ne => ?_
  rcases chS_uni k hk j hj ne with z | ⟨z1, z2, z⟩
  · exact z ((a 0 (lenS_pos k hk)).2.symm.trans (b 0 (lenS_pos j hj)).2)
  · exact z ((a 2 z1).2.symm.trans (b 2 z2).2)
theorem stepP_none {T : Nat → Int32} {len s : Nat} (n : ∀ k, k < 5 → ¬ bhN T len s k) : stepP T len s = none := by
  unfold stepP
  by_cases z : nameF T len s = 5
  · rw [if_pos z]
  · rw [if_neg z, if_pos (fun q => ?_)]
    obtain ⟨k, hk, hn⟩ : ∃ k, k < 5 ∧ nameSt T len s k := Classical.byContradiction fun ne => z (nameF_none (fun k hk hn => ne ⟨k, hk, hn⟩))
    have e : nameF T len s = k := nameF_some hk hn (fun j hj hn2 => by
      have := nameSt_uni (by omega) hk hn2 hn
      omega)
    rw [e] at q
    exact n k hk ⟨q.1, q.2, hn⟩
theorem stepP_some {T : Nat → Int32} {len s k : Nat} (hk : k < 5) (n : bhN T len s k) : stepP T len s = if (digF T len 3 (s + lenS.getD k 0 + 1) 0).1 = s + lenS.getD k 0 + 1 ∨ ¬ (amtLo k ≤ (digF T len 3 (s + lenS.getD k 0 + 1) 0).2 ∧ (digF T len 3 (s + lenS.getD k 0 + 1) 0).2 ≤ amtHi k) then none else some (k, (digF T len 3 (s + lenS.getD k 0 + 1) 0).2, (digF T len 3 (s + lenS.getD k 0 + 1) 0).1) := by
  have e : nameF T len s = k := nameF_some hk n.2.2 (fun j hj hn2 => by
    have := nameSt_uni (by omega) hk hn2 n.2.2
    omega)
  unfold stepP
  rw [e, if_neg (by omega), if_neg (fun y => y ⟨n.1, n.2.1⟩)]
theorem amt_lm : ∀ k, k < 5 → leastF k = nI (amtLo k) ∧ mostF k = nI (amtHi k) ∧ amtHi k ≤ 300 ∧ amtLo k ≤ 300 := by decide
theorem t2_append {ω : Om} {h : AH} {Q : Option Value → AH → Prop} (hw : ω.2.2.2.1 = true) {a n : Nat} {x y : Int32} {f p s : Nat → Int32} (o : ProgO h a) (hn : f 0 = nI n) (hn12 : n < 12) (hq : Q none (w3 h a (upd f 0 (nI (n + 1))) (upd p n x) (upd s n y))) : Ex ω M2_append 0 [some (.ref a), some (.int x), some (.int y)] [] (w3 h a f p s) 0 0 Q := by
  have iv := vp_in_nI (n := n) (N := 12) (by omega) (by omega)
  refine B2_append_0 hw o.1 (fun c => ?_) (fun _ => ?_)
  · simp (disch := omega) only [gs_w3, gr_w3, gl_w3, w3_0, w3_1, w3_2, w3_ne, si_w3_0, si_w3_1, si_w3_2, pk_mul, nI_add, nI_clamp, upd_eq, upd_ne, hn] at c
    exact absurd c (nI_ge (by omega) (by omega))
  refine B2_append_9 hw o.1 (by simp (disch := omega) only [gs_w3, gr_w3, gl_w3, w3_0, w3_1, w3_2, w3_ne, si_w3_0, si_w3_1, si_w3_2, pk_mul, nI_add, nI_clamp, upd_eq, upd_ne, hn]; exact iv) (by simp (disch := omega) only [gs_w3, gr_w3, gl_w3, w3_0, w3_1, w3_2, w3_ne, si_w3_0, si_w3_1, si_w3_2, pk_mul, nI_add, nI_clamp, upd_eq, upd_ne, o.2.2.2.1, hn]; exact iv) ?_
  simp (disch := omega) only [gs_w3, gr_w3, gl_w3, w3_0, w3_1, w3_2, w3_ne, si_w3_0, si_w3_1, si_w3_2, pk_mul, nI_add, nI_clamp, upd_eq, upd_ne, o.2.2.2.1, o.2.2.2.2, hn]
  refine B2_append_29 hw o.1 (B2_append_39 hw ?_)
  simp (disch := omega) only [gs_w3, gr_w3, gl_w3, w3_0, w3_1, w3_2, w3_ne, si_w3_0, si_w3_1, si_w3_2, pk_mul, nI_add, nI_clamp, upd_eq, upd_ne, hn]
  exact hq

