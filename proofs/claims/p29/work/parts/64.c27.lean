/-! the class: readAmount, readStep, readInto, fault, load -/
theorem ne_m1 {n : Nat} (h : n < 2 ^ 31) : ¬ nI n = -1 := fun c => nI_pos h (by rw [c]; decide)
theorem l7_digits {ω : Om} {h : AH} {Q : Option Value → AH → Prop} (hw : ω.2.2.2.1 = true) {B len k p0 P : Nat} {T : Nat → Int32} (t : TX h B T len) (hp0 : p0 ≤ 1000) (hq : Ex ω M7_readAmount 60 [some (.ref (B + 314)), some (.int (nI k)), some (.int (nI p0)), some (.ref P), some (.int (nI (digF T len 3 p0 0).2)), some (.int (nI (digF T len 3 p0 0).1))] [] h 0 0 Q) :
    ∀ (d c p a : Nat), c + d = 3 → p = p0 + c → a < 10 ^ (9 - d) → digF T len 3 p0 0 = digF T len d p a → Ex ω M7_readAmount 6 [some (.ref (B + 314)), some (.int (nI k)), some (.int (nI p0)), some (.ref P), some (.int (nI a)), some (.int (nI p))] [] h 0 0 Q := by
  obtain ⟨s1, r1, t1, t2, t3⟩ := t
  intro d
  induction d with
  | zero =>
    intro c p a hc hp ha e
    have e1 : digF T len 3 p0 0 = (p, a) := e
    rw [e1] at hq
    refine B7_readAmount_6 hw s1 (fun _ => hq) (fun _ => B7_readAmount_15 hw (fun _ => hq) (fun c2 => ?_))
    rw [nI_add, nI_leI (by omega) (by omega)] at c2
    omega
  | succ d ih =>
    intro c p a hc hp ha e
    have ha9 : a < 10 ^ 9 := Nat.lt_of_lt_of_le ha (Nat.pow_le_pow_right (by omega) (by omega))
    have stop : ¬ (p < len ∧ (nI 48 ≤ T p ∧ T p ≤ nI 57)) → Ex ω M7_readAmount 60 [some (.ref (B + 314)), some (.int (nI k)), some (.int (nI p0)), some (.ref P), some (.int (nI a)), some (.int (nI p))] [] h 0 0 Q := fun hn => by
      have e1 : digF T len 3 p0 0 = (p, a) := by rw [e]; unfold digF; rw [if_neg hn]
      rw [e1] at hq
      exact hq
    refine B7_readAmount_6 hw s1 (fun z => ?_) (fun z => ?_)
    · rw [t1, nI_leI (by omega) (by omega)] at z
      exact stop (by omega)
    · rw [t1, nI_leI (by omega) (by omega)] at z
      refine B7_readAmount_15 hw (fun c2 => ?_) (fun _ => ?_)
      · rw [nI_add, nI_leI (by omega) (by omega)] at c2
        omega
      refine B7_readAmount_23 hw s1 (vp_in_nI (by omega) (by omega)) ?_
      rw [r1, nI_clamp (by omega), t3 p (by omega)]
      refine t7_isDigit hw (fun a1 a2 => ?_) (fun y => ?_)
      · refine B7_readAmount_33 hw (fun c => absurd c (by decide)) (fun _ => ?_)
        refine B7_readAmount_36 hw s1 (vp_in_nI (by omega) (by omega)) ?_
        rw [r1, nI_clamp (by omega), t3 p (by omega)]
        obtain ⟨n, en, n1, n2⟩ := bd_of (lo := 48) (hi := 57) (by omega) (by omega) a1 a2
        have ea : nI a * nI 10 + (T p - nI 48) = nI (10 * a + (nn (T p) - 48)) := by
          rw [en, nn_nI (by omega), pk_sub (by omega), pk_mul, nI_add, Nat.mul_comm]
        rw [ea, nI_add]
        refine ih (c + 1) (p + 1) _ (by omega) (by omega) ?_ ?_
        · rw [en, nn_nI (by omega)]
          have : 10 ^ (9 - d) = 10 * 10 ^ (9 - (d + 1)) := by
            rw [show 9 - d = (9 - (d + 1)) + 1 by omega, Nat.pow_succ, Nat.mul_comm]
          rw [this]
          omega
        · rw [e]
          conv => lhs; unfold digF
          rw [if_pos ⟨by omega, a1, a2⟩]
      · exact B7_readAmount_33 hw (fun _ => stop (fun c => y c.2)) (fun c => absurd rfl c)
theorem t7_readStep {ω : Om} {h : AH} {Q : Option Value → AH → Prop} (hw : ω.2.2.2.1 = true) {B len s r : Nat} {T f p q : Nat → Int32} (lw : LayW h B) (t : TX h B T len) (hf : f 0 = nI r) (hs : s ≤ len) (hr : r < 12)
    (q0 : stepP T len s = none → Q (some (.int (-1))) (w3 h (B + 316) f p q))
    (q1 : ∀ k a e, stepP T len s = some (k, a, e) → Q (some (.int (nI e))) (w3 h (B + 316) (upd f 0 (nI (r + 1))) (upd p r (nI k)) (upd q r (nI a)))) : Ex ω M7_readStep 0 [some (.ref (B + 314)), some (.int (nI s)), some (.ref (B + 316)), none, none] [] (w3 h (B + 316) f p q) 0 0 Q := by
  have t' := t.w3 f p q
  have s1 := t'.1
  have t2 := t'.2.2.2.1
  refine B7_readStep_0 hw ?_
  have lp : ∀ d k : Nat, k + d = 5 → (∀ j, j < k → ¬ bhN T len s j) → Ex ω M7_readStep 2 [some (.ref (B + 314)), some (.int (nI s)), some (.ref (B + 316)), some (.int (nI k)), none] [] (w3 h (B + 316) f p q) 0 0 Q := by
    intro d
    induction d with
    | zero =>
      intro k hk hn
      exact B7_readStep_2 hw (fun _ => B7_readStep_36 hw (q0 (stepP_none (fun j hj => hn j (by omega))))) (fun c => absurd (nI_le (by omega) (by omega)) c)
    | succ d ih =>
      intro k hk hn
      refine B7_readStep_2 hw (fun c => absurd c (nI_ge (by omega) (by omega))) (fun _ => ?_)
      refine B7_readStep_7 hw s1 (t7_behindName hw t' (by omega) (by omega) (fun b => ?_) (fun b => ?_))
      · have h7 := lenS_le k
        have b1 := b.1
        refine B7_readStep_13 hw (fun c => absurd c (ne_m1 (by omega))) (fun _ => ?_)
        refine B7_readStep_21 hw s1 (B7_readAmount_0 hw ?_)
        refine l7_digits hw t' (by omega) ?_ 3 0 _ 0 (by omega) rfl (by decide) rfl
        have sp := stepP_some (T := T) (len := len) (s := s) (by omega) b
        obtain ⟨g1, g2, g3⟩ := digF_le T len 3 (s + lenS.getD k 0 + 1) 0
        have g4 := digF_amt T len 3 (s + lenS.getD k 0 + 1) 0 (by decide) (by omega)
        have g3 := g3 (by omega)
        generalize digF T len 3 (s + lenS.getD k 0 + 1) 0 = ea at *
        obtain ⟨e, a⟩ := ea
        simp only at g1 g2 g3 g4 sp ⊢
        obtain ⟨m1, m2, m3, m4⟩ := amt_lm k (by omega)
        refine B7_readAmount_60 hw (fun y => ?_) (fun y => ?_)
        · rw [nI_eq (by omega) (by omega)] at y
          refine B7_readAmount_84 hw (B7_readStep_29 hw (q0 ?_))
          rw [sp, if_pos (Or.inl y)]
        · rw [nI_eq (by omega) (by omega)] at y
          refine B7_readAmount_66 hw (vp_in_nI (by omega) (by omega)) (vp_in_nI (by omega) (by omega)) ?_
          rw [nI_clamp (by omega), m1, m2]
          refine t8_outside hw (fun a1 a2 => ?_) (fun z => ?_)
          · rw [nI_leI (by omega) (by omega)] at a1 a2
            refine B7_readAmount_81 hw (fun _ => ?_) (fun c => absurd rfl c)
            refine B7_readAmount_86 hw (by rw [gs_w3]; exact lw.2.2.2.1.1) (t2_append hw lw.2.2.2.1 hf hr (B7_readAmount_93 hw (B7_readStep_29 hw (q1 k a e ?_))))
            rw [sp, if_neg (by omega)]
          · rw [nI_leI (by omega) (by omega), nI_leI (by omega) (by omega)] at z
            refine B7_readAmount_81 hw (fun c => absurd c (by decide)) (fun _ => B7_readAmount_84 hw (B7_readStep_29 hw (q0 ?_)))
            rw [sp, if_pos (Or.inr z)]
      · refine B7_readStep_13 hw (fun _ => B7_readStep_30 hw ?_) (fun c => absurd rfl c)
        rw [nI_add]
        refine ih (k + 1) (by omega) (fun j hj => ?_)
        by_cases z : j = k
        · subst z; exact b
        · exact hn j (by omega)
  exact lp 5 0 (by omega) (fun j hj => by omega)
theorem t7_readInto {ω : Om} {h : AH} {Q : Option Value → AH → Prop} (hw : ω.2.2.2.1 = true) {B len : Nat} {T f p q : Nat → Int32} (lw : LayW h B) (t : TX h B T len) (q1 : ∀ x (f' p' q' : Nat → Int32), (parsT T len).1 = some x → x < 2 ^ 30 → Q (some (.int (nI x))) (w3 h (B + 316) f' p' q')) (q0 : ∀ f' p' q' : Nat → Int32, (parsT T len).1 = none → progV f' p' q' (parsT T len).2 → StepsOk (parsT T len).2 → Q (some (.int (-1))) (w3 h (B + 316) f' p' q')) : Ex ω M7_readInto 0 [some (.ref (B + 314)), some (.ref (B + 316)), none, none, none] [] (w3 h (B + 316) f p q) 0 0 Q := by
  have t2 := t.2.2.2.1
  have t1 := t.2.2.1
  refine B7_readInto_0 hw (by rw [gs_w3]; exact lw.2.2.2.1.1) (by rw [gs_w3]; exact t.1) (fun c => ?_) (fun c => ?_)
  · simp (disch := omega) only [gs_w3, gr_w3, gl_w3, w3_0, w3_1, w3_2, w3_ne, si_w3_0, si_w3_1, si_w3_2, pk_mul, nI_add, nI_clamp, upd_eq, upd_ne, t1] at c
    rw [show (0 : Int32) = nI 0 from rfl, nI_eq (by omega) (by omega)] at c
    simp (disch := omega) only [gs_w3, gr_w3, gl_w3, w3_0, w3_1, w3_2, w3_ne, si_w3_0, si_w3_1, si_w3_2, pk_mul, nI_add, nI_clamp, upd_eq, upd_ne]
    refine B7_readInto_14 hw ?_
    have e0 : parsT T len = parsP T len 12 0 [] := by unfold parsT; rw [if_neg c]
    have lp : ∀ (n s : Nat) (acc : List (Nat × Nat)) (f' p' q' : Nat → Int32), n + acc.length = 12 → s ≤ len → progV f' p' q' acc → StepsOk acc → parsP T len n s acc = parsT T len → Ex ω M7_readInto 18 [some (.ref (B + 314)), some (.ref (B + 316)), some (.int (nI s)), some (.int (nI acc.length)), none] [] (w3 h (B + 316) f' p' q') 0 0 Q := by
      intro n
      induction n with
      | zero =>
        intro s acc f' p' q' hn hs hv hO e
        refine B7_readInto_18 hw (fun _ => B7_readInto_71 hw (q1 s f' p' q' (by rw [← e]; rfl) (by omega))) (fun c => absurd (nI_le (by omega) (by omega)) c)
      | succ n ih =>
        intro s acc f' p' q' hn hs hv hO e
        refine B7_readInto_18 hw (fun c => absurd c (nI_ge (by omega) (by omega))) (fun _ => ?_)
        refine B7_readInto_24 hw (by rw [gs_w3]; exact t.1) (t7_readStep hw lw t hv.1 hs (by omega) (fun z => ?_) (fun k a en z => ?_))
        · refine B7_readInto_30 hw (by rw [gs_w3]; exact t.1) (fun _ => ?_) (fun c => ?_)
          · refine B7_readInto_43 hw (fun _ => B7_readInto_58 hw (q1 s f' p' q' ?_ (by omega))) (fun c => absurd rfl c)
            rw [← e]
            unfold parsP
            rw [z]
          · simp (disch := omega) only [gs_w3, gr_w3, gl_w3, w3_0, w3_1, w3_2, w3_ne, si_w3_0, si_w3_1, si_w3_2, pk_mul, nI_add, nI_clamp, upd_eq, upd_ne, t1] at c
            exact absurd c.symm (ne_m1 (by omega))
        · obtain ⟨o1, o2, o3, o4, o5⟩ := stepP_ok z
          have o5 := o5 hs
          have v' : progV (upd f' 0 (nI (acc.length + 1))) (upd p' acc.length (nI k)) (upd q' acc.length (nI a)) (acc ++ [(k, a)]) := by
            refine ⟨by rw [upd_eq, List.length_append]; rfl, by rw [List.length_append]; show acc.length + 1 ≤ 12; omega, fun i y hy => ?_⟩
            by_cases il : i < acc.length
            · rw [List.getElem?_append_left il] at hy
              rw [upd_ne _ _ (by omega), upd_ne _ _ (by omega)]
              exact hv.2.2 i y hy
            · have := (List.getElem?_eq_some_iff.mp hy).1
              rw [List.length_append] at this
              have i1 : i < acc.length + 1 := this
              obtain rfl : i = acc.length := by omega
              rw [List.getElem?_append_right (Nat.le_refl _), Nat.sub_self] at hy
              obtain rfl : (k, a) = y := Option.some.inj hy
              exact ⟨upd_eq _ _ _, upd_eq _ _ _⟩
          have O' : StepsOk (acc ++ [(k, a)]) := fun y hy => by
            rcases List.mem_append.mp hy with hy | hy
            · exact hO y hy
            · simp at hy; subst hy; exact ⟨o1, o2, o3⟩
          have ep := e
          unfold parsP at ep
          rw [z] at ep
          dsimp only at ep
          generalize upd f' 0 (nI (acc.length + 1)) = f2 at *
          generalize upd p' acc.length (nI k) = p2 at *
          generalize upd q' acc.length (nI a) = q2 at *
          refine B7_readInto_30 hw (by rw [gs_w3]; exact t.1) (fun c => ?_) (fun c => ?_)
          · simp (disch := omega) only [gs_w3, gr_w3, gl_w3, w3_0, w3_1, w3_2, w3_ne, si_w3_0, si_w3_1, si_w3_2, pk_mul, nI_add, nI_clamp, upd_eq, upd_ne, t1] at c
            rw [nI_eq (by omega) (by omega)] at c
            rw [if_neg c] at ep
            refine B7_readInto_43 hw (fun c => absurd c (ne_m1 (by omega))) (fun _ => ?_)
            refine B7_readInto_49 hw (by rw [gs_w3]; exact t.1) (t7_isFollowed hw (t.w3 _ _ _) (by omega) (fun fo => ?_) (fun fo => ?_))
            · rw [if_pos fo] at ep
              refine B7_readInto_55 hw (fun _ => B7_readInto_60 hw ?_) (fun c => absurd c (by decide))
              rw [nI_add, nI_add]
              refine x_dr4 ?_
              have := ih (en + 2) (acc ++ [(k, a)]) f2 p2 q2 (by rw [List.length_append]; show n + (acc.length + 1) = 12; omega) (by have := fo.1; omega) v' O' ep
              rw [List.length_append] at this
              exact this
            · rw [if_neg fo] at ep
              exact B7_readInto_55 hw (fun c => absurd rfl c) (fun _ => B7_readInto_58 hw (q1 s f2 p2 q2 (by rw [← ep]) (by omega)))
          · simp (disch := omega) only [gs_w3, gr_w3, gl_w3, w3_0, w3_1, w3_2, w3_ne, si_w3_0, si_w3_1, si_w3_2, pk_mul, nI_add, nI_clamp, upd_eq, upd_ne, t1] at c
            rw [nI_eq (by omega) (by omega)] at c
            rw [if_pos c] at ep
            refine B7_readInto_41 hw (q0 f2 p2 q2 (by rw [← ep]) ?_ ?_)
            · rw [← ep]; exact v'
            · rw [← ep]; exact O'
    exact lp 12 0 [] _ _ _ rfl (by omega) ⟨upd_eq _ _ _, by decide, fun i y hy => by simp at hy⟩ (fun y hy => by simp at hy) e0.symm
  · simp (disch := omega) only [gs_w3, gr_w3, gl_w3, w3_0, w3_1, w3_2, w3_ne, si_w3_0, si_w3_1, si_w3_2, pk_mul, nI_add, nI_clamp, upd_eq, upd_ne, t1] at c
    rw [show (0 : Int32) = nI 0 from rfl, nI_eq (by omega) (by omega)] at c
    subst c
    simp (disch := omega) only [gs_w3, gr_w3, gl_w3, w3_0, w3_1, w3_2, w3_ne, si_w3_0, si_w3_1, si_w3_2, pk_mul, nI_add, nI_clamp, upd_eq, upd_ne]
    refine B7_readInto_12 hw (q0 _ _ _ rfl ⟨upd_eq _ _ _, by show (0 : Nat) ≤ 12; omega, fun i y hy => by simp [parsT] at hy⟩ (fun y hy => by simp [parsT] at hy))

