/-! the law's isKept: film is where it went -/
section LKP
variable {ω : Om} {Q : Option Value → AH → Prop} {h : AH} {B K : Nat} {N : Nat → Int32} {H : List (Nat → Int32)} {T : Nat → Int32} {len : Nat}
theorem w_total (hw : ω.2.2.2.1 = true) (cw : CW h B N H T len K) {j : Nat} (hj : j < 10) (hq : Q (some (.int (N (8 + j)))) h) : Ex ω M8_total 0 [some (.ref B), some (.int (nI j))] [] h 0 0 Q := by
  refine t8_total hw cw (fun z => absurd ⟨nI_pos' (by omega), nI_le (by omega) (by omega)⟩ z) (fun i e hi => ?_)
  have ie : j = i := (nI_eq (by omega) (by omega)).mp e
  rw [← ie]
  exact hq
theorem roll_arg {c i j : Nat} (hi : i < c) (c6 : c ≤ 6) (hj : j ≤ 5) : (0 ≤ nI i ∧ nI i < nI c) ∧ (0 ≤ nI j ∧ nI j ≤ nI 5) :=
  ⟨⟨nI_pos' (by omega), nI_lt hi (by omega)⟩, nI_pos' (by omega), nI_le hj (by omega)⟩
theorem w_roll (hw : ω.2.2.2.1 = true) (cw : CW h B N H T len K) {c i j : Nat} (h0 : N 0 = nI c) (c6 : c ≤ 6) (hi : i < c) (hj : j < 3) (hq : Q (some (.int (N (20 + 20 * i + j)))) h) : Ex ω M8_roll 0 [some (.ref B), some (.int (nI i)), some (.int (nI j))] [] h 0 0 Q := by
  refine t8_roll hw cw (fun c2 e b z => ?_) (fun c2 i2 j2 e b bi e1 e2 bj => ?_) (fun c2 i2 wk e b bi e1 e2 _ _ => ?_) (fun c2 i2 j2 wk v e b bi e1 e2 bj _ _ _ => ?_)
  · have ce : c = c2 := (nI_eq (by omega) (by omega)).mp (h0.symm.trans e)
    rw [← ce] at z
    exact absurd (roll_arg hi c6 (by omega)) z
  · have ie : i = i2 := (nI_eq (by omega) (by omega)).mp e1
    have je : j = j2 := (nI_eq (by omega) (by omega)).mp e2
    rw [← ie, ← je]
    exact hq
  · have := (nI_eq (by omega) (by omega)).mp e2
    omega
  · have := (nI_eq (by omega) (by omega)).mp e2
    omega
theorem w_roll3 (hw : ω.2.2.2.1 = true) (cw : CW h B N H T len K) {c i wk : Nat} (h0 : N 0 = nI c) (c6 : c ≤ 6) (hi : i < c) (hk : N (20 + 20 * i + 3) = nI wk) (k8 : wk ≤ 8) (hq : Q (some (.int (nI (wkCount N i wk)))) h) : Ex ω M8_roll 0 [some (.ref B), some (.int (nI i)), some (.int (nI 3))] [] h 0 0 Q := by
  refine t8_roll hw cw (fun c2 e b z => ?_) (fun c2 i2 j2 e b bi e1 e2 bj => ?_) (fun c2 i2 wk2 e b bi e1 e2 ek bk => ?_) (fun c2 i2 j2 wk v e b bi e1 e2 bj _ _ _ => ?_)
  · have ce : c = c2 := (nI_eq (by omega) (by omega)).mp (h0.symm.trans e)
    rw [← ce] at z
    exact absurd (roll_arg hi c6 (by omega)) z
  · have := (nI_eq (by omega) (by omega)).mp e2
    omega
  · have ie : i = i2 := (nI_eq (by omega) (by omega)).mp e1
    rw [← ie] at ek ⊢
    have ke : wk = wk2 := (nI_eq (by omega) (by omega)).mp (hk.symm.trans ek)
    rw [← ke]
    exact hq
  · have := (nI_eq (by omega) (by omega)).mp e2
    omega
theorem w_roll4 (hw : ω.2.2.2.1 = true) (cw : CW h B N H T len K) {c i wk : Nat} {b : Int32} (h0 : N 0 = nI c) (c6 : c ≤ 6) (hi : i < c) (hk : N (20 + 20 * i + 3) = nI wk) (k8 : wk ≤ 8) (hb : wkI N i (nI 1000) wk b) (hq : Q (some (.int (if b < 0 then -4 else N (20 + 20 * i + (4 + nn b))))) h) : Ex ω M8_roll 0 [some (.ref B), some (.int (nI i)), some (.int (nI 4))] [] h 0 0 Q := by
  refine t8_roll hw cw (fun c2 e b z => ?_) (fun c2 i2 j2 e b bi e1 e2 bj => ?_) (fun c2 i2 wk2 e b bi e1 e2 ek bk => ?_) (fun c2 i2 j2 wk2 v e _ bi e1 e2 bj ek bk hv => ?_)
  · have ce : c = c2 := (nI_eq (by omega) (by omega)).mp (h0.symm.trans e)
    rw [← ce] at z
    exact absurd (roll_arg hi c6 (by omega)) z
  · have := (nI_eq (by omega) (by omega)).mp e2
    omega
  · have := (nI_eq (by omega) (by omega)).mp e2
    omega
  · have ie : i = i2 := (nI_eq (by omega) (by omega)).mp e1
    have je : 4 = j2 := (nI_eq (by omega) (by omega)).mp e2
    subst je
    rw [← ie] at ek hv
    have ke : wk = wk2 := (nI_eq (by omega) (by omega)).mp (hk.symm.trans ek)
    rw [← ke] at hv
    rw [hv b hb, if_pos rfl]
    exact hq
end LKP
theorem wk_ex (N : Nat → Int32) (i : Nat) (s : Int32) (k : Nat) : (wkI N i s k (-1) ∧ ∀ j, j < k → ¬ wkC N i s j) ∨ ∃ b, b < k ∧ wkI N i s k (nI b) ∧ wkC N i s b := by
  have conv : ∀ j, wkD (fun q => N (q + 20 * i)) s j ↔ wkC N i s j := fun j => by
    show (N (22 + 20 * i) < N (24 + j + 20 * i) ∧ N (32 + j + 20 * i) < s) ↔ (N (20 + 20 * i + 2) < N (20 + 20 * i + (4 + j)) ∧ N (20 + 20 * i + (12 + j)) < s)
    rw [show 22 + 20 * i = 20 + 20 * i + 2 by omega, show 24 + j + 20 * i = 20 + 20 * i + (4 + j) by omega, show 32 + j + 20 * i = 20 + 20 * i + (12 + j) by omega]
  rcases wkB_spec (fun q => N (q + 20 * i)) s k with ⟨_, h⟩ | ⟨b, hb, _, h1, h2⟩
  · have h' : ∀ j, j < k → ¬ wkC N i s j := fun j hj z => h j hj ((conv j).mpr z)
    exact Or.inl ⟨Or.inl ⟨rfl, h'⟩, h'⟩
  · refine Or.inr ⟨b, hb, Or.inr ⟨b, hb, rfl, (conv b).mp h1, fun j hj z => ?_⟩, (conv b).mp h1⟩
    have := h2 j hj ((conv j).mpr z)
    rw [show 20 + 20 * i + (4 + j) = 24 + j + 20 * i by omega, show 20 + 20 * i + (4 + b) = 24 + b + 20 * i by omega]
    exact this
/-- the weak places behind the position of a roll -/
theorem wk_cases {N : Nat → Int32} {c i : Nat} (ri : RI N c) (hi : i < c) : ∃ wk pos : Nat, N (20 + 20 * i + 3) = nI wk ∧ wk ≤ 8 ∧ N (20 + 20 * i + 2) = nI pos ∧ pos ≤ 100000 ∧ ((wkCount N i wk = 0 ∧ wkI N i (nI 1000) wk (-1)) ∨ ∃ b p : Nat, b < wk ∧ wkI N i (nI 1000) wk (nI b) ∧ 0 < wkCount N i wk ∧ wkCount N i wk ≤ 8 ∧ N (20 + 20 * i + (4 + b)) = nI p ∧ pos < p ∧ p ≤ 100000) := by
  obtain ⟨len, wt, pos, wk, h0, hl, hl2, h1, hw1, hw2, h2, hp, h3, hk, hws, hd⟩ := ri.2.2 i hi
  refine ⟨wk, pos, h3, hk, h2, by omega, ?_⟩
  have cle : wkCount N i wk ≤ 8 := by
    unfold wkCount
    refine Nat.le_trans (List.length_filter_le _ _) ?_
    rw [List.length_range]
    exact hk
  rcases wk_ex N i (nI 1000) wk with ⟨e1, e2⟩ | ⟨b, hb, e1, e2⟩
  · refine Or.inl ⟨?_, e1⟩
    unfold wkCount
    rw [List.filter_eq_nil_iff.mpr (fun k hk2 => ?_)]
    · rfl
    · have hk3 := List.mem_range.mp hk2
      obtain ⟨p, s, g1, g2, g3, g4, g5⟩ := hws k hk3
      intro z
      refine e2 k hk3 ⟨of_decide_eq_true z, ?_⟩
      show rollG N i (12 + k) < nI 1000
      rw [g4]
      exact nI_lt (by omega) (by omega)
  · obtain ⟨p, s, g1, g2, g3, g4, g5⟩ := hws b hb
    have lt := e2.1
    refine Or.inr ⟨b, p, hb, e1, ?_, cle, g1, ?_, by omega⟩
    · unfold wkCount
      exact List.length_pos_of_mem (List.mem_filter.mpr ⟨List.mem_range.mpr hb, decide_eq_true lt⟩)
    · have a : rollG N i 2 < rollG N i (4 + b) := lt
      rw [h2, g1, nI_ltI (by omega) (by omega)] at a
      exact a
theorem t_isKept {ω : Om} {Q : Option Value → AH → Prop} {h : AH} {B K c : Nat} {g : Int32} {N : Nat → Int32} {H : List (Nat → Int32)} {T : Nat → Int32} {len : Nat} (hw : ω.2.2.2.1 = true) (cw : CW h B N H T len K) (h0 : N 0 = nI c) (c6 : c ≤ 6) (hs : rs N c + N 8 = g) (hq : Q (some (.int (nI 1))) h) : Ex ω ML_isKept 0 [some (.ref B), some (.int g), none, none, none, none] [] h 0 0 Q := by
  obtain ⟨c', w, d, nx, lo, hi, acc, vs, iv⟩ := cw.2.1
  have ri := iv.1
  have ce : c' = c := (nI_eq (by have := ri.2.1; omega) (by omega)).mp (ri.1.symm.trans h0)
  subst ce
  have s8 : N 8 = N 9 + N 10 + N 11 + N 12 := vs.2.2.2.2.2.1.2.2.2.2.2.2.2.2.2.2.2.1
  refine BL_isKept_0 hw ?_
  have fin : Ex ω ML_isKept 96 [some (.ref B), some (.int g), some (.int (rs N c')), some (.int (nI c')), none, none] [] h 0 0 Q := by
    refine BL_isKept_96 hw cw.o8 (w_total (j := 0) hw cw (by omega) ?_)
    refine BL_isKept_101 hw cw.o8 (w_total (j := 1) hw cw (by omega) ?_)
    refine BL_isKept_106 hw cw.o8 (w_total (j := 2) hw cw (by omega) ?_)
    refine BL_isKept_111 hw cw.o8 (w_total (j := 3) hw cw (by omega) ?_)
    refine BL_isKept_117 hw cw.o8 (w_total (j := 4) hw cw (by omega) ?_)
    refine BL_isKept_123 hw (fun z => absurd s8 z) (fun _ => ?_)
    refine BL_isKept_127 hw cw.o8 (w_total (j := 0) hw cw (by omega) ?_)
    refine BL_isKept_133 hw (fun z => absurd hs z) (fun _ => ?_)
    exact BL_isKept_138 hw (BL_isKept_143 hw rfl hq)
  have loop : ∀ (d i : Nat), i + d = c' → Ex ω ML_isKept 4 [some (.ref B), some (.int g), some (.int (rs N i)), some (.int (nI i)), none, none] [] h 0 0 Q := by
    intro d
    induction d with
    | zero =>
      intro i hi
      have e : i = c' := by omega
      rw [e]
      refine BL_isKept_4 hw cw.o8 (w_count hw cw (countR_0.trans h0) ?_)
      exact BL_isKept_10 hw (fun _ => fin) (fun z => absurd (nI_le (Nat.le_refl _) (by omega)) z)
    | succ d ih =>
      intro i hi
      have hic : i < c' := by omega
      obtain ⟨wk, pos, k1, k2, k3, k4, k5⟩ := wk_cases ri hic
      refine BL_isKept_4 hw cw.o8 (w_count hw cw (countR_0.trans h0) ?_)
      refine BL_isKept_10 hw (fun z => absurd z (nI_ge (by omega) (by omega))) (fun _ => ?_)
      refine BL_isKept_13 hw cw.o8 (w_roll (j := 0) hw cw h0 c6 hic (by omega) ?_)
      refine BL_isKept_20 hw cw.o8 (w_roll (j := 2) hw cw h0 c6 hic (by omega) ?_)
      refine BL_isKept_26 hw cw.o8 (w_roll3 hw cw h0 c6 hic k1 k2 ?_)
      have nxt : ∀ o4 o5 : Option Value, Ex ω ML_isKept 90 [some (.ref B), some (.int g), some (.int (rs N (i + 1))), some (.int (nI i)), o4, o5] [] h 0 0 Q := fun o4 o5 => by
        refine BL_isKept_90 hw ?_
        rw [nI_add]
        exact ih (i + 1) (by omega)
      show Ex ω ML_isKept 35 [some (.ref B), some (.int g), some (.int (rs N (i + 1))), some (.int (nI i)), none, none] [.int (nI (wkCount N i wk))] h 0 0 Q
      rcases k5 with ⟨a1, a2⟩ | ⟨b, p, b1, b2, b3, b4, b5, b6, b7⟩
      · rw [a1]
        refine BL_isKept_35 hw cw.o8 (w_roll4 hw cw h0 c6 hic k1 k2 a2 ?_)
        rw [if_pos (by decide)]
        refine BL_isKept_43 hw (fun _ => ?_) (fun z => absurd (by decide) z)
        refine BL_isKept_50 hw (BL_isKept_51 hw (fun _ => ?_) (fun z => absurd (by decide) z))
        refine BL_isKept_64 hw (BL_isKept_65 hw (fun z => absurd rfl z) (fun _ => ?_))
        exact BL_isKept_68 hw (fun _ => nxt _ _) (fun z => absurd rfl z)
      · have r4 : ∀ Q' : Option Value → AH → Prop, Q' (some (.int (nI p))) h → Ex ω M8_roll 0 [some (.ref B), some (.int (nI i)), some (.int (nI 4))] [] h 0 0 Q' := fun Q' hq' => by
          refine w_roll4 hw cw h0 c6 hic k1 k2 b2 ?_
          rw [if_neg (nI_pos (by omega)), nn_nI (by omega), b5]
          exact hq'
        refine BL_isKept_35 hw cw.o8 (r4 _ ?_)
        refine BL_isKept_43 hw (fun z => absurd z (nI_nle (by omega) (by omega))) (fun _ => ?_)
        refine BL_isKept_46 hw (BL_isKept_51 hw (fun z => absurd z (nI_nle b3 (by omega))) (fun _ => ?_))
        refine BL_isKept_60 hw (BL_isKept_65 hw (fun z => absurd rfl z) (fun _ => ?_))
        refine BL_isKept_68 hw (fun z => absurd z (by decide)) (fun _ => ?_)
        refine BL_isKept_73 hw cw.o8 (r4 _ ?_)
        refine BL_isKept_79 hw cw.o8 (w_roll (j := 2) hw cw h0 c6 hic (by omega) ?_)
        rw [k3]
        exact BL_isKept_85 hw (fun _ => nxt _ _) (fun z => absurd (nI_lt b6 (by omega)) z)
  exact loop c' 0 (Nat.zero_add c')
