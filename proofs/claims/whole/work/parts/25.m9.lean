/-! the model: reading a step, the fault, load -/
def digF (T : Nat → Int32) (len : Nat) : Nat → Nat → Nat → Nat × Nat
  | 0, p, a => (p, a)
  | d + 1, p, a => if p < len ∧ (nI 48 ≤ T p ∧ T p ≤ nI 57) then digF T len d (p + 1) (10 * a + (nn (T p) - 48)) else (p, a)
theorem digF_le (T : Nat → Int32) (len : Nat) : ∀ d p a, p ≤ (digF T len d p a).1 ∧ (digF T len d p a).1 ≤ p + d ∧ (p ≤ len → (digF T len d p a).1 ≤ len) := by
  intro d
  induction d with
  | zero => intro p a; exact ⟨Nat.le_refl _, Nat.le_refl _, id⟩
  | succ d ih =>
    intro p a
    unfold digF
    split
    · rename_i hc
      obtain ⟨h1, h2, h3⟩ := ih (p + 1) (10 * a + (nn (T p) - 48))
      exact ⟨by omega, by omega, fun _ => h3 (by omega)⟩
    · exact ⟨Nat.le_refl _, by simp, id⟩
theorem digF_amt (T : Nat → Int32) (len : Nat) : ∀ d p a, a < 10 ^ (9 - d) → d ≤ 3 → (digF T len d p a).2 < 10 ^ 9 := by
  intro d
  induction d with
  | zero => intro p a h _; simpa [digF] using h
  | succ d ih =>
    intro p a h hd
    unfold digF
    split
    · rename_i hc
      refine ih _ _ ?_ (by omega)
      obtain ⟨n, e, h1, h2⟩ := bd_of (lo := 48) (hi := 57) (by omega) (by omega) hc.2.1 hc.2.2
      rw [e, nn_nI (by omega)]
      have : 10 ^ (9 - d) = 10 * 10 ^ (9 - (d + 1)) := by
        rw [show 9 - d = (9 - (d + 1)) + 1 by omega, Nat.pow_succ, Nat.mul_comm]
      rw [this]
      omega
    · have : 10 ^ (9 - (d + 1)) ≤ 10 ^ 9 := Nat.pow_le_pow_right (by omega) (by omega)
      simp only
      omega
def nameB (T : Nat → Int32) (len s k : Nat) : Bool := (List.range (lenS.getD k 0)).all (fun j => decide (s + j < len) && decide (T (s + j) = chS k j))
theorem nameB_iff (T : Nat → Int32) (len s k : Nat) : nameB T len s k = true ↔ nameSt T len s k := by
  simp [nameB, nameSt, List.all_eq_true]
def nameF (T : Nat → Int32) (len s : Nat) : Nat := if nameB T len s 0 = true then 0 else if nameB T len s 1 = true then 1 else if nameB T len s 2 = true then 2 else if nameB T len s 3 = true then 3 else if nameB T len s 4 = true then 4 else 5
theorem nameF_none {T : Nat → Int32} {len s : Nat} (h : ∀ k, k < 5 → ¬ nameSt T len s k) : nameF T len s = 5 := by
  have g : ∀ k, k < 5 → ¬ nameB T len s k = true := fun k hk z => h k hk ((nameB_iff T len s k).mp z)
  unfold nameF
  rw [if_neg (g 0 (by omega)), if_neg (g 1 (by omega)), if_neg (g 2 (by omega)), if_neg (g 3 (by omega)), if_neg (g 4 (by omega))]
theorem nameF_some {T : Nat → Int32} {len s k : Nat} (hk : k < 5) (h : nameSt T len s k) (h0 : ∀ j, j < k → ¬ nameSt T len s j) : nameF T len s = k := by
  have h0 : ∀ j, j < k → ¬ nameB T len s j = true := fun j hj z => h0 j hj ((nameB_iff T len s j).mp z)
  have h := (nameB_iff T len s k).mpr h
  unfold nameF
  match k, hk with
  | 0, _ => rw [if_pos h]
  | 1, _ => rw [if_neg (h0 0 (by omega)), if_pos h]
  | 2, _ => rw [if_neg (h0 0 (by omega)), if_neg (h0 1 (by omega)), if_pos h]
  | 3, _ => rw [if_neg (h0 0 (by omega)), if_neg (h0 1 (by omega)), if_neg (h0 2 (by omega)), if_pos h]
  | 4, _ => rw [if_neg (h0 0 (by omega)), if_neg (h0 1 (by omega)), if_neg (h0 2 (by omega)), if_neg (h0 3 (by omega)), if_pos h]
  | k + 5, hk => omega
/-- the step that stands at s: kind, amount, the place behind it -/
def stepP (T : Nat → Int32) (len s : Nat) : Option (Nat × Nat × Nat) :=
  if nameF T len s = 5 then none else if ¬ (s + lenS.getD (nameF T len s) 0 < len ∧ T (s + lenS.getD (nameF T len s) 0) = nI 32) then none
  else if (digF T len 3 (s + lenS.getD (nameF T len s) 0 + 1) 0).1 = s + lenS.getD (nameF T len s) 0 + 1 ∨ ¬ (amtLo (nameF T len s) ≤ (digF T len 3 (s + lenS.getD (nameF T len s) 0 + 1) 0).2 ∧ (digF T len 3 (s + lenS.getD (nameF T len s) 0 + 1) 0).2 ≤ amtHi (nameF T len s)) then none
  else some (nameF T len s, (digF T len 3 (s + lenS.getD (nameF T len s) 0 + 1) 0).2, (digF T len 3 (s + lenS.getD (nameF T len s) 0 + 1) 0).1)
/-- behind a step: a comma, a blank, a further sign -/
abbrev folP (T : Nat → Int32) (len e : Nat) : Prop := e + 2 < len ∧ T e = nI 44 ∧ T (e + 1) = nI 32
def FK (F F' : Nat → Int32) : Prop := F' 2 = F 2 ∧ F' 5 = F 5
theorem FK.rf (F : Nat → Int32) : FK F F := ⟨rfl, rfl⟩
theorem FK.up {F F' : Nat → Int32} (h : FK F F') {k : Nat} (v : Int32) (h2 : k ≠ 2) (h5 : k ≠ 5) : FK F (upd F' k v) := ⟨by rw [upd_ne _ _ (Ne.symm h2)]; exact h.1, by rw [upd_ne _ _ (Ne.symm h5)]; exact h.2⟩
theorem l9_digits {ω : Om} {h : AH} {m : Nat} {F N S A T R : Nat → Int32} {Q : Option Value → AH → Prop} (hw : ω.2.2.2.1 = true) (ml : ML h m) {len k p0 : Nat} (hk : k < 5) (hF5 : F 5 = nI len) (hl : len ≤ 100) (hp0 : p0 ≤ len) (hq : ∀ F' : Nat → Int32, FK F F' → F' 7 = F 7 → F' 6 = nI (digF T len 3 p0 0).1 → Ex ω M9_readsStep 115 [some (.ref m), some (.int (nI k)), some (.int (nI ((digF T len 3 p0 0).1 - p0))), some (.int (nI (digF T len 3 p0 0).2)), none] [] (hM h m F' N S A T R) 0 0 Q) :
    ∀ (d c p a : Nat) (F' : Nat → Int32), c + d = 3 → p = p0 + c → p ≤ len → a < 10 ^ (9 - d) → FK F F' → F' 7 = F 7 → F' 6 = nI p → digF T len 3 p0 0 = digF T len d p a → Ex ω M9_readsStep 43 [some (.ref m), some (.int (nI k)), some (.int (nI c)), some (.int (nI a)), none] [] (hM h m F' N S A T R) 0 0 Q := by
  intro d
  induction d with
  | zero =>
    intro c p a F' hc hp hpl ha hFK h7 h6 e
    obtain rfl : c = 3 := by omega
    have e1 : digF T len 3 p0 0 = (p, a) := e
    refine B9_readsStep_43 hw (fun _ => ?_) (fun z => absurd (nI_le (by omega) (by omega)) z)
    have := hq F' hFK h7 (by rw [e1]; exact h6)
    rw [e1, hp, show p0 + 3 - p0 = 3 by omega] at this
    exact this
  | succ d ih =>
    intro c p a F' hc hp hpl ha hFK h7 h6 e
    have ha9 : a < 10 ^ 9 := Nat.lt_of_lt_of_le ha (Nat.pow_le_pow_right (by omega) (by omega))
    have h59 : F' 5 = nI len := hFK.2.trans hF5
    refine B9_readsStep_43 hw (fun z => absurd z (nI_ge (by omega) (by omega))) (fun _ => ?_)
    have stop : ¬ (p < len ∧ (nI 48 ≤ T p ∧ T p ≤ nI 57)) → Ex ω M9_readsStep 115 [some (.ref m), some (.int (nI k)), some (.int (nI c)), some (.int (nI a)), none] [] (hM h m F' N S A T R) 0 0 Q := fun hn => by
      have e1 : digF T len 3 p0 0 = (p, a) := by rw [e]; unfold digF; rw [if_neg hn]
      have := hq F' hFK h7 (by rw [e1]; exact h6)
      rw [e1, hp, show p0 + c - p0 = c by omega] at this
      exact this
    refine B9_readsStep_48 hw ml.1 (fun z => ?_) (fun z => ?_)
    · simp (disch := omega) only [gr_hM, gs_hM, ml.2.1, ml.2.2.1, ml.2.2.2.1, ml.2.2.2.2.1, ml.2.2.2.2.2, hM_F, hM_N, hM_S, hM_A, hM_T, hM_R, hM_sF, hM_sN, hM_sS, hM_sA, hM_sT, hM_sR, pk_mul, nI_add, nI_clamp, upd_eq, upd_ne] at z
      rw [h59, h6, nI_leI (by omega) (by omega)] at z
      exact stop (by omega)
    · simp (disch := omega) only [gr_hM, gs_hM, ml.2.1, ml.2.2.1, ml.2.2.2.1, ml.2.2.2.2.1, ml.2.2.2.2.2, hM_F, hM_N, hM_S, hM_A, hM_T, hM_R, hM_sF, hM_sN, hM_sS, hM_sA, hM_sT, hM_sR, pk_mul, nI_add, nI_clamp, upd_eq, upd_ne] at z
      rw [h59, h6, nI_leI (by omega) (by omega)] at z
      refine B9_readsStep_59 hw ml.1 (by simp (disch := omega) only [gr_hM, gs_hM, ml.2.1, ml.2.2.1, ml.2.2.2.1, ml.2.2.2.2.1, ml.2.2.2.2.2, hM_F, hM_N, hM_S, hM_A, hM_T, hM_R, hM_sF, hM_sN, hM_sS, hM_sA, hM_sT, hM_sR, pk_mul, nI_add, nI_clamp, upd_eq, upd_ne]; rw [h6]; exact vp_in_nI (by omega) (by omega)) ?_
      simp (disch := omega) only [gr_hM, gs_hM, ml.2.1, ml.2.2.1, ml.2.2.2.1, ml.2.2.2.2.1, ml.2.2.2.2.2, hM_F, hM_N, hM_S, hM_A, hM_T, hM_R, hM_sF, hM_sN, hM_sS, hM_sA, hM_sT, hM_sR, pk_mul, nI_add, nI_clamp, upd_eq, upd_ne]
      rw [h6, nI_clamp (by omega)]
      refine t9_in hw (lo := nI 48) (hi := nI 57) rfl rfl (fun a1 a2 => ?_) (fun y => ?_)
      · refine B9_readsStep_78 hw (fun c => absurd c (by decide)) (fun _ => ?_)
        refine B9_readsStep_81 hw ml.1 (by simp (disch := omega) only [gr_hM, gs_hM, ml.2.1, ml.2.2.1, ml.2.2.2.1, ml.2.2.2.2.1, ml.2.2.2.2.2, hM_F, hM_N, hM_S, hM_A, hM_T, hM_R, hM_sF, hM_sN, hM_sS, hM_sA, hM_sT, hM_sR, pk_mul, nI_add, nI_clamp, upd_eq, upd_ne]; rw [h6]; exact vp_in_nI (by omega) (by omega)) ?_
        simp (disch := omega) only [gr_hM, gs_hM, ml.2.1, ml.2.2.1, ml.2.2.2.1, ml.2.2.2.2.1, ml.2.2.2.2.2, hM_F, hM_N, hM_S, hM_A, hM_T, hM_R, hM_sF, hM_sN, hM_sS, hM_sA, hM_sT, hM_sR, pk_mul, nI_add, nI_clamp, upd_eq, upd_ne]
        rw [h6, nI_clamp (by omega)]
        obtain ⟨n, en, n1, n2⟩ := bd_of (lo := 48) (hi := 57) (by omega) (by omega) a1 a2
        have ea : nI (10 * a) + T p - nI 48 = nI (10 * a + (nn (T p) - 48)) := by
          rw [en, nn_nI (by omega), nI_add, pk_sub (by omega)]
          congr 1
          omega
        rw [ea, nI_add]
        refine ih (c + 1) (p + 1) _ _ (by omega) (by omega) (by omega) ?_ (hFK.up _ (by omega) (by omega)) (by rw [upd_ne _ _ (by omega)]; exact h7) (upd_eq _ _ _) ?_
        · rw [en, nn_nI (by omega)]
          have : 10 ^ (9 - d) = 10 * 10 ^ (9 - (d + 1)) := by
            rw [show 9 - d = (9 - (d + 1)) + 1 by omega, Nat.pow_succ, Nat.mul_comm]
          rw [this]
          omega
        · rw [e]
          conv => lhs; unfold digF
          rw [if_pos ⟨by omega, a1, a2⟩]
      · refine B9_readsStep_78 hw (fun _ => stop (fun c => y c.2)) (fun c => absurd rfl c)
theorem t9_readsStep {ω : Om} {h : AH} {m : Nat} {F N S A T R : Nat → Int32} {Q : Option Value → AH → Prop} (hw : ω.2.2.2.1 = true) (ml : ML h m) {s len r : Nat} (hF6 : F 6 = nI s) (hF5 : F 5 = nI len) (hF7 : F 7 = nI r) (hl : len ≤ 100) (hs : s ≤ len) (hr : r ≤ 12)
    (q0 : (stepP T len s = none ∨ r = 12) → ∀ F' R', FK F F' → Q (some (.int 0)) (hM h m F' N S A T R'))
    (q1 : ∀ k a e, stepP T len s = some (k, a, e) → r < 12 → k < 5 → a < 10 ^ 9 → e = len → ∀ F', FK F F' → F' 6 = nI len → F' 7 = nI (r + 1) → Q (some (.int 1)) (hM h m F' N S A T (upd (upd R (2 * r) (nI k)) (2 * r + 1) (nI a))))
    (q2 : ∀ k a e, stepP T len s = some (k, a, e) → r < 12 → k < 5 → a < 10 ^ 9 → e < len → folP T len e → ∀ F', FK F F' → F' 6 = nI (e + 2) → F' 7 = nI (r + 1) → Q (some (.int 1)) (hM h m F' N S A T (upd (upd R (2 * r) (nI k)) (2 * r + 1) (nI a))))
    (q3 : ∀ k a e, stepP T len s = some (k, a, e) → r < 12 → e < len → ¬ folP T len e → ∀ F' R', FK F F' → Q (some (.int 0)) (hM h m F' N S A T R')) : Ex ω M9_readsStep 0 [some (.ref m), none, none, none, none] [] (hM h m F N S A T R) 0 0 Q := by
  refine B9_readsStep_0 hw ml.1 ?_
  refine t9_readsName hw ml hF6 hF5 hl (by omega) (fun hn => ?_) (fun k hk hn hn0 => ?_)
  · refine B9_readsStep_4 hw (fun _ => ?_) (fun c => absurd (by decide) c)
    refine B9_readsStep_27 hw (q0 (Or.inl ?_) F R (FK.rf F))
    unfold stepP
    rw [if_pos (nameF_none hn)]
  · have h7 := lenS_le k
    have hnF : nameF T len s = k := nameF_some hk hn hn0
    have hsl : s + lenS.getD k 0 ≤ len := by
      have : 1 ≤ lenS.getD k 0 := by
        match k, hk with
        | 0, _ => decide
        | 1, _ => decide
        | 2, _ => decide
        | 3, _ => decide
        | 4, _ => decide
        | k + 5, hk => omega
      have := (hn (lenS.getD k 0 - 1) (by omega)).1
      omega
    have fk1 : FK F (upd F 6 (nI (s + lenS.getD k 0))) := (FK.rf F).up _ (by omega) (by omega)
    refine B9_readsStep_4 hw (fun c => absurd c (nI_pos (by omega))) (fun _ => ?_)
    refine B9_readsStep_9 hw ml.1 (fun c => ?_) (fun c => ?_)
    · simp (disch := omega) only [gr_hM, gs_hM, ml.2.1, ml.2.2.1, ml.2.2.2.1, ml.2.2.2.2.1, ml.2.2.2.2.2, hM_F, hM_N, hM_S, hM_A, hM_T, hM_R, hM_sF, hM_sN, hM_sS, hM_sA, hM_sT, hM_sR, pk_mul, nI_add, nI_clamp, upd_eq, upd_ne] at c
      rw [hF7, nI_eq (by omega) (by omega)] at c
      exact B9_readsStep_27 hw (q0 (Or.inr c) _ R fk1)
    · simp (disch := omega) only [gr_hM, gs_hM, ml.2.1, ml.2.2.1, ml.2.2.2.1, ml.2.2.2.2.1, ml.2.2.2.2.2, hM_F, hM_N, hM_S, hM_A, hM_T, hM_R, hM_sF, hM_sN, hM_sS, hM_sA, hM_sT, hM_sR, pk_mul, nI_add, nI_clamp, upd_eq, upd_ne] at c
      rw [hF7, nI_eq (by omega) (by omega)] at c
      refine B9_readsStep_18 hw ml.1 (t9_isNext hw ml (upd_eq _ _ _) (by rw [upd_ne _ _ (by omega)]; exact hF5) hl (by omega) (fun z1 z2 => ?_) (fun z => ?_))
      · refine B9_readsStep_24 hw (fun _ => ?_) (fun c => absurd c (by decide))
        refine B9_readsStep_29 hw ml.1 ?_
        simp (disch := omega) only [gr_hM, gs_hM, ml.2.1, ml.2.2.1, ml.2.2.2.1, ml.2.2.2.2.1, ml.2.2.2.2.2, hM_F, hM_N, hM_S, hM_A, hM_T, hM_R, hM_sF, hM_sN, hM_sS, hM_sA, hM_sT, hM_sR, pk_mul, nI_add, nI_clamp, upd_eq, upd_ne]
        rw [upd_upd]
        refine l9_digits (F := F) (p0 := s + lenS.getD k 0 + 1) hw ml hk hF5 hl (by omega) (fun F' hFK h7' h6' => ?_) 3 0 _ 0 _ (by omega) rfl (by omega) (by decide) ((FK.rf F).up _ (by omega) (by omega)) (by rw [upd_ne _ _ (by omega)]) (upd_eq _ _ _) rfl
        obtain ⟨g1, g2, g3⟩ := digF_le T len 3 (s + lenS.getD k 0 + 1) 0
        have g4 := digF_amt T len 3 (s + lenS.getD k 0 + 1) 0 (by decide) (by omega)
        have g3 := g3 (by omega)
        have sp : stepP T len s = if (digF T len 3 (s + lenS.getD k 0 + 1) 0).1 = s + lenS.getD k 0 + 1 ∨ ¬ (amtLo k ≤ (digF T len 3 (s + lenS.getD k 0 + 1) 0).2 ∧ (digF T len 3 (s + lenS.getD k 0 + 1) 0).2 ≤ amtHi k) then none else some (k, (digF T len 3 (s + lenS.getD k 0 + 1) 0).2, (digF T len 3 (s + lenS.getD k 0 + 1) 0).1) := by
          unfold stepP
          rw [hnF, if_neg (by omega), if_neg (fun y => y ⟨z1, z2⟩)]
        generalize digF T len 3 (s + lenS.getD k 0 + 1) 0 = ea at *
        obtain ⟨e, a⟩ := ea
        simp only at g1 g2 g3 g4 sp h6' ⊢
        have h5' : F' 5 = nI len := hFK.2.trans hF5
        have h7'' : F' 7 = nI r := h7'.trans hF7
        refine B9_readsStep_115 hw (fun y => ?_) (fun y => ?_)
        · rw [show (0 : Int32) = nI 0 from rfl, nI_eq (by omega) (by omega)] at y
          refine B9_readsStep_127 hw (q0 (Or.inl ?_) F' R hFK)
          rw [sp, if_pos (Or.inl (by omega))]
        · rw [show (0 : Int32) = nI 0 from rfl, nI_eq (by omega) (by omega)] at y
          refine B9_readsStep_119 hw (t9_isAmount hw hk (by omega) (fun ok => ?_) (fun nok => ?_))
          · rw [if_neg (fun w => w.elim (fun w1 => by omega) (fun w1 => w1 ok))] at sp
            refine B9_readsStep_124 hw (fun _ => ?_) (fun c => absurd c (by decide))
            refine B9_readsStep_129 hw ml.1 (by simp (disch := omega) only [gr_hM, gs_hM, ml.2.1, ml.2.2.1, ml.2.2.2.1, ml.2.2.2.2.1, ml.2.2.2.2.2, hM_F, hM_N, hM_S, hM_A, hM_T, hM_R, hM_sF, hM_sN, hM_sS, hM_sA, hM_sT, hM_sR, pk_mul, nI_add, nI_clamp, upd_eq, upd_ne]; rw [h7'', pk_mul]; exact vp_in_nI (by omega) (by omega)) (by simp (disch := omega) only [gr_hM, gs_hM, ml.2.1, ml.2.2.1, ml.2.2.2.1, ml.2.2.2.2.1, ml.2.2.2.2.2, hM_F, hM_N, hM_S, hM_A, hM_T, hM_R, hM_sF, hM_sN, hM_sS, hM_sA, hM_sT, hM_sR, pk_mul, nI_add, nI_clamp, upd_eq, upd_ne]; rw [h7'', pk_mul, nI_add]; exact vp_in_nI (by omega) (by omega)) ?_
            simp (disch := omega) only [gr_hM, gs_hM, ml.2.1, ml.2.2.1, ml.2.2.2.1, ml.2.2.2.2.1, ml.2.2.2.2.2, hM_F, hM_N, hM_S, hM_A, hM_T, hM_R, hM_sF, hM_sN, hM_sS, hM_sA, hM_sT, hM_sR, pk_mul, nI_add, nI_clamp, upd_eq, upd_ne]
            rw [h7'', pk_mul, nI_add, nI_clamp (by omega), nI_clamp (by omega)]
            have fk3 : FK F (upd F' 7 (nI (r + 1))) := hFK.up _ (by omega) (by omega)
            refine B9_readsStep_155 hw ml.1 (fun y2 => ?_) (fun y2 => ?_)
            · simp (disch := omega) only [gr_hM, gs_hM, ml.2.1, ml.2.2.1, ml.2.2.2.1, ml.2.2.2.2.1, ml.2.2.2.2.2, hM_F, hM_N, hM_S, hM_A, hM_T, hM_R, hM_sF, hM_sN, hM_sS, hM_sA, hM_sT, hM_sR, pk_mul, nI_add, nI_clamp, upd_eq, upd_ne] at y2
              rw [h6', h5', nI_eq (by omega) (by omega)] at y2
              simp (disch := omega) only [gr_hM, gs_hM, ml.2.1, ml.2.2.1, ml.2.2.2.1, ml.2.2.2.2.1, ml.2.2.2.2.2, hM_F, hM_N, hM_S, hM_A, hM_T, hM_R, hM_sF, hM_sN, hM_sS, hM_sA, hM_sT, hM_sR, pk_mul, nI_add, nI_clamp, upd_eq, upd_ne]
              rw [h7'', nI_add]
              refine B9_readsStep_178 hw ml.1 (t9_isNext (s := e) hw ml (by rw [upd_ne _ _ (by omega)]; exact h6') (by rw [upd_ne _ _ (by omega)]; exact h5') hl (by omega) (fun w1 w2 => ?_) (fun w => ?_))
              · refine B9_readsStep_184 hw (fun c => absurd c (by decide)) (fun _ => ?_)
                have bad : ¬ folP T len e → Ex ω M9_readsStep 220 [some (.ref m), none, none, none, none] [] (hM h m (upd F' 7 (nI (r + 1))) N S A T (upd (upd R (2 * r) (nI k)) (2 * r + 1) (nI a))) 0 0 Q := fun nf => by
                  refine B9_readsStep_220 hw (B9_readsStep_221 hw ml.1 rfl ?_)
                  simp (disch := omega) only [gr_hM, gs_hM, ml.2.1, ml.2.2.1, ml.2.2.2.1, ml.2.2.2.2.1, ml.2.2.2.2.2, hM_F, hM_N, hM_S, hM_A, hM_T, hM_R, hM_sF, hM_sN, hM_sS, hM_sA, hM_sT, hM_sR, pk_mul, nI_add, nI_clamp, upd_eq, upd_ne]
                  exact q3 k a e sp (by omega) (by omega) nf _ _ (fk3.up _ (by omega) (by omega))
                refine B9_readsStep_187 hw ml.1 (fun w3 => ?_) (fun w3 => ?_)
                · simp (disch := omega) only [gr_hM, gs_hM, ml.2.1, ml.2.2.1, ml.2.2.2.1, ml.2.2.2.2.1, ml.2.2.2.2.2, hM_F, hM_N, hM_S, hM_A, hM_T, hM_R, hM_sF, hM_sN, hM_sS, hM_sA, hM_sT, hM_sR, pk_mul, nI_add, nI_clamp, upd_eq, upd_ne] at w3
                  rw [h6', h5', nI_add, nI_leI (by omega) (by omega)] at w3
                  exact bad (fun f => by have := f.1; omega)
                · simp (disch := omega) only [gr_hM, gs_hM, ml.2.1, ml.2.2.1, ml.2.2.2.1, ml.2.2.2.2.1, ml.2.2.2.2.2, hM_F, hM_N, hM_S, hM_A, hM_T, hM_R, hM_sF, hM_sN, hM_sS, hM_sA, hM_sT, hM_sR, pk_mul, nI_add, nI_clamp, upd_eq, upd_ne] at w3
                  rw [h6', h5', nI_add, nI_leI (by omega) (by omega)] at w3
                  refine B9_readsStep_200 hw ml.1 (by simp (disch := omega) only [gr_hM, gs_hM, ml.2.1, ml.2.2.1, ml.2.2.2.1, ml.2.2.2.2.1, ml.2.2.2.2.2, hM_F, hM_N, hM_S, hM_A, hM_T, hM_R, hM_sF, hM_sN, hM_sS, hM_sA, hM_sT, hM_sR, pk_mul, nI_add, nI_clamp, upd_eq, upd_ne]; rw [h6', nI_add]; exact vp_in_nI (by omega) (by omega)) (fun w4 => ?_) (fun w4 => ?_)
                  · simp (disch := omega) only [gr_hM, gs_hM, ml.2.1, ml.2.2.1, ml.2.2.2.1, ml.2.2.2.2.1, ml.2.2.2.2.2, hM_F, hM_N, hM_S, hM_A, hM_T, hM_R, hM_sF, hM_sN, hM_sS, hM_sA, hM_sT, hM_sR, pk_mul, nI_add, nI_clamp, upd_eq, upd_ne] at w4
                    rw [h6', nI_add, nI_clamp (by omega)] at w4
                    exact bad (fun f => w4 f.2.2)
                  · simp (disch := omega) only [gr_hM, gs_hM, ml.2.1, ml.2.2.1, ml.2.2.2.1, ml.2.2.2.2.1, ml.2.2.2.2.2, hM_F, hM_N, hM_S, hM_A, hM_T, hM_R, hM_sF, hM_sN, hM_sS, hM_sA, hM_sT, hM_sR, pk_mul, nI_add, nI_clamp, upd_eq, upd_ne] at w4
                    rw [h6', nI_add, nI_clamp (by omega)] at w4
                    refine B9_readsStep_216 hw (B9_readsStep_221 hw ml.1 rfl ?_)
                    simp (disch := omega) only [gr_hM, gs_hM, ml.2.1, ml.2.2.1, ml.2.2.2.1, ml.2.2.2.2.1, ml.2.2.2.2.2, hM_F, hM_N, hM_S, hM_A, hM_T, hM_R, hM_sF, hM_sN, hM_sS, hM_sA, hM_sT, hM_sR, pk_mul, nI_add, nI_clamp, upd_eq, upd_ne]
                    rw [h6', nI_add]
                    exact q2 k a e sp (by omega) hk g4 (by omega) ⟨by omega, w2, w4⟩ _ (fk3.up _ (by omega) (by omega)) (upd_eq _ _ _) (by rw [upd_ne _ _ (by omega), upd_eq])
              · refine B9_readsStep_184 hw (fun _ => ?_) (fun c => absurd rfl c)
                refine B9_readsStep_220 hw (B9_readsStep_221 hw ml.1 rfl ?_)
                simp (disch := omega) only [gr_hM, gs_hM, ml.2.1, ml.2.2.1, ml.2.2.2.1, ml.2.2.2.2.1, ml.2.2.2.2.2, hM_F, hM_N, hM_S, hM_A, hM_T, hM_R, hM_sF, hM_sN, hM_sS, hM_sA, hM_sT, hM_sR, pk_mul, nI_add, nI_clamp, upd_eq, upd_ne]
                exact q3 k a e sp (by omega) (by omega) (fun f => w ⟨by have := f.1; omega, f.2.1⟩) _ _ (fk3.up _ (by omega) (by omega))
            · simp (disch := omega) only [gr_hM, gs_hM, ml.2.1, ml.2.2.1, ml.2.2.2.1, ml.2.2.2.2.1, ml.2.2.2.2.2, hM_F, hM_N, hM_S, hM_A, hM_T, hM_R, hM_sF, hM_sN, hM_sS, hM_sA, hM_sT, hM_sR, pk_mul, nI_add, nI_clamp, upd_eq, upd_ne] at y2
              rw [h6', h5', nI_eq (by omega) (by omega)] at y2
              simp (disch := omega) only [gr_hM, gs_hM, ml.2.1, ml.2.2.1, ml.2.2.2.1, ml.2.2.2.2.1, ml.2.2.2.2.2, hM_F, hM_N, hM_S, hM_A, hM_T, hM_R, hM_sF, hM_sN, hM_sS, hM_sA, hM_sT, hM_sR, pk_mul, nI_add, nI_clamp, upd_eq, upd_ne]
              rw [h7'', nI_add]
              exact B9_readsStep_176 hw (q1 k a e sp (by omega) hk g4 y2 _ fk3 (by rw [upd_ne _ _ (by omega), h6', y2]) (upd_eq _ _ _))
          · refine B9_readsStep_124 hw (fun c => absurd rfl c) (fun _ => ?_)
            refine B9_readsStep_127 hw (q0 (Or.inl ?_) F' R hFK)
            rw [sp, if_pos (Or.inr (show ¬ (amtLo k ≤ a ∧ a ≤ amtHi k) from nok))]
      · refine B9_readsStep_24 hw (fun c => absurd rfl c) (fun _ => ?_)
        refine B9_readsStep_27 hw (q0 (Or.inl ?_) _ R fk1)
        unfold stepP
        rw [hnF, if_neg (by omega), if_pos z]
/-- the program read from place s on, n steps at most: the fault, and the steps -/
def parsP (T : Nat → Int32) (len : Nat) : Nat → Nat → List (Nat × Nat) → Option Nat × List (Nat × Nat)
  | 0, s, acc => (some s, acc)
  | n + 1, s, acc => match stepP T len s with
    | none => (some s, acc)
    | some (k, a, e) => if e = len then (none, acc ++ [(k, a)]) else if e + 2 < len ∧ T e = nI 44 ∧ T (e + 1) = nI 32 then parsP T len n (e + 2) (acc ++ [(k, a)]) else (some s, acc)
def parsT (T : Nat → Int32) (len : Nat) : Option Nat × List (Nat × Nat) := if len = 0 then (none, []) else parsP T len 12 0 []
/-- a row that holds steps -/
def RowA (R : Nat → Int32) (acc : List (Nat × Nat)) : Prop := ∀ (i : Nat) (q : Nat × Nat), acc[i]? = some q → R (2 * i) = nI q.1 ∧ R (2 * i + 1) = nI q.2
theorem RowA.add {R : Nat → Int32} {acc : List (Nat × Nat)} (h : RowA R acc) (k a : Nat) : RowA (upd (upd R (2 * acc.length) (nI k)) (2 * acc.length + 1) (nI a)) (acc ++ [(k, a)]) := by
  intro i q hq
  by_cases hi : i < acc.length
  · rw [List.getElem?_append_left hi] at hq
    rw [upd_ne _ _ (by omega), upd_ne _ _ (by omega), upd_ne _ _ (by omega), upd_ne _ _ (by omega)]
    exact h i q hq
  · by_cases e : i = acc.length
    · subst e
      rw [List.getElem?_append_right (Nat.le_refl _)] at hq
      simp at hq
      subst hq
      exact ⟨by rw [upd_ne _ _ (by omega), upd_eq], upd_eq _ _ _⟩
    · rw [List.getElem?_append_right (by omega)] at hq
      have : 1 ≤ i - acc.length := by omega
      rw [List.getElem?_eq_none (by simpa using this)] at hq
      cases hq
def StepsOk (acc : List (Nat × Nat)) : Prop := ∀ q ∈ acc, q.1 < 5 ∧ amtLo q.1 ≤ q.2 ∧ q.2 ≤ amtHi q.1
theorem stepP_ok {T : Nat → Int32} {len s k a e : Nat} (h : stepP T len s = some (k, a, e)) : k < 5 ∧ amtLo k ≤ a ∧ a ≤ amtHi k ∧ s < e ∧ (s ≤ len → e ≤ len) := by
  unfold stepP at h
  split at h
  · cases h
  · rename_i h1
    split at h
    · cases h
    · rename_i h2
      split at h
      · cases h
      · rename_i h3
        simp only [Option.some.injEq, Prod.mk.injEq] at h
        obtain ⟨rfl, rfl, rfl⟩ := h
        obtain ⟨g1, g2, g3⟩ := digF_le T len 3 (s + lenS.getD (nameF T len s) 0 + 1) 0
        refine ⟨?_, ?_, ?_, by omega, fun _ => g3 ?_⟩
        · unfold nameF at h1 ⊢
          repeat' split
          all_goals first | omega | simp_all
        · exact Nat.le_of_not_lt (fun z => h3 (Or.inr (fun y => by omega)))
        · exact Nat.le_of_not_lt (fun z => h3 (Or.inr (fun y => by omega)))
        · have := Classical.not_not.mp h2
          omega
theorem l9_faultOf {ω : Om} {h : AH} {m : Nat} {F N S A T R : Nat → Int32} {Q : Option Value → AH → Prop} (hw : ω.2.2.2.1 = true) (ml : ML h m) {len : Nat} (hl : len ≤ 100) (hF5 : F 5 = nI len) (q0 : ∀ x F' R', FK F F' → Q (some (.int (nI x))) (hM h m F' N S A T R') → True) (P : Option Nat × List (Nat × Nat)) (hP : ∀ (F' R' : Nat → Int32), FK F F' → ((∀ x, P.1 = some x → x < 2 ^ 30 → Q (some (.int (nI x))) (hM h m F' N S A T R')) ∧ (P.1 = none → P.2.length ≤ 12 → F' 7 = nI P.2.length → RowA R' P.2 → StepsOk P.2 → Q (some (.int (-4))) (hM h m F' N S A T R')))) :
    ∀ (n s : Nat) (acc : List (Nat × Nat)) (F' R' : Nat → Int32), n + acc.length = 12 → s < len → FK F F' → F' 6 = nI s → F' 7 = nI acc.length → RowA R' acc → StepsOk acc → parsP T len n s acc = P → Ex ω M9_faultOf 10 [some (.ref m), none] [] (hM h m F' N S A T R') 0 0 Q := by
  intro n
  induction n with
  | zero =>
    intro s acc F' R' hn hs hFK h6 h7 hR hO e
    have h5 : F' 5 = nI len := hFK.2.trans hF5
    refine B9_faultOf_10 hw ml.1 (fun z => ?_) (fun z => ?_)
    · simp (disch := omega) only [gr_hM, gs_hM, ml.2.1, ml.2.2.1, ml.2.2.2.1, ml.2.2.2.2.1, ml.2.2.2.2.2, hM_F, hM_N, hM_S, hM_A, hM_T, hM_R, hM_sF, hM_sN, hM_sS, hM_sA, hM_sT, hM_sR, pk_mul, nI_add, nI_clamp, upd_eq, upd_ne] at z
      rw [h5, h6, nI_leI (by omega) (by omega)] at z
      omega
    · refine B9_faultOf_21 hw ml.1 ?_
      simp (disch := omega) only [gr_hM, gs_hM, ml.2.1, ml.2.2.1, ml.2.2.2.1, ml.2.2.2.2.1, ml.2.2.2.2.2, hM_F, hM_N, hM_S, hM_A, hM_T, hM_R, hM_sF, hM_sN, hM_sS, hM_sA, hM_sT, hM_sR, pk_mul, nI_add, nI_clamp, upd_eq, upd_ne]
      rw [h6]
      refine t9_readsStep (r := 12) hw ml h6 h5 (by rw [h7]; congr 1; omega) hl (by omega) (by omega) (fun _ F2 R2 fk => ?_) (fun _ _ _ _ z => by omega) (fun _ _ _ _ z => by omega) (fun _ _ _ _ z => by omega)
      refine B9_faultOf_30 hw (fun c => absurd rfl c) (fun _ => B9_faultOf_33 hw ?_)
      exact (hP F2 R2 ⟨fk.1.trans hFK.1, fk.2.trans hFK.2⟩).1 s (by rw [← e]; rfl) (by omega)
  | succ n ih =>
    intro s acc F' R' hn hs hFK h6 h7 hR hO e
    have h5 : F' 5 = nI len := hFK.2.trans hF5
    refine B9_faultOf_10 hw ml.1 (fun z => ?_) (fun z => ?_)
    · simp (disch := omega) only [gr_hM, gs_hM, ml.2.1, ml.2.2.1, ml.2.2.2.1, ml.2.2.2.2.1, ml.2.2.2.2.2, hM_F, hM_N, hM_S, hM_A, hM_T, hM_R, hM_sF, hM_sN, hM_sS, hM_sA, hM_sT, hM_sR, pk_mul, nI_add, nI_clamp, upd_eq, upd_ne] at z
      rw [h5, h6, nI_leI (by omega) (by omega)] at z
      omega
    · refine B9_faultOf_21 hw ml.1 ?_
      simp (disch := omega) only [gr_hM, gs_hM, ml.2.1, ml.2.2.1, ml.2.2.2.1, ml.2.2.2.2.1, ml.2.2.2.2.2, hM_F, hM_N, hM_S, hM_A, hM_T, hM_R, hM_sF, hM_sN, hM_sS, hM_sA, hM_sT, hM_sR, pk_mul, nI_add, nI_clamp, upd_eq, upd_ne]
      rw [h6]
      have fault : P.1 = some s → ∀ F2 R2, FK F' F2 → Ex ω M9_faultOf 30 [some (.ref m), some (.int (nI s))] [.int 0] (hM h m F2 N S A T R2) 0 0 Q := fun hp F2 R2 fk => by
        refine B9_faultOf_30 hw (fun c => absurd rfl c) (fun _ => B9_faultOf_33 hw ?_)
        exact (hP F2 R2 ⟨fk.1.trans hFK.1, fk.2.trans hFK.2⟩).1 s hp (by omega)
      refine t9_readsStep (r := acc.length) hw ml h6 h5 h7 hl (by omega) (by omega) (fun z F2 R2 fk => ?_) (fun k a e2 z1 z2 z3 z4 z5 F2 fk z6 z7 => ?_) (fun k a e2 z1 z2 z3 z4 z5 z6 F2 fk z7 z8 => ?_) (fun k a e2 z1 z2 z3 z4 F2 R2 fk => ?_)
      · refine fault ?_ F2 R2 fk
        rw [← e]
        unfold parsP
        rw [z.resolve_right (by omega)]
      · obtain ⟨o1, o2, o3, o4, o5⟩ := stepP_ok z1
        refine B9_faultOf_30 hw (fun _ => ?_) (fun c => absurd c (by decide))
        refine B9_faultOf_35 hw ?_
        have e9 : P = (none, acc ++ [(k, a)]) := by
          rw [← e]
          unfold parsP
          rw [z1]
          simp only
          rw [if_pos z5]
        refine B9_faultOf_10 hw ml.1 (fun y => ?_) (fun y => ?_)
        · refine x_dr1 (B9_faultOf_38 hw ?_)
          refine (hP F2 _ ⟨fk.1.trans hFK.1, fk.2.trans hFK.2⟩).2 (by rw [e9]) (by rw [e9]; simp; omega) (by rw [e9]; simpa using z7) (by rw [e9]; exact hR.add k a) ?_
          rw [e9]
          intro q hq
          rcases List.mem_append.mp hq with hq | hq
          · exact hO q hq
          · simp at hq; subst hq; exact ⟨o1, o2, o3⟩
        · simp (disch := omega) only [gr_hM, gs_hM, ml.2.1, ml.2.2.1, ml.2.2.2.1, ml.2.2.2.2.1, ml.2.2.2.2.2, hM_F, hM_N, hM_S, hM_A, hM_T, hM_R, hM_sF, hM_sN, hM_sS, hM_sA, hM_sT, hM_sR, pk_mul, nI_add, nI_clamp, upd_eq, upd_ne] at y
          rw [fk.2.trans h5, z6, nI_leI (by omega) (by omega)] at y
          omega
      · obtain ⟨o1, o2, o3, o4, o5⟩ := stepP_ok z1
        refine B9_faultOf_30 hw (fun _ => ?_) (fun c => absurd c (by decide))
        refine B9_faultOf_35 hw ?_
        refine x_dr1 (ih (e2 + 2) (acc ++ [(k, a)]) F2 _ (by simp; omega) z6.1 ⟨fk.1.trans hFK.1, fk.2.trans hFK.2⟩ z7 (by simpa using z8) (hR.add k a) ?_ ?_)
        · intro q hq
          rcases List.mem_append.mp hq with hq | hq
          · exact hO q hq
          · simp at hq; subst hq; exact ⟨o1, o2, o3⟩
        · rw [← e]
          conv => rhs; unfold parsP
          rw [z1]
          simp only
          rw [if_neg (by omega), if_pos z6]
      · refine fault ?_ F2 R2 fk
        rw [← e]
        unfold parsP
        rw [z1]
        simp only
        rw [if_neg (by omega), if_neg z4]
theorem t9_faultOf {ω : Om} {h : AH} {m : Nat} {F N S A T R : Nat → Int32} {Q : Option Value → AH → Prop} (hw : ω.2.2.2.1 = true) (ml : ML h m) {len : Nat} (hl : len ≤ 100) (hF5 : F 5 = nI len) (q1 : ∀ x F' R', FK F F' → (parsT T len).1 = some x → x < 2 ^ 30 → Q (some (.int (nI x))) (hM h m F' N S A T R'))
    (q2 : ∀ F' R', FK F F' → (parsT T len).1 = none → (parsT T len).2.length ≤ 12 → F' 7 = nI (parsT T len).2.length → RowA R' (parsT T len).2 → StepsOk (parsT T len).2 → Q (some (.int (-4))) (hM h m F' N S A T R')) : Ex ω M9_faultOf 0 [some (.ref m), none] [] (hM h m F N S A T R) 0 0 Q := by
  refine B9_faultOf_0 hw ml.1 ?_
  simp (disch := omega) only [gr_hM, gs_hM, ml.2.1, ml.2.2.1, ml.2.2.2.1, ml.2.2.2.2.1, ml.2.2.2.2.2, hM_F, hM_N, hM_S, hM_A, hM_T, hM_R, hM_sF, hM_sN, hM_sS, hM_sA, hM_sT, hM_sR, pk_mul, nI_add, nI_clamp, upd_eq, upd_ne]
  have fk : FK F (upd (upd F 6 (nI 0)) 7 (nI 0)) := ((FK.rf F).up _ (by omega) (by omega)).up _ (by omega) (by omega)
  by_cases h0 : len = 0
  · subst h0
    refine B9_faultOf_10 hw ml.1 (fun z => ?_) (fun z => ?_)
    · exact B9_faultOf_38 hw (q2 _ R fk rfl (show (0 : Nat) ≤ 12 by omega) (upd_eq _ _ _) (fun i q hq => by simp [parsT] at hq) (fun q hq => by simp [parsT] at hq))
    · simp (disch := omega) only [gr_hM, gs_hM, ml.2.1, ml.2.2.1, ml.2.2.2.1, ml.2.2.2.2.1, ml.2.2.2.2.2, hM_F, hM_N, hM_S, hM_A, hM_T, hM_R, hM_sF, hM_sN, hM_sS, hM_sA, hM_sT, hM_sR, pk_mul, nI_add, nI_clamp, upd_eq, upd_ne] at z
      rw [hF5] at z
      exact absurd (nI_le (by omega) (by omega)) z
  · have e : parsT T len = parsP T len 12 0 [] := by unfold parsT; rw [if_neg h0]
    exact l9_faultOf (R := R) hw ml hl hF5 (fun _ _ _ _ _ => trivial) (parsT T len) (fun F' R' fk' => ⟨fun x hx hx2 => q1 x F' R' fk' hx hx2, fun a b c d o => q2 F' R' fk' a b c d o⟩) 12 0 [] _ R rfl (by omega) fk (by rw [upd_ne _ _ (by omega), upd_eq]) (upd_eq _ _ _) (fun i q hq => by simp at hq) (fun q hq => by simp at hq) e.symm
