/-! the model: wrap, ifWrap, supply -/
theorem INV.wraps {ω : Om} {h : AH} {m : Nat} {F N S A T R : Nat → Int32} {Q : Option Value → AH → Prop} (hw : ω.2.2.2.1 = true) (ml : ML h m) (hs1 : gs h (m + 1) = some (10, 596)) {fu K c w k d nx lo hi : Nat} {acc : List (Nat × Nat)} (iv : INV N K c w d nx lo hi acc) (hK : K < 2 ^ 28) (fr : frontK N w k) (hfu : 600007 ≤ fu) (hq : ∀ F' : Nat → Int32, F' 2 = F 2 → F' 5 = F 5 → F' 9 = nI (entE d) → Q (some (.int (nI (wrapsN fu N w k d acc).1))) (hM h m F' (wrapsN fu N w k d acc).2 S A T R)) : Ex ω M9_wraps 0 [some (.ref m), none, none, none] [] (hM h m F N S A T R) 0 0 Q := by
  obtain ⟨ri, pi, si, ⟨th, hth, ht⟩, -, ⟨h7, h7d⟩, -⟩ := iv
  exact t9_wraps hw ml hs1 pi fr si ri hth ht h7 (by omega) hfu hq
theorem t9_wrap {ω : Om} {h : AH} {m : Nat} {F N S A T R : Nat → Int32} {Q : Option Value → AH → Prop} (hw : ω.2.2.2.1 = true) (ml : ML h m) (hs1 : gs h (m + 1) = some (10, 596)) {fu K c w k d nx lo hi st : Nat} {acc : List (Nat × Nat)} (iv : INV N K c w d nx lo hi acc) (hK : K < 2 ^ 28) (fr : 1 ≤ w → frontK N w k) (hfu : 600007 ≤ fu) (hst : st ≤ 4) (hF : F 2 = nI st) (q0 : w = 0 → Q (some (.int (-2))) (hM h m F N S A T R)) (q1 : 1 ≤ w → ∀ (F' S' : Nat → Int32) (st' : Nat), st' ≤ 4 → MH S' st' = pushH (MH S st) N → F' 2 = nI st' → F' 5 = F 5 → Q (some (.int (nI (wrapsN fu N w k d acc).1))) (hM h m F' (wrapsN fu N w k d acc).2 S' A T R)) : Ex ω M9_wrap 0 [some (.ref m)] [] (hM h m F N S A T R) 0 0 Q := by
  have h1 := iv.2.1.1
  have hw8 := iv.2.1.2.1
  refine B9_wrap_0 hw ml.1 (fun c => ?_) (fun c => ?_)
  · simp (disch := omega) only [gr_hM, gs_hM, ml.2.1, ml.2.2.1, ml.2.2.2.1, ml.2.2.2.2.1, ml.2.2.2.2.2, hM_F, hM_N, hM_S, hM_A, hM_T, hM_R, hM_sF, hM_sN, hM_sS, hM_sA, hM_sT, hM_sR, pk_mul, nI_add, nI_clamp, upd_eq, upd_ne, h1] at c
    rw [show (0 : Int32) = nI 0 from rfl, nI_eq (by omega) (by omega)] at c
    refine B9_wrap_12 hw ml.1 (t9_change hw ml hst hF iv.2.2.2.2.2.2.2.2.2.2 (fun S' st' hst' hm => ?_))
    refine B9_wrap_16 hw ml.1 (iv.wraps hw ml hs1 hK (fr (by omega)) hfu (fun F' f2 f5 _ => B9_wrap_20 hw ?_))
    exact q1 (by omega) F' S' st' hst' hm (f2.trans (upd_eq _ _ _)) (f5.trans (upd_ne _ _ (by omega)))
  · simp (disch := omega) only [gr_hM, gs_hM, ml.2.1, ml.2.2.1, ml.2.2.2.1, ml.2.2.2.2.1, ml.2.2.2.2.2, hM_F, hM_N, hM_S, hM_A, hM_T, hM_R, hM_sF, hM_sN, hM_sS, hM_sA, hM_sT, hM_sR, pk_mul, nI_add, nI_clamp, upd_eq, upd_ne, h1] at c
    rw [show (0 : Int32) = nI 0 from rfl, nI_eq (by omega) (by omega)] at c
    exact B9_wrap_9 hw (q0 c)
theorem t9_ifWrap {ω : Om} {h : AH} {m : Nat} {F N S A T R : Nat → Int32} {Q : Option Value → AH → Prop} (hw : ω.2.2.2.1 = true) (ml : ML h m) (hs1 : gs h (m + 1) = some (10, 596)) (zA : Z596 A) {fu K c w k d nx lo hi : Nat} {acc : List (Nat × Nat)} {x : Int32} (iv : INV N K c w d nx lo hi acc) (hK : K < 2 ^ 28) (fr : 1 ≤ w → frontK N w k) (hfu : 600007 ≤ fu) (qx : ¬ (0 ≤ x ∧ x ≤ nI 9) → Q (some (.int (-1))) (hM h m F N S A T R)) (q0 : (0 ≤ x ∧ x ≤ nI 9) → w = 0 → Q (some (.int (-2))) (hM h m F N S A T R)) (q1 : 1 ≤ w → ∀ j : Nat, x = nI j → j ≤ 9 → ∀ (F' : Nat → Int32), F' 2 = F 2 → F' 5 = F 5 → Q (some (.int ((wrapsN fu N w k d acc).2 (entE d + 1 + j)))) (hM h m F' N S N T R)) : Ex ω M9_ifWrap 0 [some (.ref m), some (.int x), none] [] (hM h m F N S A T R) 0 0 Q := by
  have h1 := iv.2.1.1
  have hw8 := iv.2.1.2.1
  have zN : Z596 N := iv.2.2.2.2.2.2.2.2.2.2
  refine B9_ifWrap_0 hw (t9_in hw (lo := 0) (hi := nI 9) rfl rfl (fun a1 a2 => ?_) (fun a => ?_))
  · refine B9_ifWrap_9 hw (fun _ => ?_) (fun c => absurd c (by decide))
    refine B9_ifWrap_14 hw ml.1 (fun c => ?_) (fun c => ?_)
    · simp (disch := omega) only [gr_hM, gs_hM, ml.2.1, ml.2.2.1, ml.2.2.2.1, ml.2.2.2.2.1, ml.2.2.2.2.2, hM_F, hM_N, hM_S, hM_A, hM_T, hM_R, hM_sF, hM_sN, hM_sS, hM_sA, hM_sT, hM_sR, pk_mul, nI_add, nI_clamp, upd_eq, upd_ne, h1] at c
      rw [show (0 : Int32) = nI 0 from rfl, nI_eq (by omega) (by omega)] at c
      obtain ⟨j, rfl, -, hj⟩ := bd_of (lo := 0) (hi := 9) (by omega) (by omega) a1 a2
      obtain ⟨he1, he2⟩ := entE_b d
      obtain ⟨c', lo', hi', iv'⟩ := (wraps_inv iv hK (fr (by omega)).1 hfu).1
      have q2 := q1 (by omega) j rfl hj
      refine B9_ifWrap_26 hw ml.1 (t9_laysAside hw ml zN zA ?_)
      refine B9_ifWrap_30 hw ml.1 (iv.wraps hw ml hs1 hK (fr (by omega)) hfu (fun F' f2 f5 f9 => ?_))
      generalize (wrapsN fu N w k d acc).2 = N' at *
      refine B9_ifWrap_34 hw ml.1 (by simp (disch := omega) only [gr_hM, gs_hM, ml.2.1, ml.2.2.1, ml.2.2.2.1, ml.2.2.2.2.1, ml.2.2.2.2.2, hM_F, hM_N, hM_S, hM_A, hM_T, hM_R, hM_sF, hM_sN, hM_sS, hM_sA, hM_sT, hM_sR, pk_mul, nI_add, nI_clamp, upd_eq, upd_ne, f9]; exact vp_in_nI (by omega) (by omega)) (t9_takesBack hw ml iv'.2.2.2.2.2.2.2.2.2.2 zN ?_)
      simp (disch := omega) only [gr_hM, gs_hM, ml.2.1, ml.2.2.1, ml.2.2.2.1, ml.2.2.2.2.1, ml.2.2.2.2.2, hM_F, hM_N, hM_S, hM_A, hM_T, hM_R, hM_sF, hM_sN, hM_sS, hM_sA, hM_sT, hM_sR, pk_mul, nI_add, nI_clamp, upd_eq, upd_ne, f9]
      exact B9_ifWrap_53 hw (q2 F' f2 f5)
    · simp (disch := omega) only [gr_hM, gs_hM, ml.2.1, ml.2.2.1, ml.2.2.2.1, ml.2.2.2.2.1, ml.2.2.2.2.2, hM_F, hM_N, hM_S, hM_A, hM_T, hM_R, hM_sF, hM_sN, hM_sS, hM_sA, hM_sT, hM_sR, pk_mul, nI_add, nI_clamp, upd_eq, upd_ne, h1] at c
      rw [show (0 : Int32) = nI 0 from rfl, nI_eq (by omega) (by omega)] at c
      exact B9_ifWrap_23 hw (q0 ⟨a1, a2⟩ c)
  · exact B9_ifWrap_9 hw (fun c => absurd rfl c) (fun _ => B9_ifWrap_12 hw (qx a))
/-- the index of the pallet whose turn it is -/
def frontF (N : Nat → Int32) (w : Nat) : Nat → Nat
  | 0 => 0
  | f + 1 => if aheadC N (w - (f + 1)) w = 0 then w - (f + 1) else frontF N w f
theorem frontF_spec {N : Nat → Int32} {w : Nat} : ∀ f, f ≤ w → (∀ j, j < w - f → aheadC N j w ≠ 0) → (∃ k, k < w ∧ aheadC N k w = 0) → frontK N w (frontF N w f) := by
  intro f
  induction f with
  | zero => intro _ h ⟨k, hk, h0⟩; exact absurd h0 (h k (by omega))
  | succ f ih =>
    intro hf h he
    show frontK N w (if aheadC N (w - (f + 1)) w = 0 then w - (f + 1) else frontF N w f)
    by_cases c : aheadC N (w - (f + 1)) w = 0
    · rw [if_pos c]; exact ⟨by omega, c, h⟩
    · rw [if_neg c]
      refine ih (by omega) (fun j hj => ?_) he
      by_cases z : j = w - (f + 1)
      · rw [z]; exact c
      · exact h j (by omega)
theorem frontF_k {N : Nat → Int32} {w : Nat} (h : 1 ≤ w) : frontK N w (frontF N w w) := frontF_spec w (Nat.le_refl _) (fun j hj => by omega) (front_ex w h)
/-- how many are wrapped before one is given up -/
def supN (fu : Nat) (acc : List (Nat × Nat)) : Nat → Nat → (Nat → Int32) → Nat
  | 0, _, _ => 0
  | w + 1, d, N => if (wrapsN fu N (w + 1) (frontF N (w + 1) (w + 1)) d acc).1 = 0 then supN fu acc w (d + 1) (wrapsN fu N (w + 1) (frontF N (w + 1) (w + 1)) d acc).2 + 1 else 0
theorem supN_succ (fu : Nat) (acc : List (Nat × Nat)) (w d : Nat) (N : Nat → Int32) : supN fu acc (w + 1) d N = if (wrapsN fu N (w + 1) (frontF N (w + 1) (w + 1)) d acc).1 = 0 then supN fu acc w (d + 1) (wrapsN fu N (w + 1) (frontF N (w + 1) (w + 1)) d acc).2 + 1 else 0 := rfl
theorem supN_le (fu : Nat) (acc : List (Nat × Nat)) : ∀ w d N, supN fu acc w d N ≤ w := by
  intro w
  induction w with
  | zero => intro d N; exact Nat.le_refl _
  | succ w ih => intro d N; unfold supN; have := ih (d + 1) (wrapsN fu N (w + 1) (frontF N (w + 1) (w + 1)) d acc).2; split <;> omega
theorem t9_supply {ω : Om} {h : AH} {m : Nat} {F N S A T R : Nat → Int32} {Q : Option Value → AH → Prop} (hw : ω.2.2.2.1 = true) (ml : ML h m) (hs1 : gs h (m + 1) = some (10, 596)) (zA : Z596 A) {fu K c w d nx lo hi : Nat} {acc : List (Nat × Nat)} (iv : INV N K c w d nx lo hi acc) (hK : K < 2 ^ 27) (hfu : 600007 ≤ fu) (hq : ∀ (F' : Nat → Int32), F' 2 = F 2 → F' 5 = F 5 → Q (some (.int (nI (supN fu acc w d N)))) (hM h m F' N S N T R)) : Ex ω M9_supply 0 [some (.ref m), none, none] [] (hM h m F N S A T R) 0 0 Q := by
  have zN : Z596 N := iv.2.2.2.2.2.2.2.2.2.2
  have hw8 := iv.2.1.2.1
  refine B9_supply_0 hw ml.1 (t9_laysAside hw ml zN zA (B9_supply_4 hw ?_))
  have fin : ∀ (n : Nat) (F' N' : Nat → Int32), F' 2 = F 2 → F' 5 = F 5 → Z596 N' → n = supN fu acc w d N → Ex ω M9_supply 49 [some (.ref m), some (.int (nI n)), none] [] (hM h m F' N' S N T R) 0 0 Q := by
    intro n F' N' f2 f5 z' hn
    subst hn
    exact B9_supply_49 hw ml.1 (t9_takesBack hw ml z' zN (B9_supply_53 hw (hq F' f2 f5)))
  have lp : ∀ (w' K' c' d' lo' hi' n : Nat) (F' N' : Nat → Int32), INV N' K' c' w' d' nx lo' hi' acc → K' + w' < 2 ^ 28 → F' 2 = F 2 → F' 5 = F 5 → n + supN fu acc w' d' N' = supN fu acc w d N → Ex ω M9_supply 8 [some (.ref m), some (.int (nI n)), some (.int (nI 1))] [] (hM h m F' N' S N T R) 0 0 Q := by
    intro w'
    induction w' with
    | zero =>
      intro K' c' d' lo' hi' n F' N' iv' hK' f2 f5 hn
      refine B9_supply_8 hw (fun c => absurd c (by decide)) (fun _ => ?_)
      refine B9_supply_12 hw ml.1 (fun _ => fin n F' N' f2 f5 iv'.2.2.2.2.2.2.2.2.2.2 hn) (fun c => ?_)
      simp (disch := omega) only [gr_hM, gs_hM, ml.2.1, ml.2.2.1, ml.2.2.2.1, ml.2.2.2.2.1, ml.2.2.2.2.2, hM_F, hM_N, hM_S, hM_A, hM_T, hM_R, hM_sF, hM_sN, hM_sS, hM_sA, hM_sT, hM_sR, pk_mul, nI_add, nI_clamp, upd_eq, upd_ne, iv'.2.1.1] at c
      exact absurd (by decide) c
    | succ w' ih =>
      intro K' c' d' lo' hi' n F' N' iv' hK' f2 f5 hn
      have hw8' := iv'.2.1.2.1
      have fk := frontF_k (N := N') (w := w' + 1) (by omega)
      obtain ⟨⟨c2, lo2, hi2, iv2⟩, g2⟩ := wraps_inv iv' (by omega) fk.1 hfu
      rw [supN_succ fu acc w' d' N'] at hn
      have nle := supN_le fu acc w d N
      refine B9_supply_8 hw (fun c => absurd c (by decide)) (fun _ => ?_)
      refine B9_supply_12 hw ml.1 (fun c => ?_) (fun _ => ?_)
      · simp (disch := omega) only [gr_hM, gs_hM, ml.2.1, ml.2.2.1, ml.2.2.2.1, ml.2.2.2.2.1, ml.2.2.2.2.2, hM_F, hM_N, hM_S, hM_A, hM_T, hM_R, hM_sF, hM_sN, hM_sS, hM_sA, hM_sT, hM_sR, pk_mul, nI_add, nI_clamp, upd_eq, upd_ne, iv'.2.1.1] at c
        rw [show (0 : Int32) = nI 0 from rfl, nI_leI (by omega) (by omega)] at c
        omega
      refine B9_supply_21 hw ml.1 (iv'.wraps hw ml hs1 (by omega) fk hfu (fun F2 g2' g5' _ => ?_))
      generalize wrapsN fu N' (w' + 1) (frontF N' (w' + 1) (w' + 1)) d' acc = r at *
      refine B9_supply_25 hw (fun c => ?_) (fun c => ?_)
      · rw [show (0 : Int32) = nI 0 from rfl, nI_eq (by omega) (by omega)] at c
        rw [if_neg c] at hn
        refine B9_supply_32 hw (B9_supply_33 hw (fun _ => B9_supply_43 hw (B9_supply_44 hw ?_)) (fun c => absurd rfl c))
        rw [nI_add]
        refine B9_supply_8 hw (fun _ => ?_) (fun c => absurd rfl c)
        exact x_dr2 (fin _ F2 r.2 (g2'.trans f2) (g5'.trans f5) iv2.2.2.2.2.2.2.2.2.2.2 hn)
      · rw [show (0 : Int32) = nI 0 from rfl, nI_eq (by omega) (by omega)] at c
        rw [if_pos c] at hn
        refine B9_supply_28 hw (B9_supply_33 hw (fun c => absurd c (by decide)) (fun _ => B9_supply_39 hw (B9_supply_44 hw ?_)))
        rw [nI_add]
        exact ih (K' + 1) c2 (d' + 1) lo2 hi2 (n + 1) F2 r.2 iv2 (by omega) (g2'.trans f2) (g5'.trans f5) (by omega)
  exact lp w K c d lo hi 0 F N iv (by omega) rfl rfl (by omega)
