/-! THE MODEL'S HEAP in one form: the object's numbers F, its rows now N, states S, aside A, text T, read R; and the plain small methods of both classes -/
theorem upd_eq (f : Nat → Int32) (k : Nat) (x : Int32) : upd f k x k = x := pk_us
theorem upd_ne (f : Nat → Int32) {k j : Nat} (x : Int32) (h : j ≠ k) : upd f k x j = f j := pk_un h
def hM (h : AH) (m : Nat) (F N S A T R : Nat → Int32) : AH := (h.1, fun a => if a = m then F else if a = m + 1 then N else if a = m + 2 then S else if a = m + 3 then A else if a = m + 4 then T else if a = m + 5 then R else h.2.1 a, h.2.2)
def ML (h : AH) (m : Nat) : Prop := gs h m = some (9, 17) ∧ gr h m 0 = m + 1 ∧ gr h m 1 = m + 2 ∧ gr h m 3 = m + 3 ∧ gr h m 4 = m + 4 ∧ gr h m 8 = m + 5
section HM
variable (h : AH) (m : Nat) (F N S A T R : Nat → Int32)
theorem gr_hM : gr (hM h m F N S A T R) = gr h := rfl
theorem gs_hM : gs (hM h m F N S A T R) = gs h := rfl
theorem gl_hM : gl (hM h m F N S A T R) = gl h := rfl
theorem hM_F : gi (hM h m F N S A T R) m = F := by simp [hM, gi]
theorem hM_N : gi (hM h m F N S A T R) (m + 1) = N := by simp [hM, gi]
theorem hM_S : gi (hM h m F N S A T R) (m + 2) = S := by simp [hM, gi]
theorem hM_A : gi (hM h m F N S A T R) (m + 3) = A := by simp [hM, gi]
theorem hM_T : gi (hM h m F N S A T R) (m + 4) = T := by simp [hM, gi]
theorem hM_R : gi (hM h m F N S A T R) (m + 5) = R := by simp [hM, gi]
theorem hM_o {b : Nat} (hb : b < m ∨ m + 6 ≤ b) : gi (hM h m F N S A T R) b = gi h b := by
  show (if b = m then F else if b = m + 1 then N else if b = m + 2 then S else if b = m + 3 then A else if b = m + 4 then T else if b = m + 5 then R else h.2.1 b) = h.2.1 b
  rw [if_neg (by omega), if_neg (by omega), if_neg (by omega), if_neg (by omega), if_neg (by omega), if_neg (by omega)]
theorem up2_row {α : Type} (f : Nat → Nat → α) (a k : Nat) (v : α) (b : Nat) : up2 f a k v b = if b = a then (fun j => if j = k then v else f a j) else f b := by
  funext j
  unfold up2
  by_cases hb : b = a
  · subst hb; simp
  · simp [hb]
theorem hM_ext {h : AH} {g1 g2 : Nat → Nat → Int32} (e : ∀ b, g1 b = g2 b) : ((h.1, g1, h.2.2) : AH) = (h.1, g2, h.2.2) := by rw [show g1 = g2 from funext e]
theorem hM_sF (k : Nat) (v : Int32) : si (hM h m F N S A T R) m k v = hM h m (upd F k v) N S A T R := by
  refine hM_ext (h := h) (fun b => ?_)
  rw [up2_row]
  by_cases e : b = m
  · subst e; rw [if_pos rfl]; funext j; simp [upd, hM]
  · rw [if_neg e]; simp [hM, e]
theorem hM_sN (k : Nat) (v : Int32) : si (hM h m F N S A T R) (m + 1) k v = hM h m F (upd N k v) S A T R := by
  refine hM_ext (h := h) (fun b => ?_)
  rw [up2_row]
  by_cases e : b = m + 1
  · subst e; rw [if_pos rfl]; funext j; simp [upd, hM]
  · rw [if_neg e]; simp [hM, e]
theorem hM_sS (k : Nat) (v : Int32) : si (hM h m F N S A T R) (m + 2) k v = hM h m F N (upd S k v) A T R := by
  refine hM_ext (h := h) (fun b => ?_)
  rw [up2_row]
  by_cases e : b = m + 2
  · subst e; rw [if_pos rfl]; funext j; simp [upd, hM]
  · rw [if_neg e]; simp [hM, e]
theorem hM_sA (k : Nat) (v : Int32) : si (hM h m F N S A T R) (m + 3) k v = hM h m F N S (upd A k v) T R := by
  refine hM_ext (h := h) (fun b => ?_)
  rw [up2_row]
  by_cases e : b = m + 3
  · subst e; rw [if_pos rfl]; funext j; simp [upd, hM]
  · rw [if_neg e]; simp [hM, e]
theorem hM_sT (k : Nat) (v : Int32) : si (hM h m F N S A T R) (m + 4) k v = hM h m F N S A (upd T k v) R := by
  refine hM_ext (h := h) (fun b => ?_)
  rw [up2_row]
  by_cases e : b = m + 4
  · subst e; rw [if_pos rfl]; funext j; simp [upd, hM]
  · rw [if_neg e]; simp [hM, e]
theorem hM_sR (k : Nat) (v : Int32) : si (hM h m F N S A T R) (m + 5) k v = hM h m F N S A T (upd R k v) := by
  refine hM_ext (h := h) (fun b => ?_)
  rw [up2_row]
  by_cases e : b = m + 5
  · subst e; rw [if_pos rfl]; funext j; simp [upd, hM]
  · rw [if_neg e]; simp [hM, e]
theorem hM_self : hM h m (gi h m) (gi h (m + 1)) (gi h (m + 2)) (gi h (m + 3)) (gi h (m + 4)) (gi h (m + 5)) = h := by
  refine (hM_ext (h := h) (g2 := h.2.1) (fun b => ?_)).trans rfl
  by_cases e0 : b = m
  · subst e0; simp [gi]
  by_cases e1 : b = m + 1
  · subst e1; simp [gi]
  by_cases e2 : b = m + 2
  · subst e2; simp [gi]
  by_cases e3 : b = m + 3
  · subst e3; simp [gi]
  by_cases e4 : b = m + 4
  · subst e4; simp [gi]
  by_cases e5 : b = m + 5
  · subst e5; simp [gi]
  simp [e0, e1, e2, e3, e4, e5]
end HM
/-! in and outside -/
theorem i2l_le (x y : Int32) : x.toInt64 ≤ y.toInt64 ↔ x ≤ y := by
  rw [Int64.le_iff_toInt_le, Int32.le_iff_toInt_le, Int32.toInt_toInt64, Int32.toInt_toInt64]
theorem t9_inL {ω : Om} {h : AH} {Q : Option Value → AH → Prop} (hw : ω.2.2.2.1 = true) {a b c : Int64} (q1 : b ≤ a → a ≤ c → Q (some (.int 1)) h) (q0 : ¬ (b ≤ a ∧ a ≤ c) → Q (some (.int 0)) h) : Ex ω M9_in 0 [some (.long a), none, some (.long b), none, some (.long c), none] [] h 0 0 Q := by
  refine B9_in_0 hw (fun c1 => ?_) (fun c1 => ?_)
  · refine B9_in_17 hw (B9_in_18 hw rfl (q0 (fun z => ?_)))
    rw [lg_cmp_lt] at c1
    exact Int64.not_le.mpr c1 z.1
  · rw [lg_cmp_lt, Int64.not_lt] at c1
    refine B9_in_6 hw (fun c2 => ?_) (fun c2 => ?_)
    · refine B9_in_17 hw (B9_in_18 hw rfl (q0 (fun z => ?_)))
      rw [lg_cmp_gt] at c2
      exact Int64.not_le.mpr c2 z.2
    · rw [lg_cmp_gt, Int64.not_lt] at c2
      exact B9_in_13 hw (B9_in_18 hw rfl (q1 c1 c2))
/-- in of ints: the bounds are longs of ints -/
theorem t9_in {ω : Om} {h : AH} {Q : Option Value → AH → Prop} (hw : ω.2.2.2.1 = true) {x lo hi : Int32} {b c : Int64} (hb : b = lo.toInt64) (hc : c = hi.toInt64) (q1 : lo ≤ x → x ≤ hi → Q (some (.int 1)) h) (q0 : ¬ (lo ≤ x ∧ x ≤ hi) → Q (some (.int 0)) h) : Ex ω M9_in 0 [some (.long x.toInt64), none, some (.long b), none, some (.long c), none] [] h 0 0 Q := by
  subst hb; subst hc
  exact t9_inL hw (fun z1 z2 => q1 ((i2l_le _ _).mp z1) ((i2l_le _ _).mp z2)) (fun z => q0 (fun y => z ⟨(i2l_le _ _).mpr y.1, (i2l_le _ _).mpr y.2⟩))
theorem t8_outside {ω : Om} {h : AH} {Q : Option Value → AH → Prop} (hw : ω.2.2.2.1 = true) {x lo hi : Int32} (q0 : lo ≤ x → x ≤ hi → Q (some (.int 0)) h) (q1 : ¬ (lo ≤ x ∧ x ≤ hi) → Q (some (.int 1)) h) : Ex ω M8_outside 0 [some (.int x), some (.int lo), some (.int hi)] [] h 0 0 Q := by
  refine B8_outside_0 hw (fun c1 => ?_) (fun c1 => ?_)
  · exact B8_outside_10 hw (B8_outside_15 hw rfl (q1 (fun z => Int32.not_le.mpr c1 z.1)))
  · refine B8_outside_5 hw (fun c2 => ?_) (fun c2 => ?_)
    · exact B8_outside_14 hw (B8_outside_15 hw rfl (q0 (Int32.not_lt.mp c1) c2))
    · exact B8_outside_10 hw (B8_outside_15 hw rfl (q1 (fun z => c2 z.2)))
/-! the model's small ones -/
theorem t9_up {ω : Om} {h : AH} {Q : Option Value → AH → Prop} (hw : ω.2.2.2.1 = true) {a b : Int32} (hb : ¬ b = 0) (hq : Q (some (.int ((a + b - nI 1) / b))) h) : Ex ω M9_up 0 [some (.int a), some (.int b)] [] h 0 0 Q := B9_up_0 hw hb hq
def lesser (a b : Int32) : Int32 := if a < b then a else b
theorem t9_lesser {ω : Om} {h : AH} {Q : Option Value → AH → Prop} (hw : ω.2.2.2.1 = true) {a b : Int32} (hq : Q (some (.int (lesser a b))) h) : Ex ω M9_lesser 0 [some (.int a), some (.int b)] [] h 0 0 Q := by
  unfold lesser at hq
  refine B9_lesser_0 hw (fun c1 => ?_) (fun c1 => ?_)
  · rw [if_neg (Int32.not_lt.mpr c1)] at hq
    exact B9_lesser_9 hw (B9_lesser_10 hw hq)
  · rw [if_pos (Int32.not_le.mp c1)] at hq
    exact B9_lesser_5 hw (B9_lesser_10 hw hq)
def forceF (t : Int32) : Int32 := t * nI 141 / nI 100
theorem t9_forceOf {ω : Om} {h : AH} {Q : Option Value → AH → Prop} (hw : ω.2.2.2.1 = true) {t : Int32} (hq : Q (some (.int (forceF t))) h) : Ex ω M9_forceOf 0 [some (.int t)] [] h 0 0 Q := B9_forceOf_0 hw hq
theorem t8_forceOf {ω : Om} {h : AH} {Q : Option Value → AH → Prop} (hw : ω.2.2.2.1 = true) {t : Int32} (hq : Q (some (.int (forceF t))) h) : Ex ω M8_forceOf 0 [some (.int t)] [] h 0 0 Q := B8_forceOf_0 hw hq
theorem t9_rollAt {ω : Om} {h : AH} {m : Nat} {F N S A T R : Nat → Int32} {Q : Option Value → AH → Prop} (hw : ω.2.2.2.1 = true) (ml : ML h m) {i k : Nat} (hi : i < 6) (hk : k < 20) (hq : Q (some (.int (N (20 + 20 * i + k)))) (hM h m F N S A T R)) : Ex ω M9_rollAt 0 [some (.ref m), some (.int (nI i)), some (.int (nI k))] [] (hM h m F N S A T R) 0 0 Q := by
  refine B9_rollAt_0 hw ml.1 ?_ ?_
  · simp only [pk_mul, nI_add]; exact vp_in_nI (by omega) (by omega)
  · simp (disch := omega) only [gr_hM, gs_hM, ml.2.1, ml.2.2.1, ml.2.2.2.1, ml.2.2.2.2.1, ml.2.2.2.2.2, hM_F, hM_N, hM_S, hM_A, hM_T, hM_R, hM_sF, hM_sN, hM_sS, hM_sA, hM_sT, hM_sR, pk_mul, nI_add, nI_clamp, upd_eq, upd_ne]
    exact hq
theorem t9_palletAt {ω : Om} {h : AH} {m : Nat} {F N S A T R : Nat → Int32} {Q : Option Value → AH → Prop} (hw : ω.2.2.2.1 = true) (ml : ML h m) {i k : Nat} (hi : i < 8) (hk : k < 6) (hq : Q (some (.int (N (140 + 6 * i + k)))) (hM h m F N S A T R)) : Ex ω M9_palletAt 0 [some (.ref m), some (.int (nI i)), some (.int (nI k))] [] (hM h m F N S A T R) 0 0 Q := by
  refine B9_palletAt_0 hw ml.1 ?_ ?_
  · simp only [pk_mul, nI_add]; exact vp_in_nI (by omega) (by omega)
  · simp (disch := omega) only [gr_hM, gs_hM, ml.2.1, ml.2.2.1, ml.2.2.2.1, ml.2.2.2.2.1, ml.2.2.2.2.2, hM_F, hM_N, hM_S, hM_A, hM_T, hM_R, hM_sF, hM_sN, hM_sS, hM_sA, hM_sT, hM_sR, pk_mul, nI_add, nI_clamp, upd_eq, upd_ne]
    exact hq
theorem t9_isRoll {ω : Om} {h : AH} {m : Nat} {F N S A T R : Nat → Int32} {Q : Option Value → AH → Prop} (hw : ω.2.2.2.1 = true) (ml : ML h m) {r : Int32} {c : Nat} (hc : N 0 = nI c) (hc6 : c ≤ 6) (q1 : ∀ i : Nat, i < c → r = nI i → Q (some (.int 1)) (hM h m F N S A T R)) (q0 : ¬ (0 ≤ r ∧ r < nI c) → Q (some (.int 0)) (hM h m F N S A T R)) : Ex ω M9_isRoll 0 [some (.ref m), some (.int r)] [] (hM h m F N S A T R) 0 0 Q := by
  have e1 : (nI c - nI 1).toInt = (c : Int) - 1 := pk_sub_toInt (by omega) (by omega)
  have ec : (nI c).toInt = (c : Int) := nI_toInt (by omega)
  have e0 : (0 : Int32).toInt = 0 := rfl
  refine B9_isRoll_0 hw ml.1 ?_
  simp (disch := omega) only [gr_hM, gs_hM, ml.2.1, ml.2.2.1, ml.2.2.2.1, ml.2.2.2.2.1, ml.2.2.2.2.2, hM_F, hM_N, hM_S, hM_A, hM_T, hM_R, hM_sF, hM_sN, hM_sS, hM_sA, hM_sT, hM_sR, pk_mul, nI_add, nI_clamp, upd_eq, upd_ne]
  rw [hc]
  refine t9_in hw (lo := 0) (hi := nI c - nI 1) rfl rfl (fun z1 z2 => ?_) (fun z => ?_)
  · refine B9_isRoll_15 hw rfl ?_
    obtain ⟨i, hi, rfl⟩ := nI_of (Int32.not_lt.mpr z1)
    have ei : (nI i).toInt = (i : Int) := nI_toInt hi
    rw [Int32.le_iff_toInt_le, e1, ei] at z2
    exact q1 i (by omega) rfl
  · refine B9_isRoll_15 hw rfl (q0 (fun y => z ⟨y.1, ?_⟩))
    have y2 := y.2
    rw [Int32.lt_iff_toInt_lt, ec] at y2
    rw [Int32.le_iff_toInt_le, e1]
    omega
