/-! the model: a pallet is wrapped -/
theorem t9_begins {ω : Om} {h : AH} {m : Nat} {F N S A T R : Nat → Int32} {Q : Option Value → AH → Prop} (hw : ω.2.2.2.1 = true) (ml : ML h m) {k wd dp hi lim : Nat} (hk : k < 8) (h1 : N (141 + 6 * k) = nI wd) (h2 : N (142 + 6 * k) = nI dp) (h3 : N (143 + 6 * k) = nI hi) (h4 : N (144 + 6 * k) = nI lim) (b1 : wd ≤ 200) (b2 : dp ≤ 200) (b3 : hi ≤ 250) (hq : ∀ F' : Nat → Int32, F' 10 = nI (2 * (wd + dp)) → F' 12 = nI ((hi + 9) / 10) → F' 13 = nI (hi - 50) → F' 11 = nI lim → RS F' (0, 40, 100) → (∀ j, j < 10 → F' j = F j) → Q none (hM h m F' N S A T R)) : Ex ω M9_begins 0 [some (.ref m), some (.int (nI k))] [] (hM h m F N S A T R) 0 0 Q := by
  refine B9_begins_0 hw ml.1 (t9_palletAt hw ml hk (by omega) ?_)
  refine B9_begins_8 hw ml.1 (t9_palletAt hw ml hk (by omega) ?_)
  rw [show 140 + 6 * k + 1 = 141 + 6 * k from by omega, show 140 + 6 * k + 2 = 142 + 6 * k from by omega, h1, h2]
  refine B9_begins_14 hw ml.1 ml.1 ?_
  simp (disch := omega) only [gr_hM, gs_hM, ml.2.1, ml.2.2.1, ml.2.2.2.1, ml.2.2.2.2.1, ml.2.2.2.2.2, hM_F, hM_N, hM_S, hM_A, hM_T, hM_R, hM_sF, hM_sN, hM_sS, hM_sA, hM_sT, hM_sR, pk_mul, nI_add, nI_clamp, upd_eq, upd_ne]
  refine t9_palletAt hw ml hk (by omega) ?_
  rw [show 140 + 6 * k + 3 = 143 + 6 * k from by omega, h3]
  refine B9_begins_26 hw (t9_up hw (by decide) ?_)
  rw [nI_add, pk_sub (by omega), pk_div (by omega) (by omega) (by omega), show hi + 10 - 1 = hi + 9 from by omega]
  refine B9_begins_31 hw ml.1 ml.1 ?_
  simp (disch := omega) only [gr_hM, gs_hM, ml.2.1, ml.2.2.1, ml.2.2.2.1, ml.2.2.2.2.1, ml.2.2.2.2.2, hM_F, hM_N, hM_S, hM_A, hM_T, hM_R, hM_sF, hM_sN, hM_sS, hM_sA, hM_sT, hM_sR, pk_mul, nI_add, nI_clamp, upd_eq, upd_ne]
  refine t9_palletAt hw ml hk (by omega) ?_
  rw [show 140 + 6 * k + 3 = 143 + 6 * k from by omega, h3]
  have go : Ex ω M9_begins 59 [some (.ref m), some (.int (nI k))] [.int (nI (hi - 50)), .ref m] (hM h m (upd (upd F 10 (nI (2 * (wd + dp)))) 12 (nI ((hi + 9) / 10))) N S A T R) 0 0 Q := by
    refine B9_begins_59 hw ml.1 ml.1 ?_
    simp (disch := omega) only [gr_hM, gs_hM, ml.2.1, ml.2.2.1, ml.2.2.2.1, ml.2.2.2.2.1, ml.2.2.2.2.2, hM_F, hM_N, hM_S, hM_A, hM_T, hM_R, hM_sF, hM_sN, hM_sS, hM_sA, hM_sT, hM_sR, pk_mul, nI_add, nI_clamp, upd_eq, upd_ne]
    refine t9_palletAt hw ml hk (by omega) ?_
    rw [show 140 + 6 * k + 4 = 144 + 6 * k from by omega, h4]
    refine B9_begins_69 hw ml.1 ml.1 ?_
    simp (disch := omega) only [gr_hM, gs_hM, ml.2.1, ml.2.2.1, ml.2.2.2.1, ml.2.2.2.2.1, ml.2.2.2.2.2, hM_F, hM_N, hM_S, hM_A, hM_T, hM_R, hM_sF, hM_sN, hM_sS, hM_sA, hM_sT, hM_sR, pk_mul, nI_add, nI_clamp, upd_eq, upd_ne]
    refine hq _ (by simp (disch := omega) only [gr_hM, gs_hM, ml.2.1, ml.2.2.1, ml.2.2.2.1, ml.2.2.2.2.1, ml.2.2.2.2.2, hM_F, hM_N, hM_S, hM_A, hM_T, hM_R, hM_sF, hM_sN, hM_sS, hM_sA, hM_sT, hM_sR, pk_mul, nI_add, nI_clamp, upd_eq, upd_ne]) (by simp (disch := omega) only [gr_hM, gs_hM, ml.2.1, ml.2.2.1, ml.2.2.2.1, ml.2.2.2.2.1, ml.2.2.2.2.2, hM_F, hM_N, hM_S, hM_A, hM_T, hM_R, hM_sF, hM_sN, hM_sS, hM_sA, hM_sT, hM_sR, pk_mul, nI_add, nI_clamp, upd_eq, upd_ne]) (by simp (disch := omega) only [gr_hM, gs_hM, ml.2.1, ml.2.2.1, ml.2.2.2.1, ml.2.2.2.2.1, ml.2.2.2.2.2, hM_F, hM_N, hM_S, hM_A, hM_T, hM_R, hM_sF, hM_sN, hM_sS, hM_sA, hM_sT, hM_sR, pk_mul, nI_add, nI_clamp, upd_eq, upd_ne]) (by simp (disch := omega) only [gr_hM, gs_hM, ml.2.1, ml.2.2.1, ml.2.2.2.1, ml.2.2.2.2.1, ml.2.2.2.2.2, hM_F, hM_N, hM_S, hM_A, hM_T, hM_R, hM_sF, hM_sN, hM_sS, hM_sA, hM_sT, hM_sR, pk_mul, nI_add, nI_clamp, upd_eq, upd_ne]) ⟨by simp (disch := omega) only [gr_hM, gs_hM, ml.2.1, ml.2.2.1, ml.2.2.2.1, ml.2.2.2.2.1, ml.2.2.2.2.2, hM_F, hM_N, hM_S, hM_A, hM_T, hM_R, hM_sF, hM_sN, hM_sS, hM_sA, hM_sT, hM_sR, pk_mul, nI_add, nI_clamp, upd_eq, upd_ne], by simp (disch := omega) only [gr_hM, gs_hM, ml.2.1, ml.2.2.1, ml.2.2.2.1, ml.2.2.2.2.1, ml.2.2.2.2.2, hM_F, hM_N, hM_S, hM_A, hM_T, hM_R, hM_sF, hM_sN, hM_sS, hM_sA, hM_sT, hM_sR, pk_mul, nI_add, nI_clamp, upd_eq, upd_ne], by simp (disch := omega) only [gr_hM, gs_hM, ml.2.1, ml.2.2.1, ml.2.2.2.1, ml.2.2.2.2.1, ml.2.2.2.2.2, hM_F, hM_N, hM_S, hM_A, hM_T, hM_R, hM_sF, hM_sN, hM_sS, hM_sA, hM_sT, hM_sR, pk_mul, nI_add, nI_clamp, upd_eq, upd_ne]⟩ (fun j hj => by simp (disch := omega) only [gr_hM, gs_hM, ml.2.1, ml.2.2.1, ml.2.2.2.1, ml.2.2.2.2.1, ml.2.2.2.2.2, hM_F, hM_N, hM_S, hM_A, hM_T, hM_R, hM_sF, hM_sN, hM_sS, hM_sA, hM_sT, hM_sR, pk_mul, nI_add, nI_clamp, upd_eq, upd_ne])
  refine B9_begins_41 hw (fun c => ?_) (fun c => ?_)
  · rw [nI_leI (by omega) (by omega)] at c
    rw [show hi - 50 = 0 from by omega] at go
    exact B9_begins_58 hw go
  · rw [nI_leI (by omega) (by omega)] at c
    refine B9_begins_46 hw ml.1 (t9_palletAt hw ml hk (by omega) ?_)
    rw [show 140 + 6 * k + 3 = 143 + 6 * k from by omega, h3]
    refine B9_begins_52 hw ?_
    rw [pk_sub (by omega)]
    exact go

theorem aheadC_0 {N : Nat → Int32} {k : Nat} : ∀ w, aheadC N k w = 0 ↔ ∀ i, i < w → ¬ aheadP N i k := by
  intro w
  induction w with
  | zero => exact ⟨fun _ i hi => absurd hi (by omega), fun _ => rfl⟩
  | succ w ih =>
    unfold aheadC
    constructor
    · intro h i hi
      by_cases z : i = w
      · subst z; intro q; unfold aheadP at q; rw [if_pos q] at h; omega
      · exact ih.mp (by omega) i (by omega)
    · intro h
      have hw := h w (by omega)
      unfold aheadP at hw
      rw [if_neg hw, ih.mpr (fun i hi => h i (by omega))]
def aheadV (N : Nat → Int32) (i k : Nat) : Prop := (N (140 + 6 * i + 5)).toInt < (N (140 + 6 * k + 5)).toInt ∨ ((N (140 + 6 * i + 5)).toInt = (N (140 + 6 * k + 5)).toInt ∧ (N (140 + 6 * i + 0)).toInt < (N (140 + 6 * k + 0)).toInt)
theorem aheadP_iff {N : Nat → Int32} {i k : Nat} : aheadP N i k ↔ aheadV N i k := by
  unfold aheadP aheadV
  rw [Int32.lt_iff_toInt_lt, Int32.lt_iff_toInt_lt, Int32.toInt_inj]
theorem front_ex {N : Nat → Int32} : ∀ w, 1 ≤ w → ∃ k, k < w ∧ aheadC N k w = 0 := by
  have h : ∀ w, 1 ≤ w → ∃ k, k < w ∧ ∀ i, i < w → ¬ aheadP N i k := by
    intro w
    induction w with
    | zero => intro h; omega
    | succ w ih =>
      intro _
      by_cases w0 : w = 0
      · subst w0
        refine ⟨0, by omega, fun i hi q => ?_⟩
        rw [aheadP_iff, show i = 0 from by omega] at q
        unfold aheadV at q; omega
      obtain ⟨k, hk, hm⟩ := ih (by omega)
      by_cases c : aheadP N w k
      · refine ⟨w, by omega, fun i hi q => ?_⟩
        by_cases z : i = w
        · subst z
          rw [aheadP_iff] at q; unfold aheadV at q; omega
        · refine hm i (by omega) ?_
          rw [aheadP_iff] at q c ⊢
          unfold aheadV at *; omega
      · refine ⟨k, by omega, fun i hi q => ?_⟩
        by_cases z : i = w
        · subst z; exact c q
        · exact hm i (by omega) q
  intro w hw
  obtain ⟨k, hk, hm⟩ := h w hw
  exact ⟨k, hk, (aheadC_0 w).mpr hm⟩
/-- the pallet whose turn it is -/
def frontK (N : Nat → Int32) (w k : Nat) : Prop := k < w ∧ aheadC N k w = 0 ∧ ∀ j, j < k → aheadC N j w ≠ 0
theorem front_k (N : Nat → Int32) {w : Nat} (h : 1 ≤ w) : ∃ k, frontK N w k := by
  obtain ⟨k, hk, hm⟩ := pk_least (fun k => k < w ∧ aheadC N k w = 0) (front_ex w h)
  exact ⟨k, hk.1, hk.2, fun j hj q => hm j hj ⟨by have := hk.1; omega, q⟩⟩
theorem t9_first {ω : Om} {h : AH} {m : Nat} {F N S A T R : Nat → Int32} {Q : Option Value → AH → Prop} (hw : ω.2.2.2.1 = true) (ml : ML h m) {w k : Nat} (hN1 : N 1 = nI w) (hw8 : w ≤ 8) (fr : frontK N w k) (hq : Q (some (.int (nI k))) (hM h m F N S A T R)) : Ex ω M9_byTurn 0 [some (.ref m), some (.int (nI 0)), none, none, none] [] (hM h m F N S A T R) 0 0 Q := by
  obtain ⟨f1, f2, f3⟩ := fr
  refine t9_byTurn hw ml hN1 hw8 (fun hn => absurd (by rw [f2]) (hn k f1)) (fun k' h1 h2 h3 => ?_)
  have e0 : ∀ j, nI (aheadC N j w) = nI 0 ↔ aheadC N j w = 0 := fun j => nI_eq (by have := aheadC_le N j w; omega) (by omega)
  rw [e0] at h2
  by_cases c : k' < k
  · exact absurd h2 (f3 k' c)
  · by_cases c2 : k < k'
    · exact absurd ((e0 k).mpr f2) (h3 k c2)
    · rw [show k' = k from by omega]; exact hq
def pOk (g : Nat → Int32) : Prop := ∃ n wd dp hi lim du : Nat, g 0 = nI n ∧ n < 2 ^ 29 ∧ g 1 = nI wd ∧ 20 ≤ wd ∧ wd ≤ 200 ∧ g 2 = nI dp ∧ 20 ≤ dp ∧ dp ≤ 200 ∧ g 3 = nI hi ∧ 10 ≤ hi ∧ hi ≤ 250 ∧ g 4 = nI lim ∧ lim ≤ 5000 ∧ g 5 = nI du ∧ du ≤ 9999
def palG (N : Nat → Int32) (i : Nat) : Nat → Int32 := fun k => N (140 + 6 * i + k)
def PI (N : Nat → Int32) (w : Nat) : Prop := N 1 = nI w ∧ w ≤ 8 ∧ (∀ i, i < w → pOk (palG N i)) ∧ ∀ i j, i < j → j < w → palG N i 0 ≠ palG N j 0
def SI (N : Nat → Int32) (acc : List (Nat × Nat)) : Prop := N 3 = nI acc.length ∧ acc.length ≤ 12 ∧ StepsOk acc ∧ RowA (fun j => N (188 + j)) acc
def entE (d : Nat) : Nat := 212 + 64 * (d % 6)
def zeroN (N : Nat → Int32) (e i : Nat) : Nat → Int32 := fun j => if e ≤ j ∧ j < e + i then 0 else N j
def startN (N : Nat → Int32) (w k e z : Nat) : Nat → Int32 := palletGoesN (upd (upd (zeroN N e 64) e (N (140 + 6 * k))) (e + 12) (nI z)) w k
def leastL (N : Nat → Int32) (e : Nat) : Nat → Int32
  | 0 => N (e + 13)
  | i + 1 => lesser (leastL N e i) (N (e + 13 + i))
def mostL (N : Nat → Int32) (e : Nat) : Nat → Int32
  | 0 => N (e + 9)
  | i + 1 => if mostL N e i < N (e + 38 + i) then N (e + 38 + i) else mostL N e i
def endN (N : Nat → Int32) (e z g : Nat) : Nat → Int32 := addC (upd (upd (upd N (e + 1) (nI g)) (e + 8) (leastL N e z)) (e + 9) (mostL N e z)) 17 (nI (if g = 0 then 0 else 1))
def finN (N : Nat → Int32) (e z g : Nat) : Nat → Int32 := addC (upd (upd (endN N e z g) 19 (N 19 + (N 18 + N (e + 11)) / nI 1000000000)) 18 (N 18 + N (e + 11) - (N 18 + N (e + 11)) / nI 1000000000 * nI 1000000000)) 7 (nI 1)
def palV (N : Nat → Int32) (k f : Nat) : Nat := nn (N (140 + 6 * k + f))
def wrapsN (fu : Nat) (N : Nat → Int32) (w k d : Nat) (acc : List (Nat × Nat)) : Nat × (Nat → Int32) :=
  ((runT fu (entE d) (palV N k 4) (2 * (palV N k 1 + palV N k 2)) ((palV N k 3 + 9) / 10) (crsL (palV N k 3 - 50) acc (0, 40, 100)) (startN N w k (entE d) ((palV N k 3 + 9) / 10))).1,
   finN (runT fu (entE d) (palV N k 4) (2 * (palV N k 1 + palV N k 2)) ((palV N k 3 + 9) / 10) (crsL (palV N k 3 - 50) acc (0, 40, 100)) (startN N w k (entE d) ((palV N k 3 + 9) / 10))).2 (entE d) ((palV N k 3 + 9) / 10) (runT fu (entE d) (palV N k 4) (2 * (palV N k 1 + palV N k 2)) ((palV N k 3 + 9) / 10) (crsL (palV N k 3 - 50) acc (0, 40, 100)) (startN N w k (entE d) ((palV N k 3 + 9) / 10))).1)
/-- the end of a wrapping in the model -/
theorem t9_wrapsE {ω : Om} {h : AH} {m : Nat} {F N S A T R : Nat → Int32} {Q : Option Value → AH → Prop} (hw : ω.2.2.2.1 = true) (ml : ML h m) (hs1 : gs h (m + 1) = some (10, 596)) {e z g : Nat} (hE : F 9 = nI e) (he1 : 212 ≤ e) (he2 : e ≤ 532) (hZ : F 12 = nI z) (hz : z ≤ 25) (hg : g ≤ 2) (hq : Q (some (.int (nI g))) (hM h m F (finN N e z g) S A T R)) : Ex ω M9_wraps 149 [some (.ref m), none, some (.int (nI g)), none] [] (hM h m F N S A T R) 0 0 Q := by
  have hin : ∀ k, k ≤ 63 → vp_in (F 9 + nI k) 596 := by intro k hk; rw [hE, nI_add]; exact vp_in_nI (by omega) (by omega)
  have hin' : ∀ N' k, k ≤ 63 → vp_in (gi (hM h m F N' S A T R) m 9 + nI k) 596 := by intro N' k hk; simp (disch := omega) only [gr_hM, gs_hM, ml.2.1, ml.2.2.1, ml.2.2.2.1, ml.2.2.2.2.1, ml.2.2.2.2.2, hM_F, hM_N, hM_S, hM_A, hM_T, hM_R, hM_sF, hM_sN, hM_sS, hM_sA, hM_sT, hM_sR, pk_mul, nI_add, nI_clamp, upd_eq, upd_ne]; exact hin k hk
  refine B9_wraps_149 hw ml.1 (hin' _ _ (by omega)) (by simp (disch := omega) only [gr_hM, gs_hM, ml.2.1, ml.2.2.1, ml.2.2.2.1, ml.2.2.2.2.1, ml.2.2.2.2.2, hM_F, hM_N, hM_S, hM_A, hM_T, hM_R, hM_sF, hM_sN, hM_sS, hM_sA, hM_sT, hM_sR, pk_mul, nI_add, nI_clamp, upd_eq, upd_ne]; exact hin _ (by omega)) (by simp (disch := omega) only [gr_hM, gs_hM, ml.2.1, ml.2.2.1, ml.2.2.2.1, ml.2.2.2.2.1, ml.2.2.2.2.2, hM_F, hM_N, hM_S, hM_A, hM_T, hM_R, hM_sF, hM_sN, hM_sS, hM_sA, hM_sT, hM_sR, pk_mul, nI_add, nI_clamp, upd_eq, upd_ne]; exact hin _ (by omega)) (B9_wraps_185 hw ?_)
  simp (disch := omega) only [gr_hM, gs_hM, ml.2.1, ml.2.2.1, ml.2.2.2.1, ml.2.2.2.2.1, ml.2.2.2.2.2, hM_F, hM_N, hM_S, hM_A, hM_T, hM_R, hM_sF, hM_sN, hM_sS, hM_sA, hM_sT, hM_sR, pk_mul, nI_add, nI_clamp, upd_eq, upd_ne, hE]
  have lp : ∀ d i : Nat, i + d = z → Ex ω M9_wraps 187 [some (.ref m), none, some (.int (nI g)), some (.int (nI i))] [] (hM h m F (upd (upd (upd N (e + 1) (nI g)) (e + 8) (leastL N e i)) (e + 9) (mostL N e i)) S A T R) 0 0 Q := by
    intro d
    induction d with
    | zero =>
      intro i hi
      rw [show i = z from by omega]
      refine B9_wraps_187 hw ml.1 (fun _ => ?_) (fun c => ?_)
      · have tail : Ex ω M9_wraps 329 [some (.ref m), none, some (.int (nI g)), none] [.int (nI (if g = 0 then 0 else 1)), .int (N 17), .int (nI 17), .ref (m + 1)] (hM h m F (upd (upd (upd N (e + 1) (nI g)) (e + 8) (leastL N e z)) (e + 9) (mostL N e z)) S A T R) 0 0 Q := by
          refine B9_wraps_329 hw (ny0 := 596) (by simp (disch := omega) only [gr_hM, gs_hM, ml.2.1, ml.2.2.1, ml.2.2.2.1, ml.2.2.2.2.1, ml.2.2.2.2.2, hM_F, hM_N, hM_S, hM_A, hM_T, hM_R, hM_sF, hM_sN, hM_sS, hM_sA, hM_sT, hM_sR, pk_mul, nI_add, nI_clamp, upd_eq, upd_ne]; exact hs1) ml.1 (vp_in_nI (by omega) (by omega)) (by simp (disch := omega) only [gr_hM, gs_hM, ml.2.1, ml.2.2.1, ml.2.2.2.1, ml.2.2.2.2.1, ml.2.2.2.2.2, hM_F, hM_N, hM_S, hM_A, hM_T, hM_R, hM_sF, hM_sN, hM_sS, hM_sA, hM_sT, hM_sR, pk_mul, nI_add, nI_clamp, upd_eq, upd_ne]; exact hin _ (by omega)) ?_
          simp (disch := omega) only [gr_hM, gs_hM, ml.2.1, ml.2.2.1, ml.2.2.2.1, ml.2.2.2.2.1, ml.2.2.2.2.2, hM_F, hM_N, hM_S, hM_A, hM_T, hM_R, hM_sF, hM_sN, hM_sS, hM_sA, hM_sT, hM_sR, pk_mul, nI_add, nI_clamp, upd_eq, upd_ne, hE]
          refine B9_wraps_353 hw ml.1 ?_
          simp (disch := omega) only [gr_hM, gs_hM, ml.2.1, ml.2.2.1, ml.2.2.2.1, ml.2.2.2.2.1, ml.2.2.2.2.2, hM_F, hM_N, hM_S, hM_A, hM_T, hM_R, hM_sF, hM_sN, hM_sS, hM_sA, hM_sT, hM_sR, pk_mul, nI_add, nI_clamp, upd_eq, upd_ne, hE]
          refine B9_wraps_385 hw ml.1 ?_
          simp (disch := omega) only [gr_hM, gs_hM, ml.2.1, ml.2.2.1, ml.2.2.2.1, ml.2.2.2.2.1, ml.2.2.2.2.2, hM_F, hM_N, hM_S, hM_A, hM_T, hM_R, hM_sF, hM_sN, hM_sS, hM_sA, hM_sT, hM_sR, pk_mul, nI_add, nI_clamp, upd_eq, upd_ne]
          unfold finN endN addC at hq
          simp (disch := omega) only [gr_hM, gs_hM, ml.2.1, ml.2.2.1, ml.2.2.2.1, ml.2.2.2.2.1, ml.2.2.2.2.2, hM_F, hM_N, hM_S, hM_A, hM_T, hM_R, hM_sF, hM_sN, hM_sS, hM_sA, hM_sT, hM_sR, pk_mul, nI_add, nI_clamp, upd_eq, upd_ne] at hq
          have e3 : ∀ (X : Nat → Int32) (a b c : Int32), upd (upd (upd X 18 a) 19 b) 18 c = upd (upd X 19 b) 18 c := fun X a b c => (by funext j; simp only [upd]; (repeat' split) <;> first | rfl | (exfalso; omega) | exact congrArg _ (by omega))
          rw [e3]
          exact hq
        refine B9_wraps_312 hw ml.1 (fun c => ?_) (fun c => ?_)
        · rw [show (0 : Int32) = nI 0 from rfl, nI_leI (by omega) (by omega)] at c
          simp (disch := omega) only [gr_hM, gs_hM, ml.2.1, ml.2.2.1, ml.2.2.2.1, ml.2.2.2.2.1, ml.2.2.2.2.2, hM_F, hM_N, hM_S, hM_A, hM_T, hM_R, hM_sF, hM_sN, hM_sS, hM_sA, hM_sT, hM_sR, pk_mul, nI_add, nI_clamp, upd_eq, upd_ne]
          rw [if_pos (by omega)] at tail
          exact B9_wraps_328 hw tail
        · rw [show (0 : Int32) = nI 0 from rfl, nI_leI (by omega) (by omega)] at c
          simp (disch := omega) only [gr_hM, gs_hM, ml.2.1, ml.2.2.1, ml.2.2.2.1, ml.2.2.2.2.1, ml.2.2.2.2.2, hM_F, hM_N, hM_S, hM_A, hM_T, hM_R, hM_sF, hM_sN, hM_sS, hM_sA, hM_sT, hM_sR, pk_mul, nI_add, nI_clamp, upd_eq, upd_ne]
          rw [if_neg (by omega)] at tail
          exact B9_wraps_324 hw tail
      · simp (disch := omega) only [gr_hM, gs_hM, ml.2.1, ml.2.2.1, ml.2.2.2.1, ml.2.2.2.2.1, ml.2.2.2.2.2, hM_F, hM_N, hM_S, hM_A, hM_T, hM_R, hM_sF, hM_sN, hM_sS, hM_sA, hM_sT, hM_sR, pk_mul, nI_add, nI_clamp, upd_eq, upd_ne, hZ] at c
        exact absurd (nI_le (by omega) (by omega)) c
    | succ d ih =>
      intro i hi
      have ii := ih (i + 1) (by omega)
      have h13 : vp_in (F 9 + nI 13 + nI i) 596 := by rw [hE, nI_add, nI_add]; exact vp_in_nI (by omega) (by omega)
      have h38 : vp_in (F 9 + nI 38 + nI i) 596 := by rw [hE, nI_add, nI_add]; exact vp_in_nI (by omega) (by omega)
      refine B9_wraps_187 hw ml.1 (fun c => ?_) (fun _ => ?_)
      · simp (disch := omega) only [gr_hM, gs_hM, ml.2.1, ml.2.2.1, ml.2.2.2.1, ml.2.2.2.2.1, ml.2.2.2.2.2, hM_F, hM_N, hM_S, hM_A, hM_T, hM_R, hM_sF, hM_sN, hM_sS, hM_sA, hM_sT, hM_sR, pk_mul, nI_add, nI_clamp, upd_eq, upd_ne, hZ] at c
        exact absurd c (nI_ge (by omega) (by omega))
      refine B9_wraps_195 hw ml.1 (by simp (disch := omega) only [gr_hM, gs_hM, ml.2.1, ml.2.2.1, ml.2.2.2.1, ml.2.2.2.2.1, ml.2.2.2.2.2, hM_F, hM_N, hM_S, hM_A, hM_T, hM_R, hM_sF, hM_sN, hM_sS, hM_sA, hM_sT, hM_sR, pk_mul, nI_add, nI_clamp, upd_eq, upd_ne]; exact hin _ (by omega)) (by simp (disch := omega) only [gr_hM, gs_hM, ml.2.1, ml.2.2.1, ml.2.2.2.1, ml.2.2.2.2.1, ml.2.2.2.2.2, hM_F, hM_N, hM_S, hM_A, hM_T, hM_R, hM_sF, hM_sN, hM_sS, hM_sA, hM_sT, hM_sR, pk_mul, nI_add, nI_clamp, upd_eq, upd_ne]; exact h13) (t9_lesser hw ?_)
      simp (disch := omega) only [gr_hM, gs_hM, ml.2.1, ml.2.2.1, ml.2.2.2.1, ml.2.2.2.2.1, ml.2.2.2.2.2, hM_F, hM_N, hM_S, hM_A, hM_T, hM_R, hM_sF, hM_sN, hM_sS, hM_sA, hM_sT, hM_sR, pk_mul, nI_add, nI_clamp, upd_eq, upd_ne, hE]
      have e1 : upd (upd (upd (upd N (e + 1) (nI g)) (e + 8) (leastL N e i)) (e + 9) (mostL N e i)) (e + 8) (lesser (leastL N e i) (N (e + 13 + i))) = upd (upd (upd N (e + 1) (nI g)) (e + 8) (leastL N e (i + 1))) (e + 9) (mostL N e i) := by
        funext j
        simp only [upd]
        by_cases z1 : j = e + 8
        · rw [if_pos z1, if_neg (by omega), if_pos z1]; rfl
        · rw [if_neg z1, if_neg z1, if_neg z1]
      have fin : ∀ v, v = mostL N e (i + 1) → Ex ω M9_wraps 305 [some (.ref m), none, some (.int (nI g)), some (.int (nI i))] [.int v, .int (nI (e + 9)), .ref (m + 1)] (hM h m F (upd (upd (upd N (e + 1) (nI g)) (e + 8) (leastL N e (i + 1))) (e + 9) (mostL N e i)) S A T R) 0 0 Q := by
        intro v hv
        refine B9_wraps_305 hw (ny0 := 596) (by simp (disch := omega) only [gr_hM, gs_hM, ml.2.1, ml.2.2.1, ml.2.2.2.1, ml.2.2.2.2.1, ml.2.2.2.2.2, hM_F, hM_N, hM_S, hM_A, hM_T, hM_R, hM_sF, hM_sN, hM_sS, hM_sA, hM_sT, hM_sR, pk_mul, nI_add, nI_clamp, upd_eq, upd_ne]; exact hs1) (vp_in_nI (by omega) (by omega)) ?_
        simp (disch := omega) only [gr_hM, gs_hM, ml.2.1, ml.2.2.1, ml.2.2.2.1, ml.2.2.2.2.1, ml.2.2.2.2.2, hM_F, hM_N, hM_S, hM_A, hM_T, hM_R, hM_sF, hM_sN, hM_sS, hM_sA, hM_sT, hM_sR, pk_mul, nI_add, nI_clamp, upd_eq, upd_ne]
        have e2 : upd (upd (upd (upd N (e + 1) (nI g)) (e + 8) (leastL N e (i + 1))) (e + 9) (mostL N e i)) (e + 9) v = upd (upd (upd N (e + 1) (nI g)) (e + 8) (leastL N e (i + 1))) (e + 9) (mostL N e (i + 1)) := by
          rw [hv]
          funext j
          simp only [upd]
          by_cases z1 : j = e + 9
          · rw [if_pos z1, if_pos z1]
          · rw [if_neg z1, if_neg z1, if_neg z1]
        rw [e2]
        exact ii
      refine B9_wraps_235 hw (ny0 := 596) (by simp (disch := omega) only [gr_hM, gs_hM, ml.2.1, ml.2.2.1, ml.2.2.2.1, ml.2.2.2.2.1, ml.2.2.2.2.2, hM_F, hM_N, hM_S, hM_A, hM_T, hM_R, hM_sF, hM_sN, hM_sS, hM_sA, hM_sT, hM_sR, pk_mul, nI_add, nI_clamp, upd_eq, upd_ne]; exact hs1) ml.1 (vp_in_nI (by omega) (by omega)) (by simp (disch := omega) only [gr_hM, gs_hM, ml.2.1, ml.2.2.1, ml.2.2.2.1, ml.2.2.2.2.1, ml.2.2.2.2.2, hM_F, hM_N, hM_S, hM_A, hM_T, hM_R, hM_sF, hM_sN, hM_sS, hM_sA, hM_sT, hM_sR, pk_mul, nI_add, nI_clamp, upd_eq, upd_ne]; exact h38) (by simp (disch := omega) only [gr_hM, gs_hM, ml.2.1, ml.2.2.1, ml.2.2.2.1, ml.2.2.2.2.1, ml.2.2.2.2.2, hM_F, hM_N, hM_S, hM_A, hM_T, hM_R, hM_sF, hM_sN, hM_sS, hM_sA, hM_sT, hM_sR, pk_mul, nI_add, nI_clamp, upd_eq, upd_ne]; exact hin _ (by omega)) (fun c => ?_) (fun c => ?_)
      · simp (disch := omega) only [gr_hM, gs_hM, ml.2.1, ml.2.2.1, ml.2.2.2.1, ml.2.2.2.2.1, ml.2.2.2.2.2, hM_F, hM_N, hM_S, hM_A, hM_T, hM_R, hM_sF, hM_sN, hM_sS, hM_sA, hM_sT, hM_sR, pk_mul, nI_add, nI_clamp, upd_eq, upd_ne, hE] at c
        simp (disch := omega) only [gr_hM, gs_hM, ml.2.1, ml.2.2.1, ml.2.2.2.1, ml.2.2.2.2.1, ml.2.2.2.2.2, hM_F, hM_N, hM_S, hM_A, hM_T, hM_R, hM_sF, hM_sN, hM_sS, hM_sA, hM_sT, hM_sR, pk_mul, nI_add, nI_clamp, upd_eq, upd_ne, hE]
        rw [e1]
        refine B9_wraps_293 hw ml.1 (by simp (disch := omega) only [gr_hM, gs_hM, ml.2.1, ml.2.2.1, ml.2.2.2.1, ml.2.2.2.2.1, ml.2.2.2.2.2, hM_F, hM_N, hM_S, hM_A, hM_T, hM_R, hM_sF, hM_sN, hM_sS, hM_sA, hM_sT, hM_sR, pk_mul, nI_add, nI_clamp, upd_eq, upd_ne]; exact hin _ (by omega)) ?_
        simp (disch := omega) only [gr_hM, gs_hM, ml.2.1, ml.2.2.1, ml.2.2.2.1, ml.2.2.2.2.1, ml.2.2.2.2.2, hM_F, hM_N, hM_S, hM_A, hM_T, hM_R, hM_sF, hM_sN, hM_sS, hM_sA, hM_sT, hM_sR, pk_mul, nI_add, nI_clamp, upd_eq, upd_ne, hE]
        exact fin _ (if_neg (Int32.not_lt.mpr c)).symm
      · simp (disch := omega) only [gr_hM, gs_hM, ml.2.1, ml.2.2.1, ml.2.2.2.1, ml.2.2.2.2.1, ml.2.2.2.2.2, hM_F, hM_N, hM_S, hM_A, hM_T, hM_R, hM_sF, hM_sN, hM_sS, hM_sA, hM_sT, hM_sR, pk_mul, nI_add, nI_clamp, upd_eq, upd_ne, hE] at c
        simp (disch := omega) only [gr_hM, gs_hM, ml.2.1, ml.2.2.1, ml.2.2.2.1, ml.2.2.2.2.1, ml.2.2.2.2.2, hM_F, hM_N, hM_S, hM_A, hM_T, hM_R, hM_sF, hM_sN, hM_sS, hM_sA, hM_sT, hM_sR, pk_mul, nI_add, nI_clamp, upd_eq, upd_ne, hE]
        rw [e1]
        refine B9_wraps_276 hw ml.1 (by simp (disch := omega) only [gr_hM, gs_hM, ml.2.1, ml.2.2.1, ml.2.2.2.1, ml.2.2.2.2.1, ml.2.2.2.2.2, hM_F, hM_N, hM_S, hM_A, hM_T, hM_R, hM_sF, hM_sN, hM_sS, hM_sA, hM_sT, hM_sR, pk_mul, nI_add, nI_clamp, upd_eq, upd_ne]; exact h38) ?_
        simp (disch := omega) only [gr_hM, gs_hM, ml.2.1, ml.2.2.1, ml.2.2.2.1, ml.2.2.2.2.1, ml.2.2.2.2.2, hM_F, hM_N, hM_S, hM_A, hM_T, hM_R, hM_sF, hM_sN, hM_sS, hM_sA, hM_sT, hM_sR, pk_mul, nI_add, nI_clamp, upd_eq, upd_ne, hE]
        exact fin _ (if_pos (Int32.not_le.mp c)).symm
  have := lp z 0 (by omega)
  have e0 : upd (upd (upd N (e + 1) (nI g)) (e + 8) (leastL N e 0)) (e + 9) (mostL N e 0) = upd (upd N (e + 1) (nI g)) (e + 8) (N (e + 13)) := by
    funext j
    simp only [upd, leastL, mostL]
    by_cases z1 : j = e + 9
    · rw [if_pos z1, if_neg (by omega), if_neg (by omega), z1]
    · rw [if_neg z1]
  rw [e0] at this
  exact this

theorem meas_le {N : Nat → Int32} {c : Nat} (ri : RI N c) : meas N c ≤ 600006 := by
  unfold meas
  by_cases z : c = 0
  · rw [if_pos z]; omega
  · rw [if_neg z]
    obtain ⟨l, wt, pos, wk, h0, _, hl, _⟩ := RI_first ri (by omega)
    rw [h0, nn_nI (by omega)]
    have := ri.2.1
    omega
theorem palV_eq {N : Nat → Int32} {k f v : Nat} (h : N (140 + 6 * k + f) = nI v) (hv : v < 2 ^ 31) : palV N k f = v := by
  unfold palV
  rw [h, nn_nI hv]
theorem startN_lo {N : Nat → Int32} {w k e z j : Nat} (he1 : 212 ≤ e) (hw8 : w ≤ 8) (h1 : j ≠ 1) (h : j < 140 ∨ (188 ≤ j ∧ j < e) ∨ e + 64 ≤ j) : startN N w k e z j = N j := by
  unfold startN palletGoesN
  rw [if_neg h1, if_neg (by omega), upd_ne _ _ (by omega), upd_ne _ _ (by omega)]
  exact if_neg (by omega)
theorem startN_e {N : Nat → Int32} {w k e z j : Nat} (he1 : 212 ≤ e) (hw8 : w ≤ 8) (h : e < j) (h2 : j < e + 64) (h3 : j ≠ e + 12) : startN N w k e z j = 0 := by
  unfold startN palletGoesN
  rw [if_neg (by omega), if_neg (by omega), upd_ne _ _ h3, upd_ne _ _ (by omega)]
  exact if_pos (by omega)
theorem RI_congr {N N' : Nat → Int32} {c : Nat} (e : ∀ j, (j = 0 ∨ (20 ≤ j ∧ j < 140)) → N' j = N j) (h : RI N c) : RI N' c := by
  obtain ⟨h0, h6, hr⟩ := h
  exact ⟨(e 0 (Or.inl rfl)).trans h0, h6, fun i hi => rOk_congr (fun k hk => e _ (by omega)) (hr i hi)⟩
theorem start_TI {N : Nat → Int32} {w k e z lim c th : Nat} (he1 : 212 ≤ e) (hw8 : w ≤ 8) (hz : z ≤ 25) (ri : RI N c) (hth : N 4 = nI th) (ht : th ≤ 500) : TI (startN N w k e z) e z lim c th := by
  have r' : RI (startN N w k e z) c := RI_congr (fun j hj => startN_lo he1 hw8 (by omega) (by omega)) ri
  refine ⟨r', (startN_lo he1 hw8 (by omega) (by omega)).trans hth, ht, fun i hi => ⟨0, startN_e he1 hw8 (by omega) (by omega) (by omega), Nat.zero_le _⟩, 0, startN_e he1 hw8 (by omega) (by omega) (by omega), ?_⟩
  have := meas_le r'
  omega
theorem upL_le {top a ten st : Nat} (h1 : top ≤ 1000) (h2 : ten ≤ 1000) (h3 : st ≤ 1000) : ∀ f h, TLe (upL top a ten st f h) := by
  intro f
  induction f with
  | zero => intro h q hq; cases hq
  | succ f ih =>
    intro h
    show TLe (if h < top then (min (h + a) top, ten, st) :: upL top a ten st f (min (h + a) top) else [])
    by_cases c : h < top
    · rw [if_pos c]
      intro q hq
      rcases List.mem_cons.mp hq with e | e
      · subst e; exact ⟨by show min (h + a) top ≤ 1000; omega, h2, h3⟩
      · exact ih _ q e
    · rw [if_neg c]; intro q hq; cases hq
theorem dnL_le {a ten st : Nat} (h2 : ten ≤ 1000) (h3 : st ≤ 1000) : ∀ f h, h ≤ 1000 → TLe (dnL a ten st f h) := by
  intro f
  induction f with
  | zero => intro h _ q hq; cases hq
  | succ f ih =>
    intro h h1
    show TLe (if 0 < h then (h - a, ten, st) :: dnL a ten st f (h - a) else [])
    by_cases c : 0 < h
    · rw [if_pos c]
      intro q hq
      rcases List.mem_cons.mp hq with e | e
      · subst e; exact ⟨by show h - a ≤ 1000; omega, h2, h3⟩
      · exact ih _ (by omega) q e
    · rw [if_neg c]; intro q hq; cases hq
theorem stL_le {top : Nat} {q : Nat × Nat} {s : Nat × Nat × Nat} (ht : top ≤ 1000) (sl : s.1 ≤ 1000 ∧ s.2.1 ≤ 1000 ∧ s.2.2 ≤ 1000) : TLe (stL top q s) := by
  unfold stL
  split
  · intro x hx
    rw [List.eq_of_mem_replicate hx]; exact sl
  split
  · exact upL_le ht sl.2.1 sl.2.2 _ _
  split
  · exact dnL_le sl.2.1 sl.2.2 _ _ sl.1
  · intro x hx; cases hx
theorem stE_le {top : Nat} {q : Nat × Nat} {s : Nat × Nat × Nat} (ht : top ≤ 1000) (qa : q.2 ≤ 300) (sl : s.1 ≤ 1000 ∧ s.2.1 ≤ 1000 ∧ s.2.2 ≤ 1000) : (stE top q s).1 ≤ 1000 ∧ (stE top q s).2.1 ≤ 1000 ∧ (stE top q s).2.2 ≤ 1000 := by
  unfold stE
  (repeat' split) <;> (refine ⟨?_, ?_, ?_⟩ <;> (try dsimp only) <;> omega)
theorem amt300 {q : Nat × Nat} (h5 : q.1 < 5) (h : q.2 ≤ amtHi q.1) : q.2 ≤ 300 := by
  unfold amtHi at h
  (repeat' split at h) <;> omega
theorem amt1 {q : Nat × Nat} (h : amtLo q.1 ≤ q.2) : q.1 < 3 → 1 ≤ q.2 := by
  intro h3
  unfold amtLo at h
  rw [if_pos h3] at h
  exact h
theorem crsL_le {top : Nat} (ht : top ≤ 1000) : ∀ (acc : List (Nat × Nat)) (s : Nat × Nat × Nat), StepsOk acc → s.1 ≤ 1000 ∧ s.2.1 ≤ 1000 ∧ s.2.2 ≤ 1000 → TLe (crsL top acc s) := by
  intro acc
  induction acc with
  | nil => intro s _ _ x hx; cases hx
  | cons q r ih =>
    intro s so sl x hx
    have q1 := so q (List.mem_cons_self ..)
    rcases List.mem_append.mp hx with e | e
    · exact stL_le ht sl x e
    · exact ih _ (fun y hy => so y (List.mem_cons_of_mem _ hy)) (stE_le ht (amt300 q1.1 q1.2.2) sl) x e
