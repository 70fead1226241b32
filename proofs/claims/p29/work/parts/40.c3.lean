/-! a roll of the class, and its weak places in order -/
def prL (n : Nat) (p s : Nat → Int32) : List (Int32 × Int32) := (List.range n).map (fun k => (p k, s k))
theorem prL_len (n : Nat) (p s : Nat → Int32) : (prL n p s).length = n := by simp [prL]
theorem prL_get {n : Nat} {p s : Nat → Int32} {k : Nat} (h : k < (prL n p s).length) : (prL n p s)[k] = (p k, s k) := by simp [prL]
theorem prL_mem {n : Nat} {p s : Nat → Int32} {q : Int32 × Int32} : q ∈ prL n p s ↔ ∃ k, k < n ∧ (p k, s k) = q := by simp [prL]
theorem prL_congr {n : Nat} {p s p' s' : Nat → Int32} (h : ∀ k, k < n → p' k = p k ∧ s' k = s k) : prL n p' s' = prL n p s := by
  unfold prL
  refine List.map_congr_left (fun k hk => ?_)
  obtain ⟨a, b⟩ := h k (List.mem_range.mp hk)
  rw [a, b]
theorem prL_succ (n : Nat) (p s : Nat → Int32) : prL (n + 1) p s = prL n p s ++ [(p n, s n)] := by simp [prL, List.range_succ]
/-- the class's rows p s are the model's P S in order -/
def weakR (wk : Nat) (p s P S : Nat → Int32) : Prop := (prL wk p s).Perm (prL wk P S) ∧ ∀ i j, i < j → j < wk → p i < p j
theorem weakR.fwd {wk : Nat} {p s P S : Nat → Int32} (h : weakR wk p s P S) {i : Nat} (hi : i < wk) : ∃ k, k < wk ∧ P k = p i ∧ S k = s i := by
  obtain ⟨k, hk, e⟩ := prL_mem.mp (h.1.mem_iff.mp (prL_mem.mpr ⟨i, hi, rfl⟩))
  exact ⟨k, hk, congrArg Prod.fst e, congrArg Prod.snd e⟩
theorem weakR.bwd {wk : Nat} {p s P S : Nat → Int32} (h : weakR wk p s P S) {k : Nat} (hk : k < wk) : ∃ i, i < wk ∧ p i = P k ∧ s i = S k := by
  obtain ⟨i, hi, e⟩ := prL_mem.mp (h.1.mem_iff.mpr (prL_mem.mpr ⟨k, hk, rfl⟩))
  exact ⟨i, hi, congrArg Prod.fst e, congrArg Prod.snd e⟩
theorem weakR_congr {wk : Nat} {p s P S p' s' P' S' : Nat → Int32} (h : weakR wk p s P S) (e : ∀ k, k < wk → p' k = p k ∧ s' k = s k) (e2 : ∀ k, k < wk → P' k = P k ∧ S' k = S k) : weakR wk p' s' P' S' := by
  refine ⟨?_, fun i j h1 h2 => ?_⟩
  · rw [prL_congr e, prL_congr e2]; exact h.1
  · rw [(e i (by omega)).1, (e j h2).1]; exact h.2 i j h1 h2
/-- a row with one more at ix -/
def insR (p : Nat → Int32) (ix : Nat) (v : Int32) : Nat → Int32 := fun i => if i < ix then p i else if i = ix then v else p (i - 1)
theorem prL_ins {n ix : Nat} {p s p' s' : Nat → Int32} {x y : Int32} (hi : ix ≤ n) (hp : ∀ k, k ≤ n → p' k = insR p ix x k ∧ s' k = insR s ix y k) : prL (n + 1) p' s' = (prL n p s).take ix ++ (x, y) :: (prL n p s).drop ix := by
  refine List.ext_getElem ?_ (fun k h1 h2 => ?_)
  · simp [prL_len]; omega
  · rw [prL_len] at h1
    rw [prL_get]
    obtain ⟨a, b⟩ := hp k (by omega)
    rw [a, b]
    unfold insR
    by_cases c : k < ix
    · rw [if_pos c, if_pos c, List.getElem_append_left (by simp [prL_len]; omega), List.getElem_take, prL_get]
    · rw [if_neg c, if_neg c, List.getElem_append_right (by simp [prL_len]; omega)]
      have e : (List.take ix (prL n p s)).length = ix := by simp [prL_len]; omega
      by_cases c2 : k = ix
      · rw [if_pos c2, if_pos c2]
        subst c2
        simp [e]
      · rw [if_neg c2, if_neg c2]
        obtain ⟨j, rfl⟩ : ∃ j, k = ix + (j + 1) := ⟨k - ix - 1, by omega⟩
        simp only [e, Nat.add_sub_cancel_left, List.getElem_cons_succ, List.getElem_drop, prL_get]
        rw [show ix + (j + 1) - 1 = ix + j from by omega]
theorem weakR_insert {wk ix : Nat} {p s P S p' s' P' S' : Nat → Int32} {x y : Int32} (h : weakR wk p s P S) (hi : ix ≤ wk) (h1 : ∀ i, i < ix → p i < x) (h2 : ∀ i, ix ≤ i → i < wk → x < p i) (hp : ∀ k, k ≤ wk → p' k = insR p ix x k ∧ s' k = insR s ix y k) (hP : ∀ k, k < wk → P' k = P k ∧ S' k = S k) (hx : P' wk = x) (hy : S' wk = y) : weakR (wk + 1) p' s' P' S' := by
  refine ⟨?_, fun i j hij hj => ?_⟩
  · rw [prL_ins hi hp, prL_succ, prL_congr hP, hx, hy]
    refine List.perm_middle.trans ?_
    rw [List.take_append_drop]
    exact (h.1.cons _).trans (List.perm_append_singleton _ _).symm
  · rw [(hp i (by omega)).1, (hp j (by omega)).1]
    unfold insR
    by_cases c : i < ix
    · rw [if_pos c]
      by_cases d : j < ix
      · rw [if_pos d]; exact h.2 i j hij (by omega)
      · rw [if_neg d]
        by_cases d2 : j = ix
        · rw [if_pos d2]; exact h1 i c
        · rw [if_neg d2]; exact h.2 i (j - 1) (by omega) (by omega)
    · rw [if_neg c]
      by_cases c2 : i = ix
      · rw [if_pos c2, if_neg (by omega), if_neg (by omega)]
        exact h2 (j - 1) (by omega) (by omega)
      · rw [if_neg c2, if_neg (by omega), if_neg (by omega)]
        exact h.2 (i - 1) (j - 1) (by omega) (by omega)
/-- the next weak place behind the position -/
def nxR (wk : Nat) (p : Nat → Int32) (pos : Int32) (nx : Nat) : Prop := nx ≤ wk ∧ (∀ i, i < nx → ¬ pos < p i) ∧ (nx < wk → pos < p nx)
theorem t4_nextWeak {ω : Om} {h : AH} {Q : Option Value → AH → Prop} (hw : ω.2.2.2.1 = true) {a wk : Nat} (o : RollO h a) (hwk : gi h a 3 = nI wk) (h8 : wk ≤ 8) (hq : ∀ nx, nxR wk (gi h (a + 1)) (gi h a 2) nx → Q (some (.int (nI nx))) h) : Ex ω M4_nextWeak 0 [some (.ref a), none] [] h 0 0 Q := by
  have lp : ∀ d i : Nat, i + d = wk → (∀ j, j < i → ¬ gi h a 2 < gi h (a + 1) j) → Ex ω M4_nextWeak 2 [some (.ref a), some (.int (nI i))] [] h 0 0 Q := by
    intro d
    induction d with
    | zero =>
      intro i hi hp
      refine B4_nextWeak_2 hw o.1 (fun _ => B4_nextWeak_29 hw (hq i ⟨by omega, hp, fun c => by omega⟩)) (fun c => ?_)
      rw [hwk] at c
      exact absurd (nI_le (by omega) (by omega)) c
    | succ d ih =>
      intro i hi hp
      refine B4_nextWeak_2 hw o.1 (fun c => ?_) (fun _ => ?_)
      · rw [hwk] at c
        exact absurd c (nI_ge (by omega) (by omega))
      refine B4_nextWeak_10 hw o.1 (vp_in_nI (by omega) (by omega)) (fun c => ?_) (fun c => ?_)
      · rw [nI_clamp (by omega), o.2.2.2.1] at c
        exact B4_nextWeak_29 hw (hq i ⟨by omega, hp, fun _ => c⟩)
      · rw [nI_clamp (by omega), o.2.2.2.1] at c
        refine B4_nextWeak_23 hw ?_
        rw [nI_add]
        refine ih (i + 1) (by omega) (fun j hj => ?_)
        by_cases z : j = i
        · rw [z]; exact c
        · exact hp j (by omega)
  exact B4_nextWeak_0 hw (lp wk 0 (by omega) (fun j hj => by omega))
theorem t4_isWeakAt {ω : Om} {h : AH} {Q : Option Value → AH → Prop} (hw : ω.2.2.2.1 = true) {a wk : Nat} {x : Int32} (o : RollO h a) (hwk : gi h a 3 = nI wk) (h8 : wk ≤ 8) (q1 : (∃ i, i < wk ∧ gi h (a + 1) i = x) → Q (some (.int (nI 1))) h) (q0 : (∀ i, i < wk → gi h (a + 1) i ≠ x) → Q (some (.int (nI 0))) h) : Ex ω M4_isWeakAt 0 [some (.ref a), some (.int x), none] [] h 0 0 Q := by
  have lp : ∀ d i : Nat, i + d = wk → (∀ j, j < i → gi h (a + 1) j ≠ x) → Ex ω M4_isWeakAt 2 [some (.ref a), some (.int x), some (.int (nI i))] [] h 0 0 Q := by
    intro d
    induction d with
    | zero =>
      intro i hi hp
      refine B4_isWeakAt_2 hw o.1 (fun _ => B4_isWeakAt_28 hw (q0 (fun j hj => hp j (by omega)))) (fun c => ?_)
      rw [hwk] at c
      exact absurd (nI_le (by omega) (by omega)) c
    | succ d ih =>
      intro i hi hp
      refine B4_isWeakAt_2 hw o.1 (fun c => ?_) (fun _ => ?_)
      · rw [hwk] at c
        exact absurd c (nI_ge (by omega) (by omega))
      refine B4_isWeakAt_10 hw o.1 (vp_in_nI (by omega) (by omega)) (fun c => ?_) (fun c => ?_)
      · rw [nI_clamp (by omega), o.2.2.2.1] at c
        refine B4_isWeakAt_22 hw ?_
        rw [nI_add]
        refine ih (i + 1) (by omega) (fun j hj => ?_)
        by_cases z : j = i
        · rw [z]; exact c
        · exact hp j (by omega)
      · rw [nI_clamp (by omega), o.2.2.2.1] at c
        exact B4_isWeakAt_20 hw (q1 ⟨i, by omega, c⟩)
  exact B4_isWeakAt_0 hw (lp wk 0 (by omega) (fun j hj => by omega))
theorem t4_insertWeakPlace {ω : Om} {h : AH} {Q : Option Value → AH → Prop} (hw : ω.2.2.2.1 = true) {a wk : Nat} {x y : Int32} {f p s : Nat → Int32} (o : RollO h a) (hwk : f 3 = nI wk) (h8 : wk < 8) (so : ∀ i j, i < j → j < wk → p i < p j) (hq : ∀ (p' s' : Nat → Int32) (ix : Nat), ix ≤ wk → (∀ i, i < ix → p i ≤ x) → (∀ i, ix ≤ i → i < wk → x < p i) → (∀ k, k ≤ wk → p' k = insR p ix x k ∧ s' k = insR s ix y k) → Q none (w3 h a (upd f 3 (nI (wk + 1))) p' s')) : Ex ω M4_insertWeakPlace 0 [some (.ref a), some (.int x), some (.int y), none] [] (w3 h a f p s) 0 0 Q := by
  refine B4_insertWeakPlace_0 hw o.1 (fun _ => ?_) (fun c => ?_)
  · refine B4_insertWeakPlace_10 hw o.1 ?_
    simp (disch := omega) only [gs_w3, gr_w3, gl_w3, w3_0, w3_1, w3_2, w3_ne, si_w3_0, si_w3_1, si_w3_2, pk_mul, nI_add, nI_clamp, upd_eq, upd_ne, hwk]
    have fin : ∀ (i : Nat) (p' s' : Nat → Int32), i ≤ wk → (∀ j, j < i → p j ≤ x) → (∀ j, i ≤ j → j < wk → x < p j) → (∀ k, k ≤ wk → k ≠ i → p' k = insR p i x k ∧ s' k = insR s i y k) → Ex ω M4_insertWeakPlace 65 [some (.ref a), some (.int x), some (.int y), some (.int (nI i))] [] (w3 h a f p' s') 0 0 Q := by
      intro i p' s' hi h1 h2 h3
      have iv := vp_in_nI (n := i) (N := 8) (by omega) (by omega)
      refine B4_insertWeakPlace_65 hw o.1 iv iv ?_
      simp (disch := omega) only [gs_w3, gr_w3, gl_w3, w3_0, w3_1, w3_2, w3_ne, si_w3_0, si_w3_1, si_w3_2, pk_mul, nI_add, nI_clamp, upd_eq, upd_ne, o.2.2.2.1, o.2.2.2.2, hwk]
      refine B4_insertWeakPlace_89 hw (hq _ _ i hi h1 h2 (fun k hk => ?_))
      by_cases z : k = i
      · subst z
        rw [upd_eq, upd_eq]
        unfold insR
        constructor <;> (repeat' split) <;> first | rfl | (exfalso; omega)
      · rw [upd_ne _ _ z, upd_ne _ _ z]
        exact h3 k hk z
    have lp : ∀ (i : Nat) (p' s' : Nat → Int32), i ≤ wk → (∀ j, i ≤ j → j < wk → x < p j) → (∀ k, k ≤ wk → p' k = (if k ≤ i then p k else p (k - 1)) ∧ s' k = (if k ≤ i then s k else s (k - 1))) → Ex ω M4_insertWeakPlace 15 [some (.ref a), some (.int x), some (.int y), some (.int (nI i))] [] (w3 h a f p' s') 0 0 Q := by
      have conv : ∀ (i : Nat) (p' s' : Nat → Int32), (∀ k, k ≤ wk → p' k = (if k ≤ i then p k else p (k - 1)) ∧ s' k = (if k ≤ i then s k else s (k - 1))) → (∀ k, k ≤ wk → k ≠ i → p' k = insR p i x k ∧ s' k = insR s i y k) := by
        intro i p' s' h3 k hk hki
        rw [(h3 k hk).1, (h3 k hk).2]
        unfold insR
        constructor <;> (repeat' split) <;> first | rfl | (exfalso; omega)
      intro i
      induction i with
      | zero =>
        intro p' s' hi h2 h3
        refine B4_insertWeakPlace_15 hw (fun _ => fin 0 p' s' hi (fun j hj => by omega) h2 (conv 0 p' s' h3)) (fun c => absurd (by decide) c)
      | succ i ih =>
        intro p' s' hi h2 h3
        refine B4_insertWeakPlace_15 hw (fun c => ?_) (fun _ => ?_)
        · rw [show (0 : Int32) = nI 0 from rfl, nI_leI (by omega) (by omega)] at c; omega
        have iv := vp_in_nI (n := i) (N := 8) (by omega) (by omega)
        have iv2 := vp_in_nI (n := i + 1) (N := 8) (by omega) (by omega)
        have es : nI (i + 1) - nI 1 = nI i := by rw [pk_sub (by omega)]; rfl
        have pe : p' i = p i := by rw [(h3 i (by omega)).1, if_pos (by omega)]
        have se : s' i = s i := by rw [(h3 i (by omega)).2, if_pos (by omega)]
        refine B4_insertWeakPlace_19 hw o.1 (by rw [es]; exact iv) (fun c => ?_) (fun c => ?_)
        · rw [es] at c
          simp (disch := omega) only [gs_w3, gr_w3, gl_w3, w3_0, w3_1, w3_2, w3_ne, si_w3_0, si_w3_1, si_w3_2, pk_mul, nI_add, nI_clamp, upd_eq, upd_ne, o.2.2.2.1, pe] at c
          refine fin (i + 1) p' s' hi (fun j hj => ?_) h2 (conv (i + 1) p' s' h3)
          by_cases z : j = i
          · rw [z]; exact c
          · exact Int32.le_of_lt (Int32.lt_of_lt_of_le (so j i (by omega) (by omega)) c)
        · rw [es] at c
          simp (disch := omega) only [gs_w3, gr_w3, gl_w3, w3_0, w3_1, w3_2, w3_ne, si_w3_0, si_w3_1, si_w3_2, pk_mul, nI_add, nI_clamp, upd_eq, upd_ne, o.2.2.2.1, pe] at c
          refine B4_insertWeakPlace_31 hw o.1 (by rw [es]; exact iv) iv2 (by rw [es]; exact iv) iv2 ?_
          rw [es]
          simp (disch := omega) only [gs_w3, gr_w3, gl_w3, w3_0, w3_1, w3_2, w3_ne, si_w3_0, si_w3_1, si_w3_2, pk_mul, nI_add, nI_clamp, upd_eq, upd_ne, o.2.2.2.1, o.2.2.2.2, pe, se]
          refine B4_insertWeakPlace_59 hw ?_
          rw [pk_m1]
          refine ih _ _ (by omega) (fun j hj hj2 => ?_) (fun k hk => ?_)
          · by_cases z : j = i
            · rw [z]; exact Int32.not_le.mp c
            · exact h2 j (by omega) hj2
          · by_cases z : k = i + 1
            · subst z
              rw [upd_eq, upd_eq, if_neg (by omega), if_neg (by omega)]
              exact ⟨rfl, rfl⟩
            · rw [upd_ne _ _ z, upd_ne _ _ z, (h3 k hk).1, (h3 k hk).2]
              by_cases c2 : k ≤ i
              · rw [if_pos c2, if_pos c2, if_pos (by omega), if_pos (by omega)]; exact ⟨rfl, rfl⟩
              · rw [if_neg c2, if_neg c2, if_neg (by omega), if_neg (by omega)]; exact ⟨rfl, rfl⟩
    exact lp wk p s (Nat.le_refl _) (fun j h1 h2 => by omega) (fun k hk => by rw [if_pos hk, if_pos hk]; exact ⟨rfl, rfl⟩)
  · simp (disch := omega) only [gs_w3, gr_w3, gl_w3, w3_0, w3_1, w3_2, w3_ne, si_w3_0, si_w3_1, si_w3_2, pk_mul, nI_add, nI_clamp, upd_eq, upd_ne, hwk] at c
    exact absurd ((nI_ltI (by omega) (by omega)).mpr h8) c

