/-! the class: a new result, its begin, the sums -/
def shR (r : Nat → Nat) : Nat → Nat := fun j => if j = 0 then r 5 else r (j - 1)
theorem shR_P {r r' : Nat → Nat} {base : Nat} (p : RowP r 6 base 3) (e : ∀ j, j < 6 → r' j = shR r j) : RowP r' 6 base 3 := by
  refine RowP_of p (fun j => if j = 0 then 5 else j - 1) (fun j hj => ?_) (fun j hj => ?_) (fun a b h1 h2 => ?_)
  · rw [e j hj]
    unfold shR
    (repeat' split) <;> rfl
  · (repeat' split) <;> omega
  · (repeat' split) <;> omega
theorem t5_keepNewResult {ω : Om} {h : AH} {Q : Option Value → AH → Prop} (hw : ω.2.2.2.1 = true) {x d : Nat} (l : LayS h x) (hd : gi h x 6 = nI (min d 6)) (hq : ∀ h' : AH, gs h' = gs h → gl h' = gl h → (∀ b, b ≠ x → gi h' b = gi h b) → gi h' x = upd (gi h x) 6 (nI (min (d + 1) 6)) → (∀ b, b ≠ x + 29 → gr h' b = gr h b) → (∀ j, j < 6 → gr h' (x + 29) j = shR (gr h (x + 29)) j) → Q (some (.ref (gr h (x + 29) 5))) h') : Ex ω M5_keepNewResult 0 [some (.ref x), none, none] [] h 0 0 Q := by
  obtain ⟨jj, hjj, ej, oj⟩ := l.res (i := 5) (by omega)
  refine B5_keepNewResult_0 hw l.1.1 ?_
  rw [l.2.1.2.2.1]
  have s1 : ∀ r1, gs (wr h (x + 29) r1) x = some (5, 11) := fun _ => l.1.1
  have g0 : ∀ r1, gr (wr h (x + 29) r1) x 5 = x + 29 := fun r1 => by rw [gr_wr_ne _ _ _ (by omega)]; exact l.2.1.2.2.1
  have lp : ∀ (k : Nat) (r1 : Nat → Nat), k ≤ 5 → (∀ j, r1 j = if k < j ∧ j < 6 then gr h (x + 29) (j - 1) else gr h (x + 29) j) → Ex ω M5_keepNewResult 9 [some (.ref x), some (.ref (gr h (x + 29) 5)), some (.int (nI k))] [] (wr h (x + 29) r1) 0 0 Q := by
    intro k
    induction k with
    | zero =>
      intro r1 hk hr
      refine B5_keepNewResult_9 hw (fun _ => ?_) (fun c => absurd (show nI 0 ≤ 0 from by decide) c)
      refine B5_keepNewResult_33 hw (s1 r1) oj.1 (B5_keepNewResult_55 hw ?_)
      rw [g0, sr_wr, gr_wr, wr_wr, si_wi]
      have em : (if nI 6 < gi (wr h (x + 29) (updN r1 0 (gr h (x + 29) 5))) x 6 + nI 1 then nI 6 else gi (wr h (x + 29) (updN r1 0 (gr h (x + 29) 5))) x 6 + nI 1) = nI (min (d + 1) 6) := by
        rw [gi_wr, hd, nI_add]
        by_cases c : 6 < min d 6 + 1
        · rw [if_pos ((nI_ltI (by omega) (by omega)).mpr c), show min (d + 1) 6 = 6 from by omega]
        · rw [if_neg (fun q => c ((nI_ltI (by omega) (by omega)).mp q)), show min (d + 1) 6 = min d 6 + 1 from by omega]
      rw [em]
      refine hq _ rfl rfl (fun b hb => ?_) ?_ (fun b hb => ?_) (fun j hj => ?_)
      · rw [gi_wi_ne _ _ _ hb, gi_wr]
      · rw [gi_wi, gi_wr]
      · rw [gr_wi, gr_wr_ne _ _ _ hb]
      · rw [gr_wi, gr_wr]
        unfold updN shR
        by_cases z : j = 0
        · rw [if_pos z, if_pos z]
        · rw [if_neg z, if_neg z, hr j, if_pos ⟨by omega, hj⟩]
    | succ k ih =>
      intro r1 hk hr
      refine B5_keepNewResult_9 hw (fun c => ?_) (fun _ => ?_)
      · rw [show (0 : Int32) = nI 0 from rfl, nI_leI (by omega) (by omega)] at c; omega
      refine B5_keepNewResult_13 hw (s1 r1) (by rw [pk_sub (by omega)]; exact vp_in_nI (by omega) (by omega)) (vp_in_nI (by omega) (by omega)) ?_
      rw [g0, pk_sub (by omega), nI_clamp (by omega), nI_clamp (by omega), pk_m1, sr_wr, gr_wr, wr_wr]
      refine ih _ (by omega) (fun j => ?_)
      unfold updN
      by_cases z : j = k + 1
      · rw [if_pos z, if_pos ⟨by omega, by omega⟩, hr, if_neg (by omega), z]
      · rw [if_neg z, hr j]
        by_cases z2 : k + 1 < j ∧ j < 6
        · rw [if_pos z2, if_pos ⟨by omega, z2.2⟩]
        · rw [if_neg z2, if_neg (by omega)]
  have := lp 5 (gr h (x + 29)) (Nat.le_refl _) (fun j => by rw [if_neg (by omega)])
  rw [wr_self] at this
  exact this
theorem t3_begin {ω : Om} {h : AH} {Q : Option Value → AH → Prop} (hw : ω.2.2.2.1 = true) {r P hi : Nat} {f p s : Nat → Int32} (o : ResO h r) (sP : gs h P = some (1, 6)) (ne : P < r ∨ r + 3 ≤ P) (p3 : gi h P 3 = nI hi) (hb : hi ≤ 250) (hq : ∀ f' p' s' : Nat → Int32, f' 0 = gi h P 0 → f' 1 = nI ((hi + 9) / 10) → (∀ k, 2 ≤ k → k ≤ 12 → f' k = nI 0) → (∀ k, k < (hi + 9) / 10 → p' k = nI 0 ∧ s' k = nI 0) → Q none (w3 h r f' p' s')) : Ex ω M3_begin 0 [some (.ref r), some (.ref P), none] [] (w3 h r f p s) 0 0 Q := by
  refine B3_begin_0 hw (by exact sP) o.1 ?_
  simp (disch := omega) only [gs_w3, gr_w3, gl_w3, w3_0, w3_1, w3_2, w3_ne, si_w3_0, si_w3_1, si_w3_2, pk_mul, nI_add, nI_clamp, upd_eq, upd_ne]
  refine t1_zones hw (by exact sP) (by rw [w3_ne _ _ _ _ _ (by omega)]; exact p3) (by omega) (B3_begin_13 hw o.1 o.1 ?_)
  simp (disch := omega) only [gs_w3, gr_w3, gl_w3, w3_0, w3_1, w3_2, w3_ne, si_w3_0, si_w3_1, si_w3_2, pk_mul, nI_add, nI_clamp, upd_eq, upd_ne]
  refine B3_begin_51 hw o.1 ?_
  simp (disch := omega) only [gs_w3, gr_w3, gl_w3, w3_0, w3_1, w3_2, w3_ne, si_w3_0, si_w3_1, si_w3_2, pk_mul, nI_add, nI_clamp, upd_eq, upd_ne]
  obtain ⟨f', hfe, hf0, hf1, hf⟩ : ∃ f' : Nat → Int32, f' = upd (upd (upd (upd (upd (upd (upd (upd (upd (upd (upd (upd (upd f 0 (gi h P 0)) 1 (nI ((hi + 9) / 10))) 2 (nI 0)) 3 (nI 0)) 4 (nI 0)) 5 (nI 0)) 6 (nI 0)) 7 (nI 0)) 8 (nI 0)) 9 (nI 0)) 10 (nI 0)) 11 (nI 0)) 12 (nI 0) ∧ f' 0 = gi h P 0 ∧ f' 1 = nI ((hi + 9) / 10) ∧ ∀ k, 2 ≤ k → k ≤ 12 → f' k = nI 0 := by
    refine ⟨_, rfl, ?_, ?_, fun k h1 h2 => ?_⟩
    · simp (disch := omega) only [gs_w3, gr_w3, gl_w3, w3_0, w3_1, w3_2, w3_ne, si_w3_0, si_w3_1, si_w3_2, pk_mul, nI_add, nI_clamp, upd_eq, upd_ne]
    · simp (disch := omega) only [gs_w3, gr_w3, gl_w3, w3_0, w3_1, w3_2, w3_ne, si_w3_0, si_w3_1, si_w3_2, pk_mul, nI_add, nI_clamp, upd_eq, upd_ne]
    · have : k = 2 ∨ k = 3 ∨ k = 4 ∨ k = 5 ∨ k = 6 ∨ k = 7 ∨ k = 8 ∨ k = 9 ∨ k = 10 ∨ k = 11 ∨ k = 12 := by omega
      rcases this with rfl | rfl | rfl | rfl | rfl | rfl | rfl | rfl | rfl | rfl | rfl <;> simp (disch := omega) only [gs_w3, gr_w3, gl_w3, w3_0, w3_1, w3_2, w3_ne, si_w3_0, si_w3_1, si_w3_2, pk_mul, nI_add, nI_clamp, upd_eq, upd_ne]
  rw [← hfe]
  clear hfe
  have lp : ∀ (d i : Nat) (p' s' : Nat → Int32), i + d = (hi + 9) / 10 → (∀ k, k < i → p' k = nI 0 ∧ s' k = nI 0) → Ex ω M3_begin 73 [some (.ref r), none, some (.int (nI i))] [] (w3 h r f' p' s') 0 0 Q := by
    intro d
    induction d with
    | zero =>
      intro i p' s' hi hp
      refine B3_begin_73 hw o.1 (fun _ => B3_begin_101 hw (hq f' p' s' hf0 hf1 hf (fun k hk => hp k (by omega)))) (fun c => ?_)
      simp (disch := omega) only [gs_w3, gr_w3, gl_w3, w3_0, w3_1, w3_2, w3_ne, si_w3_0, si_w3_1, si_w3_2, pk_mul, nI_add, nI_clamp, upd_eq, upd_ne, hf1] at c
      exact absurd (nI_le (by omega) (by omega)) c
    | succ d ih =>
      intro i p' s' hi hp
      refine B3_begin_73 hw o.1 (fun c => ?_) (fun _ => ?_)
      · simp (disch := omega) only [gs_w3, gr_w3, gl_w3, w3_0, w3_1, w3_2, w3_ne, si_w3_0, si_w3_1, si_w3_2, pk_mul, nI_add, nI_clamp, upd_eq, upd_ne, hf1] at c
        exact absurd c (nI_ge (by omega) (by omega))
      have iv := vp_in_nI (n := i) (N := 25) (by omega) (by omega)
      refine B3_begin_81 hw o.1 iv iv ?_
      simp (disch := omega) only [gs_w3, gr_w3, gl_w3, w3_0, w3_1, w3_2, w3_ne, si_w3_0, si_w3_1, si_w3_2, pk_mul, nI_add, nI_clamp, upd_eq, upd_ne, o.2.2.2.1, o.2.2.2.2]
      refine ih (i + 1) _ _ (by omega) (fun k hk => ?_)
      by_cases z : k = i
      · subst z; exact ⟨upd_eq _ _ _, upd_eq _ _ _⟩
      · rw [upd_ne _ _ z, upd_ne _ _ z]; exact hp k (by omega)
  exact lp _ 0 p s (Nat.zero_add _) (fun k hk => by omega)
theorem t6_add {ω : Om} {h : AH} {Q : Option Value → AH → Prop} (hw : ω.2.2.2.1 = true) {a r g : Nat} (sa : gs h a = some (6, 12)) (sr : gs h r = some (3, 15)) (ne : r ≠ a) (g2 : gi h r 2 = nI g) (hg : g ≤ 2) (hq : ∀ (f : Nat → Int32) (w : Nat → Int64), f 0 = gi h a 0 + nI 1 → f 1 = gi h a 1 + nI (if g = 0 then 0 else 1) → (∀ k, 2 ≤ k → k ≤ 10 → f k = gi h a k + gi h r (k + 1)) → w 11 = gl h a 11 + Int32.toInt64 (gi h r 12) → Q none (wl (wi h a f) a w)) : Ex ω M6_add 0 [some (.ref a), some (.ref r)] [] h 0 0 Q := by
  have tail : ∀ (y : Int32), y = nI (if g = 0 then 0 else 1) → Ex ω M6_add 27 [some (.ref a), some (.ref r)] [.int y, .int (gi (si h a 0 (gi h a 0 + nI 1)) a 1), .ref a] (si h a 0 (gi h a 0 + nI 1)) 0 0 Q := by
    intro y hy
    subst hy
    refine B6_add_27 hw (by exact sa) (by exact sa) (by exact sr) ?_
    simp (disch := omega) only [si_wi, sr_wr, sl_wl, gi_wi, gi_wi_ne, gr_wi, gs_wi, gl_wi, gi_wr, gr_wr, gr_wr_ne, gs_wr, gl_wr, gi_wl, gr_wl, gs_wl, gl_wl, gl_wl_ne, wi_wi, wr_wr, updN_eq, updN_ne, pk_mul, nI_add, nI_clamp, upd_eq, upd_ne]
    refine B6_add_57 hw (by exact sa) (by exact sr) ?_
    simp (disch := omega) only [si_wi, sr_wr, sl_wl, gi_wi, gi_wi_ne, gr_wi, gs_wi, gl_wi, gi_wr, gr_wr, gr_wr_ne, gs_wr, gl_wr, gi_wl, gr_wl, gs_wl, gl_wl, gl_wl_ne, wi_wi, wr_wr, updN_eq, updN_ne, pk_mul, nI_add, nI_clamp, upd_eq, upd_ne]
    refine B6_add_83 hw (by exact sa) (by exact sr) ?_
    simp (disch := omega) only [si_wi, sr_wr, sl_wl, gi_wi, gi_wi_ne, gr_wi, gs_wi, gl_wi, gi_wr, gr_wr, gr_wr_ne, gs_wr, gl_wr, gi_wl, gr_wl, gs_wl, gl_wl, gl_wl_ne, wi_wi, wr_wr, updN_eq, updN_ne, pk_mul, nI_add, nI_clamp, upd_eq, upd_ne]
    refine B6_add_109 hw (by exact sa) (by exact sr) ?_
    simp (disch := omega) only [si_wi, sr_wr, sl_wl, gi_wi, gi_wi_ne, gr_wi, gs_wi, gl_wi, gi_wr, gr_wr, gr_wr_ne, gs_wr, gl_wr, gi_wl, gr_wl, gs_wl, gl_wl, gl_wl_ne, wi_wi, wr_wr, updN_eq, updN_ne, pk_mul, nI_add, nI_clamp, upd_eq, upd_ne]
    refine B6_add_135 hw (by exact sa) (by exact sr) (B6_add_162 hw ?_)
    simp (disch := omega) only [si_wi, sr_wr, sl_wl, gi_wi, gi_wi_ne, gr_wi, gs_wi, gl_wi, gi_wr, gr_wr, gr_wr_ne, gs_wr, gl_wr, gi_wl, gr_wl, gs_wl, gl_wl, gl_wl_ne, wi_wi, wr_wr, updN_eq, updN_ne, pk_mul, nI_add, nI_clamp, upd_eq, upd_ne]
    refine hq _ _ ?_ ?_ (fun k h1 h2 => ?_) (by exact pk_uLs)
    · simp (disch := omega) only [si_wi, sr_wr, sl_wl, gi_wi, gi_wi_ne, gr_wi, gs_wi, gl_wi, gi_wr, gr_wr, gr_wr_ne, gs_wr, gl_wr, gi_wl, gr_wl, gs_wl, gl_wl, gl_wl_ne, wi_wi, wr_wr, updN_eq, updN_ne, pk_mul, nI_add, nI_clamp, upd_eq, upd_ne]
    · simp (disch := omega) only [si_wi, sr_wr, sl_wl, gi_wi, gi_wi_ne, gr_wi, gs_wi, gl_wi, gi_wr, gr_wr, gr_wr_ne, gs_wr, gl_wr, gi_wl, gr_wl, gs_wl, gl_wl, gl_wl_ne, wi_wi, wr_wr, updN_eq, updN_ne, pk_mul, nI_add, nI_clamp, upd_eq, upd_ne]
    · have : k = 2 ∨ k = 3 ∨ k = 4 ∨ k = 5 ∨ k = 6 ∨ k = 7 ∨ k = 8 ∨ k = 9 ∨ k = 10 := by omega
      rcases this with rfl | rfl | rfl | rfl | rfl | rfl | rfl | rfl | rfl <;> simp (disch := omega) only [si_wi, sr_wr, sl_wl, gi_wi, gi_wi_ne, gr_wi, gs_wi, gl_wi, gi_wr, gr_wr, gr_wr_ne, gs_wr, gl_wr, gi_wl, gr_wl, gs_wl, gl_wl, gl_wl_ne, wi_wi, wr_wr, updN_eq, updN_ne, pk_mul, nI_add, nI_clamp, upd_eq, upd_ne]
  refine B6_add_0 hw sa sr (fun c => B6_add_26 hw (tail _ ?_)) (fun c => B6_add_22 hw (tail _ ?_))
  · simp (disch := omega) only [si_wi, sr_wr, sl_wl, gi_wi, gi_wi_ne, gr_wi, gs_wi, gl_wi, gi_wr, gr_wr, gr_wr_ne, gs_wr, gl_wr, gi_wl, gr_wl, gs_wl, gl_wl, gl_wl_ne, wi_wi, wr_wr, updN_eq, updN_ne, pk_mul, nI_add, nI_clamp, upd_eq, upd_ne, g2] at c
    rw [show (0 : Int32) = nI 0 from rfl, nI_eq (by omega) (by omega)] at c
    rw [if_neg c]
  · simp (disch := omega) only [si_wi, sr_wr, sl_wl, gi_wi, gi_wi_ne, gr_wi, gs_wi, gl_wi, gi_wr, gr_wr, gr_wr_ne, gs_wr, gl_wr, gi_wl, gr_wl, gs_wl, gl_wl, gl_wl_ne, wi_wi, wr_wr, updN_eq, updN_ne, pk_mul, nI_add, nI_clamp, upd_eq, upd_ne, g2] at c
    rw [show (0 : Int32) = nI 0 from rfl, nI_eq (by omega) (by omega)] at c
    rw [if_pos c]

