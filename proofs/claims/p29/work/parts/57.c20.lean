/-! a pallet comes -/
def insN (r : Nat → Nat) (ix w : Nat) : Nat → Nat := fun j => if j < ix then r j else if j = ix then r w else if j ≤ w then r (j - 1) else r j
theorem t5_insertPallet {ω : Om} {h : AH} {Q : Option Value → AH → Prop} (hw : ω.2.2.2.1 = true) {x w : Nat} {due n2 : Int32} (l : LayS h x) (hw1 : gi h x 3 = nI w) (w8 : w < 8) (h4 : gi h x 4 = n2) (so : ∀ i j, i < j → j < w → gi h (pA h x i) 5 ≤ gi h (pA h x j) 5) (hq : ∀ (h' : AH) (ix : Nat), ix ≤ w → (∀ j, j < ix → gi h (pA h x j) 5 ≤ due) → (∀ j, ix ≤ j → j < w → due < gi h (pA h x j) 5) → gs h' = gs h → gl h' = gl h → (∀ b, b ≠ x → b ≠ pA h x w → gi h' b = gi h b) → gi h' x = upd (upd (gi h x) 3 (nI (w + 1))) 4 (n2 + nI 1) → gi h' (pA h x w) = upd (upd (gi h (pA h x w)) 0 n2) 5 due → (∀ b, b ≠ x + 20 → gr h' b = gr h b) → (∀ j, j < 8 → gr h' (x + 20) j = insN (gr h (x + 20)) ix w j) → Q (some (.ref (pA h x w))) h') : Ex ω M5_insertPallet 0 [some (.ref x), some (.int due), none, none] [] h 0 0 Q := by
  obtain ⟨jj, hjj, ej, oj⟩ := l.pal (i := w) w8
  have em : (if nI 7 < nI w then nI 7 else nI w) = nI w := if_neg (by rw [nI_ltI (by omega) (by omega)]; omega)
  refine B5_insertPallet_0 hw l.1.1 (by rw [hw1, em]; exact vp_in_nI (by omega) (by omega)) ?_
  rw [hw1, em, l.2.1.2.1, nI_clamp (by omega), show gr h (x + 20) w = pA h x w from rfl]
  obtain ⟨A, hA⟩ : ∃ A, pA h x w = A := ⟨_, rfl⟩
  rw [hA] at ej oj hq ⊢
  have fin : ∀ (i : Nat) (r1 : Nat → Nat), i ≤ w → (∀ j, j < i → gi h (pA h x j) 5 ≤ due) → (∀ j, i ≤ j → j < w → due < gi h (pA h x j) 5) → (∀ j, j < 8 → j ≠ i → r1 j = insN (gr h (x + 20)) i w j) → Ex ω M5_insertPallet 56 [some (.ref x), some (.int due), some (.int (nI i)), some (.ref A)] [] (wr h (x + 20) r1) 0 0 Q := by
    intro i r1 hi h1 h2 h3
    refine B5_insertPallet_56 hw (by exact l.1.1) (by exact oj) (vp_in_nI (by omega) (by omega)) ?_
    have g0 : gr (wr h (x + 20) r1) x 2 = x + 20 := by rw [gr_wr_ne _ _ _ (by omega)]; exact l.2.1.2.1
    have em2 : (if nI 8 < nI (w + 1) then nI 8 else nI (w + 1)) = nI (w + 1) := if_neg (by rw [nI_ltI (by omega) (by omega)]; omega)
    rw [g0, nI_clamp (by omega)]
    simp (disch := omega) only [si_wi, sr_wr, sl_wl, gi_wi, gi_wi_ne, gr_wi, gs_wi, gl_wi, gi_wr, gr_wr, gr_wr_ne, gs_wr, gl_wr, gi_wl, gr_wl, gs_wl, gl_wl, gl_wl_ne, wi_wi, wr_wr, updN_eq, updN_ne, pk_mul, nI_add, nI_clamp, upd_eq, upd_ne, hw1, em2]
    refine B5_insertPallet_78 hw (by exact l.1.1) (by exact oj) ?_
    have hAx : A ≠ x := by omega
    simp (disch := omega) only [si_wi, sr_wr, sl_wl, gi_wi, gi_wi_ne, gr_wi, gs_wi, gl_wi, gi_wr, gr_wr, gr_wr_ne, gs_wr, gl_wr, gi_wl, gr_wl, gs_wl, gl_wl, gl_wl_ne, wi_wi, wr_wr, updN_eq, updN_ne, pk_mul, nI_add, nI_clamp, upd_eq, upd_ne, h4]
    refine hq _ i hi h1 h2 rfl rfl (fun b hb hb2 => ?_) ?_ ?_ (fun b hb => ?_) (fun j hj => ?_)
    · rw [gi_wi_ne _ _ _ hb, gi_wi_ne _ _ _ hb2, gi_wi_ne _ _ _ hb, gi_wr]
    · rw [gi_wi]
    · rw [gi_wi_ne _ _ _ hAx, gi_wi]
    · rw [gr_wi, gr_wi, gr_wi, gr_wr_ne _ _ _ hb]
    · rw [gr_wi, gr_wi, gr_wi, gr_wr]
      unfold updN
      by_cases z : j = i
      · rw [if_pos z]
        unfold insN
        rw [if_neg (by omega), if_pos z]
        exact hA.symm
      · rw [if_neg z]; exact h3 j hj z
  have lp : ∀ (i : Nat) (r1 : Nat → Nat), i ≤ w → (∀ j, i ≤ j → j < w → due < gi h (pA h x j) 5) → (∀ j, j < 8 → r1 j = if j ≤ i then gr h (x + 20) j else if j ≤ w then gr h (x + 20) (j - 1) else gr h (x + 20) j) → Ex ω M5_insertPallet 17 [some (.ref x), some (.int due), some (.int (nI i)), some (.ref A)] [] (wr h (x + 20) r1) 0 0 Q := by
    have conv : ∀ (i : Nat) (r1 : Nat → Nat), (∀ j, j < 8 → r1 j = if j ≤ i then gr h (x + 20) j else if j ≤ w then gr h (x + 20) (j - 1) else gr h (x + 20) j) → (∀ j, j < 8 → j ≠ i → r1 j = insN (gr h (x + 20)) i w j) := by
      intro i r1 hr j hj hji
      rw [hr j hj]
      unfold insN
      (repeat' split) <;> first | rfl | (exfalso; omega)
    intro i
    induction i with
    | zero =>
      intro r1 hi h2 hr
      exact B5_insertPallet_17 hw (fun _ => fin 0 r1 hi (fun j hj => by omega) h2 (conv 0 r1 hr)) (fun c => absurd (by decide) c)
    | succ i ih =>
      intro r1 hi h2 hr
      have es : nI (i + 1) - nI 1 = nI i := by rw [pk_sub (by omega)]; rfl
      have g0 : gr (wr h (x + 20) r1) x 2 = x + 20 := by rw [gr_wr_ne _ _ _ (by omega)]; exact l.2.1.2.1
      have ri : r1 i = pA h x i := by rw [hr i (by omega), if_pos (by omega)]; rfl
      refine B5_insertPallet_17 hw (fun c => ?_) (fun _ => ?_)
      · rw [show (0 : Int32) = nI 0 from rfl, nI_leI (by omega) (by omega)] at c; omega
      refine B5_insertPallet_21 hw (by exact l.1.1) (by rw [es]; exact vp_in_nI (by omega) (by omega)) (fun c => ?_) (fun c => ?_)
      · rw [es, g0, nI_clamp (by omega), gr_wr, gi_wr, ri] at c
        refine fin (i + 1) r1 hi (fun j hj => ?_) h2 (conv (i + 1) r1 hr)
        by_cases z : j = i
        · rw [z]; exact c
        · exact Int32.le_trans (so j i (by omega) (by omega)) c
      · rw [es, g0, nI_clamp (by omega), gr_wr, gi_wr, ri] at c
        refine B5_insertPallet_36 hw (by exact l.1.1) (by rw [es]; exact vp_in_nI (by omega) (by omega)) (vp_in_nI (by omega) (by omega)) ?_
        rw [es, g0, nI_clamp (by omega), nI_clamp (by omega), gr_wr, ri, pk_m1, sr_wr, gr_wr, wr_wr]
        refine ih _ (by omega) (fun j hj hj2 => ?_) (fun j hj => ?_)
        · by_cases z : j = i
          · rw [z]; exact Int32.not_le.mp c
          · exact h2 j (by omega) hj2
        · unfold updN
          by_cases z : j = i + 1
          · rw [if_pos z, if_neg (by omega), if_pos (by omega), z]; rfl
          · rw [if_neg z, hr j hj]
            (repeat' split) <;> first | rfl | (exfalso; omega)
  have := lp w (gr h (x + 20)) (Nat.le_refl _) (fun j h1 h2 => by omega) (fun j hj => by (repeat' split) <;> first | rfl | (exfalso; omega))
  rw [wr_self] at this
  exact this

