/-! a pallet goes -/
def rotR (r : Nat → Nat) (i n : Nat) : Nat → Nat := fun j => if i ≤ j ∧ j + 1 < n then r (j + 1) else if j + 1 = n then r i else r j
theorem t5_removePallet {ω : Om} {h : AH} {Q : Option Value → AH → Prop} (hw : ω.2.2.2.1 = true) {x w i : Nat} (l : LayS h x) (hw1 : gi h x 3 = nI w) (w8 : w ≤ 8) (hi : i < w) (hq : ∀ h' : AH, gs h' = gs h → gl h' = gl h → (∀ b, b ≠ x → gi h' b = gi h b) → gi h' x = upd (gi h x) 3 (nI (w - 1)) → (∀ b, b ≠ x + 20 → gr h' b = gr h b) → (∀ j, j < 8 → gr h' (x + 20) j = rotR (gr h (x + 20)) i w j) → Q none h') : Ex ω M5_removePallet 0 [some (.ref x), some (.int (nI i)), none, none] [] h 0 0 Q := by
  obtain ⟨jj, hjj, ej, oj⟩ := l.pal (i := i) (by omega)
  refine B5_removePallet_0 hw l.1.1 (vp_in_nI (by omega) (by omega)) ?_
  rw [l.2.1.2.1, nI_clamp (by omega), nI_add, show gr h (x + 20) i = pA h x i from rfl]
  have lp : ∀ (d k : Nat) (r1 : Nat → Nat), k + d = w → i < k → (∀ j, r1 j = if i ≤ j ∧ j + 1 < k then gr h (x + 20) (j + 1) else gr h (x + 20) j) → Ex ω M5_removePallet 11 [some (.ref x), none, some (.ref (pA h x i)), some (.int (nI k))] [] (wr h (x + 20) r1) 0 0 Q := by
    intro d
    induction d with
    | zero =>
      intro k r1 hk hik hr
      have ek : k = w := by omega
      subst ek
      have s1 : gs (wr h (x + 20) r1) x = some (5, 11) := l.1.1
      have es : gi (si (wr h (x + 20) r1) x 3 (gi (wr h (x + 20) r1) x 3 - nI 1)) x 3 = nI (k - 1) := by
        simp (disch := omega) only [si_wi, sr_wr, sl_wl, gi_wi, gi_wi_ne, gr_wi, gs_wi, gl_wi, gi_wr, gr_wr, gr_wr_ne, gs_wr, gl_wr, gi_wl, gr_wl, gs_wl, gl_wl, gl_wl_ne, wi_wi, wr_wr, updN_eq, updN_ne, pk_mul, nI_add, nI_clamp, upd_eq, upd_ne, hw1]
        rw [pk_sub (by omega)]
      refine B5_removePallet_11 hw s1 (fun _ => ?_) (fun c => ?_)
      · refine B5_removePallet_39 hw s1 oj (by rw [es]; exact vp_in_nI (by omega) (by omega)) ?_
        rw [es, nI_clamp (by omega)]
        rw [si_wi, sr_wr]
        have g0 : gr (wr h (x + 20) r1) x 2 = x + 20 := by rw [gr_wr_ne _ _ _ (by omega)]; exact l.2.1.2.1
        rw [g0]
        refine hq _ rfl rfl (fun b hb => ?_) ?_ (fun b hb => ?_) (fun j hj => ?_)
        · rw [gi_wr, gi_wi_ne _ _ _ hb, gi_wr]
        · rw [gi_wr, gi_wi, gi_wr, hw1, pk_sub (by omega)]
        · rw [gr_wr_ne _ _ _ hb, gr_wi, gr_wr_ne _ _ _ hb]
        · rw [gr_wr, gr_wi, gr_wr]
          unfold rotR updN
          by_cases z : j = k - 1
          · rw [if_pos z, if_neg (by omega), if_pos (by omega)]; rfl
          · rw [if_neg z, hr j]
            by_cases z2 : i ≤ j ∧ j + 1 < k
            · rw [if_pos z2, if_pos z2]
            · rw [if_neg z2, if_neg z2, if_neg (by omega)]
      · rw [gi_wr, hw1] at c
        exact absurd (nI_le (by omega) (by omega)) c
    | succ d ih =>
      intro k r1 hk hik hr
      have s1 : gs (wr h (x + 20) r1) x = some (5, 11) := l.1.1
      refine B5_removePallet_11 hw s1 (fun c => ?_) (fun _ => ?_)
      · rw [gi_wr, hw1] at c
        exact absurd c (nI_ge (by omega) (by omega))
      refine B5_removePallet_19 hw s1 (vp_in_nI (by omega) (by omega)) (by rw [pk_sub (by omega)]; exact vp_in_nI (by omega) (by omega)) ?_
      have g0 : gr (wr h (x + 20) r1) x 2 = x + 20 := by rw [gr_wr_ne _ _ _ (by omega)]; exact l.2.1.2.1
      rw [g0, pk_sub (by omega), nI_clamp (by omega), nI_clamp (by omega), nI_add, sr_wr, gr_wr, wr_wr]
      refine ih (k + 1) _ (by omega) (by omega) (fun j => ?_)
      unfold updN
      by_cases z : j = k - 1
      · rw [if_pos z, if_pos (by omega), hr k, if_neg (by omega)]
        exact congrArg _ (by omega)
      · rw [if_neg z, hr j]
        by_cases z2 : i ≤ j ∧ j + 1 < k
        · rw [if_pos z2, if_pos (by omega)]
        · rw [if_neg z2, if_neg (by omega)]
  have := lp (w - (i + 1)) (i + 1) (gr h (x + 20)) (by omega) (by omega) (fun j => by rw [if_neg (by omega)])
  rw [wr_self] at this
  exact x_dr1 this
theorem rotR_P {r : Nat → Nat} {i n base : Nat} (p : RowP r 8 base 1) (hi : i < n) (hn : n ≤ 8) {r' : Nat → Nat} (e : ∀ j, j < 8 → r' j = rotR r i n j) : RowP r' 8 base 1 := by
  refine RowP_of p (fun j => if i ≤ j ∧ j + 1 < n then j + 1 else if j + 1 = n then i else j) (fun j hj => ?_) (fun j hj => ?_) (fun a b h1 h2 => ?_)
  · rw [e j hj]
    unfold rotR
    (repeat' split) <;> rfl
  · (repeat' split) <;> omega
  · (repeat' split) <;> omega
