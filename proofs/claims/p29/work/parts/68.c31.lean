/-! the class: the present roll goes; what runs during a wrapping -/
theorem t5_removePresentRoll {ω : Om} {h : AH} {Q : Option Value → AH → Prop} (hw : ω.2.2.2.1 = true) {x c : Nat} (l : LSs h x) (lf : gr h x 0 = x + 1) (hc : gi h x 1 = nI c) (c6 : c ≤ 6) (c1 : 1 ≤ c) (sg : gs h (gr h (x + 1) 0) = some (4, 6)) (hq : ∀ h' : AH, gs h' = gs h → gl h' = gl h → (∀ b, b ≠ x → gi h' b = gi h b) → gi h' x = upd (gi h x) 1 (nI (c - 1)) → (∀ b, b ≠ x + 1 → gr h' b = gr h b) → (∀ j, j < 6 → gr h' (x + 1) j = rotR (gr h (x + 1)) 0 c j) → Q none h') : Ex ω M5_removePresentRoll 0 [some (.ref x), none, none] [] h 0 0 Q := by
  refine B5_removePresentRoll_0 hw l.1 ?_
  rw [lf]
  have lp : ∀ (d k : Nat) (r1 : Nat → Nat), k + d = c → 0 < k → (∀ j, r1 j = if 0 ≤ j ∧ j + 1 < k then gr h (x + 1) (j + 1) else gr h (x + 1) j) → Ex ω M5_removePresentRoll 9 [some (.ref x), some (.ref (gr h (x + 1) 0)), some (.int (nI k))] [] (wr h (x + 1) r1) 0 0 Q := by
    intro d
    induction d with
    | zero =>
      intro k r1 hk hik hr
      have ek : k = c := by omega
      subst ek
      have s1 : gs (wr h (x + 1) r1) x = some (5, 11) := l.1
      have es : gi (si (wr h (x + 1) r1) x 1 (gi (wr h (x + 1) r1) x 1 - nI 1)) x 1 = nI (k - 1) := by
        simp (disch := omega) only [si_wi, sr_wr, sl_wl, gi_wi, gi_wi_ne, gr_wi, gs_wi, gl_wi, gi_wr, gr_wr, gr_wr_ne, gs_wr, gl_wr, gi_wl, gr_wl, gs_wl, gl_wl, gl_wl_ne, wi_wi, wr_wr, updN_eq, updN_ne, pk_mul, nI_add, nI_clamp, upd_eq, upd_ne, hc]
        rw [pk_sub (by omega)]
      refine B5_removePresentRoll_9 hw s1 (fun _ => ?_) (fun z => ?_)
      · refine B5_removePresentRoll_37 hw s1 sg (by rw [es]; exact vp_in_nI (by omega) (by omega)) ?_
        rw [es, nI_clamp (by omega)]
        rw [si_wi, sr_wr]
        have g0 : gr (wr h (x + 1) r1) x 0 = x + 1 := by rw [gr_wr_ne _ _ _ (by omega)]; exact lf
        rw [g0]
        refine hq _ rfl rfl (fun b hb => ?_) ?_ (fun b hb => ?_) (fun j hj => ?_)
        · rw [gi_wr, gi_wi_ne _ _ _ hb, gi_wr]
        · rw [gi_wr, gi_wi, gi_wr, hc, pk_sub (by omega)]
        · rw [gr_wr_ne _ _ _ hb, gr_wi, gr_wr_ne _ _ _ hb]
        · rw [gr_wr, gr_wi, gr_wr]
          unfold rotR updN
          by_cases z : j = k - 1
          · rw [if_pos z, if_neg (by omega), if_pos (by omega)]
          · rw [if_neg z, hr j]
            by_cases z2 : 0 ≤ j ∧ j + 1 < k
            · rw [if_pos z2, if_pos z2]
            · rw [if_neg z2, if_neg z2, if_neg (by omega)]
      · rw [gi_wr, hc] at z
        exact absurd (nI_le (by omega) (by omega)) z
    | succ d ih =>
      intro k r1 hk hik hr
      have s1 : gs (wr h (x + 1) r1) x = some (5, 11) := l.1
      refine B5_removePresentRoll_9 hw s1 (fun z => ?_) (fun _ => ?_)
      · rw [gi_wr, hc] at z
        exact absurd z (nI_ge (by omega) (by omega))
      refine B5_removePresentRoll_17 hw s1 (vp_in_nI (by omega) (by omega)) (by rw [pk_sub (by omega)]; exact vp_in_nI (by omega) (by omega)) ?_
      have g0 : gr (wr h (x + 1) r1) x 0 = x + 1 := by rw [gr_wr_ne _ _ _ (by omega)]; exact lf
      rw [g0, pk_sub (by omega), nI_clamp (by omega), nI_clamp (by omega), nI_add, sr_wr, gr_wr, wr_wr]
      refine ih (k + 1) _ (by omega) (by omega) (fun j => ?_)
      unfold updN
      by_cases z : j = k - 1
      · rw [if_pos z, if_pos (by omega), hr k, if_neg (by omega)]
        exact congrArg _ (by omega)
      · rw [if_neg z, hr j]
        by_cases z2 : 0 ≤ j ∧ j + 1 < k
        · rw [if_pos z2, if_pos (by omega)]
        · rw [if_neg z2, if_neg (by omega)]
  have := lp (c - 1) 1 (gr h (x + 1)) (by omega) (by omega) (fun j => by rw [if_neg (by omega)])
  rw [wr_self] at this
  exact this
theorem rotR_P6 {r : Nat → Nat} {n base : Nat} (p : RowP r 6 base 3) (hi : 0 < n) (hn : n ≤ 6) {r' : Nat → Nat} (e : ∀ j, j < 6 → r' j = rotR r 0 n j) : RowP r' 6 base 3 := by
  refine RowP_of p (fun j => if 0 ≤ j ∧ j + 1 < n then j + 1 else if j + 1 = n then 0 else j) (fun j hj => ?_) (fun j hj => ?_) (fun a b h1 h2 => ?_)
  · rw [e j hj]
    unfold rotR
    (repeat' split) <;> rfl
  · (repeat' split) <;> omega
  · (repeat' split) <;> omega
/-- only the rolls and the result changed -/
def RunFr (x R : Nat) (hs h : AH) : Prop := gs h = gs hs ∧ gl h = gl hs ∧ (∀ b, b ≠ x + 1 → gr h b = gr hs b) ∧ (∀ b, (b < x ∨ x + 20 ≤ b) → (b < R ∨ R + 3 ≤ b) → gi h b = gi hs b) ∧ ∀ k, k ≠ 1 → gi h x k = gi hs x k
theorem RunFr.refl (x R : Nat) (h : AH) : RunFr x R h h := ⟨rfl, rfl, fun _ _ => rfl, fun _ _ _ => rfl, fun _ _ => rfl⟩
theorem RunFr.trans {x R : Nat} {h1 h2 h3 : AH} (a : RunFr x R h1 h2) (b : RunFr x R h2 h3) : RunFr x R h1 h3 := ⟨b.1.trans a.1, b.2.1.trans a.2.1, fun q hq => (b.2.2.1 q hq).trans (a.2.2.1 q hq), fun q h1 h2 => (b.2.2.2.1 q h1 h2).trans (a.2.2.2.1 q h1 h2), fun q hq => (b.2.2.2.2 q hq).trans (a.2.2.2.2 q hq)⟩
theorem RunFr.crs {x R C : Nat} {hs h : AH} {f f' : Nat → Int32} (a : RunFr x R (wi hs C f) h) (ne : C < x ∨ x + 20 ≤ C) : RunFr x R (wi hs C f') (wi h C f') := by
  obtain ⟨a1, a2, a3, a4, a5⟩ := a
  refine ⟨a1, a2, a3, fun b h1 h2 => ?_, fun k hk => ?_⟩
  · by_cases z : b = C
    · subst z; rw [gi_wi, gi_wi]
    · have := a4 b h1 h2
      rw [gi_wi_ne _ _ _ z] at this
      rw [gi_wi_ne _ _ _ z, gi_wi_ne _ _ _ z, this]
  · have := a5 k hk
    rw [gi_wi_ne _ _ _ (by omega)] at this
    rw [gi_wi_ne _ _ _ (by omega), gi_wi_ne _ _ _ (by omega), this]
/-- the rolls of a state stand for the row's -/
def RunR (h : AH) (x c : Nat) (N : Nat → Int32) : Prop := gi h x 1 = nI c ∧ RowP (gr h (x + 1)) 6 (x + 2) 3 ∧ ∀ i, i < c → rollV (gi h (rA h x i)) (gi h (rA h x i + 1)) (gi h (rA h x i + 2)) (rollG N i)
/-- the result at work stands for the row's entry, and the totals are the old ones and it -/
def runV (f p s N0 N : Nat → Int32) (e z : Nat) : Prop := (f 0 = N e ∧ f 1 = nI z ∧ f 3 = N (e + 2) ∧ f 4 = N (e + 3) ∧ f 5 = N (e + 4) ∧ f 6 + f 7 + f 8 = N (e + 5) ∧ f 9 = N (e + 6) ∧ f 10 = N (e + 7) ∧ f 11 = N (e + 10) ∧ f 12 = N (e + 11)) ∧ (N 9 = N0 9 + f 5 ∧ N 10 = N0 10 + f 6 ∧ N 11 = N0 11 + f 7 ∧ N 12 = N0 12 + f 8 ∧ N 13 = N0 13 + f 9 ∧ N 14 = N0 14 + f 10 ∧ N 15 = N0 15 + f 3 ∧ N 16 = N0 16 + f 4 ∧ N 6 = N0 6 + f 11 ∧ N 8 = N 9 + N 10 + N 11 + N 12) ∧ ∀ i, i < z → p i = N (e + 13 + i) ∧ s i = N (e + 38 + i)
theorem rollGoes_ne {N : Nat → Int32} {c j : Nat} (h0 : j ≠ 0) (h : ¬ (20 ≤ j ∧ j < 20 * c)) : rollGoesN N c j = N j := by
  unfold rollGoesN
  rw [if_neg h0, if_neg h]
theorem runV_chg {f p s N0 N : Nat → Int32} {e z c : Nat} {v : Int32} (r : runV f p s N0 N e z) (he1 : 212 ≤ e) (he2 : e ≤ 532) (hz : z ≤ 25) (c6 : c ≤ 6) (hv : v = N 20 - N 22) : runV (upd (upd (upd f 6 (f 6 + v)) 10 (f 10 + nI 1)) 11 (f 11 + nI 60)) p s N0 (chgN N e c) e z := by
  obtain ⟨⟨a0, a1, a2, a3, a4, a5, a6, a7, a8, a9⟩, ⟨b0, b1, b2, b3, b4, b5, b6, b7, b8, b9⟩, d⟩ := r
  subst hv
  refine ⟨⟨?_, ?_, ?_, ?_, ?_, ?_, ?_, ?_, ?_, ?_⟩, ⟨?_, ?_, ?_, ?_, ?_, ?_, ?_, ?_, ?_, ?_⟩, fun i hi => ⟨by rw [(d i hi).1, chg_hi he1 c6 (by omega)], by rw [(d i hi).2, chg_hi he1 c6 (by omega)]⟩⟩
  all_goals simp (disch := omega) only [chgN, lastsN, wastesN, addC_ne, addC_eq, rollGoes_ne, upd_eq, upd_ne, Nat.reduceAdd]
  all_goals first | assumption | skip
  · rw [← a5]; ac_rfl
  · rw [a7]
  · rw [a8]
  · rw [b1]; ac_rfl
  · rw [b5]; ac_rfl
  · rw [b8]; ac_rfl
  · rw [b9]; ac_rfl

