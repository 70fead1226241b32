/-! objects with two rows of numbers behind them: Roll, Program, Result -/
def w3 (h : AH) (a : Nat) (f p s : Nat → Int32) : AH := (h.1, fun b => if b = a then f else if b = a + 1 then p else if b = a + 2 then s else h.2.1 b, h.2.2)
section W3
variable (h : AH) (a : Nat) (f p s : Nat → Int32)
theorem gs_w3 : gs (w3 h a f p s) = gs h := rfl
theorem gr_w3 : gr (w3 h a f p s) = gr h := rfl
theorem gl_w3 : gl (w3 h a f p s) = gl h := rfl
theorem w3_0 : gi (w3 h a f p s) a = f := if_pos rfl
theorem w3_1 : gi (w3 h a f p s) (a + 1) = p := by
  show (if a + 1 = a then f else if a + 1 = a + 1 then p else if a + 1 = a + 2 then s else h.2.1 (a + 1)) = p
  rw [if_neg (by omega), if_pos rfl]
theorem w3_2 : gi (w3 h a f p s) (a + 2) = s := by
  show (if a + 2 = a then f else if a + 2 = a + 1 then p else if a + 2 = a + 2 then s else h.2.1 (a + 2)) = s
  rw [if_neg (by omega), if_neg (by omega), if_pos rfl]
theorem w3_ne {b : Nat} (q : b < a ∨ a + 3 ≤ b) : gi (w3 h a f p s) b = gi h b := by
  show (if b = a then f else if b = a + 1 then p else if b = a + 2 then s else h.2.1 b) = gi h b
  rw [if_neg (by omega), if_neg (by omega), if_neg (by omega)]; rfl
theorem w3_ext {g1 g2 : Nat → Nat → Int32} (e : ∀ b, g1 b = g2 b) : ((h.1, g1, h.2.2) : AH) = (h.1, g2, h.2.2) := by rw [show g1 = g2 from funext e]
theorem si_w3_0 (k : Nat) (v : Int32) : si (w3 h a f p s) a k v = w3 h a (upd f k v) p s := by
  refine w3_ext h (fun b => ?_)
  rw [up2_row]
  by_cases e : b = a
  · subst e; rw [if_pos rfl, if_pos rfl]; funext j; simp [upd, w3]
  · rw [if_neg e]; simp [w3, e]
theorem si_w3_1 (k : Nat) (v : Int32) : si (w3 h a f p s) (a + 1) k v = w3 h a f (upd p k v) s := by
  refine w3_ext h (fun b => ?_)
  rw [up2_row]
  by_cases e : b = a + 1
  · subst e; rw [if_pos rfl]; funext j; simp [upd, w3]
  · rw [if_neg e]; simp [w3, e]
theorem si_w3_2 (k : Nat) (v : Int32) : si (w3 h a f p s) (a + 2) k v = w3 h a f p (upd s k v) := by
  refine w3_ext h (fun b => ?_)
  rw [up2_row]
  by_cases e : b = a + 2
  · subst e; rw [if_pos rfl]; funext j; simp [upd, w3]
  · rw [if_neg e]; simp [w3, e]
theorem w3_self : w3 h a (gi h a) (gi h (a + 1)) (gi h (a + 2)) = h := by
  refine (w3_ext h (g2 := h.2.1) (fun b => ?_)).trans rfl
  by_cases e0 : b = a
  · subst e0; simp [gi]
  by_cases e1 : b = a + 1
  · subst e1; simp [gi]
  by_cases e2 : b = a + 2
  · subst e2; simp [gi]
  simp [e0, e1, e2]
end W3
theorem Frm.w3 (lo hi : Nat) (h : AH) {a : Nat} (f p s : Nat → Int32) (h1 : lo ≤ a) (h2 : a + 3 ≤ hi) : Frm lo hi h (w3 h a f p s) := ⟨rfl, fun b hb => ⟨w3_ne h a f p s (by omega), rfl, rfl⟩⟩
/-- such an object -/
def O3 (h : AH) (t n r i j a : Nat) : Prop := gs h a = some (t, n) ∧ gs h (a + 1) = some (10, r) ∧ gs h (a + 2) = some (10, r) ∧ gr h a i = a + 1 ∧ gr h a j = a + 2
abbrev RollO (h : AH) (a : Nat) : Prop := O3 h 4 6 8 4 5 a
abbrev ProgO (h : AH) (a : Nat) : Prop := O3 h 2 3 12 1 2 a
abbrev ResO (h : AH) (a : Nat) : Prop := O3 h 3 15 25 13 14 a
theorem t4_begin {ω : Om} {h : AH} {Q : Option Value → AH → Prop} (hw : ω.2.2.2.1 = true) {a : Nat} {x y : Int32} {f p s : Nat → Int32} (o : RollO h a) (hq : Q none (w3 h a (upd (upd (upd (upd f 0 x) 1 y) 2 (nI 0)) 3 (nI 0)) p s)) : Ex ω M4_begin 0 [some (.ref a), some (.int x), some (.int y)] [] (w3 h a f p s) 0 0 Q := by
  refine B4_begin_0 hw o.1 ?_
  simp (disch := omega) only [gs_w3, gr_w3, gl_w3, w3_0, w3_1, w3_2, w3_ne, si_w3_0, si_w3_1, si_w3_2, pk_mul, nI_add, nI_clamp, upd_eq, upd_ne]
  exact hq
theorem t4_copyFrom {ω : Om} {h : AH} {Q : Option Value → AH → Prop} (hw : ω.2.2.2.1 = true) {a b n : Nat} {f p s : Nat → Int32} (o : RollO h a) (ob : RollO h b) (ne : b + 3 ≤ a ∨ a + 3 ≤ b) (hn : gi h b 3 = nI n) (hn8 : n ≤ 8) (hq : ∀ f' p' s' : Nat → Int32, (∀ k, k < 4 → f' k = gi h b k) → (∀ k, k < n → p' k = gi h (b + 1) k ∧ s' k = gi h (b + 2) k) → Q none (w3 h a f' p' s')) : Ex ω M4_copyFrom 0 [some (.ref a), some (.ref b), none] [] (w3 h a f p s) 0 0 Q := by
  refine B4_copyFrom_0 hw ob.1 o.1 ?_
  simp (disch := omega) only [gs_w3, gr_w3, gl_w3, w3_0, w3_1, w3_2, w3_ne, si_w3_0, si_w3_1, si_w3_2, pk_mul, nI_add, nI_clamp, upd_eq, upd_ne]
  refine B4_copyFrom_24 hw ob.1 o.1 ?_
  simp (disch := omega) only [gs_w3, gr_w3, gl_w3, w3_0, w3_1, w3_2, w3_ne, si_w3_0, si_w3_1, si_w3_2, pk_mul, nI_add, nI_clamp, upd_eq, upd_ne]
  have hf : ∀ k, k < 4 → upd (upd (upd (upd f 0 (gi h b 0)) 1 (gi h b 1)) 2 (gi h b 2)) 3 (gi h b 3) k = gi h b k := by
    intro k hk
    have : k = 0 ∨ k = 1 ∨ k = 2 ∨ k = 3 := by omega
    rcases this with rfl | rfl | rfl | rfl <;> simp (disch := omega) only [gs_w3, gr_w3, gl_w3, w3_0, w3_1, w3_2, w3_ne, si_w3_0, si_w3_1, si_w3_2, pk_mul, nI_add, nI_clamp, upd_eq, upd_ne]
  generalize upd (upd (upd (upd f 0 (gi h b 0)) 1 (gi h b 1)) 2 (gi h b 2)) 3 (gi h b 3) = f' at *
  have lp : ∀ (d i : Nat) (p' s' : Nat → Int32), i + d = n → (∀ k, k < i → p' k = gi h (b + 1) k ∧ s' k = gi h (b + 2) k) → Ex ω M4_copyFrom 34 [some (.ref a), some (.ref b), some (.int (nI i))] [] (w3 h a f' p' s') 0 0 Q := by
    intro d
    induction d with
    | zero =>
      intro i p' s' hi hp
      refine B4_copyFrom_34 hw o.1 (fun _ => B4_copyFrom_72 hw (hq f' p' s' hf (fun k hk => hp k (by omega)))) (fun c => ?_)
      simp (disch := omega) only [gs_w3, gr_w3, gl_w3, w3_0, w3_1, w3_2, w3_ne, si_w3_0, si_w3_1, si_w3_2, pk_mul, nI_add, nI_clamp, upd_eq, upd_ne, hf 3 (by omega), hn] at c
      exact absurd (nI_le (by omega) (by omega)) c
    | succ d ih =>
      intro i p' s' hi hp
      refine B4_copyFrom_34 hw o.1 (fun c => ?_) (fun _ => ?_)
      · simp (disch := omega) only [gs_w3, gr_w3, gl_w3, w3_0, w3_1, w3_2, w3_ne, si_w3_0, si_w3_1, si_w3_2, pk_mul, nI_add, nI_clamp, upd_eq, upd_ne, hf 3 (by omega), hn] at c
        exact absurd c (nI_ge (by omega) (by omega))
      have iv := vp_in_nI (n := i) (N := 8) (by omega) (by omega)
      refine B4_copyFrom_42 hw o.1 ob.1 iv iv iv iv ?_
      simp (disch := omega) only [gs_w3, gr_w3, gl_w3, w3_0, w3_1, w3_2, w3_ne, si_w3_0, si_w3_1, si_w3_2, pk_mul, nI_add, nI_clamp, upd_eq, upd_ne, o.2.2.2.1, o.2.2.2.2, ob.2.2.2.1, ob.2.2.2.2]
      refine B4_copyFrom_66 hw ?_
      rw [nI_add]
      refine ih (i + 1) _ _ (by omega) (fun k hk => ?_)
      by_cases z : k = i
      · subst z; exact ⟨upd_eq _ _ _, upd_eq _ _ _⟩
      · rw [upd_ne _ _ z, upd_ne _ _ z]; exact hp k (by omega)
  exact lp n 0 p s (by omega) (fun k hk => by omega)
theorem t2_copyFrom {ω : Om} {h : AH} {Q : Option Value → AH → Prop} (hw : ω.2.2.2.1 = true) {a b n : Nat} {f p s : Nat → Int32} (o : ProgO h a) (ob : ProgO h b) (ne : b + 3 ≤ a ∨ a + 3 ≤ b) (hn : gi h b 0 = nI n) (hn8 : n ≤ 12) (hq : ∀ f' p' s' : Nat → Int32, f' 0 = nI n → (∀ k, k < n → p' k = gi h (b + 1) k ∧ s' k = gi h (b + 2) k) → Q none (w3 h a f' p' s')) : Ex ω M2_copyFrom 0 [some (.ref a), some (.ref b), none] [] (w3 h a f p s) 0 0 Q := by
  refine B2_copyFrom_0 hw ob.1 o.1 ?_
  simp (disch := omega) only [gs_w3, gr_w3, gl_w3, w3_0, w3_1, w3_2, w3_ne, si_w3_0, si_w3_1, si_w3_2, pk_mul, nI_add, nI_clamp, upd_eq, upd_ne, hn]
  have hf : upd f 0 (nI n) 0 = nI n := upd_eq _ _ _
  generalize upd f 0 (nI n) = f' at *
  have lp : ∀ (d i : Nat) (p' s' : Nat → Int32), i + d = n → (∀ k, k < i → p' k = gi h (b + 1) k ∧ s' k = gi h (b + 2) k) → Ex ω M2_copyFrom 10 [some (.ref a), some (.ref b), some (.int (nI i))] [] (w3 h a f' p' s') 0 0 Q := by
    intro d
    induction d with
    | zero =>
      intro i p' s' hi hp
      refine B2_copyFrom_10 hw o.1 (fun _ => B2_copyFrom_48 hw (hq f' p' s' hf (fun k hk => hp k (by omega)))) (fun c => ?_)
      simp (disch := omega) only [gs_w3, gr_w3, gl_w3, w3_0, w3_1, w3_2, w3_ne, si_w3_0, si_w3_1, si_w3_2, pk_mul, nI_add, nI_clamp, upd_eq, upd_ne, hf] at c
      exact absurd (nI_le (by omega) (by omega)) c
    | succ d ih =>
      intro i p' s' hi hp
      refine B2_copyFrom_10 hw o.1 (fun c => ?_) (fun _ => ?_)
      · simp (disch := omega) only [gs_w3, gr_w3, gl_w3, w3_0, w3_1, w3_2, w3_ne, si_w3_0, si_w3_1, si_w3_2, pk_mul, nI_add, nI_clamp, upd_eq, upd_ne, hf] at c
        exact absurd c (nI_ge (by omega) (by omega))
      have iv := vp_in_nI (n := i) (N := 12) (by omega) (by omega)
      refine B2_copyFrom_18 hw o.1 ob.1 iv iv iv iv ?_
      simp (disch := omega) only [gs_w3, gr_w3, gl_w3, w3_0, w3_1, w3_2, w3_ne, si_w3_0, si_w3_1, si_w3_2, pk_mul, nI_add, nI_clamp, upd_eq, upd_ne, o.2.2.2.1, o.2.2.2.2, ob.2.2.2.1, ob.2.2.2.2]
      refine B2_copyFrom_42 hw ?_
      rw [nI_add]
      refine ih (i + 1) _ _ (by omega) (fun k hk => ?_)
      by_cases z : k = i
      · subst z; exact ⟨upd_eq _ _ _, upd_eq _ _ _⟩
      · rw [upd_ne _ _ z, upd_ne _ _ z]; exact hp k (by omega)
  exact lp n 0 p s (by omega) (fun k hk => by omega)
theorem t3_copyFrom {ω : Om} {h : AH} {Q : Option Value → AH → Prop} (hw : ω.2.2.2.1 = true) {a b n : Nat} {f p s : Nat → Int32} (o : ResO h a) (ob : ResO h b) (ne : b + 3 ≤ a ∨ a + 3 ≤ b) (hn : gi h b 1 = nI n) (hn8 : n ≤ 25) (hq : ∀ f' p' s' : Nat → Int32, (∀ k, k < 13 → f' k = gi h b k) → (∀ k, k < n → p' k = gi h (b + 1) k ∧ s' k = gi h (b + 2) k) → Q none (w3 h a f' p' s')) : Ex ω M3_copyFrom 0 [some (.ref a), some (.ref b), none] [] (w3 h a f p s) 0 0 Q := by
  refine B3_copyFrom_0 hw ob.1 o.1 ?_
  simp (disch := omega) only [gs_w3, gr_w3, gl_w3, w3_0, w3_1, w3_2, w3_ne, si_w3_0, si_w3_1, si_w3_2, pk_mul, nI_add, nI_clamp, upd_eq, upd_ne]
  refine B3_copyFrom_24 hw ob.1 o.1 ?_
  simp (disch := omega) only [gs_w3, gr_w3, gl_w3, w3_0, w3_1, w3_2, w3_ne, si_w3_0, si_w3_1, si_w3_2, pk_mul, nI_add, nI_clamp, upd_eq, upd_ne]
  refine B3_copyFrom_48 hw ob.1 o.1 ?_
  simp (disch := omega) only [gs_w3, gr_w3, gl_w3, w3_0, w3_1, w3_2, w3_ne, si_w3_0, si_w3_1, si_w3_2, pk_mul, nI_add, nI_clamp, upd_eq, upd_ne]
  refine B3_copyFrom_72 hw ob.1 o.1 ?_
  simp (disch := omega) only [gs_w3, gr_w3, gl_w3, w3_0, w3_1, w3_2, w3_ne, si_w3_0, si_w3_1, si_w3_2, pk_mul, nI_add, nI_clamp, upd_eq, upd_ne]
  refine B3_copyFrom_96 hw ob.1 o.1 ?_
  simp (disch := omega) only [gs_w3, gr_w3, gl_w3, w3_0, w3_1, w3_2, w3_ne, si_w3_0, si_w3_1, si_w3_2, pk_mul, nI_add, nI_clamp, upd_eq, upd_ne]
  obtain ⟨f', hfe, hf⟩ : ∃ f' : Nat → Int32, f' = upd (upd (upd (upd (upd (upd (upd (upd (upd (upd (upd (upd (upd f 0 (gi h b 0)) 1 (gi h b 1)) 2 (gi h b 2)) 3 (gi h b 3)) 4 (gi h b 4)) 5 (gi h b 5)) 6 (gi h b 6)) 7 (gi h b 7)) 8 (gi h b 8)) 9 (gi h b 9)) 10 (gi h b 10)) 11 (gi h b 11)) 12 (gi h b 12) ∧ ∀ k, k < 13 → f' k = gi h b k := by
    refine ⟨_, rfl, fun k hk => ?_⟩
    have : k = 0 ∨ k = 1 ∨ k = 2 ∨ k = 3 ∨ k = 4 ∨ k = 5 ∨ k = 6 ∨ k = 7 ∨ k = 8 ∨ k = 9 ∨ k = 10 ∨ k = 11 ∨ k = 12 := by omega
    rcases this with rfl | rfl | rfl | rfl | rfl | rfl | rfl | rfl | rfl | rfl | rfl | rfl | rfl <;> simp (disch := omega) only [gs_w3, gr_w3, gl_w3, w3_0, w3_1, w3_2, w3_ne, si_w3_0, si_w3_1, si_w3_2, pk_mul, nI_add, nI_clamp, upd_eq, upd_ne]
  rw [← hfe]
  clear hfe
  have lp : ∀ (d i : Nat) (p' s' : Nat → Int32), i + d = n → (∀ k, k < i → p' k = gi h (b + 1) k ∧ s' k = gi h (b + 2) k) → Ex ω M3_copyFrom 106 [some (.ref a), some (.ref b), some (.int (nI i))] [] (w3 h a f' p' s') 0 0 Q := by
    intro d
    induction d with
    | zero =>
      intro i p' s' hi hp
      refine B3_copyFrom_106 hw o.1 (fun _ => B3_copyFrom_144 hw (hq f' p' s' hf (fun k hk => hp k (by omega)))) (fun c => ?_)
      simp (disch := omega) only [gs_w3, gr_w3, gl_w3, w3_0, w3_1, w3_2, w3_ne, si_w3_0, si_w3_1, si_w3_2, pk_mul, nI_add, nI_clamp, upd_eq, upd_ne, hf 1 (by omega), hn] at c
      exact absurd (nI_le (by omega) (by omega)) c
    | succ d ih =>
      intro i p' s' hi hp
      refine B3_copyFrom_106 hw o.1 (fun c => ?_) (fun _ => ?_)
      · simp (disch := omega) only [gs_w3, gr_w3, gl_w3, w3_0, w3_1, w3_2, w3_ne, si_w3_0, si_w3_1, si_w3_2, pk_mul, nI_add, nI_clamp, upd_eq, upd_ne, hf 1 (by omega), hn] at c
        exact absurd c (nI_ge (by omega) (by omega))
      have iv := vp_in_nI (n := i) (N := 25) (by omega) (by omega)
      refine B3_copyFrom_114 hw o.1 ob.1 iv iv iv iv ?_
      simp (disch := omega) only [gs_w3, gr_w3, gl_w3, w3_0, w3_1, w3_2, w3_ne, si_w3_0, si_w3_1, si_w3_2, pk_mul, nI_add, nI_clamp, upd_eq, upd_ne, o.2.2.2.1, o.2.2.2.2, ob.2.2.2.1, ob.2.2.2.2]
      refine B3_copyFrom_138 hw ?_
      rw [nI_add]
      refine ih (i + 1) _ _ (by omega) (fun k hk => ?_)
      by_cases z : k = i
      · subst z; exact ⟨upd_eq _ _ _, upd_eq _ _ _⟩
      · rw [upd_ne _ _ z, upd_ne _ _ z]; exact hp k (by omega)
  exact lp n 0 p s (by omega) (fun k hk => by omega)
theorem t6_copyFrom {ω : Om} {h : AH} {Q : Option Value → AH → Prop} (hw : ω.2.2.2.1 = true) {a b : Nat} (sa : gs h a = some (6, 12)) (sb : gs h b = some (6, 12)) (ne : b ≠ a) (hq : ∀ h' : AH, Frm a (a + 1) h h' → gr h' = gr h → (∀ k, k < 11 → gi h' a k = gi h b k) → gl h' a 11 = gl h b 11 → Q none h') : Ex ω M6_copyFrom 0 [some (.ref a), some (.ref b)] [] h 0 0 Q := by
  refine B6_copyFrom_0 hw sb sa ?_
  simp (disch := omega) only [si_wi, sr_wr, sl_wl, gi_wi, gi_wi_ne, gr_wi, gs_wi, gl_wi, gi_wr, gr_wr, gr_wr_ne, gs_wr, gl_wr, gi_wl, gr_wl, gs_wl, gl_wl, gl_wl_ne, wi_wi, pk_mul, nI_add, nI_clamp, upd_eq, upd_ne]
  refine B6_copyFrom_24 hw (by exact sb) (by exact sa) ?_
  simp (disch := omega) only [si_wi, sr_wr, sl_wl, gi_wi, gi_wi_ne, gr_wi, gs_wi, gl_wi, gi_wr, gr_wr, gr_wr_ne, gs_wr, gl_wr, gi_wl, gr_wl, gs_wl, gl_wl, gl_wl_ne, wi_wi, pk_mul, nI_add, nI_clamp, upd_eq, upd_ne]
  refine B6_copyFrom_48 hw (by exact sb) (by exact sa) ?_
  simp (disch := omega) only [si_wi, sr_wr, sl_wl, gi_wi, gi_wi_ne, gr_wi, gs_wi, gl_wi, gi_wr, gr_wr, gr_wr_ne, gs_wr, gl_wr, gi_wl, gr_wl, gs_wl, gl_wl, gl_wl_ne, wi_wi, pk_mul, nI_add, nI_clamp, upd_eq, upd_ne]
  refine B6_copyFrom_72 hw (by exact sb) (by exact sa) (B6_copyFrom_96 hw ?_)
  simp (disch := omega) only [si_wi, sr_wr, sl_wl, gi_wi, gi_wi_ne, gr_wi, gs_wi, gl_wi, gi_wr, gr_wr, gr_wr_ne, gs_wr, gl_wr, gi_wl, gr_wl, gs_wl, gl_wl, gl_wl_ne, wi_wi, pk_mul, nI_add, nI_clamp, upd_eq, upd_ne]
  refine hq _ (Frm.trans (Frm.wi a (a + 1) h _ (Nat.le_refl _) (by omega)) (Frm.wl a (a + 1) _ _ (Nat.le_refl _) (by omega))) rfl (fun k hk => ?_) (by simp (disch := omega) only [si_wi, sr_wr, sl_wl, gi_wi, gi_wi_ne, gr_wi, gs_wi, gl_wi, gi_wr, gr_wr, gr_wr_ne, gs_wr, gl_wr, gi_wl, gr_wl, gs_wl, gl_wl, gl_wl_ne, wi_wi, pk_mul, nI_add, nI_clamp, upd_eq, upd_ne]; exact pk_uLs)
  simp (disch := omega) only [si_wi, sr_wr, sl_wl, gi_wi, gi_wi_ne, gr_wi, gs_wi, gl_wi, gi_wr, gr_wr, gr_wr_ne, gs_wr, gl_wr, gi_wl, gr_wl, gs_wl, gl_wl, gl_wl_ne, wi_wi, pk_mul, nI_add, nI_clamp, upd_eq, upd_ne]
  have : k = 0 ∨ k = 1 ∨ k = 2 ∨ k = 3 ∨ k = 4 ∨ k = 5 ∨ k = 6 ∨ k = 7 ∨ k = 8 ∨ k = 9 ∨ k = 10 := by omega
  rcases this with rfl | rfl | rfl | rfl | rfl | rfl | rfl | rfl | rfl | rfl | rfl <;> simp (disch := omega) only [si_wi, sr_wr, sl_wl, gi_wi, gi_wi_ne, gr_wi, gs_wi, gl_wi, gi_wr, gr_wr, gr_wr_ne, gs_wr, gl_wr, gi_wl, gr_wl, gs_wl, gl_wl, gl_wl_ne, wi_wi, pk_mul, nI_add, nI_clamp, upd_eq, upd_ne]

