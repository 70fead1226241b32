/-! the model's constructor; all references point where they should -/
theorem t9_init {ω : Om} {h : AH} {Q : Option Value → AH → Prop} (hw : ω.2.2.2.1 = false) {m : Nat} (s : gs h m = some (9, 17)) (h0 : 0 < m) (ht : gt h = m + 1) (hi : gi h m = fun _ => 0) (hq : ∀ g : AH, (∀ b, b < m → gs g b = gs h b ∧ gi g b = gi h b ∧ gr g b = gr h b ∧ gl g b = gl h b) → gt g = m + 6 → ML g m → gs g (m + 1) = some (10, 596) → gs g (m + 2) = some (10, 2384) → gs g (m + 3) = some (10, 596) → gs g (m + 4) = some (10, 100) → gs g (m + 5) = some (10, 24) → gi g m = (fun _ => 0) → gi g (m + 1) = upd (upd (fun _ => 0) 4 (nI 30)) 5 (nI 3) → (∀ b, m + 2 ≤ b → b < m + 6 → gi g b = fun _ => 0) → Q none g) : Ex ω M9_init 0 [some (.ref m)] [] h 0 0 Q := by
  have row : ∀ (g : AH) (r f : Nat), m < gt g → Ext m g (sr (al g 10 r) m f (gt g)) := fun g r f hg => (Ext.al m g 10 r).then (Ext.sr m _ f (gt g)) (Or.inl rfl)
  refine x_aload0 1 dX9_init_0 rfl ?_
  refine x_objInit 4 dX9_init_1 rfl wd98 (by decide) (by decide) ?_
  refine x_aload0 5 dX9_init_4 rfl ?_
  refine x_sipush 596 8 dX9_init_5 rfl rfl ?_
  refine x_newI (N := 596) 10 hw dX9_init_8 rfl (by omega) rfl (by decide) (by decide) (by decide) ?_
  have sal : gs (al h 10 596) (gt h) = some (10, 596) := gs_al h 10 596
  refine x_putR cf9 0 13 dX9_init_10 rfl wd99 (nn := 17) (fun _ => (gs_al_ne _ _ _ (by omega)).trans s) (by decide) (Or.inr ⟨rfl, rfl, rfl⟩) (Or.inr ⟨_, rfl⟩) (fun _ => sal) ?_
  have e1 := row h 596 0 (by omega)
  have t1 : gt (sr (al h 10 596) m 0 (gt h)) = m + 2 := by show gt h + 1 = _; omega
  have s1 : gs (sr (al h 10 596) m 0 (gt h)) (m + 1) = some (10, 596) := by rw [← ht]; exact sal
  have f1 : gr (sr (al h 10 596) m 0 (gt h)) m 0 = m + 1 := by rw [gr_sr, updN_eq, ht]
  have o1 := (e1.2.1 m (by omega)).1.trans s
  generalize sr (al h 10 596) m 0 (gt h) = g1 at *
  refine x_aload0 14 dX9_init_13 rfl ?_
  refine x_sipush 2384 17 dX9_init_14 rfl rfl ?_
  refine x_newI (N := 2384) 19 hw dX9_init_17 rfl (by omega) rfl (by decide) (by decide) (by decide) ?_
  have sal : gs (al g1 10 2384) (gt g1) = some (10, 2384) := gs_al g1 10 2384
  refine x_putR cf9 1 22 dX9_init_19 rfl wd100 (nn := 17) (fun _ => (gs_al_ne _ _ _ (by omega)).trans o1) (by decide) (Or.inr ⟨rfl, rfl, rfl⟩) (Or.inr ⟨_, rfl⟩) (fun _ => sal) ?_
  have e2 := row g1 2384 1 (by omega)
  have t2 : gt (sr (al g1 10 2384) m 1 (gt g1)) = m + 3 := by show gt g1 + 1 = _; omega
  have s2 : gs (sr (al g1 10 2384) m 1 (gt g1)) (m + 2) = some (10, 2384) := by rw [← t1]; exact sal
  have f2 : gr (sr (al g1 10 2384) m 1 (gt g1)) m = updN (gr g1 m) 1 (m + 2) := by rw [gr_sr, gr_al_ne _ _ _ (by omega), t1]
  have o2 := (e2.2.1 m (by omega)).1.trans o1
  have q21 := (e2.2.1 (m + 1) (by omega)).1.trans s1
  have E2 := e1.then e2 (Or.inl rfl)
  generalize sr (al g1 10 2384) m 1 (gt g1) = g2 at *
  refine x_aload0 23 dX9_init_22 rfl ?_
  refine x_sipush 596 26 dX9_init_23 rfl rfl ?_
  refine x_newI (N := 596) 28 hw dX9_init_26 rfl (by omega) rfl (by decide) (by decide) (by decide) ?_
  have sal : gs (al g2 10 596) (gt g2) = some (10, 596) := gs_al g2 10 596
  refine x_putR cf9 3 31 dX9_init_28 rfl wd101 (nn := 17) (fun _ => (gs_al_ne _ _ _ (by omega)).trans o2) (by decide) (Or.inr ⟨rfl, rfl, rfl⟩) (Or.inr ⟨_, rfl⟩) (fun _ => sal) ?_
  have e3 := row g2 596 3 (by omega)
  have t3 : gt (sr (al g2 10 596) m 3 (gt g2)) = m + 4 := by show gt g2 + 1 = _; omega
  have s3 : gs (sr (al g2 10 596) m 3 (gt g2)) (m + 3) = some (10, 596) := by rw [← t2]; exact sal
  have f3 : gr (sr (al g2 10 596) m 3 (gt g2)) m = updN (gr g2 m) 3 (m + 3) := by rw [gr_sr, gr_al_ne _ _ _ (by omega), t2]
  have o3 := (e3.2.1 m (by omega)).1.trans o2
  have q31 := (e3.2.1 (m + 1) (by omega)).1.trans q21
  have q32 := (e3.2.1 (m + 2) (by omega)).1.trans s2
  have E3 := E2.then e3 (Or.inl rfl)
  generalize sr (al g2 10 596) m 3 (gt g2) = g3 at *
  refine x_aload0 32 dX9_init_31 rfl ?_
  refine x_bipush 100 34 dX9_init_32 rfl rfl ?_
  refine x_newI (N := 100) 36 hw dX9_init_34 rfl (by omega) rfl (by decide) (by decide) (by decide) ?_
  have sal : gs (al g3 10 100) (gt g3) = some (10, 100) := gs_al g3 10 100
  refine x_putR cf9 4 39 dX9_init_36 rfl wd102 (nn := 17) (fun _ => (gs_al_ne _ _ _ (by omega)).trans o3) (by decide) (Or.inr ⟨rfl, rfl, rfl⟩) (Or.inr ⟨_, rfl⟩) (fun _ => sal) ?_
  have e4 := row g3 100 4 (by omega)
  have t4 : gt (sr (al g3 10 100) m 4 (gt g3)) = m + 5 := by show gt g3 + 1 = _; omega
  have s4 : gs (sr (al g3 10 100) m 4 (gt g3)) (m + 4) = some (10, 100) := by rw [← t3]; exact sal
  have f4 : gr (sr (al g3 10 100) m 4 (gt g3)) m = updN (gr g3 m) 4 (m + 4) := by rw [gr_sr, gr_al_ne _ _ _ (by omega), t3]
  have o4 := (e4.2.1 m (by omega)).1.trans o3
  have q41 := (e4.2.1 (m + 1) (by omega)).1.trans q31
  have q42 := (e4.2.1 (m + 2) (by omega)).1.trans q32
  have q43 := (e4.2.1 (m + 3) (by omega)).1.trans s3
  have E4 := E3.then e4 (Or.inl rfl)
  generalize sr (al g3 10 100) m 4 (gt g3) = g4 at *
  refine x_aload0 40 dX9_init_39 rfl ?_
  refine x_bipush 24 42 dX9_init_40 rfl rfl ?_
  refine x_newI (N := 24) 44 hw dX9_init_42 rfl (by omega) rfl (by decide) (by decide) (by decide) ?_
  have sal : gs (al g4 10 24) (gt g4) = some (10, 24) := gs_al g4 10 24
  refine x_putR cf9 8 47 dX9_init_44 rfl wd103 (nn := 17) (fun _ => (gs_al_ne _ _ _ (by omega)).trans o4) (by decide) (Or.inr ⟨rfl, rfl, rfl⟩) (Or.inr ⟨_, rfl⟩) (fun _ => sal) ?_
  have e5 := row g4 24 8 (by omega)
  have t5 : gt (sr (al g4 10 24) m 8 (gt g4)) = m + 6 := by show gt g4 + 1 = _; omega
  have s5 : gs (sr (al g4 10 24) m 8 (gt g4)) (m + 5) = some (10, 24) := by rw [← t4]; exact sal
  have f5 : gr (sr (al g4 10 24) m 8 (gt g4)) m = updN (gr g4 m) 8 (m + 5) := by rw [gr_sr, gr_al_ne _ _ _ (by omega), t4]
  have o5 := (e5.2.1 m (by omega)).1.trans o4
  have q51 := (e5.2.1 (m + 1) (by omega)).1.trans q41
  have q52 := (e5.2.1 (m + 2) (by omega)).1.trans q42
  have q53 := (e5.2.1 (m + 3) (by omega)).1.trans q43
  have q54 := (e5.2.1 (m + 4) (by omega)).1.trans s4
  have E5 := E4.then e5 (Or.inl rfl)
  generalize sr (al g4 10 24) m 8 (gt g4) = g5 at *
  have G0 : gr g5 m 0 = m + 1 := by rw [f5, updN_ne _ _ (by omega), f4, updN_ne _ _ (by omega), f3, updN_ne _ _ (by omega), f2, updN_ne _ _ (by omega)]; exact f1
  have G1 : gr g5 m 1 = m + 2 := by rw [f5, updN_ne _ _ (by omega), f4, updN_ne _ _ (by omega), f3, updN_ne _ _ (by omega), f2, updN_eq]
  have G3 : gr g5 m 3 = m + 3 := by rw [f5, updN_ne _ _ (by omega), f4, updN_ne _ _ (by omega), f3, updN_eq]
  have G4 : gr g5 m 4 = m + 4 := by rw [f5, updN_ne _ _ (by omega), f4, updN_eq]
  have G8 : gr g5 m 8 = m + 5 := by rw [f5, updN_eq]
  refine x_aload0 48 dX9_init_47 rfl ?_
  refine x_getR0 cf9 0 51 dX9_init_48 rfl wd99 (nn := 17) (fun _ => o5) (by decide) rfl (fun _ _ => by rw [G0]; omega) ?_
  rw [G0]
  refine x_iconst 4 52 dX9_init_51 rfl rfl ?_
  refine x_bipush (nI 30) 54 dX9_init_52 rfl rfl ?_
  refine x_iast 4 55 dX9_init_54 rfl (nn := 596) (fun _ => q51) (by exact vp_c (by decide)) (by decide) ?_
  refine x_aload0 56 dX9_init_55 rfl ?_
  refine x_getR0 cf9 0 59 dX9_init_56 rfl wd99 (nn := 17) (fun _ => o5) (by decide) rfl (fun _ _ => by show gr g5 m 0 ≠ 0; rw [G0]; omega) ?_
  rw [show gr (si g5 (m + 1) 4 (nI 30)) m 0 = m + 1 from G0]
  refine x_iconst 5 60 dX9_init_59 rfl rfl ?_
  refine x_iconst (nI 3) 61 dX9_init_60 rfl rfl ?_
  refine x_iast 5 62 dX9_init_61 rfl (nn := 596) (fun _ => q51) (by exact vp_c (by decide)) (by decide) ?_
  refine x_vret dX9_init_62 rfl (by decide) (by decide) ?_
  simp (disch := omega) only [si_wi, sr_wr, sl_wl, gi_wi, gi_wi_ne, gr_wi, gs_wi, gl_wi, gi_wr, gr_wr, gr_wr_ne, gs_wr, gl_wr, gi_wl, gr_wl, gs_wl, gl_wl, gl_wl_ne, wi_wi, wr_wr, updN_eq, updN_ne, pk_mul, nI_add, nI_clamp, upd_eq, upd_ne]
  have z : ∀ b, m + 1 ≤ b → b < m + 6 → gi g5 b = fun _ => 0 := fun b h1 h2 => (E5.2.2 b (by omega) (by omega)).1
  refine hq _ (fun b hb => ?_) t5 ⟨o5, G0, G1, G3, G4, G8⟩ q51 q52 q53 q54 s5 ?_ (by rw [gi_wi, z _ (by omega) (by omega)]) (fun b h1 h2 => ?_)
  · obtain ⟨a1, a2, a3, a4⟩ := E5.2.1 b (by omega)
    exact ⟨a1, (gi_wi_ne _ _ _ (by omega)).trans a2, a4 (by omega), a3⟩
  · rw [gi_wi_ne _ _ _ (by omega)]
    exact (E5.2.1 m (by omega)).2.1.trans hi
  · rw [gi_wi_ne _ _ _ (by omega)]; exact z b (by omega) h2
/-- what a points to -/
def RF (g : AH) (a : Nat) : Prop := ∀ t n, gs g a = some (t, n) → ∀ k, k < n → kd t k = 1 → gs g (gr g a k) = some (tgt t k)
theorem RF_of {g : AH} {a t n : Nat} (s : gs g a = some (t, n)) (e : ∀ k, k < n → kd t k = 1 → gs g (gr g a k) = some (tgt t k)) : RF g a := fun t' n' q k hk hkd => by
  rw [s] at q
  obtain ⟨rfl, rfl⟩ := Prod.mk.inj (Option.some.inj q)
  exact e k hk hkd
theorem RF_no {g : AH} {a t n : Nat} (s : gs g a = some (t, n)) (e : ∀ k, k < n → kd t k ≠ 1) : RF g a := RF_of s (fun k hk hkd => absurd hkd (e k hk))
theorem RF_10 {g : AH} {a n : Nat} (s : gs g a = some (10, n)) : RF g a := RF_no s (fun k _ => by show (0 : Nat) ≠ 1; omega)
theorem RF_11 {g : AH} {a n : Nat} (s : gs g a = some (11, n)) : RF g a := RF_no s (fun k _ => by show (0 : Nat) ≠ 1; omega)
theorem RF_1 {g : AH} {a : Nat} (s : gs g a = some (1, 6)) : RF g a := RF_no s (by decide)
theorem RF_6 {g : AH} {a : Nat} (s : gs g a = some (6, 12)) : RF g a := RF_no s (by decide)
theorem RF_O3 {g : AH} {t n r i j a : Nat} (o : O3 g t n r i j a) (e : ∀ k, k < n → kd t k = 1 → (k = i ∨ k = j) ∧ tgt t k = (10, r)) : RF g a ∧ RF g (a + 1) ∧ RF g (a + 2) := by
  obtain ⟨a1, a2, a3, a4, a5⟩ := o
  refine ⟨RF_of a1 (fun k hk hkd => ?_), RF_10 a2, RF_10 a3⟩
  obtain ⟨e1, e2⟩ := e k hk hkd
  rw [e2]
  rcases e1 with rfl | rfl
  · rw [a4]; exact a2
  · rw [a5]; exact a3
theorem kd4 : ∀ k, k < 6 → kd 4 k = 1 → (k = 4 ∨ k = 5) ∧ tgt 4 k = (10, 8) := by decide
theorem kd3 : ∀ k, k < 15 → kd 3 k = 1 → (k = 13 ∨ k = 14) ∧ tgt 3 k = (10, 25) := by decide
theorem kd2 : ∀ k, k < 3 → kd 2 k = 1 → (k = 1 ∨ k = 2) ∧ tgt 2 k = (10, 12) := by decide
theorem kd5 : ∀ k, k < 11 → kd 5 k = 1 → k = 0 ∨ k = 2 ∨ k = 5 ∨ k = 7 ∨ k = 8 := by decide
theorem kd8 : ∀ k, k < 8 → kd 8 k = 1 → k = 0 ∨ k = 1 ∨ k = 2 ∨ k = 4 ∨ k = 5 ∨ k = 6 ∨ k = 7 := by decide
theorem kd9 : ∀ k, k < 17 → kd 9 k = 1 → k = 0 ∨ k = 1 ∨ k = 3 ∨ k = 4 ∨ k = 8 := by decide
theorem kd0 : ∀ k, k < 7 → kd 0 k = 1 → k = 0 := by decide
theorem kd7 : ∀ k, k < 2 → kd 7 k = 1 → k = 0 := by decide
theorem RF_S {g : AH} {x : Nat} (l : LayS g x) : ∀ b, x ≤ b → b < x + 52 → RF g b := by
  obtain ⟨⟨s1, s2, s3, s4, s5, s6⟩, ⟨f0, f1, f2, f3, f4, f5, f6, f7⟩, c, d, f⟩ := l
  have rolls : ∀ i, i < 6 → RF g (x + 2 + 3 * i) ∧ RF g (x + 2 + 3 * i + 1) ∧ RF g (x + 2 + 3 * i + 2) := fun i hi => RF_O3 (f6 i hi) kd4
  have ress : ∀ i, i < 6 → RF g (x + 30 + 3 * i) ∧ RF g (x + 30 + 3 * i + 1) ∧ RF g (x + 30 + 3 * i + 2) := fun i hi => RF_O3 (f7 i hi) kd3
  have prog := RF_O3 f5 kd2
  intro b h1 h2
  by_cases c0 : b = x
  · subst c0
    refine RF_of s1 (fun k hk hkd => ?_)
    rcases kd5 k hk hkd with rfl | rfl | rfl | rfl | rfl
    · rw [f0]; exact s2
    · rw [f1]; exact s3
    · rw [f2]; exact s4
    · rw [f3]; exact f5.1
    · rw [f4]; exact s5
  by_cases c1 : b = x + 1
  · subst c1
    refine RF_of s2 (fun k hk _ => ?_)
    obtain ⟨j, hj, e⟩ := c.1 k hk
    rw [e]; exact (f6 j hj).1
  by_cases c2 : b < x + 20
  · obtain ⟨r0, r1, r2⟩ := rolls ((b - (x + 2)) / 3) (by omega)
    have : b = x + 2 + 3 * ((b - (x + 2)) / 3) ∨ b = x + 2 + 3 * ((b - (x + 2)) / 3) + 1 ∨ b = x + 2 + 3 * ((b - (x + 2)) / 3) + 2 := by omega
    rcases this with q | q | q <;> rw [q] <;> assumption
  by_cases c3 : b = x + 20
  · subst c3
    refine RF_of s3 (fun k hk _ => ?_)
    obtain ⟨j, hj, e⟩ := d.1 k hk
    rw [e]; exact s6 j hj
  by_cases c4 : b < x + 29
  · have := s6 (b - (x + 21)) (by omega)
    rw [show x + 21 + 1 * (b - (x + 21)) = b from by omega] at this
    exact RF_1 this
  by_cases c5 : b = x + 29
  · subst c5
    refine RF_of s4 (fun k hk _ => ?_)
    obtain ⟨j, hj, e⟩ := f.1 k hk
    rw [e]; exact (f7 j hj).1
  by_cases c6 : b < x + 48
  · obtain ⟨r0, r1, r2⟩ := ress ((b - (x + 30)) / 3) (by omega)
    have : b = x + 30 + 3 * ((b - (x + 30)) / 3) ∨ b = x + 30 + 3 * ((b - (x + 30)) / 3) + 1 ∨ b = x + 30 + 3 * ((b - (x + 30)) / 3) + 2 := by omega
    rcases this with q | q | q <;> rw [q] <;> assumption
  by_cases c7 : b = x + 48
  · rw [c7]; exact prog.1
  by_cases c8 : b = x + 49
  · rw [c8]; exact prog.2.1
  by_cases c9 : b = x + 50
  · rw [c9]; exact prog.2.2
  · rw [show b = x + 51 from by omega]; exact RF_6 s5
theorem RF_W {g : AH} {B : Nat} (n : NewW g B) : ∀ b, B ≤ b → b < B + 324 → RF g b := by
  obtain ⟨⟨⟨s1, s2, s3, s4, s5, s6⟩, ⟨r0, r1, r2, r3, r4, r5, r6⟩, t, p, l1, l2, l3, hh⟩, _, _, _, o, c⟩ := n
  have pr := RF_O3 p kd2
  have po := RF_O3 o kd2
  intro b h1 h2
  by_cases c0 : b = B
  · subst c0
    refine RF_of s1 (fun k hk hkd => ?_)
    rcases kd8 k hk hkd with rfl | rfl | rfl | rfl | rfl | rfl | rfl
    · rw [r0]; exact l1.1.1
    · rw [r1]; exact l2.1.1
    · rw [r2]; exact s2
    · rw [r3]; exact s3
    · rw [r4]; exact p.1
    · rw [r5]; exact s5
    · rw [r6]; exact s6
  by_cases c1 : b < B + 53
  · exact RF_S l1 b (by omega) (by omega)
  by_cases c2 : b < B + 105
  · exact RF_S l2 b (by omega) (by omega)
  by_cases c3 : b = B + 105
  · subst c3
    refine RF_of s2 (fun k hk _ => ?_)
    obtain ⟨j, hj, e⟩ := hh.1 k hk
    rw [e]; exact (l3 j hj).1.1
  by_cases c4 : b < B + 314
  · exact RF_S (l3 ((b - (B + 106)) / 52) (by omega)) b (by omega) (by omega)
  by_cases c5 : b = B + 314
  · subst c5
    refine RF_of s3 (fun k hk hkd => ?_)
    rw [kd7 k hk hkd, t]; exact s4
  by_cases c6 : b = B + 315
  · rw [c6]; exact RF_11 s4
  by_cases c7 : b = B + 316
  · rw [c7]; exact pr.1
  by_cases c8 : b = B + 317
  · rw [c8]; exact pr.2.1
  by_cases c9 : b = B + 318
  · rw [c9]; exact pr.2.2
  by_cases d0 : b = B + 319
  · subst d0
    refine RF_of s5 (fun k hk hkd => ?_)
    rw [kd0 k hk hkd, c]; exact o.1
  by_cases d1 : b = B + 320
  · rw [d1]; exact po.1
  by_cases d2 : b = B + 321
  · rw [d2]; exact po.2.1
  by_cases d3 : b = B + 322
  · rw [d3]; exact po.2.2
  · rw [show b = B + 323 from by omega]; exact RF_10 s6
theorem RF_M {g : AH} {m : Nat} (l : ML g m) (a1 : gs g (m + 1) = some (10, 596)) (a2 : gs g (m + 2) = some (10, 2384)) (a3 : gs g (m + 3) = some (10, 596)) (a4 : gs g (m + 4) = some (10, 100)) (a5 : gs g (m + 5) = some (10, 24)) : ∀ b, m ≤ b → b < m + 6 → RF g b := by
  obtain ⟨s, r0, r1, r3, r4, r8⟩ := l
  intro b h1 h2
  by_cases c0 : b = m
  · subst c0
    refine RF_of s (fun k hk hkd => ?_)
    rcases kd9 k hk hkd with rfl | rfl | rfl | rfl | rfl
    · rw [r0]; exact a1
    · rw [r1]; exact a2
    · rw [r3]; exact a3
    · rw [r4]; exact a4
    · rw [r8]; exact a5
  have : b = m + 1 ∨ b = m + 2 ∨ b = m + 3 ∨ b = m + 4 ∨ b = m + 5 := by omega
  rcases this with rfl | rfl | rfl | rfl | rfl
  · exact RF_10 a1
  · exact RF_10 a2
  · exact RF_10 a3
  · exact RF_10 a4
  · exact RF_10 a5
/-- the row at the start -/
def N00 : Nat → Int32 := upd (upd (fun _ => 0) 4 (nI 30)) 5 (nI 3)
theorem INV_0 : INV N00 0 0 0 0 0 0 0 [] := by
  have z : ∀ j, j ≠ 4 → j ≠ 5 → N00 j = 0 := fun j h1 h2 => by unfold N00; rw [upd_ne _ _ h2, upd_ne _ _ h1]
  have so : StepsOk [] := fun q hq => absurd hq List.not_mem_nil
  have ra : RowA (fun j => N00 (188 + j)) [] := fun i q hq => absurd hq (by simp)
  have si : SI N00 [] := And.intro (z 3 (by omega) (by omega)) (And.intro (Nat.zero_le _) (And.intro so ra))
  refine ⟨⟨z 0 (by omega) (by omega), by omega, fun i hi => by omega⟩, ⟨z 1 (by omega) (by omega), by omega, fun i hi => by omega, fun i j h1 h2 => by omega⟩, si, ⟨30, by unfold N00; rw [upd_ne _ _ (by omega), upd_eq], by omega⟩, ⟨3, by unfold N00; rw [upd_eq], by omega⟩, ⟨z 7 (by omega) (by omega), Nat.le_refl _⟩, ⟨z 2 (by omega) (by omega), Nat.le_refl _⟩, fun i hi => by omega, ⟨z 18 (by omega) (by omega), by omega, z 19 (by omega) (by omega), Nat.le_refl _⟩, fun i hi => ⟨0, by omega, z _ (by omega) (by omega)⟩, fun j hj => z j (by omega) (by omega)⟩
theorem ValS_0 {g : AH} {x : Nat} (n : NewSt g x) : ValS g x N00 0 0 0 [] := by
  obtain ⟨l, e, zz⟩ := n
  have z : ∀ j, j ≠ 4 → j ≠ 5 → N00 j = 0 := fun j h1 h2 => by unfold N00; rw [upd_ne _ _ h2, upd_ne _ _ h1]
  have g0 : ∀ k, k ≠ 9 → k ≠ 10 → gi g x k = nI 0 := fun k h1 h2 => by rw [e, upd_ne _ _ h2, upd_ne _ _ h1]; rfl
  have y : ∀ b, x < b → b < x + 52 → ∀ k, gi g b k = 0 := fun b h1 h2 k => by rw [(zz b h1 h2).1]
  refine ⟨⟨g0 1 (by omega) (by omega), by omega, fun i hi => by omega⟩, ⟨g0 3 (by omega) (by omega), by omega, ⟨List.Perm.refl _, fun i j h1 h2 => by omega⟩⟩, by rw [g0 4 (by omega) (by omega), z 2 (by omega) (by omega)]; rfl, ⟨g0 6 (by omega) (by omega), fun i hi => by omega⟩, ⟨y _ (by omega) (by omega) 0, by decide, fun i q hq => by simp at hq⟩, ?_, ?_, ?_⟩
  · have s := y (x + 51) (by omega) (by omega)
    refine ⟨?_, ?_, ?_, ?_, ?_, ?_, ?_, ?_, ?_, ?_, ?_, ?_, ?_⟩
    all_goals first
      | (rw [s, z _ (by omega) (by omega)]; done)
      | skip
    · rw [z 8 (by omega) (by omega), z 9 (by omega) (by omega), z 10 (by omega) (by omega), z 11 (by omega) (by omega), z 12 (by omega) (by omega)]; rfl
    · rw [(zz (x + 51) (by omega) (by omega)).2]
      unfold weightR
      rw [z 18 (by omega) (by omega), z 19 (by omega) (by omega)]; rfl
  · rw [e, upd_ne _ _ (by omega), upd_eq]; unfold N00; rw [upd_ne _ _ (by omega), upd_eq]
  · rw [e, upd_eq]; unfold N00; rw [upd_eq]
theorem CW_0 {g : AH} {B : Nat} (n : NewW g B) : CW g B N00 [] (fun _ => 0) 0 0 := by
  obtain ⟨l, s, b, t, _, _⟩ := n
  refine ⟨l, ⟨0, 0, 0, 0, 0, 0, [], ValS_0 s, INV_0⟩, ⟨by rw [b]; rfl, by show (0 : Nat) ≤ 4; omega, fun i N hi => by simp at hi⟩, ⟨by rw [t]; rfl, by omega, fun i hi => by omega⟩⟩
