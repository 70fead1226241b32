/-! the constructor of PalletWrapper -/
def NewSt (g : AH) (x : Nat) : Prop := LayS g x ∧ gi g x = upd (upd (fun _ => 0) 9 (nI 30)) 10 (nI 3) ∧ ∀ b, x < b → b < x + 52 → gi g b = (fun _ => 0) ∧ gl g b = fun _ => 0
theorem O3_pt {h h' : AH} {t n r i j a : Nat} (o : O3 h t n r i j a) (e : ∀ b, a ≤ b → b < a + 3 → gs h' b = gs h b ∧ gr h' b = gr h b) : O3 h' t n r i j a := by
  obtain ⟨a1, a2, a3, a4, a5⟩ := o
  exact ⟨(e a (by omega) (by omega)).1.trans a1, (e _ (by omega) (by omega)).1.trans a2, (e _ (by omega) (by omega)).1.trans a3, by rw [(e a (by omega) (by omega)).2]; exact a4, by rw [(e a (by omega) (by omega)).2]; exact a5⟩
theorem LayS_pt {h h' : AH} {x : Nat} (l : LayS h x) (e : ∀ b, x ≤ b → b < x + 52 → gs h' b = gs h b ∧ gr h' b = gr h b) : LayS h' x := by
  obtain ⟨⟨s1, s2, s3, s4, s5, s6⟩, ⟨f0, f1, f2, f3, f4, f5, f6, f7⟩, c, d, f⟩ := l
  have ex := (e x (by omega) (by omega)).2
  refine ⟨⟨(e _ (by omega) (by omega)).1.trans s1, (e _ (by omega) (by omega)).1.trans s2, (e _ (by omega) (by omega)).1.trans s3, (e _ (by omega) (by omega)).1.trans s4, (e _ (by omega) (by omega)).1.trans s5, fun i hi => (e _ (by omega) (by omega)).1.trans (s6 i hi)⟩, ⟨by rw [ex]; exact f0, by rw [ex]; exact f1, by rw [ex]; exact f2, by rw [ex]; exact f3, by rw [ex]; exact f4, O3_pt f5 (fun b h1 h2 => e b (by omega) (by omega)), fun i hi => O3_pt (f6 i hi) (fun b h1 h2 => e b (by omega) (by omega)), fun i hi => O3_pt (f7 i hi) (fun b h1 h2 => e b (by omega) (by omega))⟩, ?_, ?_, ?_⟩
  · rw [(e (x + 1) (by omega) (by omega)).2]; exact c
  · rw [(e (x + 20) (by omega) (by omega)).2]; exact d
  · rw [(e (x + 29) (by omega) (by omega)).2]; exact f
/-- of the old cells only the references of a changed -/
def Kp (a : Nat) (g g' : AH) : Prop := gt g ≤ gt g' ∧ ∀ b, b < gt g → gs g' b = gs g b ∧ gi g' b = gi g b ∧ gl g' b = gl g b ∧ (b ≠ a → gr g' b = gr g b)
theorem Ext.kp {a : Nat} {g g' : AH} (e : Ext a g g') : Kp a g g' := ⟨e.1, e.2.1⟩
theorem Kp.then {a y : Nat} {g1 g2 g3 : AH} (p : Kp a g1 g2) (q : Kp y g2 g3) (hy : y = a ∨ gt g1 ≤ y) : Kp a g1 g3 := by
  refine ⟨Nat.le_trans p.1 q.1, fun b hb => ?_⟩
  obtain ⟨a1, a2, a3, a4⟩ := p.2 b hb
  obtain ⟨b1, b2, b3, b4⟩ := q.2 b (Nat.lt_of_lt_of_le hb p.1)
  exact ⟨b1.trans a1, b2.trans a2, b3.trans a3, fun ne => (b4 (by omega)).trans (a4 ne)⟩
theorem NewSt.kp {a x : Nat} {g g' : AH} (n : NewSt g x) (k : Kp a g g') (ha : a < x ∨ x + 52 ≤ a) (hg : x + 52 ≤ gt g) : NewSt g' x := by
  obtain ⟨l, e, z⟩ := n
  refine ⟨LayS_pt l (fun b h1 h2 => ?_), (k.2 x (by omega)).2.1.trans e, fun b h1 h2 => ?_⟩
  · obtain ⟨a1, a2, a3, a4⟩ := k.2 b (by omega)
    exact ⟨a1, a4 (by omega)⟩
  · obtain ⟨a1, a2, a3, a4⟩ := k.2 b (by omega)
    obtain ⟨c1, c2⟩ := z b h1 h2
    exact ⟨a2.trans c1, a3.trans c2⟩
theorem Kp.O3 {a : Nat} {g g' : AH} (p : Kp a g g') {t n r i j y : Nat} (o : O3 g t n r i j y) (hy : y + 2 < gt g) (ne : a < y ∨ y + 3 ≤ a) : O3 g' t n r i j y := O3_pt o (fun b h1 h2 => ⟨(p.2 b (by omega)).1, (p.2 b (by omega)).2.2.2 (by omega)⟩)
theorem t5_initN {ω : Om} {g : AH} {P : Option Value → AH → Prop} (hw : ω.2.2.2.1 = false) (h0 : 0 < gt g) (hq : ∀ g' : AH, (∀ a, Kp a g g') → gt g' = gt g + 52 → NewSt g' (gt g) → P none g') : Ex ω M5_init 0 [some (.ref (gt g)), none] [] (al g 5 11) 0 0 P := by
  refine t5_init hw (gs_al g 5 11) h0 (gt_al g 5 11) (gi_al g 5 11) (gl_al g 5 11) (fun g' o t l e z => hq g' (fun a => ⟨by omega, fun b hb => ?_⟩) t ⟨l, e, z⟩)
  obtain ⟨a1, a2, a3, a4⟩ := o b hb
  have ne : b ≠ gt g := by omega
  exact ⟨a1.trans (gs_al_ne _ _ _ ne), a2.trans (gi_al_ne _ _ _ ne), a4.trans (gl_al_ne _ _ _ ne), fun _ => a3.trans (gr_al_ne _ _ _ ne)⟩
theorem dv5 : ∀ j, j < 11 → defaultValue (tyX5 j) = (if kd 5 j = 0 then .int 0 else if kd 5 j = 1 then .null else .long 0) := fun j hj => by
  rcases (show j = 0 ∨ j = 1 ∨ j = 2 ∨ j = 3 ∨ j = 4 ∨ j = 5 ∨ j = 6 ∨ j = 7 ∨ j = 8 ∨ j = 9 ∨ j = 10 by omega) with rfl | rfl | rfl | rfl | rfl | rfl | rfl | rfl | rfl | rfl | rfl <;> rfl
theorem dv7 : ∀ j, j < 2 → defaultValue (tyX7 j) = (if kd 7 j = 0 then .int 0 else if kd 7 j = 1 then .null else .long 0) := fun j hj => by
  rcases (show j = 0 ∨ j = 1 by omega) with rfl | rfl <;> rfl
theorem dv0 : ∀ j, j < 7 → defaultValue (tyX0 j) = (if kd 0 j = 0 then .int 0 else if kd 0 j = 1 then .null else .long 0) := fun j hj => by
  rcases (show j = 0 ∨ j = 1 ∨ j = 2 ∨ j = 3 ∨ j = 4 ∨ j = 5 ∨ j = 6 by omega) with rfl | rfl | rfl | rfl | rfl | rfl | rfl <;> rfl
/-- the wrapper while it is made -/
def BB (h g : AH) (B : Nat) : Prop := (∀ b, b < B → gs g b = gs h b ∧ gi g b = gi h b ∧ gr g b = gr h b ∧ gl g b = gl h b) ∧ gs g B = some (8, 8) ∧ gi g B = (fun _ => 0) ∧ B < gt g
theorem BB.kp {h g g' : AH} {B a : Nat} (b : BB h g B) (k : Kp a g g') (ha : B ≤ a) : BB h g' B := by
  obtain ⟨b1, b2, b3, b4⟩ := b
  refine ⟨fun q hq => ?_, (k.2 B b4).1.trans b2, (k.2 B b4).2.1.trans b3, Nat.lt_of_lt_of_le b4 k.1⟩
  obtain ⟨x1, x2, x3, x4⟩ := k.2 q (by omega)
  obtain ⟨y1, y2, y3, y4⟩ := b1 q hq
  exact ⟨x1.trans y1, x2.trans y2, (x4 (by omega)).trans y3, x3.trans y4⟩
def RowsH (g : AH) (B n : Nat) : Prop := gs g (B + 105) = some (15, 4) ∧ ∀ j, j < n → gr g (B + 105) j = B + 106 + 52 * j ∧ NewSt g (B + 106 + 52 * j)
theorem RowsH.kp {g g' : AH} {B n a : Nat} (r : RowsH g B n) (k : Kp a g g') (ha : a = B ∨ B + 106 + 52 * n ≤ a) (hg : B + 106 + 52 * n ≤ gt g) : RowsH g' B n := by
  refine ⟨(k.2 _ (by omega)).1.trans r.1, fun j hj => ?_⟩
  obtain ⟨r1, r2⟩ := r.2 j hj
  exact ⟨by rw [(k.2 (B + 105) (by omega)).2.2.2 (by omega)]; exact r1, r2.kp k (by omega) (by omega)⟩
theorem t8_initH {ω : Om} {h : AH} {Q : Option Value → AH → Prop} (hw : ω.2.2.2.1 = false) {B : Nat} (G : Nat → Nat) (hx : G 2 = B + 105) (kk : ∀ g : AH, BB h g B → gt g = B + 314 → NewSt g (B + 1) → NewSt g (B + 53) → RowsH g B 4 → gr g B = G → Ex ω M8_init 60 [some (.ref B), some (.int (nI 4))] [] g 313 3844 Q) :
    ∀ (d i : Nat) (g : AH), i + d = 4 → BB h g B → gt g = B + 106 + 52 * i → NewSt g (B + 1) → NewSt g (B + 53) → RowsH g B i → gr g B = G → Ex ω M8_init 36 [some (.ref B), some (.int (nI i))] [] g (105 + 52 * i) (1284 + 640 * i) Q := by
  intro d
  induction d with
  | zero =>
    intro i g hi b t n1 n2 r e
    obtain rfl : i = 4 := by omega
    refine x_iload1 37 dX8_init_36 rfl ?_
    refine x_iconst 4 38 dX8_init_37 rfl rfl ?_
    exact x_icmp_ge 41 60 dX8_init_38 rfl (by decide) (fun _ => x_room (Nat.le_refl _) (Nat.le_refl _) (kk g b t n1 n2 r e)) (fun c => absurd (by decide) c)
  | succ d ih =>
    intro i g hi b t n1 n2 r e
    refine x_iload1 37 dX8_init_36 rfl ?_
    refine x_iconst (nI 4) 38 dX8_init_37 rfl rfl ?_
    refine x_icmp_ge 41 60 dX8_init_38 rfl (by decide) (fun c => absurd c (nI_ge (by omega) (by omega))) (fun _ => ?_)
    refine x_aload0 42 dX8_init_41 rfl ?_
    refine x_getR0 cf8 2 45 dX8_init_42 rfl wd15 (nn := 8) (fun _ => b.2.1) (by decide) rfl (fun _ _ => by rw [e, hx]; omega) ?_
    rw [e, hx]
    refine x_iload1 46 dX8_init_45 rfl ?_
    refine x_new cf5 49 hw dX8_init_46 rfl ⟨wd10, wd11, wd12⟩ (by omega) dv5 (by show 105 + 52 * i + 1 ≤ 323; omega) (by show 1284 + 640 * i + 11 ≤ 4032; omega) ?_
    refine x_dup 50 dX8_init_49 rfl rfl ?_
    refine x_callI 53 (gt g) [] [.ref (gt g), .int (nI i), .ref (B + 105)] dX8_init_50 rfl lk_5_init rfl ⟨wd30, wd31⟩ rfl ⟨by decide, by decide⟩ rfl rfl (Nat.le_of_ble_eq_true rfl) (Nat.le_of_ble_eq_true rfl) (by show 105 + 52 * i + 1 + 51 ≤ 323; omega) (by show 1284 + 640 * i + 11 + 629 ≤ 4032; omega) ?_
    refine t5_initN hw (by omega) (fun g1 k1 t1 s1 => ?_)
    refine x_aast arK15 i 54 dX8_init_53 rfl (nn := 4) (fun _ => ((k1 B).2 _ (by omega)).1.trans r.1) (vp_in_nI (by omega) (by omega)) (nI_clamp (by omega)) (fun _ => s1.1.1.1) (fun _ => rfl) ?_
    have k2 := (Ext.sr (B + 105) g1 i (gt g)).kp
    have kF := (k1 (B + 105)).then k2 (Or.inl rfl)
    refine x_iinc1 (nI (i + 1)) 57 dX8_init_54 rfl (by decide) rfl (nI_add i 1) ?_
    refine x_goto 36 dX8_init_57 (by decide) ?_
    refine x_room (show 105 + 52 * i + 1 + 51 ≤ 105 + 52 * (i + 1) by omega) (show 1284 + 640 * i + 11 + 629 ≤ 1284 + 640 * (i + 1) by omega) (ih (i + 1) _ (by omega) (b.kp kF (by omega)) (by show gt g1 = _; omega) (n1.kp kF (by omega) (by omega)) (n2.kp kF (by omega) (by omega)) ⟨(kF.2 _ (by omega)).1.trans r.1, fun j hj => ?_⟩ (by rw [(kF.2 B (by omega)).2.2.2 (by omega)]; exact e))
    by_cases z : j = i
    · subst z
      rw [t] at s1
      exact ⟨by rw [gr_sr, updN_eq, t], s1.kp k2 (by omega) (by omega)⟩
    · obtain ⟨r1, r2⟩ := r.2 j (by omega)
      exact ⟨by rw [gr_sr, updN_ne _ _ z, ((k1 B).2 (B + 105) (by omega)).2.2.2 (by omega)]; exact r1, r2.kp kF (by omega) (by omega)⟩
/-- what the wrapper is when it is made -/
def NewW (g : AH) (B : Nat) : Prop := LayW g B ∧ NewSt g (B + 1) ∧ gi g B = (fun _ => 0) ∧ gi g (B + 314) = (fun _ => 0) ∧ O3 g 2 3 12 1 2 (B + 320) ∧ gr g (B + 319) 0 = B + 320
theorem t8_init {ω : Om} {h : AH} {Q : Option Value → AH → Prop} (hw : ω.2.2.2.1 = false) {B : Nat} (s : gs h B = some (8, 8)) (h0 : 0 < B) (ht : gt h = B + 1) (hi : gi h B = fun _ => 0) (hq : ∀ g : AH, (∀ b, b < B → gs g b = gs h b ∧ gi g b = gi h b ∧ gr g b = gr h b ∧ gl g b = gl h b) → gt g = B + 324 → NewW g B → Q none g) : Ex ω M8_init 0 [some (.ref B), none] [] h 0 0 Q := by
  have b0 : BB h h B := ⟨fun _ _ => ⟨rfl, rfl, rfl, rfl⟩, s, hi, by omega⟩
  refine x_aload0 1 dX8_init_0 rfl ?_
  refine x_objInit 4 dX8_init_1 rfl wd7 (by decide) (by decide) ?_
  refine x_aload0 5 dX8_init_4 rfl ?_
  refine x_new cf5 8 hw dX8_init_5 rfl ⟨wd10, wd11, wd12⟩ (by omega) dv5 (by decide) (by decide) ?_
  refine x_dup 9 dX8_init_8 rfl rfl ?_
  refine x_callI 12 (gt h) [] [.ref (gt h), .ref B] dX8_init_9 rfl lk_5_init rfl ⟨wd30, wd31⟩ rfl ⟨by decide, by decide⟩ rfl rfl (Nat.le_of_ble_eq_true rfl) (Nat.le_of_ble_eq_true rfl) (by decide) (by decide) ?_
  refine t5_initN hw (by omega) (fun g1 k1 t1 s1 => ?_)
  have bb1 := b0.kp (k1 B) (Nat.le_refl _)
  refine x_putR cf8 0 15 dX8_init_12 rfl wd13 (nn := 8) (fun _ => bb1.2.1) (by decide) (Or.inr ⟨rfl, rfl, rfl⟩) (Or.inl ⟨_, rfl⟩) (fun _ => s1.1.1.1) ?_
  have k2 := (Ext.sr B g1 0 (gt h)).kp
  have b2 := bb1.kp k2 (Nat.le_refl _)
  have t2 : gt (sr g1 B 0 (gt h)) = B + 53 := by show gt g1 = _; omega
  rw [ht] at s1
  have n2 := s1.kp k2 (by omega) (by omega)
  have f2 : gr (sr g1 B 0 (gt h)) B = updN (gr g1 B) 0 (gt h) := gr_sr _ _ _ _
  generalize sr g1 B 0 (gt h) = g2 at *
  refine x_aload0 16 dX8_init_15 rfl ?_
  refine x_new cf5 19 hw dX8_init_16 rfl ⟨wd10, wd11, wd12⟩ (by omega) dv5 (by decide) (by decide) ?_
  refine x_dup 20 dX8_init_19 rfl rfl ?_
  refine x_callI 23 (gt g2) [] [.ref (gt g2), .ref B] dX8_init_20 rfl lk_5_init rfl ⟨wd30, wd31⟩ rfl ⟨by decide, by decide⟩ rfl rfl (Nat.le_of_ble_eq_true rfl) (Nat.le_of_ble_eq_true rfl) (by decide) (by decide) ?_
  refine t5_initN hw (by omega) (fun g3 k3 t3 s3 => ?_)
  have bb3 := b2.kp (k3 B) (Nat.le_refl _)
  have n3 := n2.kp (k3 B) (by omega) (by omega)
  refine x_putR cf8 1 26 dX8_init_23 rfl wd14 (nn := 8) (fun _ => bb3.2.1) (by decide) (Or.inr ⟨rfl, rfl, rfl⟩) (Or.inl ⟨_, rfl⟩) (fun _ => s3.1.1.1) ?_
  have k4 := (Ext.sr B g3 1 (gt g2)).kp
  have b4 := bb3.kp k4 (Nat.le_refl _)
  have t4 : gt (sr g3 B 1 (gt g2)) = B + 105 := by show gt g3 = _; omega
  rw [t2] at s3
  have n4 := n3.kp k4 (by omega) (by omega)
  have m4 := s3.kp k4 (by omega) (by omega)
  have f4 : gr (sr g3 B 1 (gt g2)) B = updN (gr g2 B) 1 (gt g2) := by
    rw [gr_sr]
    have : ∀ a, a ≠ B → gr g3 B = gr g2 B := fun a ha => ((k3 a).2 B (by omega)).2.2.2 (Ne.symm ha)
    rw [this (B + 1) (by omega)]
  generalize sr g3 B 1 (gt g2) = g4 at *
  refine x_aload0 27 dX8_init_26 rfl ?_
  refine x_iconst 4 28 dX8_init_27 rfl rfl ?_
  refine x_anew (N := 4) arK15 31 hw dX8_init_28 rfl wd10 (by decide) (by omega) rfl (by decide) (by decide) (by decide) ?_
  have sal : gs (al g4 15 4) (gt g4) = some (15, 4) := gs_al g4 15 4
  refine x_putR cf8 2 34 dX8_init_31 rfl wd15 (nn := 8) (fun _ => (gs_al_ne _ _ _ (by omega)).trans b4.2.1) (by decide) (Or.inr ⟨rfl, rfl, rfl⟩) (Or.inr ⟨_, rfl⟩) (fun _ => sal) ?_
  refine x_iconst 0 35 dX8_init_34 rfl rfl ?_
  refine x_istore1 36 dX8_init_35 rfl (by decide) rfl ?_
  have k5 : Kp B g4 (sr (al g4 15 4) B 2 (gt g4)) := ((Ext.al B g4 15 4).then (Ext.sr B _ 2 (gt g4)) (Or.inl rfl)).kp
  have t5 : gt (sr (al g4 15 4) B 2 (gt g4)) = gt g4 + 1 := rfl
  have s5 : gs (sr (al g4 15 4) B 2 (gt g4)) (gt g4) = some (15, 4) := sal
  have f5 : gr (sr (al g4 15 4) B 2 (gt g4)) B = updN (gr g4 B) 2 (gt g4) := by rw [gr_sr, gr_al_ne _ _ _ (by omega)]
  generalize sr (al g4 15 4) B 2 (gt g4) = g5 at *
  refine t8_initH hw (h := h) _ (by rw [f5, updN_eq]; omega) (fun g6 b6 t6 n6 m6 r6 f6 => ?_) 4 0 g5 rfl (b4.kp k5 (Nat.le_refl _)) (by omega) (n4.kp k5 (by omega) (by omega)) (m4.kp k5 (by omega) (by omega)) ⟨by rw [← t4]; exact s5, fun j hj => by omega⟩ rfl
  refine x_aload0 61 dX8_init_60 rfl ?_
  refine x_iconst 0 62 dX8_init_61 rfl rfl ?_
  refine x_putI cf8 3 65 dX8_init_62 rfl wd16 (nn := 8) (fun _ => b6.2.1) (by decide) rfl rfl ?_
  have z6 : si g6 B 3 0 = g6 := by
    rw [si_wi]
    have : upd (gi g6 B) 3 0 = gi g6 B := by
      rw [b6.2.2.1]
      funext j
      unfold upd
      split <;> rfl
    rw [this, wi_self]
  rw [z6]
  -- the text
  refine x_aload0 66 dX8_init_65 rfl ?_
  refine x_new cf7 69 hw dX8_init_66 rfl ⟨wd17, wd18, wd19⟩ (by omega) dv7 (by decide) (by decide) ?_
  refine x_dup 70 dX8_init_69 rfl rfl ?_
  refine x_callI 73 (gt g6) [] [.ref (gt g6), .ref B] dX8_init_70 rfl lk_7_init rfl ⟨wd78, wd79⟩ rfl ⟨by decide, by decide⟩ rfl rfl (Nat.le_of_ble_eq_true rfl) (Nat.le_of_ble_eq_true rfl) (by decide) (by decide) ?_
  refine t7_init hw (gs_al g6 7 2) (by rw [gt_al]; omega) (by rw [gt_al]; omega) (fun g7 q1 q2 q3 q4 => ?_)
  have q2 : gt g7 = gt g6 + 2 := q2
  have q3 : gs g7 (gt g6 + 1) = some (11, 100) := q3
  have q4 : gr g7 (gt g6) 0 = gt g6 + 1 := q4
  have e7 : Ext B g6 g7 := (Ext.al B g6 7 2).then q1 (Or.inr (Nat.le_refl _))
  have sg : gs g7 (gt g6) = some (7, 2) := ((q1.2.1 (gt g6) (by rw [gt_al]; omega)).1).trans (gs_al g6 7 2)
  have zg : gi g7 (gt g6) = fun _ => 0 := (e7.2.2 (gt g6) (Nat.le_refl _) (by omega)).1
  have bb7 := b6.kp e7.kp (Nat.le_refl _)
  have c7 : gr g7 B = gr g6 B := by rw [(q1.2.1 B (by rw [gt_al]; omega)).2.2.2 (by omega), gr_al_ne _ _ _ (by omega)]
  refine x_putR cf8 4 76 dX8_init_73 rfl wd20 (nn := 8) (fun _ => bb7.2.1) (by decide) (Or.inr ⟨rfl, rfl, rfl⟩) (Or.inl ⟨_, rfl⟩) (fun _ => sg) ?_
  have x8 := Ext.sr B g7 4 (gt g6)
  have k8 : Kp B g6 (sr g7 B 4 (gt g6)) := (e7.then x8 (Or.inl rfl)).kp
  have t8 : gt (sr g7 B 4 (gt g6)) = B + 316 := by show gt g7 = _; omega
  have f8 : gr (sr g7 B 4 (gt g6)) B = updN (gr g6 B) 4 (B + 314) := by rw [gr_sr, c7, t6]
  have tx8 : gs (sr g7 B 4 (gt g6)) (B + 314) = some (7, 2) ∧ gs (sr g7 B 4 (gt g6)) (B + 315) = some (11, 100) ∧ gr (sr g7 B 4 (gt g6)) (B + 314) 0 = B + 315 ∧ gi (sr g7 B 4 (gt g6)) (B + 314) = fun _ => 0 := by
    rw [t6] at sg q3 q4 zg
    exact ⟨sg, q3, by rw [sr_wr, gr_wr_ne _ _ _ (by omega)]; exact q4, zg⟩
  have b8 := b6.kp k8 (Nat.le_refl _)
  have n8 := n6.kp k8 (by omega) (by omega)
  have m8 := m6.kp k8 (by omega) (by omega)
  have r8 := r6.kp k8 (by omega) (by omega)
  generalize sr g7 B 4 (gt g6) = g8 at *
  -- the draft
  refine x_aload0 77 dX8_init_76 rfl ?_
  refine x_new cf2 80 hw dX8_init_77 rfl ⟨wd21, wd22, wd23⟩ (by omega) dv2 (by decide) (by decide) ?_
  refine x_dup 81 dX8_init_80 rfl rfl ?_
  refine x_callI 84 (gt g8) [] [.ref (gt g8), .ref B] dX8_init_81 rfl lk_2_init rfl ⟨wd84, wd70⟩ rfl ⟨by decide, by decide⟩ rfl rfl (Nat.le_of_ble_eq_true rfl) (Nat.le_of_ble_eq_true rfl) (by decide) (by decide) ?_
  refine t2_init hw (gs_al g8 2 3) (by rw [gt_al]; omega) (by rw [gt_al]; omega) (fun g9 q1 q2 q3 q4 q5 q6 => ?_)
  have q2 : gt g9 = gt g8 + 3 := q2
  have e9 : Ext B g8 g9 := (Ext.al B g8 2 3).then q1 (Or.inr (Nat.le_refl _))
  have sg : gs g9 (gt g8) = some (2, 3) := ((q1.2.1 (gt g8) (by rw [gt_al]; omega)).1).trans (gs_al g8 2 3)
  have o9 : ProgO g9 (gt g8) := ⟨sg, q3, q4, q5, q6⟩
  have bb9 := b8.kp e9.kp (Nat.le_refl _)
  have c9 : gr g9 B = gr g8 B := by rw [(q1.2.1 B (by rw [gt_al]; omega)).2.2.2 (by omega), gr_al_ne _ _ _ (by omega)]
  refine x_putR cf8 5 87 dX8_init_84 rfl wd24 (nn := 8) (fun _ => bb9.2.1) (by decide) (Or.inr ⟨rfl, rfl, rfl⟩) (Or.inl ⟨_, rfl⟩) (fun _ => sg) ?_
  have x10 := Ext.sr B g9 5 (gt g8)
  have k10 : Kp B g8 (sr g9 B 5 (gt g8)) := (e9.then x10 (Or.inl rfl)).kp
  have t10 : gt (sr g9 B 5 (gt g8)) = B + 319 := by show gt g9 = _; omega
  have f10 : gr (sr g9 B 5 (gt g8)) B = updN (gr g8 B) 5 (B + 316) := by rw [gr_sr, c9, t8]
  have o10 : ProgO (sr g9 B 5 (gt g8)) (B + 316) := by rw [t8] at o9; exact x10.O3 o9 (by omega) (by omega)
  have b10 := b8.kp k10 (Nat.le_refl _)
  have n10 := n8.kp k10 (by omega) (by omega)
  have m10 := m8.kp k10 (by omega) (by omega)
  have r10 := r8.kp k10 (by omega) (by omega)
  have tx10 : gs (sr g9 B 5 (gt g8)) (B + 314) = some (7, 2) ∧ gs (sr g9 B 5 (gt g8)) (B + 315) = some (11, 100) ∧ gr (sr g9 B 5 (gt g8)) (B + 314) 0 = B + 315 ∧ gi (sr g9 B 5 (gt g8)) (B + 314) = fun _ => 0 := by
    obtain ⟨a1, a2, a3, a4⟩ := tx8
    exact ⟨(k10.2 _ (by omega)).1.trans a1, (k10.2 _ (by omega)).1.trans a2, by rw [(k10.2 (B + 314) (by omega)).2.2.2 (by omega)]; exact a3, (k10.2 (B + 314) (by omega)).2.1.trans a4⟩
  generalize sr g9 B 5 (gt g8) = g10 at *
  -- the course
  refine x_aload0 88 dX8_init_87 rfl ?_
  refine x_new cf0 91 hw dX8_init_88 rfl ⟨wd25, wd26, wd27⟩ (by omega) dv0 (by decide) (by decide) ?_
  refine x_dup 92 dX8_init_91 rfl rfl ?_
  refine x_callI 95 (gt g10) [] [.ref (gt g10), .ref B] dX8_init_92 rfl lk_0_init rfl ⟨wd85, wd86⟩ rfl ⟨by decide, by decide⟩ rfl rfl (Nat.le_of_ble_eq_true rfl) (Nat.le_of_ble_eq_true rfl) (by decide) (by decide) ?_
  refine t0_init hw (gs_al g10 0 7) (by rw [gt_al]; omega) (by rw [gt_al]; omega) (fun g11 q1 q2 q3 q4 => ?_)
  have q2 : gt g11 = gt g10 + 4 := q2
  have q3 : O3 g11 2 3 12 1 2 (gt g10 + 1) := q3
  have q4 : gr g11 (gt g10) 0 = gt g10 + 1 := q4
  have e11 : Ext B g10 g11 := (Ext.al B g10 0 7).then q1 (Or.inr (Nat.le_refl _))
  have sg : gs g11 (gt g10) = some (0, 7) := ((q1.2.1 (gt g10) (by rw [gt_al]; omega)).1).trans (gs_al g10 0 7)
  have bb11 := b10.kp e11.kp (Nat.le_refl _)
  have c11 : gr g11 B = gr g10 B := by rw [(q1.2.1 B (by rw [gt_al]; omega)).2.2.2 (by omega), gr_al_ne _ _ _ (by omega)]
  refine x_putR cf8 6 98 dX8_init_95 rfl wd28 (nn := 8) (fun _ => bb11.2.1) (by decide) (Or.inr ⟨rfl, rfl, rfl⟩) (Or.inl ⟨_, rfl⟩) (fun _ => sg) ?_
  have x12 := Ext.sr B g11 6 (gt g10)
  have k12 : Kp B g10 (sr g11 B 6 (gt g10)) := (e11.then x12 (Or.inl rfl)).kp
  have t12 : gt (sr g11 B 6 (gt g10)) = B + 323 := by show gt g11 = _; omega
  have f12 : gr (sr g11 B 6 (gt g10)) B = updN (gr g10 B) 6 (B + 319) := by rw [gr_sr, c11, t10]
  have cu12 : gs (sr g11 B 6 (gt g10)) (B + 319) = some (0, 7) ∧ O3 (sr g11 B 6 (gt g10)) 2 3 12 1 2 (B + 320) ∧ gr (sr g11 B 6 (gt g10)) (B + 319) 0 = B + 320 := by
    rw [t10] at sg q3 q4
    exact ⟨sg, x12.O3 q3 (by omega) (by omega), by rw [sr_wr, gr_wr_ne _ _ _ (by omega)]; exact q4⟩
  have o12 := k12.O3 o10 (by omega) (by omega)
  have b12 := b10.kp k12 (Nat.le_refl _)
  have n12 := n10.kp k12 (by omega) (by omega)
  have m12 := m10.kp k12 (by omega) (by omega)
  have r12 := r10.kp k12 (by omega) (by omega)
  have tx12 : gs (sr g11 B 6 (gt g10)) (B + 314) = some (7, 2) ∧ gs (sr g11 B 6 (gt g10)) (B + 315) = some (11, 100) ∧ gr (sr g11 B 6 (gt g10)) (B + 314) 0 = B + 315 ∧ gi (sr g11 B 6 (gt g10)) (B + 314) = fun _ => 0 := by
    obtain ⟨a1, a2, a3, a4⟩ := tx10
    exact ⟨(k12.2 _ (by omega)).1.trans a1, (k12.2 _ (by omega)).1.trans a2, by rw [(k12.2 (B + 314) (by omega)).2.2.2 (by omega)]; exact a3, (k12.2 (B + 314) (by omega)).2.1.trans a4⟩
  generalize sr g11 B 6 (gt g10) = g12 at *
  -- the layers planned
  refine x_aload0 99 dX8_init_98 rfl ?_
  refine x_bipush 25 101 dX8_init_99 rfl rfl ?_
  refine x_newI (N := 25) 103 hw dX8_init_101 rfl (by omega) rfl (by decide) (by decide) (by decide) ?_
  have sal : gs (al g12 10 25) (gt g12) = some (10, 25) := gs_al g12 10 25
  refine x_putR cf8 7 106 dX8_init_103 rfl wd29 (nn := 8) (fun _ => (gs_al_ne _ _ _ (by omega)).trans b12.2.1) (by decide) (Or.inr ⟨rfl, rfl, rfl⟩) (Or.inr ⟨_, rfl⟩) (fun _ => sal) ?_
  have k13 : Kp B g12 (sr (al g12 10 25) B 7 (gt g12)) := ((Ext.al B g12 10 25).then (Ext.sr B _ 7 (gt g12)) (Or.inl rfl)).kp
  have t13 : gt (sr (al g12 10 25) B 7 (gt g12)) = B + 324 := by show gt g12 + 1 = _; omega
  have s13 : gs (sr (al g12 10 25) B 7 (gt g12)) (B + 323) = some (10, 25) := by rw [← t12]; exact sal
  have f13 : gr (sr (al g12 10 25) B 7 (gt g12)) B = updN (gr g12 B) 7 (B + 323) := by rw [gr_sr, gr_al_ne _ _ _ (by omega), t12]
  have b13 := b12.kp k13 (Nat.le_refl _)
  have n13 := n12.kp k13 (by omega) (by omega)
  have m13 := m12.kp k13 (by omega) (by omega)
  have r13 := r12.kp k13 (by omega) (by omega)
  have o13 := k13.O3 o12 (by omega) (by omega)
  refine x_vret dX8_init_106 rfl (by decide) (by decide) (hq _ b13.1 t13 ?_)
  generalize sr (al g12 10 25) B 7 (gt g12) = g13 at *
  obtain ⟨a1, a2, a3, a4⟩ := tx12
  obtain ⟨c1, c2, c3⟩ := cu12
  have w : ∀ b, b < B + 323 → b ≠ B → gs g13 b = gs g12 b ∧ gr g13 b = gr g12 b := fun b h1 h2 => ⟨(k13.2 b (by omega)).1, (k13.2 b (by omega)).2.2.2 h2⟩
  have G0 : gr g13 B 0 = B + 1 := by rw [f13, updN_ne _ _ (by omega), f12, updN_ne _ _ (by omega), f10, updN_ne _ _ (by omega), f8, updN_ne _ _ (by omega), f6, f5, updN_ne _ _ (by omega), f4, updN_ne _ _ (by omega), f2, updN_eq, ht]
  have G1 : gr g13 B 1 = B + 53 := by rw [f13, updN_ne _ _ (by omega), f12, updN_ne _ _ (by omega), f10, updN_ne _ _ (by omega), f8, updN_ne _ _ (by omega), f6, f5, updN_ne _ _ (by omega), f4, updN_eq, t2]
  have G2 : gr g13 B 2 = B + 105 := by rw [f13, updN_ne _ _ (by omega), f12, updN_ne _ _ (by omega), f10, updN_ne _ _ (by omega), f8, updN_ne _ _ (by omega), f6, f5, updN_eq, t4]
  have G4 : gr g13 B 4 = B + 314 := by rw [f13, updN_ne _ _ (by omega), f12, updN_ne _ _ (by omega), f10, updN_ne _ _ (by omega), f8, updN_eq]
  have G5 : gr g13 B 5 = B + 316 := by rw [f13, updN_ne _ _ (by omega), f12, updN_ne _ _ (by omega), f10, updN_eq]
  have G6 : gr g13 B 6 = B + 319 := by rw [f13, updN_ne _ _ (by omega), f12, updN_eq]
  have G7 : gr g13 B 7 = B + 323 := by rw [f13, updN_eq]
  refine ⟨⟨⟨b13.2.1, r13.1, (w _ (by omega) (by omega)).1.trans a1, (w _ (by omega) (by omega)).1.trans a2, (w _ (by omega) (by omega)).1.trans c1, s13⟩, ⟨G0, G1, G2, G4, G5, G6, G7⟩, by rw [(w (B + 314) (by omega) (by omega)).2]; exact a3, o13, n13.1, m13.1, fun j hj => (r13.2 j hj).2.1, ⟨fun i hi => ⟨i, hi, (r13.2 i hi).1⟩, fun i j h1 h2 => by rw [(r13.2 i (by omega)).1, (r13.2 j h2).1]; omega⟩⟩, n13, b13.2.2.1, (k13.2 _ (by omega)).2.1.trans a4, k13.O3 c2 (by omega) (by omega), by rw [(w (B + 319) (by omega) (by omega)).2]; exact c3⟩

