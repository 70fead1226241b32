/-! the constructor of State -/
theorem dv4 : ∀ j, j < 6 → defaultValue (tyX4 j) = (if kd 4 j = 0 then .int 0 else if kd 4 j = 1 then .null else .long 0) := fun j hj => by
  rcases (show j = 0 ∨ j = 1 ∨ j = 2 ∨ j = 3 ∨ j = 4 ∨ j = 5 by omega) with rfl | rfl | rfl | rfl | rfl | rfl <;> rfl
theorem dv1 : ∀ j, j < 6 → defaultValue (tyX1 j) = (if kd 1 j = 0 then .int 0 else if kd 1 j = 1 then .null else .long 0) := fun j hj => by
  rcases (show j = 0 ∨ j = 1 ∨ j = 2 ∨ j = 3 ∨ j = 4 ∨ j = 5 by omega) with rfl | rfl | rfl | rfl | rfl | rfl <;> rfl
theorem dv3 : ∀ j, j < 15 → defaultValue (tyX3 j) = (if kd 3 j = 0 then .int 0 else if kd 3 j = 1 then .null else .long 0) := fun j hj => by
  rcases (show j = 0 ∨ j = 1 ∨ j = 2 ∨ j = 3 ∨ j = 4 ∨ j = 5 ∨ j = 6 ∨ j = 7 ∨ j = 8 ∨ j = 9 ∨ j = 10 ∨ j = 11 ∨ j = 12 ∨ j = 13 ∨ j = 14 by omega) with rfl | rfl | rfl | rfl | rfl | rfl | rfl | rfl | rfl | rfl | rfl | rfl | rfl | rfl | rfl <;> rfl
theorem dv6 : ∀ j, j < 12 → defaultValue (tyX6 j) = (if kd 6 j = 0 then .int 0 else if kd 6 j = 1 then .null else .long 0) := fun j hj => by
  rcases (show j = 0 ∨ j = 1 ∨ j = 2 ∨ j = 3 ∨ j = 4 ∨ j = 5 ∨ j = 6 ∨ j = 7 ∨ j = 8 ∨ j = 9 ∨ j = 10 ∨ j = 11 by omega) with rfl | rfl | rfl | rfl | rfl | rfl | rfl | rfl | rfl | rfl | rfl | rfl <;> rfl
/-- what holds of a state while it is made: the old is old, the new is zero -/
def BS (h g : AH) (x : Nat) : Prop := (∀ b, b < x → gs g b = gs h b ∧ gi g b = gi h b ∧ gr g b = gr h b ∧ gl g b = gl h b) ∧ gs g x = some (5, 11) ∧ (∀ b, x ≤ b → b < gt g → gi g b = (fun _ => 0) ∧ gl g b = fun _ => 0) ∧ x < gt g
theorem BS.ext {h g g' : AH} {x a : Nat} (b : BS h g x) (e : Ext a g g') (ha : x ≤ a) : BS h g' x := by
  obtain ⟨b1, b2, b3, b4⟩ := b
  refine ⟨fun q hq => ?_, (e.2.1 x b4).1.trans b2, fun q h1 h2 => ?_, Nat.lt_of_lt_of_le b4 e.1⟩
  · obtain ⟨x1, x2, x3, x4⟩ := e.2.1 q (by omega)
    obtain ⟨y1, y2, y3, y4⟩ := b1 q hq
    exact ⟨x1.trans y1, x2.trans y2, (x4 (by omega)).trans y3, x3.trans y4⟩
  · by_cases z : q < gt g
    · obtain ⟨x1, x2, x3, x4⟩ := e.2.1 q z
      obtain ⟨y1, y2⟩ := b3 q h1 z
      exact ⟨x2.trans y1, x3.trans y2⟩
    · exact e.2.2 q (by omega) h2
/-- the first n rolls, pallets, results -/
def RowsR (g : AH) (x n : Nat) : Prop := gs g (x + 1) = some (12, 6) ∧ ∀ j, j < n → gr g (x + 1) j = x + 2 + 3 * j ∧ RollO g (x + 2 + 3 * j)
def RowsP (g : AH) (x n : Nat) : Prop := gs g (x + 20) = some (13, 8) ∧ ∀ j, j < n → gr g (x + 20) j = x + 21 + j ∧ gs g (x + 21 + j) = some (1, 6)
def RowsK (g : AH) (x n : Nat) : Prop := gs g (x + 29) = some (14, 6) ∧ ∀ j, j < n → gr g (x + 29) j = x + 30 + 3 * j ∧ ResO g (x + 30 + 3 * j)
theorem RowsR.ext {g g' : AH} {x n a : Nat} (r : RowsR g x n) (e : Ext a g g') (ha : a = x ∨ x + 2 + 3 * n ≤ a) (hg : x + 2 + 3 * n ≤ gt g) : RowsR g' x n := by
  refine ⟨(e.2.1 _ (by omega)).1.trans r.1, fun j hj => ?_⟩
  obtain ⟨r1, r2⟩ := r.2 j hj
  exact ⟨by rw [(e.2.1 (x + 1) (by omega)).2.2.2 (by omega)]; exact r1, e.O3 r2 (by omega) (by omega)⟩
theorem RowsP.ext {g g' : AH} {x n a : Nat} (r : RowsP g x n) (e : Ext a g g') (ha : a = x ∨ x + 21 + n ≤ a) (hg : x + 21 + n ≤ gt g) : RowsP g' x n := by
  refine ⟨(e.2.1 _ (by omega)).1.trans r.1, fun j hj => ?_⟩
  obtain ⟨r1, r2⟩ := r.2 j hj
  exact ⟨by rw [(e.2.1 (x + 20) (by omega)).2.2.2 (by omega)]; exact r1, (e.2.1 _ (by omega)).1.trans r2⟩
theorem RowsK.ext {g g' : AH} {x n a : Nat} (r : RowsK g x n) (e : Ext a g g') (ha : a = x ∨ x + 30 + 3 * n ≤ a) (hg : x + 30 + 3 * n ≤ gt g) : RowsK g' x n := by
  refine ⟨(e.2.1 _ (by omega)).1.trans r.1, fun j hj => ?_⟩
  obtain ⟨r1, r2⟩ := r.2 j hj
  exact ⟨by rw [(e.2.1 (x + 29) (by omega)).2.2.2 (by omega)]; exact r1, e.O3 r2 (by omega) (by omega)⟩
section LOOPS
variable {ω : Om} {h : AH} {Q : Option Value → AH → Prop}
theorem t5_initR (hw : ω.2.2.2.1 = false) {x : Nat} (G : Nat → Nat) (kk : ∀ g : AH, BS h g x → gt g = x + 20 → RowsR g x 6 → gr g x = G → Ex ω M5_init 40 [some (.ref x), some (.int (nI 6))] [] g 19 138 Q) (hx : G 0 = x + 1) :
    ∀ (d i : Nat) (g : AH), i + d = 6 → BS h g x → gt g = x + 2 + 3 * i → RowsR g x i → gr g x = G → Ex ω M5_init 15 [some (.ref x), some (.int (nI i))] [] g (1 + 3 * i) (6 + 22 * i) Q := by
  intro d
  induction d with
  | zero =>
    intro i g hi b t r e
    obtain rfl : i = 6 := by omega
    refine x_iload1 16 dX5_init_15 rfl ?_
    refine x_bipush 6 18 dX5_init_16 rfl rfl ?_
    exact x_icmp_ge 21 40 dX5_init_18 rfl (by decide) (fun _ => x_room (Nat.le_refl _) (Nat.le_refl _) (kk g b t r e)) (fun c => absurd (by decide) c)
  | succ d ih =>
    intro i g hi b t r e
    refine x_iload1 16 dX5_init_15 rfl ?_
    refine x_bipush (nI 6) 18 dX5_init_16 rfl rfl ?_
    refine x_icmp_ge 21 40 dX5_init_18 rfl (by decide) (fun c => absurd c (nI_ge (by omega) (by omega))) (fun _ => ?_)
    refine x_aload0 22 dX5_init_21 rfl ?_
    refine x_getR0 cf5 0 25 dX5_init_22 rfl wd35 (nn := 11) (fun _ => b.2.1) (by decide) rfl (fun _ _ => by rw [e, hx]; omega) ?_
    rw [e, hx]
    refine x_iload1 26 dX5_init_25 rfl ?_
    refine x_new cf4 29 hw dX5_init_26 rfl ⟨wd34, wd36, wd37⟩ (by omega) dv4 (by show 1 + 3 * i + 1 ≤ 51; omega) (by show 6 + 22 * i + 6 ≤ 629; omega) ?_
    refine x_dup 30 dX5_init_29 rfl rfl ?_
    refine x_callI 33 (gt g) [] [.ref (gt g), .int (nI i), .ref (x + 1)] dX5_init_30 rfl lk_4_init rfl ⟨wd54, wd55⟩ rfl ⟨by decide, by decide⟩ rfl rfl (Nat.le_of_ble_eq_true rfl) (Nat.le_of_ble_eq_true rfl) (by show 1 + 3 * i + 1 + 2 ≤ 51; omega) (by show 6 + 22 * i + 6 + 16 ≤ 629; omega) ?_
    refine t4_init hw (gs_al g 4 6) (by rw [gt_al]; omega) (by rw [gt_al]; omega) (fun g1 q1 q2 q3 q4 q5 q6 => ?_)
    have q2 : gt g1 = gt g + 3 := q2
    have en : Ext (x + 1) g g1 := (Ext.al (x + 1) g 4 6).then q1 (Or.inr (Nat.le_refl _))
    have sg : gs g1 (gt g) = some (4, 6) := ((q1.2.1 (gt g) (by rw [gt_al]; omega)).1).trans (gs_al g 4 6)
    have o : RollO g1 (gt g) := ⟨sg, q3, q4, q5, q6⟩
    refine x_aast arK12 i 34 dX5_init_33 rfl (nn := 6) (fun _ => (en.2.1 _ (by omega)).1.trans r.1) (vp_in_nI (by omega) (by omega)) (nI_clamp (by omega)) (fun _ => sg) (fun _ => rfl) ?_
    have e2 := Ext.sr (x + 1) g1 i (gt g)
    have eF := en.then e2 (Or.inl rfl)
    refine x_iinc1 (nI (i + 1)) 37 dX5_init_34 rfl (by decide) rfl (nI_add i 1) ?_
    refine x_goto 15 dX5_init_37 (by decide) ?_
    refine x_room (show 1 + 3 * i + 1 + 2 ≤ 1 + 3 * (i + 1) by omega) (show 6 + 22 * i + 6 + 16 ≤ 6 + 22 * (i + 1) by omega) (ih (i + 1) _ (by omega) (b.ext eF (by omega)) (by show gt g1 = _; omega) ⟨(eF.2.1 _ (by omega)).1.trans r.1, fun j hj => ?_⟩ (by rw [(eF.2.1 x (by omega)).2.2.2 (by omega)]; exact e))
    by_cases z : j = i
    · subst z
      rw [t] at o
      refine ⟨by rw [gr_sr, updN_eq, t], e2.O3 o (by omega) (by omega)⟩
    · obtain ⟨r1, r2⟩ := r.2 j (by omega)
      refine ⟨by rw [gr_sr, updN_ne _ _ z, (q1.2.1 (x + 1) (by rw [gt_al]; omega)).2.2.2 (by omega), gr_al_ne _ _ _ (by omega)]; exact r1, eF.O3 r2 (by omega) (by omega)⟩
theorem t5_initP (hw : ω.2.2.2.1 = false) {x : Nat} (G : Nat → Nat) (kk : ∀ g : AH, BS h g x → gt g = x + 29 → RowsR g x 6 → RowsP g x 8 → gr g x = G → Ex ω M5_init 76 [some (.ref x), some (.int (nI 8))] [] g 28 194 Q) (hx : G 2 = x + 20) :
    ∀ (d i : Nat) (g : AH), i + d = 8 → BS h g x → gt g = x + 21 + i → RowsR g x 6 → RowsP g x i → gr g x = G → Ex ω M5_init 51 [some (.ref x), some (.int (nI i))] [] g (20 + i) (146 + 6 * i) Q := by
  intro d
  induction d with
  | zero =>
    intro i g hi b t rr r e
    obtain rfl : i = 8 := by omega
    refine x_iload1 52 dX5_init_51 rfl ?_
    refine x_bipush 8 54 dX5_init_52 rfl rfl ?_
    exact x_icmp_ge 57 76 dX5_init_54 rfl (by decide) (fun _ => x_room (Nat.le_refl _) (Nat.le_refl _) (kk g b t rr r e)) (fun c => absurd (by decide) c)
  | succ d ih =>
    intro i g hi b t rr r e
    refine x_iload1 52 dX5_init_51 rfl ?_
    refine x_bipush (nI 8) 54 dX5_init_52 rfl rfl ?_
    refine x_icmp_ge 57 76 dX5_init_54 rfl (by decide) (fun c => absurd c (nI_ge (by omega) (by omega))) (fun _ => ?_)
    refine x_aload0 58 dX5_init_57 rfl ?_
    refine x_getR0 cf5 2 61 dX5_init_58 rfl wd39 (nn := 11) (fun _ => b.2.1) (by decide) rfl (fun _ _ => by rw [e, hx]; omega) ?_
    rw [e, hx]
    refine x_iload1 62 dX5_init_61 rfl ?_
    refine x_new cf1 65 hw dX5_init_62 rfl ⟨wd38, wd40, wd41⟩ (by omega) dv1 (by show 20 + i + 1 ≤ 51; omega) (by show 146 + 6 * i + 6 ≤ 629; omega) ?_
    refine x_dup 66 dX5_init_65 rfl rfl ?_
    refine x_callIN (host := "PalletWrapper") 69 (gt g) [] [.ref (gt g), .int (nI i), .ref (x + 20)] dX5_init_66 rfl lk_1_init rfl ⟨by decide +kernel, wd60⟩ rfl ⟨by decide, by decide⟩ rfl rfl (Nat.le_of_ble_eq_true rfl) (Nat.le_of_ble_eq_true rfl) (by show 20 + i + 1 + 0 ≤ 51; omega) (by show 146 + 6 * i + 6 + 0 ≤ 629; omega) ?_
    refine t1_init ?_
    have en : Ext (x + 20) g (al g 1 6) := Ext.al (x + 20) g 1 6
    have sg : gs (al g 1 6) (gt g) = some (1, 6) := gs_al g 1 6
    refine x_aast arK13 i 70 dX5_init_69 rfl (nn := 8) (fun _ => (en.2.1 _ (by omega)).1.trans r.1) (vp_in_nI (by omega) (by omega)) (nI_clamp (by omega)) (fun _ => sg) (fun _ => rfl) ?_
    have e2 := Ext.sr (x + 20) (al g 1 6) i (gt g)
    have eF := en.then e2 (Or.inl rfl)
    refine x_iinc1 (nI (i + 1)) 73 dX5_init_70 rfl (by decide) rfl (nI_add i 1) ?_
    refine x_goto 51 dX5_init_73 (by decide) ?_
    refine x_room (show 20 + i + 1 + 0 ≤ 20 + (i + 1) by omega) (show 146 + 6 * i + 6 + 0 ≤ 146 + 6 * (i + 1) by omega) (ih (i + 1) _ (by omega) (b.ext eF (by omega)) (by show gt g + 1 = _; omega) (rr.ext eF (by omega) (by omega)) ⟨(eF.2.1 _ (by omega)).1.trans r.1, fun j hj => ?_⟩ (by rw [(eF.2.1 x (by omega)).2.2.2 (by omega)]; exact e))
    by_cases z : j = i
    · subst z
      rw [t] at sg
      exact ⟨by rw [gr_sr, updN_eq, t], sg⟩
    · obtain ⟨r1, r2⟩ := r.2 j (by omega)
      exact ⟨by rw [gr_sr, updN_ne _ _ z, gr_al_ne _ _ _ (by omega)]; exact r1, (eF.2.1 _ (by omega)).1.trans r2⟩
theorem t5_initK (hw : ω.2.2.2.1 = false) {x : Nat} (G : Nat → Nat) (kk : ∀ g : AH, BS h g x → gt g = x + 48 → RowsR g x 6 → RowsP g x 8 → RowsK g x 6 → gr g x = G → Ex ω M5_init 112 [some (.ref x), some (.int (nI 6))] [] g 47 590 Q) (hx : G 5 = x + 29) :
    ∀ (d i : Nat) (g : AH), i + d = 6 → BS h g x → gt g = x + 30 + 3 * i → RowsR g x 6 → RowsP g x 8 → RowsK g x i → gr g x = G → Ex ω M5_init 87 [some (.ref x), some (.int (nI i))] [] g (29 + 3 * i) (200 + 65 * i) Q := by
  intro d
  induction d with
  | zero =>
    intro i g hi b t rr rp r e
    obtain rfl : i = 6 := by omega
    refine x_iload1 88 dX5_init_87 rfl ?_
    refine x_bipush 6 90 dX5_init_88 rfl rfl ?_
    exact x_icmp_ge 93 112 dX5_init_90 rfl (by decide) (fun _ => x_room (Nat.le_refl _) (Nat.le_refl _) (kk g b t rr rp r e)) (fun c => absurd (by decide) c)
  | succ d ih =>
    intro i g hi b t rr rp r e
    refine x_iload1 88 dX5_init_87 rfl ?_
    refine x_bipush (nI 6) 90 dX5_init_88 rfl rfl ?_
    refine x_icmp_ge 93 112 dX5_init_90 rfl (by decide) (fun c => absurd c (nI_ge (by omega) (by omega))) (fun _ => ?_)
    refine x_aload0 94 dX5_init_93 rfl ?_
    refine x_getR0 cf5 5 97 dX5_init_94 rfl wd43 (nn := 11) (fun _ => b.2.1) (by decide) rfl (fun _ _ => by rw [e, hx]; omega) ?_
    rw [e, hx]
    refine x_iload1 98 dX5_init_97 rfl ?_
    refine x_new cf3 101 hw dX5_init_98 rfl ⟨wd42, wd44, wd45⟩ (by omega) dv3 (by show 29 + 3 * i + 1 ≤ 51; omega) (by show 200 + 65 * i + 15 ≤ 629; omega) ?_
    refine x_dup 102 dX5_init_101 rfl rfl ?_
    refine x_callI 105 (gt g) [] [.ref (gt g), .int (nI i), .ref (x + 29)] dX5_init_102 rfl lk_3_init rfl ⟨wd63, wd64⟩ rfl ⟨by decide, by decide⟩ rfl rfl (Nat.le_of_ble_eq_true rfl) (Nat.le_of_ble_eq_true rfl) (by show 29 + 3 * i + 1 + 2 ≤ 51; omega) (by show 200 + 65 * i + 15 + 50 ≤ 629; omega) ?_
    refine t3_init hw (gs_al g 3 15) (by rw [gt_al]; omega) (by rw [gt_al]; omega) (fun g1 q1 q2 q3 q4 q5 q6 => ?_)
    have q2 : gt g1 = gt g + 3 := q2
    have en : Ext (x + 29) g g1 := (Ext.al (x + 29) g 3 15).then q1 (Or.inr (Nat.le_refl _))
    have sg : gs g1 (gt g) = some (3, 15) := ((q1.2.1 (gt g) (by rw [gt_al]; omega)).1).trans (gs_al g 3 15)
    have o : ResO g1 (gt g) := ⟨sg, q3, q4, q5, q6⟩
    refine x_aast arK14 i 106 dX5_init_105 rfl (nn := 6) (fun _ => (en.2.1 _ (by omega)).1.trans r.1) (vp_in_nI (by omega) (by omega)) (nI_clamp (by omega)) (fun _ => sg) (fun _ => rfl) ?_
    have e2 := Ext.sr (x + 29) g1 i (gt g)
    have eF := en.then e2 (Or.inl rfl)
    refine x_iinc1 (nI (i + 1)) 109 dX5_init_106 rfl (by decide) rfl (nI_add i 1) ?_
    refine x_goto 87 dX5_init_109 (by decide) ?_
    refine x_room (show 29 + 3 * i + 1 + 2 ≤ 29 + 3 * (i + 1) by omega) (show 200 + 65 * i + 15 + 50 ≤ 200 + 65 * (i + 1) by omega) (ih (i + 1) _ (by omega) (b.ext eF (by omega)) (by show gt g1 = _; omega) (rr.ext eF (by omega) (by omega)) (rp.ext eF (by omega) (by omega)) ⟨(eF.2.1 _ (by omega)).1.trans r.1, fun j hj => ?_⟩ (by rw [(eF.2.1 x (by omega)).2.2.2 (by omega)]; exact e))
    by_cases z : j = i
    · subst z
      rw [t] at o
      refine ⟨by rw [gr_sr, updN_eq, t], e2.O3 o (by omega) (by omega)⟩
    · obtain ⟨r1, r2⟩ := r.2 j (by omega)
      refine ⟨by rw [gr_sr, updN_ne _ _ z, (q1.2.1 (x + 29) (by rw [gt_al]; omega)).2.2.2 (by omega), gr_al_ne _ _ _ (by omega)]; exact r1, eF.O3 r2 (by omega) (by omega)⟩
end LOOPS
/-- a new state -/
theorem t5_init {ω : Om} {h : AH} {Q : Option Value → AH → Prop} (hw : ω.2.2.2.1 = false) {x : Nat} (s : gs h x = some (5, 11)) (h0 : 0 < x) (ht : gt h = x + 1) (hi : gi h x = fun _ => 0) (hl : gl h x = fun _ => 0) (hq : ∀ g : AH, (∀ b, b < x → gs g b = gs h b ∧ gi g b = gi h b ∧ gr g b = gr h b ∧ gl g b = gl h b) → gt g = x + 52 → LayS g x → gi g x = upd (upd (fun _ => 0) 9 (nI 30)) 10 (nI 3) → (∀ b, x < b → b < x + 52 → gi g b = (fun _ => 0) ∧ gl g b = fun _ => 0) → Q none g) : Ex ω M5_init 0 [some (.ref x), none] [] h 0 0 Q := by
  have b0 : BS h h x := ⟨fun _ _ => ⟨rfl, rfl, rfl, rfl⟩, s, fun b h1 h2 => by
    obtain rfl : b = x := by omega
    exact ⟨hi, hl⟩, by omega⟩
  refine x_aload0 1 dX5_init_0 rfl ?_
  refine x_objInit 4 dX5_init_1 rfl wd33 (by decide) (by decide) ?_
  refine x_aload0 5 dX5_init_4 rfl ?_
  refine x_bipush 6 7 dX5_init_5 rfl rfl ?_
  refine x_anew (N := 6) arK12 10 hw dX5_init_7 rfl wd34 (by decide) (by omega) rfl (by decide) (by decide) (by decide) ?_
  have sal : gs (al h 12 6) (gt h) = some (12, 6) := gs_al h 12 6
  refine x_putR cf5 0 13 dX5_init_10 rfl wd35 (nn := 11) (fun _ => (gs_al_ne _ _ _ (by omega)).trans s) (by decide) (Or.inr ⟨rfl, rfl, rfl⟩) (Or.inr ⟨_, rfl⟩) (fun _ => sal) ?_
  refine x_iconst 0 14 dX5_init_13 rfl rfl ?_
  refine x_istore1 15 dX5_init_14 rfl (by decide) rfl ?_
  have e1 : Ext x h (sr (al h 12 6) x 0 (gt h)) := (Ext.al x h 12 6).then (Ext.sr x _ 0 (gt h)) (Or.inl rfl)
  have t1 : gt (sr (al h 12 6) x 0 (gt h)) = gt h + 1 := rfl
  have s1 : gs (sr (al h 12 6) x 0 (gt h)) (gt h) = some (12, 6) := sal
  have f1 : gr (sr (al h 12 6) x 0 (gt h)) x = updN (gr (al h 12 6) x) 0 (gt h) := gr_sr _ _ _ _
  generalize sr (al h 12 6) x 0 (gt h) = g1 at *
  refine t5_initR hw (h := h) _ (fun g2 b2 t2 r2 f2 => ?_) (by rw [f1, updN_eq]; omega) 6 0 g1 rfl (b0.ext e1 (Nat.le_refl _)) (by omega) ⟨by rw [← ht]; exact s1, fun j hj => by omega⟩ rfl
  refine x_aload0 41 dX5_init_40 rfl ?_
  refine x_bipush 8 43 dX5_init_41 rfl rfl ?_
  refine x_anew (N := 8) arK13 46 hw dX5_init_43 rfl wd38 (by decide) (by omega) rfl (by decide) (by decide) (by decide) ?_
  have sal : gs (al g2 13 8) (gt g2) = some (13, 8) := gs_al g2 13 8
  refine x_putR cf5 2 49 dX5_init_46 rfl wd39 (nn := 11) (fun _ => (gs_al_ne _ _ _ (by omega)).trans b2.2.1) (by decide) (Or.inr ⟨rfl, rfl, rfl⟩) (Or.inr ⟨_, rfl⟩) (fun _ => sal) ?_
  refine x_iconst 0 50 dX5_init_49 rfl rfl ?_
  refine x_istore1 51 dX5_init_50 rfl (by decide) rfl ?_
  have e3 : Ext x g2 (sr (al g2 13 8) x 2 (gt g2)) := (Ext.al x g2 13 8).then (Ext.sr x _ 2 (gt g2)) (Or.inl rfl)
  have t3 : gt (sr (al g2 13 8) x 2 (gt g2)) = gt g2 + 1 := rfl
  have s3 : gs (sr (al g2 13 8) x 2 (gt g2)) (gt g2) = some (13, 8) := sal
  have f3 : gr (sr (al g2 13 8) x 2 (gt g2)) x = updN (gr g2 x) 2 (gt g2) := by rw [gr_sr, gr_al_ne _ _ _ (by omega)]
  generalize sr (al g2 13 8) x 2 (gt g2) = g3 at *
  refine t5_initP hw (h := h) _ (fun g4 b4 t4 r4 p4 f4 => ?_) (by rw [f3, updN_eq]; omega) 8 0 g3 rfl (b2.ext e3 (Nat.le_refl _)) (by omega) (r2.ext e3 (by omega) (by omega)) ⟨by rw [← t2]; exact s3, fun j hj => by omega⟩ rfl
  refine x_aload0 77 dX5_init_76 rfl ?_
  refine x_bipush 6 79 dX5_init_77 rfl rfl ?_
  refine x_anew (N := 6) arK14 82 hw dX5_init_79 rfl wd42 (by decide) (by omega) rfl (by decide) (by decide) (by decide) ?_
  have sal : gs (al g4 14 6) (gt g4) = some (14, 6) := gs_al g4 14 6
  refine x_putR cf5 5 85 dX5_init_82 rfl wd43 (nn := 11) (fun _ => (gs_al_ne _ _ _ (by omega)).trans b4.2.1) (by decide) (Or.inr ⟨rfl, rfl, rfl⟩) (Or.inr ⟨_, rfl⟩) (fun _ => sal) ?_
  refine x_iconst 0 86 dX5_init_85 rfl rfl ?_
  refine x_istore1 87 dX5_init_86 rfl (by decide) rfl ?_
  have e5 : Ext x g4 (sr (al g4 14 6) x 5 (gt g4)) := (Ext.al x g4 14 6).then (Ext.sr x _ 5 (gt g4)) (Or.inl rfl)
  have t5 : gt (sr (al g4 14 6) x 5 (gt g4)) = gt g4 + 1 := rfl
  have s5 : gs (sr (al g4 14 6) x 5 (gt g4)) (gt g4) = some (14, 6) := sal
  have f5 : gr (sr (al g4 14 6) x 5 (gt g4)) x = updN (gr g4 x) 5 (gt g4) := by rw [gr_sr, gr_al_ne _ _ _ (by omega)]
  generalize sr (al g4 14 6) x 5 (gt g4) = g5 at *
  refine t5_initK hw (h := h) _ (fun g6 b6 t6 r6 p6 k6 f6 => ?_) (by rw [f5, updN_eq]; omega) 6 0 g5 rfl (b4.ext e5 (Nat.le_refl _)) (by omega) (r4.ext e5 (by omega) (by omega)) (p4.ext e5 (by omega) (by omega)) ⟨by rw [← t4]; exact s5, fun j hj => by omega⟩ rfl
  refine x_aload0 113 dX5_init_112 rfl ?_
  refine x_new cf2 116 hw dX5_init_113 rfl ⟨wd46, wd22, wd23⟩ (by omega) dv2 (by decide) (by decide) ?_
  refine x_dup 117 dX5_init_116 rfl rfl ?_
  refine x_callI 120 (gt g6) [] [.ref (gt g6), .ref x] dX5_init_117 rfl lk_2_init rfl ⟨wd69, wd70⟩ rfl ⟨by decide, by decide⟩ rfl rfl (Nat.le_of_ble_eq_true rfl) (Nat.le_of_ble_eq_true rfl) (by decide) (by decide) ?_
  refine t2_init hw (gs_al g6 2 3) (by rw [gt_al]; omega) (by rw [gt_al]; omega) (fun g7 q1 q2 q3 q4 q5 q6 => ?_)
  have q2 : gt g7 = gt g6 + 3 := q2
  have en : Ext x g6 g7 := (Ext.al x g6 2 3).then q1 (Or.inr (Nat.le_refl _))
  have sg : gs g7 (gt g6) = some (2, 3) := ((q1.2.1 (gt g6) (by rw [gt_al]; omega)).1).trans (gs_al g6 2 3)
  have o7 : ProgO g7 (gt g6) := ⟨sg, q3, q4, q5, q6⟩
  have f7 : gr g7 x = gr g6 x := by rw [(q1.2.1 x (by rw [gt_al]; omega)).2.2.2 (by omega), gr_al_ne _ _ _ (by omega)]
  refine x_putR cf5 7 123 dX5_init_120 rfl wd47 (nn := 11) (fun _ => (b6.ext en (Nat.le_refl _)).2.1) (by decide) (Or.inr ⟨rfl, rfl, rfl⟩) (Or.inl ⟨_, rfl⟩) (fun _ => sg) ?_
  have e8 : Ext x g6 (sr g7 x 7 (gt g6)) := en.then (Ext.sr x _ 7 (gt g6)) (Or.inl rfl)
  have t8 : gt (sr g7 x 7 (gt g6)) = gt g6 + 3 := q2
  have o8 : ProgO (sr g7 x 7 (gt g6)) (gt g6) := (Ext.sr x g7 7 (gt g6)).O3 o7 (by omega) (by omega)
  have f8 : gr (sr g7 x 7 (gt g6)) x = updN (gr g6 x) 7 (gt g6) := by rw [gr_sr, f7]
  have b8 := b6.ext e8 (Nat.le_refl _)
  have r8 := r6.ext e8 (by omega) (by omega)
  have p8 := p6.ext e8 (by omega) (by omega)
  have k8 := k6.ext e8 (by omega) (by omega)
  generalize sr g7 x 7 (gt g6) = g8 at *
  refine x_aload0 124 dX5_init_123 rfl ?_
  refine x_new cf6 127 hw dX5_init_124 rfl ⟨wd48, wd49, wd50⟩ (by omega) dv6 (by decide) (by decide) ?_
  refine x_dup 128 dX5_init_127 rfl rfl ?_
  refine x_callIN (host := "PalletWrapper") 131 (gt g8) [] [.ref (gt g8), .ref x] dX5_init_128 rfl lk_6_init rfl ⟨by decide +kernel, wd75⟩ rfl ⟨by decide, by decide⟩ rfl rfl (Nat.le_of_ble_eq_true rfl) (Nat.le_of_ble_eq_true rfl) (by decide) (by decide) ?_
  refine t6_init ?_
  have sg9 : gs (al g8 6 12) (gt g8) = some (6, 12) := gs_al g8 6 12
  refine x_putR cf5 8 134 dX5_init_131 rfl wd51 (nn := 11) (fun _ => (gs_al_ne _ _ _ (by omega)).trans b8.2.1) (by decide) (Or.inr ⟨rfl, rfl, rfl⟩) (Or.inl ⟨_, rfl⟩) (fun _ => sg9) ?_
  have e9 : Ext x g8 (sr (al g8 6 12) x 8 (gt g8)) := (Ext.al x g8 6 12).then (Ext.sr x _ 8 (gt g8)) (Or.inl rfl)
  have t9 : gt (sr (al g8 6 12) x 8 (gt g8)) = gt g8 + 1 := rfl
  have s9 : gs (sr (al g8 6 12) x 8 (gt g8)) (gt g8) = some (6, 12) := sg9
  have f9 : gr (sr (al g8 6 12) x 8 (gt g8)) x = updN (gr g8 x) 8 (gt g8) := by rw [gr_sr, gr_al_ne _ _ _ (by omega)]
  have b9 := b8.ext e9 (Nat.le_refl _)
  have r9 := r8.ext e9 (by omega) (by omega)
  have p9 := p8.ext e9 (by omega) (by omega)
  have k9 := k8.ext e9 (by omega) (by omega)
  have o9 := e9.O3 o8 (by omega) (by omega)
  generalize sr (al g8 6 12) x 8 (gt g8) = g9 at *
  refine x_aload0 135 dX5_init_134 rfl ?_
  refine x_bipush (nI 30) 137 dX5_init_135 rfl rfl ?_
  refine x_putI cf5 9 140 dX5_init_137 rfl wd52 (nn := 11) (fun _ => b9.2.1) (by decide) rfl rfl ?_
  refine x_aload0 141 dX5_init_140 rfl ?_
  refine x_iconst (nI 3) 142 dX5_init_141 rfl rfl ?_
  refine x_putI cf5 10 145 dX5_init_142 rfl wd53 (nn := 11) (fun _ => b9.2.1) (by decide) rfl rfl ?_
  refine x_vret dX5_init_145 rfl (by decide) (by decide) ?_
  simp (disch := omega) only [si_wi, sr_wr, sl_wl, gi_wi, gi_wi_ne, gr_wi, gs_wi, gl_wi, gi_wr, gr_wr, gr_wr_ne, gs_wr, gl_wr, gi_wl, gr_wl, gs_wl, gl_wl, gl_wl_ne, wi_wi, wr_wr, updN_eq, updN_ne, pk_mul, nI_add, nI_clamp, upd_eq, upd_ne]
  have gx : gi g9 x = fun _ => 0 := (b9.2.2.1 x (Nat.le_refl _) (by omega)).1
  have gr0 : gr g9 x 0 = x + 1 := by rw [f9, updN_ne _ _ (by omega), f8, updN_ne _ _ (by omega), f6, f5, updN_ne _ _ (by omega), f4, f3, updN_ne _ _ (by omega), f2, f1, updN_eq]; omega
  have gr2 : gr g9 x 2 = x + 20 := by rw [f9, updN_ne _ _ (by omega), f8, updN_ne _ _ (by omega), f6, f5, updN_ne _ _ (by omega), f4, f3, updN_eq]; omega
  have gr5 : gr g9 x 5 = x + 29 := by rw [f9, updN_ne _ _ (by omega), f8, updN_ne _ _ (by omega), f6, f5, updN_eq]; omega
  have gr7 : gr g9 x 7 = x + 48 := by rw [f9, updN_ne _ _ (by omega), f8, updN_eq]; omega
  have gr8 : gr g9 x 8 = x + 51 := by rw [f9, updN_eq]; omega
  have lay : LayS g9 x := by
    refine ⟨⟨b9.2.1, r9.1, p9.1, k9.1, by rw [show x + 51 = gt g8 from by omega]; exact s9, fun i hi => by rw [Nat.one_mul]; exact (p9.2 i hi).2⟩, ⟨gr0, gr2, gr5, gr7, gr8, by rw [show x + 48 = gt g6 from by omega]; exact o9, fun i hi => (r9.2 i hi).2, fun i hi => (k9.2 i hi).2⟩, ⟨fun i hi => ⟨i, hi, (r9.2 i hi).1⟩, fun i j h1 h2 => ?_⟩, ⟨fun i hi => ⟨i, hi, by rw [Nat.one_mul]; exact (p9.2 i hi).1⟩, fun i j h1 h2 => ?_⟩, ⟨fun i hi => ⟨i, hi, (k9.2 i hi).1⟩, fun i j h1 h2 => ?_⟩⟩
    · rw [(r9.2 i (by omega)).1, (r9.2 j h2).1]; omega
    · rw [(p9.2 i (by omega)).1, (p9.2 j h2).1]; omega
    · rw [(k9.2 i (by omega)).1, (k9.2 j h2).1]; omega
  refine hq _ (fun b hb => ?_) (by show gt g9 = _; omega) (LayS_gr lay rfl (fun _ _ _ => rfl)) (by rw [gi_wi, gx]) (fun b h1 h2 => ?_)
  · obtain ⟨a1, a2, a3, a4⟩ := b9.1 b hb
    exact ⟨a1, (gi_wi_ne _ _ _ (by omega)).trans a2, a3, a4⟩
  · obtain ⟨a1, a2⟩ := b9.2.2.1 b (by omega) (by omega)
    exact ⟨(gi_wi_ne _ _ _ (by omega)).trans a1, a2⟩

