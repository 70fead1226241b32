/-! the constructors of the small classes -/
theorem x_room {ω : Om} {μ : MR} {pc : Nat} {L : List (Option Value)} {st : List Value} {h : AH} {k n k' n' : Nat} {Q : Option Value → AH → Prop} (hk : k ≤ k') (hn : n ≤ n') (kk : Ex ω μ pc L st h k' n' Q) : Ex ω μ pc L st h k n Q := by
  intro p l e s m args below meth c H locs ls C hH hS hL
  exact W.widen hk hn (kk p l e s m args below meth c H locs ls C hH hS hL)
/-- new cells, all zero; of the old ones only the references of a changed -/
def Ext (a : Nat) (g g' : AH) : Prop := gt g ≤ gt g' ∧ (∀ b, b < gt g → gs g' b = gs g b ∧ gi g' b = gi g b ∧ gl g' b = gl g b ∧ (b ≠ a → gr g' b = gr g b)) ∧ ∀ b, gt g ≤ b → b < gt g' → gi g' b = (fun _ => 0) ∧ gl g' b = fun _ => 0
theorem Ext.refl (a : Nat) (g : AH) : Ext a g g := ⟨Nat.le_refl _, fun _ _ => ⟨rfl, rfl, rfl, fun _ => rfl⟩, fun b h1 h2 => by omega⟩
theorem Ext.then {a y : Nat} {g1 g2 g3 : AH} (p : Ext a g1 g2) (q : Ext y g2 g3) (hy : y = a ∨ gt g1 ≤ y) : Ext a g1 g3 := by
  refine ⟨Nat.le_trans p.1 q.1, fun b hb => ?_, fun b h1 h2 => ?_⟩
  · obtain ⟨a1, a2, a3, a4⟩ := p.2.1 b hb
    obtain ⟨b1, b2, b3, b4⟩ := q.2.1 b (Nat.lt_of_lt_of_le hb p.1)
    exact ⟨b1.trans a1, b2.trans a2, b3.trans a3, fun ne => (b4 (by omega)).trans (a4 ne)⟩
  · by_cases z : b < gt g2
    · obtain ⟨b1, b2, b3, b4⟩ := q.2.1 b z
      obtain ⟨c1, c2⟩ := p.2.2 b h1 z
      exact ⟨b2.trans c1, b3.trans c2⟩
    · exact q.2.2 b (by omega) h2
theorem Ext.al (a : Nat) (g : AH) (t N : Nat) : Ext a g (al g t N) := by
  refine ⟨by rw [gt_al]; omega, fun b hb => ?_, fun b h1 h2 => ?_⟩
  · have z : b ≠ gt g := by omega
    exact ⟨gs_al_ne _ _ _ z, gi_al_ne _ _ _ z, gl_al_ne _ _ _ z, fun _ => gr_al_ne _ _ _ z⟩
  · rw [gt_al] at h2
    obtain rfl : b = gt g := by omega
    exact ⟨gi_al _ _ _, gl_al _ _ _⟩
theorem Ext.sr (a : Nat) (g : AH) (f v : Nat) : Ext a g (sr g a f v) := ⟨Nat.le_refl _, fun b _ => ⟨rfl, rfl, rfl, fun ne => by rw [sr_wr]; exact gr_wr_ne _ _ _ ne⟩, fun b h1 h2 => absurd h1 (by have : b < gt g := h2; omega)⟩
theorem gr_sr (g : AH) (a f v : Nat) : gr (sr g a f v) a = updN (gr g a) f v := by rw [sr_wr, gr_wr]
theorem Ext.O3 {a : Nat} {g g' : AH} (p : Ext a g g') {t n r i j y : Nat} (o : O3 g t n r i j y) (hy : y + 2 < gt g) (ne : y ≠ a) : O3 g' t n r i j y := by
  obtain ⟨o1, o2, o3, o4, o5⟩ := o
  have e := (p.2.1 y (by omega)).2.2.2 ne
  exact ⟨(p.2.1 y (by omega)).1.trans o1, (p.2.1 _ (by omega)).1.trans o2, (p.2.1 _ (by omega)).1.trans o3, by rw [e]; exact o4, by rw [e]; exact o5⟩
/-- an object and its two rows -/
theorem N3_ok {h : AH} {a i j r : Nat} (ha : a < gt h) (hij : i ≠ j) : let g := sr (al (sr (al h 10 r) a i (gt h)) 10 r) a j (gt h + 1); Ext a h g ∧ gt g = gt h + 2 ∧ gs g (gt h) = some (10, r) ∧ gs g (gt h + 1) = some (10, r) ∧ gr g a i = gt h ∧ gr g a j = gt h + 1 := by
  have e1 : gt (sr (al h 10 r) a i (gt h)) = gt h + 1 := rfl
  refine ⟨((((Ext.al a h 10 r).then (Ext.sr a _ i (gt h)) (Or.inl rfl)).then (Ext.al a _ 10 r) (Or.inl rfl)).then (Ext.sr a _ j (gt h + 1)) (Or.inl rfl)), rfl, ?_, ?_, ?_, ?_⟩
  · show gs (al (sr (al h 10 r) a i (gt h)) 10 r) (gt h) = _
    rw [gs_al_ne _ _ _ (by rw [e1]; omega)]
    exact gs_al _ _ _
  · show gs (al (sr (al h 10 r) a i (gt h)) 10 r) (gt h + 1) = _
    exact gs_al (sr (al h 10 r) a i (gt h)) 10 r
  · rw [gr_sr, updN_ne _ _ hij, gr_al_ne _ _ _ (by rw [e1]; omega), gr_sr, updN_eq]
  · rw [gr_sr, updN_eq]
theorem t1_init {ω : Om} {h : AH} {Q : Option Value → AH → Prop} {a : Nat} (hq : Q none h) : Ex ω M1_init 0 [some (.ref a)] [] h 0 0 Q := by
  refine x_aload0 1 dX1_init_0 rfl ?_
  refine x_objInit 4 dX1_init_1 rfl wd62 (by decide) (by decide) ?_
  exact x_vret dX1_init_4 rfl (Nat.zero_le _) (Nat.zero_le _) hq
theorem t6_init {ω : Om} {h : AH} {Q : Option Value → AH → Prop} {a : Nat} (hq : Q none h) : Ex ω M6_init 0 [some (.ref a)] [] h 0 0 Q := by
  refine x_aload0 1 dX6_init_0 rfl ?_
  refine x_objInit 4 dX6_init_1 rfl wd77 (by decide) (by decide) ?_
  exact x_vret dX6_init_4 rfl (Nat.zero_le _) (Nat.zero_le _) hq
theorem t4_init {ω : Om} {h : AH} {Q : Option Value → AH → Prop} (hw : ω.2.2.2.1 = false) {a : Nat} (s : gs h a = some (4, 6)) (h0 : 0 < gt h) (ha : a < gt h) (hq : ∀ g : AH, Ext a h g → gt g = gt h + 2 → gs g (gt h) = some (10, 8) → gs g (gt h + 1) = some (10, 8) → gr g a 4 = gt h → gr g a 5 = gt h + 1 → Q none g) : Ex ω M4_init 0 [some (.ref a)] [] h 0 0 Q := by
  obtain ⟨q1, q2, q3, q4, q5, q6⟩ := N3_ok (r := 8) ha (show 4 ≠ 5 by decide)
  refine x_aload0 1 dX4_init_0 rfl ?_
  refine x_objInit 4 dX4_init_1 rfl wd57 (by decide) (by decide) ?_
  refine x_aload0 5 dX4_init_4 rfl ?_
  refine x_bipush 8 7 dX4_init_5 rfl rfl ?_
  refine x_newI (N := 8) 9 hw dX4_init_7 rfl h0 rfl (by decide) (by decide) (by decide) ?_
  refine x_putR cf4 4 12 dX4_init_9 rfl wd58 (nn := 6) (fun _ => (gs_al_ne _ _ _ (by omega)).trans s) (by decide) (Or.inr ⟨rfl, rfl, rfl⟩) (Or.inr ⟨_, rfl⟩) (fun _ => gs_al _ _ _) ?_
  refine x_aload0 13 dX4_init_12 rfl ?_
  refine x_bipush 8 15 dX4_init_13 rfl rfl ?_
  refine x_newI (N := 8) 17 hw dX4_init_15 rfl (Nat.lt_succ_of_lt h0) rfl (by decide) (by decide) (by decide) ?_
  refine x_putR cf4 5 20 dX4_init_17 rfl wd59 (nn := 6) (fun _ => (gs_al_ne _ _ _ (by show a ≠ gt h + 1; omega)).trans ((gs_al_ne _ _ _ (by omega)).trans s)) (by decide) (Or.inr ⟨rfl, rfl, rfl⟩) (Or.inr ⟨_, rfl⟩) (fun _ => gs_al _ _ _) ?_
  exact x_vret dX4_init_20 rfl (by decide) (by decide) (hq _ q1 q2 q3 q4 q5 q6)
theorem t3_init {ω : Om} {h : AH} {Q : Option Value → AH → Prop} (hw : ω.2.2.2.1 = false) {a : Nat} (s : gs h a = some (3, 15)) (h0 : 0 < gt h) (ha : a < gt h) (hq : ∀ g : AH, Ext a h g → gt g = gt h + 2 → gs g (gt h) = some (10, 25) → gs g (gt h + 1) = some (10, 25) → gr g a 13 = gt h → gr g a 14 = gt h + 1 → Q none g) : Ex ω M3_init 0 [some (.ref a)] [] h 0 0 Q := by
  obtain ⟨q1, q2, q3, q4, q5, q6⟩ := N3_ok (r := 25) ha (show 13 ≠ 14 by decide)
  refine x_aload0 1 dX3_init_0 rfl ?_
  refine x_objInit 4 dX3_init_1 rfl wd66 (by decide) (by decide) ?_
  refine x_aload0 5 dX3_init_4 rfl ?_
  refine x_bipush 25 7 dX3_init_5 rfl rfl ?_
  refine x_newI (N := 25) 9 hw dX3_init_7 rfl h0 rfl (by decide) (by decide) (by decide) ?_
  refine x_putR cf3 13 12 dX3_init_9 rfl wd67 (nn := 15) (fun _ => (gs_al_ne _ _ _ (by omega)).trans s) (by decide) (Or.inr ⟨rfl, rfl, rfl⟩) (Or.inr ⟨_, rfl⟩) (fun _ => gs_al _ _ _) ?_
  refine x_aload0 13 dX3_init_12 rfl ?_
  refine x_bipush 25 15 dX3_init_13 rfl rfl ?_
  refine x_newI (N := 25) 17 hw dX3_init_15 rfl (Nat.lt_succ_of_lt h0) rfl (by decide) (by decide) (by decide) ?_
  refine x_putR cf3 14 20 dX3_init_17 rfl wd68 (nn := 15) (fun _ => (gs_al_ne _ _ _ (by show a ≠ gt h + 1; omega)).trans ((gs_al_ne _ _ _ (by omega)).trans s)) (by decide) (Or.inr ⟨rfl, rfl, rfl⟩) (Or.inr ⟨_, rfl⟩) (fun _ => gs_al _ _ _) ?_
  exact x_vret dX3_init_20 rfl (by decide) (by decide) (hq _ q1 q2 q3 q4 q5 q6)
theorem t2_init {ω : Om} {h : AH} {Q : Option Value → AH → Prop} (hw : ω.2.2.2.1 = false) {a : Nat} (s : gs h a = some (2, 3)) (h0 : 0 < gt h) (ha : a < gt h) (hq : ∀ g : AH, Ext a h g → gt g = gt h + 2 → gs g (gt h) = some (10, 12) → gs g (gt h + 1) = some (10, 12) → gr g a 1 = gt h → gr g a 2 = gt h + 1 → Q none g) : Ex ω M2_init 0 [some (.ref a)] [] h 0 0 Q := by
  obtain ⟨q1, q2, q3, q4, q5, q6⟩ := N3_ok (r := 12) ha (show 1 ≠ 2 by decide)
  refine x_aload0 1 dX2_init_0 rfl ?_
  refine x_objInit 4 dX2_init_1 rfl wd72 (by decide) (by decide) ?_
  refine x_aload0 5 dX2_init_4 rfl ?_
  refine x_bipush 12 7 dX2_init_5 rfl rfl ?_
  refine x_newI (N := 12) 9 hw dX2_init_7 rfl h0 rfl (by decide) (by decide) (by decide) ?_
  refine x_putR cf2 1 12 dX2_init_9 rfl wd73 (nn := 3) (fun _ => (gs_al_ne _ _ _ (by omega)).trans s) (by decide) (Or.inr ⟨rfl, rfl, rfl⟩) (Or.inr ⟨_, rfl⟩) (fun _ => gs_al _ _ _) ?_
  refine x_aload0 13 dX2_init_12 rfl ?_
  refine x_bipush 12 15 dX2_init_13 rfl rfl ?_
  refine x_newI (N := 12) 17 hw dX2_init_15 rfl (Nat.lt_succ_of_lt h0) rfl (by decide) (by decide) (by decide) ?_
  refine x_putR cf2 2 20 dX2_init_17 rfl wd74 (nn := 3) (fun _ => (gs_al_ne _ _ _ (by show a ≠ gt h + 1; omega)).trans ((gs_al_ne _ _ _ (by omega)).trans s)) (by decide) (Or.inr ⟨rfl, rfl, rfl⟩) (Or.inr ⟨_, rfl⟩) (fun _ => gs_al _ _ _) ?_
  exact x_vret dX2_init_20 rfl (by decide) (by decide) (hq _ q1 q2 q3 q4 q5 q6)
/-- Text: its row of signs -/
theorem t7_init {ω : Om} {h : AH} {Q : Option Value → AH → Prop} (hw : ω.2.2.2.1 = false) {a : Nat} (s : gs h a = some (7, 2)) (h0 : 0 < gt h) (ha : a < gt h) (hq : ∀ g : AH, Ext a h g → gt g = gt h + 1 → gs g (gt h) = some (11, 100) → gr g a 0 = gt h → Q none g) : Ex ω M7_init 0 [some (.ref a)] [] h 0 0 Q := by
  refine x_aload0 1 dX7_init_0 rfl ?_
  refine x_objInit 4 dX7_init_1 rfl wd81 (by decide) (by decide) ?_
  refine x_aload0 5 dX7_init_4 rfl ?_
  refine x_bipush 100 7 dX7_init_5 rfl rfl ?_
  refine x_newC (N := 100) 9 hw dX7_init_7 rfl h0 rfl (by decide) (by decide) (by decide) ?_
  refine x_putR cf7 0 12 dX7_init_9 rfl wd83 (nn := 2) (fun _ => (gs_al_ne _ _ _ (by omega)).trans s) (by decide) (Or.inr ⟨rfl, rfl, rfl⟩) (Or.inr ⟨_, rfl⟩) (fun _ => gs_al _ _ _) ?_
  exact x_vret dX7_init_12 rfl (by decide) (by decide) (hq _ ((Ext.al a h 11 100).then (Ext.sr a _ 0 (gt h)) (Or.inl rfl)) rfl (gs_al h 11 100) (by rw [gr_sr, updN_eq]))
theorem dv2 : ∀ j, j < 3 → defaultValue (tyX2 j) = (if kd 2 j = 0 then .int 0 else if kd 2 j = 1 then .null else .long 0) := fun j hj => by
  rcases (show j = 0 ∨ j = 1 ∨ j = 2 by omega) with rfl | rfl | rfl <;> rfl
/-- Course: its first program -/
theorem t0_init {ω : Om} {h : AH} {Q : Option Value → AH → Prop} (hw : ω.2.2.2.1 = false) {a : Nat} (s : gs h a = some (0, 7)) (h0 : 0 < gt h) (ha : a < gt h) (hq : ∀ g : AH, Ext a h g → gt g = gt h + 3 → O3 g 2 3 12 1 2 (gt h) → gr g a 0 = gt h → Q none g) : Ex ω M0_init 0 [some (.ref a)] [] h 0 0 Q := by
  refine x_aload0 1 dX0_init_0 rfl ?_
  refine x_objInit 4 dX0_init_1 rfl wd88 (by decide) (by decide) ?_
  refine x_aload0 5 dX0_init_4 rfl ?_
  refine x_new cf2 8 hw dX0_init_5 rfl ⟨wd89, wd22, wd23⟩ h0 dv2 (by decide) (by decide) ?_
  refine x_dup 9 dX0_init_8 rfl rfl ?_
  refine x_callI 12 (gt h) [] [.ref (gt h), .ref a] dX0_init_9 rfl lk_2_init rfl ⟨wd91, wd70⟩ rfl ⟨by decide, by decide⟩ rfl rfl (Nat.le_of_ble_eq_true rfl) (Nat.le_of_ble_eq_true rfl) (by decide) (by decide) ?_
  refine t2_init hw (gs_al h 2 3) (Nat.lt_succ_of_lt h0) (Nat.lt_succ_self _) (fun g e1 e2 e3 e4 e5 e6 => ?_)
  have sa : gs g a = some (0, 7) := ((e1.2.1 a (by rw [gt_al]; omega)).1).trans ((gs_al_ne _ _ _ (by omega)).trans s)
  have sg : gs g (gt h) = some (2, 3) := ((e1.2.1 (gt h) (by rw [gt_al]; omega)).1).trans (gs_al h 2 3)
  refine x_putR cf0 0 15 dX0_init_12 rfl wd90 (nn := 7) (fun _ => sa) (by decide) (Or.inl rfl) (Or.inl ⟨_, rfl⟩) (fun _ => sg) ?_
  have en : Ext a h g := (Ext.al a h 2 3).then e1 (Or.inr (Nat.le_refl _))
  have e2 : gt g = gt h + 3 := e2
  have o : O3 g 2 3 12 1 2 (gt h) := ⟨sg, e3, e4, e5, e6⟩
  refine x_vret dX0_init_15 rfl (by decide) (by decide) (hq _ (en.then (Ext.sr a g 0 (gt h)) (Or.inl rfl)) e2 ((Ext.sr a g 0 (gt h)).O3 o (by omega) (by omega)) (by rw [gr_sr, updN_eq]))

