/-! the law's start, in the judgement -/
theorem dv8 : ∀ j, j < 8 → defaultValue (tyX8 j) = (if kd 8 j = 0 then .int 0 else if kd 8 j = 1 then .null else .long 0) := fun j hj => by
  rcases (show j = 0 ∨ j = 1 ∨ j = 2 ∨ j = 3 ∨ j = 4 ∨ j = 5 ∨ j = 6 ∨ j = 7 by omega) with rfl | rfl | rfl | rfl | rfl | rfl | rfl | rfl <;> rfl
theorem dv9 : ∀ j, j < 17 → defaultValue (tyX9 j) = (if kd 9 j = 0 then .int 0 else if kd 9 j = 1 then .null else .long 0) := fun j hj => by
  rcases (show j = 0 ∨ j = 1 ∨ j = 2 ∨ j = 3 ∨ j = 4 ∨ j = 5 ∨ j = 6 ∨ j = 7 ∨ j = 8 ∨ j = 9 ∨ j = 10 ∨ j = 11 ∨ j = 12 ∨ j = 13 ∨ j = 14 ∨ j = 15 ∨ j = 16 by omega) with rfl | rfl | rfl | rfl | rfl | rfl | rfl | rfl | rfl | rfl | rfl | rfl | rfl | rfl | rfl | rfl | rfl <;> rfl
def PtE (n : Nat) (g g' : AH) : Prop := ∀ b, b < n → gs g' b = gs g b ∧ gi g' b = gi g b ∧ gr g' b = gr g b ∧ gl g' b = gl g b
theorem NewSt_pt {g g' : AH} {x n : Nat} (w : NewSt g x) (e : PtE n g g') (hn : x + 52 ≤ n) : NewSt g' x := by
  obtain ⟨l, ei, z⟩ := w
  refine ⟨LayS_pt l (fun b h1 h2 => ⟨(e b (by omega)).1, (e b (by omega)).2.2.1⟩), (e x (by omega)).2.1.trans ei, fun b h1 h2 => ?_⟩
  obtain ⟨_, a2, _, a4⟩ := e b (by omega)
  obtain ⟨c1, c2⟩ := z b h1 h2
  exact ⟨a2.trans c1, a4.trans c2⟩
theorem NewW_pt {g g' : AH} {B : Nat} (w : NewW g B) (e : PtE (B + 324) g g') : NewW g' B := by
  obtain ⟨⟨⟨s1, s2, s3, s4, s5, s6⟩, r, t, p, a, b, c, d⟩, n1, i0, i1, o, r1⟩ := w
  have er : ∀ q, q < B + 324 → gr g' q = gr g q := fun q hq => (e q hq).2.2.1
  have es : ∀ q, q < B + 324 → gs g' q = gs g q := fun q hq => (e q hq).1
  have ei : ∀ q, q < B + 324 → gi g' q = gi g q := fun q hq => (e q hq).2.1
  refine ⟨⟨⟨(es _ (by omega)).trans s1, (es _ (by omega)).trans s2, (es _ (by omega)).trans s3, (es _ (by omega)).trans s4, (es _ (by omega)).trans s5, (es _ (by omega)).trans s6⟩, by rw [er B (by omega)]; exact r, by rw [er (B + 314) (by omega)]; exact t, O3_pt p (fun b h1 h2 => ⟨es b (by omega), er b (by omega)⟩), LayS_pt a (fun b h1 h2 => ⟨es b (by omega), er b (by omega)⟩), LayS_pt b (fun b h1 h2 => ⟨es b (by omega), er b (by omega)⟩), fun j hj => LayS_pt (c j hj) (fun b h1 h2 => ⟨es b (by omega), er b (by omega)⟩), by rw [er (B + 105) (by omega)]; exact d⟩, NewSt_pt n1 e (by omega), (ei B (by omega)).trans i0, (ei (B + 314) (by omega)).trans i1, O3_pt o (fun b h1 h2 => ⟨es b (by omega), er b (by omega)⟩), by rw [er (B + 319) (by omega)]; exact r1⟩
theorem LI_0 {g : AH} {B : Nat} (n : NewW g B) (l : ML g (B + 324)) (a1 : gs g (B + 324 + 1) = some (10, 596)) (z0 : gi g (B + 324) = fun _ => 0) (z1 : gi g (B + 324 + 1) = upd (upd (fun _ => 0) 4 (nI 30)) 5 (nI 3)) (z : ∀ b, B + 324 + 2 ≤ b → b < B + 324 + 6 → gi g b = fun _ => 0) : LI B 0 g := by
  refine ⟨l, a1, fun j _ => ?_, 0, 0, by omega, ?_, ?_, ?_⟩
  · rw [z _ (by omega) (by omega)]
  · rw [z0]; rfl
  · rw [z0]; rfl
  · rw [z1, z (B + 324 + 2) (by omega) (by omega), z (B + 324 + 4) (by omega) (by omega)]
    exact CW_0 n
theorem law_start {ω : Om} (hw : ω.2.2.2.1 = false) {b0 Ln : Nat} {xs : Nat → Int32} (hl : Ln ≤ 3072) {h : AH} (h0 : 0 < gt h) (hs : ∀ b, b < gt h → gs h b = none) : EL ω b0 Ln xs 0 [some (.ref b0), none, none, none] [] h 0 0 := by
  refine e_new cf8 3 hw dL_law_0 rfl ⟨wd0, wd1, wd2⟩ h0 dv8 (by decide) (by decide) (e_dup 4 dL_law_3 rfl rfl ?_)
  refine e_callI 7 (gt h) [] [.ref (gt h)] dL_law_4 rfl lk_8_init rfl ⟨wd6, wd7⟩ rfl ⟨by decide, by decide⟩ rfl rfl (Nat.le_of_ble_eq_true rfl) (Nat.le_of_ble_eq_true rfl) (by decide) (by decide) ?_
  refine t8_init hw (gs_al h 8 8) h0 (gt_al h 8 8) (gi_al h 8 8) (fun g o1 t1 n1 => ?_)
  refine e_astore1 8 dL_law_7 rfl (by decide) rfl ?_
  refine e_new cf9 11 hw dL_law_8 rfl ⟨wd3, wd4, wd5⟩ (by omega) dv9 (by decide) (by decide) (e_dup 12 dL_law_11 rfl rfl ?_)
  refine e_callI 15 (gt g) [] [.ref (gt g)] dL_law_12 rfl lk_9_init rfl ⟨wd95, wd96⟩ rfl ⟨by decide, by decide⟩ rfl rfl (Nat.le_of_ble_eq_true rfl) (Nat.le_of_ble_eq_true rfl) (by decide) (by decide) ?_
  refine t9_init hw (gs_al g 9 17) (by omega) (gt_al g 9 17) (gi_al g 9 17) (fun f o2 t2 l a1 a2 a3 a4 a5 z0 z1 z => ?_)
  refine e_astore2 16 dL_law_15 rfl (by decide) rfl ?_
  refine e_iconst (nI (6 * 0)) 17 dL_law_16 rfl (by decide) (e_istore3 18 dL_law_17 rfl (by decide) rfl ?_)
  rw [t1] at l a1 a2 a3 a4 a5 z0 z1 z t2 o2
  have e12 : PtE (gt h + 324) g f := fun b hb => by
    obtain ⟨x1, x2, x3, x4⟩ := o2 b hb
    have ne : b ≠ gt g := by omega
    exact ⟨x1.trans (gs_al_ne _ _ _ ne), x2.trans (gi_al_ne _ _ _ ne), x3.trans (gr_al_ne _ _ _ ne), x4.trans (gl_al_ne _ _ _ ne)⟩
  have n2 : NewW f (gt h) := NewW_pt n1 e12
  rw [t1]
  refine e_phase (fun a ha => ?_) ?_
  · rcases Nat.lt_or_ge a (gt h) with c | c
    · intro t n q
      rw [(e12 a (by omega)).1, (o1 a c).1, gs_al_ne _ _ _ (by omega), hs a c] at q
      cases q
    · rcases Nat.lt_or_ge a (gt h + 324) with c2 | c2
      · exact RF_W n2 a c c2
      · exact RF_M l a1 a2 a3 a4 a5 a c2 (by omega)
  · exact law_loop rfl hl Ln 0 f (by omega) (by omega) (LI_0 n2 l a1 z0 z1 z)
