/-! the law's start, in the judgement -/
theorem dv8 : ∀ j, j < 8 → defaultValue (tyX8 j) = (if kd 8 j = 0 then .int 0 else if kd 8 j = 1 then .null else .long 0) := fun j hj => by
  rcases (show j = 0 ∨ j = 1 ∨ j = 2 ∨ j = 3 ∨ j = 4 ∨ j = 5 ∨ j = 6 ∨ j = 7 by omega) with rfl | rfl | rfl | rfl | rfl | rfl | rfl | rfl <;> rfl
/-- from behind the making of the objects -/
theorem law_first {ω : Om} (hw : ω.2.2.2.1 = true) {B t : Nat} {g : AH} (ht : t < B) (st : gs g t = some (10, 24)) (n1 : NewW g B) : Ex ω ML_law 12 [some (.ref (ω.2.2.2.2.1 7)), some (.ref t), none, none, none, none, none, none, none, none, none, none, none] [.ref B] g 325 4064 LQ := by
  have cw0 : CW g B N00 [] (fun _ => 0) 0 0 := CW_0 n1
  have p0 : parsT (fun _ => 0) 0 = (none, []) := if_pos rfl
  refine BL_law_12 hw cw0.o8 ?_
  refine t8_undo hw cw0 (fun _ => ?_) (fun H' N' e _ _ _ => by simp at e)
  refine BL_law_19 hw (fun z => absurd rfl z) (fun _ => ?_)
  refine BL_law_24 hw cw0.o8 ?_
  refine t8_fault hw cw0 (fun x _ e _ _ _ => by rw [p0] at e; cases e) (fun g1 _ f1 c1 => ?_)
  refine BL_law_28 hw (fun z => absurd rfl z) (fun _ => ?_)
  refine BL_law_33 hw c1.o8 ?_
  refine t8_load hw c1 (fun _ ne _ _ => absurd (by rw [p0]) ne) (fun g2 _ _ _ f2 c2 => ?_)
  rw [p0] at c2 ⊢
  refine BL_law_37 hw (fun z => absurd (show nI 0 = (0 : Int32) from by decide) z) (fun _ => ?_)
  have nr1 : ¬ okRoll (nI 99) (nI 1) := fun z => absurd z.1.1 (by decide)
  have nr2 : ¬ okRoll (nI 100) (nI 51) := fun z => absurd z.2.2 (by decide)
  refine BL_law_40 hw c2.o8 ?_
  refine t8_addRoll hw c2 (fun _ => ?_) (fun _ _ ok _ => absurd ok nr1) (fun _ _ ok _ _ _ _ => absurd ok nr1)
  refine BL_law_47 hw (fun z => absurd rfl z) (fun _ => ?_)
  refine BL_law_51 hw c2.o8 ?_
  refine t8_addRoll hw c2 (fun _ => ?_) (fun _ _ ok _ => absurd ok nr2) (fun _ _ ok _ _ _ _ => absurd ok nr2)
  refine BL_law_59 hw (fun z => absurd rfl z) (fun _ => ?_)
  refine BL_law_63 hw (BL_law_68 hw ?_)
  have ld : ∀ j, j ≠ 3 → j < 188 → loadN N00 [] j = N00 j := fun j a b => by
    unfold loadN
    rw [if_neg a, if_neg (by omega)]
  have z0 : ∀ j, j ≠ 4 → j ≠ 5 → N00 j = 0 := fun j a b => (upd_ne _ _ b).trans (upd_ne _ _ a)
  have zI : (0 : Int32) = nI 0 := by decide
  refine law_loop hw ht 10 0 0 g2 (nI 0) (by omega) (by rw [f2.1, f1.1]; exact st) ⟨loadN N00 [], _, _, _, c2, ?_, ?_, by omega, ?_⟩
  · rw [ld 1 (by omega) (by omega), z0 1 (by omega) (by omega)]; exact zI
  · rw [ld 0 (by omega) (by omega), z0 0 (by omega) (by omega)]; exact zI
  · rw [ld 8 (by omega) (by omega), z0 8 (by omega) (by omega)]
    show (0 : Int32) + 0 = nI 0
    decide
theorem law_start {ω : Om} (hw : ω.2.2.2.1 = false) {h : AH} (h0 : 0 < gt h) (hs : ∀ b, b < gt h → gs h b = none) : Ex ω ML_law 0 [some (.ref (ω.2.2.2.2.1 7)), none, none, none, none, none, none, none, none, none, none, none, none] [] h 0 0 LQ := by
  refine x_bipush (nI 24) 2 dL_law_0 rfl rfl ?_
  refine x_newI (N := 24) 4 hw dL_law_2 rfl h0 rfl (by omega) (by decide) (by decide) ?_
  refine x_astore1 5 dL_law_4 rfl (by decide) rfl ?_
  refine x_new cf8 8 hw dL_law_5 rfl ⟨wd1, wd2, wd3⟩ (by rw [gt_al]; omega) dv8 (by decide) (by decide) ?_
  refine x_dup 9 dL_law_8 rfl rfl ?_
  refine x_callI 12 (gt (al h 10 24)) [] [.ref (gt (al h 10 24))] dL_law_9 rfl lk_8_init rfl ⟨wd4, wd5⟩ rfl ⟨by decide, by decide⟩ rfl rfl (Nat.le_of_ble_eq_true rfl) (Nat.le_of_ble_eq_true rfl) (by decide) (by decide) ?_
  refine t8_init hw (gs_al (al h 10 24) 8 8) (by rw [gt_al]; omega) (gt_al (al h 10 24) 8 8) (gi_al (al h 10 24) 8 8) (fun g o1 t1 n1 => ?_)
  have tg : gs g (gt h) = some (10, 24) := (o1 (gt h) (by rw [gt_al]; omega)).1.trans ((gs_al_ne (al h 10 24) 8 8 (by rw [gt_al]; omega)).trans (gs_al h 10 24))
  refine x_phase (fun a ha => ?_) ?_
  · rw [t1] at ha
    rcases Nat.lt_or_ge a (gt h) with c | c
    · intro t n q
      rw [(o1 a (by rw [gt_al]; omega)).1, gs_al_ne (al h 10 24) 8 8 (by rw [gt_al]; omega), gs_al_ne h 10 24 (by omega), hs a c] at q
      cases q
    · rcases Nat.lt_or_ge (gt h) a with c2 | c2
      · exact RF_W n1 a (by rw [gt_al]; omega) ha
      · have e : a = gt h := by omega
        subst e
        exact RF_10 tg
  · exact law_first (ω := (ω.1, ω.2.1, ω.2.2.1, true, ω.2.2.2.2)) rfl (t := gt h) (B := gt (al h 10 24)) (by rw [gt_al]; omega) tg n1
