/-! block laws (written by a program: wip/p29/gen_all.py) -/
set_option maxRecDepth 20000 in
theorem B0_begin_0 {ω : Om} {h : AH} {Q : Option Value → AH → Prop} {x0 : Nat} {x1 : Nat} {x2 : Int32} (hw : ω.2.2.2.1 = true) (s_x0 : gs h x0 = some (0, 7)) (s_x1 : gs h x1 = some (2, 3)) (hq : Q none (si (si (si (si (si (si (sr h x0 0 x1) x0 1 x2) x0 2 (nI 0)) x0 3 (nI 0)) x0 4 (nI 0)) x0 5 (nI 40)) x0 6 (nI 100))) : Ex ω M0_begin 0 [some (.ref x0), some (.ref x1), some (.int x2)] [] h 0 0 Q := by
  refine x_aload0 1 dX0_begin_0 rfl ?_
  refine x_aload1 2 dX0_begin_1 rfl ?_
  refine x_putR cf0 0 5 dX0_begin_2 rfl wd90 (fun _ => s_x0) (by decide) (Or.inl rfl) (by first | exact Or.inl ⟨_, rfl⟩ | exact Or.inr ⟨_, rfl⟩) (fun _ => s_x1) ?_
  refine x_aload0 6 dX0_begin_5 rfl ?_
  refine x_iload2 7 dX0_begin_6 rfl ?_
  refine x_putI cf0 1 10 dX0_begin_7 rfl wd463 (fun _ => s_x0) (by decide) rfl rfl ?_
  refine x_aload0 11 dX0_begin_10 rfl ?_
  refine x_iconst (nI 0) 12 dX0_begin_11 rfl rfl ?_
  refine x_putI cf0 2 15 dX0_begin_12 rfl wd464 (fun _ => s_x0) (by decide) rfl rfl ?_
  refine x_aload0 16 dX0_begin_15 rfl ?_
  refine x_iconst (nI 0) 17 dX0_begin_16 rfl rfl ?_
  refine x_putI cf0 3 20 dX0_begin_17 rfl wd465 (fun _ => s_x0) (by decide) rfl rfl ?_
  refine x_aload0 21 dX0_begin_20 rfl ?_
  refine x_iconst (nI 0) 22 dX0_begin_21 rfl rfl ?_
  refine x_putI cf0 4 25 dX0_begin_22 rfl wd466 (fun _ => s_x0) (by decide) rfl rfl ?_
  refine x_aload0 26 dX0_begin_25 rfl ?_
  refine x_bipush (nI 40) 28 dX0_begin_26 rfl rfl ?_
  refine x_putI cf0 5 31 dX0_begin_28 rfl wd467 (fun _ => s_x0) (by decide) rfl rfl ?_
  refine x_aload0 32 dX0_begin_31 rfl ?_
  refine x_bipush (nI 100) 34 dX0_begin_32 rfl rfl ?_
  refine x_putI cf0 6 37 dX0_begin_34 rfl wd468 (fun _ => s_x0) (by decide) rfl rfl ?_
  exact x_vret dX0_begin_37 rfl (Nat.zero_le _) (Nat.zero_le _) hq
set_option maxRecDepth 20000 in
theorem B0_advance_0 {ω : Om} {h : AH} {Q : Option Value → AH → Prop} {x0 : Nat} (hw : ω.2.2.2.1 = true) (s_x0 : gs h x0 = some (0, 7)) (kt : (gi h (gr h x0 0) 0) ≤ (gi h x0 2) → Ex ω M0_advance 65 [some (.ref x0)] [] h 0 0 Q) (kf : ¬ (gi h (gr h x0 0) 0) ≤ (gi h x0 2) → Ex ω M0_advance 14 [some (.ref x0)] [] h 0 0 Q) : Ex ω M0_advance 0 [some (.ref x0)] [] h 0 0 Q := by
  refine x_aload0 1 dX0_advance_0 rfl ?_
  refine x_getI cf0 2 4 dX0_advance_1 rfl wd464 (fun _ => s_x0) (by decide) rfl ?_
  refine x_aload0 5 dX0_advance_4 rfl ?_
  refine x_getR cf0 0 8 hw dX0_advance_5 rfl wd90 (fun _ => s_x0) (by decide) (by decide) rfl ?_
  refine x_getI cf2 0 11 dX0_advance_8 rfl wd473 (SH.fld hw (fun _ => s_x0) 0 (Nat.le_of_ble_eq_true rfl) rfl rfl) (by decide) rfl ?_
  exact x_icmp_ge 14 65 dX0_advance_11 rfl (by decide) kt kf
set_option maxRecDepth 20000 in
theorem B0_advance_14 {ω : Om} {h : AH} {Q : Option Value → AH → Prop} {x0 : Nat} (hw : ω.2.2.2.1 = true) (s_x0 : gs h x0 = some (0, 7)) (i1 : vp_in (gi h x0 2) 12) (i2 : vp_in (gi h x0 2) 12) (kk : Ex ω M0_takesTurn 0 [some (.ref x0), some (.int (gi h (gr h (gr h x0 0) 1) (Int32.toNatClampNeg (gi h x0 2)))), some (.int (gi h (gr h (gr h x0 0) 2) (Int32.toNatClampNeg (gi h x0 2))))] [] h 0 0 (fun v h' => Ex ω M0_advance 42 [some (.ref x0)] (v.toList ++ []) h' 0 0 Q)) : Ex ω M0_advance 14 [some (.ref x0)] [] h 0 0 Q := by
  refine x_aload0 15 dX0_advance_14 rfl ?_
  refine x_aload0 16 dX0_advance_15 rfl ?_
  refine x_getR cf0 0 19 hw dX0_advance_16 rfl wd90 (fun _ => s_x0) (by decide) (by decide) rfl ?_
  refine x_getR cf2 1 22 hw dX0_advance_19 rfl wd474 (SH.fld hw (fun _ => s_x0) 0 (Nat.le_of_ble_eq_true rfl) rfl rfl) (by decide) (by decide) rfl ?_
  refine x_aload0 23 dX0_advance_22 rfl ?_
  refine x_getI cf0 2 26 dX0_advance_23 rfl wd464 (fun _ => s_x0) (by decide) rfl ?_
  refine x_iald (Int32.toNatClampNeg (gi h x0 2)) 27 dX0_advance_26 rfl (SH.fld hw (SH.fld hw (fun _ => s_x0) 0 (Nat.le_of_ble_eq_true rfl) rfl rfl) 1 (Nat.le_of_ble_eq_true rfl) rfl rfl) i1 rfl ?_
  refine x_aload0 28 dX0_advance_27 rfl ?_
  refine x_getR cf0 0 31 hw dX0_advance_28 rfl wd90 (fun _ => s_x0) (by decide) (by decide) rfl ?_
  refine x_getR cf2 2 34 hw dX0_advance_31 rfl wd475 (SH.fld hw (fun _ => s_x0) 0 (Nat.le_of_ble_eq_true rfl) rfl rfl) (by decide) (by decide) rfl ?_
  refine x_aload0 35 dX0_advance_34 rfl ?_
  refine x_getI cf0 2 38 dX0_advance_35 rfl wd464 (fun _ => s_x0) (by decide) rfl ?_
  refine x_iald (Int32.toNatClampNeg (gi h x0 2)) 39 dX0_advance_38 rfl (SH.fld hw (SH.fld hw (fun _ => s_x0) 0 (Nat.le_of_ble_eq_true rfl) rfl rfl) 2 (Nat.le_of_ble_eq_true rfl) rfl rfl) i2 rfl ?_
  exact x_callV 42 x0 [.int (gi h (gr h (gr h x0 0) 1) (Int32.toNatClampNeg (gi h x0 2))), .int (gi h (gr h (gr h x0 0) 2) (Int32.toNatClampNeg (gi h x0 2)))] [] dX0_advance_39 rfl lk_0_takesTurn ⟨wd476, wd477, wd478⟩ ⟨by decide, by decide⟩ (recvO cf0 (fun _ => s_x0)) rfl rfl (Nat.le_of_ble_eq_true rfl) (Nat.le_of_ble_eq_true rfl) (by decide) (by decide) kk
set_option maxRecDepth 20000 in
theorem B0_advance_42 {ω : Om} {h : AH} {Q : Option Value → AH → Prop} {x0 : Nat} {y0 : Int32} (hw : ω.2.2.2.1 = true) (kt : y0 = 0 → Ex ω M0_advance 47 [some (.ref x0)] [] h 0 0 Q) (kf : ¬ y0 = 0 → Ex ω M0_advance 45 [some (.ref x0)] [] h 0 0 Q) : Ex ω M0_advance 42 [some (.ref x0)] [.int y0] h 0 0 Q := by
  exact x_if_eq 45 47 dX0_advance_42 rfl (by decide) kt kf
set_option maxRecDepth 20000 in
theorem B0_advance_45 {ω : Om} {h : AH} {Q : Option Value → AH → Prop} {u0 : Option Value} (hw : ω.2.2.2.1 = true) (hq : Q (some (.int (nI 1))) h) : Ex ω M0_advance 45 [u0] [] h 0 0 Q := by
  refine x_dr0 ?_
  refine x_iconst (nI 1) 46 dX0_advance_45 rfl rfl ?_
  exact x_zret dX0_advance_46 rfl rfl (Nat.zero_le _) (Nat.zero_le _) hq
set_option maxRecDepth 20000 in
theorem B0_advance_47 {ω : Om} {h : AH} {Q : Option Value → AH → Prop} {x0 : Nat} (hw : ω.2.2.2.1 = true) (s_x0 : gs h x0 = some (0, 7)) (kt : Ex ω M0_advance 0 [some (.ref x0)] [] (si (si h x0 2 ((gi h x0 2) + (nI 1))) x0 3 (nI 0)) 0 0 Q) : Ex ω M0_advance 47 [some (.ref x0)] [] h 0 0 Q := by
  refine x_aload0 48 dX0_advance_47 rfl ?_
  refine x_dup 49 dX0_advance_48 rfl rfl ?_
  refine x_getI cf0 2 52 dX0_advance_49 rfl wd464 (fun _ => s_x0) (by decide) rfl ?_
  refine x_iconst (nI 1) 53 dX0_advance_52 rfl rfl ?_
  refine x_iadd 54 dX0_advance_53 rfl ?_
  refine x_putI cf0 2 57 dX0_advance_54 rfl wd464 (fun _ => s_x0) (by decide) rfl rfl ?_
  refine x_aload0 58 dX0_advance_57 rfl ?_
  refine x_iconst (nI 0) 59 dX0_advance_58 rfl rfl ?_
  refine x_putI cf0 3 62 dX0_advance_59 rfl wd465 (fun _ => s_x0) (by decide) rfl rfl ?_
  exact x_goto 0 dX0_advance_62 (by decide) kt
set_option maxRecDepth 20000 in
theorem B0_advance_65 {ω : Om} {h : AH} {Q : Option Value → AH → Prop} {u0 : Option Value} (hw : ω.2.2.2.1 = true) (hq : Q (some (.int (nI 0))) h) : Ex ω M0_advance 65 [u0] [] h 0 0 Q := by
  refine x_dr0 ?_
  refine x_iconst (nI 0) 66 dX0_advance_65 rfl rfl ?_
  exact x_zret dX0_advance_66 rfl rfl (Nat.zero_le _) (Nat.zero_le _) hq
set_option maxRecDepth 20000 in
theorem B0_takesTurn_0 {ω : Om} {h : AH} {Q : Option Value → AH → Prop} {x0 : Nat} {x1 : Int32} {x2 : Int32} (hw : ω.2.2.2.1 = true) (c0 : x1 = nI 0 → Ex ω M0_takesTurn 32 [some (.ref x0), some (.int x1), some (.int x2)] [] h 0 0 Q) (c1 : x1 = nI 1 → Ex ω M0_takesTurn 56 [some (.ref x0), some (.int x1), some (.int x2)] [] h 0 0 Q) (c2 : x1 = nI 2 → Ex ω M0_takesTurn 88 [some (.ref x0), some (.int x1), some (.int x2)] [] h 0 0 Q) (c3 : x1 = nI 3 → Ex ω M0_takesTurn 113 [some (.ref x0), some (.int x1), some (.int x2)] [] h 0 0 Q) (cd : (¬ (0 ≤ x1 ∧ x1 ≤ nI 3)) → Ex ω M0_takesTurn 120 [some (.ref x0), some (.int x1), some (.int x2)] [] h 0 0 Q) : Ex ω M0_takesTurn 0 [some (.ref x0), some (.int x1), some (.int x2)] [] h 0 0 Q := by
  refine x_iload1 1 dX0_takesTurn_0 rfl ?_
  refine x_tsw 3 [32, 56, 88, 113] 120 dX0_takesTurn_1 (by decide) (by decide) (by decide) (by decide) (by decide) cd (fun j hj e => ?_)
  match j, hj with
  | 0, _ => exact c0 e
  | 1, _ => exact c1 e
  | 2, _ => exact c2 e
  | 3, _ => exact c3 e
  | j + 4, hj => exact absurd hj (by simp)
set_option maxRecDepth 20000 in
theorem B0_takesTurn_32 {ω : Om} {h : AH} {Q : Option Value → AH → Prop} {x0 : Nat} {u1 : Option Value} {x2 : Int32} (hw : ω.2.2.2.1 = true) (s_x0 : gs h x0 = some (0, 7)) (kt : x2 < (gi (si h x0 3 ((gi h x0 3) + (nI 1))) x0 3) → Ex ω M0_takesTurn 54 [some (.ref x0), none, some (.int x2)] [] (si h x0 3 ((gi h x0 3) + (nI 1))) 0 0 Q) (kf : ¬ x2 < (gi (si h x0 3 ((gi h x0 3) + (nI 1))) x0 3) → Ex ω M0_takesTurn 50 [some (.ref x0), none, some (.int x2)] [] (si h x0 3 ((gi h x0 3) + (nI 1))) 0 0 Q) : Ex ω M0_takesTurn 32 [some (.ref x0), u1, some (.int x2)] [] h 0 0 Q := by
  refine x_dr1 ?_
  refine x_aload0 33 dX0_takesTurn_32 rfl ?_
  refine x_dup 34 dX0_takesTurn_33 rfl rfl ?_
  refine x_getI cf0 3 37 dX0_takesTurn_34 rfl wd465 (fun _ => s_x0) (by decide) rfl ?_
  refine x_iconst (nI 1) 38 dX0_takesTurn_37 rfl rfl ?_
  refine x_iadd 39 dX0_takesTurn_38 rfl ?_
  refine x_putI cf0 3 42 dX0_takesTurn_39 rfl wd465 (fun _ => s_x0) (by decide) rfl rfl ?_
  refine x_aload0 43 dX0_takesTurn_42 rfl ?_
  refine x_getI cf0 3 46 dX0_takesTurn_43 rfl wd465 (fun _ => s_x0) (by decide) rfl ?_
  refine x_iload2 47 dX0_takesTurn_46 rfl ?_
  exact x_icmp_gt 50 54 dX0_takesTurn_47 rfl (by decide) kt kf
set_option maxRecDepth 20000 in
theorem B0_takesTurn_50 {ω : Om} {h : AH} {Q : Option Value → AH → Prop} {u0 : Option Value} {u1 : Option Value} {u2 : Option Value} (hw : ω.2.2.2.1 = true) (kt : Ex ω M0_takesTurn 55 [none, none, none] [.int (nI 1)] h 0 0 Q) : Ex ω M0_takesTurn 50 [u0, u1, u2] [] h 0 0 Q := by
  refine x_dr0 ?_
  refine x_dr1 ?_
  refine x_dr2 ?_
  refine x_iconst (nI 1) 51 dX0_takesTurn_50 rfl rfl ?_
  exact x_goto 55 dX0_takesTurn_51 (by decide) kt
set_option maxRecDepth 20000 in
theorem B0_takesTurn_54 {ω : Om} {h : AH} {Q : Option Value → AH → Prop} {u0 : Option Value} {u1 : Option Value} {u2 : Option Value} (hw : ω.2.2.2.1 = true) (kf : Ex ω M0_takesTurn 55 [none, none, none] [.int (nI 0)] h 0 0 Q) : Ex ω M0_takesTurn 54 [u0, u1, u2] [] h 0 0 Q := by
  refine x_dr0 ?_
  refine x_dr1 ?_
  refine x_dr2 ?_
  refine x_iconst (nI 0) 55 dX0_takesTurn_54 rfl rfl ?_
  exact kf
set_option maxRecDepth 20000 in
theorem B0_takesTurn_55 {ω : Om} {h : AH} {Q : Option Value → AH → Prop} {u0 : Option Value} {u1 : Option Value} {u2 : Option Value} {y0 : Int32} (hw : ω.2.2.2.1 = true) (hz : narrow .boolean (.int y0) = .int y0) (hq : Q (some (.int y0)) h) : Ex ω M0_takesTurn 55 [u0, u1, u2] [.int y0] h 0 0 Q := by
  refine x_dr0 ?_
  refine x_dr1 ?_
  refine x_dr2 ?_
  exact x_zret dX0_takesTurn_55 rfl hz (Nat.zero_le _) (Nat.zero_le _) hq
set_option maxRecDepth 20000 in
theorem B0_takesTurn_56 {ω : Om} {h : AH} {Q : Option Value → AH → Prop} {x0 : Nat} {u1 : Option Value} {x2 : Int32} (hw : ω.2.2.2.1 = true) (s_x0 : gs h x0 = some (0, 7)) (kt : (gi h x0 4) < (gi h x0 1) → Ex ω M0_takesTurn 69 [some (.ref x0), none, some (.int x2)] [] h 0 0 Q) (kf : ¬ (gi h x0 4) < (gi h x0 1) → Ex ω M0_takesTurn 67 [some (.ref x0), none, some (.int x2)] [] h 0 0 Q) : Ex ω M0_takesTurn 56 [some (.ref x0), u1, some (.int x2)] [] h 0 0 Q := by
  refine x_dr1 ?_
  refine x_aload0 57 dX0_takesTurn_56 rfl ?_
  refine x_getI cf0 4 60 dX0_takesTurn_57 rfl wd466 (fun _ => s_x0) (by decide) rfl ?_
  refine x_aload0 61 dX0_takesTurn_60 rfl ?_
  refine x_getI cf0 1 64 dX0_takesTurn_61 rfl wd463 (fun _ => s_x0) (by decide) rfl ?_
  exact x_icmp_lt 67 69 dX0_takesTurn_64 rfl (by decide) kt kf
set_option maxRecDepth 20000 in
theorem B0_takesTurn_67 {ω : Om} {h : AH} {Q : Option Value → AH → Prop} {u0 : Option Value} {u1 : Option Value} {u2 : Option Value} (hw : ω.2.2.2.1 = true) (hq : Q (some (.int (nI 0))) h) : Ex ω M0_takesTurn 67 [u0, u1, u2] [] h 0 0 Q := by
  refine x_dr0 ?_
  refine x_dr1 ?_
  refine x_dr2 ?_
  refine x_iconst (nI 0) 68 dX0_takesTurn_67 rfl rfl ?_
  exact x_zret dX0_takesTurn_68 rfl rfl (Nat.zero_le _) (Nat.zero_le _) hq
set_option maxRecDepth 20000 in
theorem B0_takesTurn_69 {ω : Om} {h : AH} {Q : Option Value → AH → Prop} {x0 : Nat} {u1 : Option Value} {x2 : Int32} (hw : ω.2.2.2.1 = true) (s_x0 : gs h x0 = some (0, 7)) (hq : Q (some (.int (nI 1))) (si h x0 4 (if (gi h x0 1) < ((gi h x0 4) + x2) then (gi h x0 1) else ((gi h x0 4) + x2)))) : Ex ω M0_takesTurn 69 [some (.ref x0), u1, some (.int x2)] [] h 0 0 Q := by
  refine x_dr1 ?_
  refine x_aload0 70 dX0_takesTurn_69 rfl ?_
  refine x_aload0 71 dX0_takesTurn_70 rfl ?_
  refine x_getI cf0 4 74 dX0_takesTurn_71 rfl wd466 (fun _ => s_x0) (by decide) rfl ?_
  refine x_iload2 75 dX0_takesTurn_74 rfl ?_
  refine x_iadd 76 dX0_takesTurn_75 rfl ?_
  refine x_aload0 77 dX0_takesTurn_76 rfl ?_
  refine x_getI cf0 1 80 dX0_takesTurn_77 rfl wd463 (fun _ => s_x0) (by decide) rfl ?_
  refine x_mmin 83 dX0_takesTurn_80 rfl mw_RX0_51 (by decide) (Nat.le_of_ble_eq_true rfl) (Nat.zero_le _) (Nat.zero_le _) ?_
  refine x_putI cf0 4 86 dX0_takesTurn_83 rfl wd466 (fun _ => s_x0) (by decide) rfl rfl ?_
  refine x_iconst (nI 1) 87 dX0_takesTurn_86 rfl rfl ?_
  exact x_zret dX0_takesTurn_87 rfl rfl (Nat.zero_le _) (Nat.zero_le _) hq
set_option maxRecDepth 20000 in
theorem B0_takesTurn_88 {ω : Om} {h : AH} {Q : Option Value → AH → Prop} {x0 : Nat} {u1 : Option Value} {x2 : Int32} (hw : ω.2.2.2.1 = true) (s_x0 : gs h x0 = some (0, 7)) (kt : 0 < (gi h x0 4) → Ex ω M0_takesTurn 97 [some (.ref x0), none, some (.int x2)] [] h 0 0 Q) (kf : ¬ 0 < (gi h x0 4) → Ex ω M0_takesTurn 95 [some (.ref x0), none, some (.int x2)] [] h 0 0 Q) : Ex ω M0_takesTurn 88 [some (.ref x0), u1, some (.int x2)] [] h 0 0 Q := by
  refine x_dr1 ?_
  refine x_aload0 89 dX0_takesTurn_88 rfl ?_
  refine x_getI cf0 4 92 dX0_takesTurn_89 rfl wd466 (fun _ => s_x0) (by decide) rfl ?_
  exact x_if_gt 95 97 dX0_takesTurn_92 rfl (by decide) kt kf
set_option maxRecDepth 20000 in
theorem B0_takesTurn_95 {ω : Om} {h : AH} {Q : Option Value → AH → Prop} {u0 : Option Value} {u1 : Option Value} {u2 : Option Value} (hw : ω.2.2.2.1 = true) (hq : Q (some (.int (nI 0))) h) : Ex ω M0_takesTurn 95 [u0, u1, u2] [] h 0 0 Q := by
  refine x_dr0 ?_
  refine x_dr1 ?_
  refine x_dr2 ?_
  refine x_iconst (nI 0) 96 dX0_takesTurn_95 rfl rfl ?_
  exact x_zret dX0_takesTurn_96 rfl rfl (Nat.zero_le _) (Nat.zero_le _) hq
set_option maxRecDepth 20000 in
theorem B0_takesTurn_97 {ω : Om} {h : AH} {Q : Option Value → AH → Prop} {x0 : Nat} {u1 : Option Value} {x2 : Int32} (hw : ω.2.2.2.1 = true) (s_x0 : gs h x0 = some (0, 7)) (hq : Q (some (.int (nI 1))) (si h x0 4 (if ((gi h x0 4) - x2) < (nI 0) then (nI 0) else ((gi h x0 4) - x2)))) : Ex ω M0_takesTurn 97 [some (.ref x0), u1, some (.int x2)] [] h 0 0 Q := by
  refine x_dr1 ?_
  refine x_aload0 98 dX0_takesTurn_97 rfl ?_
  refine x_aload0 99 dX0_takesTurn_98 rfl ?_
  refine x_getI cf0 4 102 dX0_takesTurn_99 rfl wd466 (fun _ => s_x0) (by decide) rfl ?_
  refine x_iload2 103 dX0_takesTurn_102 rfl ?_
  refine x_isub 104 dX0_takesTurn_103 rfl ?_
  refine x_iconst (nI 0) 105 dX0_takesTurn_104 rfl rfl ?_
  refine x_mmax 108 dX0_takesTurn_105 rfl mw_RX0_57 (by decide) (Nat.le_of_ble_eq_true rfl) (Nat.zero_le _) (Nat.zero_le _) ?_
  refine x_putI cf0 4 111 dX0_takesTurn_108 rfl wd466 (fun _ => s_x0) (by decide) rfl rfl ?_
  refine x_iconst (nI 1) 112 dX0_takesTurn_111 rfl rfl ?_
  exact x_zret dX0_takesTurn_112 rfl rfl (Nat.zero_le _) (Nat.zero_le _) hq
set_option maxRecDepth 20000 in
theorem B0_takesTurn_113 {ω : Om} {h : AH} {Q : Option Value → AH → Prop} {x0 : Nat} {u1 : Option Value} {x2 : Int32} (hw : ω.2.2.2.1 = true) (s_x0 : gs h x0 = some (0, 7)) (hq : Q (some (.int (nI 0))) (si h x0 5 x2)) : Ex ω M0_takesTurn 113 [some (.ref x0), u1, some (.int x2)] [] h 0 0 Q := by
  refine x_dr1 ?_
  refine x_aload0 114 dX0_takesTurn_113 rfl ?_
  refine x_iload2 115 dX0_takesTurn_114 rfl ?_
  refine x_putI cf0 5 118 dX0_takesTurn_115 rfl wd467 (fun _ => s_x0) (by decide) rfl rfl ?_
  refine x_iconst (nI 0) 119 dX0_takesTurn_118 rfl rfl ?_
  exact x_zret dX0_takesTurn_119 rfl rfl (Nat.zero_le _) (Nat.zero_le _) hq
set_option maxRecDepth 20000 in
theorem B0_takesTurn_120 {ω : Om} {h : AH} {Q : Option Value → AH → Prop} {x0 : Nat} {u1 : Option Value} {x2 : Int32} (hw : ω.2.2.2.1 = true) (s_x0 : gs h x0 = some (0, 7)) (hq : Q (some (.int (nI 0))) (si h x0 6 x2)) : Ex ω M0_takesTurn 120 [some (.ref x0), u1, some (.int x2)] [] h 0 0 Q := by
  refine x_dr1 ?_
  refine x_aload0 121 dX0_takesTurn_120 rfl ?_
  refine x_iload2 122 dX0_takesTurn_121 rfl ?_
  refine x_putI cf0 6 125 dX0_takesTurn_122 rfl wd468 (fun _ => s_x0) (by decide) rfl rfl ?_
  refine x_iconst (nI 0) 126 dX0_takesTurn_125 rfl rfl ?_
  exact x_zret dX0_takesTurn_126 rfl rfl (Nat.zero_le _) (Nat.zero_le _) hq
set_option maxRecDepth 20000 in
theorem B1_measure_0 {ω : Om} {h : AH} {Q : Option Value → AH → Prop} {x0 : Nat} {x1 : Int32} {x2 : Int32} {x3 : Int32} {x4 : Int32} (hw : ω.2.2.2.1 = true) (s_x0 : gs h x0 = some (1, 6)) (hq : Q none (si (si (si (si h x0 1 x1) x0 2 x2) x0 3 x3) x0 4 x4)) : Ex ω M1_measure 0 [some (.ref x0), some (.int x1), some (.int x2), some (.int x3), some (.int x4)] [] h 0 0 Q := by
  refine x_aload0 1 dX1_measure_0 rfl ?_
  refine x_iload1 2 dX1_measure_1 rfl ?_
  refine x_putI cf1 1 5 dX1_measure_2 rfl wd118 (fun _ => s_x0) (by decide) rfl rfl ?_
  refine x_aload0 6 dX1_measure_5 rfl ?_
  refine x_iload2 7 dX1_measure_6 rfl ?_
  refine x_putI cf1 2 10 dX1_measure_7 rfl wd119 (fun _ => s_x0) (by decide) rfl rfl ?_
  refine x_aload0 11 dX1_measure_10 rfl ?_
  refine x_iload3 12 dX1_measure_11 rfl ?_
  refine x_putI cf1 3 15 dX1_measure_12 rfl wd120 (fun _ => s_x0) (by decide) rfl rfl ?_
  refine x_aload0 16 dX1_measure_15 rfl ?_
  refine x_iload4 18 dX1_measure_16 rfl ?_
  refine x_putI cf1 4 21 dX1_measure_18 rfl wd121 (fun _ => s_x0) (by decide) rfl rfl ?_
  exact x_vret dX1_measure_21 rfl (Nat.zero_le _) (Nat.zero_le _) hq
set_option maxRecDepth 20000 in
theorem B1_copyFrom_0 {ω : Om} {h : AH} {Q : Option Value → AH → Prop} {x0 : Nat} {x1 : Nat} (hw : ω.2.2.2.1 = true) (s_x1 : gs h x1 = some (1, 6)) (s_x0 : gs h x0 = some (1, 6)) (kk : Ex ω M1_measure 0 [some (.ref x0), some (.int (gi (si (si h x0 0 (gi h x1 0)) x0 5 (gi (si h x0 0 (gi h x1 0)) x1 5)) x1 1)), some (.int (gi (si (si h x0 0 (gi h x1 0)) x0 5 (gi (si h x0 0 (gi h x1 0)) x1 5)) x1 2)), some (.int (gi (si (si h x0 0 (gi h x1 0)) x0 5 (gi (si h x0 0 (gi h x1 0)) x1 5)) x1 3)), some (.int (gi (si (si h x0 0 (gi h x1 0)) x0 5 (gi (si h x0 0 (gi h x1 0)) x1 5)) x1 4))] [] (si (si h x0 0 (gi h x1 0)) x0 5 (gi (si h x0 0 (gi h x1 0)) x1 5)) 0 0 (fun v h' => Ex ω M1_copyFrom 36 [some (.ref x0), some (.ref x1)] (v.toList ++ []) h' 0 0 Q)) : Ex ω M1_copyFrom 0 [some (.ref x0), some (.ref x1)] [] h 0 0 Q := by
  refine x_aload0 1 dX1_copyFrom_0 rfl ?_
  refine x_aload1 2 dX1_copyFrom_1 rfl ?_
  refine x_getI cf1 0 5 dX1_copyFrom_2 rfl wd116 (fun _ => s_x1) (by decide) rfl ?_
  refine x_putI cf1 0 8 dX1_copyFrom_5 rfl wd116 (fun _ => s_x0) (by decide) rfl rfl ?_
  refine x_aload0 9 dX1_copyFrom_8 rfl ?_
  refine x_aload1 10 dX1_copyFrom_9 rfl ?_
  refine x_getI cf1 5 13 dX1_copyFrom_10 rfl wd117 (fun _ => s_x1) (by decide) rfl ?_
  refine x_putI cf1 5 16 dX1_copyFrom_13 rfl wd117 (fun _ => s_x0) (by decide) rfl rfl ?_
  refine x_aload0 17 dX1_copyFrom_16 rfl ?_
  refine x_aload1 18 dX1_copyFrom_17 rfl ?_
  refine x_getI cf1 1 21 dX1_copyFrom_18 rfl wd118 (fun _ => s_x1) (by decide) rfl ?_
  refine x_aload1 22 dX1_copyFrom_21 rfl ?_
  refine x_getI cf1 2 25 dX1_copyFrom_22 rfl wd119 (fun _ => s_x1) (by decide) rfl ?_
  refine x_aload1 26 dX1_copyFrom_25 rfl ?_
  refine x_getI cf1 3 29 dX1_copyFrom_26 rfl wd120 (fun _ => s_x1) (by decide) rfl ?_
  refine x_aload1 30 dX1_copyFrom_29 rfl ?_
  refine x_getI cf1 4 33 dX1_copyFrom_30 rfl wd121 (fun _ => s_x1) (by decide) rfl ?_
  exact x_callV 36 x0 [.int (gi (si (si h x0 0 (gi h x1 0)) x0 5 (gi (si h x0 0 (gi h x1 0)) x1 5)) x1 1), .int (gi (si (si h x0 0 (gi h x1 0)) x0 5 (gi (si h x0 0 (gi h x1 0)) x1 5)) x1 2), .int (gi (si (si h x0 0 (gi h x1 0)) x0 5 (gi (si h x0 0 (gi h x1 0)) x1 5)) x1 3), .int (gi (si (si h x0 0 (gi h x1 0)) x0 5 (gi (si h x0 0 (gi h x1 0)) x1 5)) x1 4)] [] dX1_copyFrom_33 rfl lk_1_measure ⟨wd122, wd123, wd124⟩ ⟨by decide, by decide⟩ (recvO cf1 (fun _ => s_x0)) rfl rfl (Nat.le_of_ble_eq_true rfl) (Nat.le_of_ble_eq_true rfl) (by decide) (by decide) kk
set_option maxRecDepth 20000 in
theorem B1_copyFrom_36 {ω : Om} {h : AH} {Q : Option Value → AH → Prop} {u0 : Option Value} {u1 : Option Value} (hw : ω.2.2.2.1 = true) (hq : Q none h) : Ex ω M1_copyFrom 36 [u0, u1] [] h 0 0 Q := by
  refine x_dr0 ?_
  refine x_dr1 ?_
  exact x_vret dX1_copyFrom_36 rfl (Nat.zero_le _) (Nat.zero_le _) hq
set_option maxRecDepth 20000 in
theorem B1_property_0 {ω : Om} {h : AH} {Q : Option Value → AH → Prop} {x0 : Nat} {x1 : Int32} (hw : ω.2.2.2.1 = true) (c0 : x1 = nI 0 → Ex ω M1_property 36 [some (.ref x0), some (.int x1)] [] h 0 0 Q) (c1 : x1 = nI 1 → Ex ω M1_property 41 [some (.ref x0), some (.int x1)] [] h 0 0 Q) (c2 : x1 = nI 2 → Ex ω M1_property 46 [some (.ref x0), some (.int x1)] [] h 0 0 Q) (c3 : x1 = nI 3 → Ex ω M1_property 51 [some (.ref x0), some (.int x1)] [] h 0 0 Q) (c4 : x1 = nI 4 → Ex ω M1_property 56 [some (.ref x0), some (.int x1)] [] h 0 0 Q) (cd : (¬ (0 ≤ x1 ∧ x1 ≤ nI 4)) → Ex ω M1_property 61 [some (.ref x0), some (.int x1)] [] h 0 0 Q) : Ex ω M1_property 0 [some (.ref x0), some (.int x1)] [] h 0 0 Q := by
  refine x_iload1 1 dX1_property_0 rfl ?_
  refine x_tsw 4 [36, 41, 46, 51, 56] 61 dX1_property_1 (by decide) (by decide) (by decide) (by decide) (by decide) cd (fun j hj e => ?_)
  match j, hj with
  | 0, _ => exact c0 e
  | 1, _ => exact c1 e
  | 2, _ => exact c2 e
  | 3, _ => exact c3 e
  | 4, _ => exact c4 e
  | j + 5, hj => exact absurd hj (by simp)
set_option maxRecDepth 20000 in
theorem B1_property_36 {ω : Om} {h : AH} {Q : Option Value → AH → Prop} {x0 : Nat} {u1 : Option Value} (hw : ω.2.2.2.1 = true) (s_x0 : gs h x0 = some (1, 6)) (hq : Q (some (.int (gi h x0 0))) h) : Ex ω M1_property 36 [some (.ref x0), u1] [] h 0 0 Q := by
  refine x_dr1 ?_
  refine x_aload0 37 dX1_property_36 rfl ?_
  refine x_getI cf1 0 40 dX1_property_37 rfl wd116 (fun _ => s_x0) (by decide) rfl ?_
  exact x_iret dX1_property_40 rfl (Nat.zero_le _) (Nat.zero_le _) hq
set_option maxRecDepth 20000 in
theorem B1_property_41 {ω : Om} {h : AH} {Q : Option Value → AH → Prop} {x0 : Nat} {u1 : Option Value} (hw : ω.2.2.2.1 = true) (s_x0 : gs h x0 = some (1, 6)) (hq : Q (some (.int (gi h x0 1))) h) : Ex ω M1_property 41 [some (.ref x0), u1] [] h 0 0 Q := by
  refine x_dr1 ?_
  refine x_aload0 42 dX1_property_41 rfl ?_
  refine x_getI cf1 1 45 dX1_property_42 rfl wd118 (fun _ => s_x0) (by decide) rfl ?_
  exact x_iret dX1_property_45 rfl (Nat.zero_le _) (Nat.zero_le _) hq
set_option maxRecDepth 20000 in
theorem B1_property_46 {ω : Om} {h : AH} {Q : Option Value → AH → Prop} {x0 : Nat} {u1 : Option Value} (hw : ω.2.2.2.1 = true) (s_x0 : gs h x0 = some (1, 6)) (hq : Q (some (.int (gi h x0 2))) h) : Ex ω M1_property 46 [some (.ref x0), u1] [] h 0 0 Q := by
  refine x_dr1 ?_
  refine x_aload0 47 dX1_property_46 rfl ?_
  refine x_getI cf1 2 50 dX1_property_47 rfl wd119 (fun _ => s_x0) (by decide) rfl ?_
  exact x_iret dX1_property_50 rfl (Nat.zero_le _) (Nat.zero_le _) hq
set_option maxRecDepth 20000 in
theorem B1_property_51 {ω : Om} {h : AH} {Q : Option Value → AH → Prop} {x0 : Nat} {u1 : Option Value} (hw : ω.2.2.2.1 = true) (s_x0 : gs h x0 = some (1, 6)) (hq : Q (some (.int (gi h x0 3))) h) : Ex ω M1_property 51 [some (.ref x0), u1] [] h 0 0 Q := by
  refine x_dr1 ?_
  refine x_aload0 52 dX1_property_51 rfl ?_
  refine x_getI cf1 3 55 dX1_property_52 rfl wd120 (fun _ => s_x0) (by decide) rfl ?_
  exact x_iret dX1_property_55 rfl (Nat.zero_le _) (Nat.zero_le _) hq
set_option maxRecDepth 20000 in
theorem B1_property_56 {ω : Om} {h : AH} {Q : Option Value → AH → Prop} {x0 : Nat} {u1 : Option Value} (hw : ω.2.2.2.1 = true) (s_x0 : gs h x0 = some (1, 6)) (hq : Q (some (.int (gi h x0 4))) h) : Ex ω M1_property 56 [some (.ref x0), u1] [] h 0 0 Q := by
  refine x_dr1 ?_
  refine x_aload0 57 dX1_property_56 rfl ?_
  refine x_getI cf1 4 60 dX1_property_57 rfl wd121 (fun _ => s_x0) (by decide) rfl ?_
  exact x_iret dX1_property_60 rfl (Nat.zero_le _) (Nat.zero_le _) hq
set_option maxRecDepth 20000 in
theorem B1_property_61 {ω : Om} {h : AH} {Q : Option Value → AH → Prop} {x0 : Nat} {u1 : Option Value} (hw : ω.2.2.2.1 = true) (s_x0 : gs h x0 = some (1, 6)) (hq : Q (some (.int (gi h x0 5))) h) : Ex ω M1_property 61 [some (.ref x0), u1] [] h 0 0 Q := by
  refine x_dr1 ?_
  refine x_aload0 62 dX1_property_61 rfl ?_
  refine x_getI cf1 5 65 dX1_property_62 rfl wd117 (fun _ => s_x0) (by decide) rfl ?_
  exact x_iret dX1_property_65 rfl (Nat.zero_le _) (Nat.zero_le _) hq
set_option maxRecDepth 20000 in
theorem B1_zones_0 {ω : Om} {h : AH} {Q : Option Value → AH → Prop} {x0 : Nat} (hw : ω.2.2.2.1 = true) (s_x0 : gs h x0 = some (1, 6)) (kk : Ex ω M8_roundedUp 0 [some (.int (gi h x0 3)), some (.int (nI 10))] [] h 0 0 (fun v h' => Ex ω M1_zones 9 [some (.ref x0)] (v.toList ++ []) h' 0 0 Q)) : Ex ω M1_zones 0 [some (.ref x0)] [] h 0 0 Q := by
  refine x_aload0 1 dX1_zones_0 rfl ?_
  refine x_getI cf1 3 4 dX1_zones_1 rfl wd120 (fun _ => s_x0) (by decide) rfl ?_
  refine x_bipush (nI 10) 6 dX1_zones_4 rfl rfl ?_
  exact x_callSN (host := "PalletWrapper") 9 [.int (gi h x0 3), .int (nI 10)] [] dX1_zones_6 rfl lk_8_roundedUp ⟨by decide +kernel, wd450⟩ ⟨by decide, by decide⟩ rfl rfl (Nat.le_of_ble_eq_true rfl) (Nat.le_of_ble_eq_true rfl) (by decide) (by decide) kk
set_option maxRecDepth 20000 in
theorem B1_zones_9 {ω : Om} {h : AH} {Q : Option Value → AH → Prop} {u0 : Option Value} {y0 : Int32} (hw : ω.2.2.2.1 = true) (hq : Q (some (.int y0)) h) : Ex ω M1_zones 9 [u0] [.int y0] h 0 0 Q := by
  refine x_dr0 ?_
  exact x_iret dX1_zones_9 rfl (Nat.zero_le _) (Nat.zero_le _) hq
set_option maxRecDepth 20000 in
theorem B1_top_0 {ω : Om} {h : AH} {Q : Option Value → AH → Prop} {x0 : Nat} (hw : ω.2.2.2.1 = true) (s_x0 : gs h x0 = some (1, 6)) (hq : Q (some (.int (if (nI 0) < ((gi h x0 3) - (nI 50)) then ((gi h x0 3) - (nI 50)) else (nI 0)))) h) : Ex ω M1_top 0 [some (.ref x0)] [] h 0 0 Q := by
  refine x_iconst (nI 0) 1 dX1_top_0 rfl rfl ?_
  refine x_aload0 2 dX1_top_1 rfl ?_
  refine x_getI cf1 3 5 dX1_top_2 rfl wd120 (fun _ => s_x0) (by decide) rfl ?_
  refine x_bipush (nI 50) 7 dX1_top_5 rfl rfl ?_
  refine x_isub 8 dX1_top_7 rfl ?_
  refine x_mmax 11 dX1_top_8 rfl mw_RX1_38 (by decide) (Nat.le_of_ble_eq_true rfl) (Nat.zero_le _) (Nat.zero_le _) ?_
  exact x_iret dX1_top_11 rfl (Nat.zero_le _) (Nat.zero_le _) hq
set_option maxRecDepth 20000 in
theorem B1_lengthOfTurn_0 {ω : Om} {h : AH} {Q : Option Value → AH → Prop} {x0 : Nat} {x1 : Int32} (hw : ω.2.2.2.1 = true) (s_x0 : gs h x0 = some (1, 6)) (kk : Ex ω M8_roundedUp 0 [some (.int (((nI 2) * ((gi h x0 1) + (gi h x0 2))) * (nI 100))), some (.int ((nI 100) + x1))] [] h 0 0 (fun v h' => Ex ω M1_lengthOfTurn 21 [some (.ref x0), some (.int x1)] (v.toList ++ []) h' 0 0 Q)) : Ex ω M1_lengthOfTurn 0 [some (.ref x0), some (.int x1)] [] h 0 0 Q := by
  refine x_iconst (nI 2) 1 dX1_lengthOfTurn_0 rfl rfl ?_
  refine x_aload0 2 dX1_lengthOfTurn_1 rfl ?_
  refine x_getI cf1 1 5 dX1_lengthOfTurn_2 rfl wd118 (fun _ => s_x0) (by decide) rfl ?_
  refine x_aload0 6 dX1_lengthOfTurn_5 rfl ?_
  refine x_getI cf1 2 9 dX1_lengthOfTurn_6 rfl wd119 (fun _ => s_x0) (by decide) rfl ?_
  refine x_iadd 10 dX1_lengthOfTurn_9 rfl ?_
  refine x_imul 11 dX1_lengthOfTurn_10 rfl ?_
  refine x_bipush (nI 100) 13 dX1_lengthOfTurn_11 rfl rfl ?_
  refine x_imul 14 dX1_lengthOfTurn_13 rfl ?_
  refine x_bipush (nI 100) 16 dX1_lengthOfTurn_14 rfl rfl ?_
  refine x_iload1 17 dX1_lengthOfTurn_16 rfl ?_
  refine x_iadd 18 dX1_lengthOfTurn_17 rfl ?_
  exact x_callSN (host := "PalletWrapper") 21 [.int (((nI 2) * ((gi h x0 1) + (gi h x0 2))) * (nI 100)), .int ((nI 100) + x1)] [] dX1_lengthOfTurn_18 rfl lk_8_roundedUp ⟨by decide +kernel, wd450⟩ ⟨by decide, by decide⟩ rfl rfl (Nat.le_of_ble_eq_true rfl) (Nat.le_of_ble_eq_true rfl) (by decide) (by decide) kk
set_option maxRecDepth 20000 in
theorem B1_lengthOfTurn_21 {ω : Om} {h : AH} {Q : Option Value → AH → Prop} {u0 : Option Value} {u1 : Option Value} {y0 : Int32} (hw : ω.2.2.2.1 = true) (hq : Q (some (.int y0)) h) : Ex ω M1_lengthOfTurn 21 [u0, u1] [.int y0] h 0 0 Q := by
  refine x_dr0 ?_
  refine x_dr1 ?_
  exact x_iret dX1_lengthOfTurn_21 rfl (Nat.zero_le _) (Nat.zero_le _) hq
set_option maxRecDepth 20000 in
theorem B1_timeOfTurn_0 {ω : Om} {h : AH} {Q : Option Value → AH → Prop} {x0 : Nat} (hw : ω.2.2.2.1 = true) (s_x0 : gs h x0 = some (1, 6)) (kk : Ex ω M8_roundedUp 0 [some (.int ((nI 2) * ((gi h x0 1) + (gi h x0 2)))), some (.int (nI 40))] [] h 0 0 (fun v h' => Ex ω M1_timeOfTurn 16 [some (.ref x0)] (v.toList ++ []) h' 0 0 Q)) : Ex ω M1_timeOfTurn 0 [some (.ref x0)] [] h 0 0 Q := by
  refine x_iconst (nI 2) 1 dX1_timeOfTurn_0 rfl rfl ?_
  refine x_aload0 2 dX1_timeOfTurn_1 rfl ?_
  refine x_getI cf1 1 5 dX1_timeOfTurn_2 rfl wd118 (fun _ => s_x0) (by decide) rfl ?_
  refine x_aload0 6 dX1_timeOfTurn_5 rfl ?_
  refine x_getI cf1 2 9 dX1_timeOfTurn_6 rfl wd119 (fun _ => s_x0) (by decide) rfl ?_
  refine x_iadd 10 dX1_timeOfTurn_9 rfl ?_
  refine x_imul 11 dX1_timeOfTurn_10 rfl ?_
  refine x_bipush (nI 40) 13 dX1_timeOfTurn_11 rfl rfl ?_
  exact x_callSN (host := "PalletWrapper") 16 [.int ((nI 2) * ((gi h x0 1) + (gi h x0 2))), .int (nI 40)] [] dX1_timeOfTurn_13 rfl lk_8_roundedUp ⟨by decide +kernel, wd450⟩ ⟨by decide, by decide⟩ rfl rfl (Nat.le_of_ble_eq_true rfl) (Nat.le_of_ble_eq_true rfl) (by decide) (by decide) kk
set_option maxRecDepth 20000 in
theorem B1_timeOfTurn_16 {ω : Om} {h : AH} {Q : Option Value → AH → Prop} {u0 : Option Value} {y0 : Int32} (hw : ω.2.2.2.1 = true) (hq : Q (some (.int y0)) h) : Ex ω M1_timeOfTurn 16 [u0] [.int y0] h 0 0 Q := by
  refine x_dr0 ?_
  exact x_iret dX1_timeOfTurn_16 rfl (Nat.zero_le _) (Nat.zero_le _) hq
set_option maxRecDepth 20000 in
theorem B2_append_0 {ω : Om} {h : AH} {Q : Option Value → AH → Prop} {x0 : Nat} {x1 : Int32} {x2 : Int32} (hw : ω.2.2.2.1 = true) (s_x0 : gs h x0 = some (2, 3)) (kt : (nI 12) ≤ (gi h x0 0) → Ex ω M2_append 39 [some (.ref x0), some (.int x1), some (.int x2)] [] h 0 0 Q) (kf : ¬ (nI 12) ≤ (gi h x0 0) → Ex ω M2_append 9 [some (.ref x0), some (.int x1), some (.int x2)] [] h 0 0 Q) : Ex ω M2_append 0 [some (.ref x0), some (.int x1), some (.int x2)] [] h 0 0 Q := by
  refine x_aload0 1 dX2_append_0 rfl ?_
  refine x_getI cf2 0 4 dX2_append_1 rfl wd147 (fun _ => s_x0) (by decide) rfl ?_
  refine x_bipush (nI 12) 6 dX2_append_4 rfl rfl ?_
  exact x_icmp_ge 9 39 dX2_append_6 rfl (by decide) kt kf
set_option maxRecDepth 20000 in
theorem B2_append_9 {ω : Om} {h : AH} {Q : Option Value → AH → Prop} {x0 : Nat} {x1 : Int32} {x2 : Int32} (hw : ω.2.2.2.1 = true) (s_x0 : gs h x0 = some (2, 3)) (i1 : vp_in (gi h x0 0) 12) (i2 : vp_in (gi (si h (gr h x0 1) (Int32.toNatClampNeg (gi h x0 0)) x1) x0 0) 12) (kf : Ex ω M2_append 29 [some (.ref x0), some (.int x1), some (.int x2)] [] (si (si h (gr h x0 1) (Int32.toNatClampNeg (gi h x0 0)) x1) (gr h x0 2) (Int32.toNatClampNeg (gi (si h (gr h x0 1) (Int32.toNatClampNeg (gi h x0 0)) x1) x0 0)) x2) 0 0 Q) : Ex ω M2_append 9 [some (.ref x0), some (.int x1), some (.int x2)] [] h 0 0 Q := by
  refine x_aload0 10 dX2_append_9 rfl ?_
  refine x_getR cf2 1 13 hw dX2_append_10 rfl wd73 (fun _ => s_x0) (by decide) (by decide) rfl ?_
  refine x_aload0 14 dX2_append_13 rfl ?_
  refine x_getI cf2 0 17 dX2_append_14 rfl wd147 (fun _ => s_x0) (by decide) rfl ?_
  refine x_iload1 18 dX2_append_17 rfl ?_
  refine x_iast (Int32.toNatClampNeg (gi h x0 0)) 19 dX2_append_18 rfl (SH.fld hw (fun _ => s_x0) 1 (Nat.le_of_ble_eq_true rfl) rfl rfl) i1 rfl ?_
  refine x_aload0 20 dX2_append_19 rfl ?_
  refine x_getR cf2 2 23 hw dX2_append_20 rfl wd74 (fun _ => s_x0) (by decide) (by decide) rfl ?_
  refine x_aload0 24 dX2_append_23 rfl ?_
  refine x_getI cf2 0 27 dX2_append_24 rfl wd147 (fun _ => s_x0) (by decide) rfl ?_
  refine x_iload2 28 dX2_append_27 rfl ?_
  refine x_iast (Int32.toNatClampNeg (gi (si h (gr h x0 1) (Int32.toNatClampNeg (gi h x0 0)) x1) x0 0)) 29 dX2_append_28 rfl (SH.fld hw (fun _ => s_x0) 2 (Nat.le_of_ble_eq_true rfl) rfl rfl) i2 rfl ?_
  exact kf
set_option maxRecDepth 20000 in
theorem B2_append_29 {ω : Om} {h : AH} {Q : Option Value → AH → Prop} {x0 : Nat} {u1 : Option Value} {u2 : Option Value} (hw : ω.2.2.2.1 = true) (s_x0 : gs h x0 = some (2, 3)) (kf : Ex ω M2_append 39 [some (.ref x0), none, none] [] (si h x0 0 ((gi h x0 0) + (nI 1))) 0 0 Q) : Ex ω M2_append 29 [some (.ref x0), u1, u2] [] h 0 0 Q := by
  refine x_dr1 ?_
  refine x_dr2 ?_
  refine x_aload0 30 dX2_append_29 rfl ?_
  refine x_dup 31 dX2_append_30 rfl rfl ?_
  refine x_getI cf2 0 34 dX2_append_31 rfl wd147 (fun _ => s_x0) (by decide) rfl ?_
  refine x_iconst (nI 1) 35 dX2_append_34 rfl rfl ?_
  refine x_iadd 36 dX2_append_35 rfl ?_
  refine x_putI cf2 0 39 dX2_append_36 rfl wd147 (fun _ => s_x0) (by decide) rfl rfl ?_
  exact kf
set_option maxRecDepth 20000 in
theorem B2_append_39 {ω : Om} {h : AH} {Q : Option Value → AH → Prop} {u0 : Option Value} {u1 : Option Value} {u2 : Option Value} (hw : ω.2.2.2.1 = true) (hq : Q none h) : Ex ω M2_append 39 [u0, u1, u2] [] h 0 0 Q := by
  refine x_dr0 ?_
  refine x_dr1 ?_
  refine x_dr2 ?_
  exact x_vret dX2_append_39 rfl (Nat.zero_le _) (Nat.zero_le _) hq
set_option maxRecDepth 20000 in
theorem B2_copyFrom_0 {ω : Om} {h : AH} {Q : Option Value → AH → Prop} {x0 : Nat} {x1 : Nat} {u2 : Option Value} (hw : ω.2.2.2.1 = true) (s_x1 : gs h x1 = some (2, 3)) (s_x0 : gs h x0 = some (2, 3)) (kf : Ex ω M2_copyFrom 10 [some (.ref x0), some (.ref x1), some (.int (nI 0))] [] (si h x0 0 (gi h x1 0)) 0 0 Q) : Ex ω M2_copyFrom 0 [some (.ref x0), some (.ref x1), u2] [] h 0 0 Q := by
  refine x_dr2 ?_
  refine x_aload0 1 dX2_copyFrom_0 rfl ?_
  refine x_aload1 2 dX2_copyFrom_1 rfl ?_
  refine x_getI cf2 0 5 dX2_copyFrom_2 rfl wd147 (fun _ => s_x1) (by decide) rfl ?_
  refine x_putI cf2 0 8 dX2_copyFrom_5 rfl wd147 (fun _ => s_x0) (by decide) rfl rfl ?_
  refine x_iconst (nI 0) 9 dX2_copyFrom_8 rfl rfl ?_
  refine x_istore2 10 dX2_copyFrom_9 rfl (by decide) rfl ?_
  exact kf
set_option maxRecDepth 20000 in
theorem B2_copyFrom_10 {ω : Om} {h : AH} {Q : Option Value → AH → Prop} {x0 : Nat} {x1 : Nat} {x2 : Int32} (hw : ω.2.2.2.1 = true) (s_x0 : gs h x0 = some (2, 3)) (kt : (gi h x0 0) ≤ x2 → Ex ω M2_copyFrom 48 [some (.ref x0), some (.ref x1), some (.int x2)] [] h 0 0 Q) (kf : ¬ (gi h x0 0) ≤ x2 → Ex ω M2_copyFrom 18 [some (.ref x0), some (.ref x1), some (.int x2)] [] h 0 0 Q) : Ex ω M2_copyFrom 10 [some (.ref x0), some (.ref x1), some (.int x2)] [] h 0 0 Q := by
  refine x_iload2 11 dX2_copyFrom_10 rfl ?_
  refine x_aload0 12 dX2_copyFrom_11 rfl ?_
  refine x_getI cf2 0 15 dX2_copyFrom_12 rfl wd147 (fun _ => s_x0) (by decide) rfl ?_
  exact x_icmp_ge 18 48 dX2_copyFrom_15 rfl (by decide) kt kf
set_option maxRecDepth 20000 in
theorem B2_copyFrom_18 {ω : Om} {h : AH} {Q : Option Value → AH → Prop} {x0 : Nat} {x1 : Nat} {x2 : Int32} (hw : ω.2.2.2.1 = true) (s_x0 : gs h x0 = some (2, 3)) (s_x1 : gs h x1 = some (2, 3)) (i1 : vp_in x2 12) (i2 : vp_in x2 12) (i3 : vp_in x2 12) (i4 : vp_in x2 12) (kf : Ex ω M2_copyFrom 42 [some (.ref x0), some (.ref x1), some (.int x2)] [] (si (si h (gr h x0 1) (Int32.toNatClampNeg x2) (gi h (gr h x1 1) (Int32.toNatClampNeg x2))) (gr h x0 2) (Int32.toNatClampNeg x2) (gi (si h (gr h x0 1) (Int32.toNatClampNeg x2) (gi h (gr h x1 1) (Int32.toNatClampNeg x2))) (gr h x1 2) (Int32.toNatClampNeg x2))) 0 0 Q) : Ex ω M2_copyFrom 18 [some (.ref x0), some (.ref x1), some (.int x2)] [] h 0 0 Q := by
  refine x_aload0 19 dX2_copyFrom_18 rfl ?_
  refine x_getR cf2 1 22 hw dX2_copyFrom_19 rfl wd73 (fun _ => s_x0) (by decide) (by decide) rfl ?_
  refine x_iload2 23 dX2_copyFrom_22 rfl ?_
  refine x_aload1 24 dX2_copyFrom_23 rfl ?_
  refine x_getR cf2 1 27 hw dX2_copyFrom_24 rfl wd73 (fun _ => s_x1) (by decide) (by decide) rfl ?_
  refine x_iload2 28 dX2_copyFrom_27 rfl ?_
  refine x_iald (Int32.toNatClampNeg x2) 29 dX2_copyFrom_28 rfl (SH.fld hw (fun _ => s_x1) 1 (Nat.le_of_ble_eq_true rfl) rfl rfl) i1 rfl ?_
  refine x_iast (Int32.toNatClampNeg x2) 30 dX2_copyFrom_29 rfl (SH.fld hw (fun _ => s_x0) 1 (Nat.le_of_ble_eq_true rfl) rfl rfl) i2 rfl ?_
  refine x_aload0 31 dX2_copyFrom_30 rfl ?_
  refine x_getR cf2 2 34 hw dX2_copyFrom_31 rfl wd74 (fun _ => s_x0) (by decide) (by decide) rfl ?_
  refine x_iload2 35 dX2_copyFrom_34 rfl ?_
  refine x_aload1 36 dX2_copyFrom_35 rfl ?_
  refine x_getR cf2 2 39 hw dX2_copyFrom_36 rfl wd74 (fun _ => s_x1) (by decide) (by decide) rfl ?_
  refine x_iload2 40 dX2_copyFrom_39 rfl ?_
  refine x_iald (Int32.toNatClampNeg x2) 41 dX2_copyFrom_40 rfl (SH.fld hw (fun _ => s_x1) 2 (Nat.le_of_ble_eq_true rfl) rfl rfl) i3 rfl ?_
  refine x_iast (Int32.toNatClampNeg x2) 42 dX2_copyFrom_41 rfl (SH.fld hw (fun _ => s_x0) 2 (Nat.le_of_ble_eq_true rfl) rfl rfl) i4 rfl ?_
  exact kf
set_option maxRecDepth 20000 in
theorem B2_copyFrom_42 {ω : Om} {h : AH} {Q : Option Value → AH → Prop} {x0 : Nat} {x1 : Nat} {x2 : Int32} (hw : ω.2.2.2.1 = true) (kt : Ex ω M2_copyFrom 10 [some (.ref x0), some (.ref x1), some (.int (x2 + (nI 1)))] [] h 0 0 Q) : Ex ω M2_copyFrom 42 [some (.ref x0), some (.ref x1), some (.int x2)] [] h 0 0 Q := by
  refine x_iinc2 (x2 + (nI 1)) 45 dX2_copyFrom_42 rfl (by decide) rfl rfl ?_
  exact x_goto 10 dX2_copyFrom_45 (by decide) kt
set_option maxRecDepth 20000 in
theorem B2_copyFrom_48 {ω : Om} {h : AH} {Q : Option Value → AH → Prop} {u0 : Option Value} {u1 : Option Value} {u2 : Option Value} (hw : ω.2.2.2.1 = true) (hq : Q none h) : Ex ω M2_copyFrom 48 [u0, u1, u2] [] h 0 0 Q := by
  refine x_dr0 ?_
  refine x_dr1 ?_
  refine x_dr2 ?_
  exact x_vret dX2_copyFrom_48 rfl (Nat.zero_le _) (Nat.zero_le _) hq
set_option maxRecDepth 20000 in
theorem B3_begin_0 {ω : Om} {h : AH} {Q : Option Value → AH → Prop} {x0 : Nat} {x1 : Nat} {u2 : Option Value} (hw : ω.2.2.2.1 = true) (s_x1 : gs h x1 = some (1, 6)) (s_x0 : gs h x0 = some (3, 15)) (kk : Ex ω M1_zones 0 [some (.ref x1)] [] (si h x0 0 (gi h x1 0)) 0 0 (fun v h' => Ex ω M3_begin 13 [some (.ref x0), some (.ref x1), none] (v.toList ++ [.ref x0]) h' 0 0 Q)) : Ex ω M3_begin 0 [some (.ref x0), some (.ref x1), u2] [] h 0 0 Q := by
  refine x_dr2 ?_
  refine x_aload0 1 dX3_begin_0 rfl ?_
  refine x_aload1 2 dX3_begin_1 rfl ?_
  refine x_getI cf1 0 5 dX3_begin_2 rfl wd445 (fun _ => s_x1) (by decide) rfl ?_
  refine x_putI cf3 0 8 dX3_begin_5 rfl wd130 (fun _ => s_x0) (by decide) rfl rfl ?_
  refine x_aload0 9 dX3_begin_8 rfl ?_
  refine x_aload1 10 dX3_begin_9 rfl ?_
  exact x_callV 13 x1 [] [.ref x0] dX3_begin_10 rfl lk_1_zones ⟨wd446, wd447, wd448⟩ ⟨by decide, by decide⟩ (recvO cf1 (fun _ => s_x1)) rfl rfl (Nat.le_of_ble_eq_true rfl) (Nat.le_of_ble_eq_true rfl) (by decide) (by decide) kk
set_option maxRecDepth 20000 in
theorem B3_begin_13 {ω : Om} {h : AH} {Q : Option Value → AH → Prop} {x0 : Nat} {u1 : Option Value} {u2 : Option Value} {y0 : Nat} {y1 : Int32} (hw : ω.2.2.2.1 = true) (s_y0 : gs h y0 = some (3, 15)) (s_x0 : gs h x0 = some (3, 15)) (kf : Ex ω M3_begin 51 [some (.ref x0), none, none] [] (si (si (si (si (si (si (si (si h y0 1 y1) x0 2 (nI 0)) x0 3 (nI 0)) x0 4 (nI 0)) x0 5 (nI 0)) x0 6 (nI 0)) x0 7 (nI 0)) x0 8 (nI 0)) 0 0 Q) : Ex ω M3_begin 13 [some (.ref x0), u1, u2] [.int y1, .ref y0] h 0 0 Q := by
  refine x_dr1 ?_
  refine x_dr2 ?_
  refine x_putI cf3 1 16 dX3_begin_13 rfl wd131 (fun _ => s_y0) (by decide) rfl rfl ?_
  refine x_aload0 17 dX3_begin_16 rfl ?_
  refine x_iconst (nI 0) 18 dX3_begin_17 rfl rfl ?_
  refine x_putI cf3 2 21 dX3_begin_18 rfl wd132 (fun _ => s_x0) (by decide) rfl rfl ?_
  refine x_aload0 22 dX3_begin_21 rfl ?_
  refine x_iconst (nI 0) 23 dX3_begin_22 rfl rfl ?_
  refine x_putI cf3 3 26 dX3_begin_23 rfl wd133 (fun _ => s_x0) (by decide) rfl rfl ?_
  refine x_aload0 27 dX3_begin_26 rfl ?_
  refine x_iconst (nI 0) 28 dX3_begin_27 rfl rfl ?_
  refine x_putI cf3 4 31 dX3_begin_28 rfl wd134 (fun _ => s_x0) (by decide) rfl rfl ?_
  refine x_aload0 32 dX3_begin_31 rfl ?_
  refine x_iconst (nI 0) 33 dX3_begin_32 rfl rfl ?_
  refine x_putI cf3 5 36 dX3_begin_33 rfl wd135 (fun _ => s_x0) (by decide) rfl rfl ?_
  refine x_aload0 37 dX3_begin_36 rfl ?_
  refine x_iconst (nI 0) 38 dX3_begin_37 rfl rfl ?_
  refine x_putI cf3 6 41 dX3_begin_38 rfl wd136 (fun _ => s_x0) (by decide) rfl rfl ?_
  refine x_aload0 42 dX3_begin_41 rfl ?_
  refine x_iconst (nI 0) 43 dX3_begin_42 rfl rfl ?_
  refine x_putI cf3 7 46 dX3_begin_43 rfl wd137 (fun _ => s_x0) (by decide) rfl rfl ?_
  refine x_aload0 47 dX3_begin_46 rfl ?_
  refine x_iconst (nI 0) 48 dX3_begin_47 rfl rfl ?_
  refine x_putI cf3 8 51 dX3_begin_48 rfl wd138 (fun _ => s_x0) (by decide) rfl rfl ?_
  exact kf
set_option maxRecDepth 20000 in
theorem B3_begin_51 {ω : Om} {h : AH} {Q : Option Value → AH → Prop} {x0 : Nat} {u1 : Option Value} {u2 : Option Value} (hw : ω.2.2.2.1 = true) (s_x0 : gs h x0 = some (3, 15)) (kf : Ex ω M3_begin 73 [some (.ref x0), none, some (.int (nI 0))] [] (si (si (si (si h x0 9 (nI 0)) x0 10 (nI 0)) x0 11 (nI 0)) x0 12 (nI 0)) 0 0 Q) : Ex ω M3_begin 51 [some (.ref x0), u1, u2] [] h 0 0 Q := by
  refine x_dr1 ?_
  refine x_dr2 ?_
  refine x_aload0 52 dX3_begin_51 rfl ?_
  refine x_iconst (nI 0) 53 dX3_begin_52 rfl rfl ?_
  refine x_putI cf3 9 56 dX3_begin_53 rfl wd139 (fun _ => s_x0) (by decide) rfl rfl ?_
  refine x_aload0 57 dX3_begin_56 rfl ?_
  refine x_iconst (nI 0) 58 dX3_begin_57 rfl rfl ?_
  refine x_putI cf3 10 61 dX3_begin_58 rfl wd140 (fun _ => s_x0) (by decide) rfl rfl ?_
  refine x_aload0 62 dX3_begin_61 rfl ?_
  refine x_iconst (nI 0) 63 dX3_begin_62 rfl rfl ?_
  refine x_putI cf3 11 66 dX3_begin_63 rfl wd141 (fun _ => s_x0) (by decide) rfl rfl ?_
  refine x_aload0 67 dX3_begin_66 rfl ?_
  refine x_iconst (nI 0) 68 dX3_begin_67 rfl rfl ?_
  refine x_putI cf3 12 71 dX3_begin_68 rfl wd142 (fun _ => s_x0) (by decide) rfl rfl ?_
  refine x_iconst (nI 0) 72 dX3_begin_71 rfl rfl ?_
  refine x_istore2 73 dX3_begin_72 rfl (by decide) rfl ?_
  exact kf
set_option maxRecDepth 20000 in
theorem B3_begin_73 {ω : Om} {h : AH} {Q : Option Value → AH → Prop} {x0 : Nat} {u1 : Option Value} {x2 : Int32} (hw : ω.2.2.2.1 = true) (s_x0 : gs h x0 = some (3, 15)) (kt : (gi h x0 1) ≤ x2 → Ex ω M3_begin 101 [some (.ref x0), none, some (.int x2)] [] h 0 0 Q) (kf : ¬ (gi h x0 1) ≤ x2 → Ex ω M3_begin 81 [some (.ref x0), none, some (.int x2)] [] h 0 0 Q) : Ex ω M3_begin 73 [some (.ref x0), u1, some (.int x2)] [] h 0 0 Q := by
  refine x_dr1 ?_
  refine x_iload2 74 dX3_begin_73 rfl ?_
  refine x_aload0 75 dX3_begin_74 rfl ?_
  refine x_getI cf3 1 78 dX3_begin_75 rfl wd131 (fun _ => s_x0) (by decide) rfl ?_
  exact x_icmp_ge 81 101 dX3_begin_78 rfl (by decide) kt kf
set_option maxRecDepth 20000 in
theorem B3_begin_81 {ω : Om} {h : AH} {Q : Option Value → AH → Prop} {x0 : Nat} {u1 : Option Value} {x2 : Int32} (hw : ω.2.2.2.1 = true) (s_x0 : gs h x0 = some (3, 15)) (i1 : vp_in x2 25) (i2 : vp_in x2 25) (kt : Ex ω M3_begin 73 [some (.ref x0), none, some (.int (x2 + (nI 1)))] [] (si (si h (gr h x0 13) (Int32.toNatClampNeg x2) (nI 0)) (gr h x0 14) (Int32.toNatClampNeg x2) (nI 0)) 0 0 Q) : Ex ω M3_begin 81 [some (.ref x0), u1, some (.int x2)] [] h 0 0 Q := by
  refine x_dr1 ?_
  refine x_aload0 82 dX3_begin_81 rfl ?_
  refine x_getR cf3 13 85 hw dX3_begin_82 rfl wd67 (fun _ => s_x0) (by decide) (by decide) rfl ?_
  refine x_iload2 86 dX3_begin_85 rfl ?_
  refine x_iconst (nI 0) 87 dX3_begin_86 rfl rfl ?_
  refine x_iast (Int32.toNatClampNeg x2) 88 dX3_begin_87 rfl (SH.fld hw (fun _ => s_x0) 13 (Nat.le_of_ble_eq_true rfl) rfl rfl) i1 rfl ?_
  refine x_aload0 89 dX3_begin_88 rfl ?_
  refine x_getR cf3 14 92 hw dX3_begin_89 rfl wd68 (fun _ => s_x0) (by decide) (by decide) rfl ?_
  refine x_iload2 93 dX3_begin_92 rfl ?_
  refine x_iconst (nI 0) 94 dX3_begin_93 rfl rfl ?_
  refine x_iast (Int32.toNatClampNeg x2) 95 dX3_begin_94 rfl (SH.fld hw (fun _ => s_x0) 14 (Nat.le_of_ble_eq_true rfl) rfl rfl) i2 rfl ?_
  refine x_iinc2 (x2 + (nI 1)) 98 dX3_begin_95 rfl (by decide) rfl rfl ?_
  exact x_goto 73 dX3_begin_98 (by decide) kt
set_option maxRecDepth 20000 in
theorem B3_begin_101 {ω : Om} {h : AH} {Q : Option Value → AH → Prop} {u0 : Option Value} {u1 : Option Value} {u2 : Option Value} (hw : ω.2.2.2.1 = true) (hq : Q none h) : Ex ω M3_begin 101 [u0, u1, u2] [] h 0 0 Q := by
  refine x_dr0 ?_
  refine x_dr1 ?_
  refine x_dr2 ?_
  exact x_vret dX3_begin_101 rfl (Nat.zero_le _) (Nat.zero_le _) hq
set_option maxRecDepth 20000 in
theorem B3_copyFrom_0 {ω : Om} {h : AH} {Q : Option Value → AH → Prop} {x0 : Nat} {x1 : Nat} {u2 : Option Value} (hw : ω.2.2.2.1 = true) (s_x1 : gs h x1 = some (3, 15)) (s_x0 : gs h x0 = some (3, 15)) (kf : Ex ω M3_copyFrom 24 [some (.ref x0), some (.ref x1), none] [] (si (si (si h x0 0 (gi h x1 0)) x0 1 (gi (si h x0 0 (gi h x1 0)) x1 1)) x0 2 (gi (si (si h x0 0 (gi h x1 0)) x0 1 (gi (si h x0 0 (gi h x1 0)) x1 1)) x1 2)) 0 0 Q) : Ex ω M3_copyFrom 0 [some (.ref x0), some (.ref x1), u2] [] h 0 0 Q := by
  refine x_dr2 ?_
  refine x_aload0 1 dX3_copyFrom_0 rfl ?_
  refine x_aload1 2 dX3_copyFrom_1 rfl ?_
  refine x_getI cf3 0 5 dX3_copyFrom_2 rfl wd130 (fun _ => s_x1) (by decide) rfl ?_
  refine x_putI cf3 0 8 dX3_copyFrom_5 rfl wd130 (fun _ => s_x0) (by decide) rfl rfl ?_
  refine x_aload0 9 dX3_copyFrom_8 rfl ?_
  refine x_aload1 10 dX3_copyFrom_9 rfl ?_
  refine x_getI cf3 1 13 dX3_copyFrom_10 rfl wd131 (fun _ => s_x1) (by decide) rfl ?_
  refine x_putI cf3 1 16 dX3_copyFrom_13 rfl wd131 (fun _ => s_x0) (by decide) rfl rfl ?_
  refine x_aload0 17 dX3_copyFrom_16 rfl ?_
  refine x_aload1 18 dX3_copyFrom_17 rfl ?_
  refine x_getI cf3 2 21 dX3_copyFrom_18 rfl wd132 (fun _ => s_x1) (by decide) rfl ?_
  refine x_putI cf3 2 24 dX3_copyFrom_21 rfl wd132 (fun _ => s_x0) (by decide) rfl rfl ?_
  exact kf
set_option maxRecDepth 20000 in
theorem B3_copyFrom_24 {ω : Om} {h : AH} {Q : Option Value → AH → Prop} {x0 : Nat} {x1 : Nat} {u2 : Option Value} (hw : ω.2.2.2.1 = true) (s_x1 : gs h x1 = some (3, 15)) (s_x0 : gs h x0 = some (3, 15)) (kf : Ex ω M3_copyFrom 48 [some (.ref x0), some (.ref x1), none] [] (si (si (si h x0 3 (gi h x1 3)) x0 4 (gi (si h x0 3 (gi h x1 3)) x1 4)) x0 5 (gi (si (si h x0 3 (gi h x1 3)) x0 4 (gi (si h x0 3 (gi h x1 3)) x1 4)) x1 5)) 0 0 Q) : Ex ω M3_copyFrom 24 [some (.ref x0), some (.ref x1), u2] [] h 0 0 Q := by
  refine x_dr2 ?_
  refine x_aload0 25 dX3_copyFrom_24 rfl ?_
  refine x_aload1 26 dX3_copyFrom_25 rfl ?_
  refine x_getI cf3 3 29 dX3_copyFrom_26 rfl wd133 (fun _ => s_x1) (by decide) rfl ?_
  refine x_putI cf3 3 32 dX3_copyFrom_29 rfl wd133 (fun _ => s_x0) (by decide) rfl rfl ?_
  refine x_aload0 33 dX3_copyFrom_32 rfl ?_
  refine x_aload1 34 dX3_copyFrom_33 rfl ?_
  refine x_getI cf3 4 37 dX3_copyFrom_34 rfl wd134 (fun _ => s_x1) (by decide) rfl ?_
  refine x_putI cf3 4 40 dX3_copyFrom_37 rfl wd134 (fun _ => s_x0) (by decide) rfl rfl ?_
  refine x_aload0 41 dX3_copyFrom_40 rfl ?_
  refine x_aload1 42 dX3_copyFrom_41 rfl ?_
  refine x_getI cf3 5 45 dX3_copyFrom_42 rfl wd135 (fun _ => s_x1) (by decide) rfl ?_
  refine x_putI cf3 5 48 dX3_copyFrom_45 rfl wd135 (fun _ => s_x0) (by decide) rfl rfl ?_
  exact kf
set_option maxRecDepth 20000 in
theorem B3_copyFrom_48 {ω : Om} {h : AH} {Q : Option Value → AH → Prop} {x0 : Nat} {x1 : Nat} {u2 : Option Value} (hw : ω.2.2.2.1 = true) (s_x1 : gs h x1 = some (3, 15)) (s_x0 : gs h x0 = some (3, 15)) (kf : Ex ω M3_copyFrom 72 [some (.ref x0), some (.ref x1), none] [] (si (si (si h x0 6 (gi h x1 6)) x0 7 (gi (si h x0 6 (gi h x1 6)) x1 7)) x0 8 (gi (si (si h x0 6 (gi h x1 6)) x0 7 (gi (si h x0 6 (gi h x1 6)) x1 7)) x1 8)) 0 0 Q) : Ex ω M3_copyFrom 48 [some (.ref x0), some (.ref x1), u2] [] h 0 0 Q := by
  refine x_dr2 ?_
  refine x_aload0 49 dX3_copyFrom_48 rfl ?_
  refine x_aload1 50 dX3_copyFrom_49 rfl ?_
  refine x_getI cf3 6 53 dX3_copyFrom_50 rfl wd136 (fun _ => s_x1) (by decide) rfl ?_
  refine x_putI cf3 6 56 dX3_copyFrom_53 rfl wd136 (fun _ => s_x0) (by decide) rfl rfl ?_
  refine x_aload0 57 dX3_copyFrom_56 rfl ?_
  refine x_aload1 58 dX3_copyFrom_57 rfl ?_
  refine x_getI cf3 7 61 dX3_copyFrom_58 rfl wd137 (fun _ => s_x1) (by decide) rfl ?_
  refine x_putI cf3 7 64 dX3_copyFrom_61 rfl wd137 (fun _ => s_x0) (by decide) rfl rfl ?_
  refine x_aload0 65 dX3_copyFrom_64 rfl ?_
  refine x_aload1 66 dX3_copyFrom_65 rfl ?_
  refine x_getI cf3 8 69 dX3_copyFrom_66 rfl wd138 (fun _ => s_x1) (by decide) rfl ?_
  refine x_putI cf3 8 72 dX3_copyFrom_69 rfl wd138 (fun _ => s_x0) (by decide) rfl rfl ?_
  exact kf
set_option maxRecDepth 20000 in
theorem B3_copyFrom_72 {ω : Om} {h : AH} {Q : Option Value → AH → Prop} {x0 : Nat} {x1 : Nat} {u2 : Option Value} (hw : ω.2.2.2.1 = true) (s_x1 : gs h x1 = some (3, 15)) (s_x0 : gs h x0 = some (3, 15)) (kf : Ex ω M3_copyFrom 96 [some (.ref x0), some (.ref x1), none] [] (si (si (si h x0 9 (gi h x1 9)) x0 10 (gi (si h x0 9 (gi h x1 9)) x1 10)) x0 11 (gi (si (si h x0 9 (gi h x1 9)) x0 10 (gi (si h x0 9 (gi h x1 9)) x1 10)) x1 11)) 0 0 Q) : Ex ω M3_copyFrom 72 [some (.ref x0), some (.ref x1), u2] [] h 0 0 Q := by
  refine x_dr2 ?_
  refine x_aload0 73 dX3_copyFrom_72 rfl ?_
  refine x_aload1 74 dX3_copyFrom_73 rfl ?_
  refine x_getI cf3 9 77 dX3_copyFrom_74 rfl wd139 (fun _ => s_x1) (by decide) rfl ?_
  refine x_putI cf3 9 80 dX3_copyFrom_77 rfl wd139 (fun _ => s_x0) (by decide) rfl rfl ?_
  refine x_aload0 81 dX3_copyFrom_80 rfl ?_
  refine x_aload1 82 dX3_copyFrom_81 rfl ?_
  refine x_getI cf3 10 85 dX3_copyFrom_82 rfl wd140 (fun _ => s_x1) (by decide) rfl ?_
  refine x_putI cf3 10 88 dX3_copyFrom_85 rfl wd140 (fun _ => s_x0) (by decide) rfl rfl ?_
  refine x_aload0 89 dX3_copyFrom_88 rfl ?_
  refine x_aload1 90 dX3_copyFrom_89 rfl ?_
  refine x_getI cf3 11 93 dX3_copyFrom_90 rfl wd141 (fun _ => s_x1) (by decide) rfl ?_
  refine x_putI cf3 11 96 dX3_copyFrom_93 rfl wd141 (fun _ => s_x0) (by decide) rfl rfl ?_
  exact kf
set_option maxRecDepth 20000 in
theorem B3_copyFrom_96 {ω : Om} {h : AH} {Q : Option Value → AH → Prop} {x0 : Nat} {x1 : Nat} {u2 : Option Value} (hw : ω.2.2.2.1 = true) (s_x1 : gs h x1 = some (3, 15)) (s_x0 : gs h x0 = some (3, 15)) (kf : Ex ω M3_copyFrom 106 [some (.ref x0), some (.ref x1), some (.int (nI 0))] [] (si h x0 12 (gi h x1 12)) 0 0 Q) : Ex ω M3_copyFrom 96 [some (.ref x0), some (.ref x1), u2] [] h 0 0 Q := by
  refine x_dr2 ?_
  refine x_aload0 97 dX3_copyFrom_96 rfl ?_
  refine x_aload1 98 dX3_copyFrom_97 rfl ?_
  refine x_getI cf3 12 101 dX3_copyFrom_98 rfl wd142 (fun _ => s_x1) (by decide) rfl ?_
  refine x_putI cf3 12 104 dX3_copyFrom_101 rfl wd142 (fun _ => s_x0) (by decide) rfl rfl ?_
  refine x_iconst (nI 0) 105 dX3_copyFrom_104 rfl rfl ?_
  refine x_istore2 106 dX3_copyFrom_105 rfl (by decide) rfl ?_
  exact kf
set_option maxRecDepth 20000 in
theorem B3_copyFrom_106 {ω : Om} {h : AH} {Q : Option Value → AH → Prop} {x0 : Nat} {x1 : Nat} {x2 : Int32} (hw : ω.2.2.2.1 = true) (s_x0 : gs h x0 = some (3, 15)) (kt : (gi h x0 1) ≤ x2 → Ex ω M3_copyFrom 144 [some (.ref x0), some (.ref x1), some (.int x2)] [] h 0 0 Q) (kf : ¬ (gi h x0 1) ≤ x2 → Ex ω M3_copyFrom 114 [some (.ref x0), some (.ref x1), some (.int x2)] [] h 0 0 Q) : Ex ω M3_copyFrom 106 [some (.ref x0), some (.ref x1), some (.int x2)] [] h 0 0 Q := by
  refine x_iload2 107 dX3_copyFrom_106 rfl ?_
  refine x_aload0 108 dX3_copyFrom_107 rfl ?_
  refine x_getI cf3 1 111 dX3_copyFrom_108 rfl wd131 (fun _ => s_x0) (by decide) rfl ?_
  exact x_icmp_ge 114 144 dX3_copyFrom_111 rfl (by decide) kt kf
set_option maxRecDepth 20000 in
theorem B3_copyFrom_114 {ω : Om} {h : AH} {Q : Option Value → AH → Prop} {x0 : Nat} {x1 : Nat} {x2 : Int32} (hw : ω.2.2.2.1 = true) (s_x0 : gs h x0 = some (3, 15)) (s_x1 : gs h x1 = some (3, 15)) (i1 : vp_in x2 25) (i2 : vp_in x2 25) (i3 : vp_in x2 25) (i4 : vp_in x2 25) (kf : Ex ω M3_copyFrom 138 [some (.ref x0), some (.ref x1), some (.int x2)] [] (si (si h (gr h x0 13) (Int32.toNatClampNeg x2) (gi h (gr h x1 13) (Int32.toNatClampNeg x2))) (gr h x0 14) (Int32.toNatClampNeg x2) (gi (si h (gr h x0 13) (Int32.toNatClampNeg x2) (gi h (gr h x1 13) (Int32.toNatClampNeg x2))) (gr h x1 14) (Int32.toNatClampNeg x2))) 0 0 Q) : Ex ω M3_copyFrom 114 [some (.ref x0), some (.ref x1), some (.int x2)] [] h 0 0 Q := by
  refine x_aload0 115 dX3_copyFrom_114 rfl ?_
  refine x_getR cf3 13 118 hw dX3_copyFrom_115 rfl wd67 (fun _ => s_x0) (by decide) (by decide) rfl ?_
  refine x_iload2 119 dX3_copyFrom_118 rfl ?_
  refine x_aload1 120 dX3_copyFrom_119 rfl ?_
  refine x_getR cf3 13 123 hw dX3_copyFrom_120 rfl wd67 (fun _ => s_x1) (by decide) (by decide) rfl ?_
  refine x_iload2 124 dX3_copyFrom_123 rfl ?_
  refine x_iald (Int32.toNatClampNeg x2) 125 dX3_copyFrom_124 rfl (SH.fld hw (fun _ => s_x1) 13 (Nat.le_of_ble_eq_true rfl) rfl rfl) i1 rfl ?_
  refine x_iast (Int32.toNatClampNeg x2) 126 dX3_copyFrom_125 rfl (SH.fld hw (fun _ => s_x0) 13 (Nat.le_of_ble_eq_true rfl) rfl rfl) i2 rfl ?_
  refine x_aload0 127 dX3_copyFrom_126 rfl ?_
  refine x_getR cf3 14 130 hw dX3_copyFrom_127 rfl wd68 (fun _ => s_x0) (by decide) (by decide) rfl ?_
  refine x_iload2 131 dX3_copyFrom_130 rfl ?_
  refine x_aload1 132 dX3_copyFrom_131 rfl ?_
  refine x_getR cf3 14 135 hw dX3_copyFrom_132 rfl wd68 (fun _ => s_x1) (by decide) (by decide) rfl ?_
  refine x_iload2 136 dX3_copyFrom_135 rfl ?_
  refine x_iald (Int32.toNatClampNeg x2) 137 dX3_copyFrom_136 rfl (SH.fld hw (fun _ => s_x1) 14 (Nat.le_of_ble_eq_true rfl) rfl rfl) i3 rfl ?_
  refine x_iast (Int32.toNatClampNeg x2) 138 dX3_copyFrom_137 rfl (SH.fld hw (fun _ => s_x0) 14 (Nat.le_of_ble_eq_true rfl) rfl rfl) i4 rfl ?_
  exact kf
set_option maxRecDepth 20000 in
theorem B3_copyFrom_138 {ω : Om} {h : AH} {Q : Option Value → AH → Prop} {x0 : Nat} {x1 : Nat} {x2 : Int32} (hw : ω.2.2.2.1 = true) (kt : Ex ω M3_copyFrom 106 [some (.ref x0), some (.ref x1), some (.int (x2 + (nI 1)))] [] h 0 0 Q) : Ex ω M3_copyFrom 138 [some (.ref x0), some (.ref x1), some (.int x2)] [] h 0 0 Q := by
  refine x_iinc2 (x2 + (nI 1)) 141 dX3_copyFrom_138 rfl (by decide) rfl rfl ?_
  exact x_goto 106 dX3_copyFrom_141 (by decide) kt
set_option maxRecDepth 20000 in
theorem B3_copyFrom_144 {ω : Om} {h : AH} {Q : Option Value → AH → Prop} {u0 : Option Value} {u1 : Option Value} {u2 : Option Value} (hw : ω.2.2.2.1 = true) (hq : Q none h) : Ex ω M3_copyFrom 144 [u0, u1, u2] [] h 0 0 Q := by
  refine x_dr0 ?_
  refine x_dr1 ?_
  refine x_dr2 ?_
  exact x_vret dX3_copyFrom_144 rfl (Nat.zero_le _) (Nat.zero_le _) hq
set_option maxRecDepth 20000 in
theorem B3_greatestForce_0 {ω : Om} {h : AH} {Q : Option Value → AH → Prop} {x0 : Nat} {x1 : Int32} {x2 : Int32} {u3 : Option Value} {u4 : Option Value} (hw : ω.2.2.2.1 = true) (kf : Ex ω M3_greatestForce 5 [some (.ref x0), some (.int x1), some (.int x2), some (.int (nI 0)), some (.int x1)] [] h 0 0 Q) : Ex ω M3_greatestForce 0 [some (.ref x0), some (.int x1), some (.int x2), u3, u4] [] h 0 0 Q := by
  refine x_dr3 ?_
  refine x_dr4 ?_
  refine x_iconst (nI 0) 1 dX3_greatestForce_0 rfl rfl ?_
  refine x_istore3 2 dX3_greatestForce_1 rfl (by decide) rfl ?_
  refine x_iload1 3 dX3_greatestForce_2 rfl ?_
  refine x_istore4 5 dX3_greatestForce_3 rfl (by decide) rfl ?_
  exact kf
set_option maxRecDepth 20000 in
theorem B3_greatestForce_5 {ω : Om} {h : AH} {Q : Option Value → AH → Prop} {x0 : Nat} {u1 : Option Value} {x2 : Int32} {x3 : Int32} {x4 : Int32} (hw : ω.2.2.2.1 = true) (kt : x2 ≤ x4 → Ex ω M3_greatestForce 29 [some (.ref x0), none, some (.int x2), some (.int x3), some (.int x4)] [] h 0 0 Q) (kf : ¬ x2 ≤ x4 → Ex ω M3_greatestForce 11 [some (.ref x0), none, some (.int x2), some (.int x3), some (.int x4)] [] h 0 0 Q) : Ex ω M3_greatestForce 5 [some (.ref x0), u1, some (.int x2), some (.int x3), some (.int x4)] [] h 0 0 Q := by
  refine x_dr1 ?_
  refine x_iload4 7 dX3_greatestForce_5 rfl ?_
  refine x_iload2 8 dX3_greatestForce_7 rfl ?_
  exact x_icmp_ge 11 29 dX3_greatestForce_8 rfl (by decide) kt kf
set_option maxRecDepth 20000 in
theorem B3_greatestForce_11 {ω : Om} {h : AH} {Q : Option Value → AH → Prop} {x0 : Nat} {u1 : Option Value} {x2 : Int32} {x3 : Int32} {x4 : Int32} (hw : ω.2.2.2.1 = true) (s_x0 : gs h x0 = some (3, 15)) (i1 : vp_in x4 25) (kt : Ex ω M3_greatestForce 5 [some (.ref x0), none, some (.int x2), some (.int (if x3 < (gi h (gr h x0 14) (Int32.toNatClampNeg x4)) then (gi h (gr h x0 14) (Int32.toNatClampNeg x4)) else x3)), some (.int (x4 + (nI 1)))] [] h 0 0 Q) : Ex ω M3_greatestForce 11 [some (.ref x0), u1, some (.int x2), some (.int x3), some (.int x4)] [] h 0 0 Q := by
  refine x_dr1 ?_
  refine x_iload3 12 dX3_greatestForce_11 rfl ?_
  refine x_aload0 13 dX3_greatestForce_12 rfl ?_
  refine x_getR cf3 14 16 hw dX3_greatestForce_13 rfl wd68 (fun _ => s_x0) (by decide) (by decide) rfl ?_
  refine x_iload4 18 dX3_greatestForce_16 rfl ?_
  refine x_iald (Int32.toNatClampNeg x4) 19 dX3_greatestForce_18 rfl (SH.fld hw (fun _ => s_x0) 14 (Nat.le_of_ble_eq_true rfl) rfl rfl) i1 rfl ?_
  refine x_mmax 22 dX3_greatestForce_19 rfl mw_RX3_64 (by decide) (Nat.le_of_ble_eq_true rfl) (Nat.zero_le _) (Nat.zero_le _) ?_
  refine x_istore3 23 dX3_greatestForce_22 rfl (by decide) rfl ?_
  refine x_iinc4 (x4 + (nI 1)) 26 dX3_greatestForce_23 rfl (by decide) rfl rfl ?_
  exact x_goto 5 dX3_greatestForce_26 (by decide) kt
set_option maxRecDepth 20000 in
theorem B3_greatestForce_29 {ω : Om} {h : AH} {Q : Option Value → AH → Prop} {u0 : Option Value} {u1 : Option Value} {u2 : Option Value} {x3 : Int32} {u4 : Option Value} (hw : ω.2.2.2.1 = true) (hq : Q (some (.int x3)) h) : Ex ω M3_greatestForce 29 [u0, u1, u2, some (.int x3), u4] [] h 0 0 Q := by
  refine x_dr0 ?_
  refine x_dr1 ?_
  refine x_dr2 ?_
  refine x_dr4 ?_
  refine x_iload3 30 dX3_greatestForce_29 rfl ?_
  exact x_iret dX3_greatestForce_30 rfl (Nat.zero_le _) (Nat.zero_le _) hq
set_option maxRecDepth 20000 in
theorem B3_addLayer_0 {ω : Om} {h : AH} {Q : Option Value → AH → Prop} {x0 : Nat} {x1 : Int32} {x2 : Int32} {u3 : Option Value} {u4 : Option Value} (hw : ω.2.2.2.1 = true) (s_x0 : gs h x0 = some (3, 15)) (kk : Ex ω M8_zonesEnd 0 [some (.int x1), some (.int (gi h x0 1))] [] h 0 0 (fun v h' => Ex ω M3_addLayer 8 [some (.ref x0), some (.int x1), some (.int x2), none, none] (v.toList ++ []) h' 0 0 Q)) : Ex ω M3_addLayer 0 [some (.ref x0), some (.int x1), some (.int x2), u3, u4] [] h 0 0 Q := by
  refine x_dr3 ?_
  refine x_dr4 ?_
  refine x_iload1 1 dX3_addLayer_0 rfl ?_
  refine x_aload0 2 dX3_addLayer_1 rfl ?_
  refine x_getI cf3 1 5 dX3_addLayer_2 rfl wd131 (fun _ => s_x0) (by decide) rfl ?_
  exact x_callSN (host := "PalletWrapper") 8 [.int x1, .int (gi h x0 1)] [] dX3_addLayer_5 rfl lk_8_zonesEnd ⟨by decide +kernel, wd494⟩ ⟨by decide, by decide⟩ rfl rfl (Nat.le_of_ble_eq_true rfl) (Nat.le_of_ble_eq_true rfl) (by decide) (by decide) kk
set_option maxRecDepth 20000 in
theorem B3_addLayer_8 {ω : Om} {h : AH} {Q : Option Value → AH → Prop} {x0 : Nat} {x1 : Int32} {x2 : Int32} {u3 : Option Value} {u4 : Option Value} {y0 : Int32} (hw : ω.2.2.2.1 = true) (kk : Ex ω M8_firstZone 0 [some (.int x1)] [] h 0 0 (fun v h' => Ex ω M3_addLayer 13 [some (.ref x0), some (.int x1), some (.int x2), some (.int y0), none] (v.toList ++ []) h' 0 0 Q)) : Ex ω M3_addLayer 8 [some (.ref x0), some (.int x1), some (.int x2), u3, u4] [.int y0] h 0 0 Q := by
  refine x_dr3 ?_
  refine x_dr4 ?_
  refine x_istore3 9 dX3_addLayer_8 rfl (by decide) rfl ?_
  refine x_iload1 10 dX3_addLayer_9 rfl ?_
  exact x_callSN (host := "PalletWrapper") 13 [.int x1] [] dX3_addLayer_10 rfl lk_8_firstZone ⟨by decide +kernel, wd498⟩ ⟨by decide, by decide⟩ rfl rfl (Nat.le_of_ble_eq_true rfl) (Nat.le_of_ble_eq_true rfl) (by decide) (by decide) kk
set_option maxRecDepth 20000 in
theorem B3_addLayer_13 {ω : Om} {h : AH} {Q : Option Value → AH → Prop} {x0 : Nat} {u1 : Option Value} {x2 : Int32} {x3 : Int32} {u4 : Option Value} {y0 : Int32} (hw : ω.2.2.2.1 = true) (kf : Ex ω M3_addLayer 15 [some (.ref x0), none, some (.int x2), some (.int x3), some (.int y0)] [] h 0 0 Q) : Ex ω M3_addLayer 13 [some (.ref x0), u1, some (.int x2), some (.int x3), u4] [.int y0] h 0 0 Q := by
  refine x_dr1 ?_
  refine x_dr4 ?_
  refine x_istore4 15 dX3_addLayer_13 rfl (by decide) rfl ?_
  exact kf
set_option maxRecDepth 20000 in
theorem B3_addLayer_15 {ω : Om} {h : AH} {Q : Option Value → AH → Prop} {x0 : Nat} {u1 : Option Value} {x2 : Int32} {x3 : Int32} {x4 : Int32} (hw : ω.2.2.2.1 = true) (kt : x3 ≤ x4 → Ex ω M3_addLayer 49 [some (.ref x0), none, some (.int x2), some (.int x3), some (.int x4)] [] h 0 0 Q) (kf : ¬ x3 ≤ x4 → Ex ω M3_addLayer 21 [some (.ref x0), none, some (.int x2), some (.int x3), some (.int x4)] [] h 0 0 Q) : Ex ω M3_addLayer 15 [some (.ref x0), u1, some (.int x2), some (.int x3), some (.int x4)] [] h 0 0 Q := by
  refine x_dr1 ?_
  refine x_iload4 17 dX3_addLayer_15 rfl ?_
  refine x_iload3 18 dX3_addLayer_17 rfl ?_
  exact x_icmp_ge 21 49 dX3_addLayer_18 rfl (by decide) kt kf
set_option maxRecDepth 20000 in
theorem B3_addLayer_21 {ω : Om} {h : AH} {Q : Option Value → AH → Prop} {x0 : Nat} {u1 : Option Value} {x2 : Int32} {x3 : Int32} {x4 : Int32} (hw : ω.2.2.2.1 = true) (s_x0 : gs h x0 = some (3, 15)) (i1 : vp_in x4 25) (i2 : vp_in x4 25) (i3 : vp_in x4 25) (i4 : vp_in x4 25) (kf : Ex ω M3_addLayer 43 [some (.ref x0), none, some (.int x2), some (.int x3), some (.int x4)] [] (si (si h (gr h x0 13) (Int32.toNatClampNeg x4) ((gi h (gr h x0 13) (Int32.toNatClampNeg x4)) + (nI 1))) (gr h x0 14) (Int32.toNatClampNeg x4) ((gi (si h (gr h x0 13) (Int32.toNatClampNeg x4) ((gi h (gr h x0 13) (Int32.toNatClampNeg x4)) + (nI 1))) (gr h x0 14) (Int32.toNatClampNeg x4)) + x2)) 0 0 Q) : Ex ω M3_addLayer 21 [some (.ref x0), u1, some (.int x2), some (.int x3), some (.int x4)] [] h 0 0 Q := by
  refine x_dr1 ?_
  refine x_aload0 22 dX3_addLayer_21 rfl ?_
  refine x_getR cf3 13 25 hw dX3_addLayer_22 rfl wd67 (fun _ => s_x0) (by decide) (by decide) rfl ?_
  refine x_iload4 27 dX3_addLayer_25 rfl ?_
  refine x_dup2 28 dX3_addLayer_27 rfl rfl rfl ?_
  refine x_iald (Int32.toNatClampNeg x4) 29 dX3_addLayer_28 rfl (SH.fld hw (fun _ => s_x0) 13 (Nat.le_of_ble_eq_true rfl) rfl rfl) i1 rfl ?_
  refine x_iconst (nI 1) 30 dX3_addLayer_29 rfl rfl ?_
  refine x_iadd 31 dX3_addLayer_30 rfl ?_
  refine x_iast (Int32.toNatClampNeg x4) 32 dX3_addLayer_31 rfl (SH.fld hw (fun _ => s_x0) 13 (Nat.le_of_ble_eq_true rfl) rfl rfl) i2 rfl ?_
  refine x_aload0 33 dX3_addLayer_32 rfl ?_
  refine x_getR cf3 14 36 hw dX3_addLayer_33 rfl wd68 (fun _ => s_x0) (by decide) (by decide) rfl ?_
  refine x_iload4 38 dX3_addLayer_36 rfl ?_
  refine x_dup2 39 dX3_addLayer_38 rfl rfl rfl ?_
  refine x_iald (Int32.toNatClampNeg x4) 40 dX3_addLayer_39 rfl (SH.fld hw (fun _ => s_x0) 14 (Nat.le_of_ble_eq_true rfl) rfl rfl) i3 rfl ?_
  refine x_iload2 41 dX3_addLayer_40 rfl ?_
  refine x_iadd 42 dX3_addLayer_41 rfl ?_
  refine x_iast (Int32.toNatClampNeg x4) 43 dX3_addLayer_42 rfl (SH.fld hw (fun _ => s_x0) 14 (Nat.le_of_ble_eq_true rfl) rfl rfl) i4 rfl ?_
  exact kf
set_option maxRecDepth 20000 in
theorem B3_addLayer_43 {ω : Om} {h : AH} {Q : Option Value → AH → Prop} {x0 : Nat} {u1 : Option Value} {x2 : Int32} {x3 : Int32} {x4 : Int32} (hw : ω.2.2.2.1 = true) (kt : Ex ω M3_addLayer 15 [some (.ref x0), none, some (.int x2), some (.int x3), some (.int (x4 + (nI 1)))] [] h 0 0 Q) : Ex ω M3_addLayer 43 [some (.ref x0), u1, some (.int x2), some (.int x3), some (.int x4)] [] h 0 0 Q := by
  refine x_dr1 ?_
  refine x_iinc4 (x4 + (nI 1)) 46 dX3_addLayer_43 rfl (by decide) rfl rfl ?_
  exact x_goto 15 dX3_addLayer_46 (by decide) kt
set_option maxRecDepth 20000 in
theorem B3_addLayer_49 {ω : Om} {h : AH} {Q : Option Value → AH → Prop} {u0 : Option Value} {u1 : Option Value} {u2 : Option Value} {u3 : Option Value} {u4 : Option Value} (hw : ω.2.2.2.1 = true) (hq : Q none h) : Ex ω M3_addLayer 49 [u0, u1, u2, u3, u4] [] h 0 0 Q := by
  refine x_dr0 ?_
  refine x_dr1 ?_
  refine x_dr2 ?_
  refine x_dr3 ?_
  refine x_dr4 ?_
  exact x_vret dX3_addLayer_49 rfl (Nat.zero_le _) (Nat.zero_le _) hq
set_option maxRecDepth 20000 in
theorem B3_property_0 {ω : Om} {h : AH} {Q : Option Value → AH → Prop} {x0 : Nat} {x1 : Int32} (hw : ω.2.2.2.1 = true) (c0 : x1 = nI 0 → Ex ω M3_property 64 [some (.ref x0), some (.int x1)] [] h 0 0 Q) (c1 : x1 = nI 1 → Ex ω M3_property 69 [some (.ref x0), some (.int x1)] [] h 0 0 Q) (c2 : x1 = nI 2 → Ex ω M3_property 74 [some (.ref x0), some (.int x1)] [] h 0 0 Q) (c3 : x1 = nI 3 → Ex ω M3_property 79 [some (.ref x0), some (.int x1)] [] h 0 0 Q) (c4 : x1 = nI 4 → Ex ω M3_property 84 [some (.ref x0), some (.int x1)] [] h 0 0 Q) (c5 : x1 = nI 5 → Ex ω M3_property 89 [some (.ref x0), some (.int x1)] [] h 0 0 Q) (c6 : x1 = nI 6 → Ex ω M3_property 104 [some (.ref x0), some (.int x1)] [] h 0 0 Q) (c7 : x1 = nI 7 → Ex ω M3_property 109 [some (.ref x0), some (.int x1)] [] h 0 0 Q) (c8 : x1 = nI 8 → Ex ω M3_property 114 [some (.ref x0), some (.int x1)] [] h 0 0 Q) (c9 : x1 = nI 9 → Ex ω M3_property 126 [some (.ref x0), some (.int x1)] [] h 0 0 Q) (c10 : x1 = nI 10 → Ex ω M3_property 136 [some (.ref x0), some (.int x1)] [] h 0 0 Q) (c11 : x1 = nI 11 → Ex ω M3_property 141 [some (.ref x0), some (.int x1)] [] h 0 0 Q) (cd : (¬ (0 ≤ x1 ∧ x1 ≤ nI 11)) → Ex ω M3_property 146 [some (.ref x0), some (.int x1)] [] h 0 0 Q) : Ex ω M3_property 0 [some (.ref x0), some (.int x1)] [] h 0 0 Q := by
  refine x_iload1 1 dX3_property_0 rfl ?_
  refine x_tsw 11 [64, 69, 74, 79, 84, 89, 104, 109, 114, 126, 136, 141] 146 dX3_property_1 (by decide) (by decide) (by decide) (by decide) (by decide) cd (fun j hj e => ?_)
  match j, hj with
  | 0, _ => exact c0 e
  | 1, _ => exact c1 e
  | 2, _ => exact c2 e
  | 3, _ => exact c3 e
  | 4, _ => exact c4 e
  | 5, _ => exact c5 e
  | 6, _ => exact c6 e
  | 7, _ => exact c7 e
  | 8, _ => exact c8 e
  | 9, _ => exact c9 e
  | 10, _ => exact c10 e
  | 11, _ => exact c11 e
  | j + 12, hj => exact absurd hj (by simp)
set_option maxRecDepth 20000 in
theorem B3_property_64 {ω : Om} {h : AH} {Q : Option Value → AH → Prop} {x0 : Nat} {u1 : Option Value} (hw : ω.2.2.2.1 = true) (s_x0 : gs h x0 = some (3, 15)) (hq : Q (some (.int (gi h x0 0))) h) : Ex ω M3_property 64 [some (.ref x0), u1] [] h 0 0 Q := by
  refine x_dr1 ?_
  refine x_aload0 65 dX3_property_64 rfl ?_
  refine x_getI cf3 0 68 dX3_property_65 rfl wd130 (fun _ => s_x0) (by decide) rfl ?_
  exact x_iret dX3_property_68 rfl (Nat.zero_le _) (Nat.zero_le _) hq
set_option maxRecDepth 20000 in
theorem B3_property_69 {ω : Om} {h : AH} {Q : Option Value → AH → Prop} {x0 : Nat} {u1 : Option Value} (hw : ω.2.2.2.1 = true) (s_x0 : gs h x0 = some (3, 15)) (hq : Q (some (.int (gi h x0 2))) h) : Ex ω M3_property 69 [some (.ref x0), u1] [] h 0 0 Q := by
  refine x_dr1 ?_
  refine x_aload0 70 dX3_property_69 rfl ?_
  refine x_getI cf3 2 73 dX3_property_70 rfl wd132 (fun _ => s_x0) (by decide) rfl ?_
  exact x_iret dX3_property_73 rfl (Nat.zero_le _) (Nat.zero_le _) hq
set_option maxRecDepth 20000 in
theorem B3_property_74 {ω : Om} {h : AH} {Q : Option Value → AH → Prop} {x0 : Nat} {u1 : Option Value} (hw : ω.2.2.2.1 = true) (s_x0 : gs h x0 = some (3, 15)) (hq : Q (some (.int (gi h x0 3))) h) : Ex ω M3_property 74 [some (.ref x0), u1] [] h 0 0 Q := by
  refine x_dr1 ?_
  refine x_aload0 75 dX3_property_74 rfl ?_
  refine x_getI cf3 3 78 dX3_property_75 rfl wd133 (fun _ => s_x0) (by decide) rfl ?_
  exact x_iret dX3_property_78 rfl (Nat.zero_le _) (Nat.zero_le _) hq
set_option maxRecDepth 20000 in
theorem B3_property_79 {ω : Om} {h : AH} {Q : Option Value → AH → Prop} {x0 : Nat} {u1 : Option Value} (hw : ω.2.2.2.1 = true) (s_x0 : gs h x0 = some (3, 15)) (hq : Q (some (.int (gi h x0 4))) h) : Ex ω M3_property 79 [some (.ref x0), u1] [] h 0 0 Q := by
  refine x_dr1 ?_
  refine x_aload0 80 dX3_property_79 rfl ?_
  refine x_getI cf3 4 83 dX3_property_80 rfl wd134 (fun _ => s_x0) (by decide) rfl ?_
  exact x_iret dX3_property_83 rfl (Nat.zero_le _) (Nat.zero_le _) hq
set_option maxRecDepth 20000 in
theorem B3_property_84 {ω : Om} {h : AH} {Q : Option Value → AH → Prop} {x0 : Nat} {u1 : Option Value} (hw : ω.2.2.2.1 = true) (s_x0 : gs h x0 = some (3, 15)) (hq : Q (some (.int (gi h x0 5))) h) : Ex ω M3_property 84 [some (.ref x0), u1] [] h 0 0 Q := by
  refine x_dr1 ?_
  refine x_aload0 85 dX3_property_84 rfl ?_
  refine x_getI cf3 5 88 dX3_property_85 rfl wd135 (fun _ => s_x0) (by decide) rfl ?_
  exact x_iret dX3_property_88 rfl (Nat.zero_le _) (Nat.zero_le _) hq
set_option maxRecDepth 20000 in
theorem B3_property_89 {ω : Om} {h : AH} {Q : Option Value → AH → Prop} {x0 : Nat} {u1 : Option Value} (hw : ω.2.2.2.1 = true) (s_x0 : gs h x0 = some (3, 15)) (hq : Q (some (.int (((gi h x0 6) + (gi h x0 7)) + (gi h x0 8)))) h) : Ex ω M3_property 89 [some (.ref x0), u1] [] h 0 0 Q := by
  refine x_dr1 ?_
  refine x_aload0 90 dX3_property_89 rfl ?_
  refine x_getI cf3 6 93 dX3_property_90 rfl wd136 (fun _ => s_x0) (by decide) rfl ?_
  refine x_aload0 94 dX3_property_93 rfl ?_
  refine x_getI cf3 7 97 dX3_property_94 rfl wd137 (fun _ => s_x0) (by decide) rfl ?_
  refine x_iadd 98 dX3_property_97 rfl ?_
  refine x_aload0 99 dX3_property_98 rfl ?_
  refine x_getI cf3 8 102 dX3_property_99 rfl wd138 (fun _ => s_x0) (by decide) rfl ?_
  refine x_iadd 103 dX3_property_102 rfl ?_
  exact x_iret dX3_property_103 rfl (Nat.zero_le _) (Nat.zero_le _) hq
set_option maxRecDepth 20000 in
theorem B3_property_104 {ω : Om} {h : AH} {Q : Option Value → AH → Prop} {x0 : Nat} {u1 : Option Value} (hw : ω.2.2.2.1 = true) (s_x0 : gs h x0 = some (3, 15)) (hq : Q (some (.int (gi h x0 9))) h) : Ex ω M3_property 104 [some (.ref x0), u1] [] h 0 0 Q := by
  refine x_dr1 ?_
  refine x_aload0 105 dX3_property_104 rfl ?_
  refine x_getI cf3 9 108 dX3_property_105 rfl wd139 (fun _ => s_x0) (by decide) rfl ?_
  exact x_iret dX3_property_108 rfl (Nat.zero_le _) (Nat.zero_le _) hq
set_option maxRecDepth 20000 in
theorem B3_property_109 {ω : Om} {h : AH} {Q : Option Value → AH → Prop} {x0 : Nat} {u1 : Option Value} (hw : ω.2.2.2.1 = true) (s_x0 : gs h x0 = some (3, 15)) (hq : Q (some (.int (gi h x0 10))) h) : Ex ω M3_property 109 [some (.ref x0), u1] [] h 0 0 Q := by
  refine x_dr1 ?_
  refine x_aload0 110 dX3_property_109 rfl ?_
  refine x_getI cf3 10 113 dX3_property_110 rfl wd140 (fun _ => s_x0) (by decide) rfl ?_
  exact x_iret dX3_property_113 rfl (Nat.zero_le _) (Nat.zero_le _) hq
set_option maxRecDepth 20000 in
theorem B3_property_114 {ω : Om} {h : AH} {Q : Option Value → AH → Prop} {x0 : Nat} {u1 : Option Value} (hw : ω.2.2.2.1 = true) (s_x0 : gs h x0 = some (3, 15)) (kk : Ex ω M8_least 0 [some (.ref (gr h x0 13)), some (.int (gi h x0 1)), none, none] [] h 0 0 (fun v h' => Ex ω M3_property 125 [some (.ref x0), none] (v.toList ++ []) h' 0 0 Q)) : Ex ω M3_property 114 [some (.ref x0), u1] [] h 0 0 Q := by
  refine x_dr1 ?_
  refine x_aload0 115 dX3_property_114 rfl ?_
  refine x_getR cf3 13 118 hw dX3_property_115 rfl wd67 (fun _ => s_x0) (by decide) (by decide) rfl ?_
  refine x_aload0 119 dX3_property_118 rfl ?_
  refine x_getI cf3 1 122 dX3_property_119 rfl wd131 (fun _ => s_x0) (by decide) rfl ?_
  exact x_callSN (host := "PalletWrapper") 125 [.ref (gr h x0 13), .int (gi h x0 1)] [] dX3_property_122 rfl lk_8_least ⟨by decide +kernel, wd583⟩ ⟨by decide, by decide⟩ rfl rfl (Nat.le_of_ble_eq_true rfl) (Nat.le_of_ble_eq_true rfl) (by decide) (by decide) kk
set_option maxRecDepth 20000 in
theorem B3_property_125 {ω : Om} {h : AH} {Q : Option Value → AH → Prop} {u0 : Option Value} {u1 : Option Value} {y0 : Int32} (hw : ω.2.2.2.1 = true) (hq : Q (some (.int y0)) h) : Ex ω M3_property 125 [u0, u1] [.int y0] h 0 0 Q := by
  refine x_dr0 ?_
  refine x_dr1 ?_
  exact x_iret dX3_property_125 rfl (Nat.zero_le _) (Nat.zero_le _) hq
set_option maxRecDepth 20000 in
theorem B3_property_126 {ω : Om} {h : AH} {Q : Option Value → AH → Prop} {x0 : Nat} {u1 : Option Value} (hw : ω.2.2.2.1 = true) (s_x0 : gs h x0 = some (3, 15)) (kk : Ex ω M3_greatestForce 0 [some (.ref x0), some (.int (nI 0)), some (.int (gi h x0 1)), none, none] [] h 0 0 (fun v h' => Ex ω M3_property 135 [some (.ref x0), none] (v.toList ++ []) h' 0 0 Q)) : Ex ω M3_property 126 [some (.ref x0), u1] [] h 0 0 Q := by
  refine x_dr1 ?_
  refine x_aload0 127 dX3_property_126 rfl ?_
  refine x_iconst (nI 0) 128 dX3_property_127 rfl rfl ?_
  refine x_aload0 129 dX3_property_128 rfl ?_
  refine x_getI cf3 1 132 dX3_property_129 rfl wd131 (fun _ => s_x0) (by decide) rfl ?_
  exact x_callV 135 x0 [.int (nI 0), .int (gi h x0 1)] [] dX3_property_132 rfl lk_3_greatestForce ⟨wd585, wd501, wd502⟩ ⟨by decide, by decide⟩ (recvO cf3 (fun _ => s_x0)) rfl rfl (Nat.le_of_ble_eq_true rfl) (Nat.le_of_ble_eq_true rfl) (by decide) (by decide) kk
set_option maxRecDepth 20000 in
theorem B3_property_135 {ω : Om} {h : AH} {Q : Option Value → AH → Prop} {u0 : Option Value} {u1 : Option Value} {y0 : Int32} (hw : ω.2.2.2.1 = true) (hq : Q (some (.int y0)) h) : Ex ω M3_property 135 [u0, u1] [.int y0] h 0 0 Q := by
  refine x_dr0 ?_
  refine x_dr1 ?_
  exact x_iret dX3_property_135 rfl (Nat.zero_le _) (Nat.zero_le _) hq
set_option maxRecDepth 20000 in
theorem B3_property_136 {ω : Om} {h : AH} {Q : Option Value → AH → Prop} {x0 : Nat} {u1 : Option Value} (hw : ω.2.2.2.1 = true) (s_x0 : gs h x0 = some (3, 15)) (hq : Q (some (.int (gi h x0 11))) h) : Ex ω M3_property 136 [some (.ref x0), u1] [] h 0 0 Q := by
  refine x_dr1 ?_
  refine x_aload0 137 dX3_property_136 rfl ?_
  refine x_getI cf3 11 140 dX3_property_137 rfl wd141 (fun _ => s_x0) (by decide) rfl ?_
  exact x_iret dX3_property_140 rfl (Nat.zero_le _) (Nat.zero_le _) hq
set_option maxRecDepth 20000 in
theorem B3_property_141 {ω : Om} {h : AH} {Q : Option Value → AH → Prop} {x0 : Nat} {u1 : Option Value} (hw : ω.2.2.2.1 = true) (s_x0 : gs h x0 = some (3, 15)) (hq : Q (some (.int (gi h x0 12))) h) : Ex ω M3_property 141 [some (.ref x0), u1] [] h 0 0 Q := by
  refine x_dr1 ?_
  refine x_aload0 142 dX3_property_141 rfl ?_
  refine x_getI cf3 12 145 dX3_property_142 rfl wd142 (fun _ => s_x0) (by decide) rfl ?_
  exact x_iret dX3_property_145 rfl (Nat.zero_le _) (Nat.zero_le _) hq
set_option maxRecDepth 20000 in
theorem B3_property_146 {ω : Om} {h : AH} {Q : Option Value → AH → Prop} {x0 : Nat} {u1 : Option Value} (hw : ω.2.2.2.1 = true) (s_x0 : gs h x0 = some (3, 15)) (hq : Q (some (.int (gi h x0 1))) h) : Ex ω M3_property 146 [some (.ref x0), u1] [] h 0 0 Q := by
  refine x_dr1 ?_
  refine x_aload0 147 dX3_property_146 rfl ?_
  refine x_getI cf3 1 150 dX3_property_147 rfl wd131 (fun _ => s_x0) (by decide) rfl ?_
  exact x_iret dX3_property_150 rfl (Nat.zero_le _) (Nat.zero_le _) hq
set_option maxRecDepth 20000 in
theorem B4_begin_0 {ω : Om} {h : AH} {Q : Option Value → AH → Prop} {x0 : Nat} {x1 : Int32} {x2 : Int32} (hw : ω.2.2.2.1 = true) (s_x0 : gs h x0 = some (4, 6)) (hq : Q none (si (si (si (si h x0 0 x1) x0 1 x2) x0 2 (nI 0)) x0 3 (nI 0))) : Ex ω M4_begin 0 [some (.ref x0), some (.int x1), some (.int x2)] [] h 0 0 Q := by
  refine x_aload0 1 dX4_begin_0 rfl ?_
  refine x_iload1 2 dX4_begin_1 rfl ?_
  refine x_putI cf4 0 5 dX4_begin_2 rfl wd108 (fun _ => s_x0) (by decide) rfl rfl ?_
  refine x_aload0 6 dX4_begin_5 rfl ?_
  refine x_iload2 7 dX4_begin_6 rfl ?_
  refine x_putI cf4 1 10 dX4_begin_7 rfl wd109 (fun _ => s_x0) (by decide) rfl rfl ?_
  refine x_aload0 11 dX4_begin_10 rfl ?_
  refine x_iconst (nI 0) 12 dX4_begin_11 rfl rfl ?_
  refine x_putI cf4 2 15 dX4_begin_12 rfl wd110 (fun _ => s_x0) (by decide) rfl rfl ?_
  refine x_aload0 16 dX4_begin_15 rfl ?_
  refine x_iconst (nI 0) 17 dX4_begin_16 rfl rfl ?_
  refine x_putI cf4 3 20 dX4_begin_17 rfl wd111 (fun _ => s_x0) (by decide) rfl rfl ?_
  exact x_vret dX4_begin_20 rfl (Nat.zero_le _) (Nat.zero_le _) hq
set_option maxRecDepth 20000 in
theorem B4_copyFrom_0 {ω : Om} {h : AH} {Q : Option Value → AH → Prop} {x0 : Nat} {x1 : Nat} {u2 : Option Value} (hw : ω.2.2.2.1 = true) (s_x1 : gs h x1 = some (4, 6)) (s_x0 : gs h x0 = some (4, 6)) (kf : Ex ω M4_copyFrom 24 [some (.ref x0), some (.ref x1), none] [] (si (si (si h x0 0 (gi h x1 0)) x0 1 (gi (si h x0 0 (gi h x1 0)) x1 1)) x0 2 (gi (si (si h x0 0 (gi h x1 0)) x0 1 (gi (si h x0 0 (gi h x1 0)) x1 1)) x1 2)) 0 0 Q) : Ex ω M4_copyFrom 0 [some (.ref x0), some (.ref x1), u2] [] h 0 0 Q := by
  refine x_dr2 ?_
  refine x_aload0 1 dX4_copyFrom_0 rfl ?_
  refine x_aload1 2 dX4_copyFrom_1 rfl ?_
  refine x_getI cf4 0 5 dX4_copyFrom_2 rfl wd108 (fun _ => s_x1) (by decide) rfl ?_
  refine x_putI cf4 0 8 dX4_copyFrom_5 rfl wd108 (fun _ => s_x0) (by decide) rfl rfl ?_
  refine x_aload0 9 dX4_copyFrom_8 rfl ?_
  refine x_aload1 10 dX4_copyFrom_9 rfl ?_
  refine x_getI cf4 1 13 dX4_copyFrom_10 rfl wd109 (fun _ => s_x1) (by decide) rfl ?_
  refine x_putI cf4 1 16 dX4_copyFrom_13 rfl wd109 (fun _ => s_x0) (by decide) rfl rfl ?_
  refine x_aload0 17 dX4_copyFrom_16 rfl ?_
  refine x_aload1 18 dX4_copyFrom_17 rfl ?_
  refine x_getI cf4 2 21 dX4_copyFrom_18 rfl wd110 (fun _ => s_x1) (by decide) rfl ?_
  refine x_putI cf4 2 24 dX4_copyFrom_21 rfl wd110 (fun _ => s_x0) (by decide) rfl rfl ?_
  exact kf
set_option maxRecDepth 20000 in
theorem B4_copyFrom_24 {ω : Om} {h : AH} {Q : Option Value → AH → Prop} {x0 : Nat} {x1 : Nat} {u2 : Option Value} (hw : ω.2.2.2.1 = true) (s_x1 : gs h x1 = some (4, 6)) (s_x0 : gs h x0 = some (4, 6)) (kf : Ex ω M4_copyFrom 34 [some (.ref x0), some (.ref x1), some (.int (nI 0))] [] (si h x0 3 (gi h x1 3)) 0 0 Q) : Ex ω M4_copyFrom 24 [some (.ref x0), some (.ref x1), u2] [] h 0 0 Q := by
  refine x_dr2 ?_
  refine x_aload0 25 dX4_copyFrom_24 rfl ?_
  refine x_aload1 26 dX4_copyFrom_25 rfl ?_
  refine x_getI cf4 3 29 dX4_copyFrom_26 rfl wd111 (fun _ => s_x1) (by decide) rfl ?_
  refine x_putI cf4 3 32 dX4_copyFrom_29 rfl wd111 (fun _ => s_x0) (by decide) rfl rfl ?_
  refine x_iconst (nI 0) 33 dX4_copyFrom_32 rfl rfl ?_
  refine x_istore2 34 dX4_copyFrom_33 rfl (by decide) rfl ?_
  exact kf
set_option maxRecDepth 20000 in
theorem B4_copyFrom_34 {ω : Om} {h : AH} {Q : Option Value → AH → Prop} {x0 : Nat} {x1 : Nat} {x2 : Int32} (hw : ω.2.2.2.1 = true) (s_x0 : gs h x0 = some (4, 6)) (kt : (gi h x0 3) ≤ x2 → Ex ω M4_copyFrom 72 [some (.ref x0), some (.ref x1), some (.int x2)] [] h 0 0 Q) (kf : ¬ (gi h x0 3) ≤ x2 → Ex ω M4_copyFrom 42 [some (.ref x0), some (.ref x1), some (.int x2)] [] h 0 0 Q) : Ex ω M4_copyFrom 34 [some (.ref x0), some (.ref x1), some (.int x2)] [] h 0 0 Q := by
  refine x_iload2 35 dX4_copyFrom_34 rfl ?_
  refine x_aload0 36 dX4_copyFrom_35 rfl ?_
  refine x_getI cf4 3 39 dX4_copyFrom_36 rfl wd111 (fun _ => s_x0) (by decide) rfl ?_
  exact x_icmp_ge 42 72 dX4_copyFrom_39 rfl (by decide) kt kf
set_option maxRecDepth 20000 in
theorem B4_copyFrom_42 {ω : Om} {h : AH} {Q : Option Value → AH → Prop} {x0 : Nat} {x1 : Nat} {x2 : Int32} (hw : ω.2.2.2.1 = true) (s_x0 : gs h x0 = some (4, 6)) (s_x1 : gs h x1 = some (4, 6)) (i1 : vp_in x2 8) (i2 : vp_in x2 8) (i3 : vp_in x2 8) (i4 : vp_in x2 8) (kf : Ex ω M4_copyFrom 66 [some (.ref x0), some (.ref x1), some (.int x2)] [] (si (si h (gr h x0 4) (Int32.toNatClampNeg x2) (gi h (gr h x1 4) (Int32.toNatClampNeg x2))) (gr h x0 5) (Int32.toNatClampNeg x2) (gi (si h (gr h x0 4) (Int32.toNatClampNeg x2) (gi h (gr h x1 4) (Int32.toNatClampNeg x2))) (gr h x1 5) (Int32.toNatClampNeg x2))) 0 0 Q) : Ex ω M4_copyFrom 42 [some (.ref x0), some (.ref x1), some (.int x2)] [] h 0 0 Q := by
  refine x_aload0 43 dX4_copyFrom_42 rfl ?_
  refine x_getR cf4 4 46 hw dX4_copyFrom_43 rfl wd58 (fun _ => s_x0) (by decide) (by decide) rfl ?_
  refine x_iload2 47 dX4_copyFrom_46 rfl ?_
  refine x_aload1 48 dX4_copyFrom_47 rfl ?_
  refine x_getR cf4 4 51 hw dX4_copyFrom_48 rfl wd58 (fun _ => s_x1) (by decide) (by decide) rfl ?_
  refine x_iload2 52 dX4_copyFrom_51 rfl ?_
  refine x_iald (Int32.toNatClampNeg x2) 53 dX4_copyFrom_52 rfl (SH.fld hw (fun _ => s_x1) 4 (Nat.le_of_ble_eq_true rfl) rfl rfl) i1 rfl ?_
  refine x_iast (Int32.toNatClampNeg x2) 54 dX4_copyFrom_53 rfl (SH.fld hw (fun _ => s_x0) 4 (Nat.le_of_ble_eq_true rfl) rfl rfl) i2 rfl ?_
  refine x_aload0 55 dX4_copyFrom_54 rfl ?_
  refine x_getR cf4 5 58 hw dX4_copyFrom_55 rfl wd59 (fun _ => s_x0) (by decide) (by decide) rfl ?_
  refine x_iload2 59 dX4_copyFrom_58 rfl ?_
  refine x_aload1 60 dX4_copyFrom_59 rfl ?_
  refine x_getR cf4 5 63 hw dX4_copyFrom_60 rfl wd59 (fun _ => s_x1) (by decide) (by decide) rfl ?_
  refine x_iload2 64 dX4_copyFrom_63 rfl ?_
  refine x_iald (Int32.toNatClampNeg x2) 65 dX4_copyFrom_64 rfl (SH.fld hw (fun _ => s_x1) 5 (Nat.le_of_ble_eq_true rfl) rfl rfl) i3 rfl ?_
  refine x_iast (Int32.toNatClampNeg x2) 66 dX4_copyFrom_65 rfl (SH.fld hw (fun _ => s_x0) 5 (Nat.le_of_ble_eq_true rfl) rfl rfl) i4 rfl ?_
  exact kf
set_option maxRecDepth 20000 in
theorem B4_copyFrom_66 {ω : Om} {h : AH} {Q : Option Value → AH → Prop} {x0 : Nat} {x1 : Nat} {x2 : Int32} (hw : ω.2.2.2.1 = true) (kt : Ex ω M4_copyFrom 34 [some (.ref x0), some (.ref x1), some (.int (x2 + (nI 1)))] [] h 0 0 Q) : Ex ω M4_copyFrom 66 [some (.ref x0), some (.ref x1), some (.int x2)] [] h 0 0 Q := by
  refine x_iinc2 (x2 + (nI 1)) 69 dX4_copyFrom_66 rfl (by decide) rfl rfl ?_
  exact x_goto 34 dX4_copyFrom_69 (by decide) kt
set_option maxRecDepth 20000 in
theorem B4_copyFrom_72 {ω : Om} {h : AH} {Q : Option Value → AH → Prop} {u0 : Option Value} {u1 : Option Value} {u2 : Option Value} (hw : ω.2.2.2.1 = true) (hq : Q none h) : Ex ω M4_copyFrom 72 [u0, u1, u2] [] h 0 0 Q := by
  refine x_dr0 ?_
  refine x_dr1 ?_
  refine x_dr2 ?_
  exact x_vret dX4_copyFrom_72 rfl (Nat.zero_le _) (Nat.zero_le _) hq
set_option maxRecDepth 20000 in
theorem B4_rest_0 {ω : Om} {h : AH} {Q : Option Value → AH → Prop} {x0 : Nat} (hw : ω.2.2.2.1 = true) (s_x0 : gs h x0 = some (4, 6)) (hq : Q (some (.int ((gi h x0 0) - (gi h x0 2)))) h) : Ex ω M4_rest 0 [some (.ref x0)] [] h 0 0 Q := by
  refine x_aload0 1 dX4_rest_0 rfl ?_
  refine x_getI cf4 0 4 dX4_rest_1 rfl wd108 (fun _ => s_x0) (by decide) rfl ?_
  refine x_aload0 5 dX4_rest_4 rfl ?_
  refine x_getI cf4 2 8 dX4_rest_5 rfl wd110 (fun _ => s_x0) (by decide) rfl ?_
  refine x_isub 9 dX4_rest_8 rfl ?_
  exact x_iret dX4_rest_9 rfl (Nat.zero_le _) (Nat.zero_le _) hq
set_option maxRecDepth 20000 in
theorem B4_isWeakAt_0 {ω : Om} {h : AH} {Q : Option Value → AH → Prop} {x0 : Nat} {x1 : Int32} {u2 : Option Value} (hw : ω.2.2.2.1 = true) (kf : Ex ω M4_isWeakAt 2 [some (.ref x0), some (.int x1), some (.int (nI 0))] [] h 0 0 Q) : Ex ω M4_isWeakAt 0 [some (.ref x0), some (.int x1), u2] [] h 0 0 Q := by
  refine x_dr2 ?_
  refine x_iconst (nI 0) 1 dX4_isWeakAt_0 rfl rfl ?_
  refine x_istore2 2 dX4_isWeakAt_1 rfl (by decide) rfl ?_
  exact kf
set_option maxRecDepth 20000 in
theorem B4_isWeakAt_2 {ω : Om} {h : AH} {Q : Option Value → AH → Prop} {x0 : Nat} {x1 : Int32} {x2 : Int32} (hw : ω.2.2.2.1 = true) (s_x0 : gs h x0 = some (4, 6)) (kt : (gi h x0 3) ≤ x2 → Ex ω M4_isWeakAt 28 [some (.ref x0), some (.int x1), some (.int x2)] [] h 0 0 Q) (kf : ¬ (gi h x0 3) ≤ x2 → Ex ω M4_isWeakAt 10 [some (.ref x0), some (.int x1), some (.int x2)] [] h 0 0 Q) : Ex ω M4_isWeakAt 2 [some (.ref x0), some (.int x1), some (.int x2)] [] h 0 0 Q := by
  refine x_iload2 3 dX4_isWeakAt_2 rfl ?_
  refine x_aload0 4 dX4_isWeakAt_3 rfl ?_
  refine x_getI cf4 3 7 dX4_isWeakAt_4 rfl wd111 (fun _ => s_x0) (by decide) rfl ?_
  exact x_icmp_ge 10 28 dX4_isWeakAt_7 rfl (by decide) kt kf
set_option maxRecDepth 20000 in
theorem B4_isWeakAt_10 {ω : Om} {h : AH} {Q : Option Value → AH → Prop} {x0 : Nat} {x1 : Int32} {x2 : Int32} (hw : ω.2.2.2.1 = true) (s_x0 : gs h x0 = some (4, 6)) (i1 : vp_in x2 8) (kt : ¬ (gi h (gr h x0 4) (Int32.toNatClampNeg x2)) = x1 → Ex ω M4_isWeakAt 22 [some (.ref x0), some (.int x1), some (.int x2)] [] h 0 0 Q) (kf : (gi h (gr h x0 4) (Int32.toNatClampNeg x2)) = x1 → Ex ω M4_isWeakAt 20 [some (.ref x0), some (.int x1), some (.int x2)] [] h 0 0 Q) : Ex ω M4_isWeakAt 10 [some (.ref x0), some (.int x1), some (.int x2)] [] h 0 0 Q := by
  refine x_aload0 11 dX4_isWeakAt_10 rfl ?_
  refine x_getR cf4 4 14 hw dX4_isWeakAt_11 rfl wd58 (fun _ => s_x0) (by decide) (by decide) rfl ?_
  refine x_iload2 15 dX4_isWeakAt_14 rfl ?_
  refine x_iald (Int32.toNatClampNeg x2) 16 dX4_isWeakAt_15 rfl (SH.fld hw (fun _ => s_x0) 4 (Nat.le_of_ble_eq_true rfl) rfl rfl) i1 rfl ?_
  refine x_iload1 17 dX4_isWeakAt_16 rfl ?_
  exact x_icmp_ne 20 22 dX4_isWeakAt_17 rfl (by decide) kt kf
set_option maxRecDepth 20000 in
theorem B4_isWeakAt_20 {ω : Om} {h : AH} {Q : Option Value → AH → Prop} {u0 : Option Value} {u1 : Option Value} {u2 : Option Value} (hw : ω.2.2.2.1 = true) (hq : Q (some (.int (nI 1))) h) : Ex ω M4_isWeakAt 20 [u0, u1, u2] [] h 0 0 Q := by
  refine x_dr0 ?_
  refine x_dr1 ?_
  refine x_dr2 ?_
  refine x_iconst (nI 1) 21 dX4_isWeakAt_20 rfl rfl ?_
  exact x_zret dX4_isWeakAt_21 rfl rfl (Nat.zero_le _) (Nat.zero_le _) hq
set_option maxRecDepth 20000 in
theorem B4_isWeakAt_22 {ω : Om} {h : AH} {Q : Option Value → AH → Prop} {x0 : Nat} {x1 : Int32} {x2 : Int32} (hw : ω.2.2.2.1 = true) (kt : Ex ω M4_isWeakAt 2 [some (.ref x0), some (.int x1), some (.int (x2 + (nI 1)))] [] h 0 0 Q) : Ex ω M4_isWeakAt 22 [some (.ref x0), some (.int x1), some (.int x2)] [] h 0 0 Q := by
  refine x_iinc2 (x2 + (nI 1)) 25 dX4_isWeakAt_22 rfl (by decide) rfl rfl ?_
  exact x_goto 2 dX4_isWeakAt_25 (by decide) kt
set_option maxRecDepth 20000 in
theorem B4_isWeakAt_28 {ω : Om} {h : AH} {Q : Option Value → AH → Prop} {u0 : Option Value} {u1 : Option Value} {u2 : Option Value} (hw : ω.2.2.2.1 = true) (hq : Q (some (.int (nI 0))) h) : Ex ω M4_isWeakAt 28 [u0, u1, u2] [] h 0 0 Q := by
  refine x_dr0 ?_
  refine x_dr1 ?_
  refine x_dr2 ?_
  refine x_iconst (nI 0) 29 dX4_isWeakAt_28 rfl rfl ?_
  exact x_zret dX4_isWeakAt_29 rfl rfl (Nat.zero_le _) (Nat.zero_le _) hq
set_option maxRecDepth 20000 in
theorem B4_insertWeakPlace_0 {ω : Om} {h : AH} {Q : Option Value → AH → Prop} {x0 : Nat} {x1 : Int32} {x2 : Int32} {u3 : Option Value} (hw : ω.2.2.2.1 = true) (s_x0 : gs h x0 = some (4, 6)) (kt : (gi h x0 3) < (nI 8) → Ex ω M4_insertWeakPlace 10 [some (.ref x0), some (.int x1), some (.int x2), none] [] h 0 0 Q) (kf : ¬ (gi h x0 3) < (nI 8) → Ex ω M4_insertWeakPlace 9 [some (.ref x0), some (.int x1), some (.int x2), none] [] h 0 0 Q) : Ex ω M4_insertWeakPlace 0 [some (.ref x0), some (.int x1), some (.int x2), u3] [] h 0 0 Q := by
  refine x_dr3 ?_
  refine x_aload0 1 dX4_insertWeakPlace_0 rfl ?_
  refine x_getI cf4 3 4 dX4_insertWeakPlace_1 rfl wd111 (fun _ => s_x0) (by decide) rfl ?_
  refine x_bipush (nI 8) 6 dX4_insertWeakPlace_4 rfl rfl ?_
  exact x_icmp_lt 9 10 dX4_insertWeakPlace_6 rfl (by decide) kt kf
set_option maxRecDepth 20000 in
theorem B4_insertWeakPlace_9 {ω : Om} {h : AH} {Q : Option Value → AH → Prop} {u0 : Option Value} {u1 : Option Value} {u2 : Option Value} {u3 : Option Value} (hw : ω.2.2.2.1 = true) (hq : Q none h) : Ex ω M4_insertWeakPlace 9 [u0, u1, u2, u3] [] h 0 0 Q := by
  refine x_dr0 ?_
  refine x_dr1 ?_
  refine x_dr2 ?_
  refine x_dr3 ?_
  exact x_vret dX4_insertWeakPlace_9 rfl (Nat.zero_le _) (Nat.zero_le _) hq
set_option maxRecDepth 20000 in
theorem B4_insertWeakPlace_10 {ω : Om} {h : AH} {Q : Option Value → AH → Prop} {x0 : Nat} {x1 : Int32} {x2 : Int32} {u3 : Option Value} (hw : ω.2.2.2.1 = true) (s_x0 : gs h x0 = some (4, 6)) (kf : Ex ω M4_insertWeakPlace 15 [some (.ref x0), some (.int x1), some (.int x2), some (.int (gi h x0 3))] [] h 0 0 Q) : Ex ω M4_insertWeakPlace 10 [some (.ref x0), some (.int x1), some (.int x2), u3] [] h 0 0 Q := by
  refine x_dr3 ?_
  refine x_aload0 11 dX4_insertWeakPlace_10 rfl ?_
  refine x_getI cf4 3 14 dX4_insertWeakPlace_11 rfl wd111 (fun _ => s_x0) (by decide) rfl ?_
  refine x_istore3 15 dX4_insertWeakPlace_14 rfl (by decide) rfl ?_
  exact kf
set_option maxRecDepth 20000 in
theorem B4_insertWeakPlace_15 {ω : Om} {h : AH} {Q : Option Value → AH → Prop} {x0 : Nat} {x1 : Int32} {x2 : Int32} {x3 : Int32} (hw : ω.2.2.2.1 = true) (kt : x3 ≤ 0 → Ex ω M4_insertWeakPlace 65 [some (.ref x0), some (.int x1), some (.int x2), some (.int x3)] [] h 0 0 Q) (kf : ¬ x3 ≤ 0 → Ex ω M4_insertWeakPlace 19 [some (.ref x0), some (.int x1), some (.int x2), some (.int x3)] [] h 0 0 Q) : Ex ω M4_insertWeakPlace 15 [some (.ref x0), some (.int x1), some (.int x2), some (.int x3)] [] h 0 0 Q := by
  refine x_iload3 16 dX4_insertWeakPlace_15 rfl ?_
  exact x_if_le 19 65 dX4_insertWeakPlace_16 rfl (by decide) kt kf
set_option maxRecDepth 20000 in
theorem B4_insertWeakPlace_19 {ω : Om} {h : AH} {Q : Option Value → AH → Prop} {x0 : Nat} {x1 : Int32} {x2 : Int32} {x3 : Int32} (hw : ω.2.2.2.1 = true) (s_x0 : gs h x0 = some (4, 6)) (i1 : vp_in (x3 - (nI 1)) 8) (kt : (gi h (gr h x0 4) (Int32.toNatClampNeg (x3 - (nI 1)))) ≤ x1 → Ex ω M4_insertWeakPlace 65 [some (.ref x0), some (.int x1), some (.int x2), some (.int x3)] [] h 0 0 Q) (kf : ¬ (gi h (gr h x0 4) (Int32.toNatClampNeg (x3 - (nI 1)))) ≤ x1 → Ex ω M4_insertWeakPlace 31 [some (.ref x0), some (.int x1), some (.int x2), some (.int x3)] [] h 0 0 Q) : Ex ω M4_insertWeakPlace 19 [some (.ref x0), some (.int x1), some (.int x2), some (.int x3)] [] h 0 0 Q := by
  refine x_aload0 20 dX4_insertWeakPlace_19 rfl ?_
  refine x_getR cf4 4 23 hw dX4_insertWeakPlace_20 rfl wd58 (fun _ => s_x0) (by decide) (by decide) rfl ?_
  refine x_iload3 24 dX4_insertWeakPlace_23 rfl ?_
  refine x_iconst (nI 1) 25 dX4_insertWeakPlace_24 rfl rfl ?_
  refine x_isub 26 dX4_insertWeakPlace_25 rfl ?_
  refine x_iald (Int32.toNatClampNeg (x3 - (nI 1))) 27 dX4_insertWeakPlace_26 rfl (SH.fld hw (fun _ => s_x0) 4 (Nat.le_of_ble_eq_true rfl) rfl rfl) i1 rfl ?_
  refine x_iload1 28 dX4_insertWeakPlace_27 rfl ?_
  exact x_icmp_le 31 65 dX4_insertWeakPlace_28 rfl (by decide) kt kf
set_option maxRecDepth 20000 in
theorem B4_insertWeakPlace_31 {ω : Om} {h : AH} {Q : Option Value → AH → Prop} {x0 : Nat} {x1 : Int32} {x2 : Int32} {x3 : Int32} (hw : ω.2.2.2.1 = true) (s_x0 : gs h x0 = some (4, 6)) (i1 : vp_in (x3 - (nI 1)) 8) (i2 : vp_in x3 8) (i3 : vp_in (x3 - (nI 1)) 8) (i4 : vp_in x3 8) (kf : Ex ω M4_insertWeakPlace 59 [some (.ref x0), some (.int x1), some (.int x2), some (.int x3)] [] (si (si h (gr h x0 4) (Int32.toNatClampNeg x3) (gi h (gr h x0 4) (Int32.toNatClampNeg (x3 - (nI 1))))) (gr h x0 5) (Int32.toNatClampNeg x3) (gi (si h (gr h x0 4) (Int32.toNatClampNeg x3) (gi h (gr h x0 4) (Int32.toNatClampNeg (x3 - (nI 1))))) (gr h x0 5) (Int32.toNatClampNeg (x3 - (nI 1))))) 0 0 Q) : Ex ω M4_insertWeakPlace 31 [some (.ref x0), some (.int x1), some (.int x2), some (.int x3)] [] h 0 0 Q := by
  refine x_aload0 32 dX4_insertWeakPlace_31 rfl ?_
  refine x_getR cf4 4 35 hw dX4_insertWeakPlace_32 rfl wd58 (fun _ => s_x0) (by decide) (by decide) rfl ?_
  refine x_iload3 36 dX4_insertWeakPlace_35 rfl ?_
  refine x_aload0 37 dX4_insertWeakPlace_36 rfl ?_
  refine x_getR cf4 4 40 hw dX4_insertWeakPlace_37 rfl wd58 (fun _ => s_x0) (by decide) (by decide) rfl ?_
  refine x_iload3 41 dX4_insertWeakPlace_40 rfl ?_
  refine x_iconst (nI 1) 42 dX4_insertWeakPlace_41 rfl rfl ?_
  refine x_isub 43 dX4_insertWeakPlace_42 rfl ?_
  refine x_iald (Int32.toNatClampNeg (x3 - (nI 1))) 44 dX4_insertWeakPlace_43 rfl (SH.fld hw (fun _ => s_x0) 4 (Nat.le_of_ble_eq_true rfl) rfl rfl) i1 rfl ?_
  refine x_iast (Int32.toNatClampNeg x3) 45 dX4_insertWeakPlace_44 rfl (SH.fld hw (fun _ => s_x0) 4 (Nat.le_of_ble_eq_true rfl) rfl rfl) i2 rfl ?_
  refine x_aload0 46 dX4_insertWeakPlace_45 rfl ?_
  refine x_getR cf4 5 49 hw dX4_insertWeakPlace_46 rfl wd59 (fun _ => s_x0) (by decide) (by decide) rfl ?_
  refine x_iload3 50 dX4_insertWeakPlace_49 rfl ?_
  refine x_aload0 51 dX4_insertWeakPlace_50 rfl ?_
  refine x_getR cf4 5 54 hw dX4_insertWeakPlace_51 rfl wd59 (fun _ => s_x0) (by decide) (by decide) rfl ?_
  refine x_iload3 55 dX4_insertWeakPlace_54 rfl ?_
  refine x_iconst (nI 1) 56 dX4_insertWeakPlace_55 rfl rfl ?_
  refine x_isub 57 dX4_insertWeakPlace_56 rfl ?_
  refine x_iald (Int32.toNatClampNeg (x3 - (nI 1))) 58 dX4_insertWeakPlace_57 rfl (SH.fld hw (fun _ => s_x0) 5 (Nat.le_of_ble_eq_true rfl) rfl rfl) i3 rfl ?_
  refine x_iast (Int32.toNatClampNeg x3) 59 dX4_insertWeakPlace_58 rfl (SH.fld hw (fun _ => s_x0) 5 (Nat.le_of_ble_eq_true rfl) rfl rfl) i4 rfl ?_
  exact kf
set_option maxRecDepth 20000 in
theorem B4_insertWeakPlace_59 {ω : Om} {h : AH} {Q : Option Value → AH → Prop} {x0 : Nat} {x1 : Int32} {x2 : Int32} {x3 : Int32} (hw : ω.2.2.2.1 = true) (kt : Ex ω M4_insertWeakPlace 15 [some (.ref x0), some (.int x1), some (.int x2), some (.int (x3 + ((-1))))] [] h 0 0 Q) : Ex ω M4_insertWeakPlace 59 [some (.ref x0), some (.int x1), some (.int x2), some (.int x3)] [] h 0 0 Q := by
  refine x_iinc3 (x3 + ((-1))) 62 dX4_insertWeakPlace_59 rfl (by decide) rfl rfl ?_
  exact x_goto 15 dX4_insertWeakPlace_62 (by decide) kt
set_option maxRecDepth 20000 in
theorem B4_insertWeakPlace_65 {ω : Om} {h : AH} {Q : Option Value → AH → Prop} {x0 : Nat} {x1 : Int32} {x2 : Int32} {x3 : Int32} (hw : ω.2.2.2.1 = true) (s_x0 : gs h x0 = some (4, 6)) (i1 : vp_in x3 8) (i2 : vp_in x3 8) (kf : Ex ω M4_insertWeakPlace 89 [some (.ref x0), some (.int x1), some (.int x2), some (.int x3)] [] (si (si (si h (gr h x0 4) (Int32.toNatClampNeg x3) x1) (gr h x0 5) (Int32.toNatClampNeg x3) x2) x0 3 ((gi (si (si h (gr h x0 4) (Int32.toNatClampNeg x3) x1) (gr h x0 5) (Int32.toNatClampNeg x3) x2) x0 3) + (nI 1))) 0 0 Q) : Ex ω M4_insertWeakPlace 65 [some (.ref x0), some (.int x1), some (.int x2), some (.int x3)] [] h 0 0 Q := by
  refine x_aload0 66 dX4_insertWeakPlace_65 rfl ?_
  refine x_getR cf4 4 69 hw dX4_insertWeakPlace_66 rfl wd58 (fun _ => s_x0) (by decide) (by decide) rfl ?_
  refine x_iload3 70 dX4_insertWeakPlace_69 rfl ?_
  refine x_iload1 71 dX4_insertWeakPlace_70 rfl ?_
  refine x_iast (Int32.toNatClampNeg x3) 72 dX4_insertWeakPlace_71 rfl (SH.fld hw (fun _ => s_x0) 4 (Nat.le_of_ble_eq_true rfl) rfl rfl) i1 rfl ?_
  refine x_aload0 73 dX4_insertWeakPlace_72 rfl ?_
  refine x_getR cf4 5 76 hw dX4_insertWeakPlace_73 rfl wd59 (fun _ => s_x0) (by decide) (by decide) rfl ?_
  refine x_iload3 77 dX4_insertWeakPlace_76 rfl ?_
  refine x_iload2 78 dX4_insertWeakPlace_77 rfl ?_
  refine x_iast (Int32.toNatClampNeg x3) 79 dX4_insertWeakPlace_78 rfl (SH.fld hw (fun _ => s_x0) 5 (Nat.le_of_ble_eq_true rfl) rfl rfl) i2 rfl ?_
  refine x_aload0 80 dX4_insertWeakPlace_79 rfl ?_
  refine x_dup 81 dX4_insertWeakPlace_80 rfl rfl ?_
  refine x_getI cf4 3 84 dX4_insertWeakPlace_81 rfl wd111 (fun _ => s_x0) (by decide) rfl ?_
  refine x_iconst (nI 1) 85 dX4_insertWeakPlace_84 rfl rfl ?_
  refine x_iadd 86 dX4_insertWeakPlace_85 rfl ?_
  refine x_putI cf4 3 89 dX4_insertWeakPlace_86 rfl wd111 (fun _ => s_x0) (by decide) rfl rfl ?_
  exact kf
set_option maxRecDepth 20000 in
theorem B4_insertWeakPlace_89 {ω : Om} {h : AH} {Q : Option Value → AH → Prop} {u0 : Option Value} {u1 : Option Value} {u2 : Option Value} {u3 : Option Value} (hw : ω.2.2.2.1 = true) (hq : Q none h) : Ex ω M4_insertWeakPlace 89 [u0, u1, u2, u3] [] h 0 0 Q := by
  refine x_dr0 ?_
  refine x_dr1 ?_
  refine x_dr2 ?_
  refine x_dr3 ?_
  exact x_vret dX4_insertWeakPlace_89 rfl (Nat.zero_le _) (Nat.zero_le _) hq
set_option maxRecDepth 20000 in
theorem B4_nextWeak_0 {ω : Om} {h : AH} {Q : Option Value → AH → Prop} {x0 : Nat} {u1 : Option Value} (hw : ω.2.2.2.1 = true) (kf : Ex ω M4_nextWeak 2 [some (.ref x0), some (.int (nI 0))] [] h 0 0 Q) : Ex ω M4_nextWeak 0 [some (.ref x0), u1] [] h 0 0 Q := by
  refine x_dr1 ?_
  refine x_iconst (nI 0) 1 dX4_nextWeak_0 rfl rfl ?_
  refine x_istore1 2 dX4_nextWeak_1 rfl (by decide) rfl ?_
  exact kf
set_option maxRecDepth 20000 in
theorem B4_nextWeak_2 {ω : Om} {h : AH} {Q : Option Value → AH → Prop} {x0 : Nat} {x1 : Int32} (hw : ω.2.2.2.1 = true) (s_x0 : gs h x0 = some (4, 6)) (kt : (gi h x0 3) ≤ x1 → Ex ω M4_nextWeak 29 [some (.ref x0), some (.int x1)] [] h 0 0 Q) (kf : ¬ (gi h x0 3) ≤ x1 → Ex ω M4_nextWeak 10 [some (.ref x0), some (.int x1)] [] h 0 0 Q) : Ex ω M4_nextWeak 2 [some (.ref x0), some (.int x1)] [] h 0 0 Q := by
  refine x_iload1 3 dX4_nextWeak_2 rfl ?_
  refine x_aload0 4 dX4_nextWeak_3 rfl ?_
  refine x_getI cf4 3 7 dX4_nextWeak_4 rfl wd111 (fun _ => s_x0) (by decide) rfl ?_
  exact x_icmp_ge 10 29 dX4_nextWeak_7 rfl (by decide) kt kf
set_option maxRecDepth 20000 in
theorem B4_nextWeak_10 {ω : Om} {h : AH} {Q : Option Value → AH → Prop} {x0 : Nat} {x1 : Int32} (hw : ω.2.2.2.1 = true) (s_x0 : gs h x0 = some (4, 6)) (i1 : vp_in x1 8) (kt : (gi h x0 2) < (gi h (gr h x0 4) (Int32.toNatClampNeg x1)) → Ex ω M4_nextWeak 29 [some (.ref x0), some (.int x1)] [] h 0 0 Q) (kf : ¬ (gi h x0 2) < (gi h (gr h x0 4) (Int32.toNatClampNeg x1)) → Ex ω M4_nextWeak 23 [some (.ref x0), some (.int x1)] [] h 0 0 Q) : Ex ω M4_nextWeak 10 [some (.ref x0), some (.int x1)] [] h 0 0 Q := by
  refine x_aload0 11 dX4_nextWeak_10 rfl ?_
  refine x_getR cf4 4 14 hw dX4_nextWeak_11 rfl wd58 (fun _ => s_x0) (by decide) (by decide) rfl ?_
  refine x_iload1 15 dX4_nextWeak_14 rfl ?_
  refine x_iald (Int32.toNatClampNeg x1) 16 dX4_nextWeak_15 rfl (SH.fld hw (fun _ => s_x0) 4 (Nat.le_of_ble_eq_true rfl) rfl rfl) i1 rfl ?_
  refine x_aload0 17 dX4_nextWeak_16 rfl ?_
  refine x_getI cf4 2 20 dX4_nextWeak_17 rfl wd110 (fun _ => s_x0) (by decide) rfl ?_
  exact x_icmp_gt 23 29 dX4_nextWeak_20 rfl (by decide) kt kf
set_option maxRecDepth 20000 in
theorem B4_nextWeak_23 {ω : Om} {h : AH} {Q : Option Value → AH → Prop} {x0 : Nat} {x1 : Int32} (hw : ω.2.2.2.1 = true) (kt : Ex ω M4_nextWeak 2 [some (.ref x0), some (.int (x1 + (nI 1)))] [] h 0 0 Q) : Ex ω M4_nextWeak 23 [some (.ref x0), some (.int x1)] [] h 0 0 Q := by
  refine x_iinc1 (x1 + (nI 1)) 26 dX4_nextWeak_23 rfl (by decide) rfl rfl ?_
  exact x_goto 2 dX4_nextWeak_26 (by decide) kt
set_option maxRecDepth 20000 in
theorem B4_nextWeak_29 {ω : Om} {h : AH} {Q : Option Value → AH → Prop} {u0 : Option Value} {x1 : Int32} (hw : ω.2.2.2.1 = true) (hq : Q (some (.int x1)) h) : Ex ω M4_nextWeak 29 [u0, some (.int x1)] [] h 0 0 Q := by
  refine x_dr0 ?_
  refine x_iload1 30 dX4_nextWeak_29 rfl ?_
  exact x_iret dX4_nextWeak_30 rfl (Nat.zero_le _) (Nat.zero_le _) hq
set_option maxRecDepth 20000 in
theorem B4_property_0 {ω : Om} {h : AH} {Q : Option Value → AH → Prop} {x0 : Nat} {x1 : Int32} {u2 : Option Value} (hw : ω.2.2.2.1 = true) (s_x0 : gs h x0 = some (4, 6)) (kk : Ex ω M4_nextWeak 0 [some (.ref x0), none] [] h 0 0 (fun v h' => Ex ω M4_property 4 [some (.ref x0), some (.int x1), none] (v.toList ++ []) h' 0 0 Q)) : Ex ω M4_property 0 [some (.ref x0), some (.int x1), u2] [] h 0 0 Q := by
  refine x_dr2 ?_
  refine x_aload0 1 dX4_property_0 rfl ?_
  exact x_callV 4 x0 [] [] dX4_property_1 rfl lk_4_nextWeak ⟨wd410, wd411, wd412⟩ ⟨by decide, by decide⟩ (recvO cf4 (fun _ => s_x0)) rfl rfl (Nat.le_of_ble_eq_true rfl) (Nat.le_of_ble_eq_true rfl) (by decide) (by decide) kk
set_option maxRecDepth 20000 in
theorem B4_property_4 {ω : Om} {h : AH} {Q : Option Value → AH → Prop} {x0 : Nat} {x1 : Int32} {u2 : Option Value} {y0 : Int32} (hw : ω.2.2.2.1 = true) (c0 : x1 = nI 0 → Ex ω M4_property 40 [some (.ref x0), some (.int x1), some (.int y0)] [] h 0 0 Q) (c1 : x1 = nI 1 → Ex ω M4_property 45 [some (.ref x0), some (.int x1), some (.int y0)] [] h 0 0 Q) (c2 : x1 = nI 2 → Ex ω M4_property 50 [some (.ref x0), some (.int x1), some (.int y0)] [] h 0 0 Q) (c3 : x1 = nI 3 → Ex ω M4_property 55 [some (.ref x0), some (.int x1), some (.int y0)] [] h 0 0 Q) (c4 : x1 = nI 4 → Ex ω M4_property 62 [some (.ref x0), some (.int x1), some (.int y0)] [] h 0 0 Q) (cd : (¬ (0 ≤ x1 ∧ x1 ≤ nI 4)) → Ex ω M4_property 82 [some (.ref x0), some (.int x1), some (.int y0)] [] h 0 0 Q) : Ex ω M4_property 4 [some (.ref x0), some (.int x1), u2] [.int y0] h 0 0 Q := by
  refine x_dr2 ?_
  refine x_istore2 5 dX4_property_4 rfl (by decide) rfl ?_
  refine x_iload1 6 dX4_property_5 rfl ?_
  refine x_tsw 4 [40, 45, 50, 55, 62] 82 dX4_property_6 (by decide) (by decide) (by decide) (by decide) (by decide) cd (fun j hj e => ?_)
  match j, hj with
  | 0, _ => exact c0 e
  | 1, _ => exact c1 e
  | 2, _ => exact c2 e
  | 3, _ => exact c3 e
  | 4, _ => exact c4 e
  | j + 5, hj => exact absurd hj (by simp)
set_option maxRecDepth 20000 in
theorem B4_property_40 {ω : Om} {h : AH} {Q : Option Value → AH → Prop} {x0 : Nat} {u1 : Option Value} {u2 : Option Value} (hw : ω.2.2.2.1 = true) (s_x0 : gs h x0 = some (4, 6)) (hq : Q (some (.int (gi h x0 0))) h) : Ex ω M4_property 40 [some (.ref x0), u1, u2] [] h 0 0 Q := by
  refine x_dr1 ?_
  refine x_dr2 ?_
  refine x_aload0 41 dX4_property_40 rfl ?_
  refine x_getI cf4 0 44 dX4_property_41 rfl wd108 (fun _ => s_x0) (by decide) rfl ?_
  exact x_iret dX4_property_44 rfl (Nat.zero_le _) (Nat.zero_le _) hq
set_option maxRecDepth 20000 in
theorem B4_property_45 {ω : Om} {h : AH} {Q : Option Value → AH → Prop} {x0 : Nat} {u1 : Option Value} {u2 : Option Value} (hw : ω.2.2.2.1 = true) (s_x0 : gs h x0 = some (4, 6)) (hq : Q (some (.int (gi h x0 1))) h) : Ex ω M4_property 45 [some (.ref x0), u1, u2] [] h 0 0 Q := by
  refine x_dr1 ?_
  refine x_dr2 ?_
  refine x_aload0 46 dX4_property_45 rfl ?_
  refine x_getI cf4 1 49 dX4_property_46 rfl wd109 (fun _ => s_x0) (by decide) rfl ?_
  exact x_iret dX4_property_49 rfl (Nat.zero_le _) (Nat.zero_le _) hq
set_option maxRecDepth 20000 in
theorem B4_property_50 {ω : Om} {h : AH} {Q : Option Value → AH → Prop} {x0 : Nat} {u1 : Option Value} {u2 : Option Value} (hw : ω.2.2.2.1 = true) (s_x0 : gs h x0 = some (4, 6)) (hq : Q (some (.int (gi h x0 2))) h) : Ex ω M4_property 50 [some (.ref x0), u1, u2] [] h 0 0 Q := by
  refine x_dr1 ?_
  refine x_dr2 ?_
  refine x_aload0 51 dX4_property_50 rfl ?_
  refine x_getI cf4 2 54 dX4_property_51 rfl wd110 (fun _ => s_x0) (by decide) rfl ?_
  exact x_iret dX4_property_54 rfl (Nat.zero_le _) (Nat.zero_le _) hq
set_option maxRecDepth 20000 in
theorem B4_property_55 {ω : Om} {h : AH} {Q : Option Value → AH → Prop} {x0 : Nat} {u1 : Option Value} {x2 : Int32} (hw : ω.2.2.2.1 = true) (s_x0 : gs h x0 = some (4, 6)) (hq : Q (some (.int ((gi h x0 3) - x2))) h) : Ex ω M4_property 55 [some (.ref x0), u1, some (.int x2)] [] h 0 0 Q := by
  refine x_dr1 ?_
  refine x_aload0 56 dX4_property_55 rfl ?_
  refine x_getI cf4 3 59 dX4_property_56 rfl wd111 (fun _ => s_x0) (by decide) rfl ?_
  refine x_iload2 60 dX4_property_59 rfl ?_
  refine x_isub 61 dX4_property_60 rfl ?_
  exact x_iret dX4_property_61 rfl (Nat.zero_le _) (Nat.zero_le _) hq
set_option maxRecDepth 20000 in
theorem B4_property_62 {ω : Om} {h : AH} {Q : Option Value → AH → Prop} {x0 : Nat} {u1 : Option Value} {x2 : Int32} (hw : ω.2.2.2.1 = true) (s_x0 : gs h x0 = some (4, 6)) (kt : (gi h x0 3) ≤ x2 → Ex ω M4_property 79 [some (.ref x0), none, some (.int x2)] [] h 0 0 Q) (kf : ¬ (gi h x0 3) ≤ x2 → Ex ω M4_property 70 [some (.ref x0), none, some (.int x2)] [] h 0 0 Q) : Ex ω M4_property 62 [some (.ref x0), u1, some (.int x2)] [] h 0 0 Q := by
  refine x_dr1 ?_
  refine x_iload2 63 dX4_property_62 rfl ?_
  refine x_aload0 64 dX4_property_63 rfl ?_
  refine x_getI cf4 3 67 dX4_property_64 rfl wd111 (fun _ => s_x0) (by decide) rfl ?_
  exact x_icmp_ge 70 79 dX4_property_67 rfl (by decide) kt kf
set_option maxRecDepth 20000 in
theorem B4_property_70 {ω : Om} {h : AH} {Q : Option Value → AH → Prop} {x0 : Nat} {u1 : Option Value} {x2 : Int32} (hw : ω.2.2.2.1 = true) (s_x0 : gs h x0 = some (4, 6)) (i1 : vp_in x2 8) (kt : Ex ω M4_property 81 [some (.ref x0), none, some (.int x2)] [.int (gi h (gr h x0 4) (Int32.toNatClampNeg x2))] h 0 0 Q) : Ex ω M4_property 70 [some (.ref x0), u1, some (.int x2)] [] h 0 0 Q := by
  refine x_dr1 ?_
  refine x_aload0 71 dX4_property_70 rfl ?_
  refine x_getR cf4 4 74 hw dX4_property_71 rfl wd58 (fun _ => s_x0) (by decide) (by decide) rfl ?_
  refine x_iload2 75 dX4_property_74 rfl ?_
  refine x_iald (Int32.toNatClampNeg x2) 76 dX4_property_75 rfl (SH.fld hw (fun _ => s_x0) 4 (Nat.le_of_ble_eq_true rfl) rfl rfl) i1 rfl ?_
  exact x_goto 81 dX4_property_76 (by decide) kt
set_option maxRecDepth 20000 in
theorem B4_property_79 {ω : Om} {h : AH} {Q : Option Value → AH → Prop} {u0 : Option Value} {u1 : Option Value} {u2 : Option Value} (hw : ω.2.2.2.1 = true) (kf : Ex ω M4_property 81 [none, none, none] [.int ((-4))] h 0 0 Q) : Ex ω M4_property 79 [u0, u1, u2] [] h 0 0 Q := by
  refine x_dr0 ?_
  refine x_dr1 ?_
  refine x_dr2 ?_
  refine x_bipush ((-4)) 81 dX4_property_79 rfl rfl ?_
  exact kf
set_option maxRecDepth 20000 in
theorem B4_property_81 {ω : Om} {h : AH} {Q : Option Value → AH → Prop} {u0 : Option Value} {u1 : Option Value} {u2 : Option Value} {y0 : Int32} (hw : ω.2.2.2.1 = true) (hq : Q (some (.int y0)) h) : Ex ω M4_property 81 [u0, u1, u2] [.int y0] h 0 0 Q := by
  refine x_dr0 ?_
  refine x_dr1 ?_
  refine x_dr2 ?_
  exact x_iret dX4_property_81 rfl (Nat.zero_le _) (Nat.zero_le _) hq
set_option maxRecDepth 20000 in
theorem B4_property_82 {ω : Om} {h : AH} {Q : Option Value → AH → Prop} {x0 : Nat} {u1 : Option Value} {x2 : Int32} (hw : ω.2.2.2.1 = true) (s_x0 : gs h x0 = some (4, 6)) (kt : (gi h x0 3) ≤ x2 → Ex ω M4_property 99 [some (.ref x0), none, some (.int x2)] [] h 0 0 Q) (kf : ¬ (gi h x0 3) ≤ x2 → Ex ω M4_property 90 [some (.ref x0), none, some (.int x2)] [] h 0 0 Q) : Ex ω M4_property 82 [some (.ref x0), u1, some (.int x2)] [] h 0 0 Q := by
  refine x_dr1 ?_
  refine x_iload2 83 dX4_property_82 rfl ?_
  refine x_aload0 84 dX4_property_83 rfl ?_
  refine x_getI cf4 3 87 dX4_property_84 rfl wd111 (fun _ => s_x0) (by decide) rfl ?_
  exact x_icmp_ge 90 99 dX4_property_87 rfl (by decide) kt kf
set_option maxRecDepth 20000 in
theorem B4_property_90 {ω : Om} {h : AH} {Q : Option Value → AH → Prop} {x0 : Nat} {u1 : Option Value} {x2 : Int32} (hw : ω.2.2.2.1 = true) (s_x0 : gs h x0 = some (4, 6)) (i1 : vp_in x2 8) (kt : Ex ω M4_property 101 [some (.ref x0), none, some (.int x2)] [.int (gi h (gr h x0 5) (Int32.toNatClampNeg x2))] h 0 0 Q) : Ex ω M4_property 90 [some (.ref x0), u1, some (.int x2)] [] h 0 0 Q := by
  refine x_dr1 ?_
  refine x_aload0 91 dX4_property_90 rfl ?_
  refine x_getR cf4 5 94 hw dX4_property_91 rfl wd59 (fun _ => s_x0) (by decide) (by decide) rfl ?_
  refine x_iload2 95 dX4_property_94 rfl ?_
  refine x_iald (Int32.toNatClampNeg x2) 96 dX4_property_95 rfl (SH.fld hw (fun _ => s_x0) 5 (Nat.le_of_ble_eq_true rfl) rfl rfl) i1 rfl ?_
  exact x_goto 101 dX4_property_96 (by decide) kt
set_option maxRecDepth 20000 in
theorem B4_property_99 {ω : Om} {h : AH} {Q : Option Value → AH → Prop} {u0 : Option Value} {u1 : Option Value} {u2 : Option Value} (hw : ω.2.2.2.1 = true) (kf : Ex ω M4_property 101 [none, none, none] [.int ((-4))] h 0 0 Q) : Ex ω M4_property 99 [u0, u1, u2] [] h 0 0 Q := by
  refine x_dr0 ?_
  refine x_dr1 ?_
  refine x_dr2 ?_
  refine x_bipush ((-4)) 101 dX4_property_99 rfl rfl ?_
  exact kf
set_option maxRecDepth 20000 in
theorem B4_property_101 {ω : Om} {h : AH} {Q : Option Value → AH → Prop} {u0 : Option Value} {u1 : Option Value} {u2 : Option Value} {y0 : Int32} (hw : ω.2.2.2.1 = true) (hq : Q (some (.int y0)) h) : Ex ω M4_property 101 [u0, u1, u2] [.int y0] h 0 0 Q := by
  refine x_dr0 ?_
  refine x_dr1 ?_
  refine x_dr2 ?_
  exact x_iret dX4_property_101 rfl (Nat.zero_le _) (Nat.zero_le _) hq
set_option maxRecDepth 20000 in
theorem B4_breakingPlace_0 {ω : Om} {h : AH} {Q : Option Value → AH → Prop} {x0 : Nat} {x1 : Int32} {x2 : Int32} {u3 : Option Value} (hw : ω.2.2.2.1 = true) (s_x0 : gs h x0 = some (4, 6)) (kk : Ex ω M4_nextWeak 0 [some (.ref x0), none] [] h 0 0 (fun v h' => Ex ω M4_breakingPlace 4 [some (.ref x0), some (.int x1), some (.int x2), none] (v.toList ++ []) h' 0 0 Q)) : Ex ω M4_breakingPlace 0 [some (.ref x0), some (.int x1), some (.int x2), u3] [] h 0 0 Q := by
  refine x_dr3 ?_
  refine x_aload0 1 dX4_breakingPlace_0 rfl ?_
  exact x_callV 4 x0 [] [] dX4_breakingPlace_1 rfl lk_4_nextWeak ⟨wd410, wd411, wd412⟩ ⟨by decide, by decide⟩ (recvO cf4 (fun _ => s_x0)) rfl rfl (Nat.le_of_ble_eq_true rfl) (Nat.le_of_ble_eq_true rfl) (by decide) (by decide) kk
set_option maxRecDepth 20000 in
theorem B4_breakingPlace_4 {ω : Om} {h : AH} {Q : Option Value → AH → Prop} {x0 : Nat} {x1 : Int32} {x2 : Int32} {u3 : Option Value} {y0 : Int32} (hw : ω.2.2.2.1 = true) (kf : Ex ω M4_breakingPlace 5 [some (.ref x0), some (.int x1), some (.int x2), some (.int y0)] [] h 0 0 Q) : Ex ω M4_breakingPlace 4 [some (.ref x0), some (.int x1), some (.int x2), u3] [.int y0] h 0 0 Q := by
  refine x_dr3 ?_
  refine x_istore3 5 dX4_breakingPlace_4 rfl (by decide) rfl ?_
  exact kf
set_option maxRecDepth 20000 in
theorem B4_breakingPlace_5 {ω : Om} {h : AH} {Q : Option Value → AH → Prop} {x0 : Nat} {x1 : Int32} {x2 : Int32} {x3 : Int32} (hw : ω.2.2.2.1 = true) (s_x0 : gs h x0 = some (4, 6)) (kt : (gi h x0 3) ≤ x3 → Ex ω M4_breakingPlace 51 [some (.ref x0), some (.int x1), some (.int x2), some (.int x3)] [] h 0 0 Q) (kf : ¬ (gi h x0 3) ≤ x3 → Ex ω M4_breakingPlace 13 [some (.ref x0), some (.int x1), some (.int x2), some (.int x3)] [] h 0 0 Q) : Ex ω M4_breakingPlace 5 [some (.ref x0), some (.int x1), some (.int x2), some (.int x3)] [] h 0 0 Q := by
  refine x_iload3 6 dX4_breakingPlace_5 rfl ?_
  refine x_aload0 7 dX4_breakingPlace_6 rfl ?_
  refine x_getI cf4 3 10 dX4_breakingPlace_7 rfl wd111 (fun _ => s_x0) (by decide) rfl ?_
  exact x_icmp_ge 13 51 dX4_breakingPlace_10 rfl (by decide) kt kf
set_option maxRecDepth 20000 in
theorem B4_breakingPlace_13 {ω : Om} {h : AH} {Q : Option Value → AH → Prop} {x0 : Nat} {x1 : Int32} {x2 : Int32} {x3 : Int32} (hw : ω.2.2.2.1 = true) (s_x0 : gs h x0 = some (4, 6)) (i1 : vp_in x3 8) (kt : ((gi h x0 2) + x1) < (gi h (gr h x0 4) (Int32.toNatClampNeg x3)) → Ex ω M4_breakingPlace 51 [some (.ref x0), some (.int x1), some (.int x2), some (.int x3)] [] h 0 0 Q) (kf : ¬ ((gi h x0 2) + x1) < (gi h (gr h x0 4) (Int32.toNatClampNeg x3)) → Ex ω M4_breakingPlace 28 [some (.ref x0), some (.int x1), some (.int x2), some (.int x3)] [] h 0 0 Q) : Ex ω M4_breakingPlace 13 [some (.ref x0), some (.int x1), some (.int x2), some (.int x3)] [] h 0 0 Q := by
  refine x_aload0 14 dX4_breakingPlace_13 rfl ?_
  refine x_getR cf4 4 17 hw dX4_breakingPlace_14 rfl wd58 (fun _ => s_x0) (by decide) (by decide) rfl ?_
  refine x_iload3 18 dX4_breakingPlace_17 rfl ?_
  refine x_iald (Int32.toNatClampNeg x3) 19 dX4_breakingPlace_18 rfl (SH.fld hw (fun _ => s_x0) 4 (Nat.le_of_ble_eq_true rfl) rfl rfl) i1 rfl ?_
  refine x_aload0 20 dX4_breakingPlace_19 rfl ?_
  refine x_getI cf4 2 23 dX4_breakingPlace_20 rfl wd110 (fun _ => s_x0) (by decide) rfl ?_
  refine x_iload1 24 dX4_breakingPlace_23 rfl ?_
  refine x_iadd 25 dX4_breakingPlace_24 rfl ?_
  exact x_icmp_gt 28 51 dX4_breakingPlace_25 rfl (by decide) kt kf
set_option maxRecDepth 20000 in
theorem B4_breakingPlace_28 {ω : Om} {h : AH} {Q : Option Value → AH → Prop} {x0 : Nat} {x1 : Int32} {x2 : Int32} {x3 : Int32} (hw : ω.2.2.2.1 = true) (s_x0 : gs h x0 = some (4, 6)) (i1 : vp_in x3 8) (kt : x2 ≤ (gi h (gr h x0 5) (Int32.toNatClampNeg x3)) → Ex ω M4_breakingPlace 45 [some (.ref x0), some (.int x1), some (.int x2), some (.int x3)] [] h 0 0 Q) (kf : ¬ x2 ≤ (gi h (gr h x0 5) (Int32.toNatClampNeg x3)) → Ex ω M4_breakingPlace 38 [some (.ref x0), some (.int x1), some (.int x2), some (.int x3)] [] h 0 0 Q) : Ex ω M4_breakingPlace 28 [some (.ref x0), some (.int x1), some (.int x2), some (.int x3)] [] h 0 0 Q := by
  refine x_aload0 29 dX4_breakingPlace_28 rfl ?_
  refine x_getR cf4 5 32 hw dX4_breakingPlace_29 rfl wd59 (fun _ => s_x0) (by decide) (by decide) rfl ?_
  refine x_iload3 33 dX4_breakingPlace_32 rfl ?_
  refine x_iald (Int32.toNatClampNeg x3) 34 dX4_breakingPlace_33 rfl (SH.fld hw (fun _ => s_x0) 5 (Nat.le_of_ble_eq_true rfl) rfl rfl) i1 rfl ?_
  refine x_iload2 35 dX4_breakingPlace_34 rfl ?_
  exact x_icmp_ge 38 45 dX4_breakingPlace_35 rfl (by decide) kt kf
set_option maxRecDepth 20000 in
theorem B4_breakingPlace_38 {ω : Om} {h : AH} {Q : Option Value → AH → Prop} {x0 : Nat} {u1 : Option Value} {u2 : Option Value} {x3 : Int32} (hw : ω.2.2.2.1 = true) (s_x0 : gs h x0 = some (4, 6)) (i1 : vp_in x3 8) (hq : Q (some (.int (gi h (gr h x0 4) (Int32.toNatClampNeg x3)))) h) : Ex ω M4_breakingPlace 38 [some (.ref x0), u1, u2, some (.int x3)] [] h 0 0 Q := by
  refine x_dr1 ?_
  refine x_dr2 ?_
  refine x_aload0 39 dX4_breakingPlace_38 rfl ?_
  refine x_getR cf4 4 42 hw dX4_breakingPlace_39 rfl wd58 (fun _ => s_x0) (by decide) (by decide) rfl ?_
  refine x_iload3 43 dX4_breakingPlace_42 rfl ?_
  refine x_iald (Int32.toNatClampNeg x3) 44 dX4_breakingPlace_43 rfl (SH.fld hw (fun _ => s_x0) 4 (Nat.le_of_ble_eq_true rfl) rfl rfl) i1 rfl ?_
  exact x_iret dX4_breakingPlace_44 rfl (Nat.zero_le _) (Nat.zero_le _) hq
set_option maxRecDepth 20000 in
theorem B4_breakingPlace_45 {ω : Om} {h : AH} {Q : Option Value → AH → Prop} {x0 : Nat} {x1 : Int32} {x2 : Int32} {x3 : Int32} (hw : ω.2.2.2.1 = true) (kt : Ex ω M4_breakingPlace 5 [some (.ref x0), some (.int x1), some (.int x2), some (.int (x3 + (nI 1)))] [] h 0 0 Q) : Ex ω M4_breakingPlace 45 [some (.ref x0), some (.int x1), some (.int x2), some (.int x3)] [] h 0 0 Q := by
  refine x_iinc3 (x3 + (nI 1)) 48 dX4_breakingPlace_45 rfl (by decide) rfl rfl ?_
  exact x_goto 5 dX4_breakingPlace_48 (by decide) kt
set_option maxRecDepth 20000 in
theorem B4_breakingPlace_51 {ω : Om} {h : AH} {Q : Option Value → AH → Prop} {u0 : Option Value} {u1 : Option Value} {u2 : Option Value} {u3 : Option Value} (hw : ω.2.2.2.1 = true) (hq : Q (some (.int ((-1)))) h) : Ex ω M4_breakingPlace 51 [u0, u1, u2, u3] [] h 0 0 Q := by
  refine x_dr0 ?_
  refine x_dr1 ?_
  refine x_dr2 ?_
  refine x_dr3 ?_
  refine x_iconst ((-1)) 52 dX4_breakingPlace_51 rfl rfl ?_
  exact x_iret dX4_breakingPlace_52 rfl (Nat.zero_le _) (Nat.zero_le _) hq
set_option maxRecDepth 20000 in
theorem B6_add_0 {ω : Om} {h : AH} {Q : Option Value → AH → Prop} {x0 : Nat} {x1 : Nat} (hw : ω.2.2.2.1 = true) (s_x0 : gs h x0 = some (6, 12)) (s_x1 : gs h x1 = some (3, 15)) (kt : ¬ (gi (si h x0 0 ((gi h x0 0) + (nI 1))) x1 2) = 0 → Ex ω M6_add 26 [some (.ref x0), some (.ref x1)] [.int (gi (si h x0 0 ((gi h x0 0) + (nI 1))) x0 1), .ref x0] (si h x0 0 ((gi h x0 0) + (nI 1))) 0 0 Q) (kf : (gi (si h x0 0 ((gi h x0 0) + (nI 1))) x1 2) = 0 → Ex ω M6_add 22 [some (.ref x0), some (.ref x1)] [.int (gi (si h x0 0 ((gi h x0 0) + (nI 1))) x0 1), .ref x0] (si h x0 0 ((gi h x0 0) + (nI 1))) 0 0 Q) : Ex ω M6_add 0 [some (.ref x0), some (.ref x1)] [] h 0 0 Q := by
  refine x_aload0 1 dX6_add_0 rfl ?_
  refine x_dup 2 dX6_add_1 rfl rfl ?_
  refine x_getI cf6 0 5 dX6_add_2 rfl wd152 (fun _ => s_x0) (by decide) rfl ?_
  refine x_iconst (nI 1) 6 dX6_add_5 rfl rfl ?_
  refine x_iadd 7 dX6_add_6 rfl ?_
  refine x_putI cf6 0 10 dX6_add_7 rfl wd152 (fun _ => s_x0) (by decide) rfl rfl ?_
  refine x_aload0 11 dX6_add_10 rfl ?_
  refine x_dup 12 dX6_add_11 rfl rfl ?_
  refine x_getI cf6 1 15 dX6_add_12 rfl wd153 (fun _ => s_x0) (by decide) rfl ?_
  refine x_aload1 16 dX6_add_15 rfl ?_
  refine x_getI cf3 2 19 dX6_add_16 rfl wd562 (fun _ => s_x1) (by decide) rfl ?_
  exact x_if_ne 22 26 dX6_add_19 rfl (by decide) kt kf
set_option maxRecDepth 20000 in
theorem B6_add_22 {ω : Om} {h : AH} {Q : Option Value → AH → Prop} {x0 : Nat} {x1 : Nat} {y0 : Nat} {y1 : Int32} (hw : ω.2.2.2.1 = true) (kt : Ex ω M6_add 27 [some (.ref x0), some (.ref x1)] [.int (nI 0), .int y1, .ref y0] h 0 0 Q) : Ex ω M6_add 22 [some (.ref x0), some (.ref x1)] [.int y1, .ref y0] h 0 0 Q := by
  refine x_iconst (nI 0) 23 dX6_add_22 rfl rfl ?_
  exact x_goto 27 dX6_add_23 (by decide) kt
set_option maxRecDepth 20000 in
theorem B6_add_26 {ω : Om} {h : AH} {Q : Option Value → AH → Prop} {x0 : Nat} {x1 : Nat} {y0 : Nat} {y1 : Int32} (hw : ω.2.2.2.1 = true) (kf : Ex ω M6_add 27 [some (.ref x0), some (.ref x1)] [.int (nI 1), .int y1, .ref y0] h 0 0 Q) : Ex ω M6_add 26 [some (.ref x0), some (.ref x1)] [.int y1, .ref y0] h 0 0 Q := by
  refine x_iconst (nI 1) 27 dX6_add_26 rfl rfl ?_
  exact kf
set_option maxRecDepth 20000 in
theorem B6_add_27 {ω : Om} {h : AH} {Q : Option Value → AH → Prop} {x0 : Nat} {x1 : Nat} {y0 : Nat} {y1 : Int32} {y2 : Int32} (hw : ω.2.2.2.1 = true) (s_y0 : gs h y0 = some (6, 12)) (s_x0 : gs h x0 = some (6, 12)) (s_x1 : gs h x1 = some (3, 15)) (kf : Ex ω M6_add 57 [some (.ref x0), some (.ref x1)] [] (si (si (si h y0 1 (y1 + y2)) x0 2 ((gi (si h y0 1 (y1 + y2)) x0 2) + (gi (si h y0 1 (y1 + y2)) x1 3))) x0 3 ((gi (si (si h y0 1 (y1 + y2)) x0 2 ((gi (si h y0 1 (y1 + y2)) x0 2) + (gi (si h y0 1 (y1 + y2)) x1 3))) x0 3) + (gi (si (si h y0 1 (y1 + y2)) x0 2 ((gi (si h y0 1 (y1 + y2)) x0 2) + (gi (si h y0 1 (y1 + y2)) x1 3))) x1 4))) 0 0 Q) : Ex ω M6_add 27 [some (.ref x0), some (.ref x1)] [.int y2, .int y1, .ref y0] h 0 0 Q := by
  refine x_iadd 28 dX6_add_27 rfl ?_
  refine x_putI cf6 1 31 dX6_add_28 rfl wd153 (fun _ => s_y0) (by decide) rfl rfl ?_
  refine x_aload0 32 dX6_add_31 rfl ?_
  refine x_dup 33 dX6_add_32 rfl rfl ?_
  refine x_getI cf6 2 36 dX6_add_33 rfl wd154 (fun _ => s_x0) (by decide) rfl ?_
  refine x_aload1 37 dX6_add_36 rfl ?_
  refine x_getI cf3 3 40 dX6_add_37 rfl wd563 (fun _ => s_x1) (by decide) rfl ?_
  refine x_iadd 41 dX6_add_40 rfl ?_
  refine x_putI cf6 2 44 dX6_add_41 rfl wd154 (fun _ => s_x0) (by decide) rfl rfl ?_
  refine x_aload0 45 dX6_add_44 rfl ?_
  refine x_dup 46 dX6_add_45 rfl rfl ?_
  refine x_getI cf6 3 49 dX6_add_46 rfl wd155 (fun _ => s_x0) (by decide) rfl ?_
  refine x_aload1 50 dX6_add_49 rfl ?_
  refine x_getI cf3 4 53 dX6_add_50 rfl wd564 (fun _ => s_x1) (by decide) rfl ?_
  refine x_iadd 54 dX6_add_53 rfl ?_
  refine x_putI cf6 3 57 dX6_add_54 rfl wd155 (fun _ => s_x0) (by decide) rfl rfl ?_
  exact kf
set_option maxRecDepth 20000 in
theorem B6_add_57 {ω : Om} {h : AH} {Q : Option Value → AH → Prop} {x0 : Nat} {x1 : Nat} (hw : ω.2.2.2.1 = true) (s_x0 : gs h x0 = some (6, 12)) (s_x1 : gs h x1 = some (3, 15)) (kf : Ex ω M6_add 83 [some (.ref x0), some (.ref x1)] [] (si (si h x0 4 ((gi h x0 4) + (gi h x1 5))) x0 5 ((gi (si h x0 4 ((gi h x0 4) + (gi h x1 5))) x0 5) + (gi (si h x0 4 ((gi h x0 4) + (gi h x1 5))) x1 6))) 0 0 Q) : Ex ω M6_add 57 [some (.ref x0), some (.ref x1)] [] h 0 0 Q := by
  refine x_aload0 58 dX6_add_57 rfl ?_
  refine x_dup 59 dX6_add_58 rfl rfl ?_
  refine x_getI cf6 4 62 dX6_add_59 rfl wd156 (fun _ => s_x0) (by decide) rfl ?_
  refine x_aload1 63 dX6_add_62 rfl ?_
  refine x_getI cf3 5 66 dX6_add_63 rfl wd565 (fun _ => s_x1) (by decide) rfl ?_
  refine x_iadd 67 dX6_add_66 rfl ?_
  refine x_putI cf6 4 70 dX6_add_67 rfl wd156 (fun _ => s_x0) (by decide) rfl rfl ?_
  refine x_aload0 71 dX6_add_70 rfl ?_
  refine x_dup 72 dX6_add_71 rfl rfl ?_
  refine x_getI cf6 5 75 dX6_add_72 rfl wd157 (fun _ => s_x0) (by decide) rfl ?_
  refine x_aload1 76 dX6_add_75 rfl ?_
  refine x_getI cf3 6 79 dX6_add_76 rfl wd566 (fun _ => s_x1) (by decide) rfl ?_
  refine x_iadd 80 dX6_add_79 rfl ?_
  refine x_putI cf6 5 83 dX6_add_80 rfl wd157 (fun _ => s_x0) (by decide) rfl rfl ?_
  exact kf
set_option maxRecDepth 20000 in
theorem B6_add_83 {ω : Om} {h : AH} {Q : Option Value → AH → Prop} {x0 : Nat} {x1 : Nat} (hw : ω.2.2.2.1 = true) (s_x0 : gs h x0 = some (6, 12)) (s_x1 : gs h x1 = some (3, 15)) (kf : Ex ω M6_add 109 [some (.ref x0), some (.ref x1)] [] (si (si h x0 6 ((gi h x0 6) + (gi h x1 7))) x0 7 ((gi (si h x0 6 ((gi h x0 6) + (gi h x1 7))) x0 7) + (gi (si h x0 6 ((gi h x0 6) + (gi h x1 7))) x1 8))) 0 0 Q) : Ex ω M6_add 83 [some (.ref x0), some (.ref x1)] [] h 0 0 Q := by
  refine x_aload0 84 dX6_add_83 rfl ?_
  refine x_dup 85 dX6_add_84 rfl rfl ?_
  refine x_getI cf6 6 88 dX6_add_85 rfl wd158 (fun _ => s_x0) (by decide) rfl ?_
  refine x_aload1 89 dX6_add_88 rfl ?_
  refine x_getI cf3 7 92 dX6_add_89 rfl wd567 (fun _ => s_x1) (by decide) rfl ?_
  refine x_iadd 93 dX6_add_92 rfl ?_
  refine x_putI cf6 6 96 dX6_add_93 rfl wd158 (fun _ => s_x0) (by decide) rfl rfl ?_
  refine x_aload0 97 dX6_add_96 rfl ?_
  refine x_dup 98 dX6_add_97 rfl rfl ?_
  refine x_getI cf6 7 101 dX6_add_98 rfl wd159 (fun _ => s_x0) (by decide) rfl ?_
  refine x_aload1 102 dX6_add_101 rfl ?_
  refine x_getI cf3 8 105 dX6_add_102 rfl wd568 (fun _ => s_x1) (by decide) rfl ?_
  refine x_iadd 106 dX6_add_105 rfl ?_
  refine x_putI cf6 7 109 dX6_add_106 rfl wd159 (fun _ => s_x0) (by decide) rfl rfl ?_
  exact kf
set_option maxRecDepth 20000 in
theorem B6_add_109 {ω : Om} {h : AH} {Q : Option Value → AH → Prop} {x0 : Nat} {x1 : Nat} (hw : ω.2.2.2.1 = true) (s_x0 : gs h x0 = some (6, 12)) (s_x1 : gs h x1 = some (3, 15)) (kf : Ex ω M6_add 135 [some (.ref x0), some (.ref x1)] [] (si (si h x0 8 ((gi h x0 8) + (gi h x1 9))) x0 9 ((gi (si h x0 8 ((gi h x0 8) + (gi h x1 9))) x0 9) + (gi (si h x0 8 ((gi h x0 8) + (gi h x1 9))) x1 10))) 0 0 Q) : Ex ω M6_add 109 [some (.ref x0), some (.ref x1)] [] h 0 0 Q := by
  refine x_aload0 110 dX6_add_109 rfl ?_
  refine x_dup 111 dX6_add_110 rfl rfl ?_
  refine x_getI cf6 8 114 dX6_add_111 rfl wd160 (fun _ => s_x0) (by decide) rfl ?_
  refine x_aload1 115 dX6_add_114 rfl ?_
  refine x_getI cf3 9 118 dX6_add_115 rfl wd569 (fun _ => s_x1) (by decide) rfl ?_
  refine x_iadd 119 dX6_add_118 rfl ?_
  refine x_putI cf6 8 122 dX6_add_119 rfl wd160 (fun _ => s_x0) (by decide) rfl rfl ?_
  refine x_aload0 123 dX6_add_122 rfl ?_
  refine x_dup 124 dX6_add_123 rfl rfl ?_
  refine x_getI cf6 9 127 dX6_add_124 rfl wd161 (fun _ => s_x0) (by decide) rfl ?_
  refine x_aload1 128 dX6_add_127 rfl ?_
  refine x_getI cf3 10 131 dX6_add_128 rfl wd570 (fun _ => s_x1) (by decide) rfl ?_
  refine x_iadd 132 dX6_add_131 rfl ?_
  refine x_putI cf6 9 135 dX6_add_132 rfl wd161 (fun _ => s_x0) (by decide) rfl rfl ?_
  exact kf
set_option maxRecDepth 20000 in
theorem B6_add_135 {ω : Om} {h : AH} {Q : Option Value → AH → Prop} {x0 : Nat} {x1 : Nat} (hw : ω.2.2.2.1 = true) (s_x0 : gs h x0 = some (6, 12)) (s_x1 : gs h x1 = some (3, 15)) (kf : Ex ω M6_add 162 [some (.ref x0), some (.ref x1)] [] (sl (si h x0 10 ((gi h x0 10) + (gi h x1 11))) x0 11 ((gl (si h x0 10 ((gi h x0 10) + (gi h x1 11))) x0 11) + (Int32.toInt64 (gi (si h x0 10 ((gi h x0 10) + (gi h x1 11))) x1 12)))) 0 0 Q) : Ex ω M6_add 135 [some (.ref x0), some (.ref x1)] [] h 0 0 Q := by
  refine x_aload0 136 dX6_add_135 rfl ?_
  refine x_dup 137 dX6_add_136 rfl rfl ?_
  refine x_getI cf6 10 140 dX6_add_137 rfl wd162 (fun _ => s_x0) (by decide) rfl ?_
  refine x_aload1 141 dX6_add_140 rfl ?_
  refine x_getI cf3 11 144 dX6_add_141 rfl wd571 (fun _ => s_x1) (by decide) rfl ?_
  refine x_iadd 145 dX6_add_144 rfl ?_
  refine x_putI cf6 10 148 dX6_add_145 rfl wd162 (fun _ => s_x0) (by decide) rfl rfl ?_
  refine x_aload0 149 dX6_add_148 rfl ?_
  refine x_dup 150 dX6_add_149 rfl rfl ?_
  refine x_getL cf6 11 153 dX6_add_150 rfl wd163 (fun _ => s_x0) (by decide) rfl ?_
  refine x_aload1 154 dX6_add_153 rfl ?_
  refine x_getI cf3 12 157 dX6_add_154 rfl wd572 (fun _ => s_x1) (by decide) rfl ?_
  refine x_i2l 158 dX6_add_157 rfl ?_
  refine x_ladd 159 dX6_add_158 rfl ?_
  refine x_putL cf6 11 162 dX6_add_159 rfl wd163 (fun _ => s_x0) (by decide) rfl rfl ?_
  exact kf
set_option maxRecDepth 20000 in
theorem B6_add_162 {ω : Om} {h : AH} {Q : Option Value → AH → Prop} {u0 : Option Value} {u1 : Option Value} (hw : ω.2.2.2.1 = true) (hq : Q none h) : Ex ω M6_add 162 [u0, u1] [] h 0 0 Q := by
  refine x_dr0 ?_
  refine x_dr1 ?_
  exact x_vret dX6_add_162 rfl (Nat.zero_le _) (Nat.zero_le _) hq
set_option maxRecDepth 20000 in
theorem B6_copyFrom_0 {ω : Om} {h : AH} {Q : Option Value → AH → Prop} {x0 : Nat} {x1 : Nat} (hw : ω.2.2.2.1 = true) (s_x1 : gs h x1 = some (6, 12)) (s_x0 : gs h x0 = some (6, 12)) (kf : Ex ω M6_copyFrom 24 [some (.ref x0), some (.ref x1)] [] (si (si (si h x0 0 (gi h x1 0)) x0 1 (gi (si h x0 0 (gi h x1 0)) x1 1)) x0 2 (gi (si (si h x0 0 (gi h x1 0)) x0 1 (gi (si h x0 0 (gi h x1 0)) x1 1)) x1 2)) 0 0 Q) : Ex ω M6_copyFrom 0 [some (.ref x0), some (.ref x1)] [] h 0 0 Q := by
  refine x_aload0 1 dX6_copyFrom_0 rfl ?_
  refine x_aload1 2 dX6_copyFrom_1 rfl ?_
  refine x_getI cf6 0 5 dX6_copyFrom_2 rfl wd152 (fun _ => s_x1) (by decide) rfl ?_
  refine x_putI cf6 0 8 dX6_copyFrom_5 rfl wd152 (fun _ => s_x0) (by decide) rfl rfl ?_
  refine x_aload0 9 dX6_copyFrom_8 rfl ?_
  refine x_aload1 10 dX6_copyFrom_9 rfl ?_
  refine x_getI cf6 1 13 dX6_copyFrom_10 rfl wd153 (fun _ => s_x1) (by decide) rfl ?_
  refine x_putI cf6 1 16 dX6_copyFrom_13 rfl wd153 (fun _ => s_x0) (by decide) rfl rfl ?_
  refine x_aload0 17 dX6_copyFrom_16 rfl ?_
  refine x_aload1 18 dX6_copyFrom_17 rfl ?_
  refine x_getI cf6 2 21 dX6_copyFrom_18 rfl wd154 (fun _ => s_x1) (by decide) rfl ?_
  refine x_putI cf6 2 24 dX6_copyFrom_21 rfl wd154 (fun _ => s_x0) (by decide) rfl rfl ?_
  exact kf
set_option maxRecDepth 20000 in
theorem B6_copyFrom_24 {ω : Om} {h : AH} {Q : Option Value → AH → Prop} {x0 : Nat} {x1 : Nat} (hw : ω.2.2.2.1 = true) (s_x1 : gs h x1 = some (6, 12)) (s_x0 : gs h x0 = some (6, 12)) (kf : Ex ω M6_copyFrom 48 [some (.ref x0), some (.ref x1)] [] (si (si (si h x0 3 (gi h x1 3)) x0 4 (gi (si h x0 3 (gi h x1 3)) x1 4)) x0 5 (gi (si (si h x0 3 (gi h x1 3)) x0 4 (gi (si h x0 3 (gi h x1 3)) x1 4)) x1 5)) 0 0 Q) : Ex ω M6_copyFrom 24 [some (.ref x0), some (.ref x1)] [] h 0 0 Q := by
  refine x_aload0 25 dX6_copyFrom_24 rfl ?_
  refine x_aload1 26 dX6_copyFrom_25 rfl ?_
  refine x_getI cf6 3 29 dX6_copyFrom_26 rfl wd155 (fun _ => s_x1) (by decide) rfl ?_
  refine x_putI cf6 3 32 dX6_copyFrom_29 rfl wd155 (fun _ => s_x0) (by decide) rfl rfl ?_
  refine x_aload0 33 dX6_copyFrom_32 rfl ?_
  refine x_aload1 34 dX6_copyFrom_33 rfl ?_
  refine x_getI cf6 4 37 dX6_copyFrom_34 rfl wd156 (fun _ => s_x1) (by decide) rfl ?_
  refine x_putI cf6 4 40 dX6_copyFrom_37 rfl wd156 (fun _ => s_x0) (by decide) rfl rfl ?_
  refine x_aload0 41 dX6_copyFrom_40 rfl ?_
  refine x_aload1 42 dX6_copyFrom_41 rfl ?_
  refine x_getI cf6 5 45 dX6_copyFrom_42 rfl wd157 (fun _ => s_x1) (by decide) rfl ?_
  refine x_putI cf6 5 48 dX6_copyFrom_45 rfl wd157 (fun _ => s_x0) (by decide) rfl rfl ?_
  exact kf
set_option maxRecDepth 20000 in
theorem B6_copyFrom_48 {ω : Om} {h : AH} {Q : Option Value → AH → Prop} {x0 : Nat} {x1 : Nat} (hw : ω.2.2.2.1 = true) (s_x1 : gs h x1 = some (6, 12)) (s_x0 : gs h x0 = some (6, 12)) (kf : Ex ω M6_copyFrom 72 [some (.ref x0), some (.ref x1)] [] (si (si (si h x0 6 (gi h x1 6)) x0 7 (gi (si h x0 6 (gi h x1 6)) x1 7)) x0 8 (gi (si (si h x0 6 (gi h x1 6)) x0 7 (gi (si h x0 6 (gi h x1 6)) x1 7)) x1 8)) 0 0 Q) : Ex ω M6_copyFrom 48 [some (.ref x0), some (.ref x1)] [] h 0 0 Q := by
  refine x_aload0 49 dX6_copyFrom_48 rfl ?_
  refine x_aload1 50 dX6_copyFrom_49 rfl ?_
  refine x_getI cf6 6 53 dX6_copyFrom_50 rfl wd158 (fun _ => s_x1) (by decide) rfl ?_
  refine x_putI cf6 6 56 dX6_copyFrom_53 rfl wd158 (fun _ => s_x0) (by decide) rfl rfl ?_
  refine x_aload0 57 dX6_copyFrom_56 rfl ?_
  refine x_aload1 58 dX6_copyFrom_57 rfl ?_
  refine x_getI cf6 7 61 dX6_copyFrom_58 rfl wd159 (fun _ => s_x1) (by decide) rfl ?_
  refine x_putI cf6 7 64 dX6_copyFrom_61 rfl wd159 (fun _ => s_x0) (by decide) rfl rfl ?_
  refine x_aload0 65 dX6_copyFrom_64 rfl ?_
  refine x_aload1 66 dX6_copyFrom_65 rfl ?_
  refine x_getI cf6 8 69 dX6_copyFrom_66 rfl wd160 (fun _ => s_x1) (by decide) rfl ?_
  refine x_putI cf6 8 72 dX6_copyFrom_69 rfl wd160 (fun _ => s_x0) (by decide) rfl rfl ?_
  exact kf
set_option maxRecDepth 20000 in
theorem B6_copyFrom_72 {ω : Om} {h : AH} {Q : Option Value → AH → Prop} {x0 : Nat} {x1 : Nat} (hw : ω.2.2.2.1 = true) (s_x1 : gs h x1 = some (6, 12)) (s_x0 : gs h x0 = some (6, 12)) (kf : Ex ω M6_copyFrom 96 [some (.ref x0), some (.ref x1)] [] (sl (si (si h x0 9 (gi h x1 9)) x0 10 (gi (si h x0 9 (gi h x1 9)) x1 10)) x0 11 (gl (si (si h x0 9 (gi h x1 9)) x0 10 (gi (si h x0 9 (gi h x1 9)) x1 10)) x1 11)) 0 0 Q) : Ex ω M6_copyFrom 72 [some (.ref x0), some (.ref x1)] [] h 0 0 Q := by
  refine x_aload0 73 dX6_copyFrom_72 rfl ?_
  refine x_aload1 74 dX6_copyFrom_73 rfl ?_
  refine x_getI cf6 9 77 dX6_copyFrom_74 rfl wd161 (fun _ => s_x1) (by decide) rfl ?_
  refine x_putI cf6 9 80 dX6_copyFrom_77 rfl wd161 (fun _ => s_x0) (by decide) rfl rfl ?_
  refine x_aload0 81 dX6_copyFrom_80 rfl ?_
  refine x_aload1 82 dX6_copyFrom_81 rfl ?_
  refine x_getI cf6 10 85 dX6_copyFrom_82 rfl wd162 (fun _ => s_x1) (by decide) rfl ?_
  refine x_putI cf6 10 88 dX6_copyFrom_85 rfl wd162 (fun _ => s_x0) (by decide) rfl rfl ?_
  refine x_aload0 89 dX6_copyFrom_88 rfl ?_
  refine x_aload1 90 dX6_copyFrom_89 rfl ?_
  refine x_getL cf6 11 93 dX6_copyFrom_90 rfl wd163 (fun _ => s_x1) (by decide) rfl ?_
  refine x_putL cf6 11 96 dX6_copyFrom_93 rfl wd163 (fun _ => s_x0) (by decide) rfl rfl ?_
  exact kf
set_option maxRecDepth 20000 in
theorem B6_copyFrom_96 {ω : Om} {h : AH} {Q : Option Value → AH → Prop} {u0 : Option Value} {u1 : Option Value} (hw : ω.2.2.2.1 = true) (hq : Q none h) : Ex ω M6_copyFrom 96 [u0, u1] [] h 0 0 Q := by
  refine x_dr0 ?_
  refine x_dr1 ?_
  exact x_vret dX6_copyFrom_96 rfl (Nat.zero_le _) (Nat.zero_le _) hq
set_option maxRecDepth 20000 in
theorem B6_property_0 {ω : Om} {h : AH} {Q : Option Value → AH → Prop} {x0 : Nat} {x1 : Int32} (hw : ω.2.2.2.1 = true) (c0 : x1 = nI 0 → Ex ω M6_property 52 [some (.ref x0), some (.int x1)] [] h 0 0 Q) (c1 : x1 = nI 1 → Ex ω M6_property 72 [some (.ref x0), some (.int x1)] [] h 0 0 Q) (c2 : x1 = nI 2 → Ex ω M6_property 77 [some (.ref x0), some (.int x1)] [] h 0 0 Q) (c3 : x1 = nI 3 → Ex ω M6_property 82 [some (.ref x0), some (.int x1)] [] h 0 0 Q) (c4 : x1 = nI 4 → Ex ω M6_property 87 [some (.ref x0), some (.int x1)] [] h 0 0 Q) (c5 : x1 = nI 5 → Ex ω M6_property 92 [some (.ref x0), some (.int x1)] [] h 0 0 Q) (c6 : x1 = nI 6 → Ex ω M6_property 97 [some (.ref x0), some (.int x1)] [] h 0 0 Q) (c7 : x1 = nI 7 → Ex ω M6_property 102 [some (.ref x0), some (.int x1)] [] h 0 0 Q) (c8 : x1 = nI 8 → Ex ω M6_property 107 [some (.ref x0), some (.int x1)] [] h 0 0 Q) (cd : (¬ (0 ≤ x1 ∧ x1 ≤ nI 8)) → Ex ω M6_property 112 [some (.ref x0), some (.int x1)] [] h 0 0 Q) : Ex ω M6_property 0 [some (.ref x0), some (.int x1)] [] h 0 0 Q := by
  refine x_iload1 1 dX6_property_0 rfl ?_
  refine x_tsw 8 [52, 72, 77, 82, 87, 92, 97, 102, 107] 112 dX6_property_1 (by decide) (by decide) (by decide) (by decide) (by decide) cd (fun j hj e => ?_)
  match j, hj with
  | 0, _ => exact c0 e
  | 1, _ => exact c1 e
  | 2, _ => exact c2 e
  | 3, _ => exact c3 e
  | 4, _ => exact c4 e
  | 5, _ => exact c5 e
  | 6, _ => exact c6 e
  | 7, _ => exact c7 e
  | 8, _ => exact c8 e
  | j + 9, hj => exact absurd hj (by simp)
set_option maxRecDepth 20000 in
theorem B6_property_52 {ω : Om} {h : AH} {Q : Option Value → AH → Prop} {x0 : Nat} {u1 : Option Value} (hw : ω.2.2.2.1 = true) (s_x0 : gs h x0 = some (6, 12)) (hq : Q (some (.int ((((gi h x0 4) + (gi h x0 5)) + (gi h x0 6)) + (gi h x0 7)))) h) : Ex ω M6_property 52 [some (.ref x0), u1] [] h 0 0 Q := by
  refine x_dr1 ?_
  refine x_aload0 53 dX6_property_52 rfl ?_
  refine x_getI cf6 4 56 dX6_property_53 rfl wd156 (fun _ => s_x0) (by decide) rfl ?_
  refine x_aload0 57 dX6_property_56 rfl ?_
  refine x_getI cf6 5 60 dX6_property_57 rfl wd157 (fun _ => s_x0) (by decide) rfl ?_
  refine x_iadd 61 dX6_property_60 rfl ?_
  refine x_aload0 62 dX6_property_61 rfl ?_
  refine x_getI cf6 6 65 dX6_property_62 rfl wd158 (fun _ => s_x0) (by decide) rfl ?_
  refine x_iadd 66 dX6_property_65 rfl ?_
  refine x_aload0 67 dX6_property_66 rfl ?_
  refine x_getI cf6 7 70 dX6_property_67 rfl wd159 (fun _ => s_x0) (by decide) rfl ?_
  refine x_iadd 71 dX6_property_70 rfl ?_
  exact x_iret dX6_property_71 rfl (Nat.zero_le _) (Nat.zero_le _) hq
set_option maxRecDepth 20000 in
theorem B6_property_72 {ω : Om} {h : AH} {Q : Option Value → AH → Prop} {x0 : Nat} {u1 : Option Value} (hw : ω.2.2.2.1 = true) (s_x0 : gs h x0 = some (6, 12)) (hq : Q (some (.int (gi h x0 4))) h) : Ex ω M6_property 72 [some (.ref x0), u1] [] h 0 0 Q := by
  refine x_dr1 ?_
  refine x_aload0 73 dX6_property_72 rfl ?_
  refine x_getI cf6 4 76 dX6_property_73 rfl wd156 (fun _ => s_x0) (by decide) rfl ?_
  exact x_iret dX6_property_76 rfl (Nat.zero_le _) (Nat.zero_le _) hq
set_option maxRecDepth 20000 in
theorem B6_property_77 {ω : Om} {h : AH} {Q : Option Value → AH → Prop} {x0 : Nat} {u1 : Option Value} (hw : ω.2.2.2.1 = true) (s_x0 : gs h x0 = some (6, 12)) (hq : Q (some (.int (gi h x0 5))) h) : Ex ω M6_property 77 [some (.ref x0), u1] [] h 0 0 Q := by
  refine x_dr1 ?_
  refine x_aload0 78 dX6_property_77 rfl ?_
  refine x_getI cf6 5 81 dX6_property_78 rfl wd157 (fun _ => s_x0) (by decide) rfl ?_
  exact x_iret dX6_property_81 rfl (Nat.zero_le _) (Nat.zero_le _) hq
set_option maxRecDepth 20000 in
theorem B6_property_82 {ω : Om} {h : AH} {Q : Option Value → AH → Prop} {x0 : Nat} {u1 : Option Value} (hw : ω.2.2.2.1 = true) (s_x0 : gs h x0 = some (6, 12)) (hq : Q (some (.int (gi h x0 6))) h) : Ex ω M6_property 82 [some (.ref x0), u1] [] h 0 0 Q := by
  refine x_dr1 ?_
  refine x_aload0 83 dX6_property_82 rfl ?_
  refine x_getI cf6 6 86 dX6_property_83 rfl wd158 (fun _ => s_x0) (by decide) rfl ?_
  exact x_iret dX6_property_86 rfl (Nat.zero_le _) (Nat.zero_le _) hq
set_option maxRecDepth 20000 in
theorem B6_property_87 {ω : Om} {h : AH} {Q : Option Value → AH → Prop} {x0 : Nat} {u1 : Option Value} (hw : ω.2.2.2.1 = true) (s_x0 : gs h x0 = some (6, 12)) (hq : Q (some (.int (gi h x0 7))) h) : Ex ω M6_property 87 [some (.ref x0), u1] [] h 0 0 Q := by
  refine x_dr1 ?_
  refine x_aload0 88 dX6_property_87 rfl ?_
  refine x_getI cf6 7 91 dX6_property_88 rfl wd159 (fun _ => s_x0) (by decide) rfl ?_
  exact x_iret dX6_property_91 rfl (Nat.zero_le _) (Nat.zero_le _) hq
set_option maxRecDepth 20000 in
theorem B6_property_92 {ω : Om} {h : AH} {Q : Option Value → AH → Prop} {x0 : Nat} {u1 : Option Value} (hw : ω.2.2.2.1 = true) (s_x0 : gs h x0 = some (6, 12)) (hq : Q (some (.int (gi h x0 8))) h) : Ex ω M6_property 92 [some (.ref x0), u1] [] h 0 0 Q := by
  refine x_dr1 ?_
  refine x_aload0 93 dX6_property_92 rfl ?_
  refine x_getI cf6 8 96 dX6_property_93 rfl wd160 (fun _ => s_x0) (by decide) rfl ?_
  exact x_iret dX6_property_96 rfl (Nat.zero_le _) (Nat.zero_le _) hq
set_option maxRecDepth 20000 in
theorem B6_property_97 {ω : Om} {h : AH} {Q : Option Value → AH → Prop} {x0 : Nat} {u1 : Option Value} (hw : ω.2.2.2.1 = true) (s_x0 : gs h x0 = some (6, 12)) (hq : Q (some (.int (gi h x0 9))) h) : Ex ω M6_property 97 [some (.ref x0), u1] [] h 0 0 Q := by
  refine x_dr1 ?_
  refine x_aload0 98 dX6_property_97 rfl ?_
  refine x_getI cf6 9 101 dX6_property_98 rfl wd161 (fun _ => s_x0) (by decide) rfl ?_
  exact x_iret dX6_property_101 rfl (Nat.zero_le _) (Nat.zero_le _) hq
set_option maxRecDepth 20000 in
theorem B6_property_102 {ω : Om} {h : AH} {Q : Option Value → AH → Prop} {x0 : Nat} {u1 : Option Value} (hw : ω.2.2.2.1 = true) (s_x0 : gs h x0 = some (6, 12)) (hq : Q (some (.int (gi h x0 2))) h) : Ex ω M6_property 102 [some (.ref x0), u1] [] h 0 0 Q := by
  refine x_dr1 ?_
  refine x_aload0 103 dX6_property_102 rfl ?_
  refine x_getI cf6 2 106 dX6_property_103 rfl wd154 (fun _ => s_x0) (by decide) rfl ?_
  exact x_iret dX6_property_106 rfl (Nat.zero_le _) (Nat.zero_le _) hq
set_option maxRecDepth 20000 in
theorem B6_property_107 {ω : Om} {h : AH} {Q : Option Value → AH → Prop} {x0 : Nat} {u1 : Option Value} (hw : ω.2.2.2.1 = true) (s_x0 : gs h x0 = some (6, 12)) (hq : Q (some (.int (gi h x0 3))) h) : Ex ω M6_property 107 [some (.ref x0), u1] [] h 0 0 Q := by
  refine x_dr1 ?_
  refine x_aload0 108 dX6_property_107 rfl ?_
  refine x_getI cf6 3 111 dX6_property_108 rfl wd155 (fun _ => s_x0) (by decide) rfl ?_
  exact x_iret dX6_property_111 rfl (Nat.zero_le _) (Nat.zero_le _) hq
set_option maxRecDepth 20000 in
theorem B6_property_112 {ω : Om} {h : AH} {Q : Option Value → AH → Prop} {x0 : Nat} {u1 : Option Value} (hw : ω.2.2.2.1 = true) (s_x0 : gs h x0 = some (6, 12)) (hq : Q (some (.int (gi h x0 1))) h) : Ex ω M6_property 112 [some (.ref x0), u1] [] h 0 0 Q := by
  refine x_dr1 ?_
  refine x_aload0 113 dX6_property_112 rfl ?_
  refine x_getI cf6 1 116 dX6_property_113 rfl wd153 (fun _ => s_x0) (by decide) rfl ?_
  exact x_iret dX6_property_116 rfl (Nat.zero_le _) (Nat.zero_le _) hq
