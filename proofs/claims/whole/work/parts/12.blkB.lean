/-! block laws (written by a program: wip/whole/gen_all.py) -/
set_option maxRecDepth 20000 in
theorem B9_readsStep_0 {ω : Om} {h : AH} {Q : Option Value → AH → Prop} {x0 : Nat} {u1 : Option Value} {u2 : Option Value} {u3 : Option Value} {u4 : Option Value} (hw : ω.2.2.2.1 = true) (s_x0 : gs h x0 = some (9, 17)) (kk : Ex ω M9_readsName 0 [some (.ref x0), none, none] [] h 0 0 (fun v h' => Ex ω M9_readsStep 4 [some (.ref x0), none, none, none, none] (v.toList ++ []) h' 0 0 Q)) : Ex ω M9_readsStep 0 [some (.ref x0), u1, u2, u3, u4] [] h 0 0 Q := by
  refine x_dr1 ?_
  refine x_dr2 ?_
  refine x_dr3 ?_
  refine x_dr4 ?_
  refine x_aload0 1 dX9_readsStep_0 rfl ?_
  exact x_callV 4 x0 [] [] dX9_readsStep_1 rfl lk_9_readsName ⟨wd482, wd483, wd484⟩ ⟨by decide, by decide⟩ (recvO cf9 (fun _ => s_x0)) rfl rfl (Nat.le_of_ble_eq_true rfl) (Nat.le_of_ble_eq_true rfl) (by decide) (by decide) kk
set_option maxRecDepth 20000 in
theorem B9_readsStep_4 {ω : Om} {h : AH} {Q : Option Value → AH → Prop} {x0 : Nat} {u1 : Option Value} {u2 : Option Value} {u3 : Option Value} {u4 : Option Value} {y0 : Int32} (hw : ω.2.2.2.1 = true) (kt : y0 < 0 → Ex ω M9_readsStep 27 [some (.ref x0), some (.int y0), none, none, none] [] h 0 0 Q) (kf : ¬ y0 < 0 → Ex ω M9_readsStep 9 [some (.ref x0), some (.int y0), none, none, none] [] h 0 0 Q) : Ex ω M9_readsStep 4 [some (.ref x0), u1, u2, u3, u4] [.int y0] h 0 0 Q := by
  refine x_dr1 ?_
  refine x_dr2 ?_
  refine x_dr3 ?_
  refine x_dr4 ?_
  refine x_istore1 5 dX9_readsStep_4 rfl (by decide) rfl ?_
  refine x_iload1 6 dX9_readsStep_5 rfl ?_
  exact x_if_lt 9 27 dX9_readsStep_6 rfl (by decide) kt kf
set_option maxRecDepth 20000 in
theorem B9_readsStep_9 {ω : Om} {h : AH} {Q : Option Value → AH → Prop} {x0 : Nat} {x1 : Int32} {u2 : Option Value} {u3 : Option Value} {u4 : Option Value} (hw : ω.2.2.2.1 = true) (s_x0 : gs h x0 = some (9, 17)) (kt : (gi h x0 7) = (nI 12) → Ex ω M9_readsStep 27 [some (.ref x0), some (.int x1), none, none, none] [] h 0 0 Q) (kf : ¬ (gi h x0 7) = (nI 12) → Ex ω M9_readsStep 18 [some (.ref x0), some (.int x1), none, none, none] [] h 0 0 Q) : Ex ω M9_readsStep 9 [some (.ref x0), some (.int x1), u2, u3, u4] [] h 0 0 Q := by
  refine x_dr2 ?_
  refine x_dr3 ?_
  refine x_dr4 ?_
  refine x_aload0 10 dX9_readsStep_9 rfl ?_
  refine x_getI cf9 7 13 dX9_readsStep_10 rfl wd475 (fun _ => s_x0) (by decide) rfl ?_
  refine x_bipush (nI 12) 15 dX9_readsStep_13 rfl rfl ?_
  exact x_icmp_eq 18 27 dX9_readsStep_15 rfl (by decide) kt kf
set_option maxRecDepth 20000 in
theorem B9_readsStep_18 {ω : Om} {h : AH} {Q : Option Value → AH → Prop} {x0 : Nat} {x1 : Int32} {u2 : Option Value} {u3 : Option Value} {u4 : Option Value} (hw : ω.2.2.2.1 = true) (s_x0 : gs h x0 = some (9, 17)) (kk : Ex ω M9_isNext 0 [some (.ref x0), some (.int (nI 32))] [] h 0 0 (fun v h' => Ex ω M9_readsStep 24 [some (.ref x0), some (.int x1), none, none, none] (v.toList ++ []) h' 0 0 Q)) : Ex ω M9_readsStep 18 [some (.ref x0), some (.int x1), u2, u3, u4] [] h 0 0 Q := by
  refine x_dr2 ?_
  refine x_dr3 ?_
  refine x_dr4 ?_
  refine x_aload0 19 dX9_readsStep_18 rfl ?_
  refine x_bipush (nI 32) 21 dX9_readsStep_19 rfl rfl ?_
  exact x_callV 24 x0 [.int (nI 32)] [] dX9_readsStep_21 rfl lk_9_isNext ⟨wd492, wd493, wd494⟩ ⟨by decide, by decide⟩ (recvO cf9 (fun _ => s_x0)) rfl rfl (Nat.le_of_ble_eq_true rfl) (Nat.le_of_ble_eq_true rfl) (by decide) (by decide) kk
set_option maxRecDepth 20000 in
theorem B9_readsStep_24 {ω : Om} {h : AH} {Q : Option Value → AH → Prop} {x0 : Nat} {x1 : Int32} {u2 : Option Value} {u3 : Option Value} {u4 : Option Value} {y0 : Int32} (hw : ω.2.2.2.1 = true) (kt : ¬ y0 = 0 → Ex ω M9_readsStep 29 [some (.ref x0), some (.int x1), none, none, none] [] h 0 0 Q) (kf : y0 = 0 → Ex ω M9_readsStep 27 [some (.ref x0), some (.int x1), none, none, none] [] h 0 0 Q) : Ex ω M9_readsStep 24 [some (.ref x0), some (.int x1), u2, u3, u4] [.int y0] h 0 0 Q := by
  refine x_dr2 ?_
  refine x_dr3 ?_
  refine x_dr4 ?_
  exact x_if_ne 27 29 dX9_readsStep_24 rfl (by decide) kt kf
set_option maxRecDepth 20000 in
theorem B9_readsStep_27 {ω : Om} {h : AH} {Q : Option Value → AH → Prop} {u0 : Option Value} {u1 : Option Value} {u2 : Option Value} {u3 : Option Value} {u4 : Option Value} (hw : ω.2.2.2.1 = true) (hq : Q (some (.int (nI 0))) h) : Ex ω M9_readsStep 27 [u0, u1, u2, u3, u4] [] h 0 0 Q := by
  refine x_dr0 ?_
  refine x_dr1 ?_
  refine x_dr2 ?_
  refine x_dr3 ?_
  refine x_dr4 ?_
  refine x_iconst (nI 0) 28 dX9_readsStep_27 rfl rfl ?_
  exact x_zret dX9_readsStep_28 rfl rfl (Nat.zero_le _) (Nat.zero_le _) hq
set_option maxRecDepth 20000 in
theorem B9_readsStep_29 {ω : Om} {h : AH} {Q : Option Value → AH → Prop} {x0 : Nat} {x1 : Int32} {u2 : Option Value} {u3 : Option Value} {u4 : Option Value} (hw : ω.2.2.2.1 = true) (s_x0 : gs h x0 = some (9, 17)) (kf : Ex ω M9_readsStep 43 [some (.ref x0), some (.int x1), some (.int (nI 0)), some (.int (nI 0)), none] [] (si h x0 6 ((gi h x0 6) + (nI 1))) 0 0 Q) : Ex ω M9_readsStep 29 [some (.ref x0), some (.int x1), u2, u3, u4] [] h 0 0 Q := by
  refine x_dr2 ?_
  refine x_dr3 ?_
  refine x_dr4 ?_
  refine x_aload0 30 dX9_readsStep_29 rfl ?_
  refine x_dup 31 dX9_readsStep_30 rfl rfl ?_
  refine x_getI cf9 6 34 dX9_readsStep_31 rfl wd474 (fun _ => s_x0) (by decide) rfl ?_
  refine x_iconst (nI 1) 35 dX9_readsStep_34 rfl rfl ?_
  refine x_iadd 36 dX9_readsStep_35 rfl ?_
  refine x_putI cf9 6 39 dX9_readsStep_36 rfl wd474 (fun _ => s_x0) (by decide) rfl rfl ?_
  refine x_iconst (nI 0) 40 dX9_readsStep_39 rfl rfl ?_
  refine x_istore2 41 dX9_readsStep_40 rfl (by decide) rfl ?_
  refine x_iconst (nI 0) 42 dX9_readsStep_41 rfl rfl ?_
  refine x_istore3 43 dX9_readsStep_42 rfl (by decide) rfl ?_
  exact kf
set_option maxRecDepth 20000 in
theorem B9_readsStep_43 {ω : Om} {h : AH} {Q : Option Value → AH → Prop} {x0 : Nat} {x1 : Int32} {x2 : Int32} {x3 : Int32} {u4 : Option Value} (hw : ω.2.2.2.1 = true) (kt : (nI 3) ≤ x2 → Ex ω M9_readsStep 115 [some (.ref x0), some (.int x1), some (.int x2), some (.int x3), none] [] h 0 0 Q) (kf : ¬ (nI 3) ≤ x2 → Ex ω M9_readsStep 48 [some (.ref x0), some (.int x1), some (.int x2), some (.int x3), none] [] h 0 0 Q) : Ex ω M9_readsStep 43 [some (.ref x0), some (.int x1), some (.int x2), some (.int x3), u4] [] h 0 0 Q := by
  refine x_dr4 ?_
  refine x_iload2 44 dX9_readsStep_43 rfl ?_
  refine x_iconst (nI 3) 45 dX9_readsStep_44 rfl rfl ?_
  exact x_icmp_ge 48 115 dX9_readsStep_45 rfl (by decide) kt kf
set_option maxRecDepth 20000 in
theorem B9_readsStep_48 {ω : Om} {h : AH} {Q : Option Value → AH → Prop} {x0 : Nat} {x1 : Int32} {x2 : Int32} {x3 : Int32} {u4 : Option Value} (hw : ω.2.2.2.1 = true) (s_x0 : gs h x0 = some (9, 17)) (kt : (gi h x0 5) ≤ (gi h x0 6) → Ex ω M9_readsStep 115 [some (.ref x0), some (.int x1), some (.int x2), some (.int x3), none] [] h 0 0 Q) (kf : ¬ (gi h x0 5) ≤ (gi h x0 6) → Ex ω M9_readsStep 59 [some (.ref x0), some (.int x1), some (.int x2), some (.int x3), none] [] h 0 0 Q) : Ex ω M9_readsStep 48 [some (.ref x0), some (.int x1), some (.int x2), some (.int x3), u4] [] h 0 0 Q := by
  refine x_dr4 ?_
  refine x_aload0 49 dX9_readsStep_48 rfl ?_
  refine x_getI cf9 6 52 dX9_readsStep_49 rfl wd474 (fun _ => s_x0) (by decide) rfl ?_
  refine x_aload0 53 dX9_readsStep_52 rfl ?_
  refine x_getI cf9 5 56 dX9_readsStep_53 rfl wd359 (fun _ => s_x0) (by decide) rfl ?_
  exact x_icmp_ge 59 115 dX9_readsStep_56 rfl (by decide) kt kf
set_option maxRecDepth 20000 in
theorem B9_readsStep_59 {ω : Om} {h : AH} {Q : Option Value → AH → Prop} {x0 : Nat} {x1 : Int32} {x2 : Int32} {x3 : Int32} {u4 : Option Value} (hw : ω.2.2.2.1 = true) (s_x0 : gs h x0 = some (9, 17)) (i1 : vp_in (gi h x0 6) 100) (kk : Ex ω M9_in 0 [some (.long (Int32.toInt64 (gi h (gr h x0 4) (Int32.toNatClampNeg (gi h x0 6))))), none, some (.long ((48 : Int64))), none, some (.long ((57 : Int64))), none] [] h 0 0 (fun v h' => Ex ω M9_readsStep 78 [some (.ref x0), some (.int x1), some (.int x2), some (.int x3), none] (v.toList ++ []) h' 0 0 Q)) : Ex ω M9_readsStep 59 [some (.ref x0), some (.int x1), some (.int x2), some (.int x3), u4] [] h 0 0 Q := by
  refine x_dr4 ?_
  refine x_aload0 60 dX9_readsStep_59 rfl ?_
  refine x_getR cf9 4 63 hw dX9_readsStep_60 rfl wd102 (fun _ => s_x0) (by decide) (by decide) rfl ?_
  refine x_aload0 64 dX9_readsStep_63 rfl ?_
  refine x_getI cf9 6 67 dX9_readsStep_64 rfl wd474 (fun _ => s_x0) (by decide) rfl ?_
  refine x_iald (Int32.toNatClampNeg (gi h x0 6)) 68 dX9_readsStep_67 rfl (SH.fld hw (fun _ => s_x0) 4 (Nat.le_of_ble_eq_true rfl) rfl rfl) i1 rfl ?_
  refine x_i2l 69 dX9_readsStep_68 rfl ?_
  refine x_ldc2 48 72 dX9_readsStep_69 rfl wd480 ?_
  refine x_ldc2 57 75 dX9_readsStep_72 rfl wd481 ?_
  exact x_callS 78 [.long (Int32.toInt64 (gi h (gr h x0 4) (Int32.toNatClampNeg (gi h x0 6)))), .long ((48 : Int64)), .long ((57 : Int64))] [] dX9_readsStep_75 rfl lk_9_in ⟨wd200, wd201⟩ ⟨by decide, by decide⟩ rfl rfl (Nat.le_of_ble_eq_true rfl) (Nat.le_of_ble_eq_true rfl) (by decide) (by decide) kk
set_option maxRecDepth 20000 in
theorem B9_readsStep_78 {ω : Om} {h : AH} {Q : Option Value → AH → Prop} {x0 : Nat} {x1 : Int32} {x2 : Int32} {x3 : Int32} {u4 : Option Value} {y0 : Int32} (hw : ω.2.2.2.1 = true) (kt : y0 = 0 → Ex ω M9_readsStep 115 [some (.ref x0), some (.int x1), some (.int x2), some (.int x3), none] [] h 0 0 Q) (kf : ¬ y0 = 0 → Ex ω M9_readsStep 81 [some (.ref x0), some (.int x1), some (.int x2), some (.int x3), none] [] h 0 0 Q) : Ex ω M9_readsStep 78 [some (.ref x0), some (.int x1), some (.int x2), some (.int x3), u4] [.int y0] h 0 0 Q := by
  refine x_dr4 ?_
  exact x_if_eq 81 115 dX9_readsStep_78 rfl (by decide) kt kf
set_option maxRecDepth 20000 in
theorem B9_readsStep_81 {ω : Om} {h : AH} {Q : Option Value → AH → Prop} {x0 : Nat} {x1 : Int32} {x2 : Int32} {x3 : Int32} {u4 : Option Value} (hw : ω.2.2.2.1 = true) (s_x0 : gs h x0 = some (9, 17)) (i1 : vp_in (gi h x0 6) 100) (kt : Ex ω M9_readsStep 43 [some (.ref x0), some (.int x1), some (.int (x2 + (nI 1))), some (.int ((((nI 10) * x3) + (gi h (gr h x0 4) (Int32.toNatClampNeg (gi h x0 6)))) - (nI 48))), none] [] (si h x0 6 ((gi h x0 6) + (nI 1))) 0 0 Q) : Ex ω M9_readsStep 81 [some (.ref x0), some (.int x1), some (.int x2), some (.int x3), u4] [] h 0 0 Q := by
  refine x_dr4 ?_
  refine x_bipush (nI 10) 83 dX9_readsStep_81 rfl rfl ?_
  refine x_iload3 84 dX9_readsStep_83 rfl ?_
  refine x_imul 85 dX9_readsStep_84 rfl ?_
  refine x_aload0 86 dX9_readsStep_85 rfl ?_
  refine x_getR cf9 4 89 hw dX9_readsStep_86 rfl wd102 (fun _ => s_x0) (by decide) (by decide) rfl ?_
  refine x_aload0 90 dX9_readsStep_89 rfl ?_
  refine x_getI cf9 6 93 dX9_readsStep_90 rfl wd474 (fun _ => s_x0) (by decide) rfl ?_
  refine x_iald (Int32.toNatClampNeg (gi h x0 6)) 94 dX9_readsStep_93 rfl (SH.fld hw (fun _ => s_x0) 4 (Nat.le_of_ble_eq_true rfl) rfl rfl) i1 rfl ?_
  refine x_iadd 95 dX9_readsStep_94 rfl ?_
  refine x_bipush (nI 48) 97 dX9_readsStep_95 rfl rfl ?_
  refine x_isub 98 dX9_readsStep_97 rfl ?_
  refine x_istore3 99 dX9_readsStep_98 rfl (by decide) rfl ?_
  refine x_aload0 100 dX9_readsStep_99 rfl ?_
  refine x_dup 101 dX9_readsStep_100 rfl rfl ?_
  refine x_getI cf9 6 104 dX9_readsStep_101 rfl wd474 (fun _ => s_x0) (by decide) rfl ?_
  refine x_iconst (nI 1) 105 dX9_readsStep_104 rfl rfl ?_
  refine x_iadd 106 dX9_readsStep_105 rfl ?_
  refine x_putI cf9 6 109 dX9_readsStep_106 rfl wd474 (fun _ => s_x0) (by decide) rfl rfl ?_
  refine x_iinc2 (x2 + (nI 1)) 112 dX9_readsStep_109 rfl (by decide) rfl rfl ?_
  exact x_goto 43 dX9_readsStep_112 (by decide) kt
set_option maxRecDepth 20000 in
theorem B9_readsStep_115 {ω : Om} {h : AH} {Q : Option Value → AH → Prop} {x0 : Nat} {x1 : Int32} {x2 : Int32} {x3 : Int32} {u4 : Option Value} (hw : ω.2.2.2.1 = true) (kt : x2 = 0 → Ex ω M9_readsStep 127 [some (.ref x0), some (.int x1), some (.int x2), some (.int x3), none] [] h 0 0 Q) (kf : ¬ x2 = 0 → Ex ω M9_readsStep 119 [some (.ref x0), some (.int x1), some (.int x2), some (.int x3), none] [] h 0 0 Q) : Ex ω M9_readsStep 115 [some (.ref x0), some (.int x1), some (.int x2), some (.int x3), u4] [] h 0 0 Q := by
  refine x_dr4 ?_
  refine x_iload2 116 dX9_readsStep_115 rfl ?_
  exact x_if_eq 119 127 dX9_readsStep_116 rfl (by decide) kt kf
set_option maxRecDepth 20000 in
theorem B9_readsStep_119 {ω : Om} {h : AH} {Q : Option Value → AH → Prop} {x0 : Nat} {x1 : Int32} {u2 : Option Value} {x3 : Int32} {u4 : Option Value} (hw : ω.2.2.2.1 = true) (kk : Ex ω M9_isAmount 0 [some (.int x1), some (.int x3)] [] h 0 0 (fun v h' => Ex ω M9_readsStep 124 [some (.ref x0), some (.int x1), none, some (.int x3), none] (v.toList ++ []) h' 0 0 Q)) : Ex ω M9_readsStep 119 [some (.ref x0), some (.int x1), u2, some (.int x3), u4] [] h 0 0 Q := by
  refine x_dr2 ?_
  refine x_dr4 ?_
  refine x_iload1 120 dX9_readsStep_119 rfl ?_
  refine x_iload3 121 dX9_readsStep_120 rfl ?_
  exact x_callS 124 [.int x1, .int x3] [] dX9_readsStep_121 rfl lk_9_isAmount ⟨wd496, wd497⟩ ⟨by decide, by decide⟩ rfl rfl (Nat.le_of_ble_eq_true rfl) (Nat.le_of_ble_eq_true rfl) (by decide) (by decide) kk
set_option maxRecDepth 20000 in
theorem B9_readsStep_124 {ω : Om} {h : AH} {Q : Option Value → AH → Prop} {x0 : Nat} {x1 : Int32} {u2 : Option Value} {x3 : Int32} {u4 : Option Value} {y0 : Int32} (hw : ω.2.2.2.1 = true) (kt : ¬ y0 = 0 → Ex ω M9_readsStep 129 [some (.ref x0), some (.int x1), none, some (.int x3), none] [] h 0 0 Q) (kf : y0 = 0 → Ex ω M9_readsStep 127 [some (.ref x0), some (.int x1), none, some (.int x3), none] [] h 0 0 Q) : Ex ω M9_readsStep 124 [some (.ref x0), some (.int x1), u2, some (.int x3), u4] [.int y0] h 0 0 Q := by
  refine x_dr2 ?_
  refine x_dr4 ?_
  exact x_if_ne 127 129 dX9_readsStep_124 rfl (by decide) kt kf
set_option maxRecDepth 20000 in
theorem B9_readsStep_127 {ω : Om} {h : AH} {Q : Option Value → AH → Prop} {u0 : Option Value} {u1 : Option Value} {u2 : Option Value} {u3 : Option Value} {u4 : Option Value} (hw : ω.2.2.2.1 = true) (hq : Q (some (.int (nI 0))) h) : Ex ω M9_readsStep 127 [u0, u1, u2, u3, u4] [] h 0 0 Q := by
  refine x_dr0 ?_
  refine x_dr1 ?_
  refine x_dr2 ?_
  refine x_dr3 ?_
  refine x_dr4 ?_
  refine x_iconst (nI 0) 128 dX9_readsStep_127 rfl rfl ?_
  exact x_zret dX9_readsStep_128 rfl rfl (Nat.zero_le _) (Nat.zero_le _) hq
set_option maxRecDepth 20000 in
theorem B9_readsStep_129 {ω : Om} {h : AH} {Q : Option Value → AH → Prop} {x0 : Nat} {x1 : Int32} {u2 : Option Value} {x3 : Int32} {u4 : Option Value} (hw : ω.2.2.2.1 = true) (s_x0 : gs h x0 = some (9, 17)) (i1 : vp_in ((nI 2) * (gi h x0 7)) 24) (i2 : vp_in (((nI 2) * (gi (si h (gr h x0 8) (Int32.toNatClampNeg ((nI 2) * (gi h x0 7))) x1) x0 7)) + (nI 1)) 24) (kf : Ex ω M9_readsStep 155 [some (.ref x0), some (.int x1), none, some (.int x3), none] [] (si (si h (gr h x0 8) (Int32.toNatClampNeg ((nI 2) * (gi h x0 7))) x1) (gr h x0 8) (Int32.toNatClampNeg (((nI 2) * (gi (si h (gr h x0 8) (Int32.toNatClampNeg ((nI 2) * (gi h x0 7))) x1) x0 7)) + (nI 1))) x3) 0 0 Q) : Ex ω M9_readsStep 129 [some (.ref x0), some (.int x1), u2, some (.int x3), u4] [] h 0 0 Q := by
  refine x_dr2 ?_
  refine x_dr4 ?_
  refine x_aload0 130 dX9_readsStep_129 rfl ?_
  refine x_getR cf9 8 133 hw dX9_readsStep_130 rfl wd103 (fun _ => s_x0) (by decide) (by decide) rfl ?_
  refine x_iconst (nI 2) 134 dX9_readsStep_133 rfl rfl ?_
  refine x_aload0 135 dX9_readsStep_134 rfl ?_
  refine x_getI cf9 7 138 dX9_readsStep_135 rfl wd475 (fun _ => s_x0) (by decide) rfl ?_
  refine x_imul 139 dX9_readsStep_138 rfl ?_
  refine x_iload1 140 dX9_readsStep_139 rfl ?_
  refine x_iast (Int32.toNatClampNeg ((nI 2) * (gi h x0 7))) 141 dX9_readsStep_140 rfl (SH.fld hw (fun _ => s_x0) 8 (Nat.le_of_ble_eq_true rfl) rfl rfl) i1 rfl ?_
  refine x_aload0 142 dX9_readsStep_141 rfl ?_
  refine x_getR cf9 8 145 hw dX9_readsStep_142 rfl wd103 (fun _ => s_x0) (by decide) (by decide) rfl ?_
  refine x_iconst (nI 2) 146 dX9_readsStep_145 rfl rfl ?_
  refine x_aload0 147 dX9_readsStep_146 rfl ?_
  refine x_getI cf9 7 150 dX9_readsStep_147 rfl wd475 (fun _ => s_x0) (by decide) rfl ?_
  refine x_imul 151 dX9_readsStep_150 rfl ?_
  refine x_iconst (nI 1) 152 dX9_readsStep_151 rfl rfl ?_
  refine x_iadd 153 dX9_readsStep_152 rfl ?_
  refine x_iload3 154 dX9_readsStep_153 rfl ?_
  refine x_iast (Int32.toNatClampNeg (((nI 2) * (gi (si h (gr h x0 8) (Int32.toNatClampNeg ((nI 2) * (gi h x0 7))) x1) x0 7)) + (nI 1))) 155 dX9_readsStep_154 rfl (SH.fld hw (fun _ => s_x0) 8 (Nat.le_of_ble_eq_true rfl) rfl rfl) i2 rfl ?_
  exact kf
set_option maxRecDepth 20000 in
theorem B9_readsStep_155 {ω : Om} {h : AH} {Q : Option Value → AH → Prop} {x0 : Nat} {u1 : Option Value} {u2 : Option Value} {u3 : Option Value} {u4 : Option Value} (hw : ω.2.2.2.1 = true) (s_x0 : gs h x0 = some (9, 17)) (kt : ¬ (gi (si h x0 7 ((gi h x0 7) + (nI 1))) x0 6) = (gi (si h x0 7 ((gi h x0 7) + (nI 1))) x0 5) → Ex ω M9_readsStep 178 [some (.ref x0), none, none, none, none] [] (si h x0 7 ((gi h x0 7) + (nI 1))) 0 0 Q) (kf : (gi (si h x0 7 ((gi h x0 7) + (nI 1))) x0 6) = (gi (si h x0 7 ((gi h x0 7) + (nI 1))) x0 5) → Ex ω M9_readsStep 176 [some (.ref x0), none, none, none, none] [] (si h x0 7 ((gi h x0 7) + (nI 1))) 0 0 Q) : Ex ω M9_readsStep 155 [some (.ref x0), u1, u2, u3, u4] [] h 0 0 Q := by
  refine x_dr1 ?_
  refine x_dr2 ?_
  refine x_dr3 ?_
  refine x_dr4 ?_
  refine x_aload0 156 dX9_readsStep_155 rfl ?_
  refine x_dup 157 dX9_readsStep_156 rfl rfl ?_
  refine x_getI cf9 7 160 dX9_readsStep_157 rfl wd475 (fun _ => s_x0) (by decide) rfl ?_
  refine x_iconst (nI 1) 161 dX9_readsStep_160 rfl rfl ?_
  refine x_iadd 162 dX9_readsStep_161 rfl ?_
  refine x_putI cf9 7 165 dX9_readsStep_162 rfl wd475 (fun _ => s_x0) (by decide) rfl rfl ?_
  refine x_aload0 166 dX9_readsStep_165 rfl ?_
  refine x_getI cf9 6 169 dX9_readsStep_166 rfl wd474 (fun _ => s_x0) (by decide) rfl ?_
  refine x_aload0 170 dX9_readsStep_169 rfl ?_
  refine x_getI cf9 5 173 dX9_readsStep_170 rfl wd359 (fun _ => s_x0) (by decide) rfl ?_
  exact x_icmp_ne 176 178 dX9_readsStep_173 rfl (by decide) kt kf
set_option maxRecDepth 20000 in
theorem B9_readsStep_176 {ω : Om} {h : AH} {Q : Option Value → AH → Prop} {u0 : Option Value} {u1 : Option Value} {u2 : Option Value} {u3 : Option Value} {u4 : Option Value} (hw : ω.2.2.2.1 = true) (hq : Q (some (.int (nI 1))) h) : Ex ω M9_readsStep 176 [u0, u1, u2, u3, u4] [] h 0 0 Q := by
  refine x_dr0 ?_
  refine x_dr1 ?_
  refine x_dr2 ?_
  refine x_dr3 ?_
  refine x_dr4 ?_
  refine x_iconst (nI 1) 177 dX9_readsStep_176 rfl rfl ?_
  exact x_zret dX9_readsStep_177 rfl rfl (Nat.zero_le _) (Nat.zero_le _) hq
set_option maxRecDepth 20000 in
theorem B9_readsStep_178 {ω : Om} {h : AH} {Q : Option Value → AH → Prop} {x0 : Nat} {u1 : Option Value} {u2 : Option Value} {u3 : Option Value} {u4 : Option Value} (hw : ω.2.2.2.1 = true) (s_x0 : gs h x0 = some (9, 17)) (kk : Ex ω M9_isNext 0 [some (.ref x0), some (.int (nI 44))] [] h 0 0 (fun v h' => Ex ω M9_readsStep 184 [some (.ref x0), none, none, none, none] (v.toList ++ []) h' 0 0 Q)) : Ex ω M9_readsStep 178 [some (.ref x0), u1, u2, u3, u4] [] h 0 0 Q := by
  refine x_dr1 ?_
  refine x_dr2 ?_
  refine x_dr3 ?_
  refine x_dr4 ?_
  refine x_aload0 179 dX9_readsStep_178 rfl ?_
  refine x_bipush (nI 44) 181 dX9_readsStep_179 rfl rfl ?_
  exact x_callV 184 x0 [.int (nI 44)] [] dX9_readsStep_181 rfl lk_9_isNext ⟨wd492, wd493, wd494⟩ ⟨by decide, by decide⟩ (recvO cf9 (fun _ => s_x0)) rfl rfl (Nat.le_of_ble_eq_true rfl) (Nat.le_of_ble_eq_true rfl) (by decide) (by decide) kk
set_option maxRecDepth 20000 in
theorem B9_readsStep_184 {ω : Om} {h : AH} {Q : Option Value → AH → Prop} {x0 : Nat} {u1 : Option Value} {u2 : Option Value} {u3 : Option Value} {u4 : Option Value} {y0 : Int32} (hw : ω.2.2.2.1 = true) (kt : y0 = 0 → Ex ω M9_readsStep 220 [some (.ref x0), none, none, none, none] [] h 0 0 Q) (kf : ¬ y0 = 0 → Ex ω M9_readsStep 187 [some (.ref x0), none, none, none, none] [] h 0 0 Q) : Ex ω M9_readsStep 184 [some (.ref x0), u1, u2, u3, u4] [.int y0] h 0 0 Q := by
  refine x_dr1 ?_
  refine x_dr2 ?_
  refine x_dr3 ?_
  refine x_dr4 ?_
  exact x_if_eq 187 220 dX9_readsStep_184 rfl (by decide) kt kf
set_option maxRecDepth 20000 in
theorem B9_readsStep_187 {ω : Om} {h : AH} {Q : Option Value → AH → Prop} {x0 : Nat} {u1 : Option Value} {u2 : Option Value} {u3 : Option Value} {u4 : Option Value} (hw : ω.2.2.2.1 = true) (s_x0 : gs h x0 = some (9, 17)) (kt : (gi h x0 5) ≤ ((gi h x0 6) + (nI 2)) → Ex ω M9_readsStep 220 [some (.ref x0), none, none, none, none] [] h 0 0 Q) (kf : ¬ (gi h x0 5) ≤ ((gi h x0 6) + (nI 2)) → Ex ω M9_readsStep 200 [some (.ref x0), none, none, none, none] [] h 0 0 Q) : Ex ω M9_readsStep 187 [some (.ref x0), u1, u2, u3, u4] [] h 0 0 Q := by
  refine x_dr1 ?_
  refine x_dr2 ?_
  refine x_dr3 ?_
  refine x_dr4 ?_
  refine x_aload0 188 dX9_readsStep_187 rfl ?_
  refine x_getI cf9 6 191 dX9_readsStep_188 rfl wd474 (fun _ => s_x0) (by decide) rfl ?_
  refine x_iconst (nI 2) 192 dX9_readsStep_191 rfl rfl ?_
  refine x_iadd 193 dX9_readsStep_192 rfl ?_
  refine x_aload0 194 dX9_readsStep_193 rfl ?_
  refine x_getI cf9 5 197 dX9_readsStep_194 rfl wd359 (fun _ => s_x0) (by decide) rfl ?_
  exact x_icmp_ge 200 220 dX9_readsStep_197 rfl (by decide) kt kf
set_option maxRecDepth 20000 in
theorem B9_readsStep_200 {ω : Om} {h : AH} {Q : Option Value → AH → Prop} {x0 : Nat} {u1 : Option Value} {u2 : Option Value} {u3 : Option Value} {u4 : Option Value} (hw : ω.2.2.2.1 = true) (s_x0 : gs h x0 = some (9, 17)) (i1 : vp_in ((gi h x0 6) + (nI 1)) 100) (kt : ¬ (gi h (gr h x0 4) (Int32.toNatClampNeg ((gi h x0 6) + (nI 1)))) = (nI 32) → Ex ω M9_readsStep 220 [some (.ref x0), none, none, none, none] [] h 0 0 Q) (kf : (gi h (gr h x0 4) (Int32.toNatClampNeg ((gi h x0 6) + (nI 1)))) = (nI 32) → Ex ω M9_readsStep 216 [some (.ref x0), none, none, none, none] [] h 0 0 Q) : Ex ω M9_readsStep 200 [some (.ref x0), u1, u2, u3, u4] [] h 0 0 Q := by
  refine x_dr1 ?_
  refine x_dr2 ?_
  refine x_dr3 ?_
  refine x_dr4 ?_
  refine x_aload0 201 dX9_readsStep_200 rfl ?_
  refine x_getR cf9 4 204 hw dX9_readsStep_201 rfl wd102 (fun _ => s_x0) (by decide) (by decide) rfl ?_
  refine x_aload0 205 dX9_readsStep_204 rfl ?_
  refine x_getI cf9 6 208 dX9_readsStep_205 rfl wd474 (fun _ => s_x0) (by decide) rfl ?_
  refine x_iconst (nI 1) 209 dX9_readsStep_208 rfl rfl ?_
  refine x_iadd 210 dX9_readsStep_209 rfl ?_
  refine x_iald (Int32.toNatClampNeg ((gi h x0 6) + (nI 1))) 211 dX9_readsStep_210 rfl (SH.fld hw (fun _ => s_x0) 4 (Nat.le_of_ble_eq_true rfl) rfl rfl) i1 rfl ?_
  refine x_bipush (nI 32) 213 dX9_readsStep_211 rfl rfl ?_
  exact x_icmp_ne 216 220 dX9_readsStep_213 rfl (by decide) kt kf
set_option maxRecDepth 20000 in
theorem B9_readsStep_216 {ω : Om} {h : AH} {Q : Option Value → AH → Prop} {x0 : Nat} {u1 : Option Value} {u2 : Option Value} {u3 : Option Value} {u4 : Option Value} (hw : ω.2.2.2.1 = true) (kt : Ex ω M9_readsStep 221 [some (.ref x0), none, none, none, none] [.int (nI 1)] h 0 0 Q) : Ex ω M9_readsStep 216 [some (.ref x0), u1, u2, u3, u4] [] h 0 0 Q := by
  refine x_dr1 ?_
  refine x_dr2 ?_
  refine x_dr3 ?_
  refine x_dr4 ?_
  refine x_iconst (nI 1) 217 dX9_readsStep_216 rfl rfl ?_
  exact x_goto 221 dX9_readsStep_217 (by decide) kt
set_option maxRecDepth 20000 in
theorem B9_readsStep_220 {ω : Om} {h : AH} {Q : Option Value → AH → Prop} {x0 : Nat} {u1 : Option Value} {u2 : Option Value} {u3 : Option Value} {u4 : Option Value} (hw : ω.2.2.2.1 = true) (kf : Ex ω M9_readsStep 221 [some (.ref x0), none, none, none, none] [.int (nI 0)] h 0 0 Q) : Ex ω M9_readsStep 220 [some (.ref x0), u1, u2, u3, u4] [] h 0 0 Q := by
  refine x_dr1 ?_
  refine x_dr2 ?_
  refine x_dr3 ?_
  refine x_dr4 ?_
  refine x_iconst (nI 0) 221 dX9_readsStep_220 rfl rfl ?_
  exact kf
set_option maxRecDepth 20000 in
theorem B9_readsStep_221 {ω : Om} {h : AH} {Q : Option Value → AH → Prop} {x0 : Nat} {u1 : Option Value} {u2 : Option Value} {u3 : Option Value} {u4 : Option Value} {y0 : Int32} (hw : ω.2.2.2.1 = true) (s_x0 : gs h x0 = some (9, 17)) (hz : narrow .boolean (.int y0) = .int y0) (hq : Q (some (.int y0)) (si h x0 6 ((gi h x0 6) + (nI 2)))) : Ex ω M9_readsStep 221 [some (.ref x0), u1, u2, u3, u4] [.int y0] h 0 0 Q := by
  refine x_dr1 ?_
  refine x_dr2 ?_
  refine x_dr3 ?_
  refine x_dr4 ?_
  refine x_istore4 223 dX9_readsStep_221 rfl (by decide) rfl ?_
  refine x_aload0 224 dX9_readsStep_223 rfl ?_
  refine x_dup 225 dX9_readsStep_224 rfl rfl ?_
  refine x_getI cf9 6 228 dX9_readsStep_225 rfl wd474 (fun _ => s_x0) (by decide) rfl ?_
  refine x_iconst (nI 2) 229 dX9_readsStep_228 rfl rfl ?_
  refine x_iadd 230 dX9_readsStep_229 rfl ?_
  refine x_putI cf9 6 233 dX9_readsStep_230 rfl wd474 (fun _ => s_x0) (by decide) rfl rfl ?_
  refine x_iload4 235 dX9_readsStep_233 rfl ?_
  exact x_zret dX9_readsStep_235 rfl hz (Nat.zero_le _) (Nat.zero_le _) hq
set_option maxRecDepth 20000 in
theorem B9_faultOf_0 {ω : Om} {h : AH} {Q : Option Value → AH → Prop} {x0 : Nat} {u1 : Option Value} (hw : ω.2.2.2.1 = true) (s_x0 : gs h x0 = some (9, 17)) (kf : Ex ω M9_faultOf 10 [some (.ref x0), none] [] (si (si h x0 6 (nI 0)) x0 7 (nI 0)) 0 0 Q) : Ex ω M9_faultOf 0 [some (.ref x0), u1] [] h 0 0 Q := by
  refine x_dr1 ?_
  refine x_aload0 1 dX9_faultOf_0 rfl ?_
  refine x_iconst (nI 0) 2 dX9_faultOf_1 rfl rfl ?_
  refine x_putI cf9 6 5 dX9_faultOf_2 rfl wd474 (fun _ => s_x0) (by decide) rfl rfl ?_
  refine x_aload0 6 dX9_faultOf_5 rfl ?_
  refine x_iconst (nI 0) 7 dX9_faultOf_6 rfl rfl ?_
  refine x_putI cf9 7 10 dX9_faultOf_7 rfl wd475 (fun _ => s_x0) (by decide) rfl rfl ?_
  exact kf
set_option maxRecDepth 20000 in
theorem B9_faultOf_10 {ω : Om} {h : AH} {Q : Option Value → AH → Prop} {x0 : Nat} {u1 : Option Value} (hw : ω.2.2.2.1 = true) (s_x0 : gs h x0 = some (9, 17)) (kt : (gi h x0 5) ≤ (gi h x0 6) → Ex ω M9_faultOf 38 [some (.ref x0), none] [] h 0 0 Q) (kf : ¬ (gi h x0 5) ≤ (gi h x0 6) → Ex ω M9_faultOf 21 [some (.ref x0), none] [] h 0 0 Q) : Ex ω M9_faultOf 10 [some (.ref x0), u1] [] h 0 0 Q := by
  refine x_dr1 ?_
  refine x_aload0 11 dX9_faultOf_10 rfl ?_
  refine x_getI cf9 6 14 dX9_faultOf_11 rfl wd474 (fun _ => s_x0) (by decide) rfl ?_
  refine x_aload0 15 dX9_faultOf_14 rfl ?_
  refine x_getI cf9 5 18 dX9_faultOf_15 rfl wd359 (fun _ => s_x0) (by decide) rfl ?_
  exact x_icmp_ge 21 38 dX9_faultOf_18 rfl (by decide) kt kf
set_option maxRecDepth 20000 in
theorem B9_faultOf_21 {ω : Om} {h : AH} {Q : Option Value → AH → Prop} {x0 : Nat} {u1 : Option Value} (hw : ω.2.2.2.1 = true) (s_x0 : gs h x0 = some (9, 17)) (kk : Ex ω M9_readsStep 0 [some (.ref x0), none, none, none, none] [] h 0 0 (fun v h' => Ex ω M9_faultOf 30 [some (.ref x0), some (.int (gi h x0 6))] (v.toList ++ []) h' 0 0 Q)) : Ex ω M9_faultOf 21 [some (.ref x0), u1] [] h 0 0 Q := by
  refine x_dr1 ?_
  refine x_aload0 22 dX9_faultOf_21 rfl ?_
  refine x_getI cf9 6 25 dX9_faultOf_22 rfl wd474 (fun _ => s_x0) (by decide) rfl ?_
  refine x_istore1 26 dX9_faultOf_25 rfl (by decide) rfl ?_
  refine x_aload0 27 dX9_faultOf_26 rfl ?_
  exact x_callV 30 x0 [] [] dX9_faultOf_27 rfl lk_9_readsStep ⟨wd476, wd477, wd478⟩ ⟨by decide, by decide⟩ (recvO cf9 (fun _ => s_x0)) rfl rfl (Nat.le_of_ble_eq_true rfl) (Nat.le_of_ble_eq_true rfl) (by decide) (by decide) kk
set_option maxRecDepth 20000 in
theorem B9_faultOf_30 {ω : Om} {h : AH} {Q : Option Value → AH → Prop} {x0 : Nat} {x1 : Int32} {y0 : Int32} (hw : ω.2.2.2.1 = true) (kt : ¬ y0 = 0 → Ex ω M9_faultOf 35 [some (.ref x0), some (.int x1)] [] h 0 0 Q) (kf : y0 = 0 → Ex ω M9_faultOf 33 [some (.ref x0), some (.int x1)] [] h 0 0 Q) : Ex ω M9_faultOf 30 [some (.ref x0), some (.int x1)] [.int y0] h 0 0 Q := by
  exact x_if_ne 33 35 dX9_faultOf_30 rfl (by decide) kt kf
set_option maxRecDepth 20000 in
theorem B9_faultOf_33 {ω : Om} {h : AH} {Q : Option Value → AH → Prop} {u0 : Option Value} {x1 : Int32} (hw : ω.2.2.2.1 = true) (hq : Q (some (.int x1)) h) : Ex ω M9_faultOf 33 [u0, some (.int x1)] [] h 0 0 Q := by
  refine x_dr0 ?_
  refine x_iload1 34 dX9_faultOf_33 rfl ?_
  exact x_iret dX9_faultOf_34 rfl (Nat.zero_le _) (Nat.zero_le _) hq
set_option maxRecDepth 20000 in
theorem B9_faultOf_35 {ω : Om} {h : AH} {Q : Option Value → AH → Prop} {x0 : Nat} {u1 : Option Value} (hw : ω.2.2.2.1 = true) (kt : Ex ω M9_faultOf 10 [some (.ref x0), none] [] h 0 0 Q) : Ex ω M9_faultOf 35 [some (.ref x0), u1] [] h 0 0 Q := by
  refine x_dr1 ?_
  exact x_goto 10 dX9_faultOf_35 (by decide) kt
set_option maxRecDepth 20000 in
theorem B9_faultOf_38 {ω : Om} {h : AH} {Q : Option Value → AH → Prop} {u0 : Option Value} {u1 : Option Value} (hw : ω.2.2.2.1 = true) (hq : Q (some (.int ((-4)))) h) : Ex ω M9_faultOf 38 [u0, u1] [] h 0 0 Q := by
  refine x_dr0 ?_
  refine x_dr1 ?_
  refine x_bipush ((-4)) 40 dX9_faultOf_38 rfl rfl ?_
  exact x_iret dX9_faultOf_40 rfl (Nat.zero_le _) (Nat.zero_le _) hq
set_option maxRecDepth 20000 in
theorem B9_fault_0 {ω : Om} {h : AH} {Q : Option Value → AH → Prop} {x0 : Nat} (hw : ω.2.2.2.1 = true) (s_x0 : gs h x0 = some (9, 17)) (kk : Ex ω M9_faultOf 0 [some (.ref x0), none] [] h 0 0 (fun v h' => Ex ω M9_fault 4 [some (.ref x0)] (v.toList ++ []) h' 0 0 Q)) : Ex ω M9_fault 0 [some (.ref x0)] [] h 0 0 Q := by
  refine x_aload0 1 dX9_fault_0 rfl ?_
  exact x_callV 4 x0 [] [] dX9_fault_1 rfl lk_9_faultOf ⟨wd470, wd471, wd472⟩ ⟨by decide, by decide⟩ (recvO cf9 (fun _ => s_x0)) rfl rfl (Nat.le_of_ble_eq_true rfl) (Nat.le_of_ble_eq_true rfl) (by decide) (by decide) kk
set_option maxRecDepth 20000 in
theorem B9_fault_4 {ω : Om} {h : AH} {Q : Option Value → AH → Prop} {u0 : Option Value} {y0 : Int32} (hw : ω.2.2.2.1 = true) (hq : Q (some (.int y0)) h) : Ex ω M9_fault 4 [u0] [.int y0] h 0 0 Q := by
  refine x_dr0 ?_
  exact x_iret dX9_fault_4 rfl (Nat.zero_le _) (Nat.zero_le _) hq
set_option maxRecDepth 20000 in
theorem B9_load_0 {ω : Om} {h : AH} {Q : Option Value → AH → Prop} {x0 : Nat} {u1 : Option Value} (hw : ω.2.2.2.1 = true) (s_x0 : gs h x0 = some (9, 17)) (kk : Ex ω M9_faultOf 0 [some (.ref x0), none] [] h 0 0 (fun v h' => Ex ω M9_load 4 [some (.ref x0), none] (v.toList ++ []) h' 0 0 Q)) : Ex ω M9_load 0 [some (.ref x0), u1] [] h 0 0 Q := by
  refine x_dr1 ?_
  refine x_aload0 1 dX9_load_0 rfl ?_
  exact x_callV 4 x0 [] [] dX9_load_1 rfl lk_9_faultOf ⟨wd470, wd471, wd472⟩ ⟨by decide, by decide⟩ (recvO cf9 (fun _ => s_x0)) rfl rfl (Nat.le_of_ble_eq_true rfl) (Nat.le_of_ble_eq_true rfl) (by decide) (by decide) kk
set_option maxRecDepth 20000 in
theorem B9_load_4 {ω : Om} {h : AH} {Q : Option Value → AH → Prop} {x0 : Nat} {u1 : Option Value} {y0 : Int32} (hw : ω.2.2.2.1 = true) (kt : y0 = ((-4)) → Ex ω M9_load 12 [some (.ref x0), none] [] h 0 0 Q) (kf : ¬ y0 = ((-4)) → Ex ω M9_load 9 [some (.ref x0), none] [] h 0 0 Q) : Ex ω M9_load 4 [some (.ref x0), u1] [.int y0] h 0 0 Q := by
  refine x_dr1 ?_
  refine x_bipush ((-4)) 6 dX9_load_4 rfl rfl ?_
  exact x_icmp_eq 9 12 dX9_load_6 rfl (by decide) kt kf
set_option maxRecDepth 20000 in
theorem B9_load_9 {ω : Om} {h : AH} {Q : Option Value → AH → Prop} {u0 : Option Value} {u1 : Option Value} (hw : ω.2.2.2.1 = true) (hq : Q (some (.int ((-2)))) h) : Ex ω M9_load 9 [u0, u1] [] h 0 0 Q := by
  refine x_dr0 ?_
  refine x_dr1 ?_
  refine x_bipush ((-2)) 11 dX9_load_9 rfl rfl ?_
  exact x_iret dX9_load_11 rfl (Nat.zero_le _) (Nat.zero_le _) hq
set_option maxRecDepth 20000 in
theorem B9_load_12 {ω : Om} {h : AH} {Q : Option Value → AH → Prop} {x0 : Nat} {u1 : Option Value} (hw : ω.2.2.2.1 = true) (s_x0 : gs h x0 = some (9, 17)) (kk : Ex ω M9_change 0 [some (.ref x0), none] [] h 0 0 (fun v h' => Ex ω M9_load 16 [some (.ref x0), none] (v.toList ++ []) h' 0 0 Q)) : Ex ω M9_load 12 [some (.ref x0), u1] [] h 0 0 Q := by
  refine x_dr1 ?_
  refine x_aload0 13 dX9_load_12 rfl ?_
  exact x_callV 16 x0 [] [] dX9_load_13 rfl lk_9_change ⟨wd203, wd204, wd205⟩ ⟨by decide, by decide⟩ (recvO cf9 (fun _ => s_x0)) rfl rfl (Nat.le_of_ble_eq_true rfl) (Nat.le_of_ble_eq_true rfl) (by decide) (by decide) kk
set_option maxRecDepth 20000 in
theorem B9_load_16 {ω : Om} {h : AH} {Q : Option Value → AH → Prop} {x0 : Nat} {u1 : Option Value} (hw : ω.2.2.2.1 = true) (s_x0 : gs h x0 = some (9, 17)) (kf : Ex ω M9_load 28 [some (.ref x0), some (.int (nI 0))] [] (si h (gr h x0 0) 3 (gi h x0 7)) 0 0 Q) : Ex ω M9_load 16 [some (.ref x0), u1] [] h 0 0 Q := by
  refine x_dr1 ?_
  refine x_aload0 17 dX9_load_16 rfl ?_
  refine x_getR cf9 0 20 hw dX9_load_17 rfl wd99 (fun _ => s_x0) (by decide) (by decide) rfl ?_
  refine x_iconst (nI 3) 21 dX9_load_20 rfl rfl ?_
  refine x_aload0 22 dX9_load_21 rfl ?_
  refine x_getI cf9 7 25 dX9_load_22 rfl wd475 (fun _ => s_x0) (by decide) rfl ?_
  refine x_iast 3 26 dX9_load_25 rfl (SH.fld hw (fun _ => s_x0) 0 (Nat.le_of_ble_eq_true rfl) rfl rfl) (vp_c (by decide)) rfl ?_
  refine x_iconst (nI 0) 27 dX9_load_26 rfl rfl ?_
  refine x_istore1 28 dX9_load_27 rfl (by decide) rfl ?_
  exact kf
set_option maxRecDepth 20000 in
theorem B9_load_28 {ω : Om} {h : AH} {Q : Option Value → AH → Prop} {x0 : Nat} {x1 : Int32} (hw : ω.2.2.2.1 = true) (s_x0 : gs h x0 = some (9, 17)) (kt : ((nI 2) * (gi h x0 7)) ≤ x1 → Ex ω M9_load 60 [some (.ref x0), some (.int x1)] [] h 0 0 Q) (kf : ¬ ((nI 2) * (gi h x0 7)) ≤ x1 → Ex ω M9_load 38 [some (.ref x0), some (.int x1)] [] h 0 0 Q) : Ex ω M9_load 28 [some (.ref x0), some (.int x1)] [] h 0 0 Q := by
  refine x_iload1 29 dX9_load_28 rfl ?_
  refine x_iconst (nI 2) 30 dX9_load_29 rfl rfl ?_
  refine x_aload0 31 dX9_load_30 rfl ?_
  refine x_getI cf9 7 34 dX9_load_31 rfl wd475 (fun _ => s_x0) (by decide) rfl ?_
  refine x_imul 35 dX9_load_34 rfl ?_
  exact x_icmp_ge 38 60 dX9_load_35 rfl (by decide) kt kf
set_option maxRecDepth 20000 in
theorem B9_load_38 {ω : Om} {h : AH} {Q : Option Value → AH → Prop} {x0 : Nat} {x1 : Int32} (hw : ω.2.2.2.1 = true) (s_x0 : gs h x0 = some (9, 17)) (i1 : vp_in x1 24) (i2 : vp_in ((nI 188) + x1) 596) (kt : Ex ω M9_load 28 [some (.ref x0), some (.int (x1 + (nI 1)))] [] (si h (gr h x0 0) (Int32.toNatClampNeg ((nI 188) + x1)) (gi h (gr h x0 8) (Int32.toNatClampNeg x1))) 0 0 Q) : Ex ω M9_load 38 [some (.ref x0), some (.int x1)] [] h 0 0 Q := by
  refine x_aload0 39 dX9_load_38 rfl ?_
  refine x_getR cf9 0 42 hw dX9_load_39 rfl wd99 (fun _ => s_x0) (by decide) (by decide) rfl ?_
  refine x_sipush (nI 188) 45 dX9_load_42 rfl rfl ?_
  refine x_iload1 46 dX9_load_45 rfl ?_
  refine x_iadd 47 dX9_load_46 rfl ?_
  refine x_aload0 48 dX9_load_47 rfl ?_
  refine x_getR cf9 8 51 hw dX9_load_48 rfl wd103 (fun _ => s_x0) (by decide) (by decide) rfl ?_
  refine x_iload1 52 dX9_load_51 rfl ?_
  refine x_iald (Int32.toNatClampNeg x1) 53 dX9_load_52 rfl (SH.fld hw (fun _ => s_x0) 8 (Nat.le_of_ble_eq_true rfl) rfl rfl) i1 rfl ?_
  refine x_iast (Int32.toNatClampNeg ((nI 188) + x1)) 54 dX9_load_53 rfl (SH.fld hw (fun _ => s_x0) 0 (Nat.le_of_ble_eq_true rfl) rfl rfl) i2 rfl ?_
  refine x_iinc1 (x1 + (nI 1)) 57 dX9_load_54 rfl (by decide) rfl rfl ?_
  exact x_goto 28 dX9_load_57 (by decide) kt
set_option maxRecDepth 20000 in
theorem B9_load_60 {ω : Om} {h : AH} {Q : Option Value → AH → Prop} {x0 : Nat} {u1 : Option Value} (hw : ω.2.2.2.1 = true) (s_x0 : gs h x0 = some (9, 17)) (hq : Q (some (.int (gi h x0 7))) h) : Ex ω M9_load 60 [some (.ref x0), u1] [] h 0 0 Q := by
  refine x_dr1 ?_
  refine x_aload0 61 dX9_load_60 rfl ?_
  refine x_getI cf9 7 64 dX9_load_61 rfl wd475 (fun _ => s_x0) (by decide) rfl ?_
  exact x_iret dX9_load_64 rfl (Nat.zero_le _) (Nat.zero_le _) hq
set_option maxRecDepth 20000 in
theorem B9_step_0 {ω : Om} {h : AH} {Q : Option Value → AH → Prop} {x0 : Nat} {x1 : Int32} {x2 : Int32} (hw : ω.2.2.2.1 = true) (kt : x1 < 0 → Ex ω M9_step 14 [some (.ref x0), some (.int x1), some (.int x2)] [] h 0 0 Q) (kf : ¬ x1 < 0 → Ex ω M9_step 4 [some (.ref x0), some (.int x1), some (.int x2)] [] h 0 0 Q) : Ex ω M9_step 0 [some (.ref x0), some (.int x1), some (.int x2)] [] h 0 0 Q := by
  refine x_iload1 1 dX9_step_0 rfl ?_
  exact x_if_lt 4 14 dX9_step_1 rfl (by decide) kt kf
set_option maxRecDepth 20000 in
theorem B9_step_4 {ω : Om} {h : AH} {Q : Option Value → AH → Prop} {x0 : Nat} {x1 : Int32} {x2 : Int32} (hw : ω.2.2.2.1 = true) (kk : Ex ω M9_in 0 [some (.long (Int32.toInt64 x2)), none, some (.long ((0 : Int64))), none, some (.long ((1 : Int64))), none] [] h 0 0 (fun v h' => Ex ω M9_step 11 [some (.ref x0), some (.int x1), some (.int x2)] (v.toList ++ []) h' 0 0 Q)) : Ex ω M9_step 4 [some (.ref x0), some (.int x1), some (.int x2)] [] h 0 0 Q := by
  refine x_iload2 5 dX9_step_4 rfl ?_
  refine x_i2l 6 dX9_step_5 rfl ?_
  refine x_lconst 0 7 dX9_step_6 rfl rfl ?_
  refine x_lconst 1 8 dX9_step_7 rfl rfl ?_
  exact x_callS 11 [.long (Int32.toInt64 x2), .long ((0 : Int64)), .long ((1 : Int64))] [] dX9_step_8 rfl lk_9_in ⟨wd200, wd201⟩ ⟨by decide, by decide⟩ rfl rfl (Nat.le_of_ble_eq_true rfl) (Nat.le_of_ble_eq_true rfl) (by decide) (by decide) kk
set_option maxRecDepth 20000 in
theorem B9_step_11 {ω : Om} {h : AH} {Q : Option Value → AH → Prop} {x0 : Nat} {x1 : Int32} {x2 : Int32} {y0 : Int32} (hw : ω.2.2.2.1 = true) (kt : ¬ y0 = 0 → Ex ω M9_step 16 [some (.ref x0), some (.int x1), some (.int x2)] [] h 0 0 Q) (kf : y0 = 0 → Ex ω M9_step 14 [some (.ref x0), some (.int x1), some (.int x2)] [] h 0 0 Q) : Ex ω M9_step 11 [some (.ref x0), some (.int x1), some (.int x2)] [.int y0] h 0 0 Q := by
  exact x_if_ne 14 16 dX9_step_11 rfl (by decide) kt kf
set_option maxRecDepth 20000 in
theorem B9_step_14 {ω : Om} {h : AH} {Q : Option Value → AH → Prop} {u0 : Option Value} {u1 : Option Value} {u2 : Option Value} (hw : ω.2.2.2.1 = true) (hq : Q (some (.int ((-1)))) h) : Ex ω M9_step 14 [u0, u1, u2] [] h 0 0 Q := by
  refine x_dr0 ?_
  refine x_dr1 ?_
  refine x_dr2 ?_
  refine x_iconst ((-1)) 15 dX9_step_14 rfl rfl ?_
  exact x_iret dX9_step_15 rfl (Nat.zero_le _) (Nat.zero_le _) hq
set_option maxRecDepth 20000 in
theorem B9_step_16 {ω : Om} {h : AH} {Q : Option Value → AH → Prop} {x0 : Nat} {x1 : Int32} {x2 : Int32} (hw : ω.2.2.2.1 = true) (s_x0 : gs h x0 = some (9, 17)) (kt : (gi h (gr h x0 0) 3) ≤ x1 → Ex ω M9_step 43 [some (.ref x0), some (.int x1), some (.int x2)] [] h 0 0 Q) (kf : ¬ (gi h (gr h x0 0) 3) ≤ x1 → Ex ω M9_step 26 [some (.ref x0), some (.int x1), some (.int x2)] [] h 0 0 Q) : Ex ω M9_step 16 [some (.ref x0), some (.int x1), some (.int x2)] [] h 0 0 Q := by
  refine x_iload1 17 dX9_step_16 rfl ?_
  refine x_aload0 18 dX9_step_17 rfl ?_
  refine x_getR cf9 0 21 hw dX9_step_18 rfl wd99 (fun _ => s_x0) (by decide) (by decide) rfl ?_
  refine x_iconst (nI 3) 22 dX9_step_21 rfl rfl ?_
  refine x_iald 3 23 dX9_step_22 rfl (SH.fld hw (fun _ => s_x0) 0 (Nat.le_of_ble_eq_true rfl) rfl rfl) (vp_c (by decide)) rfl ?_
  exact x_icmp_ge 26 43 dX9_step_23 rfl (by decide) kt kf
set_option maxRecDepth 20000 in
theorem B9_step_26 {ω : Om} {h : AH} {Q : Option Value → AH → Prop} {x0 : Nat} {x1 : Int32} {x2 : Int32} (hw : ω.2.2.2.1 = true) (s_x0 : gs h x0 = some (9, 17)) (i1 : vp_in (((nI 188) + ((nI 2) * x1)) + x2) 596) (kt : Ex ω M9_step 45 [some (.ref x0), some (.int x1), some (.int x2)] [.int (gi h (gr h x0 0) (Int32.toNatClampNeg (((nI 188) + ((nI 2) * x1)) + x2)))] h 0 0 Q) : Ex ω M9_step 26 [some (.ref x0), some (.int x1), some (.int x2)] [] h 0 0 Q := by
  refine x_aload0 27 dX9_step_26 rfl ?_
  refine x_getR cf9 0 30 hw dX9_step_27 rfl wd99 (fun _ => s_x0) (by decide) (by decide) rfl ?_
  refine x_sipush (nI 188) 33 dX9_step_30 rfl rfl ?_
  refine x_iconst (nI 2) 34 dX9_step_33 rfl rfl ?_
  refine x_iload1 35 dX9_step_34 rfl ?_
  refine x_imul 36 dX9_step_35 rfl ?_
  refine x_iadd 37 dX9_step_36 rfl ?_
  refine x_iload2 38 dX9_step_37 rfl ?_
  refine x_iadd 39 dX9_step_38 rfl ?_
  refine x_iald (Int32.toNatClampNeg (((nI 188) + ((nI 2) * x1)) + x2)) 40 dX9_step_39 rfl (SH.fld hw (fun _ => s_x0) 0 (Nat.le_of_ble_eq_true rfl) rfl rfl) i1 rfl ?_
  exact x_goto 45 dX9_step_40 (by decide) kt
set_option maxRecDepth 20000 in
theorem B9_step_43 {ω : Om} {h : AH} {Q : Option Value → AH → Prop} {u0 : Option Value} {u1 : Option Value} {u2 : Option Value} (hw : ω.2.2.2.1 = true) (kf : Ex ω M9_step 45 [none, none, none] [.int ((-4))] h 0 0 Q) : Ex ω M9_step 43 [u0, u1, u2] [] h 0 0 Q := by
  refine x_dr0 ?_
  refine x_dr1 ?_
  refine x_dr2 ?_
  refine x_bipush ((-4)) 45 dX9_step_43 rfl rfl ?_
  exact kf
set_option maxRecDepth 20000 in
theorem B9_step_45 {ω : Om} {h : AH} {Q : Option Value → AH → Prop} {u0 : Option Value} {u1 : Option Value} {u2 : Option Value} {y0 : Int32} (hw : ω.2.2.2.1 = true) (hq : Q (some (.int y0)) h) : Ex ω M9_step 45 [u0, u1, u2] [.int y0] h 0 0 Q := by
  refine x_dr0 ?_
  refine x_dr1 ?_
  refine x_dr2 ?_
  exact x_iret dX9_step_45 rfl (Nat.zero_le _) (Nat.zero_le _) hq
set_option maxRecDepth 20000 in
theorem B9_writes_0 {ω : Om} {h : AH} {Q : Option Value → AH → Prop} {x0 : Nat} {x1 : Int32} (hw : ω.2.2.2.1 = true) (s_x0 : gs h x0 = some (9, 17)) (kt : (nI 100) ≤ (gi h x0 5) → Ex ω M9_writes 29 [some (.ref x0), some (.int x1)] [] h 0 0 Q) (kf : ¬ (nI 100) ≤ (gi h x0 5) → Ex ω M9_writes 9 [some (.ref x0), some (.int x1)] [] h 0 0 Q) : Ex ω M9_writes 0 [some (.ref x0), some (.int x1)] [] h 0 0 Q := by
  refine x_aload0 1 dX9_writes_0 rfl ?_
  refine x_getI cf9 5 4 dX9_writes_1 rfl wd359 (fun _ => s_x0) (by decide) rfl ?_
  refine x_bipush (nI 100) 6 dX9_writes_4 rfl rfl ?_
  exact x_icmp_ge 9 29 dX9_writes_6 rfl (by decide) kt kf
set_option maxRecDepth 20000 in
theorem B9_writes_9 {ω : Om} {h : AH} {Q : Option Value → AH → Prop} {x0 : Nat} {x1 : Int32} (hw : ω.2.2.2.1 = true) (s_x0 : gs h x0 = some (9, 17)) (i1 : vp_in (gi h x0 5) 100) (kf : Ex ω M9_writes 29 [some (.ref x0), some (.int x1)] [] (si (si h (gr h x0 4) (Int32.toNatClampNeg (gi h x0 5)) x1) x0 5 ((gi (si h (gr h x0 4) (Int32.toNatClampNeg (gi h x0 5)) x1) x0 5) + (nI 1))) 0 0 Q) : Ex ω M9_writes 9 [some (.ref x0), some (.int x1)] [] h 0 0 Q := by
  refine x_aload0 10 dX9_writes_9 rfl ?_
  refine x_getR cf9 4 13 hw dX9_writes_10 rfl wd102 (fun _ => s_x0) (by decide) (by decide) rfl ?_
  refine x_aload0 14 dX9_writes_13 rfl ?_
  refine x_getI cf9 5 17 dX9_writes_14 rfl wd359 (fun _ => s_x0) (by decide) rfl ?_
  refine x_iload1 18 dX9_writes_17 rfl ?_
  refine x_iast (Int32.toNatClampNeg (gi h x0 5)) 19 dX9_writes_18 rfl (SH.fld hw (fun _ => s_x0) 4 (Nat.le_of_ble_eq_true rfl) rfl rfl) i1 rfl ?_
  refine x_aload0 20 dX9_writes_19 rfl ?_
  refine x_dup 21 dX9_writes_20 rfl rfl ?_
  refine x_getI cf9 5 24 dX9_writes_21 rfl wd359 (fun _ => s_x0) (by decide) rfl ?_
  refine x_iconst (nI 1) 25 dX9_writes_24 rfl rfl ?_
  refine x_iadd 26 dX9_writes_25 rfl ?_
  refine x_putI cf9 5 29 dX9_writes_26 rfl wd359 (fun _ => s_x0) (by decide) rfl rfl ?_
  exact kf
set_option maxRecDepth 20000 in
theorem B9_writes_29 {ω : Om} {h : AH} {Q : Option Value → AH → Prop} {u0 : Option Value} {u1 : Option Value} (hw : ω.2.2.2.1 = true) (hq : Q none h) : Ex ω M9_writes 29 [u0, u1] [] h 0 0 Q := by
  refine x_dr0 ?_
  refine x_dr1 ?_
  exact x_vret dX9_writes_29 rfl (Nat.zero_le _) (Nat.zero_le _) hq
set_option maxRecDepth 20000 in
theorem B9_write_0 {ω : Om} {h : AH} {Q : Option Value → AH → Prop} {x0 : Nat} {u1 : Option Value} {u2 : Option Value} {u3 : Option Value} {u4 : Option Value} (hw : ω.2.2.2.1 = true) (s_x0 : gs h x0 = some (9, 17)) (kf : Ex ω M9_write 7 [some (.ref x0), some (.int (nI 0)), none, none, none] [] (si h x0 5 (nI 0)) 0 0 Q) : Ex ω M9_write 0 [some (.ref x0), u1, u2, u3, u4] [] h 0 0 Q := by
  refine x_dr1 ?_
  refine x_dr2 ?_
  refine x_dr3 ?_
  refine x_dr4 ?_
  refine x_aload0 1 dX9_write_0 rfl ?_
  refine x_iconst (nI 0) 2 dX9_write_1 rfl rfl ?_
  refine x_putI cf9 5 5 dX9_write_2 rfl wd359 (fun _ => s_x0) (by decide) rfl rfl ?_
  refine x_iconst (nI 0) 6 dX9_write_5 rfl rfl ?_
  refine x_istore1 7 dX9_write_6 rfl (by decide) rfl ?_
  exact kf
set_option maxRecDepth 20000 in
theorem B9_write_7 {ω : Om} {h : AH} {Q : Option Value → AH → Prop} {x0 : Nat} {x1 : Int32} {u2 : Option Value} {u3 : Option Value} {u4 : Option Value} (hw : ω.2.2.2.1 = true) (s_x0 : gs h x0 = some (9, 17)) (kt : (gi h (gr h x0 0) 3) ≤ x1 → Ex ω M9_write 155 [some (.ref x0), some (.int x1), none, none, none] [] h 0 0 Q) (kf : ¬ (gi h (gr h x0 0) 3) ≤ x1 → Ex ω M9_write 17 [some (.ref x0), some (.int x1), none, none, none] [] h 0 0 Q) : Ex ω M9_write 7 [some (.ref x0), some (.int x1), u2, u3, u4] [] h 0 0 Q := by
  refine x_dr2 ?_
  refine x_dr3 ?_
  refine x_dr4 ?_
  refine x_iload1 8 dX9_write_7 rfl ?_
  refine x_aload0 9 dX9_write_8 rfl ?_
  refine x_getR cf9 0 12 hw dX9_write_9 rfl wd99 (fun _ => s_x0) (by decide) (by decide) rfl ?_
  refine x_iconst (nI 3) 13 dX9_write_12 rfl rfl ?_
  refine x_iald 3 14 dX9_write_13 rfl (SH.fld hw (fun _ => s_x0) 0 (Nat.le_of_ble_eq_true rfl) rfl rfl) (vp_c (by decide)) rfl ?_
  exact x_icmp_ge 17 155 dX9_write_14 rfl (by decide) kt kf
set_option maxRecDepth 20000 in
theorem B9_write_17 {ω : Om} {h : AH} {Q : Option Value → AH → Prop} {x0 : Nat} {x1 : Int32} {u2 : Option Value} {u3 : Option Value} {u4 : Option Value} (hw : ω.2.2.2.1 = true) (s_x0 : gs h x0 = some (9, 17)) (i1 : vp_in ((nI 188) + ((nI 2) * x1)) 596) (i2 : vp_in (((nI 188) + ((nI 2) * x1)) + (nI 1)) 596) (kt : x1 ≤ 0 → Ex ω M9_write 61 [some (.ref x0), some (.int x1), some (.int (gi h (gr h x0 0) (Int32.toNatClampNeg ((nI 188) + ((nI 2) * x1))))), some (.int (gi h (gr h x0 0) (Int32.toNatClampNeg (((nI 188) + ((nI 2) * x1)) + (nI 1))))), none] [] h 0 0 Q) (kf : ¬ x1 ≤ 0 → Ex ω M9_write 49 [some (.ref x0), some (.int x1), some (.int (gi h (gr h x0 0) (Int32.toNatClampNeg ((nI 188) + ((nI 2) * x1))))), some (.int (gi h (gr h x0 0) (Int32.toNatClampNeg (((nI 188) + ((nI 2) * x1)) + (nI 1))))), none] [] h 0 0 Q) : Ex ω M9_write 17 [some (.ref x0), some (.int x1), u2, u3, u4] [] h 0 0 Q := by
  refine x_dr2 ?_
  refine x_dr3 ?_
  refine x_dr4 ?_
  refine x_aload0 18 dX9_write_17 rfl ?_
  refine x_getR cf9 0 21 hw dX9_write_18 rfl wd99 (fun _ => s_x0) (by decide) (by decide) rfl ?_
  refine x_sipush (nI 188) 24 dX9_write_21 rfl rfl ?_
  refine x_iconst (nI 2) 25 dX9_write_24 rfl rfl ?_
  refine x_iload1 26 dX9_write_25 rfl ?_
  refine x_imul 27 dX9_write_26 rfl ?_
  refine x_iadd 28 dX9_write_27 rfl ?_
  refine x_iald (Int32.toNatClampNeg ((nI 188) + ((nI 2) * x1))) 29 dX9_write_28 rfl (SH.fld hw (fun _ => s_x0) 0 (Nat.le_of_ble_eq_true rfl) rfl rfl) i1 rfl ?_
  refine x_istore2 30 dX9_write_29 rfl (by decide) rfl ?_
  refine x_aload0 31 dX9_write_30 rfl ?_
  refine x_getR cf9 0 34 hw dX9_write_31 rfl wd99 (fun _ => s_x0) (by decide) (by decide) rfl ?_
  refine x_sipush (nI 188) 37 dX9_write_34 rfl rfl ?_
  refine x_iconst (nI 2) 38 dX9_write_37 rfl rfl ?_
  refine x_iload1 39 dX9_write_38 rfl ?_
  refine x_imul 40 dX9_write_39 rfl ?_
  refine x_iadd 41 dX9_write_40 rfl ?_
  refine x_iconst (nI 1) 42 dX9_write_41 rfl rfl ?_
  refine x_iadd 43 dX9_write_42 rfl ?_
  refine x_iald (Int32.toNatClampNeg (((nI 188) + ((nI 2) * x1)) + (nI 1))) 44 dX9_write_43 rfl (SH.fld hw (fun _ => s_x0) 0 (Nat.le_of_ble_eq_true rfl) rfl rfl) i2 rfl ?_
  refine x_istore3 45 dX9_write_44 rfl (by decide) rfl ?_
  refine x_iload1 46 dX9_write_45 rfl ?_
  exact x_if_le 49 61 dX9_write_46 rfl (by decide) kt kf
set_option maxRecDepth 20000 in
theorem B9_write_49 {ω : Om} {h : AH} {Q : Option Value → AH → Prop} {x0 : Nat} {x1 : Int32} {x2 : Int32} {x3 : Int32} {u4 : Option Value} (hw : ω.2.2.2.1 = true) (s_x0 : gs h x0 = some (9, 17)) (kk : Ex ω M9_writes 0 [some (.ref x0), some (.int (nI 44))] [] h 0 0 (fun v h' => Ex ω M9_write 55 [some (.ref x0), some (.int x1), some (.int x2), some (.int x3), none] (v.toList ++ []) h' 0 0 Q)) : Ex ω M9_write 49 [some (.ref x0), some (.int x1), some (.int x2), some (.int x3), u4] [] h 0 0 Q := by
  refine x_dr4 ?_
  refine x_aload0 50 dX9_write_49 rfl ?_
  refine x_bipush (nI 44) 52 dX9_write_50 rfl rfl ?_
  exact x_callV 55 x0 [.int (nI 44)] [] dX9_write_52 rfl lk_9_writes ⟨wd542, wd543, wd544⟩ ⟨by decide, by decide⟩ (recvO cf9 (fun _ => s_x0)) rfl rfl (Nat.le_of_ble_eq_true rfl) (Nat.le_of_ble_eq_true rfl) (by decide) (by decide) kk
set_option maxRecDepth 20000 in
theorem B9_write_55 {ω : Om} {h : AH} {Q : Option Value → AH → Prop} {x0 : Nat} {x1 : Int32} {x2 : Int32} {x3 : Int32} {u4 : Option Value} (hw : ω.2.2.2.1 = true) (s_x0 : gs h x0 = some (9, 17)) (kk : Ex ω M9_writes 0 [some (.ref x0), some (.int (nI 32))] [] h 0 0 (fun v h' => Ex ω M9_write 61 [some (.ref x0), some (.int x1), some (.int x2), some (.int x3), none] (v.toList ++ []) h' 0 0 Q)) : Ex ω M9_write 55 [some (.ref x0), some (.int x1), some (.int x2), some (.int x3), u4] [] h 0 0 Q := by
  refine x_dr4 ?_
  refine x_aload0 56 dX9_write_55 rfl ?_
  refine x_bipush (nI 32) 58 dX9_write_56 rfl rfl ?_
  exact x_callV 61 x0 [.int (nI 32)] [] dX9_write_58 rfl lk_9_writes ⟨wd542, wd543, wd544⟩ ⟨by decide, by decide⟩ (recvO cf9 (fun _ => s_x0)) rfl rfl (Nat.le_of_ble_eq_true rfl) (Nat.le_of_ble_eq_true rfl) (by decide) (by decide) kk
set_option maxRecDepth 20000 in
theorem B9_write_61 {ω : Om} {h : AH} {Q : Option Value → AH → Prop} {x0 : Nat} {x1 : Int32} {x2 : Int32} {x3 : Int32} {u4 : Option Value} (hw : ω.2.2.2.1 = true) (kf : Ex ω M9_write 64 [some (.ref x0), some (.int x1), some (.int x2), some (.int x3), some (.int (nI 0))] [] h 0 0 Q) : Ex ω M9_write 61 [some (.ref x0), some (.int x1), some (.int x2), some (.int x3), u4] [] h 0 0 Q := by
  refine x_dr4 ?_
  refine x_iconst (nI 0) 62 dX9_write_61 rfl rfl ?_
  refine x_istore4 64 dX9_write_62 rfl (by decide) rfl ?_
  exact kf
set_option maxRecDepth 20000 in
theorem B9_write_64 {ω : Om} {h : AH} {Q : Option Value → AH → Prop} {x0 : Nat} {x1 : Int32} {x2 : Int32} {x3 : Int32} {x4 : Int32} (hw : ω.2.2.2.1 = true) (kk : Ex ω M9_nameSize 0 [some (.int x2)] [] h 0 0 (fun v h' => Ex ω M9_write 70 [some (.ref x0), some (.int x1), some (.int x2), some (.int x3), some (.int x4)] (v.toList ++ [.int x4]) h' 0 0 Q)) : Ex ω M9_write 64 [some (.ref x0), some (.int x1), some (.int x2), some (.int x3), some (.int x4)] [] h 0 0 Q := by
  refine x_iload4 66 dX9_write_64 rfl ?_
  refine x_iload2 67 dX9_write_66 rfl ?_
  exact x_callS 70 [.int x2] [.int x4] dX9_write_67 rfl lk_9_nameSize ⟨wd486, wd487⟩ ⟨by decide, by decide⟩ rfl rfl (Nat.le_of_ble_eq_true rfl) (Nat.le_of_ble_eq_true rfl) (by decide) (by decide) kk
set_option maxRecDepth 20000 in
theorem B9_write_70 {ω : Om} {h : AH} {Q : Option Value → AH → Prop} {x0 : Nat} {x1 : Int32} {x2 : Int32} {x3 : Int32} {x4 : Int32} {y0 : Int32} {y1 : Int32} (hw : ω.2.2.2.1 = true) (kt : y1 ≤ y0 → Ex ω M9_write 89 [some (.ref x0), some (.int x1), some (.int x2), some (.int x3), some (.int x4)] [] h 0 0 Q) (kf : ¬ y1 ≤ y0 → Ex ω M9_write 73 [some (.ref x0), some (.int x1), some (.int x2), some (.int x3), some (.int x4)] [] h 0 0 Q) : Ex ω M9_write 70 [some (.ref x0), some (.int x1), some (.int x2), some (.int x3), some (.int x4)] [.int y1, .int y0] h 0 0 Q := by
  exact x_icmp_ge 73 89 dX9_write_70 rfl (by decide) kt kf
set_option maxRecDepth 20000 in
theorem B9_write_73 {ω : Om} {h : AH} {Q : Option Value → AH → Prop} {x0 : Nat} {x1 : Int32} {x2 : Int32} {x3 : Int32} {x4 : Int32} (hw : ω.2.2.2.1 = true) (kk : Ex ω M9_nameAt 0 [some (.int x2), some (.int x4)] [] h 0 0 (fun v h' => Ex ω M9_write 80 [some (.ref x0), some (.int x1), some (.int x2), some (.int x3), some (.int x4)] (v.toList ++ [.ref x0]) h' 0 0 Q)) : Ex ω M9_write 73 [some (.ref x0), some (.int x1), some (.int x2), some (.int x3), some (.int x4)] [] h 0 0 Q := by
  refine x_aload0 74 dX9_write_73 rfl ?_
  refine x_iload2 75 dX9_write_74 rfl ?_
  refine x_iload4 77 dX9_write_75 rfl ?_
  exact x_callS 80 [.int x2, .int x4] [.ref x0] dX9_write_77 rfl lk_9_nameAt ⟨wd489, wd490⟩ ⟨by decide, by decide⟩ rfl rfl (Nat.le_of_ble_eq_true rfl) (Nat.le_of_ble_eq_true rfl) (by decide) (by decide) kk
set_option maxRecDepth 20000 in
theorem B9_write_80 {ω : Om} {h : AH} {Q : Option Value → AH → Prop} {x0 : Nat} {x1 : Int32} {x2 : Int32} {x3 : Int32} {x4 : Int32} {y0 : Nat} {y1 : Int32} (hw : ω.2.2.2.1 = true) (s_y0 : gs h y0 = some (9, 17)) (kk : Ex ω M9_writes 0 [some (.ref y0), some (.int y1)] [] h 0 0 (fun v h' => Ex ω M9_write 83 [some (.ref x0), some (.int x1), some (.int x2), some (.int x3), some (.int x4)] (v.toList ++ []) h' 0 0 Q)) : Ex ω M9_write 80 [some (.ref x0), some (.int x1), some (.int x2), some (.int x3), some (.int x4)] [.int y1, .ref y0] h 0 0 Q := by
  exact x_callV 83 y0 [.int y1] [] dX9_write_80 rfl lk_9_writes ⟨wd542, wd543, wd544⟩ ⟨by decide, by decide⟩ (recvO cf9 (fun _ => s_y0)) rfl rfl (Nat.le_of_ble_eq_true rfl) (Nat.le_of_ble_eq_true rfl) (by decide) (by decide) kk
set_option maxRecDepth 20000 in
theorem B9_write_83 {ω : Om} {h : AH} {Q : Option Value → AH → Prop} {x0 : Nat} {x1 : Int32} {x2 : Int32} {x3 : Int32} {x4 : Int32} (hw : ω.2.2.2.1 = true) (kt : Ex ω M9_write 64 [some (.ref x0), some (.int x1), some (.int x2), some (.int x3), some (.int (x4 + (nI 1)))] [] h 0 0 Q) : Ex ω M9_write 83 [some (.ref x0), some (.int x1), some (.int x2), some (.int x3), some (.int x4)] [] h 0 0 Q := by
  refine x_iinc4 (x4 + (nI 1)) 86 dX9_write_83 rfl (by decide) rfl rfl ?_
  exact x_goto 64 dX9_write_86 (by decide) kt
set_option maxRecDepth 20000 in
theorem B9_write_89 {ω : Om} {h : AH} {Q : Option Value → AH → Prop} {x0 : Nat} {x1 : Int32} {u2 : Option Value} {x3 : Int32} {u4 : Option Value} (hw : ω.2.2.2.1 = true) (s_x0 : gs h x0 = some (9, 17)) (kk : Ex ω M9_writes 0 [some (.ref x0), some (.int (nI 32))] [] h 0 0 (fun v h' => Ex ω M9_write 95 [some (.ref x0), some (.int x1), none, some (.int x3), none] (v.toList ++ []) h' 0 0 Q)) : Ex ω M9_write 89 [some (.ref x0), some (.int x1), u2, some (.int x3), u4] [] h 0 0 Q := by
  refine x_dr2 ?_
  refine x_dr4 ?_
  refine x_aload0 90 dX9_write_89 rfl ?_
  refine x_bipush (nI 32) 92 dX9_write_90 rfl rfl ?_
  exact x_callV 95 x0 [.int (nI 32)] [] dX9_write_92 rfl lk_9_writes ⟨wd542, wd543, wd544⟩ ⟨by decide, by decide⟩ (recvO cf9 (fun _ => s_x0)) rfl rfl (Nat.le_of_ble_eq_true rfl) (Nat.le_of_ble_eq_true rfl) (by decide) (by decide) kk
set_option maxRecDepth 20000 in
theorem B9_write_95 {ω : Om} {h : AH} {Q : Option Value → AH → Prop} {x0 : Nat} {x1 : Int32} {u2 : Option Value} {x3 : Int32} {u4 : Option Value} (hw : ω.2.2.2.1 = true) (kt : x3 ≤ (nI 99) → Ex ω M9_write 106 [some (.ref x0), some (.int x1), none, some (.int x3), none] [] h 0 0 Q) (kf : ¬ x3 ≤ (nI 99) → Ex ω M9_write 101 [some (.ref x0), some (.int x1), none, some (.int x3), none] [] h 0 0 Q) : Ex ω M9_write 95 [some (.ref x0), some (.int x1), u2, some (.int x3), u4] [] h 0 0 Q := by
  refine x_dr2 ?_
  refine x_dr4 ?_
  refine x_iload3 96 dX9_write_95 rfl ?_
  refine x_bipush (nI 99) 98 dX9_write_96 rfl rfl ?_
  exact x_icmp_le 101 106 dX9_write_98 rfl (by decide) kt kf
set_option maxRecDepth 20000 in
theorem B9_write_101 {ω : Om} {h : AH} {Q : Option Value → AH → Prop} {x0 : Nat} {x1 : Int32} {u2 : Option Value} {x3 : Int32} {u4 : Option Value} (hw : ω.2.2.2.1 = true) (kt : Ex ω M9_write 118 [some (.ref x0), some (.int x1), none, some (.int x3), none] [.int (nI 100)] h 0 0 Q) : Ex ω M9_write 101 [some (.ref x0), some (.int x1), u2, some (.int x3), u4] [] h 0 0 Q := by
  refine x_dr2 ?_
  refine x_dr4 ?_
  refine x_bipush (nI 100) 103 dX9_write_101 rfl rfl ?_
  exact x_goto 118 dX9_write_103 (by decide) kt
set_option maxRecDepth 20000 in
theorem B9_write_106 {ω : Om} {h : AH} {Q : Option Value → AH → Prop} {x0 : Nat} {x1 : Int32} {u2 : Option Value} {x3 : Int32} {u4 : Option Value} (hw : ω.2.2.2.1 = true) (kt : x3 ≤ (nI 9) → Ex ω M9_write 117 [some (.ref x0), some (.int x1), none, some (.int x3), none] [] h 0 0 Q) (kf : ¬ x3 ≤ (nI 9) → Ex ω M9_write 112 [some (.ref x0), some (.int x1), none, some (.int x3), none] [] h 0 0 Q) : Ex ω M9_write 106 [some (.ref x0), some (.int x1), u2, some (.int x3), u4] [] h 0 0 Q := by
  refine x_dr2 ?_
  refine x_dr4 ?_
  refine x_iload3 107 dX9_write_106 rfl ?_
  refine x_bipush (nI 9) 109 dX9_write_107 rfl rfl ?_
  exact x_icmp_le 112 117 dX9_write_109 rfl (by decide) kt kf
set_option maxRecDepth 20000 in
theorem B9_write_112 {ω : Om} {h : AH} {Q : Option Value → AH → Prop} {x0 : Nat} {x1 : Int32} {u2 : Option Value} {x3 : Int32} {u4 : Option Value} (hw : ω.2.2.2.1 = true) (kt : Ex ω M9_write 118 [some (.ref x0), some (.int x1), none, some (.int x3), none] [.int (nI 10)] h 0 0 Q) : Ex ω M9_write 112 [some (.ref x0), some (.int x1), u2, some (.int x3), u4] [] h 0 0 Q := by
  refine x_dr2 ?_
  refine x_dr4 ?_
  refine x_bipush (nI 10) 114 dX9_write_112 rfl rfl ?_
  exact x_goto 118 dX9_write_114 (by decide) kt
set_option maxRecDepth 20000 in
theorem B9_write_117 {ω : Om} {h : AH} {Q : Option Value → AH → Prop} {x0 : Nat} {x1 : Int32} {u2 : Option Value} {x3 : Int32} {u4 : Option Value} (hw : ω.2.2.2.1 = true) (kf : Ex ω M9_write 118 [some (.ref x0), some (.int x1), none, some (.int x3), none] [.int (nI 1)] h 0 0 Q) : Ex ω M9_write 117 [some (.ref x0), some (.int x1), u2, some (.int x3), u4] [] h 0 0 Q := by
  refine x_dr2 ?_
  refine x_dr4 ?_
  refine x_iconst (nI 1) 118 dX9_write_117 rfl rfl ?_
  exact kf
set_option maxRecDepth 20000 in
theorem B9_write_118 {ω : Om} {h : AH} {Q : Option Value → AH → Prop} {x0 : Nat} {x1 : Int32} {u2 : Option Value} {x3 : Int32} {u4 : Option Value} {y0 : Int32} (hw : ω.2.2.2.1 = true) (kf : Ex ω M9_write 120 [some (.ref x0), some (.int x1), none, some (.int x3), some (.int y0)] [] h 0 0 Q) : Ex ω M9_write 118 [some (.ref x0), some (.int x1), u2, some (.int x3), u4] [.int y0] h 0 0 Q := by
  refine x_dr2 ?_
  refine x_dr4 ?_
  refine x_istore4 120 dX9_write_118 rfl (by decide) rfl ?_
  exact kf
set_option maxRecDepth 20000 in
theorem B9_write_120 {ω : Om} {h : AH} {Q : Option Value → AH → Prop} {x0 : Nat} {x1 : Int32} {u2 : Option Value} {x3 : Int32} {x4 : Int32} (hw : ω.2.2.2.1 = true) (kt : x4 ≤ 0 → Ex ω M9_write 149 [some (.ref x0), some (.int x1), none, some (.int x3), some (.int x4)] [] h 0 0 Q) (kf : ¬ x4 ≤ 0 → Ex ω M9_write 125 [some (.ref x0), some (.int x1), none, some (.int x3), some (.int x4)] [] h 0 0 Q) : Ex ω M9_write 120 [some (.ref x0), some (.int x1), u2, some (.int x3), some (.int x4)] [] h 0 0 Q := by
  refine x_dr2 ?_
  refine x_iload4 122 dX9_write_120 rfl ?_
  exact x_if_le 125 149 dX9_write_122 rfl (by decide) kt kf
set_option maxRecDepth 20000 in
theorem B9_write_125 {ω : Om} {h : AH} {Q : Option Value → AH → Prop} {x0 : Nat} {x1 : Int32} {u2 : Option Value} {x3 : Int32} {x4 : Int32} (hw : ω.2.2.2.1 = true) (s_x0 : gs h x0 = some (9, 17)) (z1 : ¬ x4 = (0 : Int32)) (kk : Ex ω M9_writes 0 [some (.ref x0), some (.int ((nI 48) + ((x3 / x4) - (x3 / x4) / (nI 10) * (nI 10))))] [] h 0 0 (fun v h' => Ex ω M9_write 139 [some (.ref x0), some (.int x1), none, some (.int x3), some (.int x4)] (v.toList ++ []) h' 0 0 Q)) : Ex ω M9_write 125 [some (.ref x0), some (.int x1), u2, some (.int x3), some (.int x4)] [] h 0 0 Q := by
  refine x_dr2 ?_
  refine x_aload0 126 dX9_write_125 rfl ?_
  refine x_bipush (nI 48) 128 dX9_write_126 rfl rfl ?_
  refine x_iload3 129 dX9_write_128 rfl ?_
  refine x_iload4 131 dX9_write_129 rfl ?_
  refine x_idiv 132 dX9_write_131 rfl z1 ?_
  refine x_bipush (nI 10) 134 dX9_write_132 rfl rfl ?_
  refine x_irem 135 dX9_write_134 rfl (by decide) ?_
  refine x_iadd 136 dX9_write_135 rfl ?_
  exact x_callV 139 x0 [.int ((nI 48) + ((x3 / x4) - (x3 / x4) / (nI 10) * (nI 10)))] [] dX9_write_136 rfl lk_9_writes ⟨wd542, wd543, wd544⟩ ⟨by decide, by decide⟩ (recvO cf9 (fun _ => s_x0)) rfl rfl (Nat.le_of_ble_eq_true rfl) (Nat.le_of_ble_eq_true rfl) (by decide) (by decide) kk
set_option maxRecDepth 20000 in
theorem B9_write_139 {ω : Om} {h : AH} {Q : Option Value → AH → Prop} {x0 : Nat} {x1 : Int32} {u2 : Option Value} {x3 : Int32} {x4 : Int32} (hw : ω.2.2.2.1 = true) (kt : Ex ω M9_write 120 [some (.ref x0), some (.int x1), none, some (.int x3), some (.int (x4 / (nI 10)))] [] h 0 0 Q) : Ex ω M9_write 139 [some (.ref x0), some (.int x1), u2, some (.int x3), some (.int x4)] [] h 0 0 Q := by
  refine x_dr2 ?_
  refine x_iload4 141 dX9_write_139 rfl ?_
  refine x_bipush (nI 10) 143 dX9_write_141 rfl rfl ?_
  refine x_idiv 144 dX9_write_143 rfl (by decide) ?_
  refine x_istore4 146 dX9_write_144 rfl (by decide) rfl ?_
  exact x_goto 120 dX9_write_146 (by decide) kt
set_option maxRecDepth 20000 in
theorem B9_write_149 {ω : Om} {h : AH} {Q : Option Value → AH → Prop} {x0 : Nat} {x1 : Int32} {u2 : Option Value} {u3 : Option Value} {u4 : Option Value} (hw : ω.2.2.2.1 = true) (kt : Ex ω M9_write 7 [some (.ref x0), some (.int (x1 + (nI 1))), none, none, none] [] h 0 0 Q) : Ex ω M9_write 149 [some (.ref x0), some (.int x1), u2, u3, u4] [] h 0 0 Q := by
  refine x_dr2 ?_
  refine x_dr3 ?_
  refine x_dr4 ?_
  refine x_iinc1 (x1 + (nI 1)) 152 dX9_write_149 rfl (by decide) rfl rfl ?_
  exact x_goto 7 dX9_write_152 (by decide) kt
set_option maxRecDepth 20000 in
theorem B9_write_155 {ω : Om} {h : AH} {Q : Option Value → AH → Prop} {x0 : Nat} {u1 : Option Value} {u2 : Option Value} {u3 : Option Value} {u4 : Option Value} (hw : ω.2.2.2.1 = true) (s_x0 : gs h x0 = some (9, 17)) (hq : Q (some (.int (gi h x0 5))) h) : Ex ω M9_write 155 [some (.ref x0), u1, u2, u3, u4] [] h 0 0 Q := by
  refine x_dr1 ?_
  refine x_dr2 ?_
  refine x_dr3 ?_
  refine x_dr4 ?_
  refine x_aload0 156 dX9_write_155 rfl ?_
  refine x_getI cf9 5 159 dX9_write_156 rfl wd359 (fun _ => s_x0) (by decide) rfl ?_
  exact x_iret dX9_write_159 rfl (Nat.zero_le _) (Nat.zero_le _) hq
set_option maxRecDepth 20000 in
theorem B9_textAt_0 {ω : Om} {h : AH} {Q : Option Value → AH → Prop} {x0 : Nat} {x1 : Int32} (hw : ω.2.2.2.1 = true) (kt : 0 ≤ x1 → Ex ω M9_textAt 8 [some (.ref x0), some (.int x1)] [] h 0 0 Q) (kf : ¬ 0 ≤ x1 → Ex ω M9_textAt 4 [some (.ref x0), some (.int x1)] [] h 0 0 Q) : Ex ω M9_textAt 0 [some (.ref x0), some (.int x1)] [] h 0 0 Q := by
  refine x_iload1 1 dX9_textAt_0 rfl ?_
  exact x_if_ge 4 8 dX9_textAt_1 rfl (by decide) kt kf
set_option maxRecDepth 20000 in
theorem B9_textAt_4 {ω : Om} {h : AH} {Q : Option Value → AH → Prop} {u0 : Option Value} {u1 : Option Value} (hw : ω.2.2.2.1 = true) (kt : Ex ω M9_textAt 27 [none, none] [.int ((-1))] h 0 0 Q) : Ex ω M9_textAt 4 [u0, u1] [] h 0 0 Q := by
  refine x_dr0 ?_
  refine x_dr1 ?_
  refine x_iconst ((-1)) 5 dX9_textAt_4 rfl rfl ?_
  exact x_goto 27 dX9_textAt_5 (by decide) kt
set_option maxRecDepth 20000 in
theorem B9_textAt_8 {ω : Om} {h : AH} {Q : Option Value → AH → Prop} {x0 : Nat} {x1 : Int32} (hw : ω.2.2.2.1 = true) (s_x0 : gs h x0 = some (9, 17)) (kt : (gi h x0 5) ≤ x1 → Ex ω M9_textAt 25 [some (.ref x0), some (.int x1)] [] h 0 0 Q) (kf : ¬ (gi h x0 5) ≤ x1 → Ex ω M9_textAt 16 [some (.ref x0), some (.int x1)] [] h 0 0 Q) : Ex ω M9_textAt 8 [some (.ref x0), some (.int x1)] [] h 0 0 Q := by
  refine x_iload1 9 dX9_textAt_8 rfl ?_
  refine x_aload0 10 dX9_textAt_9 rfl ?_
  refine x_getI cf9 5 13 dX9_textAt_10 rfl wd359 (fun _ => s_x0) (by decide) rfl ?_
  exact x_icmp_ge 16 25 dX9_textAt_13 rfl (by decide) kt kf
set_option maxRecDepth 20000 in
theorem B9_textAt_16 {ω : Om} {h : AH} {Q : Option Value → AH → Prop} {x0 : Nat} {x1 : Int32} (hw : ω.2.2.2.1 = true) (s_x0 : gs h x0 = some (9, 17)) (i1 : vp_in x1 100) (kt : Ex ω M9_textAt 27 [some (.ref x0), some (.int x1)] [.int (gi h (gr h x0 4) (Int32.toNatClampNeg x1))] h 0 0 Q) : Ex ω M9_textAt 16 [some (.ref x0), some (.int x1)] [] h 0 0 Q := by
  refine x_aload0 17 dX9_textAt_16 rfl ?_
  refine x_getR cf9 4 20 hw dX9_textAt_17 rfl wd102 (fun _ => s_x0) (by decide) (by decide) rfl ?_
  refine x_iload1 21 dX9_textAt_20 rfl ?_
  refine x_iald (Int32.toNatClampNeg x1) 22 dX9_textAt_21 rfl (SH.fld hw (fun _ => s_x0) 4 (Nat.le_of_ble_eq_true rfl) rfl rfl) i1 rfl ?_
  exact x_goto 27 dX9_textAt_22 (by decide) kt
set_option maxRecDepth 20000 in
theorem B9_textAt_25 {ω : Om} {h : AH} {Q : Option Value → AH → Prop} {u0 : Option Value} {u1 : Option Value} (hw : ω.2.2.2.1 = true) (kf : Ex ω M9_textAt 27 [none, none] [.int ((-4))] h 0 0 Q) : Ex ω M9_textAt 25 [u0, u1] [] h 0 0 Q := by
  refine x_dr0 ?_
  refine x_dr1 ?_
  refine x_bipush ((-4)) 27 dX9_textAt_25 rfl rfl ?_
  exact kf
set_option maxRecDepth 20000 in
theorem B9_textAt_27 {ω : Om} {h : AH} {Q : Option Value → AH → Prop} {u0 : Option Value} {u1 : Option Value} {y0 : Int32} (hw : ω.2.2.2.1 = true) (hq : Q (some (.int y0)) h) : Ex ω M9_textAt 27 [u0, u1] [.int y0] h 0 0 Q := by
  refine x_dr0 ?_
  refine x_dr1 ?_
  exact x_iret dX9_textAt_27 rfl (Nat.zero_le _) (Nat.zero_le _) hq
set_option maxRecDepth 20000 in
theorem B9_covers_0 {ω : Om} {h : AH} {Q : Option Value → AH → Prop} {u0 : Option Value} {x1 : Int32} {x2 : Int32} (hw : ω.2.2.2.1 = true) (kt : (x1 + (nI 50)) ≤ ((nI 10) * x2) → Ex ω M9_covers 26 [none, some (.int x1), some (.int x2)] [] h 0 0 Q) (kf : ¬ (x1 + (nI 50)) ≤ ((nI 10) * x2) → Ex ω M9_covers 11 [none, some (.int x1), some (.int x2)] [] h 0 0 Q) : Ex ω M9_covers 0 [u0, some (.int x1), some (.int x2)] [] h 0 0 Q := by
  refine x_dr0 ?_
  refine x_bipush (nI 10) 2 dX9_covers_0 rfl rfl ?_
  refine x_iload2 3 dX9_covers_2 rfl ?_
  refine x_imul 4 dX9_covers_3 rfl ?_
  refine x_iload1 5 dX9_covers_4 rfl ?_
  refine x_bipush (nI 50) 7 dX9_covers_5 rfl rfl ?_
  refine x_iadd 8 dX9_covers_7 rfl ?_
  exact x_icmp_ge 11 26 dX9_covers_8 rfl (by decide) kt kf
set_option maxRecDepth 20000 in
theorem B9_covers_11 {ω : Om} {h : AH} {Q : Option Value → AH → Prop} {u0 : Option Value} {x1 : Int32} {x2 : Int32} (hw : ω.2.2.2.1 = true) (kt : (((nI 10) * x2) + (nI 10)) ≤ x1 → Ex ω M9_covers 26 [none, some (.int x1), some (.int x2)] [] h 0 0 Q) (kf : ¬ (((nI 10) * x2) + (nI 10)) ≤ x1 → Ex ω M9_covers 22 [none, some (.int x1), some (.int x2)] [] h 0 0 Q) : Ex ω M9_covers 11 [u0, some (.int x1), some (.int x2)] [] h 0 0 Q := by
  refine x_dr0 ?_
  refine x_bipush (nI 10) 13 dX9_covers_11 rfl rfl ?_
  refine x_iload2 14 dX9_covers_13 rfl ?_
  refine x_imul 15 dX9_covers_14 rfl ?_
  refine x_bipush (nI 10) 17 dX9_covers_15 rfl rfl ?_
  refine x_iadd 18 dX9_covers_17 rfl ?_
  refine x_iload1 19 dX9_covers_18 rfl ?_
  exact x_icmp_le 22 26 dX9_covers_19 rfl (by decide) kt kf
set_option maxRecDepth 20000 in
theorem B9_covers_22 {ω : Om} {h : AH} {Q : Option Value → AH → Prop} {u0 : Option Value} {u1 : Option Value} {u2 : Option Value} (hw : ω.2.2.2.1 = true) (kt : Ex ω M9_covers 27 [none, none, none] [.int (nI 1)] h 0 0 Q) : Ex ω M9_covers 22 [u0, u1, u2] [] h 0 0 Q := by
  refine x_dr0 ?_
  refine x_dr1 ?_
  refine x_dr2 ?_
  refine x_iconst (nI 1) 23 dX9_covers_22 rfl rfl ?_
  exact x_goto 27 dX9_covers_23 (by decide) kt
set_option maxRecDepth 20000 in
theorem B9_covers_26 {ω : Om} {h : AH} {Q : Option Value → AH → Prop} {u0 : Option Value} {u1 : Option Value} {u2 : Option Value} (hw : ω.2.2.2.1 = true) (kf : Ex ω M9_covers 27 [none, none, none] [.int (nI 0)] h 0 0 Q) : Ex ω M9_covers 26 [u0, u1, u2] [] h 0 0 Q := by
  refine x_dr0 ?_
  refine x_dr1 ?_
  refine x_dr2 ?_
  refine x_iconst (nI 0) 27 dX9_covers_26 rfl rfl ?_
  exact kf
set_option maxRecDepth 20000 in
theorem B9_covers_27 {ω : Om} {h : AH} {Q : Option Value → AH → Prop} {u0 : Option Value} {u1 : Option Value} {u2 : Option Value} {y0 : Int32} (hw : ω.2.2.2.1 = true) (hz : narrow .boolean (.int y0) = .int y0) (hq : Q (some (.int y0)) h) : Ex ω M9_covers 27 [u0, u1, u2] [.int y0] h 0 0 Q := by
  refine x_dr0 ?_
  refine x_dr1 ?_
  refine x_dr2 ?_
  exact x_zret dX9_covers_27 rfl hz (Nat.zero_le _) (Nat.zero_le _) hq
set_option maxRecDepth 20000 in
theorem B9_bearable_0 {ω : Om} {h : AH} {Q : Option Value → AH → Prop} {x0 : Nat} {u1 : Option Value} {u2 : Option Value} (hw : ω.2.2.2.1 = true) (kf : Ex ω M9_bearable 4 [some (.ref x0), some (.int (nI 0)), some (.int (nI 0))] [] h 0 0 Q) : Ex ω M9_bearable 0 [some (.ref x0), u1, u2] [] h 0 0 Q := by
  refine x_dr1 ?_
  refine x_dr2 ?_
  refine x_iconst (nI 0) 1 dX9_bearable_0 rfl rfl ?_
  refine x_istore1 2 dX9_bearable_1 rfl (by decide) rfl ?_
  refine x_iconst (nI 0) 3 dX9_bearable_2 rfl rfl ?_
  refine x_istore2 4 dX9_bearable_3 rfl (by decide) rfl ?_
  exact kf
set_option maxRecDepth 20000 in
theorem B9_bearable_4 {ω : Om} {h : AH} {Q : Option Value → AH → Prop} {x0 : Nat} {x1 : Int32} {x2 : Int32} (hw : ω.2.2.2.1 = true) (s_x0 : gs h x0 = some (9, 17)) (kt : (gi h x0 12) ≤ x2 → Ex ω M9_bearable 67 [some (.ref x0), some (.int x1), some (.int x2)] [] h 0 0 Q) (kf : ¬ (gi h x0 12) ≤ x2 → Ex ω M9_bearable 12 [some (.ref x0), some (.int x1), some (.int x2)] [] h 0 0 Q) : Ex ω M9_bearable 4 [some (.ref x0), some (.int x1), some (.int x2)] [] h 0 0 Q := by
  refine x_iload2 5 dX9_bearable_4 rfl ?_
  refine x_aload0 6 dX9_bearable_5 rfl ?_
  refine x_getI cf9 12 9 dX9_bearable_6 rfl wd707 (fun _ => s_x0) (by decide) rfl ?_
  exact x_icmp_ge 12 67 dX9_bearable_9 rfl (by decide) kt kf
set_option maxRecDepth 20000 in
theorem B9_bearable_12 {ω : Om} {h : AH} {Q : Option Value → AH → Prop} {x0 : Nat} {x1 : Int32} {x2 : Int32} (hw : ω.2.2.2.1 = true) (s_x0 : gs h x0 = some (9, 17)) (kk : Ex ω M9_covers 0 [some (.ref x0), some (.int (gi h x0 14)), some (.int x2)] [] h 0 0 (fun v h' => Ex ω M9_bearable 21 [some (.ref x0), some (.int x1), some (.int x2)] (v.toList ++ []) h' 0 0 Q)) : Ex ω M9_bearable 12 [some (.ref x0), some (.int x1), some (.int x2)] [] h 0 0 Q := by
  refine x_aload0 13 dX9_bearable_12 rfl ?_
  refine x_aload0 14 dX9_bearable_13 rfl ?_
  refine x_getI cf9 14 17 dX9_bearable_14 rfl wd716 (fun _ => s_x0) (by decide) rfl ?_
  refine x_iload2 18 dX9_bearable_17 rfl ?_
  exact x_callV 21 x0 [.int (gi h x0 14), .int x2] [] dX9_bearable_18 rfl lk_9_covers ⟨wd734, wd735, wd736⟩ ⟨by decide, by decide⟩ (recvO cf9 (fun _ => s_x0)) rfl rfl (Nat.le_of_ble_eq_true rfl) (Nat.le_of_ble_eq_true rfl) (by decide) (by decide) kk
set_option maxRecDepth 20000 in
theorem B9_bearable_21 {ω : Om} {h : AH} {Q : Option Value → AH → Prop} {x0 : Nat} {x1 : Int32} {x2 : Int32} {y0 : Int32} (hw : ω.2.2.2.1 = true) (kt : y0 = 0 → Ex ω M9_bearable 59 [some (.ref x0), some (.int x1), some (.int x2)] [] h 0 0 Q) (kf : ¬ y0 = 0 → Ex ω M9_bearable 24 [some (.ref x0), some (.int x1), some (.int x2)] [] h 0 0 Q) : Ex ω M9_bearable 21 [some (.ref x0), some (.int x1), some (.int x2)] [.int y0] h 0 0 Q := by
  exact x_if_eq 24 59 dX9_bearable_21 rfl (by decide) kt kf
set_option maxRecDepth 20000 in
theorem B9_bearable_24 {ω : Om} {h : AH} {Q : Option Value → AH → Prop} {x0 : Nat} {x1 : Int32} {x2 : Int32} (hw : ω.2.2.2.1 = true) (s_x0 : gs h x0 = some (9, 17)) (i1 : vp_in (((gi h x0 9) + (nI 38)) + x2) 596) (kt : (gi h (gr h x0 0) (Int32.toNatClampNeg (((gi h x0 9) + (nI 38)) + x2))) ≤ x1 → Ex ω M9_bearable 59 [some (.ref x0), some (.int x1), some (.int x2)] [] h 0 0 Q) (kf : ¬ (gi h (gr h x0 0) (Int32.toNatClampNeg (((gi h x0 9) + (nI 38)) + x2))) ≤ x1 → Ex ω M9_bearable 42 [some (.ref x0), some (.int x1), some (.int x2)] [] h 0 0 Q) : Ex ω M9_bearable 24 [some (.ref x0), some (.int x1), some (.int x2)] [] h 0 0 Q := by
  refine x_aload0 25 dX9_bearable_24 rfl ?_
  refine x_getR cf9 0 28 hw dX9_bearable_25 rfl wd99 (fun _ => s_x0) (by decide) (by decide) rfl ?_
  refine x_aload0 29 dX9_bearable_28 rfl ?_
  refine x_getI cf9 9 32 dX9_bearable_29 rfl wd706 (fun _ => s_x0) (by decide) rfl ?_
  refine x_bipush (nI 38) 34 dX9_bearable_32 rfl rfl ?_
  refine x_iadd 35 dX9_bearable_34 rfl ?_
  refine x_iload2 36 dX9_bearable_35 rfl ?_
  refine x_iadd 37 dX9_bearable_36 rfl ?_
  refine x_iald (Int32.toNatClampNeg (((gi h x0 9) + (nI 38)) + x2)) 38 dX9_bearable_37 rfl (SH.fld hw (fun _ => s_x0) 0 (Nat.le_of_ble_eq_true rfl) rfl rfl) i1 rfl ?_
  refine x_iload1 39 dX9_bearable_38 rfl ?_
  exact x_icmp_le 42 59 dX9_bearable_39 rfl (by decide) kt kf
set_option maxRecDepth 20000 in
theorem B9_bearable_42 {ω : Om} {h : AH} {Q : Option Value → AH → Prop} {x0 : Nat} {u1 : Option Value} {x2 : Int32} (hw : ω.2.2.2.1 = true) (s_x0 : gs h x0 = some (9, 17)) (i1 : vp_in (((gi h x0 9) + (nI 38)) + x2) 596) (kt : Ex ω M9_bearable 60 [some (.ref x0), none, some (.int x2)] [.int (gi h (gr h x0 0) (Int32.toNatClampNeg (((gi h x0 9) + (nI 38)) + x2)))] h 0 0 Q) : Ex ω M9_bearable 42 [some (.ref x0), u1, some (.int x2)] [] h 0 0 Q := by
  refine x_dr1 ?_
  refine x_aload0 43 dX9_bearable_42 rfl ?_
  refine x_getR cf9 0 46 hw dX9_bearable_43 rfl wd99 (fun _ => s_x0) (by decide) (by decide) rfl ?_
  refine x_aload0 47 dX9_bearable_46 rfl ?_
  refine x_getI cf9 9 50 dX9_bearable_47 rfl wd706 (fun _ => s_x0) (by decide) rfl ?_
  refine x_bipush (nI 38) 52 dX9_bearable_50 rfl rfl ?_
  refine x_iadd 53 dX9_bearable_52 rfl ?_
  refine x_iload2 54 dX9_bearable_53 rfl ?_
  refine x_iadd 55 dX9_bearable_54 rfl ?_
  refine x_iald (Int32.toNatClampNeg (((gi h x0 9) + (nI 38)) + x2)) 56 dX9_bearable_55 rfl (SH.fld hw (fun _ => s_x0) 0 (Nat.le_of_ble_eq_true rfl) rfl rfl) i1 rfl ?_
  exact x_goto 60 dX9_bearable_56 (by decide) kt
set_option maxRecDepth 20000 in
theorem B9_bearable_59 {ω : Om} {h : AH} {Q : Option Value → AH → Prop} {x0 : Nat} {x1 : Int32} {x2 : Int32} (hw : ω.2.2.2.1 = true) (kf : Ex ω M9_bearable 60 [some (.ref x0), some (.int x1), some (.int x2)] [.int x1] h 0 0 Q) : Ex ω M9_bearable 59 [some (.ref x0), some (.int x1), some (.int x2)] [] h 0 0 Q := by
  refine x_iload1 60 dX9_bearable_59 rfl ?_
  exact kf
set_option maxRecDepth 20000 in
theorem B9_bearable_60 {ω : Om} {h : AH} {Q : Option Value → AH → Prop} {x0 : Nat} {u1 : Option Value} {x2 : Int32} {y0 : Int32} (hw : ω.2.2.2.1 = true) (kt : Ex ω M9_bearable 4 [some (.ref x0), some (.int y0), some (.int (x2 + (nI 1)))] [] h 0 0 Q) : Ex ω M9_bearable 60 [some (.ref x0), u1, some (.int x2)] [.int y0] h 0 0 Q := by
  refine x_dr1 ?_
  refine x_istore1 61 dX9_bearable_60 rfl (by decide) rfl ?_
  refine x_iinc2 (x2 + (nI 1)) 64 dX9_bearable_61 rfl (by decide) rfl rfl ?_
  exact x_goto 4 dX9_bearable_64 (by decide) kt
set_option maxRecDepth 20000 in
theorem B9_bearable_67 {ω : Om} {h : AH} {Q : Option Value → AH → Prop} {x0 : Nat} {x1 : Int32} {u2 : Option Value} (hw : ω.2.2.2.1 = true) (s_x0 : gs h x0 = some (9, 17)) (kf : Ex ω M9_bearable 72 [some (.ref x0), some (.int x1), some (.int (gi h x0 15))] [] h 0 0 Q) : Ex ω M9_bearable 67 [some (.ref x0), some (.int x1), u2] [] h 0 0 Q := by
  refine x_dr2 ?_
  refine x_aload0 68 dX9_bearable_67 rfl ?_
  refine x_getI cf9 15 71 dX9_bearable_68 rfl wd717 (fun _ => s_x0) (by decide) rfl ?_
  refine x_istore2 72 dX9_bearable_71 rfl (by decide) rfl ?_
  exact kf
set_option maxRecDepth 20000 in
theorem B9_bearable_72 {ω : Om} {h : AH} {Q : Option Value → AH → Prop} {x0 : Nat} {x1 : Int32} {x2 : Int32} (hw : ω.2.2.2.1 = true) (kt : x2 ≤ 0 → Ex ω M9_bearable 95 [some (.ref x0), some (.int x1), some (.int x2)] [] h 0 0 Q) (kf : ¬ x2 ≤ 0 → Ex ω M9_bearable 76 [some (.ref x0), some (.int x1), some (.int x2)] [] h 0 0 Q) : Ex ω M9_bearable 72 [some (.ref x0), some (.int x1), some (.int x2)] [] h 0 0 Q := by
  refine x_iload2 73 dX9_bearable_72 rfl ?_
  exact x_if_le 76 95 dX9_bearable_73 rfl (by decide) kt kf
set_option maxRecDepth 20000 in
theorem B9_bearable_76 {ω : Om} {h : AH} {Q : Option Value → AH → Prop} {x0 : Nat} {x1 : Int32} {x2 : Int32} (hw : ω.2.2.2.1 = true) (kk : Ex ω M9_forceOf 0 [some (.int x2)] [] h 0 0 (fun v h' => Ex ω M9_bearable 81 [some (.ref x0), some (.int x1), some (.int x2)] (v.toList ++ [.int x1]) h' 0 0 Q)) : Ex ω M9_bearable 76 [some (.ref x0), some (.int x1), some (.int x2)] [] h 0 0 Q := by
  refine x_iload1 77 dX9_bearable_76 rfl ?_
  refine x_iload2 78 dX9_bearable_77 rfl ?_
  exact x_callS 81 [.int x2] [.int x1] dX9_bearable_78 rfl lk_9_forceOf ⟨wd738, wd739⟩ ⟨by decide, by decide⟩ rfl rfl (Nat.le_of_ble_eq_true rfl) (Nat.le_of_ble_eq_true rfl) (by decide) (by decide) kk
set_option maxRecDepth 20000 in
theorem B9_bearable_81 {ω : Om} {h : AH} {Q : Option Value → AH → Prop} {x0 : Nat} {x1 : Int32} {x2 : Int32} {y0 : Int32} {y1 : Int32} (hw : ω.2.2.2.1 = true) (s_x0 : gs h x0 = some (9, 17)) (kt : (y0 + y1) ≤ (gi h x0 11) → Ex ω M9_bearable 95 [some (.ref x0), some (.int x1), some (.int x2)] [] h 0 0 Q) (kf : ¬ (y0 + y1) ≤ (gi h x0 11) → Ex ω M9_bearable 89 [some (.ref x0), some (.int x1), some (.int x2)] [] h 0 0 Q) : Ex ω M9_bearable 81 [some (.ref x0), some (.int x1), some (.int x2)] [.int y1, .int y0] h 0 0 Q := by
  refine x_iadd 82 dX9_bearable_81 rfl ?_
  refine x_aload0 83 dX9_bearable_82 rfl ?_
  refine x_getI cf9 11 86 dX9_bearable_83 rfl wd715 (fun _ => s_x0) (by decide) rfl ?_
  exact x_icmp_le 89 95 dX9_bearable_86 rfl (by decide) kt kf
set_option maxRecDepth 20000 in
theorem B9_bearable_89 {ω : Om} {h : AH} {Q : Option Value → AH → Prop} {x0 : Nat} {x1 : Int32} {x2 : Int32} (hw : ω.2.2.2.1 = true) (kt : Ex ω M9_bearable 72 [some (.ref x0), some (.int x1), some (.int (x2 + ((-1))))] [] h 0 0 Q) : Ex ω M9_bearable 89 [some (.ref x0), some (.int x1), some (.int x2)] [] h 0 0 Q := by
  refine x_iinc2 (x2 + ((-1))) 92 dX9_bearable_89 rfl (by decide) rfl rfl ?_
  exact x_goto 72 dX9_bearable_92 (by decide) kt
set_option maxRecDepth 20000 in
theorem B9_bearable_95 {ω : Om} {h : AH} {Q : Option Value → AH → Prop} {u0 : Option Value} {u1 : Option Value} {x2 : Int32} (hw : ω.2.2.2.1 = true) (hq : Q (some (.int x2)) h) : Ex ω M9_bearable 95 [u0, u1, some (.int x2)] [] h 0 0 Q := by
  refine x_dr0 ?_
  refine x_dr1 ?_
  refine x_iload2 96 dX9_bearable_95 rfl ?_
  exact x_iret dX9_bearable_96 rfl (Nat.zero_le _) (Nat.zero_le _) hq
set_option maxRecDepth 20000 in
theorem B9_wastes_0 {ω : Om} {h : AH} {Q : Option Value → AH → Prop} {x0 : Nat} {x1 : Int32} {x2 : Int32} (hw : ω.2.2.2.1 = true) (s_x0 : gs h x0 = some (9, 17)) (i1 : vp_in ((nI 8) + x1) 596) (i2 : vp_in ((nI 8) + x1) 596) (kf : Ex ω M9_wastes 24 [some (.ref x0), some (.int x1), some (.int x2)] [] (si (si h (gr h x0 0) (Int32.toNatClampNeg ((nI 8) + x1)) ((gi h (gr h x0 0) (Int32.toNatClampNeg ((nI 8) + x1))) + x2)) (gr h x0 0) 8 ((gi (si h (gr h x0 0) (Int32.toNatClampNeg ((nI 8) + x1)) ((gi h (gr h x0 0) (Int32.toNatClampNeg ((nI 8) + x1))) + x2)) (gr h x0 0) 8) + x2)) 0 0 Q) : Ex ω M9_wastes 0 [some (.ref x0), some (.int x1), some (.int x2)] [] h 0 0 Q := by
  refine x_aload0 1 dX9_wastes_0 rfl ?_
  refine x_getR cf9 0 4 hw dX9_wastes_1 rfl wd99 (fun _ => s_x0) (by decide) (by decide) rfl ?_
  refine x_bipush (nI 8) 6 dX9_wastes_4 rfl rfl ?_
  refine x_iload1 7 dX9_wastes_6 rfl ?_
  refine x_iadd 8 dX9_wastes_7 rfl ?_
  refine x_dup2 9 dX9_wastes_8 rfl rfl rfl ?_
  refine x_iald (Int32.toNatClampNeg ((nI 8) + x1)) 10 dX9_wastes_9 rfl (SH.fld hw (fun _ => s_x0) 0 (Nat.le_of_ble_eq_true rfl) rfl rfl) i1 rfl ?_
  refine x_iload2 11 dX9_wastes_10 rfl ?_
  refine x_iadd 12 dX9_wastes_11 rfl ?_
  refine x_iast (Int32.toNatClampNeg ((nI 8) + x1)) 13 dX9_wastes_12 rfl (SH.fld hw (fun _ => s_x0) 0 (Nat.le_of_ble_eq_true rfl) rfl rfl) i2 rfl ?_
  refine x_aload0 14 dX9_wastes_13 rfl ?_
  refine x_getR cf9 0 17 hw dX9_wastes_14 rfl wd99 (fun _ => s_x0) (by decide) (by decide) rfl ?_
  refine x_bipush (nI 8) 19 dX9_wastes_17 rfl rfl ?_
  refine x_dup2 20 dX9_wastes_19 rfl rfl rfl ?_
  refine x_iald 8 21 dX9_wastes_20 rfl (SH.fld hw (fun _ => s_x0) 0 (Nat.le_of_ble_eq_true rfl) rfl rfl) (vp_c (by decide)) rfl ?_
  refine x_iload2 22 dX9_wastes_21 rfl ?_
  refine x_iadd 23 dX9_wastes_22 rfl ?_
  refine x_iast 8 24 dX9_wastes_23 rfl (SH.fld hw (fun _ => s_x0) 0 (Nat.le_of_ble_eq_true rfl) rfl rfl) (vp_c (by decide)) rfl ?_
  exact kf
set_option maxRecDepth 20000 in
theorem B9_wastes_24 {ω : Om} {h : AH} {Q : Option Value → AH → Prop} {x0 : Nat} {u1 : Option Value} {x2 : Int32} (hw : ω.2.2.2.1 = true) (s_x0 : gs h x0 = some (9, 17)) (i1 : vp_in ((gi h x0 9) + (nI 5)) 596) (i2 : vp_in ((gi h x0 9) + (nI 5)) 596) (kf : Ex ω M9_wastes 39 [some (.ref x0), none, some (.int x2)] [] (si h (gr h x0 0) (Int32.toNatClampNeg ((gi h x0 9) + (nI 5))) ((gi h (gr h x0 0) (Int32.toNatClampNeg ((gi h x0 9) + (nI 5)))) + x2)) 0 0 Q) : Ex ω M9_wastes 24 [some (.ref x0), u1, some (.int x2)] [] h 0 0 Q := by
  refine x_dr1 ?_
  refine x_aload0 25 dX9_wastes_24 rfl ?_
  refine x_getR cf9 0 28 hw dX9_wastes_25 rfl wd99 (fun _ => s_x0) (by decide) (by decide) rfl ?_
  refine x_aload0 29 dX9_wastes_28 rfl ?_
  refine x_getI cf9 9 32 dX9_wastes_29 rfl wd706 (fun _ => s_x0) (by decide) rfl ?_
  refine x_iconst (nI 5) 33 dX9_wastes_32 rfl rfl ?_
  refine x_iadd 34 dX9_wastes_33 rfl ?_
  refine x_dup2 35 dX9_wastes_34 rfl rfl rfl ?_
  refine x_iald (Int32.toNatClampNeg ((gi h x0 9) + (nI 5))) 36 dX9_wastes_35 rfl (SH.fld hw (fun _ => s_x0) 0 (Nat.le_of_ble_eq_true rfl) rfl rfl) i1 rfl ?_
  refine x_iload2 37 dX9_wastes_36 rfl ?_
  refine x_iadd 38 dX9_wastes_37 rfl ?_
  refine x_iast (Int32.toNatClampNeg ((gi h x0 9) + (nI 5))) 39 dX9_wastes_38 rfl (SH.fld hw (fun _ => s_x0) 0 (Nat.le_of_ble_eq_true rfl) rfl rfl) i2 rfl ?_
  exact kf
set_option maxRecDepth 20000 in
theorem B9_wastes_39 {ω : Om} {h : AH} {Q : Option Value → AH → Prop} {u0 : Option Value} {u1 : Option Value} {u2 : Option Value} (hw : ω.2.2.2.1 = true) (hq : Q none h) : Ex ω M9_wastes 39 [u0, u1, u2] [] h 0 0 Q := by
  refine x_dr0 ?_
  refine x_dr1 ?_
  refine x_dr2 ?_
  exact x_vret dX9_wastes_39 rfl (Nat.zero_le _) (Nat.zero_le _) hq
set_option maxRecDepth 20000 in
theorem B9_lasts_0 {ω : Om} {h : AH} {Q : Option Value → AH → Prop} {x0 : Nat} {x1 : Int32} (hw : ω.2.2.2.1 = true) (s_x0 : gs h x0 = some (9, 17)) (i1 : vp_in ((gi h x0 9) + (nI 10)) 596) (i2 : vp_in ((gi h x0 9) + (nI 10)) 596) (kf : Ex ω M9_lasts 16 [some (.ref x0), some (.int x1)] [] (si h (gr h x0 0) (Int32.toNatClampNeg ((gi h x0 9) + (nI 10))) ((gi h (gr h x0 0) (Int32.toNatClampNeg ((gi h x0 9) + (nI 10)))) + x1)) 0 0 Q) : Ex ω M9_lasts 0 [some (.ref x0), some (.int x1)] [] h 0 0 Q := by
  refine x_aload0 1 dX9_lasts_0 rfl ?_
  refine x_getR cf9 0 4 hw dX9_lasts_1 rfl wd99 (fun _ => s_x0) (by decide) (by decide) rfl ?_
  refine x_aload0 5 dX9_lasts_4 rfl ?_
  refine x_getI cf9 9 8 dX9_lasts_5 rfl wd706 (fun _ => s_x0) (by decide) rfl ?_
  refine x_bipush (nI 10) 10 dX9_lasts_8 rfl rfl ?_
  refine x_iadd 11 dX9_lasts_10 rfl ?_
  refine x_dup2 12 dX9_lasts_11 rfl rfl rfl ?_
  refine x_iald (Int32.toNatClampNeg ((gi h x0 9) + (nI 10))) 13 dX9_lasts_12 rfl (SH.fld hw (fun _ => s_x0) 0 (Nat.le_of_ble_eq_true rfl) rfl rfl) i1 rfl ?_
  refine x_iload1 14 dX9_lasts_13 rfl ?_
  refine x_iadd 15 dX9_lasts_14 rfl ?_
  refine x_iast (Int32.toNatClampNeg ((gi h x0 9) + (nI 10))) 16 dX9_lasts_15 rfl (SH.fld hw (fun _ => s_x0) 0 (Nat.le_of_ble_eq_true rfl) rfl rfl) i2 rfl ?_
  exact kf
set_option maxRecDepth 20000 in
theorem B9_lasts_16 {ω : Om} {h : AH} {Q : Option Value → AH → Prop} {x0 : Nat} {x1 : Int32} (hw : ω.2.2.2.1 = true) (s_x0 : gs h x0 = some (9, 17)) (hq : Q none (si h (gr h x0 0) 6 ((gi h (gr h x0 0) 6) + x1))) : Ex ω M9_lasts 16 [some (.ref x0), some (.int x1)] [] h 0 0 Q := by
  refine x_aload0 17 dX9_lasts_16 rfl ?_
  refine x_getR cf9 0 20 hw dX9_lasts_17 rfl wd99 (fun _ => s_x0) (by decide) (by decide) rfl ?_
  refine x_bipush (nI 6) 22 dX9_lasts_20 rfl rfl ?_
  refine x_dup2 23 dX9_lasts_22 rfl rfl rfl ?_
  refine x_iald 6 24 dX9_lasts_23 rfl (SH.fld hw (fun _ => s_x0) 0 (Nat.le_of_ble_eq_true rfl) rfl rfl) (vp_c (by decide)) rfl ?_
  refine x_iload1 25 dX9_lasts_24 rfl ?_
  refine x_iadd 26 dX9_lasts_25 rfl ?_
  refine x_iast 6 27 dX9_lasts_26 rfl (SH.fld hw (fun _ => s_x0) 0 (Nat.le_of_ble_eq_true rfl) rfl rfl) (vp_c (by decide)) rfl ?_
  exact x_vret dX9_lasts_27 rfl (Nat.zero_le _) (Nat.zero_le _) hq
set_option maxRecDepth 20000 in
theorem B9_breaks_0 {ω : Om} {h : AH} {Q : Option Value → AH → Prop} {x0 : Nat} {x1 : Int32} {u2 : Option Value} {u3 : Option Value} (hw : ω.2.2.2.1 = true) (s_x0 : gs h x0 = some (9, 17)) (kk : Ex ω M9_rollAt 0 [some (.ref x0), some (.int (nI 0)), some (.int ((nI 4) + x1))] [] h 0 0 (fun v h' => Ex ω M9_breaks 8 [some (.ref x0), some (.int x1), none, none] (v.toList ++ []) h' 0 0 Q)) : Ex ω M9_breaks 0 [some (.ref x0), some (.int x1), u2, u3] [] h 0 0 Q := by
  refine x_dr2 ?_
  refine x_dr3 ?_
  refine x_aload0 1 dX9_breaks_0 rfl ?_
  refine x_iconst (nI 0) 2 dX9_breaks_1 rfl rfl ?_
  refine x_iconst (nI 4) 3 dX9_breaks_2 rfl rfl ?_
  refine x_iload1 4 dX9_breaks_3 rfl ?_
  refine x_iadd 5 dX9_breaks_4 rfl ?_
  exact x_callV 8 x0 [.int (nI 0), .int ((nI 4) + x1)] [] dX9_breaks_5 rfl lk_9_rollAt ⟨wd233, wd234, wd235⟩ ⟨by decide, by decide⟩ (recvO cf9 (fun _ => s_x0)) rfl rfl (Nat.le_of_ble_eq_true rfl) (Nat.le_of_ble_eq_true rfl) (by decide) (by decide) kk
set_option maxRecDepth 20000 in
theorem B9_breaks_8 {ω : Om} {h : AH} {Q : Option Value → AH → Prop} {x0 : Nat} {u1 : Option Value} {u2 : Option Value} {u3 : Option Value} {y0 : Int32} (hw : ω.2.2.2.1 = true) (s_x0 : gs h x0 = some (9, 17)) (kk : Ex ω M9_rollAt 0 [some (.ref x0), some (.int (nI 0)), some (.int (nI 2))] [] h 0 0 (fun v h' => Ex ω M9_breaks 18 [some (.ref x0), none, some (.int y0), none] (v.toList ++ [.int y0, .int (nI 3), .ref x0]) h' 0 0 Q)) : Ex ω M9_breaks 8 [some (.ref x0), u1, u2, u3] [.int y0] h 0 0 Q := by
  refine x_dr1 ?_
  refine x_dr2 ?_
  refine x_dr3 ?_
  refine x_istore2 9 dX9_breaks_8 rfl (by decide) rfl ?_
  refine x_aload0 10 dX9_breaks_9 rfl ?_
  refine x_iconst (nI 3) 11 dX9_breaks_10 rfl rfl ?_
  refine x_iload2 12 dX9_breaks_11 rfl ?_
  refine x_aload0 13 dX9_breaks_12 rfl ?_
  refine x_iconst (nI 0) 14 dX9_breaks_13 rfl rfl ?_
  refine x_iconst (nI 2) 15 dX9_breaks_14 rfl rfl ?_
  exact x_callV 18 x0 [.int (nI 0), .int (nI 2)] [.int y0, .int (nI 3), .ref x0] dX9_breaks_15 rfl lk_9_rollAt ⟨wd233, wd234, wd235⟩ ⟨by decide, by decide⟩ (recvO cf9 (fun _ => s_x0)) rfl rfl (Nat.le_of_ble_eq_true rfl) (Nat.le_of_ble_eq_true rfl) (by decide) (by decide) kk
set_option maxRecDepth 20000 in
theorem B9_breaks_18 {ω : Om} {h : AH} {Q : Option Value → AH → Prop} {x0 : Nat} {u1 : Option Value} {x2 : Int32} {u3 : Option Value} {y0 : Nat} {y1 : Int32} {y2 : Int32} {y3 : Int32} (hw : ω.2.2.2.1 = true) (s_y0 : gs h y0 = some (9, 17)) (kk : Ex ω M9_wastes 0 [some (.ref y0), some (.int y1), some (.int (y2 - y3))] [] h 0 0 (fun v h' => Ex ω M9_breaks 22 [some (.ref x0), none, some (.int x2), none] (v.toList ++ []) h' 0 0 Q)) : Ex ω M9_breaks 18 [some (.ref x0), u1, some (.int x2), u3] [.int y3, .int y2, .int y1, .ref y0] h 0 0 Q := by
  refine x_dr1 ?_
  refine x_dr3 ?_
  refine x_isub 19 dX9_breaks_18 rfl ?_
  exact x_callV 22 y0 [.int y1, .int (y2 - y3)] [] dX9_breaks_19 rfl lk_9_wastes ⟨wd741, wd742, wd743⟩ ⟨by decide, by decide⟩ (recvO cf9 (fun _ => s_y0)) rfl rfl (Nat.le_of_ble_eq_true rfl) (Nat.le_of_ble_eq_true rfl) (by decide) (by decide) kk
set_option maxRecDepth 20000 in
theorem B9_breaks_22 {ω : Om} {h : AH} {Q : Option Value → AH → Prop} {x0 : Nat} {u1 : Option Value} {x2 : Int32} {u3 : Option Value} (hw : ω.2.2.2.1 = true) (s_x0 : gs h x0 = some (9, 17)) (kk : Ex ω M9_rollAt 0 [some (.ref x0), some (.int (nI 0)), some (.int (nI 0))] [] h 0 0 (fun v h' => Ex ω M9_breaks 34 [some (.ref x0), none, some (.int x2), none] (v.toList ++ [.int (gi h (gr h x0 0) 4)]) h' 0 0 Q)) : Ex ω M9_breaks 22 [some (.ref x0), u1, some (.int x2), u3] [] h 0 0 Q := by
  refine x_dr1 ?_
  refine x_dr3 ?_
  refine x_aload0 23 dX9_breaks_22 rfl ?_
  refine x_getR cf9 0 26 hw dX9_breaks_23 rfl wd99 (fun _ => s_x0) (by decide) (by decide) rfl ?_
  refine x_iconst (nI 4) 27 dX9_breaks_26 rfl rfl ?_
  refine x_iald 4 28 dX9_breaks_27 rfl (SH.fld hw (fun _ => s_x0) 0 (Nat.le_of_ble_eq_true rfl) rfl rfl) (vp_c (by decide)) rfl ?_
  refine x_aload0 29 dX9_breaks_28 rfl ?_
  refine x_iconst (nI 0) 30 dX9_breaks_29 rfl rfl ?_
  refine x_iconst (nI 0) 31 dX9_breaks_30 rfl rfl ?_
  exact x_callV 34 x0 [.int (nI 0), .int (nI 0)] [.int (gi h (gr h x0 0) 4)] dX9_breaks_31 rfl lk_9_rollAt ⟨wd233, wd234, wd235⟩ ⟨by decide, by decide⟩ (recvO cf9 (fun _ => s_x0)) rfl rfl (Nat.le_of_ble_eq_true rfl) (Nat.le_of_ble_eq_true rfl) (by decide) (by decide) kk
set_option maxRecDepth 20000 in
theorem B9_breaks_34 {ω : Om} {h : AH} {Q : Option Value → AH → Prop} {x0 : Nat} {u1 : Option Value} {x2 : Int32} {u3 : Option Value} {y0 : Int32} {y1 : Int32} (hw : ω.2.2.2.1 = true) (kk : Ex ω M9_lesser 0 [some (.int y0), some (.int (y1 - x2))] [] h 0 0 (fun v h' => Ex ω M9_breaks 39 [some (.ref x0), none, some (.int x2), none] (v.toList ++ []) h' 0 0 Q)) : Ex ω M9_breaks 34 [some (.ref x0), u1, some (.int x2), u3] [.int y1, .int y0] h 0 0 Q := by
  refine x_dr1 ?_
  refine x_dr3 ?_
  refine x_iload2 35 dX9_breaks_34 rfl ?_
  refine x_isub 36 dX9_breaks_35 rfl ?_
  exact x_callS 39 [.int y0, .int (y1 - x2)] [] dX9_breaks_36 rfl lk_9_lesser ⟨wd757, wd758⟩ ⟨by decide, by decide⟩ rfl rfl (Nat.le_of_ble_eq_true rfl) (Nat.le_of_ble_eq_true rfl) (by decide) (by decide) kk
set_option maxRecDepth 20000 in
theorem B9_breaks_39 {ω : Om} {h : AH} {Q : Option Value → AH → Prop} {x0 : Nat} {u1 : Option Value} {x2 : Int32} {u3 : Option Value} {y0 : Int32} (hw : ω.2.2.2.1 = true) (s_x0 : gs h x0 = some (9, 17)) (kk : Ex ω M9_wastes 0 [some (.ref x0), some (.int (nI 4)), some (.int y0)] [] h 0 0 (fun v h' => Ex ω M9_breaks 46 [some (.ref x0), none, some (.int x2), some (.int y0)] (v.toList ++ []) h' 0 0 Q)) : Ex ω M9_breaks 39 [some (.ref x0), u1, some (.int x2), u3] [.int y0] h 0 0 Q := by
  refine x_dr1 ?_
  refine x_dr3 ?_
  refine x_istore3 40 dX9_breaks_39 rfl (by decide) rfl ?_
  refine x_aload0 41 dX9_breaks_40 rfl ?_
  refine x_iconst (nI 4) 42 dX9_breaks_41 rfl rfl ?_
  refine x_iload3 43 dX9_breaks_42 rfl ?_
  exact x_callV 46 x0 [.int (nI 4), .int y0] [] dX9_breaks_43 rfl lk_9_wastes ⟨wd741, wd742, wd743⟩ ⟨by decide, by decide⟩ (recvO cf9 (fun _ => s_x0)) rfl rfl (Nat.le_of_ble_eq_true rfl) (Nat.le_of_ble_eq_true rfl) (by decide) (by decide) kk
set_option maxRecDepth 20000 in
theorem B9_breaks_46 {ω : Om} {h : AH} {Q : Option Value → AH → Prop} {x0 : Nat} {u1 : Option Value} {x2 : Int32} {x3 : Int32} (hw : ω.2.2.2.1 = true) (s_x0 : gs h x0 = some (9, 17)) (i1 : vp_in ((gi (si (si h (gr h x0 0) 22 (x2 + x3)) (gr h x0 0) 13 ((gi (si h (gr h x0 0) 22 (x2 + x3)) (gr h x0 0) 13) + (nI 1))) x0 9) + (nI 6)) 596) (i2 : vp_in ((gi (si (si h (gr h x0 0) 22 (x2 + x3)) (gr h x0 0) 13 ((gi (si h (gr h x0 0) 22 (x2 + x3)) (gr h x0 0) 13) + (nI 1))) x0 9) + (nI 6)) 596) (kf : Ex ω M9_breaks 83 [some (.ref x0), none, some (.int x2), some (.int x3)] [] (si (si (si h (gr h x0 0) 22 (x2 + x3)) (gr h x0 0) 13 ((gi (si h (gr h x0 0) 22 (x2 + x3)) (gr h x0 0) 13) + (nI 1))) (gr h x0 0) (Int32.toNatClampNeg ((gi (si (si h (gr h x0 0) 22 (x2 + x3)) (gr h x0 0) 13 ((gi (si h (gr h x0 0) 22 (x2 + x3)) (gr h x0 0) 13) + (nI 1))) x0 9) + (nI 6))) ((gi (si (si h (gr h x0 0) 22 (x2 + x3)) (gr h x0 0) 13 ((gi (si h (gr h x0 0) 22 (x2 + x3)) (gr h x0 0) 13) + (nI 1))) (gr h x0 0) (Int32.toNatClampNeg ((gi (si (si h (gr h x0 0) 22 (x2 + x3)) (gr h x0 0) 13 ((gi (si h (gr h x0 0) 22 (x2 + x3)) (gr h x0 0) 13) + (nI 1))) x0 9) + (nI 6)))) + (nI 1))) 0 0 Q) : Ex ω M9_breaks 46 [some (.ref x0), u1, some (.int x2), some (.int x3)] [] h 0 0 Q := by
  refine x_dr1 ?_
  refine x_aload0 47 dX9_breaks_46 rfl ?_
  refine x_getR cf9 0 50 hw dX9_breaks_47 rfl wd99 (fun _ => s_x0) (by decide) (by decide) rfl ?_
  refine x_bipush (nI 22) 52 dX9_breaks_50 rfl rfl ?_
  refine x_iload2 53 dX9_breaks_52 rfl ?_
  refine x_iload3 54 dX9_breaks_53 rfl ?_
  refine x_iadd 55 dX9_breaks_54 rfl ?_
  refine x_iast 22 56 dX9_breaks_55 rfl (SH.fld hw (fun _ => s_x0) 0 (Nat.le_of_ble_eq_true rfl) rfl rfl) (vp_c (by decide)) rfl ?_
  refine x_aload0 57 dX9_breaks_56 rfl ?_
  refine x_getR cf9 0 60 hw dX9_breaks_57 rfl wd99 (fun _ => s_x0) (by decide) (by decide) rfl ?_
  refine x_bipush (nI 13) 62 dX9_breaks_60 rfl rfl ?_
  refine x_dup2 63 dX9_breaks_62 rfl rfl rfl ?_
  refine x_iald 13 64 dX9_breaks_63 rfl (SH.fld hw (fun _ => s_x0) 0 (Nat.le_of_ble_eq_true rfl) rfl rfl) (vp_c (by decide)) rfl ?_
  refine x_iconst (nI 1) 65 dX9_breaks_64 rfl rfl ?_
  refine x_iadd 66 dX9_breaks_65 rfl ?_
  refine x_iast 13 67 dX9_breaks_66 rfl (SH.fld hw (fun _ => s_x0) 0 (Nat.le_of_ble_eq_true rfl) rfl rfl) (vp_c (by decide)) rfl ?_
  refine x_aload0 68 dX9_breaks_67 rfl ?_
  refine x_getR cf9 0 71 hw dX9_breaks_68 rfl wd99 (fun _ => s_x0) (by decide) (by decide) rfl ?_
  refine x_aload0 72 dX9_breaks_71 rfl ?_
  refine x_getI cf9 9 75 dX9_breaks_72 rfl wd706 (fun _ => s_x0) (by decide) rfl ?_
  refine x_bipush (nI 6) 77 dX9_breaks_75 rfl rfl ?_
  refine x_iadd 78 dX9_breaks_77 rfl ?_
  refine x_dup2 79 dX9_breaks_78 rfl rfl rfl ?_
  refine x_iald (Int32.toNatClampNeg ((gi (si (si h (gr h x0 0) 22 (x2 + x3)) (gr h x0 0) 13 ((gi (si h (gr h x0 0) 22 (x2 + x3)) (gr h x0 0) 13) + (nI 1))) x0 9) + (nI 6))) 80 dX9_breaks_79 rfl (SH.fld hw (fun _ => s_x0) 0 (Nat.le_of_ble_eq_true rfl) rfl rfl) i1 rfl ?_
  refine x_iconst (nI 1) 81 dX9_breaks_80 rfl rfl ?_
  refine x_iadd 82 dX9_breaks_81 rfl ?_
  refine x_iast (Int32.toNatClampNeg ((gi (si (si h (gr h x0 0) 22 (x2 + x3)) (gr h x0 0) 13 ((gi (si h (gr h x0 0) 22 (x2 + x3)) (gr h x0 0) 13) + (nI 1))) x0 9) + (nI 6))) 83 dX9_breaks_82 rfl (SH.fld hw (fun _ => s_x0) 0 (Nat.le_of_ble_eq_true rfl) rfl rfl) i2 rfl ?_
  exact kf
set_option maxRecDepth 20000 in
theorem B9_breaks_83 {ω : Om} {h : AH} {Q : Option Value → AH → Prop} {x0 : Nat} {u1 : Option Value} {u2 : Option Value} {u3 : Option Value} (hw : ω.2.2.2.1 = true) (s_x0 : gs h x0 = some (9, 17)) (kk : Ex ω M9_lasts 0 [some (.ref x0), some (.int (nI 40))] [] h 0 0 (fun v h' => Ex ω M9_breaks 89 [some (.ref x0), none, none, none] (v.toList ++ []) h' 0 0 Q)) : Ex ω M9_breaks 83 [some (.ref x0), u1, u2, u3] [] h 0 0 Q := by
  refine x_dr1 ?_
  refine x_dr2 ?_
  refine x_dr3 ?_
  refine x_aload0 84 dX9_breaks_83 rfl ?_
  refine x_bipush (nI 40) 86 dX9_breaks_84 rfl rfl ?_
  exact x_callV 89 x0 [.int (nI 40)] [] dX9_breaks_86 rfl lk_9_lasts ⟨wd749, wd750, wd751⟩ ⟨by decide, by decide⟩ (recvO cf9 (fun _ => s_x0)) rfl rfl (Nat.le_of_ble_eq_true rfl) (Nat.le_of_ble_eq_true rfl) (by decide) (by decide) kk
set_option maxRecDepth 20000 in
theorem B9_breaks_89 {ω : Om} {h : AH} {Q : Option Value → AH → Prop} {x0 : Nat} {u1 : Option Value} {u2 : Option Value} {u3 : Option Value} (hw : ω.2.2.2.1 = true) (s_x0 : gs h x0 = some (9, 17)) (i1 : vp_in ((gi h x0 9) + (nI 6)) 596) (kt : (gi h (gr h x0 0) (Int32.toNatClampNeg ((gi h x0 9) + (nI 6)))) ≤ (gi h (gr h x0 0) 5) → Ex ω M9_breaks 114 [some (.ref x0), none, none, none] [] h 0 0 Q) (kf : ¬ (gi h (gr h x0 0) (Int32.toNatClampNeg ((gi h x0 9) + (nI 6)))) ≤ (gi h (gr h x0 0) 5) → Ex ω M9_breaks 110 [some (.ref x0), none, none, none] [] h 0 0 Q) : Ex ω M9_breaks 89 [some (.ref x0), u1, u2, u3] [] h 0 0 Q := by
  refine x_dr1 ?_
  refine x_dr2 ?_
  refine x_dr3 ?_
  refine x_aload0 90 dX9_breaks_89 rfl ?_
  refine x_getR cf9 0 93 hw dX9_breaks_90 rfl wd99 (fun _ => s_x0) (by decide) (by decide) rfl ?_
  refine x_aload0 94 dX9_breaks_93 rfl ?_
  refine x_getI cf9 9 97 dX9_breaks_94 rfl wd706 (fun _ => s_x0) (by decide) rfl ?_
  refine x_bipush (nI 6) 99 dX9_breaks_97 rfl rfl ?_
  refine x_iadd 100 dX9_breaks_99 rfl ?_
  refine x_iald (Int32.toNatClampNeg ((gi h x0 9) + (nI 6))) 101 dX9_breaks_100 rfl (SH.fld hw (fun _ => s_x0) 0 (Nat.le_of_ble_eq_true rfl) rfl rfl) i1 rfl ?_
  refine x_aload0 102 dX9_breaks_101 rfl ?_
  refine x_getR cf9 0 105 hw dX9_breaks_102 rfl wd99 (fun _ => s_x0) (by decide) (by decide) rfl ?_
  refine x_iconst (nI 5) 106 dX9_breaks_105 rfl rfl ?_
  refine x_iald 5 107 dX9_breaks_106 rfl (SH.fld hw (fun _ => s_x0) 0 (Nat.le_of_ble_eq_true rfl) rfl rfl) (vp_c (by decide)) rfl ?_
  exact x_icmp_le 110 114 dX9_breaks_107 rfl (by decide) kt kf
set_option maxRecDepth 20000 in
theorem B9_breaks_110 {ω : Om} {h : AH} {Q : Option Value → AH → Prop} {u0 : Option Value} {u1 : Option Value} {u2 : Option Value} {u3 : Option Value} (hw : ω.2.2.2.1 = true) (kt : Ex ω M9_breaks 115 [none, none, none, none] [.int (nI 1)] h 0 0 Q) : Ex ω M9_breaks 110 [u0, u1, u2, u3] [] h 0 0 Q := by
  refine x_dr0 ?_
  refine x_dr1 ?_
  refine x_dr2 ?_
  refine x_dr3 ?_
  refine x_iconst (nI 1) 111 dX9_breaks_110 rfl rfl ?_
  exact x_goto 115 dX9_breaks_111 (by decide) kt
set_option maxRecDepth 20000 in
theorem B9_breaks_114 {ω : Om} {h : AH} {Q : Option Value → AH → Prop} {u0 : Option Value} {u1 : Option Value} {u2 : Option Value} {u3 : Option Value} (hw : ω.2.2.2.1 = true) (kf : Ex ω M9_breaks 115 [none, none, none, none] [.int (nI 0)] h 0 0 Q) : Ex ω M9_breaks 114 [u0, u1, u2, u3] [] h 0 0 Q := by
  refine x_dr0 ?_
  refine x_dr1 ?_
  refine x_dr2 ?_
  refine x_dr3 ?_
  refine x_iconst (nI 0) 115 dX9_breaks_114 rfl rfl ?_
  exact kf
set_option maxRecDepth 20000 in
theorem B9_breaks_115 {ω : Om} {h : AH} {Q : Option Value → AH → Prop} {u0 : Option Value} {u1 : Option Value} {u2 : Option Value} {u3 : Option Value} {y0 : Int32} (hw : ω.2.2.2.1 = true) (hz : narrow .boolean (.int y0) = .int y0) (hq : Q (some (.int y0)) h) : Ex ω M9_breaks 115 [u0, u1, u2, u3] [.int y0] h 0 0 Q := by
  refine x_dr0 ?_
  refine x_dr1 ?_
  refine x_dr2 ?_
  refine x_dr3 ?_
  exact x_zret dX9_breaks_115 rfl hz (Nat.zero_le _) (Nat.zero_le _) hq
set_option maxRecDepth 20000 in
theorem B9_lays_0 {ω : Om} {h : AH} {Q : Option Value → AH → Prop} {x0 : Nat} {x1 : Int32} {x2 : Int32} {u3 : Option Value} (hw : ω.2.2.2.1 = true) (s_x0 : gs h x0 = some (9, 17)) (kf : Ex ω M9_lays 22 [some (.ref x0), some (.int x1), some (.int x2), none] [] (si (si h (gr h x0 0) 22 ((gi h (gr h x0 0) 22) + x2)) (gr h x0 0) 8 ((gi (si h (gr h x0 0) 22 ((gi h (gr h x0 0) 22) + x2)) (gr h x0 0) 8) + x2)) 0 0 Q) : Ex ω M9_lays 0 [some (.ref x0), some (.int x1), some (.int x2), u3] [] h 0 0 Q := by
  refine x_dr3 ?_
  refine x_aload0 1 dX9_lays_0 rfl ?_
  refine x_getR cf9 0 4 hw dX9_lays_1 rfl wd99 (fun _ => s_x0) (by decide) (by decide) rfl ?_
  refine x_bipush (nI 22) 6 dX9_lays_4 rfl rfl ?_
  refine x_dup2 7 dX9_lays_6 rfl rfl rfl ?_
  refine x_iald 22 8 dX9_lays_7 rfl (SH.fld hw (fun _ => s_x0) 0 (Nat.le_of_ble_eq_true rfl) rfl rfl) (vp_c (by decide)) rfl ?_
  refine x_iload2 9 dX9_lays_8 rfl ?_
  refine x_iadd 10 dX9_lays_9 rfl ?_
  refine x_iast 22 11 dX9_lays_10 rfl (SH.fld hw (fun _ => s_x0) 0 (Nat.le_of_ble_eq_true rfl) rfl rfl) (vp_c (by decide)) rfl ?_
  refine x_aload0 12 dX9_lays_11 rfl ?_
  refine x_getR cf9 0 15 hw dX9_lays_12 rfl wd99 (fun _ => s_x0) (by decide) (by decide) rfl ?_
  refine x_bipush (nI 8) 17 dX9_lays_15 rfl rfl ?_
  refine x_dup2 18 dX9_lays_17 rfl rfl rfl ?_
  refine x_iald 8 19 dX9_lays_18 rfl (SH.fld hw (fun _ => s_x0) 0 (Nat.le_of_ble_eq_true rfl) rfl rfl) (vp_c (by decide)) rfl ?_
  refine x_iload2 20 dX9_lays_19 rfl ?_
  refine x_iadd 21 dX9_lays_20 rfl ?_
  refine x_iast 8 22 dX9_lays_21 rfl (SH.fld hw (fun _ => s_x0) 0 (Nat.le_of_ble_eq_true rfl) rfl rfl) (vp_c (by decide)) rfl ?_
  exact kf
set_option maxRecDepth 20000 in
theorem B9_lays_22 {ω : Om} {h : AH} {Q : Option Value → AH → Prop} {x0 : Nat} {x1 : Int32} {x2 : Int32} {u3 : Option Value} (hw : ω.2.2.2.1 = true) (s_x0 : gs h x0 = some (9, 17)) (kf : Ex ω M9_lays 44 [some (.ref x0), some (.int x1), some (.int x2), none] [] (si (si h (gr h x0 0) 9 ((gi h (gr h x0 0) 9) + x2)) (gr h x0 0) 15 ((gi (si h (gr h x0 0) 9 ((gi h (gr h x0 0) 9) + x2)) (gr h x0 0) 15) + (nI 1))) 0 0 Q) : Ex ω M9_lays 22 [some (.ref x0), some (.int x1), some (.int x2), u3] [] h 0 0 Q := by
  refine x_dr3 ?_
  refine x_aload0 23 dX9_lays_22 rfl ?_
  refine x_getR cf9 0 26 hw dX9_lays_23 rfl wd99 (fun _ => s_x0) (by decide) (by decide) rfl ?_
  refine x_bipush (nI 9) 28 dX9_lays_26 rfl rfl ?_
  refine x_dup2 29 dX9_lays_28 rfl rfl rfl ?_
  refine x_iald 9 30 dX9_lays_29 rfl (SH.fld hw (fun _ => s_x0) 0 (Nat.le_of_ble_eq_true rfl) rfl rfl) (vp_c (by decide)) rfl ?_
  refine x_iload2 31 dX9_lays_30 rfl ?_
  refine x_iadd 32 dX9_lays_31 rfl ?_
  refine x_iast 9 33 dX9_lays_32 rfl (SH.fld hw (fun _ => s_x0) 0 (Nat.le_of_ble_eq_true rfl) rfl rfl) (vp_c (by decide)) rfl ?_
  refine x_aload0 34 dX9_lays_33 rfl ?_
  refine x_getR cf9 0 37 hw dX9_lays_34 rfl wd99 (fun _ => s_x0) (by decide) (by decide) rfl ?_
  refine x_bipush (nI 15) 39 dX9_lays_37 rfl rfl ?_
  refine x_dup2 40 dX9_lays_39 rfl rfl rfl ?_
  refine x_iald 15 41 dX9_lays_40 rfl (SH.fld hw (fun _ => s_x0) 0 (Nat.le_of_ble_eq_true rfl) rfl rfl) (vp_c (by decide)) rfl ?_
  refine x_iconst (nI 1) 42 dX9_lays_41 rfl rfl ?_
  refine x_iadd 43 dX9_lays_42 rfl ?_
  refine x_iast 15 44 dX9_lays_43 rfl (SH.fld hw (fun _ => s_x0) 0 (Nat.le_of_ble_eq_true rfl) rfl rfl) (vp_c (by decide)) rfl ?_
  exact kf
set_option maxRecDepth 20000 in
theorem B9_lays_44 {ω : Om} {h : AH} {Q : Option Value → AH → Prop} {x0 : Nat} {x1 : Int32} {x2 : Int32} {u3 : Option Value} (hw : ω.2.2.2.1 = true) (s_x0 : gs h x0 = some (9, 17)) (i1 : vp_in ((gi h x0 9) + (nI 2)) 596) (i2 : vp_in ((gi h x0 9) + (nI 2)) 596) (kf : Ex ω M9_lays 59 [some (.ref x0), some (.int x1), some (.int x2), none] [] (si h (gr h x0 0) (Int32.toNatClampNeg ((gi h x0 9) + (nI 2))) ((gi h (gr h x0 0) (Int32.toNatClampNeg ((gi h x0 9) + (nI 2)))) + (nI 1))) 0 0 Q) : Ex ω M9_lays 44 [some (.ref x0), some (.int x1), some (.int x2), u3] [] h 0 0 Q := by
  refine x_dr3 ?_
  refine x_aload0 45 dX9_lays_44 rfl ?_
  refine x_getR cf9 0 48 hw dX9_lays_45 rfl wd99 (fun _ => s_x0) (by decide) (by decide) rfl ?_
  refine x_aload0 49 dX9_lays_48 rfl ?_
  refine x_getI cf9 9 52 dX9_lays_49 rfl wd706 (fun _ => s_x0) (by decide) rfl ?_
  refine x_iconst (nI 2) 53 dX9_lays_52 rfl rfl ?_
  refine x_iadd 54 dX9_lays_53 rfl ?_
  refine x_dup2 55 dX9_lays_54 rfl rfl rfl ?_
  refine x_iald (Int32.toNatClampNeg ((gi h x0 9) + (nI 2))) 56 dX9_lays_55 rfl (SH.fld hw (fun _ => s_x0) 0 (Nat.le_of_ble_eq_true rfl) rfl rfl) i1 rfl ?_
  refine x_iconst (nI 1) 57 dX9_lays_56 rfl rfl ?_
  refine x_iadd 58 dX9_lays_57 rfl ?_
  refine x_iast (Int32.toNatClampNeg ((gi h x0 9) + (nI 2))) 59 dX9_lays_58 rfl (SH.fld hw (fun _ => s_x0) 0 (Nat.le_of_ble_eq_true rfl) rfl rfl) i2 rfl ?_
  exact kf
set_option maxRecDepth 20000 in
theorem B9_lays_59 {ω : Om} {h : AH} {Q : Option Value → AH → Prop} {x0 : Nat} {x1 : Int32} {x2 : Int32} {u3 : Option Value} (hw : ω.2.2.2.1 = true) (s_x0 : gs h x0 = some (9, 17)) (i1 : vp_in ((gi h x0 9) + (nI 4)) 596) (i2 : vp_in ((gi h x0 9) + (nI 4)) 596) (kf : Ex ω M9_lays 74 [some (.ref x0), some (.int x1), some (.int x2), none] [] (si h (gr h x0 0) (Int32.toNatClampNeg ((gi h x0 9) + (nI 4))) ((gi h (gr h x0 0) (Int32.toNatClampNeg ((gi h x0 9) + (nI 4)))) + x2)) 0 0 Q) : Ex ω M9_lays 59 [some (.ref x0), some (.int x1), some (.int x2), u3] [] h 0 0 Q := by
  refine x_dr3 ?_
  refine x_aload0 60 dX9_lays_59 rfl ?_
  refine x_getR cf9 0 63 hw dX9_lays_60 rfl wd99 (fun _ => s_x0) (by decide) (by decide) rfl ?_
  refine x_aload0 64 dX9_lays_63 rfl ?_
  refine x_getI cf9 9 67 dX9_lays_64 rfl wd706 (fun _ => s_x0) (by decide) rfl ?_
  refine x_iconst (nI 4) 68 dX9_lays_67 rfl rfl ?_
  refine x_iadd 69 dX9_lays_68 rfl ?_
  refine x_dup2 70 dX9_lays_69 rfl rfl rfl ?_
  refine x_iald (Int32.toNatClampNeg ((gi h x0 9) + (nI 4))) 71 dX9_lays_70 rfl (SH.fld hw (fun _ => s_x0) 0 (Nat.le_of_ble_eq_true rfl) rfl rfl) i1 rfl ?_
  refine x_iload2 72 dX9_lays_71 rfl ?_
  refine x_iadd 73 dX9_lays_72 rfl ?_
  refine x_iast (Int32.toNatClampNeg ((gi h x0 9) + (nI 4))) 74 dX9_lays_73 rfl (SH.fld hw (fun _ => s_x0) 0 (Nat.le_of_ble_eq_true rfl) rfl rfl) i2 rfl ?_
  exact kf
set_option maxRecDepth 20000 in
theorem B9_lays_74 {ω : Om} {h : AH} {Q : Option Value → AH → Prop} {x0 : Nat} {x1 : Int32} {x2 : Int32} {u3 : Option Value} (hw : ω.2.2.2.1 = true) (s_x0 : gs h x0 = some (9, 17)) (i1 : vp_in ((gi h x0 9) + (nI 11)) 596) (kk : Ex ω M9_rollAt 0 [some (.ref x0), some (.int (nI 0)), some (.int (nI 1))] [] h 0 0 (fun v h' => Ex ω M9_lays 94 [some (.ref x0), some (.int x1), some (.int x2), none] (v.toList ++ [.int x2, .int (gi h (gr h x0 0) (Int32.toNatClampNeg ((gi h x0 9) + (nI 11)))), .int ((gi h x0 9) + (nI 11)), .ref (gr h x0 0)]) h' 0 0 Q)) : Ex ω M9_lays 74 [some (.ref x0), some (.int x1), some (.int x2), u3] [] h 0 0 Q := by
  refine x_dr3 ?_
  refine x_aload0 75 dX9_lays_74 rfl ?_
  refine x_getR cf9 0 78 hw dX9_lays_75 rfl wd99 (fun _ => s_x0) (by decide) (by decide) rfl ?_
  refine x_aload0 79 dX9_lays_78 rfl ?_
  refine x_getI cf9 9 82 dX9_lays_79 rfl wd706 (fun _ => s_x0) (by decide) rfl ?_
  refine x_bipush (nI 11) 84 dX9_lays_82 rfl rfl ?_
  refine x_iadd 85 dX9_lays_84 rfl ?_
  refine x_dup2 86 dX9_lays_85 rfl rfl rfl ?_
  refine x_iald (Int32.toNatClampNeg ((gi h x0 9) + (nI 11))) 87 dX9_lays_86 rfl (SH.fld hw (fun _ => s_x0) 0 (Nat.le_of_ble_eq_true rfl) rfl rfl) i1 rfl ?_
  refine x_iload2 88 dX9_lays_87 rfl ?_
  refine x_aload0 89 dX9_lays_88 rfl ?_
  refine x_iconst (nI 0) 90 dX9_lays_89 rfl rfl ?_
  refine x_iconst (nI 1) 91 dX9_lays_90 rfl rfl ?_
  exact x_callV 94 x0 [.int (nI 0), .int (nI 1)] [.int x2, .int (gi h (gr h x0 0) (Int32.toNatClampNeg ((gi h x0 9) + (nI 11)))), .int ((gi h x0 9) + (nI 11)), .ref (gr h x0 0)] dX9_lays_91 rfl lk_9_rollAt ⟨wd233, wd234, wd235⟩ ⟨by decide, by decide⟩ (recvO cf9 (fun _ => s_x0)) rfl rfl (Nat.le_of_ble_eq_true rfl) (Nat.le_of_ble_eq_true rfl) (by decide) (by decide) kk
set_option maxRecDepth 20000 in
theorem B9_lays_94 {ω : Om} {h : AH} {Q : Option Value → AH → Prop} {x0 : Nat} {x1 : Int32} {u2 : Option Value} {u3 : Option Value} {y0 : Nat} {y1 : Int32} {y2 : Int32} {y3 : Int32} {y4 : Int32} {ny0 : Nat} (hw : ω.2.2.2.1 = true) (s_y0 : gs h y0 = some (10, ny0)) (s_x0 : gs h x0 = some (9, 17)) (i1 : vp_in y1 ny0) (kk : Ex ω M9_up 0 [some (.int (gi (si h y0 (Int32.toNatClampNeg y1) (y2 + (y3 * y4))) x0 10)), some (.int (nI 40))] [] (si h y0 (Int32.toNatClampNeg y1) (y2 + (y3 * y4))) 0 0 (fun v h' => Ex ω M9_lays 107 [some (.ref x0), some (.int x1), none, none] (v.toList ++ [.ref x0]) h' 0 0 Q)) : Ex ω M9_lays 94 [some (.ref x0), some (.int x1), u2, u3] [.int y4, .int y3, .int y2, .int y1, .ref y0] h 0 0 Q := by
  refine x_dr2 ?_
  refine x_dr3 ?_
  refine x_imul 95 dX9_lays_94 rfl ?_
  refine x_iadd 96 dX9_lays_95 rfl ?_
  refine x_iast (Int32.toNatClampNeg y1) 97 dX9_lays_96 rfl (fun _ => s_y0) i1 rfl ?_
  refine x_aload0 98 dX9_lays_97 rfl ?_
  refine x_aload0 99 dX9_lays_98 rfl ?_
  refine x_getI cf9 10 102 dX9_lays_99 rfl wd713 (fun _ => s_x0) (by decide) rfl ?_
  refine x_bipush (nI 40) 104 dX9_lays_102 rfl rfl ?_
  exact x_callS 107 [.int (gi (si h y0 (Int32.toNatClampNeg y1) (y2 + (y3 * y4))) x0 10), .int (nI 40)] [.ref x0] dX9_lays_104 rfl lk_9_up ⟨wd719, wd720⟩ ⟨by decide, by decide⟩ rfl rfl (Nat.le_of_ble_eq_true rfl) (Nat.le_of_ble_eq_true rfl) (by decide) (by decide) kk
set_option maxRecDepth 20000 in
theorem B9_lays_107 {ω : Om} {h : AH} {Q : Option Value → AH → Prop} {x0 : Nat} {x1 : Int32} {u2 : Option Value} {u3 : Option Value} {y0 : Nat} {y1 : Int32} (hw : ω.2.2.2.1 = true) (s_y0 : gs h y0 = some (9, 17)) (kk : Ex ω M9_lasts 0 [some (.ref y0), some (.int y1)] [] h 0 0 (fun v h' => Ex ω M9_lays 110 [some (.ref x0), some (.int x1), none, none] (v.toList ++ []) h' 0 0 Q)) : Ex ω M9_lays 107 [some (.ref x0), some (.int x1), u2, u3] [.int y1, .ref y0] h 0 0 Q := by
  refine x_dr2 ?_
  refine x_dr3 ?_
  exact x_callV 110 y0 [.int y1] [] dX9_lays_107 rfl lk_9_lasts ⟨wd749, wd750, wd751⟩ ⟨by decide, by decide⟩ (recvO cf9 (fun _ => s_y0)) rfl rfl (Nat.le_of_ble_eq_true rfl) (Nat.le_of_ble_eq_true rfl) (by decide) (by decide) kk
set_option maxRecDepth 20000 in
theorem B9_lays_110 {ω : Om} {h : AH} {Q : Option Value → AH → Prop} {x0 : Nat} {x1 : Int32} {u2 : Option Value} {u3 : Option Value} (hw : ω.2.2.2.1 = true) (kf : Ex ω M9_lays 112 [some (.ref x0), some (.int x1), none, some (.int (nI 0))] [] h 0 0 Q) : Ex ω M9_lays 110 [some (.ref x0), some (.int x1), u2, u3] [] h 0 0 Q := by
  refine x_dr2 ?_
  refine x_dr3 ?_
  refine x_iconst (nI 0) 111 dX9_lays_110 rfl rfl ?_
  refine x_istore3 112 dX9_lays_111 rfl (by decide) rfl ?_
  exact kf
set_option maxRecDepth 20000 in
theorem B9_lays_112 {ω : Om} {h : AH} {Q : Option Value → AH → Prop} {x0 : Nat} {x1 : Int32} {u2 : Option Value} {x3 : Int32} (hw : ω.2.2.2.1 = true) (s_x0 : gs h x0 = some (9, 17)) (kt : (gi h x0 12) ≤ x3 → Ex ω M9_lays 177 [some (.ref x0), some (.int x1), none, some (.int x3)] [] h 0 0 Q) (kf : ¬ (gi h x0 12) ≤ x3 → Ex ω M9_lays 120 [some (.ref x0), some (.int x1), none, some (.int x3)] [] h 0 0 Q) : Ex ω M9_lays 112 [some (.ref x0), some (.int x1), u2, some (.int x3)] [] h 0 0 Q := by
  refine x_dr2 ?_
  refine x_iload3 113 dX9_lays_112 rfl ?_
  refine x_aload0 114 dX9_lays_113 rfl ?_
  refine x_getI cf9 12 117 dX9_lays_114 rfl wd707 (fun _ => s_x0) (by decide) rfl ?_
  exact x_icmp_ge 120 177 dX9_lays_117 rfl (by decide) kt kf
set_option maxRecDepth 20000 in
theorem B9_lays_120 {ω : Om} {h : AH} {Q : Option Value → AH → Prop} {x0 : Nat} {x1 : Int32} {u2 : Option Value} {x3 : Int32} (hw : ω.2.2.2.1 = true) (s_x0 : gs h x0 = some (9, 17)) (kk : Ex ω M9_covers 0 [some (.ref x0), some (.int (gi h x0 14)), some (.int x3)] [] h 0 0 (fun v h' => Ex ω M9_lays 129 [some (.ref x0), some (.int x1), none, some (.int x3)] (v.toList ++ []) h' 0 0 Q)) : Ex ω M9_lays 120 [some (.ref x0), some (.int x1), u2, some (.int x3)] [] h 0 0 Q := by
  refine x_dr2 ?_
  refine x_aload0 121 dX9_lays_120 rfl ?_
  refine x_aload0 122 dX9_lays_121 rfl ?_
  refine x_getI cf9 14 125 dX9_lays_122 rfl wd716 (fun _ => s_x0) (by decide) rfl ?_
  refine x_iload3 126 dX9_lays_125 rfl ?_
  exact x_callV 129 x0 [.int (gi h x0 14), .int x3] [] dX9_lays_126 rfl lk_9_covers ⟨wd734, wd735, wd736⟩ ⟨by decide, by decide⟩ (recvO cf9 (fun _ => s_x0)) rfl rfl (Nat.le_of_ble_eq_true rfl) (Nat.le_of_ble_eq_true rfl) (by decide) (by decide) kk
set_option maxRecDepth 20000 in
theorem B9_lays_129 {ω : Om} {h : AH} {Q : Option Value → AH → Prop} {x0 : Nat} {x1 : Int32} {u2 : Option Value} {x3 : Int32} {y0 : Int32} (hw : ω.2.2.2.1 = true) (kt : y0 = 0 → Ex ω M9_lays 171 [some (.ref x0), some (.int x1), none, some (.int x3)] [] h 0 0 Q) (kf : ¬ y0 = 0 → Ex ω M9_lays 132 [some (.ref x0), some (.int x1), none, some (.int x3)] [] h 0 0 Q) : Ex ω M9_lays 129 [some (.ref x0), some (.int x1), u2, some (.int x3)] [.int y0] h 0 0 Q := by
  refine x_dr2 ?_
  exact x_if_eq 132 171 dX9_lays_129 rfl (by decide) kt kf
set_option maxRecDepth 20000 in
theorem B9_lays_132 {ω : Om} {h : AH} {Q : Option Value → AH → Prop} {x0 : Nat} {x1 : Int32} {u2 : Option Value} {x3 : Int32} (hw : ω.2.2.2.1 = true) (s_x0 : gs h x0 = some (9, 17)) (i1 : vp_in (((gi h x0 9) + (nI 13)) + x3) 596) (i2 : vp_in (((gi h x0 9) + (nI 13)) + x3) 596) (kf : Ex ω M9_lays 150 [some (.ref x0), some (.int x1), none, some (.int x3)] [] (si h (gr h x0 0) (Int32.toNatClampNeg (((gi h x0 9) + (nI 13)) + x3)) ((gi h (gr h x0 0) (Int32.toNatClampNeg (((gi h x0 9) + (nI 13)) + x3))) + (nI 1))) 0 0 Q) : Ex ω M9_lays 132 [some (.ref x0), some (.int x1), u2, some (.int x3)] [] h 0 0 Q := by
  refine x_dr2 ?_
  refine x_aload0 133 dX9_lays_132 rfl ?_
  refine x_getR cf9 0 136 hw dX9_lays_133 rfl wd99 (fun _ => s_x0) (by decide) (by decide) rfl ?_
  refine x_aload0 137 dX9_lays_136 rfl ?_
  refine x_getI cf9 9 140 dX9_lays_137 rfl wd706 (fun _ => s_x0) (by decide) rfl ?_
  refine x_bipush (nI 13) 142 dX9_lays_140 rfl rfl ?_
  refine x_iadd 143 dX9_lays_142 rfl ?_
  refine x_iload3 144 dX9_lays_143 rfl ?_
  refine x_iadd 145 dX9_lays_144 rfl ?_
  refine x_dup2 146 dX9_lays_145 rfl rfl rfl ?_
  refine x_iald (Int32.toNatClampNeg (((gi h x0 9) + (nI 13)) + x3)) 147 dX9_lays_146 rfl (SH.fld hw (fun _ => s_x0) 0 (Nat.le_of_ble_eq_true rfl) rfl rfl) i1 rfl ?_
  refine x_iconst (nI 1) 148 dX9_lays_147 rfl rfl ?_
  refine x_iadd 149 dX9_lays_148 rfl ?_
  refine x_iast (Int32.toNatClampNeg (((gi h x0 9) + (nI 13)) + x3)) 150 dX9_lays_149 rfl (SH.fld hw (fun _ => s_x0) 0 (Nat.le_of_ble_eq_true rfl) rfl rfl) i2 rfl ?_
  exact kf
set_option maxRecDepth 20000 in
theorem B9_lays_150 {ω : Om} {h : AH} {Q : Option Value → AH → Prop} {x0 : Nat} {x1 : Int32} {u2 : Option Value} {x3 : Int32} (hw : ω.2.2.2.1 = true) (s_x0 : gs h x0 = some (9, 17)) (i1 : vp_in (((gi h x0 9) + (nI 38)) + x3) 596) (kk : Ex ω M9_forceOf 0 [some (.int x1)] [] h 0 0 (fun v h' => Ex ω M9_lays 169 [some (.ref x0), some (.int x1), none, some (.int x3)] (v.toList ++ [.int (gi h (gr h x0 0) (Int32.toNatClampNeg (((gi h x0 9) + (nI 38)) + x3))), .int (((gi h x0 9) + (nI 38)) + x3), .ref (gr h x0 0)]) h' 0 0 Q)) : Ex ω M9_lays 150 [some (.ref x0), some (.int x1), u2, some (.int x3)] [] h 0 0 Q := by
  refine x_dr2 ?_
  refine x_aload0 151 dX9_lays_150 rfl ?_
  refine x_getR cf9 0 154 hw dX9_lays_151 rfl wd99 (fun _ => s_x0) (by decide) (by decide) rfl ?_
  refine x_aload0 155 dX9_lays_154 rfl ?_
  refine x_getI cf9 9 158 dX9_lays_155 rfl wd706 (fun _ => s_x0) (by decide) rfl ?_
  refine x_bipush (nI 38) 160 dX9_lays_158 rfl rfl ?_
  refine x_iadd 161 dX9_lays_160 rfl ?_
  refine x_iload3 162 dX9_lays_161 rfl ?_
  refine x_iadd 163 dX9_lays_162 rfl ?_
  refine x_dup2 164 dX9_lays_163 rfl rfl rfl ?_
  refine x_iald (Int32.toNatClampNeg (((gi h x0 9) + (nI 38)) + x3)) 165 dX9_lays_164 rfl (SH.fld hw (fun _ => s_x0) 0 (Nat.le_of_ble_eq_true rfl) rfl rfl) i1 rfl ?_
  refine x_iload1 166 dX9_lays_165 rfl ?_
  exact x_callS 169 [.int x1] [.int (gi h (gr h x0 0) (Int32.toNatClampNeg (((gi h x0 9) + (nI 38)) + x3))), .int (((gi h x0 9) + (nI 38)) + x3), .ref (gr h x0 0)] dX9_lays_166 rfl lk_9_forceOf ⟨wd738, wd739⟩ ⟨by decide, by decide⟩ rfl rfl (Nat.le_of_ble_eq_true rfl) (Nat.le_of_ble_eq_true rfl) (by decide) (by decide) kk
set_option maxRecDepth 20000 in
theorem B9_lays_169 {ω : Om} {h : AH} {Q : Option Value → AH → Prop} {x0 : Nat} {x1 : Int32} {u2 : Option Value} {x3 : Int32} {y0 : Nat} {y1 : Int32} {y2 : Int32} {y3 : Int32} {ny0 : Nat} (hw : ω.2.2.2.1 = true) (s_y0 : gs h y0 = some (10, ny0)) (i1 : vp_in y1 ny0) (kf : Ex ω M9_lays 171 [some (.ref x0), some (.int x1), none, some (.int x3)] [] (si h y0 (Int32.toNatClampNeg y1) (y2 + y3)) 0 0 Q) : Ex ω M9_lays 169 [some (.ref x0), some (.int x1), u2, some (.int x3)] [.int y3, .int y2, .int y1, .ref y0] h 0 0 Q := by
  refine x_dr2 ?_
  refine x_iadd 170 dX9_lays_169 rfl ?_
  refine x_iast (Int32.toNatClampNeg y1) 171 dX9_lays_170 rfl (fun _ => s_y0) i1 rfl ?_
  exact kf
set_option maxRecDepth 20000 in
theorem B9_lays_171 {ω : Om} {h : AH} {Q : Option Value → AH → Prop} {x0 : Nat} {x1 : Int32} {u2 : Option Value} {x3 : Int32} (hw : ω.2.2.2.1 = true) (kt : Ex ω M9_lays 112 [some (.ref x0), some (.int x1), none, some (.int (x3 + (nI 1)))] [] h 0 0 Q) : Ex ω M9_lays 171 [some (.ref x0), some (.int x1), u2, some (.int x3)] [] h 0 0 Q := by
  refine x_dr2 ?_
  refine x_iinc3 (x3 + (nI 1)) 174 dX9_lays_171 rfl (by decide) rfl rfl ?_
  exact x_goto 112 dX9_lays_174 (by decide) kt
set_option maxRecDepth 20000 in
theorem B9_lays_177 {ω : Om} {h : AH} {Q : Option Value → AH → Prop} {u0 : Option Value} {u1 : Option Value} {u2 : Option Value} {u3 : Option Value} (hw : ω.2.2.2.1 = true) (hq : Q none h) : Ex ω M9_lays 177 [u0, u1, u2, u3] [] h 0 0 Q := by
  refine x_dr0 ?_
  refine x_dr1 ?_
  refine x_dr2 ?_
  refine x_dr3 ?_
  exact x_vret dX9_lays_177 rfl (Nat.zero_le _) (Nat.zero_le _) hq
set_option maxRecDepth 20000 in
theorem B9_turns_0 {ω : Om} {h : AH} {Q : Option Value → AH → Prop} {x0 : Nat} {u1 : Option Value} {u2 : Option Value} {u3 : Option Value} {u4 : Option Value} (hw : ω.2.2.2.1 = true) (s_x0 : gs h x0 = some (9, 17)) (kk : Ex ω M9_bearable 0 [some (.ref x0), none, none] [] h 0 0 (fun v h' => Ex ω M9_turns 4 [some (.ref x0), none, none, none, none] (v.toList ++ []) h' 0 0 Q)) : Ex ω M9_turns 0 [some (.ref x0), u1, u2, u3, u4] [] h 0 0 Q := by
  refine x_dr1 ?_
  refine x_dr2 ?_
  refine x_dr3 ?_
  refine x_dr4 ?_
  refine x_aload0 1 dX9_turns_0 rfl ?_
  exact x_callV 4 x0 [] [] dX9_turns_1 rfl lk_9_bearable ⟨wd730, wd731, wd732⟩ ⟨by decide, by decide⟩ (recvO cf9 (fun _ => s_x0)) rfl rfl (Nat.le_of_ble_eq_true rfl) (Nat.le_of_ble_eq_true rfl) (by decide) (by decide) kk
set_option maxRecDepth 20000 in
theorem B9_turns_4 {ω : Om} {h : AH} {Q : Option Value → AH → Prop} {x0 : Nat} {u1 : Option Value} {u2 : Option Value} {u3 : Option Value} {u4 : Option Value} {y0 : Int32} (hw : ω.2.2.2.1 = true) (kt : ¬ y0 = 0 → Ex ω M9_turns 44 [some (.ref x0), some (.int y0), none, none, none] [] h 0 0 Q) (kf : y0 = 0 → Ex ω M9_turns 9 [some (.ref x0), some (.int y0), none, none, none] [] h 0 0 Q) : Ex ω M9_turns 4 [some (.ref x0), u1, u2, u3, u4] [.int y0] h 0 0 Q := by
  refine x_dr1 ?_
  refine x_dr2 ?_
  refine x_dr3 ?_
  refine x_dr4 ?_
  refine x_istore1 5 dX9_turns_4 rfl (by decide) rfl ?_
  refine x_iload1 6 dX9_turns_5 rfl ?_
  exact x_if_ne 9 44 dX9_turns_6 rfl (by decide) kt kf
set_option maxRecDepth 20000 in
theorem B9_turns_9 {ω : Om} {h : AH} {Q : Option Value → AH → Prop} {x0 : Nat} {x1 : Int32} {u2 : Option Value} {u3 : Option Value} {u4 : Option Value} (hw : ω.2.2.2.1 = true) (s_x0 : gs h x0 = some (9, 17)) (kt : (gi h x0 15) ≤ 0 → Ex ω M9_turns 44 [some (.ref x0), some (.int x1), none, none, none] [] h 0 0 Q) (kf : ¬ (gi h x0 15) ≤ 0 → Ex ω M9_turns 16 [some (.ref x0), some (.int x1), none, none, none] [] h 0 0 Q) : Ex ω M9_turns 9 [some (.ref x0), some (.int x1), u2, u3, u4] [] h 0 0 Q := by
  refine x_dr2 ?_
  refine x_dr3 ?_
  refine x_dr4 ?_
  refine x_aload0 10 dX9_turns_9 rfl ?_
  refine x_getI cf9 15 13 dX9_turns_10 rfl wd717 (fun _ => s_x0) (by decide) rfl ?_
  exact x_if_le 16 44 dX9_turns_13 rfl (by decide) kt kf
set_option maxRecDepth 20000 in
theorem B9_turns_16 {ω : Om} {h : AH} {Q : Option Value → AH → Prop} {x0 : Nat} {u1 : Option Value} {u2 : Option Value} {u3 : Option Value} {u4 : Option Value} (hw : ω.2.2.2.1 = true) (s_x0 : gs h x0 = some (9, 17)) (i1 : vp_in ((gi (si h (gr h x0 0) 16 ((gi h (gr h x0 0) 16) + (nI 1))) x0 9) + (nI 3)) 596) (i2 : vp_in ((gi (si h (gr h x0 0) 16 ((gi h (gr h x0 0) 16) + (nI 1))) x0 9) + (nI 3)) 596) (kf : Ex ω M9_turns 42 [some (.ref x0), none, none, none, none] [] (si (si h (gr h x0 0) 16 ((gi h (gr h x0 0) 16) + (nI 1))) (gr h x0 0) (Int32.toNatClampNeg ((gi (si h (gr h x0 0) 16 ((gi h (gr h x0 0) 16) + (nI 1))) x0 9) + (nI 3))) ((gi (si h (gr h x0 0) 16 ((gi h (gr h x0 0) 16) + (nI 1))) (gr h x0 0) (Int32.toNatClampNeg ((gi (si h (gr h x0 0) 16 ((gi h (gr h x0 0) 16) + (nI 1))) x0 9) + (nI 3)))) + (nI 1))) 0 0 Q) : Ex ω M9_turns 16 [some (.ref x0), u1, u2, u3, u4] [] h 0 0 Q := by
  refine x_dr1 ?_
  refine x_dr2 ?_
  refine x_dr3 ?_
  refine x_dr4 ?_
  refine x_aload0 17 dX9_turns_16 rfl ?_
  refine x_getR cf9 0 20 hw dX9_turns_17 rfl wd99 (fun _ => s_x0) (by decide) (by decide) rfl ?_
  refine x_bipush (nI 16) 22 dX9_turns_20 rfl rfl ?_
  refine x_dup2 23 dX9_turns_22 rfl rfl rfl ?_
  refine x_iald 16 24 dX9_turns_23 rfl (SH.fld hw (fun _ => s_x0) 0 (Nat.le_of_ble_eq_true rfl) rfl rfl) (vp_c (by decide)) rfl ?_
  refine x_iconst (nI 1) 25 dX9_turns_24 rfl rfl ?_
  refine x_iadd 26 dX9_turns_25 rfl ?_
  refine x_iast 16 27 dX9_turns_26 rfl (SH.fld hw (fun _ => s_x0) 0 (Nat.le_of_ble_eq_true rfl) rfl rfl) (vp_c (by decide)) rfl ?_
  refine x_aload0 28 dX9_turns_27 rfl ?_
  refine x_getR cf9 0 31 hw dX9_turns_28 rfl wd99 (fun _ => s_x0) (by decide) (by decide) rfl ?_
  refine x_aload0 32 dX9_turns_31 rfl ?_
  refine x_getI cf9 9 35 dX9_turns_32 rfl wd706 (fun _ => s_x0) (by decide) rfl ?_
  refine x_iconst (nI 3) 36 dX9_turns_35 rfl rfl ?_
  refine x_iadd 37 dX9_turns_36 rfl ?_
  refine x_dup2 38 dX9_turns_37 rfl rfl rfl ?_
  refine x_iald (Int32.toNatClampNeg ((gi (si h (gr h x0 0) 16 ((gi h (gr h x0 0) 16) + (nI 1))) x0 9) + (nI 3))) 39 dX9_turns_38 rfl (SH.fld hw (fun _ => s_x0) 0 (Nat.le_of_ble_eq_true rfl) rfl rfl) i1 rfl ?_
  refine x_iconst (nI 1) 40 dX9_turns_39 rfl rfl ?_
  refine x_iadd 41 dX9_turns_40 rfl ?_
  refine x_iast (Int32.toNatClampNeg ((gi (si h (gr h x0 0) 16 ((gi h (gr h x0 0) 16) + (nI 1))) x0 9) + (nI 3))) 42 dX9_turns_41 rfl (SH.fld hw (fun _ => s_x0) 0 (Nat.le_of_ble_eq_true rfl) rfl rfl) i2 rfl ?_
  exact kf
set_option maxRecDepth 20000 in
theorem B9_turns_42 {ω : Om} {h : AH} {Q : Option Value → AH → Prop} {u0 : Option Value} {u1 : Option Value} {u2 : Option Value} {u3 : Option Value} {u4 : Option Value} (hw : ω.2.2.2.1 = true) (hq : Q (some (.int (nI 0))) h) : Ex ω M9_turns 42 [u0, u1, u2, u3, u4] [] h 0 0 Q := by
  refine x_dr0 ?_
  refine x_dr1 ?_
  refine x_dr2 ?_
  refine x_dr3 ?_
  refine x_dr4 ?_
  refine x_iconst (nI 0) 43 dX9_turns_42 rfl rfl ?_
  exact x_iret dX9_turns_43 rfl (Nat.zero_le _) (Nat.zero_le _) hq
set_option maxRecDepth 20000 in
theorem B9_turns_44 {ω : Om} {h : AH} {Q : Option Value → AH → Prop} {x0 : Nat} {x1 : Int32} {u2 : Option Value} {u3 : Option Value} {u4 : Option Value} (hw : ω.2.2.2.1 = true) (s_x0 : gs h x0 = some (9, 17)) (kk : Ex ω M9_up 0 [some (.int ((gi h x0 10) * (nI 100))), some (.int ((nI 100) + (gi h x0 16)))] [] h 0 0 (fun v h' => Ex ω M9_turns 61 [some (.ref x0), some (.int x1), none, none, none] (v.toList ++ []) h' 0 0 Q)) : Ex ω M9_turns 44 [some (.ref x0), some (.int x1), u2, u3, u4] [] h 0 0 Q := by
  refine x_dr2 ?_
  refine x_dr3 ?_
  refine x_dr4 ?_
  refine x_aload0 45 dX9_turns_44 rfl ?_
  refine x_getI cf9 10 48 dX9_turns_45 rfl wd713 (fun _ => s_x0) (by decide) rfl ?_
  refine x_bipush (nI 100) 50 dX9_turns_48 rfl rfl ?_
  refine x_imul 51 dX9_turns_50 rfl ?_
  refine x_bipush (nI 100) 53 dX9_turns_51 rfl rfl ?_
  refine x_aload0 54 dX9_turns_53 rfl ?_
  refine x_getI cf9 16 57 dX9_turns_54 rfl wd718 (fun _ => s_x0) (by decide) rfl ?_
  refine x_iadd 58 dX9_turns_57 rfl ?_
  exact x_callS 61 [.int ((gi h x0 10) * (nI 100)), .int ((nI 100) + (gi h x0 16))] [] dX9_turns_58 rfl lk_9_up ⟨wd719, wd720⟩ ⟨by decide, by decide⟩ rfl rfl (Nat.le_of_ble_eq_true rfl) (Nat.le_of_ble_eq_true rfl) (by decide) (by decide) kk
set_option maxRecDepth 20000 in
theorem B9_turns_61 {ω : Om} {h : AH} {Q : Option Value → AH → Prop} {x0 : Nat} {x1 : Int32} {u2 : Option Value} {u3 : Option Value} {u4 : Option Value} {y0 : Int32} (hw : ω.2.2.2.1 = true) (kf : Ex ω M9_turns 62 [some (.ref x0), some (.int x1), some (.int y0), none, none] [] h 0 0 Q) : Ex ω M9_turns 61 [some (.ref x0), some (.int x1), u2, u3, u4] [.int y0] h 0 0 Q := by
  refine x_dr2 ?_
  refine x_dr3 ?_
  refine x_dr4 ?_
  refine x_istore2 62 dX9_turns_61 rfl (by decide) rfl ?_
  exact kf
set_option maxRecDepth 20000 in
theorem B9_turns_62 {ω : Om} {h : AH} {Q : Option Value → AH → Prop} {x0 : Nat} {x1 : Int32} {x2 : Int32} {u3 : Option Value} {u4 : Option Value} (hw : ω.2.2.2.1 = true) (s_x0 : gs h x0 = some (9, 17)) (kt : (gi h (gr h x0 0) 0) ≤ 0 → Ex ω M9_turns 191 [some (.ref x0), some (.int x1), some (.int x2), none, none] [] h 0 0 Q) (kf : ¬ (gi h (gr h x0 0) 0) ≤ 0 → Ex ω M9_turns 71 [some (.ref x0), some (.int x1), some (.int x2), none, none] [] h 0 0 Q) : Ex ω M9_turns 62 [some (.ref x0), some (.int x1), some (.int x2), u3, u4] [] h 0 0 Q := by
  refine x_dr3 ?_
  refine x_dr4 ?_
  refine x_aload0 63 dX9_turns_62 rfl ?_
  refine x_getR cf9 0 66 hw dX9_turns_63 rfl wd99 (fun _ => s_x0) (by decide) (by decide) rfl ?_
  refine x_iconst (nI 0) 67 dX9_turns_66 rfl rfl ?_
  refine x_iald 0 68 dX9_turns_67 rfl (SH.fld hw (fun _ => s_x0) 0 (Nat.le_of_ble_eq_true rfl) rfl rfl) (vp_c (by decide)) rfl ?_
  exact x_if_le 71 191 dX9_turns_68 rfl (by decide) kt kf
set_option maxRecDepth 20000 in
theorem B9_turns_71 {ω : Om} {h : AH} {Q : Option Value → AH → Prop} {x0 : Nat} {x1 : Int32} {x2 : Int32} {u3 : Option Value} {u4 : Option Value} (hw : ω.2.2.2.1 = true) (s_x0 : gs h x0 = some (9, 17)) (kk : Ex ω M9_rollAt 0 [some (.ref x0), some (.int (nI 0)), some (.int (nI 0))] [] h 0 0 (fun v h' => Ex ω M9_turns 77 [some (.ref x0), some (.int x1), some (.int x2), none, none] (v.toList ++ []) h' 0 0 Q)) : Ex ω M9_turns 71 [some (.ref x0), some (.int x1), some (.int x2), u3, u4] [] h 0 0 Q := by
  refine x_dr3 ?_
  refine x_dr4 ?_
  refine x_aload0 72 dX9_turns_71 rfl ?_
  refine x_iconst (nI 0) 73 dX9_turns_72 rfl rfl ?_
  refine x_iconst (nI 0) 74 dX9_turns_73 rfl rfl ?_
  exact x_callV 77 x0 [.int (nI 0), .int (nI 0)] [] dX9_turns_74 rfl lk_9_rollAt ⟨wd233, wd234, wd235⟩ ⟨by decide, by decide⟩ (recvO cf9 (fun _ => s_x0)) rfl rfl (Nat.le_of_ble_eq_true rfl) (Nat.le_of_ble_eq_true rfl) (by decide) (by decide) kk
set_option maxRecDepth 20000 in
theorem B9_turns_77 {ω : Om} {h : AH} {Q : Option Value → AH → Prop} {x0 : Nat} {x1 : Int32} {x2 : Int32} {u3 : Option Value} {u4 : Option Value} {y0 : Int32} (hw : ω.2.2.2.1 = true) (s_x0 : gs h x0 = some (9, 17)) (kk : Ex ω M9_rollAt 0 [some (.ref x0), some (.int (nI 0)), some (.int (nI 2))] [] h 0 0 (fun v h' => Ex ω M9_turns 83 [some (.ref x0), some (.int x1), some (.int x2), none, none] (v.toList ++ [.int y0]) h' 0 0 Q)) : Ex ω M9_turns 77 [some (.ref x0), some (.int x1), some (.int x2), u3, u4] [.int y0] h 0 0 Q := by
  refine x_dr3 ?_
  refine x_dr4 ?_
  refine x_aload0 78 dX9_turns_77 rfl ?_
  refine x_iconst (nI 0) 79 dX9_turns_78 rfl rfl ?_
  refine x_iconst (nI 2) 80 dX9_turns_79 rfl rfl ?_
  exact x_callV 83 x0 [.int (nI 0), .int (nI 2)] [.int y0] dX9_turns_80 rfl lk_9_rollAt ⟨wd233, wd234, wd235⟩ ⟨by decide, by decide⟩ (recvO cf9 (fun _ => s_x0)) rfl rfl (Nat.le_of_ble_eq_true rfl) (Nat.le_of_ble_eq_true rfl) (by decide) (by decide) kk
set_option maxRecDepth 20000 in
theorem B9_turns_83 {ω : Om} {h : AH} {Q : Option Value → AH → Prop} {x0 : Nat} {x1 : Int32} {x2 : Int32} {u3 : Option Value} {u4 : Option Value} {y0 : Int32} {y1 : Int32} (hw : ω.2.2.2.1 = true) (s_x0 : gs h x0 = some (9, 17)) (kk : Ex ω M9_weakBehind 0 [some (.ref x0), some (.int (nI 0)), some (.int x1), none, none, none] [] h 0 0 (fun v h' => Ex ω M9_turns 91 [some (.ref x0), some (.int x1), some (.int x2), some (.int (y0 - y1)), none] (v.toList ++ []) h' 0 0 Q)) : Ex ω M9_turns 83 [some (.ref x0), some (.int x1), some (.int x2), u3, u4] [.int y1, .int y0] h 0 0 Q := by
  refine x_dr3 ?_
  refine x_dr4 ?_
  refine x_isub 84 dX9_turns_83 rfl ?_
  refine x_istore3 85 dX9_turns_84 rfl (by decide) rfl ?_
  refine x_aload0 86 dX9_turns_85 rfl ?_
  refine x_iconst (nI 0) 87 dX9_turns_86 rfl rfl ?_
  refine x_iload1 88 dX9_turns_87 rfl ?_
  exact x_callV 91 x0 [.int (nI 0), .int x1] [] dX9_turns_88 rfl lk_9_weakBehind ⟨wd254, wd255, wd256⟩ ⟨by decide, by decide⟩ (recvO cf9 (fun _ => s_x0)) rfl rfl (Nat.le_of_ble_eq_true rfl) (Nat.le_of_ble_eq_true rfl) (by decide) (by decide) kk
set_option maxRecDepth 20000 in
theorem B9_turns_91 {ω : Om} {h : AH} {Q : Option Value → AH → Prop} {x0 : Nat} {x1 : Int32} {x2 : Int32} {x3 : Int32} {u4 : Option Value} {y0 : Int32} (hw : ω.2.2.2.1 = true) (kt : x2 ≤ x3 → Ex ω M9_turns 144 [some (.ref x0), some (.int x1), some (.int x2), some (.int x3), some (.int y0)] [] h 0 0 Q) (kf : ¬ x2 ≤ x3 → Ex ω M9_turns 98 [some (.ref x0), some (.int x1), some (.int x2), some (.int x3), some (.int y0)] [] h 0 0 Q) : Ex ω M9_turns 91 [some (.ref x0), some (.int x1), some (.int x2), some (.int x3), u4] [.int y0] h 0 0 Q := by
  refine x_dr4 ?_
  refine x_istore4 93 dX9_turns_91 rfl (by decide) rfl ?_
  refine x_iload3 94 dX9_turns_93 rfl ?_
  refine x_iload2 95 dX9_turns_94 rfl ?_
  exact x_icmp_ge 98 144 dX9_turns_95 rfl (by decide) kt kf
set_option maxRecDepth 20000 in
theorem B9_turns_98 {ω : Om} {h : AH} {Q : Option Value → AH → Prop} {x0 : Nat} {x1 : Int32} {x2 : Int32} {x3 : Int32} {u4 : Option Value} (hw : ω.2.2.2.1 = true) (s_x0 : gs h x0 = some (9, 17)) (kk : Ex ω M9_wastes 0 [some (.ref x0), some (.int (nI 2)), some (.int x3)] [] h 0 0 (fun v h' => Ex ω M9_turns 104 [some (.ref x0), some (.int x1), some (.int x2), some (.int x3), none] (v.toList ++ []) h' 0 0 Q)) : Ex ω M9_turns 98 [some (.ref x0), some (.int x1), some (.int x2), some (.int x3), u4] [] h 0 0 Q := by
  refine x_dr4 ?_
  refine x_aload0 99 dX9_turns_98 rfl ?_
  refine x_iconst (nI 2) 100 dX9_turns_99 rfl rfl ?_
  refine x_iload3 101 dX9_turns_100 rfl ?_
  exact x_callV 104 x0 [.int (nI 2), .int x3] [] dX9_turns_101 rfl lk_9_wastes ⟨wd741, wd742, wd743⟩ ⟨by decide, by decide⟩ (recvO cf9 (fun _ => s_x0)) rfl rfl (Nat.le_of_ble_eq_true rfl) (Nat.le_of_ble_eq_true rfl) (by decide) (by decide) kk
set_option maxRecDepth 20000 in
theorem B9_turns_104 {ω : Om} {h : AH} {Q : Option Value → AH → Prop} {x0 : Nat} {x1 : Int32} {x2 : Int32} {u3 : Option Value} {u4 : Option Value} (hw : ω.2.2.2.1 = true) (s_x0 : gs h x0 = some (9, 17)) (kk : Ex ω M9_rollGoes 0 [some (.ref x0), none] [] h 0 0 (fun v h' => Ex ω M9_turns 108 [some (.ref x0), some (.int x1), some (.int x2), none, none] (v.toList ++ []) h' 0 0 Q)) : Ex ω M9_turns 104 [some (.ref x0), some (.int x1), some (.int x2), u3, u4] [] h 0 0 Q := by
  refine x_dr3 ?_
  refine x_dr4 ?_
  refine x_aload0 105 dX9_turns_104 rfl ?_
  exact x_callV 108 x0 [] [] dX9_turns_105 rfl lk_9_rollGoes ⟨wd745, wd746, wd747⟩ ⟨by decide, by decide⟩ (recvO cf9 (fun _ => s_x0)) rfl rfl (Nat.le_of_ble_eq_true rfl) (Nat.le_of_ble_eq_true rfl) (by decide) (by decide) kk
set_option maxRecDepth 20000 in
theorem B9_turns_108 {ω : Om} {h : AH} {Q : Option Value → AH → Prop} {x0 : Nat} {x1 : Int32} {x2 : Int32} {u3 : Option Value} {u4 : Option Value} (hw : ω.2.2.2.1 = true) (s_x0 : gs h x0 = some (9, 17)) (i1 : vp_in ((gi (si h (gr h x0 0) 14 ((gi h (gr h x0 0) 14) + (nI 1))) x0 9) + (nI 7)) 596) (i2 : vp_in ((gi (si h (gr h x0 0) 14 ((gi h (gr h x0 0) 14) + (nI 1))) x0 9) + (nI 7)) 596) (kf : Ex ω M9_turns 135 [some (.ref x0), some (.int x1), some (.int x2), none, none] [] (si (si h (gr h x0 0) 14 ((gi h (gr h x0 0) 14) + (nI 1))) (gr h x0 0) (Int32.toNatClampNeg ((gi (si h (gr h x0 0) 14 ((gi h (gr h x0 0) 14) + (nI 1))) x0 9) + (nI 7))) ((gi (si h (gr h x0 0) 14 ((gi h (gr h x0 0) 14) + (nI 1))) (gr h x0 0) (Int32.toNatClampNeg ((gi (si h (gr h x0 0) 14 ((gi h (gr h x0 0) 14) + (nI 1))) x0 9) + (nI 7)))) + (nI 1))) 0 0 Q) : Ex ω M9_turns 108 [some (.ref x0), some (.int x1), some (.int x2), u3, u4] [] h 0 0 Q := by
  refine x_dr3 ?_
  refine x_dr4 ?_
  refine x_aload0 109 dX9_turns_108 rfl ?_
  refine x_getR cf9 0 112 hw dX9_turns_109 rfl wd99 (fun _ => s_x0) (by decide) (by decide) rfl ?_
  refine x_bipush (nI 14) 114 dX9_turns_112 rfl rfl ?_
  refine x_dup2 115 dX9_turns_114 rfl rfl rfl ?_
  refine x_iald 14 116 dX9_turns_115 rfl (SH.fld hw (fun _ => s_x0) 0 (Nat.le_of_ble_eq_true rfl) rfl rfl) (vp_c (by decide)) rfl ?_
  refine x_iconst (nI 1) 117 dX9_turns_116 rfl rfl ?_
  refine x_iadd 118 dX9_turns_117 rfl ?_
  refine x_iast 14 119 dX9_turns_118 rfl (SH.fld hw (fun _ => s_x0) 0 (Nat.le_of_ble_eq_true rfl) rfl rfl) (vp_c (by decide)) rfl ?_
  refine x_aload0 120 dX9_turns_119 rfl ?_
  refine x_getR cf9 0 123 hw dX9_turns_120 rfl wd99 (fun _ => s_x0) (by decide) (by decide) rfl ?_
  refine x_aload0 124 dX9_turns_123 rfl ?_
  refine x_getI cf9 9 127 dX9_turns_124 rfl wd706 (fun _ => s_x0) (by decide) rfl ?_
  refine x_bipush (nI 7) 129 dX9_turns_127 rfl rfl ?_
  refine x_iadd 130 dX9_turns_129 rfl ?_
  refine x_dup2 131 dX9_turns_130 rfl rfl rfl ?_
  refine x_iald (Int32.toNatClampNeg ((gi (si h (gr h x0 0) 14 ((gi h (gr h x0 0) 14) + (nI 1))) x0 9) + (nI 7))) 132 dX9_turns_131 rfl (SH.fld hw (fun _ => s_x0) 0 (Nat.le_of_ble_eq_true rfl) rfl rfl) i1 rfl ?_
  refine x_iconst (nI 1) 133 dX9_turns_132 rfl rfl ?_
  refine x_iadd 134 dX9_turns_133 rfl ?_
  refine x_iast (Int32.toNatClampNeg ((gi (si h (gr h x0 0) 14 ((gi h (gr h x0 0) 14) + (nI 1))) x0 9) + (nI 7))) 135 dX9_turns_134 rfl (SH.fld hw (fun _ => s_x0) 0 (Nat.le_of_ble_eq_true rfl) rfl rfl) i2 rfl ?_
  exact kf
set_option maxRecDepth 20000 in
theorem B9_turns_135 {ω : Om} {h : AH} {Q : Option Value → AH → Prop} {x0 : Nat} {x1 : Int32} {x2 : Int32} {u3 : Option Value} {u4 : Option Value} (hw : ω.2.2.2.1 = true) (s_x0 : gs h x0 = some (9, 17)) (kk : Ex ω M9_lasts 0 [some (.ref x0), some (.int (nI 60))] [] h 0 0 (fun v h' => Ex ω M9_turns 141 [some (.ref x0), some (.int x1), some (.int x2), none, none] (v.toList ++ []) h' 0 0 Q)) : Ex ω M9_turns 135 [some (.ref x0), some (.int x1), some (.int x2), u3, u4] [] h 0 0 Q := by
  refine x_dr3 ?_
  refine x_dr4 ?_
  refine x_aload0 136 dX9_turns_135 rfl ?_
  refine x_bipush (nI 60) 138 dX9_turns_136 rfl rfl ?_
  exact x_callV 141 x0 [.int (nI 60)] [] dX9_turns_138 rfl lk_9_lasts ⟨wd749, wd750, wd751⟩ ⟨by decide, by decide⟩ (recvO cf9 (fun _ => s_x0)) rfl rfl (Nat.le_of_ble_eq_true rfl) (Nat.le_of_ble_eq_true rfl) (by decide) (by decide) kk
set_option maxRecDepth 20000 in
theorem B9_turns_141 {ω : Om} {h : AH} {Q : Option Value → AH → Prop} {x0 : Nat} {x1 : Int32} {x2 : Int32} {u3 : Option Value} {u4 : Option Value} (hw : ω.2.2.2.1 = true) (kt : Ex ω M9_turns 188 [some (.ref x0), some (.int x1), some (.int x2), none, none] [] h 0 0 Q) : Ex ω M9_turns 141 [some (.ref x0), some (.int x1), some (.int x2), u3, u4] [] h 0 0 Q := by
  refine x_dr3 ?_
  refine x_dr4 ?_
  exact x_goto 188 dX9_turns_141 (by decide) kt
set_option maxRecDepth 20000 in
theorem B9_turns_144 {ω : Om} {h : AH} {Q : Option Value → AH → Prop} {x0 : Nat} {x1 : Int32} {x2 : Int32} {u3 : Option Value} {x4 : Int32} (hw : ω.2.2.2.1 = true) (kt : x4 < 0 → Ex ω M9_turns 180 [some (.ref x0), some (.int x1), some (.int x2), none, some (.int x4)] [] h 0 0 Q) (kf : ¬ x4 < 0 → Ex ω M9_turns 149 [some (.ref x0), some (.int x1), some (.int x2), none, some (.int x4)] [] h 0 0 Q) : Ex ω M9_turns 144 [some (.ref x0), some (.int x1), some (.int x2), u3, some (.int x4)] [] h 0 0 Q := by
  refine x_dr3 ?_
  refine x_iload4 146 dX9_turns_144 rfl ?_
  exact x_if_lt 149 180 dX9_turns_146 rfl (by decide) kt kf
set_option maxRecDepth 20000 in
theorem B9_turns_149 {ω : Om} {h : AH} {Q : Option Value → AH → Prop} {x0 : Nat} {x1 : Int32} {x2 : Int32} {u3 : Option Value} {x4 : Int32} (hw : ω.2.2.2.1 = true) (s_x0 : gs h x0 = some (9, 17)) (kk : Ex ω M9_rollAt 0 [some (.ref x0), some (.int (nI 0)), some (.int ((nI 4) + x4))] [] h 0 0 (fun v h' => Ex ω M9_turns 158 [some (.ref x0), some (.int x1), some (.int x2), none, some (.int x4)] (v.toList ++ []) h' 0 0 Q)) : Ex ω M9_turns 149 [some (.ref x0), some (.int x1), some (.int x2), u3, some (.int x4)] [] h 0 0 Q := by
  refine x_dr3 ?_
  refine x_aload0 150 dX9_turns_149 rfl ?_
  refine x_iconst (nI 0) 151 dX9_turns_150 rfl rfl ?_
  refine x_iconst (nI 4) 152 dX9_turns_151 rfl rfl ?_
  refine x_iload4 154 dX9_turns_152 rfl ?_
  refine x_iadd 155 dX9_turns_154 rfl ?_
  exact x_callV 158 x0 [.int (nI 0), .int ((nI 4) + x4)] [] dX9_turns_155 rfl lk_9_rollAt ⟨wd233, wd234, wd235⟩ ⟨by decide, by decide⟩ (recvO cf9 (fun _ => s_x0)) rfl rfl (Nat.le_of_ble_eq_true rfl) (Nat.le_of_ble_eq_true rfl) (by decide) (by decide) kk
set_option maxRecDepth 20000 in
theorem B9_turns_158 {ω : Om} {h : AH} {Q : Option Value → AH → Prop} {x0 : Nat} {x1 : Int32} {x2 : Int32} {u3 : Option Value} {x4 : Int32} {y0 : Int32} (hw : ω.2.2.2.1 = true) (s_x0 : gs h x0 = some (9, 17)) (kk : Ex ω M9_rollAt 0 [some (.ref x0), some (.int (nI 0)), some (.int (nI 2))] [] h 0 0 (fun v h' => Ex ω M9_turns 164 [some (.ref x0), some (.int x1), some (.int x2), none, some (.int x4)] (v.toList ++ [.int y0]) h' 0 0 Q)) : Ex ω M9_turns 158 [some (.ref x0), some (.int x1), some (.int x2), u3, some (.int x4)] [.int y0] h 0 0 Q := by
  refine x_dr3 ?_
  refine x_aload0 159 dX9_turns_158 rfl ?_
  refine x_iconst (nI 0) 160 dX9_turns_159 rfl rfl ?_
  refine x_iconst (nI 2) 161 dX9_turns_160 rfl rfl ?_
  exact x_callV 164 x0 [.int (nI 0), .int (nI 2)] [.int y0] dX9_turns_161 rfl lk_9_rollAt ⟨wd233, wd234, wd235⟩ ⟨by decide, by decide⟩ (recvO cf9 (fun _ => s_x0)) rfl rfl (Nat.le_of_ble_eq_true rfl) (Nat.le_of_ble_eq_true rfl) (by decide) (by decide) kk
set_option maxRecDepth 20000 in
theorem B9_turns_164 {ω : Om} {h : AH} {Q : Option Value → AH → Prop} {x0 : Nat} {x1 : Int32} {x2 : Int32} {u3 : Option Value} {x4 : Int32} {y0 : Int32} {y1 : Int32} (hw : ω.2.2.2.1 = true) (kt : (y1 + x2) < y0 → Ex ω M9_turns 180 [some (.ref x0), some (.int x1), some (.int x2), none, some (.int x4)] [] h 0 0 Q) (kf : ¬ (y1 + x2) < y0 → Ex ω M9_turns 169 [some (.ref x0), some (.int x1), some (.int x2), none, some (.int x4)] [] h 0 0 Q) : Ex ω M9_turns 164 [some (.ref x0), some (.int x1), some (.int x2), u3, some (.int x4)] [.int y1, .int y0] h 0 0 Q := by
  refine x_dr3 ?_
  refine x_iload2 165 dX9_turns_164 rfl ?_
  refine x_iadd 166 dX9_turns_165 rfl ?_
  exact x_icmp_gt 169 180 dX9_turns_166 rfl (by decide) kt kf
set_option maxRecDepth 20000 in
theorem B9_turns_169 {ω : Om} {h : AH} {Q : Option Value → AH → Prop} {x0 : Nat} {x1 : Int32} {x2 : Int32} {u3 : Option Value} {x4 : Int32} (hw : ω.2.2.2.1 = true) (s_x0 : gs h x0 = some (9, 17)) (kk : Ex ω M9_breaks 0 [some (.ref x0), some (.int x4), none, none] [] h 0 0 (fun v h' => Ex ω M9_turns 175 [some (.ref x0), some (.int x1), some (.int x2), none, some (.int x4)] (v.toList ++ []) h' 0 0 Q)) : Ex ω M9_turns 169 [some (.ref x0), some (.int x1), some (.int x2), u3, some (.int x4)] [] h 0 0 Q := by
  refine x_dr3 ?_
  refine x_aload0 170 dX9_turns_169 rfl ?_
  refine x_iload4 172 dX9_turns_170 rfl ?_
  exact x_callV 175 x0 [.int x4] [] dX9_turns_172 rfl lk_9_breaks ⟨wd753, wd754, wd755⟩ ⟨by decide, by decide⟩ (recvO cf9 (fun _ => s_x0)) rfl rfl (Nat.le_of_ble_eq_true rfl) (Nat.le_of_ble_eq_true rfl) (by decide) (by decide) kk
set_option maxRecDepth 20000 in
theorem B9_turns_175 {ω : Om} {h : AH} {Q : Option Value → AH → Prop} {x0 : Nat} {x1 : Int32} {x2 : Int32} {u3 : Option Value} {u4 : Option Value} {y0 : Int32} (hw : ω.2.2.2.1 = true) (kt : y0 = 0 → Ex ω M9_turns 188 [some (.ref x0), some (.int x1), some (.int x2), none, none] [] h 0 0 Q) (kf : ¬ y0 = 0 → Ex ω M9_turns 178 [some (.ref x0), some (.int x1), some (.int x2), none, none] [] h 0 0 Q) : Ex ω M9_turns 175 [some (.ref x0), some (.int x1), some (.int x2), u3, u4] [.int y0] h 0 0 Q := by
  refine x_dr3 ?_
  refine x_dr4 ?_
  exact x_if_eq 178 188 dX9_turns_175 rfl (by decide) kt kf
set_option maxRecDepth 20000 in
theorem B9_turns_178 {ω : Om} {h : AH} {Q : Option Value → AH → Prop} {u0 : Option Value} {u1 : Option Value} {u2 : Option Value} {u3 : Option Value} {u4 : Option Value} (hw : ω.2.2.2.1 = true) (hq : Q (some (.int (nI 2))) h) : Ex ω M9_turns 178 [u0, u1, u2, u3, u4] [] h 0 0 Q := by
  refine x_dr0 ?_
  refine x_dr1 ?_
  refine x_dr2 ?_
  refine x_dr3 ?_
  refine x_dr4 ?_
  refine x_iconst (nI 2) 179 dX9_turns_178 rfl rfl ?_
  exact x_iret dX9_turns_179 rfl (Nat.zero_le _) (Nat.zero_le _) hq
set_option maxRecDepth 20000 in
theorem B9_turns_180 {ω : Om} {h : AH} {Q : Option Value → AH → Prop} {x0 : Nat} {x1 : Int32} {x2 : Int32} {u3 : Option Value} {u4 : Option Value} (hw : ω.2.2.2.1 = true) (s_x0 : gs h x0 = some (9, 17)) (kk : Ex ω M9_lays 0 [some (.ref x0), some (.int x1), some (.int x2), none] [] h 0 0 (fun v h' => Ex ω M9_turns 186 [some (.ref x0), some (.int x1), some (.int x2), none, none] (v.toList ++ []) h' 0 0 Q)) : Ex ω M9_turns 180 [some (.ref x0), some (.int x1), some (.int x2), u3, u4] [] h 0 0 Q := by
  refine x_dr3 ?_
  refine x_dr4 ?_
  refine x_aload0 181 dX9_turns_180 rfl ?_
  refine x_iload1 182 dX9_turns_181 rfl ?_
  refine x_iload2 183 dX9_turns_182 rfl ?_
  exact x_callV 186 x0 [.int x1, .int x2] [] dX9_turns_183 rfl lk_9_lays ⟨wd760, wd761, wd762⟩ ⟨by decide, by decide⟩ (recvO cf9 (fun _ => s_x0)) rfl rfl (Nat.le_of_ble_eq_true rfl) (Nat.le_of_ble_eq_true rfl) (by decide) (by decide) kk
set_option maxRecDepth 20000 in
theorem B9_turns_186 {ω : Om} {h : AH} {Q : Option Value → AH → Prop} {u0 : Option Value} {u1 : Option Value} {u2 : Option Value} {u3 : Option Value} {u4 : Option Value} (hw : ω.2.2.2.1 = true) (hq : Q (some (.int (nI 0))) h) : Ex ω M9_turns 186 [u0, u1, u2, u3, u4] [] h 0 0 Q := by
  refine x_dr0 ?_
  refine x_dr1 ?_
  refine x_dr2 ?_
  refine x_dr3 ?_
  refine x_dr4 ?_
  refine x_iconst (nI 0) 187 dX9_turns_186 rfl rfl ?_
  exact x_iret dX9_turns_187 rfl (Nat.zero_le _) (Nat.zero_le _) hq
set_option maxRecDepth 20000 in
theorem B9_turns_188 {ω : Om} {h : AH} {Q : Option Value → AH → Prop} {x0 : Nat} {x1 : Int32} {x2 : Int32} {u3 : Option Value} {u4 : Option Value} (hw : ω.2.2.2.1 = true) (kt : Ex ω M9_turns 62 [some (.ref x0), some (.int x1), some (.int x2), none, none] [] h 0 0 Q) : Ex ω M9_turns 188 [some (.ref x0), some (.int x1), some (.int x2), u3, u4] [] h 0 0 Q := by
  refine x_dr3 ?_
  refine x_dr4 ?_
  exact x_goto 62 dX9_turns_188 (by decide) kt
set_option maxRecDepth 20000 in
theorem B9_turns_191 {ω : Om} {h : AH} {Q : Option Value → AH → Prop} {u0 : Option Value} {u1 : Option Value} {u2 : Option Value} {u3 : Option Value} {u4 : Option Value} (hw : ω.2.2.2.1 = true) (hq : Q (some (.int (nI 1))) h) : Ex ω M9_turns 191 [u0, u1, u2, u3, u4] [] h 0 0 Q := by
  refine x_dr0 ?_
  refine x_dr1 ?_
  refine x_dr2 ?_
  refine x_dr3 ?_
  refine x_dr4 ?_
  refine x_iconst (nI 1) 192 dX9_turns_191 rfl rfl ?_
  exact x_iret dX9_turns_192 rfl (Nat.zero_le _) (Nat.zero_le _) hq
set_option maxRecDepth 20000 in
theorem B9_does_0 {ω : Om} {h : AH} {Q : Option Value → AH → Prop} {x0 : Nat} {x1 : Int32} {x2 : Int32} {u3 : Option Value} {u4 : Option Value} (hw : ω.2.2.2.1 = true) (c0 : x1 = nI 0 → Ex ω M9_does 32 [some (.ref x0), some (.int x1), some (.int x2), some (.int (nI 0)), none] [] h 0 0 Q) (c1 : x1 = nI 1 → Ex ω M9_does 59 [some (.ref x0), some (.int x1), some (.int x2), some (.int (nI 0)), none] [] h 0 0 Q) (c2 : x1 = nI 2 → Ex ω M9_does 99 [some (.ref x0), some (.int x1), some (.int x2), some (.int (nI 0)), none] [] h 0 0 Q) (c3 : x1 = nI 3 → Ex ω M9_does 140 [some (.ref x0), some (.int x1), some (.int x2), some (.int (nI 0)), none] [] h 0 0 Q) (cd : (¬ (0 ≤ x1 ∧ x1 ≤ nI 3)) → Ex ω M9_does 148 [some (.ref x0), some (.int x1), some (.int x2), some (.int (nI 0)), none] [] h 0 0 Q) : Ex ω M9_does 0 [some (.ref x0), some (.int x1), some (.int x2), u3, u4] [] h 0 0 Q := by
  refine x_dr3 ?_
  refine x_dr4 ?_
  refine x_iconst (nI 0) 1 dX9_does_0 rfl rfl ?_
  refine x_istore3 2 dX9_does_1 rfl (by decide) rfl ?_
  refine x_iload1 3 dX9_does_2 rfl ?_
  refine x_tsw 3 [32, 59, 99, 140] 148 dX9_does_3 (by decide) (by decide) (by decide) (by decide) (by decide) cd (fun j hj e => ?_)
  match j, hj with
  | 0, _ => exact c0 e
  | 1, _ => exact c1 e
  | 2, _ => exact c2 e
  | 3, _ => exact c3 e
  | j + 4, hj => exact absurd hj (by simp)
set_option maxRecDepth 20000 in
theorem B9_does_32 {ω : Om} {h : AH} {Q : Option Value → AH → Prop} {x0 : Nat} {u1 : Option Value} {x2 : Int32} {x3 : Int32} {u4 : Option Value} (hw : ω.2.2.2.1 = true) (kf : Ex ω M9_does 35 [some (.ref x0), none, some (.int x2), some (.int x3), some (.int (nI 0))] [] h 0 0 Q) : Ex ω M9_does 32 [some (.ref x0), u1, some (.int x2), some (.int x3), u4] [] h 0 0 Q := by
  refine x_dr1 ?_
  refine x_dr4 ?_
  refine x_iconst (nI 0) 33 dX9_does_32 rfl rfl ?_
  refine x_istore4 35 dX9_does_33 rfl (by decide) rfl ?_
  exact kf
set_option maxRecDepth 20000 in
theorem B9_does_35 {ω : Om} {h : AH} {Q : Option Value → AH → Prop} {x0 : Nat} {u1 : Option Value} {x2 : Int32} {x3 : Int32} {x4 : Int32} (hw : ω.2.2.2.1 = true) (kt : x2 ≤ x4 → Ex ω M9_does 56 [some (.ref x0), none, some (.int x2), some (.int x3), some (.int x4)] [] h 0 0 Q) (kf : ¬ x2 ≤ x4 → Ex ω M9_does 41 [some (.ref x0), none, some (.int x2), some (.int x3), some (.int x4)] [] h 0 0 Q) : Ex ω M9_does 35 [some (.ref x0), u1, some (.int x2), some (.int x3), some (.int x4)] [] h 0 0 Q := by
  refine x_dr1 ?_
  refine x_iload4 37 dX9_does_35 rfl ?_
  refine x_iload2 38 dX9_does_37 rfl ?_
  exact x_icmp_ge 41 56 dX9_does_38 rfl (by decide) kt kf
set_option maxRecDepth 20000 in
theorem B9_does_41 {ω : Om} {h : AH} {Q : Option Value → AH → Prop} {x0 : Nat} {u1 : Option Value} {x2 : Int32} {x3 : Int32} {x4 : Int32} (hw : ω.2.2.2.1 = true) (kt : ¬ x3 = 0 → Ex ω M9_does 56 [some (.ref x0), none, some (.int x2), some (.int x3), some (.int x4)] [] h 0 0 Q) (kf : x3 = 0 → Ex ω M9_does 45 [some (.ref x0), none, some (.int x2), some (.int x3), some (.int x4)] [] h 0 0 Q) : Ex ω M9_does 41 [some (.ref x0), u1, some (.int x2), some (.int x3), some (.int x4)] [] h 0 0 Q := by
  refine x_dr1 ?_
  refine x_iload3 42 dX9_does_41 rfl ?_
  exact x_if_ne 45 56 dX9_does_42 rfl (by decide) kt kf
set_option maxRecDepth 20000 in
theorem B9_does_45 {ω : Om} {h : AH} {Q : Option Value → AH → Prop} {x0 : Nat} {u1 : Option Value} {x2 : Int32} {u3 : Option Value} {x4 : Int32} (hw : ω.2.2.2.1 = true) (s_x0 : gs h x0 = some (9, 17)) (kk : Ex ω M9_turns 0 [some (.ref x0), none, none, none, none] [] h 0 0 (fun v h' => Ex ω M9_does 49 [some (.ref x0), none, some (.int x2), none, some (.int x4)] (v.toList ++ []) h' 0 0 Q)) : Ex ω M9_does 45 [some (.ref x0), u1, some (.int x2), u3, some (.int x4)] [] h 0 0 Q := by
  refine x_dr1 ?_
  refine x_dr3 ?_
  refine x_aload0 46 dX9_does_45 rfl ?_
  exact x_callV 49 x0 [] [] dX9_does_46 rfl lk_9_turns ⟨wd726, wd727, wd728⟩ ⟨by decide, by decide⟩ (recvO cf9 (fun _ => s_x0)) rfl rfl (Nat.le_of_ble_eq_true rfl) (Nat.le_of_ble_eq_true rfl) (by decide) (by decide) kk
set_option maxRecDepth 20000 in
theorem B9_does_49 {ω : Om} {h : AH} {Q : Option Value → AH → Prop} {x0 : Nat} {u1 : Option Value} {x2 : Int32} {u3 : Option Value} {x4 : Int32} {y0 : Int32} (hw : ω.2.2.2.1 = true) (kt : Ex ω M9_does 35 [some (.ref x0), none, some (.int x2), some (.int y0), some (.int (x4 + (nI 1)))] [] h 0 0 Q) : Ex ω M9_does 49 [some (.ref x0), u1, some (.int x2), u3, some (.int x4)] [.int y0] h 0 0 Q := by
  refine x_dr1 ?_
  refine x_dr3 ?_
  refine x_istore3 50 dX9_does_49 rfl (by decide) rfl ?_
  refine x_iinc4 (x4 + (nI 1)) 53 dX9_does_50 rfl (by decide) rfl rfl ?_
  exact x_goto 35 dX9_does_53 (by decide) kt
set_option maxRecDepth 20000 in
theorem B9_does_56 {ω : Om} {h : AH} {Q : Option Value → AH → Prop} {u0 : Option Value} {u1 : Option Value} {u2 : Option Value} {x3 : Int32} {u4 : Option Value} (hw : ω.2.2.2.1 = true) (kt : Ex ω M9_does 153 [none, none, none, some (.int x3), none] [] h 0 0 Q) : Ex ω M9_does 56 [u0, u1, u2, some (.int x3), u4] [] h 0 0 Q := by
  refine x_dr0 ?_
  refine x_dr1 ?_
  refine x_dr2 ?_
  refine x_dr4 ?_
  exact x_goto 153 dX9_does_56 (by decide) kt
set_option maxRecDepth 20000 in
theorem B9_does_59 {ω : Om} {h : AH} {Q : Option Value → AH → Prop} {x0 : Nat} {u1 : Option Value} {x2 : Int32} {x3 : Int32} {u4 : Option Value} (hw : ω.2.2.2.1 = true) (s_x0 : gs h x0 = some (9, 17)) (kt : (gi h x0 13) ≤ (gi h x0 14) → Ex ω M9_does 153 [some (.ref x0), none, some (.int x2), some (.int x3), none] [] h 0 0 Q) (kf : ¬ (gi h x0 13) ≤ (gi h x0 14) → Ex ω M9_does 70 [some (.ref x0), none, some (.int x2), some (.int x3), none] [] h 0 0 Q) : Ex ω M9_does 59 [some (.ref x0), u1, some (.int x2), some (.int x3), u4] [] h 0 0 Q := by
  refine x_dr1 ?_
  refine x_dr4 ?_
  refine x_aload0 60 dX9_does_59 rfl ?_
  refine x_getI cf9 14 63 dX9_does_60 rfl wd716 (fun _ => s_x0) (by decide) rfl ?_
  refine x_aload0 64 dX9_does_63 rfl ?_
  refine x_getI cf9 13 67 dX9_does_64 rfl wd714 (fun _ => s_x0) (by decide) rfl ?_
  exact x_icmp_ge 70 153 dX9_does_67 rfl (by decide) kt kf
set_option maxRecDepth 20000 in
theorem B9_does_70 {ω : Om} {h : AH} {Q : Option Value → AH → Prop} {x0 : Nat} {u1 : Option Value} {x2 : Int32} {x3 : Int32} {u4 : Option Value} (hw : ω.2.2.2.1 = true) (kt : ¬ x3 = 0 → Ex ω M9_does 153 [some (.ref x0), none, some (.int x2), some (.int x3), none] [] h 0 0 Q) (kf : x3 = 0 → Ex ω M9_does 74 [some (.ref x0), none, some (.int x2), some (.int x3), none] [] h 0 0 Q) : Ex ω M9_does 70 [some (.ref x0), u1, some (.int x2), some (.int x3), u4] [] h 0 0 Q := by
  refine x_dr1 ?_
  refine x_dr4 ?_
  refine x_iload3 71 dX9_does_70 rfl ?_
  exact x_if_ne 74 153 dX9_does_71 rfl (by decide) kt kf
set_option maxRecDepth 20000 in
theorem B9_does_74 {ω : Om} {h : AH} {Q : Option Value → AH → Prop} {x0 : Nat} {u1 : Option Value} {x2 : Int32} {u3 : Option Value} {u4 : Option Value} (hw : ω.2.2.2.1 = true) (s_x0 : gs h x0 = some (9, 17)) (kk : Ex ω M9_lesser 0 [some (.int ((gi h x0 14) + x2)), some (.int (gi h x0 13))] [] h 0 0 (fun v h' => Ex ω M9_does 88 [some (.ref x0), none, some (.int x2), none, none] (v.toList ++ [.ref x0]) h' 0 0 Q)) : Ex ω M9_does 74 [some (.ref x0), u1, some (.int x2), u3, u4] [] h 0 0 Q := by
  refine x_dr1 ?_
  refine x_dr3 ?_
  refine x_dr4 ?_
  refine x_aload0 75 dX9_does_74 rfl ?_
  refine x_aload0 76 dX9_does_75 rfl ?_
  refine x_getI cf9 14 79 dX9_does_76 rfl wd716 (fun _ => s_x0) (by decide) rfl ?_
  refine x_iload2 80 dX9_does_79 rfl ?_
  refine x_iadd 81 dX9_does_80 rfl ?_
  refine x_aload0 82 dX9_does_81 rfl ?_
  refine x_getI cf9 13 85 dX9_does_82 rfl wd714 (fun _ => s_x0) (by decide) rfl ?_
  exact x_callS 88 [.int ((gi h x0 14) + x2), .int (gi h x0 13)] [.ref x0] dX9_does_85 rfl lk_9_lesser ⟨wd757, wd758⟩ ⟨by decide, by decide⟩ rfl rfl (Nat.le_of_ble_eq_true rfl) (Nat.le_of_ble_eq_true rfl) (by decide) (by decide) kk
set_option maxRecDepth 20000 in
theorem B9_does_88 {ω : Om} {h : AH} {Q : Option Value → AH → Prop} {x0 : Nat} {u1 : Option Value} {x2 : Int32} {u3 : Option Value} {u4 : Option Value} {y0 : Nat} {y1 : Int32} (hw : ω.2.2.2.1 = true) (s_y0 : gs h y0 = some (9, 17)) (s_x0 : gs h x0 = some (9, 17)) (kk : Ex ω M9_turns 0 [some (.ref x0), none, none, none, none] [] (si h y0 14 y1) 0 0 (fun v h' => Ex ω M9_does 95 [some (.ref x0), none, some (.int x2), none, none] (v.toList ++ []) h' 0 0 Q)) : Ex ω M9_does 88 [some (.ref x0), u1, some (.int x2), u3, u4] [.int y1, .ref y0] h 0 0 Q := by
  refine x_dr1 ?_
  refine x_dr3 ?_
  refine x_dr4 ?_
  refine x_putI cf9 14 91 dX9_does_88 rfl wd716 (fun _ => s_y0) (by decide) rfl rfl ?_
  refine x_aload0 92 dX9_does_91 rfl ?_
  exact x_callV 95 x0 [] [] dX9_does_92 rfl lk_9_turns ⟨wd726, wd727, wd728⟩ ⟨by decide, by decide⟩ (recvO cf9 (fun _ => s_x0)) rfl rfl (Nat.le_of_ble_eq_true rfl) (Nat.le_of_ble_eq_true rfl) (by decide) (by decide) kk
set_option maxRecDepth 20000 in
theorem B9_does_95 {ω : Om} {h : AH} {Q : Option Value → AH → Prop} {x0 : Nat} {u1 : Option Value} {x2 : Int32} {u3 : Option Value} {u4 : Option Value} {y0 : Int32} (hw : ω.2.2.2.1 = true) (kt : Ex ω M9_does 59 [some (.ref x0), none, some (.int x2), some (.int y0), none] [] h 0 0 Q) : Ex ω M9_does 95 [some (.ref x0), u1, some (.int x2), u3, u4] [.int y0] h 0 0 Q := by
  refine x_dr1 ?_
  refine x_dr3 ?_
  refine x_dr4 ?_
  refine x_istore3 96 dX9_does_95 rfl (by decide) rfl ?_
  exact x_goto 59 dX9_does_96 (by decide) kt
set_option maxRecDepth 20000 in
theorem B9_does_99 {ω : Om} {h : AH} {Q : Option Value → AH → Prop} {x0 : Nat} {u1 : Option Value} {x2 : Int32} {x3 : Int32} {u4 : Option Value} (hw : ω.2.2.2.1 = true) (s_x0 : gs h x0 = some (9, 17)) (kt : (gi h x0 14) ≤ 0 → Ex ω M9_does 153 [some (.ref x0), none, some (.int x2), some (.int x3), none] [] h 0 0 Q) (kf : ¬ (gi h x0 14) ≤ 0 → Ex ω M9_does 106 [some (.ref x0), none, some (.int x2), some (.int x3), none] [] h 0 0 Q) : Ex ω M9_does 99 [some (.ref x0), u1, some (.int x2), some (.int x3), u4] [] h 0 0 Q := by
  refine x_dr1 ?_
  refine x_dr4 ?_
  refine x_aload0 100 dX9_does_99 rfl ?_
  refine x_getI cf9 14 103 dX9_does_100 rfl wd716 (fun _ => s_x0) (by decide) rfl ?_
  exact x_if_le 106 153 dX9_does_103 rfl (by decide) kt kf
set_option maxRecDepth 20000 in
theorem B9_does_106 {ω : Om} {h : AH} {Q : Option Value → AH → Prop} {x0 : Nat} {u1 : Option Value} {x2 : Int32} {x3 : Int32} {u4 : Option Value} (hw : ω.2.2.2.1 = true) (kt : ¬ x3 = 0 → Ex ω M9_does 153 [some (.ref x0), none, some (.int x2), some (.int x3), none] [] h 0 0 Q) (kf : x3 = 0 → Ex ω M9_does 110 [some (.ref x0), none, some (.int x2), some (.int x3), none] [] h 0 0 Q) : Ex ω M9_does 106 [some (.ref x0), u1, some (.int x2), some (.int x3), u4] [] h 0 0 Q := by
  refine x_dr1 ?_
  refine x_dr4 ?_
  refine x_iload3 107 dX9_does_106 rfl ?_
  exact x_if_ne 110 153 dX9_does_107 rfl (by decide) kt kf
set_option maxRecDepth 20000 in
theorem B9_does_110 {ω : Om} {h : AH} {Q : Option Value → AH → Prop} {x0 : Nat} {u1 : Option Value} {x2 : Int32} {u3 : Option Value} {u4 : Option Value} (hw : ω.2.2.2.1 = true) (s_x0 : gs h x0 = some (9, 17)) (kt : (gi h x0 14) ≤ x2 → Ex ω M9_does 128 [some (.ref x0), none, some (.int x2), none, none] [.ref x0] h 0 0 Q) (kf : ¬ (gi h x0 14) ≤ x2 → Ex ω M9_does 119 [some (.ref x0), none, some (.int x2), none, none] [.ref x0] h 0 0 Q) : Ex ω M9_does 110 [some (.ref x0), u1, some (.int x2), u3, u4] [] h 0 0 Q := by
  refine x_dr1 ?_
  refine x_dr3 ?_
  refine x_dr4 ?_
  refine x_aload0 111 dX9_does_110 rfl ?_
  refine x_aload0 112 dX9_does_111 rfl ?_
  refine x_getI cf9 14 115 dX9_does_112 rfl wd716 (fun _ => s_x0) (by decide) rfl ?_
  refine x_iload2 116 dX9_does_115 rfl ?_
  exact x_icmp_le 119 128 dX9_does_116 rfl (by decide) kt kf
set_option maxRecDepth 20000 in
theorem B9_does_119 {ω : Om} {h : AH} {Q : Option Value → AH → Prop} {x0 : Nat} {u1 : Option Value} {x2 : Int32} {u3 : Option Value} {u4 : Option Value} {y0 : Nat} (hw : ω.2.2.2.1 = true) (s_x0 : gs h x0 = some (9, 17)) (kt : Ex ω M9_does 129 [some (.ref x0), none, some (.int x2), none, none] [.int ((gi h x0 14) - x2), .ref y0] h 0 0 Q) : Ex ω M9_does 119 [some (.ref x0), u1, some (.int x2), u3, u4] [.ref y0] h 0 0 Q := by
  refine x_dr1 ?_
  refine x_dr3 ?_
  refine x_dr4 ?_
  refine x_aload0 120 dX9_does_119 rfl ?_
  refine x_getI cf9 14 123 dX9_does_120 rfl wd716 (fun _ => s_x0) (by decide) rfl ?_
  refine x_iload2 124 dX9_does_123 rfl ?_
  refine x_isub 125 dX9_does_124 rfl ?_
  exact x_goto 129 dX9_does_125 (by decide) kt
set_option maxRecDepth 20000 in
theorem B9_does_128 {ω : Om} {h : AH} {Q : Option Value → AH → Prop} {x0 : Nat} {u1 : Option Value} {x2 : Int32} {u3 : Option Value} {u4 : Option Value} {y0 : Nat} (hw : ω.2.2.2.1 = true) (kf : Ex ω M9_does 129 [some (.ref x0), none, some (.int x2), none, none] [.int (nI 0), .ref y0] h 0 0 Q) : Ex ω M9_does 128 [some (.ref x0), u1, some (.int x2), u3, u4] [.ref y0] h 0 0 Q := by
  refine x_dr1 ?_
  refine x_dr3 ?_
  refine x_dr4 ?_
  refine x_iconst (nI 0) 129 dX9_does_128 rfl rfl ?_
  exact kf
set_option maxRecDepth 20000 in
theorem B9_does_129 {ω : Om} {h : AH} {Q : Option Value → AH → Prop} {x0 : Nat} {u1 : Option Value} {x2 : Int32} {u3 : Option Value} {u4 : Option Value} {y0 : Nat} {y1 : Int32} (hw : ω.2.2.2.1 = true) (s_y0 : gs h y0 = some (9, 17)) (s_x0 : gs h x0 = some (9, 17)) (kk : Ex ω M9_turns 0 [some (.ref x0), none, none, none, none] [] (si h y0 14 y1) 0 0 (fun v h' => Ex ω M9_does 136 [some (.ref x0), none, some (.int x2), none, none] (v.toList ++ []) h' 0 0 Q)) : Ex ω M9_does 129 [some (.ref x0), u1, some (.int x2), u3, u4] [.int y1, .ref y0] h 0 0 Q := by
  refine x_dr1 ?_
  refine x_dr3 ?_
  refine x_dr4 ?_
  refine x_putI cf9 14 132 dX9_does_129 rfl wd716 (fun _ => s_y0) (by decide) rfl rfl ?_
  refine x_aload0 133 dX9_does_132 rfl ?_
  exact x_callV 136 x0 [] [] dX9_does_133 rfl lk_9_turns ⟨wd726, wd727, wd728⟩ ⟨by decide, by decide⟩ (recvO cf9 (fun _ => s_x0)) rfl rfl (Nat.le_of_ble_eq_true rfl) (Nat.le_of_ble_eq_true rfl) (by decide) (by decide) kk
set_option maxRecDepth 20000 in
theorem B9_does_136 {ω : Om} {h : AH} {Q : Option Value → AH → Prop} {x0 : Nat} {u1 : Option Value} {x2 : Int32} {u3 : Option Value} {u4 : Option Value} {y0 : Int32} (hw : ω.2.2.2.1 = true) (kt : Ex ω M9_does 99 [some (.ref x0), none, some (.int x2), some (.int y0), none] [] h 0 0 Q) : Ex ω M9_does 136 [some (.ref x0), u1, some (.int x2), u3, u4] [.int y0] h 0 0 Q := by
  refine x_dr1 ?_
  refine x_dr3 ?_
  refine x_dr4 ?_
  refine x_istore3 137 dX9_does_136 rfl (by decide) rfl ?_
  exact x_goto 99 dX9_does_137 (by decide) kt
set_option maxRecDepth 20000 in
theorem B9_does_140 {ω : Om} {h : AH} {Q : Option Value → AH → Prop} {x0 : Nat} {u1 : Option Value} {x2 : Int32} {x3 : Int32} {u4 : Option Value} (hw : ω.2.2.2.1 = true) (s_x0 : gs h x0 = some (9, 17)) (kt : Ex ω M9_does 153 [some (.ref x0), none, some (.int x2), some (.int x3), none] [] (si h x0 15 x2) 0 0 Q) : Ex ω M9_does 140 [some (.ref x0), u1, some (.int x2), some (.int x3), u4] [] h 0 0 Q := by
  refine x_dr1 ?_
  refine x_dr4 ?_
  refine x_aload0 141 dX9_does_140 rfl ?_
  refine x_iload2 142 dX9_does_141 rfl ?_
  refine x_putI cf9 15 145 dX9_does_142 rfl wd717 (fun _ => s_x0) (by decide) rfl rfl ?_
  exact x_goto 153 dX9_does_145 (by decide) kt
set_option maxRecDepth 20000 in
theorem B9_does_148 {ω : Om} {h : AH} {Q : Option Value → AH → Prop} {x0 : Nat} {u1 : Option Value} {x2 : Int32} {x3 : Int32} {u4 : Option Value} (hw : ω.2.2.2.1 = true) (s_x0 : gs h x0 = some (9, 17)) (kf : Ex ω M9_does 153 [some (.ref x0), none, some (.int x2), some (.int x3), none] [] (si h x0 16 x2) 0 0 Q) : Ex ω M9_does 148 [some (.ref x0), u1, some (.int x2), some (.int x3), u4] [] h 0 0 Q := by
  refine x_dr1 ?_
  refine x_dr4 ?_
  refine x_aload0 149 dX9_does_148 rfl ?_
  refine x_iload2 150 dX9_does_149 rfl ?_
  refine x_putI cf9 16 153 dX9_does_150 rfl wd718 (fun _ => s_x0) (by decide) rfl rfl ?_
  exact kf
set_option maxRecDepth 20000 in
theorem B9_does_153 {ω : Om} {h : AH} {Q : Option Value → AH → Prop} {u0 : Option Value} {u1 : Option Value} {u2 : Option Value} {x3 : Int32} {u4 : Option Value} (hw : ω.2.2.2.1 = true) (hq : Q (some (.int x3)) h) : Ex ω M9_does 153 [u0, u1, u2, some (.int x3), u4] [] h 0 0 Q := by
  refine x_dr0 ?_
  refine x_dr1 ?_
  refine x_dr2 ?_
  refine x_dr4 ?_
  refine x_iload3 154 dX9_does_153 rfl ?_
  exact x_iret dX9_does_154 rfl (Nat.zero_le _) (Nat.zero_le _) hq
set_option maxRecDepth 20000 in
theorem B9_begins_0 {ω : Om} {h : AH} {Q : Option Value → AH → Prop} {x0 : Nat} {x1 : Int32} (hw : ω.2.2.2.1 = true) (s_x0 : gs h x0 = some (9, 17)) (kk : Ex ω M9_palletAt 0 [some (.ref x0), some (.int x1), some (.int (nI 1))] [] h 0 0 (fun v h' => Ex ω M9_begins 8 [some (.ref x0), some (.int x1)] (v.toList ++ [.int (nI 2), .ref x0]) h' 0 0 Q)) : Ex ω M9_begins 0 [some (.ref x0), some (.int x1)] [] h 0 0 Q := by
  refine x_aload0 1 dX9_begins_0 rfl ?_
  refine x_iconst (nI 2) 2 dX9_begins_1 rfl rfl ?_
  refine x_aload0 3 dX9_begins_2 rfl ?_
  refine x_iload1 4 dX9_begins_3 rfl ?_
  refine x_iconst (nI 1) 5 dX9_begins_4 rfl rfl ?_
  exact x_callV 8 x0 [.int x1, .int (nI 1)] [.int (nI 2), .ref x0] dX9_begins_5 rfl lk_9_palletAt ⟨wd301, wd302, wd303⟩ ⟨by decide, by decide⟩ (recvO cf9 (fun _ => s_x0)) rfl rfl (Nat.le_of_ble_eq_true rfl) (Nat.le_of_ble_eq_true rfl) (by decide) (by decide) kk
set_option maxRecDepth 20000 in
theorem B9_begins_8 {ω : Om} {h : AH} {Q : Option Value → AH → Prop} {x0 : Nat} {x1 : Int32} {y0 : Nat} {y1 : Int32} {y2 : Int32} (hw : ω.2.2.2.1 = true) (s_x0 : gs h x0 = some (9, 17)) (kk : Ex ω M9_palletAt 0 [some (.ref x0), some (.int x1), some (.int (nI 2))] [] h 0 0 (fun v h' => Ex ω M9_begins 14 [some (.ref x0), some (.int x1)] (v.toList ++ [.int y2, .int y1, .ref y0]) h' 0 0 Q)) : Ex ω M9_begins 8 [some (.ref x0), some (.int x1)] [.int y2, .int y1, .ref y0] h 0 0 Q := by
  refine x_aload0 9 dX9_begins_8 rfl ?_
  refine x_iload1 10 dX9_begins_9 rfl ?_
  refine x_iconst (nI 2) 11 dX9_begins_10 rfl rfl ?_
  exact x_callV 14 x0 [.int x1, .int (nI 2)] [.int y2, .int y1, .ref y0] dX9_begins_11 rfl lk_9_palletAt ⟨wd301, wd302, wd303⟩ ⟨by decide, by decide⟩ (recvO cf9 (fun _ => s_x0)) rfl rfl (Nat.le_of_ble_eq_true rfl) (Nat.le_of_ble_eq_true rfl) (by decide) (by decide) kk
set_option maxRecDepth 20000 in
theorem B9_begins_14 {ω : Om} {h : AH} {Q : Option Value → AH → Prop} {x0 : Nat} {x1 : Int32} {y0 : Nat} {y1 : Int32} {y2 : Int32} {y3 : Int32} (hw : ω.2.2.2.1 = true) (s_y0 : gs h y0 = some (9, 17)) (s_x0 : gs h x0 = some (9, 17)) (kk : Ex ω M9_palletAt 0 [some (.ref x0), some (.int x1), some (.int (nI 3))] [] (si h y0 10 (y1 * (y2 + y3))) 0 0 (fun v h' => Ex ω M9_begins 26 [some (.ref x0), some (.int x1)] (v.toList ++ [.ref x0]) h' 0 0 Q)) : Ex ω M9_begins 14 [some (.ref x0), some (.int x1)] [.int y3, .int y2, .int y1, .ref y0] h 0 0 Q := by
  refine x_iadd 15 dX9_begins_14 rfl ?_
  refine x_imul 16 dX9_begins_15 rfl ?_
  refine x_putI cf9 10 19 dX9_begins_16 rfl wd713 (fun _ => s_y0) (by decide) rfl rfl ?_
  refine x_aload0 20 dX9_begins_19 rfl ?_
  refine x_aload0 21 dX9_begins_20 rfl ?_
  refine x_iload1 22 dX9_begins_21 rfl ?_
  refine x_iconst (nI 3) 23 dX9_begins_22 rfl rfl ?_
  exact x_callV 26 x0 [.int x1, .int (nI 3)] [.ref x0] dX9_begins_23 rfl lk_9_palletAt ⟨wd301, wd302, wd303⟩ ⟨by decide, by decide⟩ (recvO cf9 (fun _ => s_x0)) rfl rfl (Nat.le_of_ble_eq_true rfl) (Nat.le_of_ble_eq_true rfl) (by decide) (by decide) kk
set_option maxRecDepth 20000 in
theorem B9_begins_26 {ω : Om} {h : AH} {Q : Option Value → AH → Prop} {x0 : Nat} {x1 : Int32} {y0 : Nat} {y1 : Int32} (hw : ω.2.2.2.1 = true) (kk : Ex ω M9_up 0 [some (.int y1), some (.int (nI 10))] [] h 0 0 (fun v h' => Ex ω M9_begins 31 [some (.ref x0), some (.int x1)] (v.toList ++ [.ref y0]) h' 0 0 Q)) : Ex ω M9_begins 26 [some (.ref x0), some (.int x1)] [.int y1, .ref y0] h 0 0 Q := by
  refine x_bipush (nI 10) 28 dX9_begins_26 rfl rfl ?_
  exact x_callS 31 [.int y1, .int (nI 10)] [.ref y0] dX9_begins_28 rfl lk_9_up ⟨wd719, wd720⟩ ⟨by decide, by decide⟩ rfl rfl (Nat.le_of_ble_eq_true rfl) (Nat.le_of_ble_eq_true rfl) (by decide) (by decide) kk
set_option maxRecDepth 20000 in
theorem B9_begins_31 {ω : Om} {h : AH} {Q : Option Value → AH → Prop} {x0 : Nat} {x1 : Int32} {y0 : Nat} {y1 : Int32} (hw : ω.2.2.2.1 = true) (s_y0 : gs h y0 = some (9, 17)) (s_x0 : gs h x0 = some (9, 17)) (kk : Ex ω M9_palletAt 0 [some (.ref x0), some (.int x1), some (.int (nI 3))] [] (si h y0 12 y1) 0 0 (fun v h' => Ex ω M9_begins 41 [some (.ref x0), some (.int x1)] (v.toList ++ [.ref x0]) h' 0 0 Q)) : Ex ω M9_begins 31 [some (.ref x0), some (.int x1)] [.int y1, .ref y0] h 0 0 Q := by
  refine x_putI cf9 12 34 dX9_begins_31 rfl wd707 (fun _ => s_y0) (by decide) rfl rfl ?_
  refine x_aload0 35 dX9_begins_34 rfl ?_
  refine x_aload0 36 dX9_begins_35 rfl ?_
  refine x_iload1 37 dX9_begins_36 rfl ?_
  refine x_iconst (nI 3) 38 dX9_begins_37 rfl rfl ?_
  exact x_callV 41 x0 [.int x1, .int (nI 3)] [.ref x0] dX9_begins_38 rfl lk_9_palletAt ⟨wd301, wd302, wd303⟩ ⟨by decide, by decide⟩ (recvO cf9 (fun _ => s_x0)) rfl rfl (Nat.le_of_ble_eq_true rfl) (Nat.le_of_ble_eq_true rfl) (by decide) (by decide) kk
set_option maxRecDepth 20000 in
theorem B9_begins_41 {ω : Om} {h : AH} {Q : Option Value → AH → Prop} {x0 : Nat} {x1 : Int32} {y0 : Nat} {y1 : Int32} (hw : ω.2.2.2.1 = true) (kt : y1 ≤ (nI 50) → Ex ω M9_begins 58 [some (.ref x0), some (.int x1)] [.ref y0] h 0 0 Q) (kf : ¬ y1 ≤ (nI 50) → Ex ω M9_begins 46 [some (.ref x0), some (.int x1)] [.ref y0] h 0 0 Q) : Ex ω M9_begins 41 [some (.ref x0), some (.int x1)] [.int y1, .ref y0] h 0 0 Q := by
  refine x_bipush (nI 50) 43 dX9_begins_41 rfl rfl ?_
  exact x_icmp_le 46 58 dX9_begins_43 rfl (by decide) kt kf
set_option maxRecDepth 20000 in
theorem B9_begins_46 {ω : Om} {h : AH} {Q : Option Value → AH → Prop} {x0 : Nat} {x1 : Int32} {y0 : Nat} (hw : ω.2.2.2.1 = true) (s_x0 : gs h x0 = some (9, 17)) (kk : Ex ω M9_palletAt 0 [some (.ref x0), some (.int x1), some (.int (nI 3))] [] h 0 0 (fun v h' => Ex ω M9_begins 52 [some (.ref x0), some (.int x1)] (v.toList ++ [.ref y0]) h' 0 0 Q)) : Ex ω M9_begins 46 [some (.ref x0), some (.int x1)] [.ref y0] h 0 0 Q := by
  refine x_aload0 47 dX9_begins_46 rfl ?_
  refine x_iload1 48 dX9_begins_47 rfl ?_
  refine x_iconst (nI 3) 49 dX9_begins_48 rfl rfl ?_
  exact x_callV 52 x0 [.int x1, .int (nI 3)] [.ref y0] dX9_begins_49 rfl lk_9_palletAt ⟨wd301, wd302, wd303⟩ ⟨by decide, by decide⟩ (recvO cf9 (fun _ => s_x0)) rfl rfl (Nat.le_of_ble_eq_true rfl) (Nat.le_of_ble_eq_true rfl) (by decide) (by decide) kk
set_option maxRecDepth 20000 in
theorem B9_begins_52 {ω : Om} {h : AH} {Q : Option Value → AH → Prop} {x0 : Nat} {x1 : Int32} {y0 : Nat} {y1 : Int32} (hw : ω.2.2.2.1 = true) (kt : Ex ω M9_begins 59 [some (.ref x0), some (.int x1)] [.int (y1 - (nI 50)), .ref y0] h 0 0 Q) : Ex ω M9_begins 52 [some (.ref x0), some (.int x1)] [.int y1, .ref y0] h 0 0 Q := by
  refine x_bipush (nI 50) 54 dX9_begins_52 rfl rfl ?_
  refine x_isub 55 dX9_begins_54 rfl ?_
  exact x_goto 59 dX9_begins_55 (by decide) kt
set_option maxRecDepth 20000 in
theorem B9_begins_58 {ω : Om} {h : AH} {Q : Option Value → AH → Prop} {x0 : Nat} {x1 : Int32} {y0 : Nat} (hw : ω.2.2.2.1 = true) (kf : Ex ω M9_begins 59 [some (.ref x0), some (.int x1)] [.int (nI 0), .ref y0] h 0 0 Q) : Ex ω M9_begins 58 [some (.ref x0), some (.int x1)] [.ref y0] h 0 0 Q := by
  refine x_iconst (nI 0) 59 dX9_begins_58 rfl rfl ?_
  exact kf
set_option maxRecDepth 20000 in
theorem B9_begins_59 {ω : Om} {h : AH} {Q : Option Value → AH → Prop} {x0 : Nat} {x1 : Int32} {y0 : Nat} {y1 : Int32} (hw : ω.2.2.2.1 = true) (s_y0 : gs h y0 = some (9, 17)) (s_x0 : gs h x0 = some (9, 17)) (kk : Ex ω M9_palletAt 0 [some (.ref x0), some (.int x1), some (.int (nI 4))] [] (si h y0 13 y1) 0 0 (fun v h' => Ex ω M9_begins 69 [some (.ref x0), some (.int x1)] (v.toList ++ [.ref x0]) h' 0 0 Q)) : Ex ω M9_begins 59 [some (.ref x0), some (.int x1)] [.int y1, .ref y0] h 0 0 Q := by
  refine x_putI cf9 13 62 dX9_begins_59 rfl wd714 (fun _ => s_y0) (by decide) rfl rfl ?_
  refine x_aload0 63 dX9_begins_62 rfl ?_
  refine x_aload0 64 dX9_begins_63 rfl ?_
  refine x_iload1 65 dX9_begins_64 rfl ?_
  refine x_iconst (nI 4) 66 dX9_begins_65 rfl rfl ?_
  exact x_callV 69 x0 [.int x1, .int (nI 4)] [.ref x0] dX9_begins_66 rfl lk_9_palletAt ⟨wd301, wd302, wd303⟩ ⟨by decide, by decide⟩ (recvO cf9 (fun _ => s_x0)) rfl rfl (Nat.le_of_ble_eq_true rfl) (Nat.le_of_ble_eq_true rfl) (by decide) (by decide) kk
set_option maxRecDepth 20000 in
theorem B9_begins_69 {ω : Om} {h : AH} {Q : Option Value → AH → Prop} {x0 : Nat} {u1 : Option Value} {y0 : Nat} {y1 : Int32} (hw : ω.2.2.2.1 = true) (s_y0 : gs h y0 = some (9, 17)) (s_x0 : gs h x0 = some (9, 17)) (hq : Q none (si (si (si (si h y0 11 y1) x0 14 (nI 0)) x0 15 (nI 40)) x0 16 (nI 100))) : Ex ω M9_begins 69 [some (.ref x0), u1] [.int y1, .ref y0] h 0 0 Q := by
  refine x_dr1 ?_
  refine x_putI cf9 11 72 dX9_begins_69 rfl wd715 (fun _ => s_y0) (by decide) rfl rfl ?_
  refine x_aload0 73 dX9_begins_72 rfl ?_
  refine x_iconst (nI 0) 74 dX9_begins_73 rfl rfl ?_
  refine x_putI cf9 14 77 dX9_begins_74 rfl wd716 (fun _ => s_x0) (by decide) rfl rfl ?_
  refine x_aload0 78 dX9_begins_77 rfl ?_
  refine x_bipush (nI 40) 80 dX9_begins_78 rfl rfl ?_
  refine x_putI cf9 15 83 dX9_begins_80 rfl wd717 (fun _ => s_x0) (by decide) rfl rfl ?_
  refine x_aload0 84 dX9_begins_83 rfl ?_
  refine x_bipush (nI 100) 86 dX9_begins_84 rfl rfl ?_
  refine x_putI cf9 16 89 dX9_begins_86 rfl wd718 (fun _ => s_x0) (by decide) rfl rfl ?_
  exact x_vret dX9_begins_89 rfl (Nat.zero_le _) (Nat.zero_le _) hq
set_option maxRecDepth 20000 in
theorem B9_wraps_0 {ω : Om} {h : AH} {Q : Option Value → AH → Prop} {x0 : Nat} {u1 : Option Value} {u2 : Option Value} {u3 : Option Value} (hw : ω.2.2.2.1 = true) (s_x0 : gs h x0 = some (9, 17)) (kk : Ex ω M9_byTurn 0 [some (.ref x0), some (.int (nI 0)), none, none, none] [] h 0 0 (fun v h' => Ex ω M9_wraps 5 [some (.ref x0), none, none, none] (v.toList ++ []) h' 0 0 Q)) : Ex ω M9_wraps 0 [some (.ref x0), u1, u2, u3] [] h 0 0 Q := by
  refine x_dr1 ?_
  refine x_dr2 ?_
  refine x_dr3 ?_
  refine x_aload0 1 dX9_wraps_0 rfl ?_
  refine x_iconst (nI 0) 2 dX9_wraps_1 rfl rfl ?_
  exact x_callV 5 x0 [.int (nI 0)] [] dX9_wraps_2 rfl lk_9_byTurn ⟨wd322, wd323, wd324⟩ ⟨by decide, by decide⟩ (recvO cf9 (fun _ => s_x0)) rfl rfl (Nat.le_of_ble_eq_true rfl) (Nat.le_of_ble_eq_true rfl) (by decide) (by decide) kk
set_option maxRecDepth 20000 in
theorem B9_wraps_5 {ω : Om} {h : AH} {Q : Option Value → AH → Prop} {x0 : Nat} {u1 : Option Value} {u2 : Option Value} {u3 : Option Value} {y0 : Int32} (hw : ω.2.2.2.1 = true) (s_x0 : gs h x0 = some (9, 17)) (kk : Ex ω M9_begins 0 [some (.ref x0), some (.int y0)] [] h 0 0 (fun v h' => Ex ω M9_wraps 11 [some (.ref x0), some (.int y0), none, none] (v.toList ++ []) h' 0 0 Q)) : Ex ω M9_wraps 5 [some (.ref x0), u1, u2, u3] [.int y0] h 0 0 Q := by
  refine x_dr1 ?_
  refine x_dr2 ?_
  refine x_dr3 ?_
  refine x_istore1 6 dX9_wraps_5 rfl (by decide) rfl ?_
  refine x_aload0 7 dX9_wraps_6 rfl ?_
  refine x_iload1 8 dX9_wraps_7 rfl ?_
  exact x_callV 11 x0 [.int y0] [] dX9_wraps_8 rfl lk_9_begins ⟨wd709, wd710, wd711⟩ ⟨by decide, by decide⟩ (recvO cf9 (fun _ => s_x0)) rfl rfl (Nat.le_of_ble_eq_true rfl) (Nat.le_of_ble_eq_true rfl) (by decide) (by decide) kk
set_option maxRecDepth 20000 in
theorem B9_wraps_11 {ω : Om} {h : AH} {Q : Option Value → AH → Prop} {x0 : Nat} {x1 : Int32} {u2 : Option Value} {u3 : Option Value} (hw : ω.2.2.2.1 = true) (s_x0 : gs h x0 = some (9, 17)) (kf : Ex ω M9_wraps 34 [some (.ref x0), some (.int x1), some (.int (nI 0)), none] [] (si h x0 9 ((nI 212) + ((nI 64) * ((gi h (gr h x0 0) 7) - (gi h (gr h x0 0) 7) / (nI 6) * (nI 6))))) 0 0 Q) : Ex ω M9_wraps 11 [some (.ref x0), some (.int x1), u2, u3] [] h 0 0 Q := by
  refine x_dr2 ?_
  refine x_dr3 ?_
  refine x_aload0 12 dX9_wraps_11 rfl ?_
  refine x_sipush (nI 212) 15 dX9_wraps_12 rfl rfl ?_
  refine x_bipush (nI 64) 17 dX9_wraps_15 rfl rfl ?_
  refine x_aload0 18 dX9_wraps_17 rfl ?_
  refine x_getR cf9 0 21 hw dX9_wraps_18 rfl wd99 (fun _ => s_x0) (by decide) (by decide) rfl ?_
  refine x_bipush (nI 7) 23 dX9_wraps_21 rfl rfl ?_
  refine x_iald 7 24 dX9_wraps_23 rfl (SH.fld hw (fun _ => s_x0) 0 (Nat.le_of_ble_eq_true rfl) rfl rfl) (vp_c (by decide)) rfl ?_
  refine x_bipush (nI 6) 26 dX9_wraps_24 rfl rfl ?_
  refine x_irem 27 dX9_wraps_26 rfl (by decide) ?_
  refine x_imul 28 dX9_wraps_27 rfl ?_
  refine x_iadd 29 dX9_wraps_28 rfl ?_
  refine x_putI cf9 9 32 dX9_wraps_29 rfl wd706 (fun _ => s_x0) (by decide) rfl rfl ?_
  refine x_iconst (nI 0) 33 dX9_wraps_32 rfl rfl ?_
  refine x_istore2 34 dX9_wraps_33 rfl (by decide) rfl ?_
  exact kf
set_option maxRecDepth 20000 in
theorem B9_wraps_34 {ω : Om} {h : AH} {Q : Option Value → AH → Prop} {x0 : Nat} {x1 : Int32} {x2 : Int32} {u3 : Option Value} (hw : ω.2.2.2.1 = true) (kt : (nI 64) ≤ x2 → Ex ω M9_wraps 58 [some (.ref x0), some (.int x1), some (.int x2), none] [] h 0 0 Q) (kf : ¬ (nI 64) ≤ x2 → Ex ω M9_wraps 40 [some (.ref x0), some (.int x1), some (.int x2), none] [] h 0 0 Q) : Ex ω M9_wraps 34 [some (.ref x0), some (.int x1), some (.int x2), u3] [] h 0 0 Q := by
  refine x_dr3 ?_
  refine x_iload2 35 dX9_wraps_34 rfl ?_
  refine x_bipush (nI 64) 37 dX9_wraps_35 rfl rfl ?_
  exact x_icmp_ge 40 58 dX9_wraps_37 rfl (by decide) kt kf
set_option maxRecDepth 20000 in
theorem B9_wraps_40 {ω : Om} {h : AH} {Q : Option Value → AH → Prop} {x0 : Nat} {x1 : Int32} {x2 : Int32} {u3 : Option Value} (hw : ω.2.2.2.1 = true) (s_x0 : gs h x0 = some (9, 17)) (i1 : vp_in ((gi h x0 9) + x2) 596) (kt : Ex ω M9_wraps 34 [some (.ref x0), some (.int x1), some (.int (x2 + (nI 1))), none] [] (si h (gr h x0 0) (Int32.toNatClampNeg ((gi h x0 9) + x2)) (nI 0)) 0 0 Q) : Ex ω M9_wraps 40 [some (.ref x0), some (.int x1), some (.int x2), u3] [] h 0 0 Q := by
  refine x_dr3 ?_
  refine x_aload0 41 dX9_wraps_40 rfl ?_
  refine x_getR cf9 0 44 hw dX9_wraps_41 rfl wd99 (fun _ => s_x0) (by decide) (by decide) rfl ?_
  refine x_aload0 45 dX9_wraps_44 rfl ?_
  refine x_getI cf9 9 48 dX9_wraps_45 rfl wd706 (fun _ => s_x0) (by decide) rfl ?_
  refine x_iload2 49 dX9_wraps_48 rfl ?_
  refine x_iadd 50 dX9_wraps_49 rfl ?_
  refine x_iconst (nI 0) 51 dX9_wraps_50 rfl rfl ?_
  refine x_iast (Int32.toNatClampNeg ((gi h x0 9) + x2)) 52 dX9_wraps_51 rfl (SH.fld hw (fun _ => s_x0) 0 (Nat.le_of_ble_eq_true rfl) rfl rfl) i1 rfl ?_
  refine x_iinc2 (x2 + (nI 1)) 55 dX9_wraps_52 rfl (by decide) rfl rfl ?_
  exact x_goto 34 dX9_wraps_55 (by decide) kt
set_option maxRecDepth 20000 in
theorem B9_wraps_58 {ω : Om} {h : AH} {Q : Option Value → AH → Prop} {x0 : Nat} {x1 : Int32} {u2 : Option Value} {u3 : Option Value} (hw : ω.2.2.2.1 = true) (s_x0 : gs h x0 = some (9, 17)) (kk : Ex ω M9_palletAt 0 [some (.ref x0), some (.int x1), some (.int (nI 0))] [] h 0 0 (fun v h' => Ex ω M9_wraps 72 [some (.ref x0), some (.int x1), none, none] (v.toList ++ [.int (gi h x0 9), .ref (gr h x0 0)]) h' 0 0 Q)) : Ex ω M9_wraps 58 [some (.ref x0), some (.int x1), u2, u3] [] h 0 0 Q := by
  refine x_dr2 ?_
  refine x_dr3 ?_
  refine x_aload0 59 dX9_wraps_58 rfl ?_
  refine x_getR cf9 0 62 hw dX9_wraps_59 rfl wd99 (fun _ => s_x0) (by decide) (by decide) rfl ?_
  refine x_aload0 63 dX9_wraps_62 rfl ?_
  refine x_getI cf9 9 66 dX9_wraps_63 rfl wd706 (fun _ => s_x0) (by decide) rfl ?_
  refine x_aload0 67 dX9_wraps_66 rfl ?_
  refine x_iload1 68 dX9_wraps_67 rfl ?_
  refine x_iconst (nI 0) 69 dX9_wraps_68 rfl rfl ?_
  exact x_callV 72 x0 [.int x1, .int (nI 0)] [.int (gi h x0 9), .ref (gr h x0 0)] dX9_wraps_69 rfl lk_9_palletAt ⟨wd301, wd302, wd303⟩ ⟨by decide, by decide⟩ (recvO cf9 (fun _ => s_x0)) rfl rfl (Nat.le_of_ble_eq_true rfl) (Nat.le_of_ble_eq_true rfl) (by decide) (by decide) kk
set_option maxRecDepth 20000 in
theorem B9_wraps_72 {ω : Om} {h : AH} {Q : Option Value → AH → Prop} {x0 : Nat} {x1 : Int32} {u2 : Option Value} {u3 : Option Value} {y0 : Nat} {y1 : Int32} {y2 : Int32} {ny0 : Nat} (hw : ω.2.2.2.1 = true) (s_y0 : gs h y0 = some (10, ny0)) (s_x0 : gs h x0 = some (9, 17)) (i1 : vp_in y1 ny0) (i2 : vp_in ((gi (si h y0 (Int32.toNatClampNeg y1) y2) x0 9) + (nI 12)) 596) (kf : Ex ω M9_wraps 89 [some (.ref x0), some (.int x1), none, none] [] (si (si h y0 (Int32.toNatClampNeg y1) y2) (gr h x0 0) (Int32.toNatClampNeg ((gi (si h y0 (Int32.toNatClampNeg y1) y2) x0 9) + (nI 12))) (gi (si h y0 (Int32.toNatClampNeg y1) y2) x0 12)) 0 0 Q) : Ex ω M9_wraps 72 [some (.ref x0), some (.int x1), u2, u3] [.int y2, .int y1, .ref y0] h 0 0 Q := by
  refine x_dr2 ?_
  refine x_dr3 ?_
  refine x_iast (Int32.toNatClampNeg y1) 73 dX9_wraps_72 rfl (fun _ => s_y0) i1 rfl ?_
  refine x_aload0 74 dX9_wraps_73 rfl ?_
  refine x_getR cf9 0 77 hw dX9_wraps_74 rfl wd99 (fun _ => s_x0) (by decide) (by decide) rfl ?_
  refine x_aload0 78 dX9_wraps_77 rfl ?_
  refine x_getI cf9 9 81 dX9_wraps_78 rfl wd706 (fun _ => s_x0) (by decide) rfl ?_
  refine x_bipush (nI 12) 83 dX9_wraps_81 rfl rfl ?_
  refine x_iadd 84 dX9_wraps_83 rfl ?_
  refine x_aload0 85 dX9_wraps_84 rfl ?_
  refine x_getI cf9 12 88 dX9_wraps_85 rfl wd707 (fun _ => s_x0) (by decide) rfl ?_
  refine x_iast (Int32.toNatClampNeg ((gi (si h y0 (Int32.toNatClampNeg y1) y2) x0 9) + (nI 12))) 89 dX9_wraps_88 rfl (SH.fld hw (fun _ => s_x0) 0 (Nat.le_of_ble_eq_true rfl) rfl rfl) i2 rfl ?_
  exact kf
set_option maxRecDepth 20000 in
theorem B9_wraps_89 {ω : Om} {h : AH} {Q : Option Value → AH → Prop} {x0 : Nat} {x1 : Int32} {u2 : Option Value} {u3 : Option Value} (hw : ω.2.2.2.1 = true) (s_x0 : gs h x0 = some (9, 17)) (kk : Ex ω M9_palletGoes 0 [some (.ref x0), some (.int x1), none] [] h 0 0 (fun v h' => Ex ω M9_wraps 94 [some (.ref x0), some (.int x1), none, none] (v.toList ++ []) h' 0 0 Q)) : Ex ω M9_wraps 89 [some (.ref x0), some (.int x1), u2, u3] [] h 0 0 Q := by
  refine x_dr2 ?_
  refine x_dr3 ?_
  refine x_aload0 90 dX9_wraps_89 rfl ?_
  refine x_iload1 91 dX9_wraps_90 rfl ?_
  exact x_callV 94 x0 [.int x1] [] dX9_wraps_91 rfl lk_9_palletGoes ⟨wd305, wd306, wd307⟩ ⟨by decide, by decide⟩ (recvO cf9 (fun _ => s_x0)) rfl rfl (Nat.le_of_ble_eq_true rfl) (Nat.le_of_ble_eq_true rfl) (by decide) (by decide) kk
set_option maxRecDepth 20000 in
theorem B9_wraps_94 {ω : Om} {h : AH} {Q : Option Value → AH → Prop} {x0 : Nat} {u1 : Option Value} {u2 : Option Value} {u3 : Option Value} (hw : ω.2.2.2.1 = true) (kf : Ex ω M9_wraps 98 [some (.ref x0), none, some (.int (nI 0)), some (.int (nI 0))] [] h 0 0 Q) : Ex ω M9_wraps 94 [some (.ref x0), u1, u2, u3] [] h 0 0 Q := by
  refine x_dr1 ?_
  refine x_dr2 ?_
  refine x_dr3 ?_
  refine x_iconst (nI 0) 95 dX9_wraps_94 rfl rfl ?_
  refine x_istore2 96 dX9_wraps_95 rfl (by decide) rfl ?_
  refine x_iconst (nI 0) 97 dX9_wraps_96 rfl rfl ?_
  refine x_istore3 98 dX9_wraps_97 rfl (by decide) rfl ?_
  exact kf
set_option maxRecDepth 20000 in
theorem B9_wraps_98 {ω : Om} {h : AH} {Q : Option Value → AH → Prop} {x0 : Nat} {u1 : Option Value} {x2 : Int32} {x3 : Int32} (hw : ω.2.2.2.1 = true) (s_x0 : gs h x0 = some (9, 17)) (kt : (gi h (gr h x0 0) 3) ≤ x3 → Ex ω M9_wraps 149 [some (.ref x0), none, some (.int x2), some (.int x3)] [] h 0 0 Q) (kf : ¬ (gi h (gr h x0 0) 3) ≤ x3 → Ex ω M9_wraps 108 [some (.ref x0), none, some (.int x2), some (.int x3)] [] h 0 0 Q) : Ex ω M9_wraps 98 [some (.ref x0), u1, some (.int x2), some (.int x3)] [] h 0 0 Q := by
  refine x_dr1 ?_
  refine x_iload3 99 dX9_wraps_98 rfl ?_
  refine x_aload0 100 dX9_wraps_99 rfl ?_
  refine x_getR cf9 0 103 hw dX9_wraps_100 rfl wd99 (fun _ => s_x0) (by decide) (by decide) rfl ?_
  refine x_iconst (nI 3) 104 dX9_wraps_103 rfl rfl ?_
  refine x_iald 3 105 dX9_wraps_104 rfl (SH.fld hw (fun _ => s_x0) 0 (Nat.le_of_ble_eq_true rfl) rfl rfl) (vp_c (by decide)) rfl ?_
  exact x_icmp_ge 108 149 dX9_wraps_105 rfl (by decide) kt kf
set_option maxRecDepth 20000 in
theorem B9_wraps_108 {ω : Om} {h : AH} {Q : Option Value → AH → Prop} {x0 : Nat} {u1 : Option Value} {x2 : Int32} {x3 : Int32} (hw : ω.2.2.2.1 = true) (kt : ¬ x2 = 0 → Ex ω M9_wraps 149 [some (.ref x0), none, some (.int x2), some (.int x3)] [] h 0 0 Q) (kf : x2 = 0 → Ex ω M9_wraps 112 [some (.ref x0), none, some (.int x2), some (.int x3)] [] h 0 0 Q) : Ex ω M9_wraps 108 [some (.ref x0), u1, some (.int x2), some (.int x3)] [] h 0 0 Q := by
  refine x_dr1 ?_
  refine x_iload2 109 dX9_wraps_108 rfl ?_
  exact x_if_ne 112 149 dX9_wraps_109 rfl (by decide) kt kf
set_option maxRecDepth 20000 in
theorem B9_wraps_112 {ω : Om} {h : AH} {Q : Option Value → AH → Prop} {x0 : Nat} {u1 : Option Value} {u2 : Option Value} {x3 : Int32} (hw : ω.2.2.2.1 = true) (s_x0 : gs h x0 = some (9, 17)) (i1 : vp_in ((nI 188) + ((nI 2) * x3)) 596) (i2 : vp_in (((nI 188) + ((nI 2) * x3)) + (nI 1)) 596) (kk : Ex ω M9_does 0 [some (.ref x0), some (.int (gi h (gr h x0 0) (Int32.toNatClampNeg ((nI 188) + ((nI 2) * x3))))), some (.int (gi h (gr h x0 0) (Int32.toNatClampNeg (((nI 188) + ((nI 2) * x3)) + (nI 1))))), none, none] [] h 0 0 (fun v h' => Ex ω M9_wraps 142 [some (.ref x0), none, none, some (.int x3)] (v.toList ++ []) h' 0 0 Q)) : Ex ω M9_wraps 112 [some (.ref x0), u1, u2, some (.int x3)] [] h 0 0 Q := by
  refine x_dr1 ?_
  refine x_dr2 ?_
  refine x_aload0 113 dX9_wraps_112 rfl ?_
  refine x_aload0 114 dX9_wraps_113 rfl ?_
  refine x_getR cf9 0 117 hw dX9_wraps_114 rfl wd99 (fun _ => s_x0) (by decide) (by decide) rfl ?_
  refine x_sipush (nI 188) 120 dX9_wraps_117 rfl rfl ?_
  refine x_iconst (nI 2) 121 dX9_wraps_120 rfl rfl ?_
  refine x_iload3 122 dX9_wraps_121 rfl ?_
  refine x_imul 123 dX9_wraps_122 rfl ?_
  refine x_iadd 124 dX9_wraps_123 rfl ?_
  refine x_iald (Int32.toNatClampNeg ((nI 188) + ((nI 2) * x3))) 125 dX9_wraps_124 rfl (SH.fld hw (fun _ => s_x0) 0 (Nat.le_of_ble_eq_true rfl) rfl rfl) i1 rfl ?_
  refine x_aload0 126 dX9_wraps_125 rfl ?_
  refine x_getR cf9 0 129 hw dX9_wraps_126 rfl wd99 (fun _ => s_x0) (by decide) (by decide) rfl ?_
  refine x_sipush (nI 188) 132 dX9_wraps_129 rfl rfl ?_
  refine x_iconst (nI 2) 133 dX9_wraps_132 rfl rfl ?_
  refine x_iload3 134 dX9_wraps_133 rfl ?_
  refine x_imul 135 dX9_wraps_134 rfl ?_
  refine x_iadd 136 dX9_wraps_135 rfl ?_
  refine x_iconst (nI 1) 137 dX9_wraps_136 rfl rfl ?_
  refine x_iadd 138 dX9_wraps_137 rfl ?_
  refine x_iald (Int32.toNatClampNeg (((nI 188) + ((nI 2) * x3)) + (nI 1))) 139 dX9_wraps_138 rfl (SH.fld hw (fun _ => s_x0) 0 (Nat.le_of_ble_eq_true rfl) rfl rfl) i2 rfl ?_
  exact x_callV 142 x0 [.int (gi h (gr h x0 0) (Int32.toNatClampNeg ((nI 188) + ((nI 2) * x3)))), .int (gi h (gr h x0 0) (Int32.toNatClampNeg (((nI 188) + ((nI 2) * x3)) + (nI 1))))] [] dX9_wraps_139 rfl lk_9_does ⟨wd722, wd723, wd724⟩ ⟨by decide, by decide⟩ (recvO cf9 (fun _ => s_x0)) rfl rfl (Nat.le_of_ble_eq_true rfl) (Nat.le_of_ble_eq_true rfl) (by decide) (by decide) kk
set_option maxRecDepth 20000 in
theorem B9_wraps_142 {ω : Om} {h : AH} {Q : Option Value → AH → Prop} {x0 : Nat} {u1 : Option Value} {u2 : Option Value} {x3 : Int32} {y0 : Int32} (hw : ω.2.2.2.1 = true) (kt : Ex ω M9_wraps 98 [some (.ref x0), none, some (.int y0), some (.int (x3 + (nI 1)))] [] h 0 0 Q) : Ex ω M9_wraps 142 [some (.ref x0), u1, u2, some (.int x3)] [.int y0] h 0 0 Q := by
  refine x_dr1 ?_
  refine x_dr2 ?_
  refine x_istore2 143 dX9_wraps_142 rfl (by decide) rfl ?_
  refine x_iinc3 (x3 + (nI 1)) 146 dX9_wraps_143 rfl (by decide) rfl rfl ?_
  exact x_goto 98 dX9_wraps_146 (by decide) kt
set_option maxRecDepth 20000 in
theorem B9_wraps_149 {ω : Om} {h : AH} {Q : Option Value → AH → Prop} {x0 : Nat} {u1 : Option Value} {x2 : Int32} {u3 : Option Value} (hw : ω.2.2.2.1 = true) (s_x0 : gs h x0 = some (9, 17)) (i1 : vp_in ((gi h x0 9) + (nI 1)) 596) (i2 : vp_in ((gi (si h (gr h x0 0) (Int32.toNatClampNeg ((gi h x0 9) + (nI 1))) x2) x0 9) + (nI 13)) 596) (i3 : vp_in ((gi (si h (gr h x0 0) (Int32.toNatClampNeg ((gi h x0 9) + (nI 1))) x2) x0 9) + (nI 8)) 596) (kf : Ex ω M9_wraps 185 [some (.ref x0), none, some (.int x2), none] [] (si (si h (gr h x0 0) (Int32.toNatClampNeg ((gi h x0 9) + (nI 1))) x2) (gr h x0 0) (Int32.toNatClampNeg ((gi (si h (gr h x0 0) (Int32.toNatClampNeg ((gi h x0 9) + (nI 1))) x2) x0 9) + (nI 8))) (gi (si h (gr h x0 0) (Int32.toNatClampNeg ((gi h x0 9) + (nI 1))) x2) (gr h x0 0) (Int32.toNatClampNeg ((gi (si h (gr h x0 0) (Int32.toNatClampNeg ((gi h x0 9) + (nI 1))) x2) x0 9) + (nI 13))))) 0 0 Q) : Ex ω M9_wraps 149 [some (.ref x0), u1, some (.int x2), u3] [] h 0 0 Q := by
  refine x_dr1 ?_
  refine x_dr3 ?_
  refine x_aload0 150 dX9_wraps_149 rfl ?_
  refine x_getR cf9 0 153 hw dX9_wraps_150 rfl wd99 (fun _ => s_x0) (by decide) (by decide) rfl ?_
  refine x_aload0 154 dX9_wraps_153 rfl ?_
  refine x_getI cf9 9 157 dX9_wraps_154 rfl wd706 (fun _ => s_x0) (by decide) rfl ?_
  refine x_iconst (nI 1) 158 dX9_wraps_157 rfl rfl ?_
  refine x_iadd 159 dX9_wraps_158 rfl ?_
  refine x_iload2 160 dX9_wraps_159 rfl ?_
  refine x_iast (Int32.toNatClampNeg ((gi h x0 9) + (nI 1))) 161 dX9_wraps_160 rfl (SH.fld hw (fun _ => s_x0) 0 (Nat.le_of_ble_eq_true rfl) rfl rfl) i1 rfl ?_
  refine x_aload0 162 dX9_wraps_161 rfl ?_
  refine x_getR cf9 0 165 hw dX9_wraps_162 rfl wd99 (fun _ => s_x0) (by decide) (by decide) rfl ?_
  refine x_aload0 166 dX9_wraps_165 rfl ?_
  refine x_getI cf9 9 169 dX9_wraps_166 rfl wd706 (fun _ => s_x0) (by decide) rfl ?_
  refine x_bipush (nI 8) 171 dX9_wraps_169 rfl rfl ?_
  refine x_iadd 172 dX9_wraps_171 rfl ?_
  refine x_aload0 173 dX9_wraps_172 rfl ?_
  refine x_getR cf9 0 176 hw dX9_wraps_173 rfl wd99 (fun _ => s_x0) (by decide) (by decide) rfl ?_
  refine x_aload0 177 dX9_wraps_176 rfl ?_
  refine x_getI cf9 9 180 dX9_wraps_177 rfl wd706 (fun _ => s_x0) (by decide) rfl ?_
  refine x_bipush (nI 13) 182 dX9_wraps_180 rfl rfl ?_
  refine x_iadd 183 dX9_wraps_182 rfl ?_
  refine x_iald (Int32.toNatClampNeg ((gi (si h (gr h x0 0) (Int32.toNatClampNeg ((gi h x0 9) + (nI 1))) x2) x0 9) + (nI 13))) 184 dX9_wraps_183 rfl (SH.fld hw (fun _ => s_x0) 0 (Nat.le_of_ble_eq_true rfl) rfl rfl) i2 rfl ?_
  refine x_iast (Int32.toNatClampNeg ((gi (si h (gr h x0 0) (Int32.toNatClampNeg ((gi h x0 9) + (nI 1))) x2) x0 9) + (nI 8))) 185 dX9_wraps_184 rfl (SH.fld hw (fun _ => s_x0) 0 (Nat.le_of_ble_eq_true rfl) rfl rfl) i3 rfl ?_
  exact kf
set_option maxRecDepth 20000 in
theorem B9_wraps_185 {ω : Om} {h : AH} {Q : Option Value → AH → Prop} {x0 : Nat} {u1 : Option Value} {x2 : Int32} {u3 : Option Value} (hw : ω.2.2.2.1 = true) (kf : Ex ω M9_wraps 187 [some (.ref x0), none, some (.int x2), some (.int (nI 0))] [] h 0 0 Q) : Ex ω M9_wraps 185 [some (.ref x0), u1, some (.int x2), u3] [] h 0 0 Q := by
  refine x_dr1 ?_
  refine x_dr3 ?_
  refine x_iconst (nI 0) 186 dX9_wraps_185 rfl rfl ?_
  refine x_istore3 187 dX9_wraps_186 rfl (by decide) rfl ?_
  exact kf
set_option maxRecDepth 20000 in
theorem B9_wraps_187 {ω : Om} {h : AH} {Q : Option Value → AH → Prop} {x0 : Nat} {u1 : Option Value} {x2 : Int32} {x3 : Int32} (hw : ω.2.2.2.1 = true) (s_x0 : gs h x0 = some (9, 17)) (kt : (gi h x0 12) ≤ x3 → Ex ω M9_wraps 312 [some (.ref x0), none, some (.int x2), some (.int x3)] [] h 0 0 Q) (kf : ¬ (gi h x0 12) ≤ x3 → Ex ω M9_wraps 195 [some (.ref x0), none, some (.int x2), some (.int x3)] [] h 0 0 Q) : Ex ω M9_wraps 187 [some (.ref x0), u1, some (.int x2), some (.int x3)] [] h 0 0 Q := by
  refine x_dr1 ?_
  refine x_iload3 188 dX9_wraps_187 rfl ?_
  refine x_aload0 189 dX9_wraps_188 rfl ?_
  refine x_getI cf9 12 192 dX9_wraps_189 rfl wd707 (fun _ => s_x0) (by decide) rfl ?_
  exact x_icmp_ge 195 312 dX9_wraps_192 rfl (by decide) kt kf
set_option maxRecDepth 20000 in
theorem B9_wraps_195 {ω : Om} {h : AH} {Q : Option Value → AH → Prop} {x0 : Nat} {u1 : Option Value} {x2 : Int32} {x3 : Int32} (hw : ω.2.2.2.1 = true) (s_x0 : gs h x0 = some (9, 17)) (i1 : vp_in ((gi h x0 9) + (nI 8)) 596) (i2 : vp_in (((gi h x0 9) + (nI 13)) + x3) 596) (kk : Ex ω M9_lesser 0 [some (.int (gi h (gr h x0 0) (Int32.toNatClampNeg ((gi h x0 9) + (nI 8))))), some (.int (gi h (gr h x0 0) (Int32.toNatClampNeg (((gi h x0 9) + (nI 13)) + x3))))] [] h 0 0 (fun v h' => Ex ω M9_wraps 235 [some (.ref x0), none, some (.int x2), some (.int x3)] (v.toList ++ [.int ((gi h x0 9) + (nI 8)), .ref (gr h x0 0)]) h' 0 0 Q)) : Ex ω M9_wraps 195 [some (.ref x0), u1, some (.int x2), some (.int x3)] [] h 0 0 Q := by
  refine x_dr1 ?_
  refine x_aload0 196 dX9_wraps_195 rfl ?_
  refine x_getR cf9 0 199 hw dX9_wraps_196 rfl wd99 (fun _ => s_x0) (by decide) (by decide) rfl ?_
  refine x_aload0 200 dX9_wraps_199 rfl ?_
  refine x_getI cf9 9 203 dX9_wraps_200 rfl wd706 (fun _ => s_x0) (by decide) rfl ?_
  refine x_bipush (nI 8) 205 dX9_wraps_203 rfl rfl ?_
  refine x_iadd 206 dX9_wraps_205 rfl ?_
  refine x_aload0 207 dX9_wraps_206 rfl ?_
  refine x_getR cf9 0 210 hw dX9_wraps_207 rfl wd99 (fun _ => s_x0) (by decide) (by decide) rfl ?_
  refine x_aload0 211 dX9_wraps_210 rfl ?_
  refine x_getI cf9 9 214 dX9_wraps_211 rfl wd706 (fun _ => s_x0) (by decide) rfl ?_
  refine x_bipush (nI 8) 216 dX9_wraps_214 rfl rfl ?_
  refine x_iadd 217 dX9_wraps_216 rfl ?_
  refine x_iald (Int32.toNatClampNeg ((gi h x0 9) + (nI 8))) 218 dX9_wraps_217 rfl (SH.fld hw (fun _ => s_x0) 0 (Nat.le_of_ble_eq_true rfl) rfl rfl) i1 rfl ?_
  refine x_aload0 219 dX9_wraps_218 rfl ?_
  refine x_getR cf9 0 222 hw dX9_wraps_219 rfl wd99 (fun _ => s_x0) (by decide) (by decide) rfl ?_
  refine x_aload0 223 dX9_wraps_222 rfl ?_
  refine x_getI cf9 9 226 dX9_wraps_223 rfl wd706 (fun _ => s_x0) (by decide) rfl ?_
  refine x_bipush (nI 13) 228 dX9_wraps_226 rfl rfl ?_
  refine x_iadd 229 dX9_wraps_228 rfl ?_
  refine x_iload3 230 dX9_wraps_229 rfl ?_
  refine x_iadd 231 dX9_wraps_230 rfl ?_
  refine x_iald (Int32.toNatClampNeg (((gi h x0 9) + (nI 13)) + x3)) 232 dX9_wraps_231 rfl (SH.fld hw (fun _ => s_x0) 0 (Nat.le_of_ble_eq_true rfl) rfl rfl) i2 rfl ?_
  exact x_callS 235 [.int (gi h (gr h x0 0) (Int32.toNatClampNeg ((gi h x0 9) + (nI 8)))), .int (gi h (gr h x0 0) (Int32.toNatClampNeg (((gi h x0 9) + (nI 13)) + x3)))] [.int ((gi h x0 9) + (nI 8)), .ref (gr h x0 0)] dX9_wraps_232 rfl lk_9_lesser ⟨wd757, wd758⟩ ⟨by decide, by decide⟩ rfl rfl (Nat.le_of_ble_eq_true rfl) (Nat.le_of_ble_eq_true rfl) (by decide) (by decide) kk
set_option maxRecDepth 20000 in
theorem B9_wraps_235 {ω : Om} {h : AH} {Q : Option Value → AH → Prop} {x0 : Nat} {u1 : Option Value} {x2 : Int32} {x3 : Int32} {y0 : Nat} {y1 : Int32} {y2 : Int32} {ny0 : Nat} (hw : ω.2.2.2.1 = true) (s_y0 : gs h y0 = some (10, ny0)) (s_x0 : gs h x0 = some (9, 17)) (i1 : vp_in y1 ny0) (i2 : vp_in (((gi (si h y0 (Int32.toNatClampNeg y1) y2) x0 9) + (nI 38)) + x3) 596) (i3 : vp_in ((gi (si h y0 (Int32.toNatClampNeg y1) y2) x0 9) + (nI 9)) 596) (kt : (gi (si h y0 (Int32.toNatClampNeg y1) y2) (gr h x0 0) (Int32.toNatClampNeg (((gi (si h y0 (Int32.toNatClampNeg y1) y2) x0 9) + (nI 38)) + x3))) ≤ (gi (si h y0 (Int32.toNatClampNeg y1) y2) (gr h x0 0) (Int32.toNatClampNeg ((gi (si h y0 (Int32.toNatClampNeg y1) y2) x0 9) + (nI 9)))) → Ex ω M9_wraps 293 [some (.ref x0), none, some (.int x2), some (.int x3)] [.int ((gi (si h y0 (Int32.toNatClampNeg y1) y2) x0 9) + (nI 9)), .ref (gr h x0 0)] (si h y0 (Int32.toNatClampNeg y1) y2) 0 0 Q) (kf : ¬ (gi (si h y0 (Int32.toNatClampNeg y1) y2) (gr h x0 0) (Int32.toNatClampNeg (((gi (si h y0 (Int32.toNatClampNeg y1) y2) x0 9) + (nI 38)) + x3))) ≤ (gi (si h y0 (Int32.toNatClampNeg y1) y2) (gr h x0 0) (Int32.toNatClampNeg ((gi (si h y0 (Int32.toNatClampNeg y1) y2) x0 9) + (nI 9)))) → Ex ω M9_wraps 276 [some (.ref x0), none, some (.int x2), some (.int x3)] [.int ((gi (si h y0 (Int32.toNatClampNeg y1) y2) x0 9) + (nI 9)), .ref (gr h x0 0)] (si h y0 (Int32.toNatClampNeg y1) y2) 0 0 Q) : Ex ω M9_wraps 235 [some (.ref x0), u1, some (.int x2), some (.int x3)] [.int y2, .int y1, .ref y0] h 0 0 Q := by
  refine x_dr1 ?_
  refine x_iast (Int32.toNatClampNeg y1) 236 dX9_wraps_235 rfl (fun _ => s_y0) i1 rfl ?_
  refine x_aload0 237 dX9_wraps_236 rfl ?_
  refine x_getR cf9 0 240 hw dX9_wraps_237 rfl wd99 (fun _ => s_x0) (by decide) (by decide) rfl ?_
  refine x_aload0 241 dX9_wraps_240 rfl ?_
  refine x_getI cf9 9 244 dX9_wraps_241 rfl wd706 (fun _ => s_x0) (by decide) rfl ?_
  refine x_bipush (nI 9) 246 dX9_wraps_244 rfl rfl ?_
  refine x_iadd 247 dX9_wraps_246 rfl ?_
  refine x_aload0 248 dX9_wraps_247 rfl ?_
  refine x_getR cf9 0 251 hw dX9_wraps_248 rfl wd99 (fun _ => s_x0) (by decide) (by decide) rfl ?_
  refine x_aload0 252 dX9_wraps_251 rfl ?_
  refine x_getI cf9 9 255 dX9_wraps_252 rfl wd706 (fun _ => s_x0) (by decide) rfl ?_
  refine x_bipush (nI 38) 257 dX9_wraps_255 rfl rfl ?_
  refine x_iadd 258 dX9_wraps_257 rfl ?_
  refine x_iload3 259 dX9_wraps_258 rfl ?_
  refine x_iadd 260 dX9_wraps_259 rfl ?_
  refine x_iald (Int32.toNatClampNeg (((gi (si h y0 (Int32.toNatClampNeg y1) y2) x0 9) + (nI 38)) + x3)) 261 dX9_wraps_260 rfl (SH.fld hw (fun _ => s_x0) 0 (Nat.le_of_ble_eq_true rfl) rfl rfl) i2 rfl ?_
  refine x_aload0 262 dX9_wraps_261 rfl ?_
  refine x_getR cf9 0 265 hw dX9_wraps_262 rfl wd99 (fun _ => s_x0) (by decide) (by decide) rfl ?_
  refine x_aload0 266 dX9_wraps_265 rfl ?_
  refine x_getI cf9 9 269 dX9_wraps_266 rfl wd706 (fun _ => s_x0) (by decide) rfl ?_
  refine x_bipush (nI 9) 271 dX9_wraps_269 rfl rfl ?_
  refine x_iadd 272 dX9_wraps_271 rfl ?_
  refine x_iald (Int32.toNatClampNeg ((gi (si h y0 (Int32.toNatClampNeg y1) y2) x0 9) + (nI 9))) 273 dX9_wraps_272 rfl (SH.fld hw (fun _ => s_x0) 0 (Nat.le_of_ble_eq_true rfl) rfl rfl) i3 rfl ?_
  exact x_icmp_le 276 293 dX9_wraps_273 rfl (by decide) kt kf
set_option maxRecDepth 20000 in
theorem B9_wraps_276 {ω : Om} {h : AH} {Q : Option Value → AH → Prop} {x0 : Nat} {u1 : Option Value} {x2 : Int32} {x3 : Int32} {y0 : Nat} {y1 : Int32} (hw : ω.2.2.2.1 = true) (s_x0 : gs h x0 = some (9, 17)) (i1 : vp_in (((gi h x0 9) + (nI 38)) + x3) 596) (kt : Ex ω M9_wraps 305 [some (.ref x0), none, some (.int x2), some (.int x3)] [.int (gi h (gr h x0 0) (Int32.toNatClampNeg (((gi h x0 9) + (nI 38)) + x3))), .int y1, .ref y0] h 0 0 Q) : Ex ω M9_wraps 276 [some (.ref x0), u1, some (.int x2), some (.int x3)] [.int y1, .ref y0] h 0 0 Q := by
  refine x_dr1 ?_
  refine x_aload0 277 dX9_wraps_276 rfl ?_
  refine x_getR cf9 0 280 hw dX9_wraps_277 rfl wd99 (fun _ => s_x0) (by decide) (by decide) rfl ?_
  refine x_aload0 281 dX9_wraps_280 rfl ?_
  refine x_getI cf9 9 284 dX9_wraps_281 rfl wd706 (fun _ => s_x0) (by decide) rfl ?_
  refine x_bipush (nI 38) 286 dX9_wraps_284 rfl rfl ?_
  refine x_iadd 287 dX9_wraps_286 rfl ?_
  refine x_iload3 288 dX9_wraps_287 rfl ?_
  refine x_iadd 289 dX9_wraps_288 rfl ?_
  refine x_iald (Int32.toNatClampNeg (((gi h x0 9) + (nI 38)) + x3)) 290 dX9_wraps_289 rfl (SH.fld hw (fun _ => s_x0) 0 (Nat.le_of_ble_eq_true rfl) rfl rfl) i1 rfl ?_
  exact x_goto 305 dX9_wraps_290 (by decide) kt
set_option maxRecDepth 20000 in
theorem B9_wraps_293 {ω : Om} {h : AH} {Q : Option Value → AH → Prop} {x0 : Nat} {u1 : Option Value} {x2 : Int32} {x3 : Int32} {y0 : Nat} {y1 : Int32} (hw : ω.2.2.2.1 = true) (s_x0 : gs h x0 = some (9, 17)) (i1 : vp_in ((gi h x0 9) + (nI 9)) 596) (kf : Ex ω M9_wraps 305 [some (.ref x0), none, some (.int x2), some (.int x3)] [.int (gi h (gr h x0 0) (Int32.toNatClampNeg ((gi h x0 9) + (nI 9)))), .int y1, .ref y0] h 0 0 Q) : Ex ω M9_wraps 293 [some (.ref x0), u1, some (.int x2), some (.int x3)] [.int y1, .ref y0] h 0 0 Q := by
  refine x_dr1 ?_
  refine x_aload0 294 dX9_wraps_293 rfl ?_
  refine x_getR cf9 0 297 hw dX9_wraps_294 rfl wd99 (fun _ => s_x0) (by decide) (by decide) rfl ?_
  refine x_aload0 298 dX9_wraps_297 rfl ?_
  refine x_getI cf9 9 301 dX9_wraps_298 rfl wd706 (fun _ => s_x0) (by decide) rfl ?_
  refine x_bipush (nI 9) 303 dX9_wraps_301 rfl rfl ?_
  refine x_iadd 304 dX9_wraps_303 rfl ?_
  refine x_iald (Int32.toNatClampNeg ((gi h x0 9) + (nI 9))) 305 dX9_wraps_304 rfl (SH.fld hw (fun _ => s_x0) 0 (Nat.le_of_ble_eq_true rfl) rfl rfl) i1 rfl ?_
  exact kf
set_option maxRecDepth 20000 in
theorem B9_wraps_305 {ω : Om} {h : AH} {Q : Option Value → AH → Prop} {x0 : Nat} {u1 : Option Value} {x2 : Int32} {x3 : Int32} {y0 : Nat} {y1 : Int32} {y2 : Int32} {ny0 : Nat} (hw : ω.2.2.2.1 = true) (s_y0 : gs h y0 = some (10, ny0)) (i1 : vp_in y1 ny0) (kt : Ex ω M9_wraps 187 [some (.ref x0), none, some (.int x2), some (.int (x3 + (nI 1)))] [] (si h y0 (Int32.toNatClampNeg y1) y2) 0 0 Q) : Ex ω M9_wraps 305 [some (.ref x0), u1, some (.int x2), some (.int x3)] [.int y2, .int y1, .ref y0] h 0 0 Q := by
  refine x_dr1 ?_
  refine x_iast (Int32.toNatClampNeg y1) 306 dX9_wraps_305 rfl (fun _ => s_y0) i1 rfl ?_
  refine x_iinc3 (x3 + (nI 1)) 309 dX9_wraps_306 rfl (by decide) rfl rfl ?_
  exact x_goto 187 dX9_wraps_309 (by decide) kt
set_option maxRecDepth 20000 in
theorem B9_wraps_312 {ω : Om} {h : AH} {Q : Option Value → AH → Prop} {x0 : Nat} {u1 : Option Value} {x2 : Int32} {u3 : Option Value} (hw : ω.2.2.2.1 = true) (s_x0 : gs h x0 = some (9, 17)) (kt : x2 ≤ 0 → Ex ω M9_wraps 328 [some (.ref x0), none, some (.int x2), none] [.int (gi h (gr h x0 0) 17), .int (nI 17), .ref (gr h x0 0)] h 0 0 Q) (kf : ¬ x2 ≤ 0 → Ex ω M9_wraps 324 [some (.ref x0), none, some (.int x2), none] [.int (gi h (gr h x0 0) 17), .int (nI 17), .ref (gr h x0 0)] h 0 0 Q) : Ex ω M9_wraps 312 [some (.ref x0), u1, some (.int x2), u3] [] h 0 0 Q := by
  refine x_dr1 ?_
  refine x_dr3 ?_
  refine x_aload0 313 dX9_wraps_312 rfl ?_
  refine x_getR cf9 0 316 hw dX9_wraps_313 rfl wd99 (fun _ => s_x0) (by decide) (by decide) rfl ?_
  refine x_bipush (nI 17) 318 dX9_wraps_316 rfl rfl ?_
  refine x_dup2 319 dX9_wraps_318 rfl rfl rfl ?_
  refine x_iald 17 320 dX9_wraps_319 rfl (SH.fld hw (fun _ => s_x0) 0 (Nat.le_of_ble_eq_true rfl) rfl rfl) (vp_c (by decide)) rfl ?_
  refine x_iload2 321 dX9_wraps_320 rfl ?_
  exact x_if_le 324 328 dX9_wraps_321 rfl (by decide) kt kf
set_option maxRecDepth 20000 in
theorem B9_wraps_324 {ω : Om} {h : AH} {Q : Option Value → AH → Prop} {x0 : Nat} {u1 : Option Value} {x2 : Int32} {u3 : Option Value} {y0 : Nat} {y1 : Int32} {y2 : Int32} (hw : ω.2.2.2.1 = true) (kt : Ex ω M9_wraps 329 [some (.ref x0), none, some (.int x2), none] [.int (nI 1), .int y2, .int y1, .ref y0] h 0 0 Q) : Ex ω M9_wraps 324 [some (.ref x0), u1, some (.int x2), u3] [.int y2, .int y1, .ref y0] h 0 0 Q := by
  refine x_dr1 ?_
  refine x_dr3 ?_
  refine x_iconst (nI 1) 325 dX9_wraps_324 rfl rfl ?_
  exact x_goto 329 dX9_wraps_325 (by decide) kt
set_option maxRecDepth 20000 in
theorem B9_wraps_328 {ω : Om} {h : AH} {Q : Option Value → AH → Prop} {x0 : Nat} {u1 : Option Value} {x2 : Int32} {u3 : Option Value} {y0 : Nat} {y1 : Int32} {y2 : Int32} (hw : ω.2.2.2.1 = true) (kf : Ex ω M9_wraps 329 [some (.ref x0), none, some (.int x2), none] [.int (nI 0), .int y2, .int y1, .ref y0] h 0 0 Q) : Ex ω M9_wraps 328 [some (.ref x0), u1, some (.int x2), u3] [.int y2, .int y1, .ref y0] h 0 0 Q := by
  refine x_dr1 ?_
  refine x_dr3 ?_
  refine x_iconst (nI 0) 329 dX9_wraps_328 rfl rfl ?_
  exact kf
set_option maxRecDepth 20000 in
theorem B9_wraps_329 {ω : Om} {h : AH} {Q : Option Value → AH → Prop} {x0 : Nat} {u1 : Option Value} {x2 : Int32} {u3 : Option Value} {y0 : Nat} {y1 : Int32} {y2 : Int32} {y3 : Int32} {ny0 : Nat} (hw : ω.2.2.2.1 = true) (s_y0 : gs h y0 = some (10, ny0)) (s_x0 : gs h x0 = some (9, 17)) (i1 : vp_in y1 ny0) (i2 : vp_in ((gi (si h y0 (Int32.toNatClampNeg y1) (y2 + y3)) x0 9) + (nI 11)) 596) (kf : Ex ω M9_wraps 353 [some (.ref x0), none, some (.int x2), none] [] (si (si h y0 (Int32.toNatClampNeg y1) (y2 + y3)) (gr h x0 0) 18 ((gi (si h y0 (Int32.toNatClampNeg y1) (y2 + y3)) (gr h x0 0) 18) + (gi (si h y0 (Int32.toNatClampNeg y1) (y2 + y3)) (gr h x0 0) (Int32.toNatClampNeg ((gi (si h y0 (Int32.toNatClampNeg y1) (y2 + y3)) x0 9) + (nI 11)))))) 0 0 Q) : Ex ω M9_wraps 329 [some (.ref x0), u1, some (.int x2), u3] [.int y3, .int y2, .int y1, .ref y0] h 0 0 Q := by
  refine x_dr1 ?_
  refine x_dr3 ?_
  refine x_iadd 330 dX9_wraps_329 rfl ?_
  refine x_iast (Int32.toNatClampNeg y1) 331 dX9_wraps_330 rfl (fun _ => s_y0) i1 rfl ?_
  refine x_aload0 332 dX9_wraps_331 rfl ?_
  refine x_getR cf9 0 335 hw dX9_wraps_332 rfl wd99 (fun _ => s_x0) (by decide) (by decide) rfl ?_
  refine x_bipush (nI 18) 337 dX9_wraps_335 rfl rfl ?_
  refine x_dup2 338 dX9_wraps_337 rfl rfl rfl ?_
  refine x_iald 18 339 dX9_wraps_338 rfl (SH.fld hw (fun _ => s_x0) 0 (Nat.le_of_ble_eq_true rfl) rfl rfl) (vp_c (by decide)) rfl ?_
  refine x_aload0 340 dX9_wraps_339 rfl ?_
  refine x_getR cf9 0 343 hw dX9_wraps_340 rfl wd99 (fun _ => s_x0) (by decide) (by decide) rfl ?_
  refine x_aload0 344 dX9_wraps_343 rfl ?_
  refine x_getI cf9 9 347 dX9_wraps_344 rfl wd706 (fun _ => s_x0) (by decide) rfl ?_
  refine x_bipush (nI 11) 349 dX9_wraps_347 rfl rfl ?_
  refine x_iadd 350 dX9_wraps_349 rfl ?_
  refine x_iald (Int32.toNatClampNeg ((gi (si h y0 (Int32.toNatClampNeg y1) (y2 + y3)) x0 9) + (nI 11))) 351 dX9_wraps_350 rfl (SH.fld hw (fun _ => s_x0) 0 (Nat.le_of_ble_eq_true rfl) rfl rfl) i2 rfl ?_
  refine x_iadd 352 dX9_wraps_351 rfl ?_
  refine x_iast 18 353 dX9_wraps_352 rfl (SH.fld hw (fun _ => s_x0) 0 (Nat.le_of_ble_eq_true rfl) rfl rfl) (vp_c (by decide)) rfl ?_
  exact kf
set_option maxRecDepth 20000 in
theorem B9_wraps_353 {ω : Om} {h : AH} {Q : Option Value → AH → Prop} {x0 : Nat} {u1 : Option Value} {x2 : Int32} {u3 : Option Value} (hw : ω.2.2.2.1 = true) (s_x0 : gs h x0 = some (9, 17)) (kf : Ex ω M9_wraps 385 [some (.ref x0), none, some (.int x2), none] [] (si (si h (gr h x0 0) 19 ((gi h (gr h x0 0) 19) + ((gi h (gr h x0 0) 18) / (nI 1000000000)))) (gr h x0 0) 18 ((gi (si h (gr h x0 0) 19 ((gi h (gr h x0 0) 19) + ((gi h (gr h x0 0) 18) / (nI 1000000000)))) (gr h x0 0) 18) - (gi (si h (gr h x0 0) 19 ((gi h (gr h x0 0) 19) + ((gi h (gr h x0 0) 18) / (nI 1000000000)))) (gr h x0 0) 18) / (nI 1000000000) * (nI 1000000000))) 0 0 Q) : Ex ω M9_wraps 353 [some (.ref x0), u1, some (.int x2), u3] [] h 0 0 Q := by
  refine x_dr1 ?_
  refine x_dr3 ?_
  refine x_aload0 354 dX9_wraps_353 rfl ?_
  refine x_getR cf9 0 357 hw dX9_wraps_354 rfl wd99 (fun _ => s_x0) (by decide) (by decide) rfl ?_
  refine x_bipush (nI 19) 359 dX9_wraps_357 rfl rfl ?_
  refine x_dup2 360 dX9_wraps_359 rfl rfl rfl ?_
  refine x_iald 19 361 dX9_wraps_360 rfl (SH.fld hw (fun _ => s_x0) 0 (Nat.le_of_ble_eq_true rfl) rfl rfl) (vp_c (by decide)) rfl ?_
  refine x_aload0 362 dX9_wraps_361 rfl ?_
  refine x_getR cf9 0 365 hw dX9_wraps_362 rfl wd99 (fun _ => s_x0) (by decide) (by decide) rfl ?_
  refine x_bipush (nI 18) 367 dX9_wraps_365 rfl rfl ?_
  refine x_iald 18 368 dX9_wraps_367 rfl (SH.fld hw (fun _ => s_x0) 0 (Nat.le_of_ble_eq_true rfl) rfl rfl) (vp_c (by decide)) rfl ?_
  refine x_ldc (nI 1000000000) 370 dX9_wraps_368 rfl wd708 ?_
  refine x_idiv 371 dX9_wraps_370 rfl (by decide) ?_
  refine x_iadd 372 dX9_wraps_371 rfl ?_
  refine x_iast 19 373 dX9_wraps_372 rfl (SH.fld hw (fun _ => s_x0) 0 (Nat.le_of_ble_eq_true rfl) rfl rfl) (vp_c (by decide)) rfl ?_
  refine x_aload0 374 dX9_wraps_373 rfl ?_
  refine x_getR cf9 0 377 hw dX9_wraps_374 rfl wd99 (fun _ => s_x0) (by decide) (by decide) rfl ?_
  refine x_bipush (nI 18) 379 dX9_wraps_377 rfl rfl ?_
  refine x_dup2 380 dX9_wraps_379 rfl rfl rfl ?_
  refine x_iald 18 381 dX9_wraps_380 rfl (SH.fld hw (fun _ => s_x0) 0 (Nat.le_of_ble_eq_true rfl) rfl rfl) (vp_c (by decide)) rfl ?_
  refine x_ldc (nI 1000000000) 383 dX9_wraps_381 rfl wd708 ?_
  refine x_irem 384 dX9_wraps_383 rfl (by decide) ?_
  refine x_iast 18 385 dX9_wraps_384 rfl (SH.fld hw (fun _ => s_x0) 0 (Nat.le_of_ble_eq_true rfl) rfl rfl) (vp_c (by decide)) rfl ?_
  exact kf
set_option maxRecDepth 20000 in
theorem B9_wraps_385 {ω : Om} {h : AH} {Q : Option Value → AH → Prop} {x0 : Nat} {u1 : Option Value} {x2 : Int32} {u3 : Option Value} (hw : ω.2.2.2.1 = true) (s_x0 : gs h x0 = some (9, 17)) (hq : Q (some (.int x2)) (si h (gr h x0 0) 7 ((gi h (gr h x0 0) 7) + (nI 1)))) : Ex ω M9_wraps 385 [some (.ref x0), u1, some (.int x2), u3] [] h 0 0 Q := by
  refine x_dr1 ?_
  refine x_dr3 ?_
  refine x_aload0 386 dX9_wraps_385 rfl ?_
  refine x_getR cf9 0 389 hw dX9_wraps_386 rfl wd99 (fun _ => s_x0) (by decide) (by decide) rfl ?_
  refine x_bipush (nI 7) 391 dX9_wraps_389 rfl rfl ?_
  refine x_dup2 392 dX9_wraps_391 rfl rfl rfl ?_
  refine x_iald 7 393 dX9_wraps_392 rfl (SH.fld hw (fun _ => s_x0) 0 (Nat.le_of_ble_eq_true rfl) rfl rfl) (vp_c (by decide)) rfl ?_
  refine x_iconst (nI 1) 394 dX9_wraps_393 rfl rfl ?_
  refine x_iadd 395 dX9_wraps_394 rfl ?_
  refine x_iast 7 396 dX9_wraps_395 rfl (SH.fld hw (fun _ => s_x0) 0 (Nat.le_of_ble_eq_true rfl) rfl rfl) (vp_c (by decide)) rfl ?_
  refine x_iload2 397 dX9_wraps_396 rfl ?_
  exact x_iret dX9_wraps_397 rfl (Nat.zero_le _) (Nat.zero_le _) hq
set_option maxRecDepth 20000 in
theorem B9_wrap_0 {ω : Om} {h : AH} {Q : Option Value → AH → Prop} {x0 : Nat} (hw : ω.2.2.2.1 = true) (s_x0 : gs h x0 = some (9, 17)) (kt : ¬ (gi h (gr h x0 0) 1) = 0 → Ex ω M9_wrap 12 [some (.ref x0)] [] h 0 0 Q) (kf : (gi h (gr h x0 0) 1) = 0 → Ex ω M9_wrap 9 [some (.ref x0)] [] h 0 0 Q) : Ex ω M9_wrap 0 [some (.ref x0)] [] h 0 0 Q := by
  refine x_aload0 1 dX9_wrap_0 rfl ?_
  refine x_getR cf9 0 4 hw dX9_wrap_1 rfl wd99 (fun _ => s_x0) (by decide) (by decide) rfl ?_
  refine x_iconst (nI 1) 5 dX9_wrap_4 rfl rfl ?_
  refine x_iald 1 6 dX9_wrap_5 rfl (SH.fld hw (fun _ => s_x0) 0 (Nat.le_of_ble_eq_true rfl) rfl rfl) (vp_c (by decide)) rfl ?_
  exact x_if_ne 9 12 dX9_wrap_6 rfl (by decide) kt kf
set_option maxRecDepth 20000 in
theorem B9_wrap_9 {ω : Om} {h : AH} {Q : Option Value → AH → Prop} {u0 : Option Value} (hw : ω.2.2.2.1 = true) (hq : Q (some (.int ((-2)))) h) : Ex ω M9_wrap 9 [u0] [] h 0 0 Q := by
  refine x_dr0 ?_
  refine x_bipush ((-2)) 11 dX9_wrap_9 rfl rfl ?_
  exact x_iret dX9_wrap_11 rfl (Nat.zero_le _) (Nat.zero_le _) hq
set_option maxRecDepth 20000 in
theorem B9_wrap_12 {ω : Om} {h : AH} {Q : Option Value → AH → Prop} {x0 : Nat} (hw : ω.2.2.2.1 = true) (s_x0 : gs h x0 = some (9, 17)) (kk : Ex ω M9_change 0 [some (.ref x0), none] [] h 0 0 (fun v h' => Ex ω M9_wrap 16 [some (.ref x0)] (v.toList ++ []) h' 0 0 Q)) : Ex ω M9_wrap 12 [some (.ref x0)] [] h 0 0 Q := by
  refine x_aload0 13 dX9_wrap_12 rfl ?_
  exact x_callV 16 x0 [] [] dX9_wrap_13 rfl lk_9_change ⟨wd203, wd204, wd205⟩ ⟨by decide, by decide⟩ (recvO cf9 (fun _ => s_x0)) rfl rfl (Nat.le_of_ble_eq_true rfl) (Nat.le_of_ble_eq_true rfl) (by decide) (by decide) kk
set_option maxRecDepth 20000 in
theorem B9_wrap_16 {ω : Om} {h : AH} {Q : Option Value → AH → Prop} {x0 : Nat} (hw : ω.2.2.2.1 = true) (s_x0 : gs h x0 = some (9, 17)) (kk : Ex ω M9_wraps 0 [some (.ref x0), none, none, none] [] h 0 0 (fun v h' => Ex ω M9_wrap 20 [some (.ref x0)] (v.toList ++ []) h' 0 0 Q)) : Ex ω M9_wrap 16 [some (.ref x0)] [] h 0 0 Q := by
  refine x_aload0 17 dX9_wrap_16 rfl ?_
  exact x_callV 20 x0 [] [] dX9_wrap_17 rfl lk_9_wraps ⟨wd702, wd703, wd704⟩ ⟨by decide, by decide⟩ (recvO cf9 (fun _ => s_x0)) rfl rfl (Nat.le_of_ble_eq_true rfl) (Nat.le_of_ble_eq_true rfl) (by decide) (by decide) kk
set_option maxRecDepth 20000 in
theorem B9_wrap_20 {ω : Om} {h : AH} {Q : Option Value → AH → Prop} {u0 : Option Value} {y0 : Int32} (hw : ω.2.2.2.1 = true) (hq : Q (some (.int y0)) h) : Ex ω M9_wrap 20 [u0] [.int y0] h 0 0 Q := by
  refine x_dr0 ?_
  exact x_iret dX9_wrap_20 rfl (Nat.zero_le _) (Nat.zero_le _) hq
set_option maxRecDepth 20000 in
theorem B9_ifWrap_0 {ω : Om} {h : AH} {Q : Option Value → AH → Prop} {x0 : Nat} {x1 : Int32} {u2 : Option Value} (hw : ω.2.2.2.1 = true) (kk : Ex ω M9_in 0 [some (.long (Int32.toInt64 x1)), none, some (.long ((0 : Int64))), none, some (.long ((9 : Int64))), none] [] h 0 0 (fun v h' => Ex ω M9_ifWrap 9 [some (.ref x0), some (.int x1), none] (v.toList ++ []) h' 0 0 Q)) : Ex ω M9_ifWrap 0 [some (.ref x0), some (.int x1), u2] [] h 0 0 Q := by
  refine x_dr2 ?_
  refine x_iload1 1 dX9_ifWrap_0 rfl ?_
  refine x_i2l 2 dX9_ifWrap_1 rfl ?_
  refine x_lconst 0 3 dX9_ifWrap_2 rfl rfl ?_
  refine x_ldc2 9 6 dX9_ifWrap_3 rfl wd780 ?_
  exact x_callS 9 [.long (Int32.toInt64 x1), .long ((0 : Int64)), .long ((9 : Int64))] [] dX9_ifWrap_6 rfl lk_9_in ⟨wd200, wd201⟩ ⟨by decide, by decide⟩ rfl rfl (Nat.le_of_ble_eq_true rfl) (Nat.le_of_ble_eq_true rfl) (by decide) (by decide) kk
set_option maxRecDepth 20000 in
theorem B9_ifWrap_9 {ω : Om} {h : AH} {Q : Option Value → AH → Prop} {x0 : Nat} {x1 : Int32} {u2 : Option Value} {y0 : Int32} (hw : ω.2.2.2.1 = true) (kt : ¬ y0 = 0 → Ex ω M9_ifWrap 14 [some (.ref x0), some (.int x1), none] [] h 0 0 Q) (kf : y0 = 0 → Ex ω M9_ifWrap 12 [some (.ref x0), some (.int x1), none] [] h 0 0 Q) : Ex ω M9_ifWrap 9 [some (.ref x0), some (.int x1), u2] [.int y0] h 0 0 Q := by
  refine x_dr2 ?_
  exact x_if_ne 12 14 dX9_ifWrap_9 rfl (by decide) kt kf
set_option maxRecDepth 20000 in
theorem B9_ifWrap_12 {ω : Om} {h : AH} {Q : Option Value → AH → Prop} {u0 : Option Value} {u1 : Option Value} {u2 : Option Value} (hw : ω.2.2.2.1 = true) (hq : Q (some (.int ((-1)))) h) : Ex ω M9_ifWrap 12 [u0, u1, u2] [] h 0 0 Q := by
  refine x_dr0 ?_
  refine x_dr1 ?_
  refine x_dr2 ?_
  refine x_iconst ((-1)) 13 dX9_ifWrap_12 rfl rfl ?_
  exact x_iret dX9_ifWrap_13 rfl (Nat.zero_le _) (Nat.zero_le _) hq
set_option maxRecDepth 20000 in
theorem B9_ifWrap_14 {ω : Om} {h : AH} {Q : Option Value → AH → Prop} {x0 : Nat} {x1 : Int32} {u2 : Option Value} (hw : ω.2.2.2.1 = true) (s_x0 : gs h x0 = some (9, 17)) (kt : ¬ (gi h (gr h x0 0) 1) = 0 → Ex ω M9_ifWrap 26 [some (.ref x0), some (.int x1), none] [] h 0 0 Q) (kf : (gi h (gr h x0 0) 1) = 0 → Ex ω M9_ifWrap 23 [some (.ref x0), some (.int x1), none] [] h 0 0 Q) : Ex ω M9_ifWrap 14 [some (.ref x0), some (.int x1), u2] [] h 0 0 Q := by
  refine x_dr2 ?_
  refine x_aload0 15 dX9_ifWrap_14 rfl ?_
  refine x_getR cf9 0 18 hw dX9_ifWrap_15 rfl wd99 (fun _ => s_x0) (by decide) (by decide) rfl ?_
  refine x_iconst (nI 1) 19 dX9_ifWrap_18 rfl rfl ?_
  refine x_iald 1 20 dX9_ifWrap_19 rfl (SH.fld hw (fun _ => s_x0) 0 (Nat.le_of_ble_eq_true rfl) rfl rfl) (vp_c (by decide)) rfl ?_
  exact x_if_ne 23 26 dX9_ifWrap_20 rfl (by decide) kt kf
set_option maxRecDepth 20000 in
theorem B9_ifWrap_23 {ω : Om} {h : AH} {Q : Option Value → AH → Prop} {u0 : Option Value} {u1 : Option Value} {u2 : Option Value} (hw : ω.2.2.2.1 = true) (hq : Q (some (.int ((-2)))) h) : Ex ω M9_ifWrap 23 [u0, u1, u2] [] h 0 0 Q := by
  refine x_dr0 ?_
  refine x_dr1 ?_
  refine x_dr2 ?_
  refine x_bipush ((-2)) 25 dX9_ifWrap_23 rfl rfl ?_
  exact x_iret dX9_ifWrap_25 rfl (Nat.zero_le _) (Nat.zero_le _) hq
set_option maxRecDepth 20000 in
theorem B9_ifWrap_26 {ω : Om} {h : AH} {Q : Option Value → AH → Prop} {x0 : Nat} {x1 : Int32} {u2 : Option Value} (hw : ω.2.2.2.1 = true) (s_x0 : gs h x0 = some (9, 17)) (kk : Ex ω M9_laysAside 0 [some (.ref x0), none] [] h 0 0 (fun v h' => Ex ω M9_ifWrap 30 [some (.ref x0), some (.int x1), none] (v.toList ++ []) h' 0 0 Q)) : Ex ω M9_ifWrap 26 [some (.ref x0), some (.int x1), u2] [] h 0 0 Q := by
  refine x_dr2 ?_
  refine x_aload0 27 dX9_ifWrap_26 rfl ?_
  exact x_callV 30 x0 [] [] dX9_ifWrap_27 rfl lk_9_laysAside ⟨wd781, wd782, wd783⟩ ⟨by decide, by decide⟩ (recvO cf9 (fun _ => s_x0)) rfl rfl (Nat.le_of_ble_eq_true rfl) (Nat.le_of_ble_eq_true rfl) (by decide) (by decide) kk
set_option maxRecDepth 20000 in
theorem B9_ifWrap_30 {ω : Om} {h : AH} {Q : Option Value → AH → Prop} {x0 : Nat} {x1 : Int32} {u2 : Option Value} (hw : ω.2.2.2.1 = true) (s_x0 : gs h x0 = some (9, 17)) (kk : Ex ω M9_wraps 0 [some (.ref x0), none, none, none] [] h 0 0 (fun v h' => Ex ω M9_ifWrap 34 [some (.ref x0), some (.int x1), none] (v.toList ++ []) h' 0 0 Q)) : Ex ω M9_ifWrap 30 [some (.ref x0), some (.int x1), u2] [] h 0 0 Q := by
  refine x_dr2 ?_
  refine x_aload0 31 dX9_ifWrap_30 rfl ?_
  exact x_callV 34 x0 [] [] dX9_ifWrap_31 rfl lk_9_wraps ⟨wd702, wd703, wd704⟩ ⟨by decide, by decide⟩ (recvO cf9 (fun _ => s_x0)) rfl rfl (Nat.le_of_ble_eq_true rfl) (Nat.le_of_ble_eq_true rfl) (by decide) (by decide) kk
set_option maxRecDepth 20000 in
theorem B9_ifWrap_34 {ω : Om} {h : AH} {Q : Option Value → AH → Prop} {x0 : Nat} {x1 : Int32} {u2 : Option Value} {y0 : Int32} (hw : ω.2.2.2.1 = true) (s_x0 : gs h x0 = some (9, 17)) (i1 : vp_in (((gi h x0 9) + (nI 1)) + x1) 596) (kk : Ex ω M9_takesBack 0 [some (.ref x0), none] [] h 0 0 (fun v h' => Ex ω M9_ifWrap 53 [some (.ref x0), some (.int x1), some (.int (gi h (gr h x0 0) (Int32.toNatClampNeg (((gi h x0 9) + (nI 1)) + x1))))] (v.toList ++ []) h' 0 0 Q)) : Ex ω M9_ifWrap 34 [some (.ref x0), some (.int x1), u2] [.int y0] h 0 0 Q := by
  refine x_dr2 ?_
  refine x_pop 35 dX9_ifWrap_34 rfl rfl ?_
  refine x_aload0 36 dX9_ifWrap_35 rfl ?_
  refine x_getR cf9 0 39 hw dX9_ifWrap_36 rfl wd99 (fun _ => s_x0) (by decide) (by decide) rfl ?_
  refine x_aload0 40 dX9_ifWrap_39 rfl ?_
  refine x_getI cf9 9 43 dX9_ifWrap_40 rfl wd706 (fun _ => s_x0) (by decide) rfl ?_
  refine x_iconst (nI 1) 44 dX9_ifWrap_43 rfl rfl ?_
  refine x_iadd 45 dX9_ifWrap_44 rfl ?_
  refine x_iload1 46 dX9_ifWrap_45 rfl ?_
  refine x_iadd 47 dX9_ifWrap_46 rfl ?_
  refine x_iald (Int32.toNatClampNeg (((gi h x0 9) + (nI 1)) + x1)) 48 dX9_ifWrap_47 rfl (SH.fld hw (fun _ => s_x0) 0 (Nat.le_of_ble_eq_true rfl) rfl rfl) i1 rfl ?_
  refine x_istore2 49 dX9_ifWrap_48 rfl (by decide) rfl ?_
  refine x_aload0 50 dX9_ifWrap_49 rfl ?_
  exact x_callV 53 x0 [] [] dX9_ifWrap_50 rfl lk_9_takesBack ⟨wd785, wd786, wd787⟩ ⟨by decide, by decide⟩ (recvO cf9 (fun _ => s_x0)) rfl rfl (Nat.le_of_ble_eq_true rfl) (Nat.le_of_ble_eq_true rfl) (by decide) (by decide) kk
set_option maxRecDepth 20000 in
theorem B9_ifWrap_53 {ω : Om} {h : AH} {Q : Option Value → AH → Prop} {u0 : Option Value} {u1 : Option Value} {x2 : Int32} (hw : ω.2.2.2.1 = true) (hq : Q (some (.int x2)) h) : Ex ω M9_ifWrap 53 [u0, u1, some (.int x2)] [] h 0 0 Q := by
  refine x_dr0 ?_
  refine x_dr1 ?_
  refine x_iload2 54 dX9_ifWrap_53 rfl ?_
  exact x_iret dX9_ifWrap_54 rfl (Nat.zero_le _) (Nat.zero_le _) hq
set_option maxRecDepth 20000 in
theorem B9_keptAt_0 {ω : Om} {h : AH} {Q : Option Value → AH → Prop} {x0 : Nat} {x1 : Int32} (hw : ω.2.2.2.1 = true) (s_x0 : gs h x0 = some (9, 17)) (kk : Ex ω M9_lesser 0 [some (.int (gi h (gr h x0 0) 7)), some (.int (nI 6))] [] h 0 0 (fun v h' => Ex ω M9_keptAt 13 [some (.ref x0), some (.int x1)] (v.toList ++ [.int x1]) h' 0 0 Q)) : Ex ω M9_keptAt 0 [some (.ref x0), some (.int x1)] [] h 0 0 Q := by
  refine x_iload1 1 dX9_keptAt_0 rfl ?_
  refine x_aload0 2 dX9_keptAt_1 rfl ?_
  refine x_getR cf9 0 5 hw dX9_keptAt_2 rfl wd99 (fun _ => s_x0) (by decide) (by decide) rfl ?_
  refine x_bipush (nI 7) 7 dX9_keptAt_5 rfl rfl ?_
  refine x_iald 7 8 dX9_keptAt_7 rfl (SH.fld hw (fun _ => s_x0) 0 (Nat.le_of_ble_eq_true rfl) rfl rfl) (vp_c (by decide)) rfl ?_
  refine x_bipush (nI 6) 10 dX9_keptAt_8 rfl rfl ?_
  exact x_callS 13 [.int (gi h (gr h x0 0) 7), .int (nI 6)] [.int x1] dX9_keptAt_10 rfl lk_9_lesser ⟨wd757, wd758⟩ ⟨by decide, by decide⟩ rfl rfl (Nat.le_of_ble_eq_true rfl) (Nat.le_of_ble_eq_true rfl) (by decide) (by decide) kk
set_option maxRecDepth 20000 in
theorem B9_keptAt_13 {ω : Om} {h : AH} {Q : Option Value → AH → Prop} {x0 : Nat} {x1 : Int32} {y0 : Int32} {y1 : Int32} (hw : ω.2.2.2.1 = true) (kt : y1 ≤ y0 → Ex ω M9_keptAt 40 [some (.ref x0), some (.int x1)] [] h 0 0 Q) (kf : ¬ y1 ≤ y0 → Ex ω M9_keptAt 16 [some (.ref x0), some (.int x1)] [] h 0 0 Q) : Ex ω M9_keptAt 13 [some (.ref x0), some (.int x1)] [.int y1, .int y0] h 0 0 Q := by
  exact x_icmp_ge 16 40 dX9_keptAt_13 rfl (by decide) kt kf
set_option maxRecDepth 20000 in
theorem B9_keptAt_16 {ω : Om} {h : AH} {Q : Option Value → AH → Prop} {x0 : Nat} {x1 : Int32} (hw : ω.2.2.2.1 = true) (s_x0 : gs h x0 = some (9, 17)) (kt : Ex ω M9_keptAt 41 [some (.ref x0), some (.int x1)] [.int ((nI 212) + ((nI 64) * ((((gi h (gr h x0 0) 7) - (nI 1)) - x1) - (((gi h (gr h x0 0) 7) - (nI 1)) - x1) / (nI 6) * (nI 6))))] h 0 0 Q) : Ex ω M9_keptAt 16 [some (.ref x0), some (.int x1)] [] h 0 0 Q := by
  refine x_sipush (nI 212) 19 dX9_keptAt_16 rfl rfl ?_
  refine x_bipush (nI 64) 21 dX9_keptAt_19 rfl rfl ?_
  refine x_aload0 22 dX9_keptAt_21 rfl ?_
  refine x_getR cf9 0 25 hw dX9_keptAt_22 rfl wd99 (fun _ => s_x0) (by decide) (by decide) rfl ?_
  refine x_bipush (nI 7) 27 dX9_keptAt_25 rfl rfl ?_
  refine x_iald 7 28 dX9_keptAt_27 rfl (SH.fld hw (fun _ => s_x0) 0 (Nat.le_of_ble_eq_true rfl) rfl rfl) (vp_c (by decide)) rfl ?_
  refine x_iconst (nI 1) 29 dX9_keptAt_28 rfl rfl ?_
  refine x_isub 30 dX9_keptAt_29 rfl ?_
  refine x_iload1 31 dX9_keptAt_30 rfl ?_
  refine x_isub 32 dX9_keptAt_31 rfl ?_
  refine x_bipush (nI 6) 34 dX9_keptAt_32 rfl rfl ?_
  refine x_irem 35 dX9_keptAt_34 rfl (by decide) ?_
  refine x_imul 36 dX9_keptAt_35 rfl ?_
  refine x_iadd 37 dX9_keptAt_36 rfl ?_
  exact x_goto 41 dX9_keptAt_37 (by decide) kt
set_option maxRecDepth 20000 in
theorem B9_keptAt_40 {ω : Om} {h : AH} {Q : Option Value → AH → Prop} {u0 : Option Value} {u1 : Option Value} (hw : ω.2.2.2.1 = true) (kf : Ex ω M9_keptAt 41 [none, none] [.int ((-1))] h 0 0 Q) : Ex ω M9_keptAt 40 [u0, u1] [] h 0 0 Q := by
  refine x_dr0 ?_
  refine x_dr1 ?_
  refine x_iconst ((-1)) 41 dX9_keptAt_40 rfl rfl ?_
  exact kf
set_option maxRecDepth 20000 in
theorem B9_keptAt_41 {ω : Om} {h : AH} {Q : Option Value → AH → Prop} {u0 : Option Value} {u1 : Option Value} {y0 : Int32} (hw : ω.2.2.2.1 = true) (hq : Q (some (.int y0)) h) : Ex ω M9_keptAt 41 [u0, u1] [.int y0] h 0 0 Q := by
  refine x_dr0 ?_
  refine x_dr1 ?_
  exact x_iret dX9_keptAt_41 rfl (Nat.zero_le _) (Nat.zero_le _) hq
set_option maxRecDepth 20000 in
theorem B9_done_0 {ω : Om} {h : AH} {Q : Option Value → AH → Prop} {x0 : Nat} {x1 : Int32} {x2 : Int32} {u3 : Option Value} (hw : ω.2.2.2.1 = true) (kt : x1 < 0 → Ex ω M9_done 16 [some (.ref x0), some (.int x1), some (.int x2), none] [] h 0 0 Q) (kf : ¬ x1 < 0 → Ex ω M9_done 4 [some (.ref x0), some (.int x1), some (.int x2), none] [] h 0 0 Q) : Ex ω M9_done 0 [some (.ref x0), some (.int x1), some (.int x2), u3] [] h 0 0 Q := by
  refine x_dr3 ?_
  refine x_iload1 1 dX9_done_0 rfl ?_
  exact x_if_lt 4 16 dX9_done_1 rfl (by decide) kt kf
set_option maxRecDepth 20000 in
theorem B9_done_4 {ω : Om} {h : AH} {Q : Option Value → AH → Prop} {x0 : Nat} {x1 : Int32} {x2 : Int32} {u3 : Option Value} (hw : ω.2.2.2.1 = true) (kk : Ex ω M9_in 0 [some (.long (Int32.toInt64 x2)), none, some (.long ((0 : Int64))), none, some (.long ((12 : Int64))), none] [] h 0 0 (fun v h' => Ex ω M9_done 13 [some (.ref x0), some (.int x1), some (.int x2), none] (v.toList ++ []) h' 0 0 Q)) : Ex ω M9_done 4 [some (.ref x0), some (.int x1), some (.int x2), u3] [] h 0 0 Q := by
  refine x_dr3 ?_
  refine x_iload2 5 dX9_done_4 rfl ?_
  refine x_i2l 6 dX9_done_5 rfl ?_
  refine x_lconst 0 7 dX9_done_6 rfl rfl ?_
  refine x_ldc2 12 10 dX9_done_7 rfl wd798 ?_
  exact x_callS 13 [.long (Int32.toInt64 x2), .long ((0 : Int64)), .long ((12 : Int64))] [] dX9_done_10 rfl lk_9_in ⟨wd200, wd201⟩ ⟨by decide, by decide⟩ rfl rfl (Nat.le_of_ble_eq_true rfl) (Nat.le_of_ble_eq_true rfl) (by decide) (by decide) kk
set_option maxRecDepth 20000 in
theorem B9_done_13 {ω : Om} {h : AH} {Q : Option Value → AH → Prop} {x0 : Nat} {x1 : Int32} {x2 : Int32} {u3 : Option Value} {y0 : Int32} (hw : ω.2.2.2.1 = true) (kt : ¬ y0 = 0 → Ex ω M9_done 18 [some (.ref x0), some (.int x1), some (.int x2), none] [] h 0 0 Q) (kf : y0 = 0 → Ex ω M9_done 16 [some (.ref x0), some (.int x1), some (.int x2), none] [] h 0 0 Q) : Ex ω M9_done 13 [some (.ref x0), some (.int x1), some (.int x2), u3] [.int y0] h 0 0 Q := by
  refine x_dr3 ?_
  exact x_if_ne 16 18 dX9_done_13 rfl (by decide) kt kf
set_option maxRecDepth 20000 in
theorem B9_done_16 {ω : Om} {h : AH} {Q : Option Value → AH → Prop} {u0 : Option Value} {u1 : Option Value} {u2 : Option Value} {u3 : Option Value} (hw : ω.2.2.2.1 = true) (hq : Q (some (.int ((-1)))) h) : Ex ω M9_done 16 [u0, u1, u2, u3] [] h 0 0 Q := by
  refine x_dr0 ?_
  refine x_dr1 ?_
  refine x_dr2 ?_
  refine x_dr3 ?_
  refine x_iconst ((-1)) 17 dX9_done_16 rfl rfl ?_
  exact x_iret dX9_done_17 rfl (Nat.zero_le _) (Nat.zero_le _) hq
set_option maxRecDepth 20000 in
theorem B9_done_18 {ω : Om} {h : AH} {Q : Option Value → AH → Prop} {x0 : Nat} {x1 : Int32} {x2 : Int32} {u3 : Option Value} (hw : ω.2.2.2.1 = true) (s_x0 : gs h x0 = some (9, 17)) (kk : Ex ω M9_keptAt 0 [some (.ref x0), some (.int x1)] [] h 0 0 (fun v h' => Ex ω M9_done 23 [some (.ref x0), some (.int x1), some (.int x2), none] (v.toList ++ []) h' 0 0 Q)) : Ex ω M9_done 18 [some (.ref x0), some (.int x1), some (.int x2), u3] [] h 0 0 Q := by
  refine x_dr3 ?_
  refine x_aload0 19 dX9_done_18 rfl ?_
  refine x_iload1 20 dX9_done_19 rfl ?_
  exact x_callV 23 x0 [.int x1] [] dX9_done_20 rfl lk_9_keptAt ⟨wd799, wd800, wd801⟩ ⟨by decide, by decide⟩ (recvO cf9 (fun _ => s_x0)) rfl rfl (Nat.le_of_ble_eq_true rfl) (Nat.le_of_ble_eq_true rfl) (by decide) (by decide) kk
set_option maxRecDepth 20000 in
theorem B9_done_23 {ω : Om} {h : AH} {Q : Option Value → AH → Prop} {x0 : Nat} {u1 : Option Value} {x2 : Int32} {u3 : Option Value} {y0 : Int32} (hw : ω.2.2.2.1 = true) (kt : 0 ≤ y0 → Ex ω M9_done 33 [some (.ref x0), none, some (.int x2), some (.int y0)] [] h 0 0 Q) (kf : ¬ 0 ≤ y0 → Ex ω M9_done 28 [some (.ref x0), none, some (.int x2), some (.int y0)] [] h 0 0 Q) : Ex ω M9_done 23 [some (.ref x0), u1, some (.int x2), u3] [.int y0] h 0 0 Q := by
  refine x_dr1 ?_
  refine x_dr3 ?_
  refine x_istore3 24 dX9_done_23 rfl (by decide) rfl ?_
  refine x_iload3 25 dX9_done_24 rfl ?_
  exact x_if_ge 28 33 dX9_done_25 rfl (by decide) kt kf
set_option maxRecDepth 20000 in
theorem B9_done_28 {ω : Om} {h : AH} {Q : Option Value → AH → Prop} {u0 : Option Value} {u1 : Option Value} {u2 : Option Value} {u3 : Option Value} (hw : ω.2.2.2.1 = true) (kt : Ex ω M9_done 41 [none, none, none, none] [.int ((-4))] h 0 0 Q) : Ex ω M9_done 28 [u0, u1, u2, u3] [] h 0 0 Q := by
  refine x_dr0 ?_
  refine x_dr1 ?_
  refine x_dr2 ?_
  refine x_dr3 ?_
  refine x_bipush ((-4)) 30 dX9_done_28 rfl rfl ?_
  exact x_goto 41 dX9_done_30 (by decide) kt
set_option maxRecDepth 20000 in
theorem B9_done_33 {ω : Om} {h : AH} {Q : Option Value → AH → Prop} {x0 : Nat} {u1 : Option Value} {x2 : Int32} {x3 : Int32} (hw : ω.2.2.2.1 = true) (s_x0 : gs h x0 = some (9, 17)) (i1 : vp_in (x3 + x2) 596) (kf : Ex ω M9_done 41 [some (.ref x0), none, some (.int x2), some (.int x3)] [.int (gi h (gr h x0 0) (Int32.toNatClampNeg (x3 + x2)))] h 0 0 Q) : Ex ω M9_done 33 [some (.ref x0), u1, some (.int x2), some (.int x3)] [] h 0 0 Q := by
  refine x_dr1 ?_
  refine x_aload0 34 dX9_done_33 rfl ?_
  refine x_getR cf9 0 37 hw dX9_done_34 rfl wd99 (fun _ => s_x0) (by decide) (by decide) rfl ?_
  refine x_iload3 38 dX9_done_37 rfl ?_
  refine x_iload2 39 dX9_done_38 rfl ?_
  refine x_iadd 40 dX9_done_39 rfl ?_
  refine x_iald (Int32.toNatClampNeg (x3 + x2)) 41 dX9_done_40 rfl (SH.fld hw (fun _ => s_x0) 0 (Nat.le_of_ble_eq_true rfl) rfl rfl) i1 rfl ?_
  exact kf
set_option maxRecDepth 20000 in
theorem B9_done_41 {ω : Om} {h : AH} {Q : Option Value → AH → Prop} {u0 : Option Value} {u1 : Option Value} {u2 : Option Value} {u3 : Option Value} {y0 : Int32} (hw : ω.2.2.2.1 = true) (hq : Q (some (.int y0)) h) : Ex ω M9_done 41 [u0, u1, u2, u3] [.int y0] h 0 0 Q := by
  refine x_dr0 ?_
  refine x_dr1 ?_
  refine x_dr2 ?_
  refine x_dr3 ?_
  exact x_iret dX9_done_41 rfl (Nat.zero_le _) (Nat.zero_le _) hq
set_option maxRecDepth 20000 in
theorem B9_zone_0 {ω : Om} {h : AH} {Q : Option Value → AH → Prop} {x0 : Nat} {x1 : Int32} {x2 : Int32} {x3 : Int32} {u4 : Option Value} (hw : ω.2.2.2.1 = true) (kt : x1 < 0 → Ex ω M9_zone 18 [some (.ref x0), some (.int x1), some (.int x2), some (.int x3), none] [] h 0 0 Q) (kf : ¬ x1 < 0 → Ex ω M9_zone 4 [some (.ref x0), some (.int x1), some (.int x2), some (.int x3), none] [] h 0 0 Q) : Ex ω M9_zone 0 [some (.ref x0), some (.int x1), some (.int x2), some (.int x3), u4] [] h 0 0 Q := by
  refine x_dr4 ?_
  refine x_iload1 1 dX9_zone_0 rfl ?_
  exact x_if_lt 4 18 dX9_zone_1 rfl (by decide) kt kf
set_option maxRecDepth 20000 in
theorem B9_zone_4 {ω : Om} {h : AH} {Q : Option Value → AH → Prop} {x0 : Nat} {x1 : Int32} {x2 : Int32} {x3 : Int32} {u4 : Option Value} (hw : ω.2.2.2.1 = true) (kt : x2 < 0 → Ex ω M9_zone 18 [some (.ref x0), some (.int x1), some (.int x2), some (.int x3), none] [] h 0 0 Q) (kf : ¬ x2 < 0 → Ex ω M9_zone 8 [some (.ref x0), some (.int x1), some (.int x2), some (.int x3), none] [] h 0 0 Q) : Ex ω M9_zone 4 [some (.ref x0), some (.int x1), some (.int x2), some (.int x3), u4] [] h 0 0 Q := by
  refine x_dr4 ?_
  refine x_iload2 5 dX9_zone_4 rfl ?_
  exact x_if_lt 8 18 dX9_zone_5 rfl (by decide) kt kf
set_option maxRecDepth 20000 in
theorem B9_zone_8 {ω : Om} {h : AH} {Q : Option Value → AH → Prop} {x0 : Nat} {x1 : Int32} {x2 : Int32} {x3 : Int32} {u4 : Option Value} (hw : ω.2.2.2.1 = true) (kk : Ex ω M9_in 0 [some (.long (Int32.toInt64 x3)), none, some (.long ((0 : Int64))), none, some (.long ((1 : Int64))), none] [] h 0 0 (fun v h' => Ex ω M9_zone 15 [some (.ref x0), some (.int x1), some (.int x2), some (.int x3), none] (v.toList ++ []) h' 0 0 Q)) : Ex ω M9_zone 8 [some (.ref x0), some (.int x1), some (.int x2), some (.int x3), u4] [] h 0 0 Q := by
  refine x_dr4 ?_
  refine x_iload3 9 dX9_zone_8 rfl ?_
  refine x_i2l 10 dX9_zone_9 rfl ?_
  refine x_lconst 0 11 dX9_zone_10 rfl rfl ?_
  refine x_lconst 1 12 dX9_zone_11 rfl rfl ?_
  exact x_callS 15 [.long (Int32.toInt64 x3), .long ((0 : Int64)), .long ((1 : Int64))] [] dX9_zone_12 rfl lk_9_in ⟨wd200, wd201⟩ ⟨by decide, by decide⟩ rfl rfl (Nat.le_of_ble_eq_true rfl) (Nat.le_of_ble_eq_true rfl) (by decide) (by decide) kk
set_option maxRecDepth 20000 in
theorem B9_zone_15 {ω : Om} {h : AH} {Q : Option Value → AH → Prop} {x0 : Nat} {x1 : Int32} {x2 : Int32} {x3 : Int32} {u4 : Option Value} {y0 : Int32} (hw : ω.2.2.2.1 = true) (kt : ¬ y0 = 0 → Ex ω M9_zone 20 [some (.ref x0), some (.int x1), some (.int x2), some (.int x3), none] [] h 0 0 Q) (kf : y0 = 0 → Ex ω M9_zone 18 [some (.ref x0), some (.int x1), some (.int x2), some (.int x3), none] [] h 0 0 Q) : Ex ω M9_zone 15 [some (.ref x0), some (.int x1), some (.int x2), some (.int x3), u4] [.int y0] h 0 0 Q := by
  refine x_dr4 ?_
  exact x_if_ne 18 20 dX9_zone_15 rfl (by decide) kt kf
set_option maxRecDepth 20000 in
theorem B9_zone_18 {ω : Om} {h : AH} {Q : Option Value → AH → Prop} {u0 : Option Value} {u1 : Option Value} {u2 : Option Value} {u3 : Option Value} {u4 : Option Value} (hw : ω.2.2.2.1 = true) (hq : Q (some (.int ((-1)))) h) : Ex ω M9_zone 18 [u0, u1, u2, u3, u4] [] h 0 0 Q := by
  refine x_dr0 ?_
  refine x_dr1 ?_
  refine x_dr2 ?_
  refine x_dr3 ?_
  refine x_dr4 ?_
  refine x_iconst ((-1)) 19 dX9_zone_18 rfl rfl ?_
  exact x_iret dX9_zone_19 rfl (Nat.zero_le _) (Nat.zero_le _) hq
set_option maxRecDepth 20000 in
theorem B9_zone_20 {ω : Om} {h : AH} {Q : Option Value → AH → Prop} {x0 : Nat} {x1 : Int32} {x2 : Int32} {x3 : Int32} {u4 : Option Value} (hw : ω.2.2.2.1 = true) (s_x0 : gs h x0 = some (9, 17)) (kk : Ex ω M9_keptAt 0 [some (.ref x0), some (.int x1)] [] h 0 0 (fun v h' => Ex ω M9_zone 25 [some (.ref x0), some (.int x1), some (.int x2), some (.int x3), none] (v.toList ++ []) h' 0 0 Q)) : Ex ω M9_zone 20 [some (.ref x0), some (.int x1), some (.int x2), some (.int x3), u4] [] h 0 0 Q := by
  refine x_dr4 ?_
  refine x_aload0 21 dX9_zone_20 rfl ?_
  refine x_iload1 22 dX9_zone_21 rfl ?_
  exact x_callV 25 x0 [.int x1] [] dX9_zone_22 rfl lk_9_keptAt ⟨wd799, wd800, wd801⟩ ⟨by decide, by decide⟩ (recvO cf9 (fun _ => s_x0)) rfl rfl (Nat.le_of_ble_eq_true rfl) (Nat.le_of_ble_eq_true rfl) (by decide) (by decide) kk
set_option maxRecDepth 20000 in
theorem B9_zone_25 {ω : Om} {h : AH} {Q : Option Value → AH → Prop} {x0 : Nat} {u1 : Option Value} {x2 : Int32} {x3 : Int32} {u4 : Option Value} {y0 : Int32} (hw : ω.2.2.2.1 = true) (kt : y0 < 0 → Ex ω M9_zone 46 [some (.ref x0), none, some (.int x2), some (.int x3), some (.int y0)] [] h 0 0 Q) (kf : ¬ y0 < 0 → Ex ω M9_zone 32 [some (.ref x0), none, some (.int x2), some (.int x3), some (.int y0)] [] h 0 0 Q) : Ex ω M9_zone 25 [some (.ref x0), u1, some (.int x2), some (.int x3), u4] [.int y0] h 0 0 Q := by
  refine x_dr1 ?_
  refine x_dr4 ?_
  refine x_istore4 27 dX9_zone_25 rfl (by decide) rfl ?_
  refine x_iload4 29 dX9_zone_27 rfl ?_
  exact x_if_lt 32 46 dX9_zone_29 rfl (by decide) kt kf
set_option maxRecDepth 20000 in
theorem B9_zone_32 {ω : Om} {h : AH} {Q : Option Value → AH → Prop} {x0 : Nat} {u1 : Option Value} {x2 : Int32} {x3 : Int32} {x4 : Int32} (hw : ω.2.2.2.1 = true) (s_x0 : gs h x0 = some (9, 17)) (i1 : vp_in (x4 + (nI 12)) 596) (kt : x2 < (gi h (gr h x0 0) (Int32.toNatClampNeg (x4 + (nI 12)))) → Ex ω M9_zone 51 [some (.ref x0), none, some (.int x2), some (.int x3), some (.int x4)] [] h 0 0 Q) (kf : ¬ x2 < (gi h (gr h x0 0) (Int32.toNatClampNeg (x4 + (nI 12)))) → Ex ω M9_zone 46 [some (.ref x0), none, some (.int x2), some (.int x3), some (.int x4)] [] h 0 0 Q) : Ex ω M9_zone 32 [some (.ref x0), u1, some (.int x2), some (.int x3), some (.int x4)] [] h 0 0 Q := by
  refine x_dr1 ?_
  refine x_iload2 33 dX9_zone_32 rfl ?_
  refine x_aload0 34 dX9_zone_33 rfl ?_
  refine x_getR cf9 0 37 hw dX9_zone_34 rfl wd99 (fun _ => s_x0) (by decide) (by decide) rfl ?_
  refine x_iload4 39 dX9_zone_37 rfl ?_
  refine x_bipush (nI 12) 41 dX9_zone_39 rfl rfl ?_
  refine x_iadd 42 dX9_zone_41 rfl ?_
  refine x_iald (Int32.toNatClampNeg (x4 + (nI 12))) 43 dX9_zone_42 rfl (SH.fld hw (fun _ => s_x0) 0 (Nat.le_of_ble_eq_true rfl) rfl rfl) i1 rfl ?_
  exact x_icmp_lt 46 51 dX9_zone_43 rfl (by decide) kt kf
set_option maxRecDepth 20000 in
theorem B9_zone_46 {ω : Om} {h : AH} {Q : Option Value → AH → Prop} {u0 : Option Value} {u1 : Option Value} {u2 : Option Value} {u3 : Option Value} {u4 : Option Value} (hw : ω.2.2.2.1 = true) (kt : Ex ω M9_zone 72 [none, none, none, none, none] [.int ((-4))] h 0 0 Q) : Ex ω M9_zone 46 [u0, u1, u2, u3, u4] [] h 0 0 Q := by
  refine x_dr0 ?_
  refine x_dr1 ?_
  refine x_dr2 ?_
  refine x_dr3 ?_
  refine x_dr4 ?_
  refine x_bipush ((-4)) 48 dX9_zone_46 rfl rfl ?_
  exact x_goto 72 dX9_zone_48 (by decide) kt
set_option maxRecDepth 20000 in
theorem B9_zone_51 {ω : Om} {h : AH} {Q : Option Value → AH → Prop} {x0 : Nat} {u1 : Option Value} {x2 : Int32} {x3 : Int32} {x4 : Int32} (hw : ω.2.2.2.1 = true) (s_x0 : gs h x0 = some (9, 17)) (kt : ¬ x3 = 0 → Ex ω M9_zone 66 [some (.ref x0), none, some (.int x2), some (.int x3), some (.int x4)] [.int x4, .ref (gr h x0 0)] h 0 0 Q) (kf : x3 = 0 → Ex ω M9_zone 61 [some (.ref x0), none, some (.int x2), some (.int x3), some (.int x4)] [.int x4, .ref (gr h x0 0)] h 0 0 Q) : Ex ω M9_zone 51 [some (.ref x0), u1, some (.int x2), some (.int x3), some (.int x4)] [] h 0 0 Q := by
  refine x_dr1 ?_
  refine x_aload0 52 dX9_zone_51 rfl ?_
  refine x_getR cf9 0 55 hw dX9_zone_52 rfl wd99 (fun _ => s_x0) (by decide) (by decide) rfl ?_
  refine x_iload4 57 dX9_zone_55 rfl ?_
  refine x_iload3 58 dX9_zone_57 rfl ?_
  exact x_if_ne 61 66 dX9_zone_58 rfl (by decide) kt kf
set_option maxRecDepth 20000 in
theorem B9_zone_61 {ω : Om} {h : AH} {Q : Option Value → AH → Prop} {u0 : Option Value} {u1 : Option Value} {x2 : Int32} {u3 : Option Value} {u4 : Option Value} {y0 : Nat} {y1 : Int32} (hw : ω.2.2.2.1 = true) (kt : Ex ω M9_zone 68 [none, none, some (.int x2), none, none] [.int (nI 13), .int y1, .ref y0] h 0 0 Q) : Ex ω M9_zone 61 [u0, u1, some (.int x2), u3, u4] [.int y1, .ref y0] h 0 0 Q := by
  refine x_dr0 ?_
  refine x_dr1 ?_
  refine x_dr3 ?_
  refine x_dr4 ?_
  refine x_bipush (nI 13) 63 dX9_zone_61 rfl rfl ?_
  exact x_goto 68 dX9_zone_63 (by decide) kt
set_option maxRecDepth 20000 in
theorem B9_zone_66 {ω : Om} {h : AH} {Q : Option Value → AH → Prop} {u0 : Option Value} {u1 : Option Value} {x2 : Int32} {u3 : Option Value} {u4 : Option Value} {y0 : Nat} {y1 : Int32} (hw : ω.2.2.2.1 = true) (kf : Ex ω M9_zone 68 [none, none, some (.int x2), none, none] [.int (nI 38), .int y1, .ref y0] h 0 0 Q) : Ex ω M9_zone 66 [u0, u1, some (.int x2), u3, u4] [.int y1, .ref y0] h 0 0 Q := by
  refine x_dr0 ?_
  refine x_dr1 ?_
  refine x_dr3 ?_
  refine x_dr4 ?_
  refine x_bipush (nI 38) 68 dX9_zone_66 rfl rfl ?_
  exact kf
set_option maxRecDepth 20000 in
theorem B9_zone_68 {ω : Om} {h : AH} {Q : Option Value → AH → Prop} {u0 : Option Value} {u1 : Option Value} {x2 : Int32} {u3 : Option Value} {u4 : Option Value} {y0 : Nat} {y1 : Int32} {y2 : Int32} {ny0 : Nat} (hw : ω.2.2.2.1 = true) (s_y0 : gs h y0 = some (10, ny0)) (i1 : vp_in ((y1 + y2) + x2) ny0) (kf : Ex ω M9_zone 72 [none, none, some (.int x2), none, none] [.int (gi h y0 (Int32.toNatClampNeg ((y1 + y2) + x2)))] h 0 0 Q) : Ex ω M9_zone 68 [u0, u1, some (.int x2), u3, u4] [.int y2, .int y1, .ref y0] h 0 0 Q := by
  refine x_dr0 ?_
  refine x_dr1 ?_
  refine x_dr3 ?_
  refine x_dr4 ?_
  refine x_iadd 69 dX9_zone_68 rfl ?_
  refine x_iload2 70 dX9_zone_69 rfl ?_
  refine x_iadd 71 dX9_zone_70 rfl ?_
  refine x_iald (Int32.toNatClampNeg ((y1 + y2) + x2)) 72 dX9_zone_71 rfl (fun _ => s_y0) i1 rfl ?_
  exact kf
set_option maxRecDepth 20000 in
theorem B9_zone_72 {ω : Om} {h : AH} {Q : Option Value → AH → Prop} {u0 : Option Value} {u1 : Option Value} {u2 : Option Value} {u3 : Option Value} {u4 : Option Value} {y0 : Int32} (hw : ω.2.2.2.1 = true) (hq : Q (some (.int y0)) h) : Ex ω M9_zone 72 [u0, u1, u2, u3, u4] [.int y0] h 0 0 Q := by
  refine x_dr0 ?_
  refine x_dr1 ?_
  refine x_dr2 ?_
  refine x_dr3 ?_
  refine x_dr4 ?_
  exact x_iret dX9_zone_72 rfl (Nat.zero_le _) (Nat.zero_le _) hq
set_option maxRecDepth 20000 in
theorem B9_total_0 {ω : Om} {h : AH} {Q : Option Value → AH → Prop} {x0 : Nat} {x1 : Int32} (hw : ω.2.2.2.1 = true) (kk : Ex ω M9_in 0 [some (.long (Int32.toInt64 x1)), none, some (.long ((0 : Int64))), none, some (.long ((9 : Int64))), none] [] h 0 0 (fun v h' => Ex ω M9_total 9 [some (.ref x0), some (.int x1)] (v.toList ++ []) h' 0 0 Q)) : Ex ω M9_total 0 [some (.ref x0), some (.int x1)] [] h 0 0 Q := by
  refine x_iload1 1 dX9_total_0 rfl ?_
  refine x_i2l 2 dX9_total_1 rfl ?_
  refine x_lconst 0 3 dX9_total_2 rfl rfl ?_
  refine x_ldc2 9 6 dX9_total_3 rfl wd780 ?_
  exact x_callS 9 [.long (Int32.toInt64 x1), .long ((0 : Int64)), .long ((9 : Int64))] [] dX9_total_6 rfl lk_9_in ⟨wd200, wd201⟩ ⟨by decide, by decide⟩ rfl rfl (Nat.le_of_ble_eq_true rfl) (Nat.le_of_ble_eq_true rfl) (by decide) (by decide) kk
set_option maxRecDepth 20000 in
theorem B9_total_9 {ω : Om} {h : AH} {Q : Option Value → AH → Prop} {x0 : Nat} {x1 : Int32} {y0 : Int32} (hw : ω.2.2.2.1 = true) (kt : y0 = 0 → Ex ω M9_total 24 [some (.ref x0), some (.int x1)] [] h 0 0 Q) (kf : ¬ y0 = 0 → Ex ω M9_total 12 [some (.ref x0), some (.int x1)] [] h 0 0 Q) : Ex ω M9_total 9 [some (.ref x0), some (.int x1)] [.int y0] h 0 0 Q := by
  exact x_if_eq 12 24 dX9_total_9 rfl (by decide) kt kf
set_option maxRecDepth 20000 in
theorem B9_total_12 {ω : Om} {h : AH} {Q : Option Value → AH → Prop} {x0 : Nat} {x1 : Int32} (hw : ω.2.2.2.1 = true) (s_x0 : gs h x0 = some (9, 17)) (i1 : vp_in ((nI 8) + x1) 596) (kt : Ex ω M9_total 25 [some (.ref x0), some (.int x1)] [.int (gi h (gr h x0 0) (Int32.toNatClampNeg ((nI 8) + x1)))] h 0 0 Q) : Ex ω M9_total 12 [some (.ref x0), some (.int x1)] [] h 0 0 Q := by
  refine x_aload0 13 dX9_total_12 rfl ?_
  refine x_getR cf9 0 16 hw dX9_total_13 rfl wd99 (fun _ => s_x0) (by decide) (by decide) rfl ?_
  refine x_bipush (nI 8) 18 dX9_total_16 rfl rfl ?_
  refine x_iload1 19 dX9_total_18 rfl ?_
  refine x_iadd 20 dX9_total_19 rfl ?_
  refine x_iald (Int32.toNatClampNeg ((nI 8) + x1)) 21 dX9_total_20 rfl (SH.fld hw (fun _ => s_x0) 0 (Nat.le_of_ble_eq_true rfl) rfl rfl) i1 rfl ?_
  exact x_goto 25 dX9_total_21 (by decide) kt
set_option maxRecDepth 20000 in
theorem B9_total_24 {ω : Om} {h : AH} {Q : Option Value → AH → Prop} {u0 : Option Value} {u1 : Option Value} (hw : ω.2.2.2.1 = true) (kf : Ex ω M9_total 25 [none, none] [.int ((-1))] h 0 0 Q) : Ex ω M9_total 24 [u0, u1] [] h 0 0 Q := by
  refine x_dr0 ?_
  refine x_dr1 ?_
  refine x_iconst ((-1)) 25 dX9_total_24 rfl rfl ?_
  exact kf
set_option maxRecDepth 20000 in
theorem B9_total_25 {ω : Om} {h : AH} {Q : Option Value → AH → Prop} {u0 : Option Value} {u1 : Option Value} {y0 : Int32} (hw : ω.2.2.2.1 = true) (hq : Q (some (.int y0)) h) : Ex ω M9_total 25 [u0, u1] [.int y0] h 0 0 Q := by
  refine x_dr0 ?_
  refine x_dr1 ?_
  exact x_iret dX9_total_25 rfl (Nat.zero_le _) (Nat.zero_le _) hq
set_option maxRecDepth 20000 in
theorem B9_weight_0 {ω : Om} {h : AH} {Q : Option Value → AH → Prop} {x0 : Nat} (hw : ω.2.2.2.1 = true) (s_x0 : gs h x0 = some (9, 17)) (hq : Q (some (.long ((((1000000000 : Int64)) * (Int32.toInt64 (gi h (gr h x0 0) 19))) + (Int32.toInt64 (gi h (gr h x0 0) 18))))) h) : Ex ω M9_weight 0 [some (.ref x0)] [] h 0 0 Q := by
  refine x_ldc2 1000000000 3 dX9_weight_0 rfl wd835 ?_
  refine x_aload0 4 dX9_weight_3 rfl ?_
  refine x_getR cf9 0 7 hw dX9_weight_4 rfl wd99 (fun _ => s_x0) (by decide) (by decide) rfl ?_
  refine x_bipush (nI 19) 9 dX9_weight_7 rfl rfl ?_
  refine x_iald 19 10 dX9_weight_9 rfl (SH.fld hw (fun _ => s_x0) 0 (Nat.le_of_ble_eq_true rfl) rfl rfl) (vp_c (by decide)) rfl ?_
  refine x_i2l 11 dX9_weight_10 rfl ?_
  refine x_lmul 12 dX9_weight_11 rfl ?_
  refine x_aload0 13 dX9_weight_12 rfl ?_
  refine x_getR cf9 0 16 hw dX9_weight_13 rfl wd99 (fun _ => s_x0) (by decide) (by decide) rfl ?_
  refine x_bipush (nI 18) 18 dX9_weight_16 rfl rfl ?_
  refine x_iald 18 19 dX9_weight_18 rfl (SH.fld hw (fun _ => s_x0) 0 (Nat.le_of_ble_eq_true rfl) rfl rfl) (vp_c (by decide)) rfl ?_
  refine x_i2l 20 dX9_weight_19 rfl ?_
  refine x_ladd 21 dX9_weight_20 rfl ?_
  exact x_lret dX9_weight_21 rfl (Nat.zero_le _) (Nat.zero_le _) hq
set_option maxRecDepth 20000 in
theorem B9_plans_0 {ω : Om} {h : AH} {Q : Option Value → AH → Prop} {x0 : Nat} {x1 : Int32} {x2 : Int32} {x3 : Int32} {u4 : Option Value} (hw : ω.2.2.2.1 = true) (c0 : x1 = nI 0 → Ex ω M9_plans 32 [some (.ref x0), some (.int x1), some (.int x2), some (.int x3), some (.int (nI 0))] [] h 0 0 Q) (c1 : x1 = nI 1 → Ex ω M9_plans 54 [some (.ref x0), some (.int x1), some (.int x2), some (.int x3), some (.int (nI 0))] [] h 0 0 Q) (c2 : x1 = nI 2 → Ex ω M9_plans 107 [some (.ref x0), some (.int x1), some (.int x2), some (.int x3), some (.int (nI 0))] [] h 0 0 Q) (cd : (¬ (0 ≤ x1 ∧ x1 ≤ nI 2)) → Ex ω M9_plans 161 [some (.ref x0), some (.int x1), some (.int x2), some (.int x3), some (.int (nI 0))] [] h 0 0 Q) : Ex ω M9_plans 0 [some (.ref x0), some (.int x1), some (.int x2), some (.int x3), u4] [] h 0 0 Q := by
  refine x_dr4 ?_
  refine x_iconst (nI 0) 1 dX9_plans_0 rfl rfl ?_
  refine x_istore4 3 dX9_plans_1 rfl (by decide) rfl ?_
  refine x_iload1 4 dX9_plans_3 rfl ?_
  refine x_tsw 2 [32, 54, 107] 161 dX9_plans_4 (by decide) (by decide) (by decide) (by decide) (by decide) cd (fun j hj e => ?_)
  match j, hj with
  | 0, _ => exact c0 e
  | 1, _ => exact c1 e
  | 2, _ => exact c2 e
  | j + 3, hj => exact absurd hj (by simp)
set_option maxRecDepth 20000 in
theorem B9_plans_32 {ω : Om} {h : AH} {Q : Option Value → AH → Prop} {x0 : Nat} {u1 : Option Value} {x2 : Int32} {x3 : Int32} {u4 : Option Value} (hw : ω.2.2.2.1 = true) (s_x0 : gs h x0 = some (9, 17)) (kk : Ex ω M9_covers 0 [some (.ref x0), some (.int (gi h x0 14)), some (.int x3)] [] h 0 0 (fun v h' => Ex ω M9_plans 41 [some (.ref x0), none, some (.int x2), some (.int x3), none] (v.toList ++ []) h' 0 0 Q)) : Ex ω M9_plans 32 [some (.ref x0), u1, some (.int x2), some (.int x3), u4] [] h 0 0 Q := by
  refine x_dr1 ?_
  refine x_dr4 ?_
  refine x_aload0 33 dX9_plans_32 rfl ?_
  refine x_aload0 34 dX9_plans_33 rfl ?_
  refine x_getI cf9 14 37 dX9_plans_34 rfl wd716 (fun _ => s_x0) (by decide) rfl ?_
  refine x_iload3 38 dX9_plans_37 rfl ?_
  exact x_callV 41 x0 [.int (gi h x0 14), .int x3] [] dX9_plans_38 rfl lk_9_covers ⟨wd734, wd735, wd736⟩ ⟨by decide, by decide⟩ (recvO cf9 (fun _ => s_x0)) rfl rfl (Nat.le_of_ble_eq_true rfl) (Nat.le_of_ble_eq_true rfl) (by decide) (by decide) kk
set_option maxRecDepth 20000 in
theorem B9_plans_41 {ω : Om} {h : AH} {Q : Option Value → AH → Prop} {u0 : Option Value} {u1 : Option Value} {x2 : Int32} {u3 : Option Value} {u4 : Option Value} {y0 : Int32} (hw : ω.2.2.2.1 = true) (kt : y0 = 0 → Ex ω M9_plans 48 [none, none, some (.int x2), none, none] [] h 0 0 Q) (kf : ¬ y0 = 0 → Ex ω M9_plans 44 [none, none, some (.int x2), none, none] [] h 0 0 Q) : Ex ω M9_plans 41 [u0, u1, some (.int x2), u3, u4] [.int y0] h 0 0 Q := by
  refine x_dr0 ?_
  refine x_dr1 ?_
  refine x_dr3 ?_
  refine x_dr4 ?_
  exact x_if_eq 44 48 dX9_plans_41 rfl (by decide) kt kf
set_option maxRecDepth 20000 in
theorem B9_plans_44 {ω : Om} {h : AH} {Q : Option Value → AH → Prop} {u0 : Option Value} {u1 : Option Value} {x2 : Int32} {u3 : Option Value} {u4 : Option Value} (hw : ω.2.2.2.1 = true) (kt : Ex ω M9_plans 49 [none, none, some (.int x2), none, none] [.int x2] h 0 0 Q) : Ex ω M9_plans 44 [u0, u1, some (.int x2), u3, u4] [] h 0 0 Q := by
  refine x_dr0 ?_
  refine x_dr1 ?_
  refine x_dr3 ?_
  refine x_dr4 ?_
  refine x_iload2 45 dX9_plans_44 rfl ?_
  exact x_goto 49 dX9_plans_45 (by decide) kt
set_option maxRecDepth 20000 in
theorem B9_plans_48 {ω : Om} {h : AH} {Q : Option Value → AH → Prop} {u0 : Option Value} {u1 : Option Value} {u2 : Option Value} {u3 : Option Value} {u4 : Option Value} (hw : ω.2.2.2.1 = true) (kf : Ex ω M9_plans 49 [none, none, none, none, none] [.int (nI 0)] h 0 0 Q) : Ex ω M9_plans 48 [u0, u1, u2, u3, u4] [] h 0 0 Q := by
  refine x_dr0 ?_
  refine x_dr1 ?_
  refine x_dr2 ?_
  refine x_dr3 ?_
  refine x_dr4 ?_
  refine x_iconst (nI 0) 49 dX9_plans_48 rfl rfl ?_
  exact kf
set_option maxRecDepth 20000 in
theorem B9_plans_49 {ω : Om} {h : AH} {Q : Option Value → AH → Prop} {u0 : Option Value} {u1 : Option Value} {u2 : Option Value} {u3 : Option Value} {u4 : Option Value} {y0 : Int32} (hw : ω.2.2.2.1 = true) (kt : Ex ω M9_plans 161 [none, none, none, none, some (.int y0)] [] h 0 0 Q) : Ex ω M9_plans 49 [u0, u1, u2, u3, u4] [.int y0] h 0 0 Q := by
  refine x_dr0 ?_
  refine x_dr1 ?_
  refine x_dr2 ?_
  refine x_dr3 ?_
  refine x_dr4 ?_
  refine x_istore4 51 dX9_plans_49 rfl (by decide) rfl ?_
  exact x_goto 161 dX9_plans_51 (by decide) kt
set_option maxRecDepth 20000 in
theorem B9_plans_54 {ω : Om} {h : AH} {Q : Option Value → AH → Prop} {x0 : Nat} {u1 : Option Value} {x2 : Int32} {x3 : Int32} {x4 : Int32} (hw : ω.2.2.2.1 = true) (s_x0 : gs h x0 = some (9, 17)) (kt : (gi h x0 13) ≤ (gi h x0 14) → Ex ω M9_plans 161 [some (.ref x0), none, some (.int x2), some (.int x3), some (.int x4)] [] h 0 0 Q) (kf : ¬ (gi h x0 13) ≤ (gi h x0 14) → Ex ω M9_plans 65 [some (.ref x0), none, some (.int x2), some (.int x3), some (.int x4)] [] h 0 0 Q) : Ex ω M9_plans 54 [some (.ref x0), u1, some (.int x2), some (.int x3), some (.int x4)] [] h 0 0 Q := by
  refine x_dr1 ?_
  refine x_aload0 55 dX9_plans_54 rfl ?_
  refine x_getI cf9 14 58 dX9_plans_55 rfl wd716 (fun _ => s_x0) (by decide) rfl ?_
  refine x_aload0 59 dX9_plans_58 rfl ?_
  refine x_getI cf9 13 62 dX9_plans_59 rfl wd714 (fun _ => s_x0) (by decide) rfl ?_
  exact x_icmp_ge 65 161 dX9_plans_62 rfl (by decide) kt kf
set_option maxRecDepth 20000 in
theorem B9_plans_65 {ω : Om} {h : AH} {Q : Option Value → AH → Prop} {x0 : Nat} {u1 : Option Value} {x2 : Int32} {x3 : Int32} {x4 : Int32} (hw : ω.2.2.2.1 = true) (s_x0 : gs h x0 = some (9, 17)) (kk : Ex ω M9_lesser 0 [some (.int ((gi h x0 14) + x2)), some (.int (gi h x0 13))] [] h 0 0 (fun v h' => Ex ω M9_plans 79 [some (.ref x0), none, some (.int x2), some (.int x3), some (.int x4)] (v.toList ++ [.ref x0]) h' 0 0 Q)) : Ex ω M9_plans 65 [some (.ref x0), u1, some (.int x2), some (.int x3), some (.int x4)] [] h 0 0 Q := by
  refine x_dr1 ?_
  refine x_aload0 66 dX9_plans_65 rfl ?_
  refine x_aload0 67 dX9_plans_66 rfl ?_
  refine x_getI cf9 14 70 dX9_plans_67 rfl wd716 (fun _ => s_x0) (by decide) rfl ?_
  refine x_iload2 71 dX9_plans_70 rfl ?_
  refine x_iadd 72 dX9_plans_71 rfl ?_
  refine x_aload0 73 dX9_plans_72 rfl ?_
  refine x_getI cf9 13 76 dX9_plans_73 rfl wd714 (fun _ => s_x0) (by decide) rfl ?_
  exact x_callS 79 [.int ((gi h x0 14) + x2), .int (gi h x0 13)] [.ref x0] dX9_plans_76 rfl lk_9_lesser ⟨wd757, wd758⟩ ⟨by decide, by decide⟩ rfl rfl (Nat.le_of_ble_eq_true rfl) (Nat.le_of_ble_eq_true rfl) (by decide) (by decide) kk
set_option maxRecDepth 20000 in
theorem B9_plans_79 {ω : Om} {h : AH} {Q : Option Value → AH → Prop} {x0 : Nat} {u1 : Option Value} {x2 : Int32} {x3 : Int32} {x4 : Int32} {y0 : Nat} {y1 : Int32} (hw : ω.2.2.2.1 = true) (s_y0 : gs h y0 = some (9, 17)) (s_x0 : gs h x0 = some (9, 17)) (kk : Ex ω M9_covers 0 [some (.ref x0), some (.int (gi (si h y0 14 y1) x0 14)), some (.int x3)] [] (si h y0 14 y1) 0 0 (fun v h' => Ex ω M9_plans 93 [some (.ref x0), none, some (.int x2), some (.int x3), some (.int x4)] (v.toList ++ [.int x4]) h' 0 0 Q)) : Ex ω M9_plans 79 [some (.ref x0), u1, some (.int x2), some (.int x3), some (.int x4)] [.int y1, .ref y0] h 0 0 Q := by
  refine x_dr1 ?_
  refine x_putI cf9 14 82 dX9_plans_79 rfl wd716 (fun _ => s_y0) (by decide) rfl rfl ?_
  refine x_iload4 84 dX9_plans_82 rfl ?_
  refine x_aload0 85 dX9_plans_84 rfl ?_
  refine x_aload0 86 dX9_plans_85 rfl ?_
  refine x_getI cf9 14 89 dX9_plans_86 rfl wd716 (fun _ => s_x0) (by decide) rfl ?_
  refine x_iload3 90 dX9_plans_89 rfl ?_
  exact x_callV 93 x0 [.int (gi (si h y0 14 y1) x0 14), .int x3] [.int x4] dX9_plans_90 rfl lk_9_covers ⟨wd734, wd735, wd736⟩ ⟨by decide, by decide⟩ (recvO cf9 (fun _ => s_x0)) rfl rfl (Nat.le_of_ble_eq_true rfl) (Nat.le_of_ble_eq_true rfl) (by decide) (by decide) kk
set_option maxRecDepth 20000 in
theorem B9_plans_93 {ω : Om} {h : AH} {Q : Option Value → AH → Prop} {x0 : Nat} {u1 : Option Value} {x2 : Int32} {x3 : Int32} {u4 : Option Value} {y0 : Int32} {y1 : Int32} (hw : ω.2.2.2.1 = true) (kt : y1 = 0 → Ex ω M9_plans 100 [some (.ref x0), none, some (.int x2), some (.int x3), none] [.int y0] h 0 0 Q) (kf : ¬ y1 = 0 → Ex ω M9_plans 96 [some (.ref x0), none, some (.int x2), some (.int x3), none] [.int y0] h 0 0 Q) : Ex ω M9_plans 93 [some (.ref x0), u1, some (.int x2), some (.int x3), u4] [.int y1, .int y0] h 0 0 Q := by
  refine x_dr1 ?_
  refine x_dr4 ?_
  exact x_if_eq 96 100 dX9_plans_93 rfl (by decide) kt kf
set_option maxRecDepth 20000 in
theorem B9_plans_96 {ω : Om} {h : AH} {Q : Option Value → AH → Prop} {x0 : Nat} {u1 : Option Value} {x2 : Int32} {x3 : Int32} {u4 : Option Value} {y0 : Int32} (hw : ω.2.2.2.1 = true) (kt : Ex ω M9_plans 101 [some (.ref x0), none, some (.int x2), some (.int x3), none] [.int (nI 1), .int y0] h 0 0 Q) : Ex ω M9_plans 96 [some (.ref x0), u1, some (.int x2), some (.int x3), u4] [.int y0] h 0 0 Q := by
  refine x_dr1 ?_
  refine x_dr4 ?_
  refine x_iconst (nI 1) 97 dX9_plans_96 rfl rfl ?_
  exact x_goto 101 dX9_plans_97 (by decide) kt
set_option maxRecDepth 20000 in
theorem B9_plans_100 {ω : Om} {h : AH} {Q : Option Value → AH → Prop} {x0 : Nat} {u1 : Option Value} {x2 : Int32} {x3 : Int32} {u4 : Option Value} {y0 : Int32} (hw : ω.2.2.2.1 = true) (kf : Ex ω M9_plans 101 [some (.ref x0), none, some (.int x2), some (.int x3), none] [.int (nI 0), .int y0] h 0 0 Q) : Ex ω M9_plans 100 [some (.ref x0), u1, some (.int x2), some (.int x3), u4] [.int y0] h 0 0 Q := by
  refine x_dr1 ?_
  refine x_dr4 ?_
  refine x_iconst (nI 0) 101 dX9_plans_100 rfl rfl ?_
  exact kf
set_option maxRecDepth 20000 in
theorem B9_plans_101 {ω : Om} {h : AH} {Q : Option Value → AH → Prop} {x0 : Nat} {u1 : Option Value} {x2 : Int32} {x3 : Int32} {u4 : Option Value} {y0 : Int32} {y1 : Int32} (hw : ω.2.2.2.1 = true) (kt : Ex ω M9_plans 54 [some (.ref x0), none, some (.int x2), some (.int x3), some (.int (y0 + y1))] [] h 0 0 Q) : Ex ω M9_plans 101 [some (.ref x0), u1, some (.int x2), some (.int x3), u4] [.int y1, .int y0] h 0 0 Q := by
  refine x_dr1 ?_
  refine x_dr4 ?_
  refine x_iadd 102 dX9_plans_101 rfl ?_
  refine x_istore4 104 dX9_plans_102 rfl (by decide) rfl ?_
  exact x_goto 54 dX9_plans_104 (by decide) kt
set_option maxRecDepth 20000 in
theorem B9_plans_107 {ω : Om} {h : AH} {Q : Option Value → AH → Prop} {x0 : Nat} {u1 : Option Value} {x2 : Int32} {x3 : Int32} {x4 : Int32} (hw : ω.2.2.2.1 = true) (s_x0 : gs h x0 = some (9, 17)) (kt : (gi h x0 14) ≤ 0 → Ex ω M9_plans 161 [some (.ref x0), none, some (.int x2), some (.int x3), some (.int x4)] [] h 0 0 Q) (kf : ¬ (gi h x0 14) ≤ 0 → Ex ω M9_plans 114 [some (.ref x0), none, some (.int x2), some (.int x3), some (.int x4)] [] h 0 0 Q) : Ex ω M9_plans 107 [some (.ref x0), u1, some (.int x2), some (.int x3), some (.int x4)] [] h 0 0 Q := by
  refine x_dr1 ?_
  refine x_aload0 108 dX9_plans_107 rfl ?_
  refine x_getI cf9 14 111 dX9_plans_108 rfl wd716 (fun _ => s_x0) (by decide) rfl ?_
  exact x_if_le 114 161 dX9_plans_111 rfl (by decide) kt kf
set_option maxRecDepth 20000 in
theorem B9_plans_114 {ω : Om} {h : AH} {Q : Option Value → AH → Prop} {x0 : Nat} {u1 : Option Value} {x2 : Int32} {x3 : Int32} {x4 : Int32} (hw : ω.2.2.2.1 = true) (s_x0 : gs h x0 = some (9, 17)) (kt : (gi h x0 14) ≤ x2 → Ex ω M9_plans 132 [some (.ref x0), none, some (.int x2), some (.int x3), some (.int x4)] [.ref x0] h 0 0 Q) (kf : ¬ (gi h x0 14) ≤ x2 → Ex ω M9_plans 123 [some (.ref x0), none, some (.int x2), some (.int x3), some (.int x4)] [.ref x0] h 0 0 Q) : Ex ω M9_plans 114 [some (.ref x0), u1, some (.int x2), some (.int x3), some (.int x4)] [] h 0 0 Q := by
  refine x_dr1 ?_
  refine x_aload0 115 dX9_plans_114 rfl ?_
  refine x_aload0 116 dX9_plans_115 rfl ?_
  refine x_getI cf9 14 119 dX9_plans_116 rfl wd716 (fun _ => s_x0) (by decide) rfl ?_
  refine x_iload2 120 dX9_plans_119 rfl ?_
  exact x_icmp_le 123 132 dX9_plans_120 rfl (by decide) kt kf
set_option maxRecDepth 20000 in
theorem B9_plans_123 {ω : Om} {h : AH} {Q : Option Value → AH → Prop} {x0 : Nat} {u1 : Option Value} {x2 : Int32} {x3 : Int32} {x4 : Int32} {y0 : Nat} (hw : ω.2.2.2.1 = true) (s_x0 : gs h x0 = some (9, 17)) (kt : Ex ω M9_plans 133 [some (.ref x0), none, some (.int x2), some (.int x3), some (.int x4)] [.int ((gi h x0 14) - x2), .ref y0] h 0 0 Q) : Ex ω M9_plans 123 [some (.ref x0), u1, some (.int x2), some (.int x3), some (.int x4)] [.ref y0] h 0 0 Q := by
  refine x_dr1 ?_
  refine x_aload0 124 dX9_plans_123 rfl ?_
  refine x_getI cf9 14 127 dX9_plans_124 rfl wd716 (fun _ => s_x0) (by decide) rfl ?_
  refine x_iload2 128 dX9_plans_127 rfl ?_
  refine x_isub 129 dX9_plans_128 rfl ?_
  exact x_goto 133 dX9_plans_129 (by decide) kt
set_option maxRecDepth 20000 in
theorem B9_plans_132 {ω : Om} {h : AH} {Q : Option Value → AH → Prop} {x0 : Nat} {u1 : Option Value} {x2 : Int32} {x3 : Int32} {x4 : Int32} {y0 : Nat} (hw : ω.2.2.2.1 = true) (kf : Ex ω M9_plans 133 [some (.ref x0), none, some (.int x2), some (.int x3), some (.int x4)] [.int (nI 0), .ref y0] h 0 0 Q) : Ex ω M9_plans 132 [some (.ref x0), u1, some (.int x2), some (.int x3), some (.int x4)] [.ref y0] h 0 0 Q := by
  refine x_dr1 ?_
  refine x_iconst (nI 0) 133 dX9_plans_132 rfl rfl ?_
  exact kf
set_option maxRecDepth 20000 in
theorem B9_plans_133 {ω : Om} {h : AH} {Q : Option Value → AH → Prop} {x0 : Nat} {u1 : Option Value} {x2 : Int32} {x3 : Int32} {x4 : Int32} {y0 : Nat} {y1 : Int32} (hw : ω.2.2.2.1 = true) (s_y0 : gs h y0 = some (9, 17)) (s_x0 : gs h x0 = some (9, 17)) (kk : Ex ω M9_covers 0 [some (.ref x0), some (.int (gi (si h y0 14 y1) x0 14)), some (.int x3)] [] (si h y0 14 y1) 0 0 (fun v h' => Ex ω M9_plans 147 [some (.ref x0), none, some (.int x2), some (.int x3), some (.int x4)] (v.toList ++ [.int x4]) h' 0 0 Q)) : Ex ω M9_plans 133 [some (.ref x0), u1, some (.int x2), some (.int x3), some (.int x4)] [.int y1, .ref y0] h 0 0 Q := by
  refine x_dr1 ?_
  refine x_putI cf9 14 136 dX9_plans_133 rfl wd716 (fun _ => s_y0) (by decide) rfl rfl ?_
  refine x_iload4 138 dX9_plans_136 rfl ?_
  refine x_aload0 139 dX9_plans_138 rfl ?_
  refine x_aload0 140 dX9_plans_139 rfl ?_
  refine x_getI cf9 14 143 dX9_plans_140 rfl wd716 (fun _ => s_x0) (by decide) rfl ?_
  refine x_iload3 144 dX9_plans_143 rfl ?_
  exact x_callV 147 x0 [.int (gi (si h y0 14 y1) x0 14), .int x3] [.int x4] dX9_plans_144 rfl lk_9_covers ⟨wd734, wd735, wd736⟩ ⟨by decide, by decide⟩ (recvO cf9 (fun _ => s_x0)) rfl rfl (Nat.le_of_ble_eq_true rfl) (Nat.le_of_ble_eq_true rfl) (by decide) (by decide) kk
set_option maxRecDepth 20000 in
theorem B9_plans_147 {ω : Om} {h : AH} {Q : Option Value → AH → Prop} {x0 : Nat} {u1 : Option Value} {x2 : Int32} {x3 : Int32} {u4 : Option Value} {y0 : Int32} {y1 : Int32} (hw : ω.2.2.2.1 = true) (kt : y1 = 0 → Ex ω M9_plans 154 [some (.ref x0), none, some (.int x2), some (.int x3), none] [.int y0] h 0 0 Q) (kf : ¬ y1 = 0 → Ex ω M9_plans 150 [some (.ref x0), none, some (.int x2), some (.int x3), none] [.int y0] h 0 0 Q) : Ex ω M9_plans 147 [some (.ref x0), u1, some (.int x2), some (.int x3), u4] [.int y1, .int y0] h 0 0 Q := by
  refine x_dr1 ?_
  refine x_dr4 ?_
  exact x_if_eq 150 154 dX9_plans_147 rfl (by decide) kt kf
set_option maxRecDepth 20000 in
theorem B9_plans_150 {ω : Om} {h : AH} {Q : Option Value → AH → Prop} {x0 : Nat} {u1 : Option Value} {x2 : Int32} {x3 : Int32} {u4 : Option Value} {y0 : Int32} (hw : ω.2.2.2.1 = true) (kt : Ex ω M9_plans 155 [some (.ref x0), none, some (.int x2), some (.int x3), none] [.int (nI 1), .int y0] h 0 0 Q) : Ex ω M9_plans 150 [some (.ref x0), u1, some (.int x2), some (.int x3), u4] [.int y0] h 0 0 Q := by
  refine x_dr1 ?_
  refine x_dr4 ?_
  refine x_iconst (nI 1) 151 dX9_plans_150 rfl rfl ?_
  exact x_goto 155 dX9_plans_151 (by decide) kt
set_option maxRecDepth 20000 in
theorem B9_plans_154 {ω : Om} {h : AH} {Q : Option Value → AH → Prop} {x0 : Nat} {u1 : Option Value} {x2 : Int32} {x3 : Int32} {u4 : Option Value} {y0 : Int32} (hw : ω.2.2.2.1 = true) (kf : Ex ω M9_plans 155 [some (.ref x0), none, some (.int x2), some (.int x3), none] [.int (nI 0), .int y0] h 0 0 Q) : Ex ω M9_plans 154 [some (.ref x0), u1, some (.int x2), some (.int x3), u4] [.int y0] h 0 0 Q := by
  refine x_dr1 ?_
  refine x_dr4 ?_
  refine x_iconst (nI 0) 155 dX9_plans_154 rfl rfl ?_
  exact kf
set_option maxRecDepth 20000 in
theorem B9_plans_155 {ω : Om} {h : AH} {Q : Option Value → AH → Prop} {x0 : Nat} {u1 : Option Value} {x2 : Int32} {x3 : Int32} {u4 : Option Value} {y0 : Int32} {y1 : Int32} (hw : ω.2.2.2.1 = true) (kt : Ex ω M9_plans 107 [some (.ref x0), none, some (.int x2), some (.int x3), some (.int (y0 + y1))] [] h 0 0 Q) : Ex ω M9_plans 155 [some (.ref x0), u1, some (.int x2), some (.int x3), u4] [.int y1, .int y0] h 0 0 Q := by
  refine x_dr1 ?_
  refine x_dr4 ?_
  refine x_iadd 156 dX9_plans_155 rfl ?_
  refine x_istore4 158 dX9_plans_156 rfl (by decide) rfl ?_
  exact x_goto 107 dX9_plans_158 (by decide) kt
set_option maxRecDepth 20000 in
theorem B9_plans_161 {ω : Om} {h : AH} {Q : Option Value → AH → Prop} {u0 : Option Value} {u1 : Option Value} {u2 : Option Value} {u3 : Option Value} {x4 : Int32} (hw : ω.2.2.2.1 = true) (hq : Q (some (.int x4)) h) : Ex ω M9_plans 161 [u0, u1, u2, u3, some (.int x4)] [] h 0 0 Q := by
  refine x_dr0 ?_
  refine x_dr1 ?_
  refine x_dr2 ?_
  refine x_dr3 ?_
  refine x_iload4 163 dX9_plans_161 rfl ?_
  exact x_iret dX9_plans_163 rfl (Nat.zero_le _) (Nat.zero_le _) hq
set_option maxRecDepth 20000 in
theorem B9_planned_0 {ω : Om} {h : AH} {Q : Option Value → AH → Prop} {x0 : Nat} {x1 : Int32} {u2 : Option Value} {u3 : Option Value} (hw : ω.2.2.2.1 = true) (kt : 0 ≤ x1 → Ex ω M9_planned 6 [some (.ref x0), some (.int x1), none, none] [] h 0 0 Q) (kf : ¬ 0 ≤ x1 → Ex ω M9_planned 4 [some (.ref x0), some (.int x1), none, none] [] h 0 0 Q) : Ex ω M9_planned 0 [some (.ref x0), some (.int x1), u2, u3] [] h 0 0 Q := by
  refine x_dr2 ?_
  refine x_dr3 ?_
  refine x_iload1 1 dX9_planned_0 rfl ?_
  exact x_if_ge 4 6 dX9_planned_1 rfl (by decide) kt kf
set_option maxRecDepth 20000 in
theorem B9_planned_4 {ω : Om} {h : AH} {Q : Option Value → AH → Prop} {u0 : Option Value} {u1 : Option Value} {u2 : Option Value} {u3 : Option Value} (hw : ω.2.2.2.1 = true) (hq : Q (some (.int ((-1)))) h) : Ex ω M9_planned 4 [u0, u1, u2, u3] [] h 0 0 Q := by
  refine x_dr0 ?_
  refine x_dr1 ?_
  refine x_dr2 ?_
  refine x_dr3 ?_
  refine x_iconst ((-1)) 5 dX9_planned_4 rfl rfl ?_
  exact x_iret dX9_planned_5 rfl (Nat.zero_le _) (Nat.zero_le _) hq
set_option maxRecDepth 20000 in
theorem B9_planned_6 {ω : Om} {h : AH} {Q : Option Value → AH → Prop} {x0 : Nat} {x1 : Int32} {u2 : Option Value} {u3 : Option Value} (hw : ω.2.2.2.1 = true) (s_x0 : gs h x0 = some (9, 17)) (kt : ¬ (gi h (gr h x0 0) 1) = 0 → Ex ω M9_planned 18 [some (.ref x0), some (.int x1), none, none] [] h 0 0 Q) (kf : (gi h (gr h x0 0) 1) = 0 → Ex ω M9_planned 15 [some (.ref x0), some (.int x1), none, none] [] h 0 0 Q) : Ex ω M9_planned 6 [some (.ref x0), some (.int x1), u2, u3] [] h 0 0 Q := by
  refine x_dr2 ?_
  refine x_dr3 ?_
  refine x_aload0 7 dX9_planned_6 rfl ?_
  refine x_getR cf9 0 10 hw dX9_planned_7 rfl wd99 (fun _ => s_x0) (by decide) (by decide) rfl ?_
  refine x_iconst (nI 1) 11 dX9_planned_10 rfl rfl ?_
  refine x_iald 1 12 dX9_planned_11 rfl (SH.fld hw (fun _ => s_x0) 0 (Nat.le_of_ble_eq_true rfl) rfl rfl) (vp_c (by decide)) rfl ?_
  exact x_if_ne 15 18 dX9_planned_12 rfl (by decide) kt kf
set_option maxRecDepth 20000 in
theorem B9_planned_15 {ω : Om} {h : AH} {Q : Option Value → AH → Prop} {u0 : Option Value} {u1 : Option Value} {u2 : Option Value} {u3 : Option Value} (hw : ω.2.2.2.1 = true) (hq : Q (some (.int ((-2)))) h) : Ex ω M9_planned 15 [u0, u1, u2, u3] [] h 0 0 Q := by
  refine x_dr0 ?_
  refine x_dr1 ?_
  refine x_dr2 ?_
  refine x_dr3 ?_
  refine x_bipush ((-2)) 17 dX9_planned_15 rfl rfl ?_
  exact x_iret dX9_planned_17 rfl (Nat.zero_le _) (Nat.zero_le _) hq
set_option maxRecDepth 20000 in
theorem B9_planned_18 {ω : Om} {h : AH} {Q : Option Value → AH → Prop} {x0 : Nat} {x1 : Int32} {u2 : Option Value} {u3 : Option Value} (hw : ω.2.2.2.1 = true) (s_x0 : gs h x0 = some (9, 17)) (kk : Ex ω M9_byTurn 0 [some (.ref x0), some (.int (nI 0)), none, none, none] [] h 0 0 (fun v h' => Ex ω M9_planned 24 [some (.ref x0), some (.int x1), none, none] (v.toList ++ [.ref x0]) h' 0 0 Q)) : Ex ω M9_planned 18 [some (.ref x0), some (.int x1), u2, u3] [] h 0 0 Q := by
  refine x_dr2 ?_
  refine x_dr3 ?_
  refine x_aload0 19 dX9_planned_18 rfl ?_
  refine x_aload0 20 dX9_planned_19 rfl ?_
  refine x_iconst (nI 0) 21 dX9_planned_20 rfl rfl ?_
  exact x_callV 24 x0 [.int (nI 0)] [.ref x0] dX9_planned_21 rfl lk_9_byTurn ⟨wd322, wd323, wd324⟩ ⟨by decide, by decide⟩ (recvO cf9 (fun _ => s_x0)) rfl rfl (Nat.le_of_ble_eq_true rfl) (Nat.le_of_ble_eq_true rfl) (by decide) (by decide) kk
set_option maxRecDepth 20000 in
theorem B9_planned_24 {ω : Om} {h : AH} {Q : Option Value → AH → Prop} {x0 : Nat} {x1 : Int32} {u2 : Option Value} {u3 : Option Value} {y0 : Nat} {y1 : Int32} (hw : ω.2.2.2.1 = true) (s_y0 : gs h y0 = some (9, 17)) (kk : Ex ω M9_begins 0 [some (.ref y0), some (.int y1)] [] h 0 0 (fun v h' => Ex ω M9_planned 27 [some (.ref x0), some (.int x1), none, none] (v.toList ++ []) h' 0 0 Q)) : Ex ω M9_planned 24 [some (.ref x0), some (.int x1), u2, u3] [.int y1, .ref y0] h 0 0 Q := by
  refine x_dr2 ?_
  refine x_dr3 ?_
  exact x_callV 27 y0 [.int y1] [] dX9_planned_24 rfl lk_9_begins ⟨wd709, wd710, wd711⟩ ⟨by decide, by decide⟩ (recvO cf9 (fun _ => s_y0)) rfl rfl (Nat.le_of_ble_eq_true rfl) (Nat.le_of_ble_eq_true rfl) (by decide) (by decide) kk
set_option maxRecDepth 20000 in
theorem B9_planned_27 {ω : Om} {h : AH} {Q : Option Value → AH → Prop} {x0 : Nat} {x1 : Int32} {u2 : Option Value} {u3 : Option Value} (hw : ω.2.2.2.1 = true) (s_x0 : gs h x0 = some (9, 17)) (kt : x1 < (gi h x0 12) → Ex ω M9_planned 38 [some (.ref x0), some (.int x1), none, none] [] h 0 0 Q) (kf : ¬ x1 < (gi h x0 12) → Ex ω M9_planned 35 [some (.ref x0), some (.int x1), none, none] [] h 0 0 Q) : Ex ω M9_planned 27 [some (.ref x0), some (.int x1), u2, u3] [] h 0 0 Q := by
  refine x_dr2 ?_
  refine x_dr3 ?_
  refine x_iload1 28 dX9_planned_27 rfl ?_
  refine x_aload0 29 dX9_planned_28 rfl ?_
  refine x_getI cf9 12 32 dX9_planned_29 rfl wd707 (fun _ => s_x0) (by decide) rfl ?_
  exact x_icmp_lt 35 38 dX9_planned_32 rfl (by decide) kt kf
set_option maxRecDepth 20000 in
theorem B9_planned_35 {ω : Om} {h : AH} {Q : Option Value → AH → Prop} {u0 : Option Value} {u1 : Option Value} {u2 : Option Value} {u3 : Option Value} (hw : ω.2.2.2.1 = true) (hq : Q (some (.int ((-4)))) h) : Ex ω M9_planned 35 [u0, u1, u2, u3] [] h 0 0 Q := by
  refine x_dr0 ?_
  refine x_dr1 ?_
  refine x_dr2 ?_
  refine x_dr3 ?_
  refine x_bipush ((-4)) 37 dX9_planned_35 rfl rfl ?_
  exact x_iret dX9_planned_37 rfl (Nat.zero_le _) (Nat.zero_le _) hq
set_option maxRecDepth 20000 in
theorem B9_planned_38 {ω : Om} {h : AH} {Q : Option Value → AH → Prop} {x0 : Nat} {x1 : Int32} {u2 : Option Value} {u3 : Option Value} (hw : ω.2.2.2.1 = true) (kf : Ex ω M9_planned 42 [some (.ref x0), some (.int x1), some (.int (nI 0)), some (.int (nI 0))] [] h 0 0 Q) : Ex ω M9_planned 38 [some (.ref x0), some (.int x1), u2, u3] [] h 0 0 Q := by
  refine x_dr2 ?_
  refine x_dr3 ?_
  refine x_iconst (nI 0) 39 dX9_planned_38 rfl rfl ?_
  refine x_istore2 40 dX9_planned_39 rfl (by decide) rfl ?_
  refine x_iconst (nI 0) 41 dX9_planned_40 rfl rfl ?_
  refine x_istore3 42 dX9_planned_41 rfl (by decide) rfl ?_
  exact kf
set_option maxRecDepth 20000 in
theorem B9_planned_42 {ω : Om} {h : AH} {Q : Option Value → AH → Prop} {x0 : Nat} {x1 : Int32} {x2 : Int32} {x3 : Int32} (hw : ω.2.2.2.1 = true) (s_x0 : gs h x0 = some (9, 17)) (kt : (gi h (gr h x0 0) 3) ≤ x3 → Ex ω M9_planned 92 [some (.ref x0), some (.int x1), some (.int x2), some (.int x3)] [] h 0 0 Q) (kf : ¬ (gi h (gr h x0 0) 3) ≤ x3 → Ex ω M9_planned 52 [some (.ref x0), some (.int x1), some (.int x2), some (.int x3)] [] h 0 0 Q) : Ex ω M9_planned 42 [some (.ref x0), some (.int x1), some (.int x2), some (.int x3)] [] h 0 0 Q := by
  refine x_iload3 43 dX9_planned_42 rfl ?_
  refine x_aload0 44 dX9_planned_43 rfl ?_
  refine x_getR cf9 0 47 hw dX9_planned_44 rfl wd99 (fun _ => s_x0) (by decide) (by decide) rfl ?_
  refine x_iconst (nI 3) 48 dX9_planned_47 rfl rfl ?_
  refine x_iald 3 49 dX9_planned_48 rfl (SH.fld hw (fun _ => s_x0) 0 (Nat.le_of_ble_eq_true rfl) rfl rfl) (vp_c (by decide)) rfl ?_
  exact x_icmp_ge 52 92 dX9_planned_49 rfl (by decide) kt kf
set_option maxRecDepth 20000 in
theorem B9_planned_52 {ω : Om} {h : AH} {Q : Option Value → AH → Prop} {x0 : Nat} {x1 : Int32} {x2 : Int32} {x3 : Int32} (hw : ω.2.2.2.1 = true) (s_x0 : gs h x0 = some (9, 17)) (i1 : vp_in ((nI 188) + ((nI 2) * x3)) 596) (i2 : vp_in (((nI 188) + ((nI 2) * x3)) + (nI 1)) 596) (kk : Ex ω M9_plans 0 [some (.ref x0), some (.int (gi h (gr h x0 0) (Int32.toNatClampNeg ((nI 188) + ((nI 2) * x3))))), some (.int (gi h (gr h x0 0) (Int32.toNatClampNeg (((nI 188) + ((nI 2) * x3)) + (nI 1))))), some (.int x1), none] [] h 0 0 (fun v h' => Ex ω M9_planned 84 [some (.ref x0), some (.int x1), some (.int x2), some (.int x3)] (v.toList ++ [.int x2]) h' 0 0 Q)) : Ex ω M9_planned 52 [some (.ref x0), some (.int x1), some (.int x2), some (.int x3)] [] h 0 0 Q := by
  refine x_iload2 53 dX9_planned_52 rfl ?_
  refine x_aload0 54 dX9_planned_53 rfl ?_
  refine x_aload0 55 dX9_planned_54 rfl ?_
  refine x_getR cf9 0 58 hw dX9_planned_55 rfl wd99 (fun _ => s_x0) (by decide) (by decide) rfl ?_
  refine x_sipush (nI 188) 61 dX9_planned_58 rfl rfl ?_
  refine x_iconst (nI 2) 62 dX9_planned_61 rfl rfl ?_
  refine x_iload3 63 dX9_planned_62 rfl ?_
  refine x_imul 64 dX9_planned_63 rfl ?_
  refine x_iadd 65 dX9_planned_64 rfl ?_
  refine x_iald (Int32.toNatClampNeg ((nI 188) + ((nI 2) * x3))) 66 dX9_planned_65 rfl (SH.fld hw (fun _ => s_x0) 0 (Nat.le_of_ble_eq_true rfl) rfl rfl) i1 rfl ?_
  refine x_aload0 67 dX9_planned_66 rfl ?_
  refine x_getR cf9 0 70 hw dX9_planned_67 rfl wd99 (fun _ => s_x0) (by decide) (by decide) rfl ?_
  refine x_sipush (nI 188) 73 dX9_planned_70 rfl rfl ?_
  refine x_iconst (nI 2) 74 dX9_planned_73 rfl rfl ?_
  refine x_iload3 75 dX9_planned_74 rfl ?_
  refine x_imul 76 dX9_planned_75 rfl ?_
  refine x_iadd 77 dX9_planned_76 rfl ?_
  refine x_iconst (nI 1) 78 dX9_planned_77 rfl rfl ?_
  refine x_iadd 79 dX9_planned_78 rfl ?_
  refine x_iald (Int32.toNatClampNeg (((nI 188) + ((nI 2) * x3)) + (nI 1))) 80 dX9_planned_79 rfl (SH.fld hw (fun _ => s_x0) 0 (Nat.le_of_ble_eq_true rfl) rfl rfl) i2 rfl ?_
  refine x_iload1 81 dX9_planned_80 rfl ?_
  exact x_callV 84 x0 [.int (gi h (gr h x0 0) (Int32.toNatClampNeg ((nI 188) + ((nI 2) * x3)))), .int (gi h (gr h x0 0) (Int32.toNatClampNeg (((nI 188) + ((nI 2) * x3)) + (nI 1)))), .int x1] [.int x2] dX9_planned_81 rfl lk_9_plans ⟨wd856, wd857, wd858⟩ ⟨by decide, by decide⟩ (recvO cf9 (fun _ => s_x0)) rfl rfl (Nat.le_of_ble_eq_true rfl) (Nat.le_of_ble_eq_true rfl) (by decide) (by decide) kk
set_option maxRecDepth 20000 in
theorem B9_planned_84 {ω : Om} {h : AH} {Q : Option Value → AH → Prop} {x0 : Nat} {x1 : Int32} {u2 : Option Value} {x3 : Int32} {y0 : Int32} {y1 : Int32} (hw : ω.2.2.2.1 = true) (kt : Ex ω M9_planned 42 [some (.ref x0), some (.int x1), some (.int (y0 + y1)), some (.int (x3 + (nI 1)))] [] h 0 0 Q) : Ex ω M9_planned 84 [some (.ref x0), some (.int x1), u2, some (.int x3)] [.int y1, .int y0] h 0 0 Q := by
  refine x_dr2 ?_
  refine x_iadd 85 dX9_planned_84 rfl ?_
  refine x_istore2 86 dX9_planned_85 rfl (by decide) rfl ?_
  refine x_iinc3 (x3 + (nI 1)) 89 dX9_planned_86 rfl (by decide) rfl rfl ?_
  exact x_goto 42 dX9_planned_89 (by decide) kt
set_option maxRecDepth 20000 in
theorem B9_planned_92 {ω : Om} {h : AH} {Q : Option Value → AH → Prop} {u0 : Option Value} {u1 : Option Value} {x2 : Int32} {u3 : Option Value} (hw : ω.2.2.2.1 = true) (hq : Q (some (.int x2)) h) : Ex ω M9_planned 92 [u0, u1, some (.int x2), u3] [] h 0 0 Q := by
  refine x_dr0 ?_
  refine x_dr1 ?_
  refine x_dr3 ?_
  refine x_iload2 93 dX9_planned_92 rfl ?_
  exact x_iret dX9_planned_93 rfl (Nat.zero_le _) (Nat.zero_le _) hq
set_option maxRecDepth 20000 in
theorem B9_riseFor_0 {ω : Om} {h : AH} {Q : Option Value → AH → Prop} {x0 : Nat} {x1 : Int32} {u2 : Option Value} {u3 : Option Value} {u4 : Option Value} (hw : ω.2.2.2.1 = true) (kk : Ex ω M9_in 0 [some (.long (Int32.toInt64 x1)), none, some (.long ((1 : Int64))), none, some (.long ((50 : Int64))), none] [] h 0 0 (fun v h' => Ex ω M9_riseFor 9 [some (.ref x0), some (.int x1), none, none, none] (v.toList ++ []) h' 0 0 Q)) : Ex ω M9_riseFor 0 [some (.ref x0), some (.int x1), u2, u3, u4] [] h 0 0 Q := by
  refine x_dr2 ?_
  refine x_dr3 ?_
  refine x_dr4 ?_
  refine x_iload1 1 dX9_riseFor_0 rfl ?_
  refine x_i2l 2 dX9_riseFor_1 rfl ?_
  refine x_lconst 1 3 dX9_riseFor_2 rfl rfl ?_
  refine x_ldc2 50 6 dX9_riseFor_3 rfl wd199 ?_
  exact x_callS 9 [.long (Int32.toInt64 x1), .long ((1 : Int64)), .long ((50 : Int64))] [] dX9_riseFor_6 rfl lk_9_in ⟨wd200, wd201⟩ ⟨by decide, by decide⟩ rfl rfl (Nat.le_of_ble_eq_true rfl) (Nat.le_of_ble_eq_true rfl) (by decide) (by decide) kk
set_option maxRecDepth 20000 in
theorem B9_riseFor_9 {ω : Om} {h : AH} {Q : Option Value → AH → Prop} {x0 : Nat} {x1 : Int32} {u2 : Option Value} {u3 : Option Value} {u4 : Option Value} {y0 : Int32} (hw : ω.2.2.2.1 = true) (kt : ¬ y0 = 0 → Ex ω M9_riseFor 14 [some (.ref x0), some (.int x1), none, none, none] [] h 0 0 Q) (kf : y0 = 0 → Ex ω M9_riseFor 12 [some (.ref x0), some (.int x1), none, none, none] [] h 0 0 Q) : Ex ω M9_riseFor 9 [some (.ref x0), some (.int x1), u2, u3, u4] [.int y0] h 0 0 Q := by
  refine x_dr2 ?_
  refine x_dr3 ?_
  refine x_dr4 ?_
  exact x_if_ne 12 14 dX9_riseFor_9 rfl (by decide) kt kf
set_option maxRecDepth 20000 in
theorem B9_riseFor_12 {ω : Om} {h : AH} {Q : Option Value → AH → Prop} {u0 : Option Value} {u1 : Option Value} {u2 : Option Value} {u3 : Option Value} {u4 : Option Value} (hw : ω.2.2.2.1 = true) (hq : Q (some (.int ((-1)))) h) : Ex ω M9_riseFor 12 [u0, u1, u2, u3, u4] [] h 0 0 Q := by
  refine x_dr0 ?_
  refine x_dr1 ?_
  refine x_dr2 ?_
  refine x_dr3 ?_
  refine x_dr4 ?_
  refine x_iconst ((-1)) 13 dX9_riseFor_12 rfl rfl ?_
  exact x_iret dX9_riseFor_13 rfl (Nat.zero_le _) (Nat.zero_le _) hq
set_option maxRecDepth 20000 in
theorem B9_riseFor_14 {ω : Om} {h : AH} {Q : Option Value → AH → Prop} {x0 : Nat} {x1 : Int32} {u2 : Option Value} {u3 : Option Value} {u4 : Option Value} (hw : ω.2.2.2.1 = true) (s_x0 : gs h x0 = some (9, 17)) (kt : ¬ (gi h (gr h x0 0) 1) = 0 → Ex ω M9_riseFor 26 [some (.ref x0), some (.int x1), none, none, none] [] h 0 0 Q) (kf : (gi h (gr h x0 0) 1) = 0 → Ex ω M9_riseFor 23 [some (.ref x0), some (.int x1), none, none, none] [] h 0 0 Q) : Ex ω M9_riseFor 14 [some (.ref x0), some (.int x1), u2, u3, u4] [] h 0 0 Q := by
  refine x_dr2 ?_
  refine x_dr3 ?_
  refine x_dr4 ?_
  refine x_aload0 15 dX9_riseFor_14 rfl ?_
  refine x_getR cf9 0 18 hw dX9_riseFor_15 rfl wd99 (fun _ => s_x0) (by decide) (by decide) rfl ?_
  refine x_iconst (nI 1) 19 dX9_riseFor_18 rfl rfl ?_
  refine x_iald 1 20 dX9_riseFor_19 rfl (SH.fld hw (fun _ => s_x0) 0 (Nat.le_of_ble_eq_true rfl) rfl rfl) (vp_c (by decide)) rfl ?_
  exact x_if_ne 23 26 dX9_riseFor_20 rfl (by decide) kt kf
set_option maxRecDepth 20000 in
theorem B9_riseFor_23 {ω : Om} {h : AH} {Q : Option Value → AH → Prop} {u0 : Option Value} {u1 : Option Value} {u2 : Option Value} {u3 : Option Value} {u4 : Option Value} (hw : ω.2.2.2.1 = true) (hq : Q (some (.int ((-2)))) h) : Ex ω M9_riseFor 23 [u0, u1, u2, u3, u4] [] h 0 0 Q := by
  refine x_dr0 ?_
  refine x_dr1 ?_
  refine x_dr2 ?_
  refine x_dr3 ?_
  refine x_dr4 ?_
  refine x_bipush ((-2)) 25 dX9_riseFor_23 rfl rfl ?_
  exact x_iret dX9_riseFor_25 rfl (Nat.zero_le _) (Nat.zero_le _) hq
set_option maxRecDepth 20000 in
theorem B9_riseFor_26 {ω : Om} {h : AH} {Q : Option Value → AH → Prop} {x0 : Nat} {x1 : Int32} {u2 : Option Value} {u3 : Option Value} {u4 : Option Value} (hw : ω.2.2.2.1 = true) (s_x0 : gs h x0 = some (9, 17)) (kk : Ex ω M9_byTurn 0 [some (.ref x0), some (.int (nI 0)), none, none, none] [] h 0 0 (fun v h' => Ex ω M9_riseFor 32 [some (.ref x0), some (.int x1), none, none, none] (v.toList ++ [.ref x0]) h' 0 0 Q)) : Ex ω M9_riseFor 26 [some (.ref x0), some (.int x1), u2, u3, u4] [] h 0 0 Q := by
  refine x_dr2 ?_
  refine x_dr3 ?_
  refine x_dr4 ?_
  refine x_aload0 27 dX9_riseFor_26 rfl ?_
  refine x_aload0 28 dX9_riseFor_27 rfl ?_
  refine x_iconst (nI 0) 29 dX9_riseFor_28 rfl rfl ?_
  exact x_callV 32 x0 [.int (nI 0)] [.ref x0] dX9_riseFor_29 rfl lk_9_byTurn ⟨wd322, wd323, wd324⟩ ⟨by decide, by decide⟩ (recvO cf9 (fun _ => s_x0)) rfl rfl (Nat.le_of_ble_eq_true rfl) (Nat.le_of_ble_eq_true rfl) (by decide) (by decide) kk
set_option maxRecDepth 20000 in
theorem B9_riseFor_32 {ω : Om} {h : AH} {Q : Option Value → AH → Prop} {x0 : Nat} {x1 : Int32} {u2 : Option Value} {u3 : Option Value} {u4 : Option Value} {y0 : Nat} {y1 : Int32} (hw : ω.2.2.2.1 = true) (s_y0 : gs h y0 = some (9, 17)) (kk : Ex ω M9_begins 0 [some (.ref y0), some (.int y1)] [] h 0 0 (fun v h' => Ex ω M9_riseFor 35 [some (.ref x0), some (.int x1), none, none, none] (v.toList ++ []) h' 0 0 Q)) : Ex ω M9_riseFor 32 [some (.ref x0), some (.int x1), u2, u3, u4] [.int y1, .ref y0] h 0 0 Q := by
  refine x_dr2 ?_
  refine x_dr3 ?_
  refine x_dr4 ?_
  exact x_callV 35 y0 [.int y1] [] dX9_riseFor_32 rfl lk_9_begins ⟨wd709, wd710, wd711⟩ ⟨by decide, by decide⟩ (recvO cf9 (fun _ => s_y0)) rfl rfl (Nat.le_of_ble_eq_true rfl) (Nat.le_of_ble_eq_true rfl) (by decide) (by decide) kk
set_option maxRecDepth 20000 in
theorem B9_riseFor_35 {ω : Om} {h : AH} {Q : Option Value → AH → Prop} {x0 : Nat} {x1 : Int32} {u2 : Option Value} {u3 : Option Value} {u4 : Option Value} (hw : ω.2.2.2.1 = true) (kf : Ex ω M9_riseFor 38 [some (.ref x0), some (.int x1), some (.int (nI 100)), none, none] [] h 0 0 Q) : Ex ω M9_riseFor 35 [some (.ref x0), some (.int x1), u2, u3, u4] [] h 0 0 Q := by
  refine x_dr2 ?_
  refine x_dr3 ?_
  refine x_dr4 ?_
  refine x_bipush (nI 100) 37 dX9_riseFor_35 rfl rfl ?_
  refine x_istore2 38 dX9_riseFor_37 rfl (by decide) rfl ?_
  exact kf
set_option maxRecDepth 20000 in
theorem B9_riseFor_38 {ω : Om} {h : AH} {Q : Option Value → AH → Prop} {x0 : Nat} {x1 : Int32} {x2 : Int32} {u3 : Option Value} {u4 : Option Value} (hw : ω.2.2.2.1 = true) (kt : x2 ≤ 0 → Ex ω M9_riseFor 110 [some (.ref x0), some (.int x1), some (.int x2), none, none] [] h 0 0 Q) (kf : ¬ x2 ≤ 0 → Ex ω M9_riseFor 42 [some (.ref x0), some (.int x1), some (.int x2), none, none] [] h 0 0 Q) : Ex ω M9_riseFor 38 [some (.ref x0), some (.int x1), some (.int x2), u3, u4] [] h 0 0 Q := by
  refine x_dr3 ?_
  refine x_dr4 ?_
  refine x_iload2 39 dX9_riseFor_38 rfl ?_
  exact x_if_le 42 110 dX9_riseFor_39 rfl (by decide) kt kf
set_option maxRecDepth 20000 in
theorem B9_riseFor_42 {ω : Om} {h : AH} {Q : Option Value → AH → Prop} {x0 : Nat} {x1 : Int32} {x2 : Int32} {u3 : Option Value} {u4 : Option Value} (hw : ω.2.2.2.1 = true) (kf : Ex ω M9_riseFor 47 [some (.ref x0), some (.int x1), some (.int x2), some (.int (nI 1)), some (.int (nI 0))] [] h 0 0 Q) : Ex ω M9_riseFor 42 [some (.ref x0), some (.int x1), some (.int x2), u3, u4] [] h 0 0 Q := by
  refine x_dr3 ?_
  refine x_dr4 ?_
  refine x_iconst (nI 1) 43 dX9_riseFor_42 rfl rfl ?_
  refine x_istore3 44 dX9_riseFor_43 rfl (by decide) rfl ?_
  refine x_iconst (nI 0) 45 dX9_riseFor_44 rfl rfl ?_
  refine x_istore4 47 dX9_riseFor_45 rfl (by decide) rfl ?_
  exact kf
set_option maxRecDepth 20000 in
theorem B9_riseFor_47 {ω : Om} {h : AH} {Q : Option Value → AH → Prop} {x0 : Nat} {x1 : Int32} {x2 : Int32} {x3 : Int32} {x4 : Int32} (hw : ω.2.2.2.1 = true) (s_x0 : gs h x0 = some (9, 17)) (kt : (gi h x0 12) ≤ x4 → Ex ω M9_riseFor 98 [some (.ref x0), some (.int x1), some (.int x2), some (.int x3), some (.int x4)] [] h 0 0 Q) (kf : ¬ (gi h x0 12) ≤ x4 → Ex ω M9_riseFor 56 [some (.ref x0), some (.int x1), some (.int x2), some (.int x3), some (.int x4)] [] h 0 0 Q) : Ex ω M9_riseFor 47 [some (.ref x0), some (.int x1), some (.int x2), some (.int x3), some (.int x4)] [] h 0 0 Q := by
  refine x_iload4 49 dX9_riseFor_47 rfl ?_
  refine x_aload0 50 dX9_riseFor_49 rfl ?_
  refine x_getI cf9 12 53 dX9_riseFor_50 rfl wd707 (fun _ => s_x0) (by decide) rfl ?_
  exact x_icmp_ge 56 98 dX9_riseFor_53 rfl (by decide) kt kf
set_option maxRecDepth 20000 in
theorem B9_riseFor_56 {ω : Om} {h : AH} {Q : Option Value → AH → Prop} {x0 : Nat} {x1 : Int32} {x2 : Int32} {x3 : Int32} {x4 : Int32} (hw : ω.2.2.2.1 = true) (kt : x3 = 0 → Ex ω M9_riseFor 98 [some (.ref x0), some (.int x1), some (.int x2), some (.int x3), some (.int x4)] [] h 0 0 Q) (kf : ¬ x3 = 0 → Ex ω M9_riseFor 60 [some (.ref x0), some (.int x1), some (.int x2), some (.int x3), some (.int x4)] [] h 0 0 Q) : Ex ω M9_riseFor 56 [some (.ref x0), some (.int x1), some (.int x2), some (.int x3), some (.int x4)] [] h 0 0 Q := by
  refine x_iload3 57 dX9_riseFor_56 rfl ?_
  exact x_if_eq 60 98 dX9_riseFor_57 rfl (by decide) kt kf
set_option maxRecDepth 20000 in
theorem B9_riseFor_60 {ω : Om} {h : AH} {Q : Option Value → AH → Prop} {x0 : Nat} {x1 : Int32} {x2 : Int32} {u3 : Option Value} {x4 : Int32} (hw : ω.2.2.2.1 = true) (s_x0 : gs h x0 = some (9, 17)) (kk : Ex ω M9_plans 0 [some (.ref x0), some (.int (nI 0)), some (.int (nI 1)), some (.int x4), none] [] (si h x0 14 (nI 0)) 0 0 (fun v h' => Ex ω M9_riseFor 73 [some (.ref x0), some (.int x1), some (.int x2), none, some (.int x4)] (v.toList ++ []) h' 0 0 Q)) : Ex ω M9_riseFor 60 [some (.ref x0), some (.int x1), some (.int x2), u3, some (.int x4)] [] h 0 0 Q := by
  refine x_dr3 ?_
  refine x_aload0 61 dX9_riseFor_60 rfl ?_
  refine x_iconst (nI 0) 62 dX9_riseFor_61 rfl rfl ?_
  refine x_putI cf9 14 65 dX9_riseFor_62 rfl wd716 (fun _ => s_x0) (by decide) rfl rfl ?_
  refine x_aload0 66 dX9_riseFor_65 rfl ?_
  refine x_iconst (nI 0) 67 dX9_riseFor_66 rfl rfl ?_
  refine x_iconst (nI 1) 68 dX9_riseFor_67 rfl rfl ?_
  refine x_iload4 70 dX9_riseFor_68 rfl ?_
  exact x_callV 73 x0 [.int (nI 0), .int (nI 1), .int x4] [] dX9_riseFor_70 rfl lk_9_plans ⟨wd856, wd857, wd858⟩ ⟨by decide, by decide⟩ (recvO cf9 (fun _ => s_x0)) rfl rfl (Nat.le_of_ble_eq_true rfl) (Nat.le_of_ble_eq_true rfl) (by decide) (by decide) kk
set_option maxRecDepth 20000 in
theorem B9_riseFor_73 {ω : Om} {h : AH} {Q : Option Value → AH → Prop} {x0 : Nat} {x1 : Int32} {x2 : Int32} {u3 : Option Value} {x4 : Int32} {y0 : Int32} (hw : ω.2.2.2.1 = true) (s_x0 : gs h x0 = some (9, 17)) (kk : Ex ω M9_plans 0 [some (.ref x0), some (.int (nI 1)), some (.int x2), some (.int x4), none] [] h 0 0 (fun v h' => Ex ω M9_riseFor 81 [some (.ref x0), some (.int x1), some (.int x2), none, some (.int x4)] (v.toList ++ [.int y0]) h' 0 0 Q)) : Ex ω M9_riseFor 73 [some (.ref x0), some (.int x1), some (.int x2), u3, some (.int x4)] [.int y0] h 0 0 Q := by
  refine x_dr3 ?_
  refine x_aload0 74 dX9_riseFor_73 rfl ?_
  refine x_iconst (nI 1) 75 dX9_riseFor_74 rfl rfl ?_
  refine x_iload2 76 dX9_riseFor_75 rfl ?_
  refine x_iload4 78 dX9_riseFor_76 rfl ?_
  exact x_callV 81 x0 [.int (nI 1), .int x2, .int x4] [.int y0] dX9_riseFor_78 rfl lk_9_plans ⟨wd856, wd857, wd858⟩ ⟨by decide, by decide⟩ (recvO cf9 (fun _ => s_x0)) rfl rfl (Nat.le_of_ble_eq_true rfl) (Nat.le_of_ble_eq_true rfl) (by decide) (by decide) kk
set_option maxRecDepth 20000 in
theorem B9_riseFor_81 {ω : Om} {h : AH} {Q : Option Value → AH → Prop} {x0 : Nat} {x1 : Int32} {x2 : Int32} {u3 : Option Value} {x4 : Int32} {y0 : Int32} {y1 : Int32} (hw : ω.2.2.2.1 = true) (kt : (y0 + y1) < x1 → Ex ω M9_riseFor 90 [some (.ref x0), some (.int x1), some (.int x2), none, some (.int x4)] [] h 0 0 Q) (kf : ¬ (y0 + y1) < x1 → Ex ω M9_riseFor 86 [some (.ref x0), some (.int x1), some (.int x2), none, some (.int x4)] [] h 0 0 Q) : Ex ω M9_riseFor 81 [some (.ref x0), some (.int x1), some (.int x2), u3, some (.int x4)] [.int y1, .int y0] h 0 0 Q := by
  refine x_dr3 ?_
  refine x_iadd 82 dX9_riseFor_81 rfl ?_
  refine x_iload1 83 dX9_riseFor_82 rfl ?_
  exact x_icmp_lt 86 90 dX9_riseFor_83 rfl (by decide) kt kf
set_option maxRecDepth 20000 in
theorem B9_riseFor_86 {ω : Om} {h : AH} {Q : Option Value → AH → Prop} {x0 : Nat} {x1 : Int32} {x2 : Int32} {u3 : Option Value} {x4 : Int32} (hw : ω.2.2.2.1 = true) (kt : Ex ω M9_riseFor 91 [some (.ref x0), some (.int x1), some (.int x2), none, some (.int x4)] [.int (nI 1)] h 0 0 Q) : Ex ω M9_riseFor 86 [some (.ref x0), some (.int x1), some (.int x2), u3, some (.int x4)] [] h 0 0 Q := by
  refine x_dr3 ?_
  refine x_iconst (nI 1) 87 dX9_riseFor_86 rfl rfl ?_
  exact x_goto 91 dX9_riseFor_87 (by decide) kt
set_option maxRecDepth 20000 in
theorem B9_riseFor_90 {ω : Om} {h : AH} {Q : Option Value → AH → Prop} {x0 : Nat} {x1 : Int32} {x2 : Int32} {u3 : Option Value} {x4 : Int32} (hw : ω.2.2.2.1 = true) (kf : Ex ω M9_riseFor 91 [some (.ref x0), some (.int x1), some (.int x2), none, some (.int x4)] [.int (nI 0)] h 0 0 Q) : Ex ω M9_riseFor 90 [some (.ref x0), some (.int x1), some (.int x2), u3, some (.int x4)] [] h 0 0 Q := by
  refine x_dr3 ?_
  refine x_iconst (nI 0) 91 dX9_riseFor_90 rfl rfl ?_
  exact kf
set_option maxRecDepth 20000 in
theorem B9_riseFor_91 {ω : Om} {h : AH} {Q : Option Value → AH → Prop} {x0 : Nat} {x1 : Int32} {x2 : Int32} {u3 : Option Value} {x4 : Int32} {y0 : Int32} (hw : ω.2.2.2.1 = true) (kt : Ex ω M9_riseFor 47 [some (.ref x0), some (.int x1), some (.int x2), some (.int y0), some (.int (x4 + (nI 1)))] [] h 0 0 Q) : Ex ω M9_riseFor 91 [some (.ref x0), some (.int x1), some (.int x2), u3, some (.int x4)] [.int y0] h 0 0 Q := by
  refine x_dr3 ?_
  refine x_istore3 92 dX9_riseFor_91 rfl (by decide) rfl ?_
  refine x_iinc4 (x4 + (nI 1)) 95 dX9_riseFor_92 rfl (by decide) rfl rfl ?_
  exact x_goto 47 dX9_riseFor_95 (by decide) kt
set_option maxRecDepth 20000 in
theorem B9_riseFor_98 {ω : Om} {h : AH} {Q : Option Value → AH → Prop} {x0 : Nat} {x1 : Int32} {x2 : Int32} {x3 : Int32} {u4 : Option Value} (hw : ω.2.2.2.1 = true) (kt : x3 = 0 → Ex ω M9_riseFor 104 [some (.ref x0), some (.int x1), some (.int x2), some (.int x3), none] [] h 0 0 Q) (kf : ¬ x3 = 0 → Ex ω M9_riseFor 102 [some (.ref x0), some (.int x1), some (.int x2), some (.int x3), none] [] h 0 0 Q) : Ex ω M9_riseFor 98 [some (.ref x0), some (.int x1), some (.int x2), some (.int x3), u4] [] h 0 0 Q := by
  refine x_dr4 ?_
  refine x_iload3 99 dX9_riseFor_98 rfl ?_
  exact x_if_eq 102 104 dX9_riseFor_99 rfl (by decide) kt kf
set_option maxRecDepth 20000 in
theorem B9_riseFor_102 {ω : Om} {h : AH} {Q : Option Value → AH → Prop} {u0 : Option Value} {u1 : Option Value} {x2 : Int32} {u3 : Option Value} {u4 : Option Value} (hw : ω.2.2.2.1 = true) (hq : Q (some (.int x2)) h) : Ex ω M9_riseFor 102 [u0, u1, some (.int x2), u3, u4] [] h 0 0 Q := by
  refine x_dr0 ?_
  refine x_dr1 ?_
  refine x_dr3 ?_
  refine x_dr4 ?_
  refine x_iload2 103 dX9_riseFor_102 rfl ?_
  exact x_iret dX9_riseFor_103 rfl (Nat.zero_le _) (Nat.zero_le _) hq
set_option maxRecDepth 20000 in
theorem B9_riseFor_104 {ω : Om} {h : AH} {Q : Option Value → AH → Prop} {x0 : Nat} {x1 : Int32} {x2 : Int32} {u3 : Option Value} {u4 : Option Value} (hw : ω.2.2.2.1 = true) (kt : Ex ω M9_riseFor 38 [some (.ref x0), some (.int x1), some (.int (x2 + ((-1)))), none, none] [] h 0 0 Q) : Ex ω M9_riseFor 104 [some (.ref x0), some (.int x1), some (.int x2), u3, u4] [] h 0 0 Q := by
  refine x_dr3 ?_
  refine x_dr4 ?_
  refine x_iinc2 (x2 + ((-1))) 107 dX9_riseFor_104 rfl (by decide) rfl rfl ?_
  exact x_goto 38 dX9_riseFor_107 (by decide) kt
set_option maxRecDepth 20000 in
theorem B9_riseFor_110 {ω : Om} {h : AH} {Q : Option Value → AH → Prop} {u0 : Option Value} {u1 : Option Value} {u2 : Option Value} {u3 : Option Value} {u4 : Option Value} (hw : ω.2.2.2.1 = true) (hq : Q (some (.int ((-4)))) h) : Ex ω M9_riseFor 110 [u0, u1, u2, u3, u4] [] h 0 0 Q := by
  refine x_dr0 ?_
  refine x_dr1 ?_
  refine x_dr2 ?_
  refine x_dr3 ?_
  refine x_dr4 ?_
  refine x_bipush ((-4)) 112 dX9_riseFor_110 rfl rfl ?_
  exact x_iret dX9_riseFor_112 rfl (Nat.zero_le _) (Nat.zero_le _) hq
set_option maxRecDepth 20000 in
theorem B9_tensionFor_0 {ω : Om} {h : AH} {Q : Option Value → AH → Prop} {x0 : Nat} {x1 : Int32} {u2 : Option Value} (hw : ω.2.2.2.1 = true) (kk : Ex ω M9_in 0 [some (.long (Int32.toInt64 x1)), none, some (.long ((1 : Int64))), none, some (.long ((500 : Int64))), none] [] h 0 0 (fun v h' => Ex ω M9_tensionFor 9 [some (.ref x0), some (.int x1), none] (v.toList ++ []) h' 0 0 Q)) : Ex ω M9_tensionFor 0 [some (.ref x0), some (.int x1), u2] [] h 0 0 Q := by
  refine x_dr2 ?_
  refine x_iload1 1 dX9_tensionFor_0 rfl ?_
  refine x_i2l 2 dX9_tensionFor_1 rfl ?_
  refine x_lconst 1 3 dX9_tensionFor_2 rfl rfl ?_
  refine x_ldc2 500 6 dX9_tensionFor_3 rfl wd336 ?_
  exact x_callS 9 [.long (Int32.toInt64 x1), .long ((1 : Int64)), .long ((500 : Int64))] [] dX9_tensionFor_6 rfl lk_9_in ⟨wd200, wd201⟩ ⟨by decide, by decide⟩ rfl rfl (Nat.le_of_ble_eq_true rfl) (Nat.le_of_ble_eq_true rfl) (by decide) (by decide) kk
set_option maxRecDepth 20000 in
theorem B9_tensionFor_9 {ω : Om} {h : AH} {Q : Option Value → AH → Prop} {x0 : Nat} {x1 : Int32} {u2 : Option Value} {y0 : Int32} (hw : ω.2.2.2.1 = true) (kt : ¬ y0 = 0 → Ex ω M9_tensionFor 14 [some (.ref x0), some (.int x1), none] [] h 0 0 Q) (kf : y0 = 0 → Ex ω M9_tensionFor 12 [some (.ref x0), some (.int x1), none] [] h 0 0 Q) : Ex ω M9_tensionFor 9 [some (.ref x0), some (.int x1), u2] [.int y0] h 0 0 Q := by
  refine x_dr2 ?_
  exact x_if_ne 12 14 dX9_tensionFor_9 rfl (by decide) kt kf
set_option maxRecDepth 20000 in
theorem B9_tensionFor_12 {ω : Om} {h : AH} {Q : Option Value → AH → Prop} {u0 : Option Value} {u1 : Option Value} {u2 : Option Value} (hw : ω.2.2.2.1 = true) (hq : Q (some (.int ((-1)))) h) : Ex ω M9_tensionFor 12 [u0, u1, u2] [] h 0 0 Q := by
  refine x_dr0 ?_
  refine x_dr1 ?_
  refine x_dr2 ?_
  refine x_iconst ((-1)) 13 dX9_tensionFor_12 rfl rfl ?_
  exact x_iret dX9_tensionFor_13 rfl (Nat.zero_le _) (Nat.zero_le _) hq
set_option maxRecDepth 20000 in
theorem B9_tensionFor_14 {ω : Om} {h : AH} {Q : Option Value → AH → Prop} {x0 : Nat} {x1 : Int32} {u2 : Option Value} (hw : ω.2.2.2.1 = true) (s_x0 : gs h x0 = some (9, 17)) (kt : ¬ (gi h (gr h x0 0) 1) = 0 → Ex ω M9_tensionFor 26 [some (.ref x0), some (.int x1), none] [] h 0 0 Q) (kf : (gi h (gr h x0 0) 1) = 0 → Ex ω M9_tensionFor 23 [some (.ref x0), some (.int x1), none] [] h 0 0 Q) : Ex ω M9_tensionFor 14 [some (.ref x0), some (.int x1), u2] [] h 0 0 Q := by
  refine x_dr2 ?_
  refine x_aload0 15 dX9_tensionFor_14 rfl ?_
  refine x_getR cf9 0 18 hw dX9_tensionFor_15 rfl wd99 (fun _ => s_x0) (by decide) (by decide) rfl ?_
  refine x_iconst (nI 1) 19 dX9_tensionFor_18 rfl rfl ?_
  refine x_iald 1 20 dX9_tensionFor_19 rfl (SH.fld hw (fun _ => s_x0) 0 (Nat.le_of_ble_eq_true rfl) rfl rfl) (vp_c (by decide)) rfl ?_
  exact x_if_ne 23 26 dX9_tensionFor_20 rfl (by decide) kt kf
set_option maxRecDepth 20000 in
theorem B9_tensionFor_23 {ω : Om} {h : AH} {Q : Option Value → AH → Prop} {u0 : Option Value} {u1 : Option Value} {u2 : Option Value} (hw : ω.2.2.2.1 = true) (hq : Q (some (.int ((-2)))) h) : Ex ω M9_tensionFor 23 [u0, u1, u2] [] h 0 0 Q := by
  refine x_dr0 ?_
  refine x_dr1 ?_
  refine x_dr2 ?_
  refine x_bipush ((-2)) 25 dX9_tensionFor_23 rfl rfl ?_
  exact x_iret dX9_tensionFor_25 rfl (Nat.zero_le _) (Nat.zero_le _) hq
set_option maxRecDepth 20000 in
theorem B9_tensionFor_26 {ω : Om} {h : AH} {Q : Option Value → AH → Prop} {x0 : Nat} {x1 : Int32} {u2 : Option Value} (hw : ω.2.2.2.1 = true) (s_x0 : gs h x0 = some (9, 17)) (kk : Ex ω M9_byTurn 0 [some (.ref x0), some (.int (nI 0)), none, none, none] [] h 0 0 (fun v h' => Ex ω M9_tensionFor 32 [some (.ref x0), some (.int x1), none] (v.toList ++ [.ref x0]) h' 0 0 Q)) : Ex ω M9_tensionFor 26 [some (.ref x0), some (.int x1), u2] [] h 0 0 Q := by
  refine x_dr2 ?_
  refine x_aload0 27 dX9_tensionFor_26 rfl ?_
  refine x_aload0 28 dX9_tensionFor_27 rfl ?_
  refine x_iconst (nI 0) 29 dX9_tensionFor_28 rfl rfl ?_
  exact x_callV 32 x0 [.int (nI 0)] [.ref x0] dX9_tensionFor_29 rfl lk_9_byTurn ⟨wd322, wd323, wd324⟩ ⟨by decide, by decide⟩ (recvO cf9 (fun _ => s_x0)) rfl rfl (Nat.le_of_ble_eq_true rfl) (Nat.le_of_ble_eq_true rfl) (by decide) (by decide) kk
set_option maxRecDepth 20000 in
theorem B9_tensionFor_32 {ω : Om} {h : AH} {Q : Option Value → AH → Prop} {x0 : Nat} {x1 : Int32} {u2 : Option Value} {y0 : Nat} {y1 : Int32} (hw : ω.2.2.2.1 = true) (s_y0 : gs h y0 = some (9, 17)) (kk : Ex ω M9_begins 0 [some (.ref y0), some (.int y1)] [] h 0 0 (fun v h' => Ex ω M9_tensionFor 35 [some (.ref x0), some (.int x1), none] (v.toList ++ []) h' 0 0 Q)) : Ex ω M9_tensionFor 32 [some (.ref x0), some (.int x1), u2] [.int y1, .ref y0] h 0 0 Q := by
  refine x_dr2 ?_
  exact x_callV 35 y0 [.int y1] [] dX9_tensionFor_32 rfl lk_9_begins ⟨wd709, wd710, wd711⟩ ⟨by decide, by decide⟩ (recvO cf9 (fun _ => s_y0)) rfl rfl (Nat.le_of_ble_eq_true rfl) (Nat.le_of_ble_eq_true rfl) (by decide) (by decide) kk
set_option maxRecDepth 20000 in
theorem B9_tensionFor_35 {ω : Om} {h : AH} {Q : Option Value → AH → Prop} {x0 : Nat} {x1 : Int32} {u2 : Option Value} (hw : ω.2.2.2.1 = true) (kf : Ex ω M9_tensionFor 39 [some (.ref x0), some (.int x1), some (.int (nI 199))] [] h 0 0 Q) : Ex ω M9_tensionFor 35 [some (.ref x0), some (.int x1), u2] [] h 0 0 Q := by
  refine x_dr2 ?_
  refine x_sipush (nI 199) 38 dX9_tensionFor_35 rfl rfl ?_
  refine x_istore2 39 dX9_tensionFor_38 rfl (by decide) rfl ?_
  exact kf
set_option maxRecDepth 20000 in
theorem B9_tensionFor_39 {ω : Om} {h : AH} {Q : Option Value → AH → Prop} {x0 : Nat} {x1 : Int32} {x2 : Int32} (hw : ω.2.2.2.1 = true) (kk : Ex ω M9_forceOf 0 [some (.int x2)] [] h 0 0 (fun v h' => Ex ω M9_tensionFor 44 [some (.ref x0), some (.int x1), some (.int x2)] (v.toList ++ [.int x1]) h' 0 0 Q)) : Ex ω M9_tensionFor 39 [some (.ref x0), some (.int x1), some (.int x2)] [] h 0 0 Q := by
  refine x_iload1 40 dX9_tensionFor_39 rfl ?_
  refine x_iload2 41 dX9_tensionFor_40 rfl ?_
  exact x_callS 44 [.int x2] [.int x1] dX9_tensionFor_41 rfl lk_9_forceOf ⟨wd738, wd739⟩ ⟨by decide, by decide⟩ rfl rfl (Nat.le_of_ble_eq_true rfl) (Nat.le_of_ble_eq_true rfl) (by decide) (by decide) kk
set_option maxRecDepth 20000 in
theorem B9_tensionFor_44 {ω : Om} {h : AH} {Q : Option Value → AH → Prop} {x0 : Nat} {x1 : Int32} {x2 : Int32} {y0 : Int32} {y1 : Int32} (hw : ω.2.2.2.1 = true) (s_x0 : gs h x0 = some (9, 17)) (kt : (y0 * y1) ≤ (gi h x0 11) → Ex ω M9_tensionFor 58 [some (.ref x0), some (.int x1), some (.int x2)] [] h 0 0 Q) (kf : ¬ (y0 * y1) ≤ (gi h x0 11) → Ex ω M9_tensionFor 52 [some (.ref x0), some (.int x1), some (.int x2)] [] h 0 0 Q) : Ex ω M9_tensionFor 44 [some (.ref x0), some (.int x1), some (.int x2)] [.int y1, .int y0] h 0 0 Q := by
  refine x_imul 45 dX9_tensionFor_44 rfl ?_
  refine x_aload0 46 dX9_tensionFor_45 rfl ?_
  refine x_getI cf9 11 49 dX9_tensionFor_46 rfl wd715 (fun _ => s_x0) (by decide) rfl ?_
  exact x_icmp_le 52 58 dX9_tensionFor_49 rfl (by decide) kt kf
set_option maxRecDepth 20000 in
theorem B9_tensionFor_52 {ω : Om} {h : AH} {Q : Option Value → AH → Prop} {x0 : Nat} {x1 : Int32} {x2 : Int32} (hw : ω.2.2.2.1 = true) (kt : Ex ω M9_tensionFor 39 [some (.ref x0), some (.int x1), some (.int (x2 + ((-1))))] [] h 0 0 Q) : Ex ω M9_tensionFor 52 [some (.ref x0), some (.int x1), some (.int x2)] [] h 0 0 Q := by
  refine x_iinc2 (x2 + ((-1))) 55 dX9_tensionFor_52 rfl (by decide) rfl rfl ?_
  exact x_goto 39 dX9_tensionFor_55 (by decide) kt
set_option maxRecDepth 20000 in
theorem B9_tensionFor_58 {ω : Om} {h : AH} {Q : Option Value → AH → Prop} {u0 : Option Value} {u1 : Option Value} {x2 : Int32} (hw : ω.2.2.2.1 = true) (hq : Q (some (.int x2)) h) : Ex ω M9_tensionFor 58 [u0, u1, some (.int x2)] [] h 0 0 Q := by
  refine x_dr0 ?_
  refine x_dr1 ?_
  refine x_iload2 59 dX9_tensionFor_58 rfl ?_
  exact x_iret dX9_tensionFor_59 rfl (Nat.zero_le _) (Nat.zero_le _) hq
set_option maxRecDepth 20000 in
theorem B9_supply_0 {ω : Om} {h : AH} {Q : Option Value → AH → Prop} {x0 : Nat} {u1 : Option Value} {u2 : Option Value} (hw : ω.2.2.2.1 = true) (s_x0 : gs h x0 = some (9, 17)) (kk : Ex ω M9_laysAside 0 [some (.ref x0), none] [] h 0 0 (fun v h' => Ex ω M9_supply 4 [some (.ref x0), none, none] (v.toList ++ []) h' 0 0 Q)) : Ex ω M9_supply 0 [some (.ref x0), u1, u2] [] h 0 0 Q := by
  refine x_dr1 ?_
  refine x_dr2 ?_
  refine x_aload0 1 dX9_supply_0 rfl ?_
  exact x_callV 4 x0 [] [] dX9_supply_1 rfl lk_9_laysAside ⟨wd781, wd782, wd783⟩ ⟨by decide, by decide⟩ (recvO cf9 (fun _ => s_x0)) rfl rfl (Nat.le_of_ble_eq_true rfl) (Nat.le_of_ble_eq_true rfl) (by decide) (by decide) kk
set_option maxRecDepth 20000 in
theorem B9_supply_4 {ω : Om} {h : AH} {Q : Option Value → AH → Prop} {x0 : Nat} {u1 : Option Value} {u2 : Option Value} (hw : ω.2.2.2.1 = true) (kf : Ex ω M9_supply 8 [some (.ref x0), some (.int (nI 0)), some (.int (nI 1))] [] h 0 0 Q) : Ex ω M9_supply 4 [some (.ref x0), u1, u2] [] h 0 0 Q := by
  refine x_dr1 ?_
  refine x_dr2 ?_
  refine x_iconst (nI 0) 5 dX9_supply_4 rfl rfl ?_
  refine x_istore1 6 dX9_supply_5 rfl (by decide) rfl ?_
  refine x_iconst (nI 1) 7 dX9_supply_6 rfl rfl ?_
  refine x_istore2 8 dX9_supply_7 rfl (by decide) rfl ?_
  exact kf
set_option maxRecDepth 20000 in
theorem B9_supply_8 {ω : Om} {h : AH} {Q : Option Value → AH → Prop} {x0 : Nat} {x1 : Int32} {x2 : Int32} (hw : ω.2.2.2.1 = true) (kt : x2 = 0 → Ex ω M9_supply 49 [some (.ref x0), some (.int x1), some (.int x2)] [] h 0 0 Q) (kf : ¬ x2 = 0 → Ex ω M9_supply 12 [some (.ref x0), some (.int x1), some (.int x2)] [] h 0 0 Q) : Ex ω M9_supply 8 [some (.ref x0), some (.int x1), some (.int x2)] [] h 0 0 Q := by
  refine x_iload2 9 dX9_supply_8 rfl ?_
  exact x_if_eq 12 49 dX9_supply_9 rfl (by decide) kt kf
set_option maxRecDepth 20000 in
theorem B9_supply_12 {ω : Om} {h : AH} {Q : Option Value → AH → Prop} {x0 : Nat} {x1 : Int32} {u2 : Option Value} (hw : ω.2.2.2.1 = true) (s_x0 : gs h x0 = some (9, 17)) (kt : (gi h (gr h x0 0) 1) ≤ 0 → Ex ω M9_supply 49 [some (.ref x0), some (.int x1), none] [] h 0 0 Q) (kf : ¬ (gi h (gr h x0 0) 1) ≤ 0 → Ex ω M9_supply 21 [some (.ref x0), some (.int x1), none] [] h 0 0 Q) : Ex ω M9_supply 12 [some (.ref x0), some (.int x1), u2] [] h 0 0 Q := by
  refine x_dr2 ?_
  refine x_aload0 13 dX9_supply_12 rfl ?_
  refine x_getR cf9 0 16 hw dX9_supply_13 rfl wd99 (fun _ => s_x0) (by decide) (by decide) rfl ?_
  refine x_iconst (nI 1) 17 dX9_supply_16 rfl rfl ?_
  refine x_iald 1 18 dX9_supply_17 rfl (SH.fld hw (fun _ => s_x0) 0 (Nat.le_of_ble_eq_true rfl) rfl rfl) (vp_c (by decide)) rfl ?_
  exact x_if_le 21 49 dX9_supply_18 rfl (by decide) kt kf
set_option maxRecDepth 20000 in
theorem B9_supply_21 {ω : Om} {h : AH} {Q : Option Value → AH → Prop} {x0 : Nat} {x1 : Int32} {u2 : Option Value} (hw : ω.2.2.2.1 = true) (s_x0 : gs h x0 = some (9, 17)) (kk : Ex ω M9_wraps 0 [some (.ref x0), none, none, none] [] h 0 0 (fun v h' => Ex ω M9_supply 25 [some (.ref x0), some (.int x1), none] (v.toList ++ []) h' 0 0 Q)) : Ex ω M9_supply 21 [some (.ref x0), some (.int x1), u2] [] h 0 0 Q := by
  refine x_dr2 ?_
  refine x_aload0 22 dX9_supply_21 rfl ?_
  exact x_callV 25 x0 [] [] dX9_supply_22 rfl lk_9_wraps ⟨wd702, wd703, wd704⟩ ⟨by decide, by decide⟩ (recvO cf9 (fun _ => s_x0)) rfl rfl (Nat.le_of_ble_eq_true rfl) (Nat.le_of_ble_eq_true rfl) (by decide) (by decide) kk
set_option maxRecDepth 20000 in
theorem B9_supply_25 {ω : Om} {h : AH} {Q : Option Value → AH → Prop} {x0 : Nat} {x1 : Int32} {u2 : Option Value} {y0 : Int32} (hw : ω.2.2.2.1 = true) (kt : ¬ y0 = 0 → Ex ω M9_supply 32 [some (.ref x0), some (.int x1), none] [] h 0 0 Q) (kf : y0 = 0 → Ex ω M9_supply 28 [some (.ref x0), some (.int x1), none] [] h 0 0 Q) : Ex ω M9_supply 25 [some (.ref x0), some (.int x1), u2] [.int y0] h 0 0 Q := by
  refine x_dr2 ?_
  exact x_if_ne 28 32 dX9_supply_25 rfl (by decide) kt kf
set_option maxRecDepth 20000 in
theorem B9_supply_28 {ω : Om} {h : AH} {Q : Option Value → AH → Prop} {x0 : Nat} {x1 : Int32} {u2 : Option Value} (hw : ω.2.2.2.1 = true) (kt : Ex ω M9_supply 33 [some (.ref x0), some (.int x1), none] [.int (nI 1)] h 0 0 Q) : Ex ω M9_supply 28 [some (.ref x0), some (.int x1), u2] [] h 0 0 Q := by
  refine x_dr2 ?_
  refine x_iconst (nI 1) 29 dX9_supply_28 rfl rfl ?_
  exact x_goto 33 dX9_supply_29 (by decide) kt
set_option maxRecDepth 20000 in
theorem B9_supply_32 {ω : Om} {h : AH} {Q : Option Value → AH → Prop} {x0 : Nat} {x1 : Int32} {u2 : Option Value} (hw : ω.2.2.2.1 = true) (kf : Ex ω M9_supply 33 [some (.ref x0), some (.int x1), none] [.int (nI 0)] h 0 0 Q) : Ex ω M9_supply 32 [some (.ref x0), some (.int x1), u2] [] h 0 0 Q := by
  refine x_dr2 ?_
  refine x_iconst (nI 0) 33 dX9_supply_32 rfl rfl ?_
  exact kf
set_option maxRecDepth 20000 in
theorem B9_supply_33 {ω : Om} {h : AH} {Q : Option Value → AH → Prop} {x0 : Nat} {x1 : Int32} {u2 : Option Value} {y0 : Int32} (hw : ω.2.2.2.1 = true) (kt : y0 = 0 → Ex ω M9_supply 43 [some (.ref x0), some (.int x1), some (.int y0)] [.int x1] h 0 0 Q) (kf : ¬ y0 = 0 → Ex ω M9_supply 39 [some (.ref x0), some (.int x1), some (.int y0)] [.int x1] h 0 0 Q) : Ex ω M9_supply 33 [some (.ref x0), some (.int x1), u2] [.int y0] h 0 0 Q := by
  refine x_dr2 ?_
  refine x_istore2 34 dX9_supply_33 rfl (by decide) rfl ?_
  refine x_iload1 35 dX9_supply_34 rfl ?_
  refine x_iload2 36 dX9_supply_35 rfl ?_
  exact x_if_eq 39 43 dX9_supply_36 rfl (by decide) kt kf
set_option maxRecDepth 20000 in
theorem B9_supply_39 {ω : Om} {h : AH} {Q : Option Value → AH → Prop} {x0 : Nat} {u1 : Option Value} {x2 : Int32} {y0 : Int32} (hw : ω.2.2.2.1 = true) (kt : Ex ω M9_supply 44 [some (.ref x0), none, some (.int x2)] [.int (nI 1), .int y0] h 0 0 Q) : Ex ω M9_supply 39 [some (.ref x0), u1, some (.int x2)] [.int y0] h 0 0 Q := by
  refine x_dr1 ?_
  refine x_iconst (nI 1) 40 dX9_supply_39 rfl rfl ?_
  exact x_goto 44 dX9_supply_40 (by decide) kt
set_option maxRecDepth 20000 in
theorem B9_supply_43 {ω : Om} {h : AH} {Q : Option Value → AH → Prop} {x0 : Nat} {u1 : Option Value} {x2 : Int32} {y0 : Int32} (hw : ω.2.2.2.1 = true) (kf : Ex ω M9_supply 44 [some (.ref x0), none, some (.int x2)] [.int (nI 0), .int y0] h 0 0 Q) : Ex ω M9_supply 43 [some (.ref x0), u1, some (.int x2)] [.int y0] h 0 0 Q := by
  refine x_dr1 ?_
  refine x_iconst (nI 0) 44 dX9_supply_43 rfl rfl ?_
  exact kf
set_option maxRecDepth 20000 in
theorem B9_supply_44 {ω : Om} {h : AH} {Q : Option Value → AH → Prop} {x0 : Nat} {u1 : Option Value} {x2 : Int32} {y0 : Int32} {y1 : Int32} (hw : ω.2.2.2.1 = true) (kt : Ex ω M9_supply 8 [some (.ref x0), some (.int (y0 + y1)), some (.int x2)] [] h 0 0 Q) : Ex ω M9_supply 44 [some (.ref x0), u1, some (.int x2)] [.int y1, .int y0] h 0 0 Q := by
  refine x_dr1 ?_
  refine x_iadd 45 dX9_supply_44 rfl ?_
  refine x_istore1 46 dX9_supply_45 rfl (by decide) rfl ?_
  exact x_goto 8 dX9_supply_46 (by decide) kt
set_option maxRecDepth 20000 in
theorem B9_supply_49 {ω : Om} {h : AH} {Q : Option Value → AH → Prop} {x0 : Nat} {x1 : Int32} {u2 : Option Value} (hw : ω.2.2.2.1 = true) (s_x0 : gs h x0 = some (9, 17)) (kk : Ex ω M9_takesBack 0 [some (.ref x0), none] [] h 0 0 (fun v h' => Ex ω M9_supply 53 [some (.ref x0), some (.int x1), none] (v.toList ++ []) h' 0 0 Q)) : Ex ω M9_supply 49 [some (.ref x0), some (.int x1), u2] [] h 0 0 Q := by
  refine x_dr2 ?_
  refine x_aload0 50 dX9_supply_49 rfl ?_
  exact x_callV 53 x0 [] [] dX9_supply_50 rfl lk_9_takesBack ⟨wd785, wd786, wd787⟩ ⟨by decide, by decide⟩ (recvO cf9 (fun _ => s_x0)) rfl rfl (Nat.le_of_ble_eq_true rfl) (Nat.le_of_ble_eq_true rfl) (by decide) (by decide) kk
set_option maxRecDepth 20000 in
theorem B9_supply_53 {ω : Om} {h : AH} {Q : Option Value → AH → Prop} {u0 : Option Value} {x1 : Int32} {u2 : Option Value} (hw : ω.2.2.2.1 = true) (hq : Q (some (.int x1)) h) : Ex ω M9_supply 53 [u0, some (.int x1), u2] [] h 0 0 Q := by
  refine x_dr0 ?_
  refine x_dr2 ?_
  refine x_iload1 54 dX9_supply_53 rfl ?_
  exact x_iret dX9_supply_54 rfl (Nat.zero_le _) (Nat.zero_le _) hq
