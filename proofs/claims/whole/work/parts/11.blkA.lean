/-! block laws (written by a program: wip/whole/gen_all.py) -/
set_option maxRecDepth 20000 in
theorem B9_in_0 {ω : Om} {h : AH} {Q : Option Value → AH → Prop} {x0 : Int64} {x2 : Int64} {x4 : Int64} (hw : ω.2.2.2.1 = true) (kt : (lg_cmp x0 x2) < 0 → Ex ω M9_in 17 [some (.long x0), none, some (.long x2), none, some (.long x4), none] [] h 0 0 Q) (kf : ¬ (lg_cmp x0 x2) < 0 → Ex ω M9_in 6 [some (.long x0), none, some (.long x2), none, some (.long x4), none] [] h 0 0 Q) : Ex ω M9_in 0 [some (.long x0), none, some (.long x2), none, some (.long x4), none] [] h 0 0 Q := by
  refine x_lload0 1 dX9_in_0 rfl ?_
  refine x_lload2 2 dX9_in_1 rfl ?_
  refine x_lcmp 3 dX9_in_2 rfl ?_
  exact x_if_lt 6 17 dX9_in_3 rfl (by decide) kt kf
set_option maxRecDepth 20000 in
theorem B9_in_6 {ω : Om} {h : AH} {Q : Option Value → AH → Prop} {x0 : Int64} {u2 : Option Value} {u3 : Option Value} {x4 : Int64} (hw : ω.2.2.2.1 = true) (kt : 0 < (lg_cmp x0 x4) → Ex ω M9_in 17 [some (.long x0), none, none, none, some (.long x4), none] [] h 0 0 Q) (kf : ¬ 0 < (lg_cmp x0 x4) → Ex ω M9_in 13 [some (.long x0), none, none, none, some (.long x4), none] [] h 0 0 Q) : Ex ω M9_in 6 [some (.long x0), none, u2, u3, some (.long x4), none] [] h 0 0 Q := by
  refine x_dr2 ?_
  refine x_dr3 ?_
  refine x_lload0 7 dX9_in_6 rfl ?_
  refine x_lload4 9 dX9_in_7 rfl ?_
  refine x_lcmp 10 dX9_in_9 rfl ?_
  exact x_if_gt 13 17 dX9_in_10 rfl (by decide) kt kf
set_option maxRecDepth 20000 in
theorem B9_in_13 {ω : Om} {h : AH} {Q : Option Value → AH → Prop} {u0 : Option Value} {u1 : Option Value} {u2 : Option Value} {u3 : Option Value} {u4 : Option Value} {u5 : Option Value} (hw : ω.2.2.2.1 = true) (kt : Ex ω M9_in 18 [none, none, none, none, none, none] [.int (nI 1)] h 0 0 Q) : Ex ω M9_in 13 [u0, u1, u2, u3, u4, u5] [] h 0 0 Q := by
  refine x_dr0 ?_
  refine x_dr1 ?_
  refine x_dr2 ?_
  refine x_dr3 ?_
  refine x_dr4 ?_
  refine x_dr5 ?_
  refine x_iconst (nI 1) 14 dX9_in_13 rfl rfl ?_
  exact x_goto 18 dX9_in_14 (by decide) kt
set_option maxRecDepth 20000 in
theorem B9_in_17 {ω : Om} {h : AH} {Q : Option Value → AH → Prop} {u0 : Option Value} {u1 : Option Value} {u2 : Option Value} {u3 : Option Value} {u4 : Option Value} {u5 : Option Value} (hw : ω.2.2.2.1 = true) (kf : Ex ω M9_in 18 [none, none, none, none, none, none] [.int (nI 0)] h 0 0 Q) : Ex ω M9_in 17 [u0, u1, u2, u3, u4, u5] [] h 0 0 Q := by
  refine x_dr0 ?_
  refine x_dr1 ?_
  refine x_dr2 ?_
  refine x_dr3 ?_
  refine x_dr4 ?_
  refine x_dr5 ?_
  refine x_iconst (nI 0) 18 dX9_in_17 rfl rfl ?_
  exact kf
set_option maxRecDepth 20000 in
theorem B9_in_18 {ω : Om} {h : AH} {Q : Option Value → AH → Prop} {u0 : Option Value} {u1 : Option Value} {u2 : Option Value} {u3 : Option Value} {u4 : Option Value} {u5 : Option Value} {y0 : Int32} (hw : ω.2.2.2.1 = true) (hz : narrow .boolean (.int y0) = .int y0) (hq : Q (some (.int y0)) h) : Ex ω M9_in 18 [u0, u1, u2, u3, u4, u5] [.int y0] h 0 0 Q := by
  refine x_dr0 ?_
  refine x_dr1 ?_
  refine x_dr2 ?_
  refine x_dr3 ?_
  refine x_dr4 ?_
  refine x_dr5 ?_
  exact x_zret dX9_in_18 rfl hz (Nat.zero_le _) (Nat.zero_le _) hq
set_option maxRecDepth 20000 in
theorem B9_up_0 {ω : Om} {h : AH} {Q : Option Value → AH → Prop} {x0 : Int32} {x1 : Int32} (hw : ω.2.2.2.1 = true) (z1 : ¬ x1 = (0 : Int32)) (hq : Q (some (.int (((x0 + x1) - (nI 1)) / x1))) h) : Ex ω M9_up 0 [some (.int x0), some (.int x1)] [] h 0 0 Q := by
  refine x_iload0 1 dX9_up_0 rfl ?_
  refine x_iload1 2 dX9_up_1 rfl ?_
  refine x_iadd 3 dX9_up_2 rfl ?_
  refine x_iconst (nI 1) 4 dX9_up_3 rfl rfl ?_
  refine x_isub 5 dX9_up_4 rfl ?_
  refine x_iload1 6 dX9_up_5 rfl ?_
  refine x_idiv 7 dX9_up_6 rfl z1 ?_
  exact x_iret dX9_up_7 rfl (Nat.zero_le _) (Nat.zero_le _) hq
set_option maxRecDepth 20000 in
theorem B9_lesser_0 {ω : Om} {h : AH} {Q : Option Value → AH → Prop} {x0 : Int32} {x1 : Int32} (hw : ω.2.2.2.1 = true) (kt : x1 ≤ x0 → Ex ω M9_lesser 9 [some (.int x0), some (.int x1)] [] h 0 0 Q) (kf : ¬ x1 ≤ x0 → Ex ω M9_lesser 5 [some (.int x0), some (.int x1)] [] h 0 0 Q) : Ex ω M9_lesser 0 [some (.int x0), some (.int x1)] [] h 0 0 Q := by
  refine x_iload0 1 dX9_lesser_0 rfl ?_
  refine x_iload1 2 dX9_lesser_1 rfl ?_
  exact x_icmp_ge 5 9 dX9_lesser_2 rfl (by decide) kt kf
set_option maxRecDepth 20000 in
theorem B9_lesser_5 {ω : Om} {h : AH} {Q : Option Value → AH → Prop} {x0 : Int32} {u1 : Option Value} (hw : ω.2.2.2.1 = true) (kt : Ex ω M9_lesser 10 [some (.int x0), none] [.int x0] h 0 0 Q) : Ex ω M9_lesser 5 [some (.int x0), u1] [] h 0 0 Q := by
  refine x_dr1 ?_
  refine x_iload0 6 dX9_lesser_5 rfl ?_
  exact x_goto 10 dX9_lesser_6 (by decide) kt
set_option maxRecDepth 20000 in
theorem B9_lesser_9 {ω : Om} {h : AH} {Q : Option Value → AH → Prop} {u0 : Option Value} {x1 : Int32} (hw : ω.2.2.2.1 = true) (kf : Ex ω M9_lesser 10 [none, some (.int x1)] [.int x1] h 0 0 Q) : Ex ω M9_lesser 9 [u0, some (.int x1)] [] h 0 0 Q := by
  refine x_dr0 ?_
  refine x_iload1 10 dX9_lesser_9 rfl ?_
  exact kf
set_option maxRecDepth 20000 in
theorem B9_lesser_10 {ω : Om} {h : AH} {Q : Option Value → AH → Prop} {u0 : Option Value} {u1 : Option Value} {y0 : Int32} (hw : ω.2.2.2.1 = true) (hq : Q (some (.int y0)) h) : Ex ω M9_lesser 10 [u0, u1] [.int y0] h 0 0 Q := by
  refine x_dr0 ?_
  refine x_dr1 ?_
  exact x_iret dX9_lesser_10 rfl (Nat.zero_le _) (Nat.zero_le _) hq
set_option maxRecDepth 20000 in
theorem B9_forceOf_0 {ω : Om} {h : AH} {Q : Option Value → AH → Prop} {x0 : Int32} (hw : ω.2.2.2.1 = true) (hq : Q (some (.int ((x0 * (nI 141)) / (nI 100)))) h) : Ex ω M9_forceOf 0 [some (.int x0)] [] h 0 0 Q := by
  refine x_iload0 1 dX9_forceOf_0 rfl ?_
  refine x_sipush (nI 141) 4 dX9_forceOf_1 rfl rfl ?_
  refine x_imul 5 dX9_forceOf_4 rfl ?_
  refine x_bipush (nI 100) 7 dX9_forceOf_5 rfl rfl ?_
  refine x_idiv 8 dX9_forceOf_7 rfl (by decide) ?_
  exact x_iret dX9_forceOf_8 rfl (Nat.zero_le _) (Nat.zero_le _) hq
set_option maxRecDepth 20000 in
theorem B9_change_0 {ω : Om} {h : AH} {Q : Option Value → AH → Prop} {x0 : Nat} {u1 : Option Value} (hw : ω.2.2.2.1 = true) (s_x0 : gs h x0 = some (9, 17)) (kt : ¬ (gi h x0 2) = (nI 4) → Ex ω M9_change 49 [some (.ref x0), none] [] h 0 0 Q) (kf : (gi h x0 2) = (nI 4) → Ex ω M9_change 8 [some (.ref x0), none] [] h 0 0 Q) : Ex ω M9_change 0 [some (.ref x0), u1] [] h 0 0 Q := by
  refine x_dr1 ?_
  refine x_aload0 1 dX9_change_0 rfl ?_
  refine x_getI cf9 2 4 dX9_change_1 rfl wd207 (fun _ => s_x0) (by decide) rfl ?_
  refine x_iconst (nI 4) 5 dX9_change_4 rfl rfl ?_
  exact x_icmp_ne 8 49 dX9_change_5 rfl (by decide) kt kf
set_option maxRecDepth 20000 in
theorem B9_change_8 {ω : Om} {h : AH} {Q : Option Value → AH → Prop} {x0 : Nat} {u1 : Option Value} (hw : ω.2.2.2.1 = true) (kf : Ex ω M9_change 10 [some (.ref x0), some (.int (nI 0))] [] h 0 0 Q) : Ex ω M9_change 8 [some (.ref x0), u1] [] h 0 0 Q := by
  refine x_dr1 ?_
  refine x_iconst (nI 0) 9 dX9_change_8 rfl rfl ?_
  refine x_istore1 10 dX9_change_9 rfl (by decide) rfl ?_
  exact kf
set_option maxRecDepth 20000 in
theorem B9_change_10 {ω : Om} {h : AH} {Q : Option Value → AH → Prop} {x0 : Nat} {x1 : Int32} (hw : ω.2.2.2.1 = true) (kt : (nI 1788) ≤ x1 → Ex ω M9_change 39 [some (.ref x0), some (.int x1)] [] h 0 0 Q) (kf : ¬ (nI 1788) ≤ x1 → Ex ω M9_change 17 [some (.ref x0), some (.int x1)] [] h 0 0 Q) : Ex ω M9_change 10 [some (.ref x0), some (.int x1)] [] h 0 0 Q := by
  refine x_iload1 11 dX9_change_10 rfl ?_
  refine x_sipush (nI 1788) 14 dX9_change_11 rfl rfl ?_
  exact x_icmp_ge 17 39 dX9_change_14 rfl (by decide) kt kf
set_option maxRecDepth 20000 in
theorem B9_change_17 {ω : Om} {h : AH} {Q : Option Value → AH → Prop} {x0 : Nat} {x1 : Int32} (hw : ω.2.2.2.1 = true) (s_x0 : gs h x0 = some (9, 17)) (i1 : vp_in (x1 + (nI 596)) 2384) (i2 : vp_in x1 2384) (kt : Ex ω M9_change 10 [some (.ref x0), some (.int (x1 + (nI 1)))] [] (si h (gr h x0 1) (Int32.toNatClampNeg x1) (gi h (gr h x0 1) (Int32.toNatClampNeg (x1 + (nI 596))))) 0 0 Q) : Ex ω M9_change 17 [some (.ref x0), some (.int x1)] [] h 0 0 Q := by
  refine x_aload0 18 dX9_change_17 rfl ?_
  refine x_getR cf9 1 21 hw dX9_change_18 rfl wd100 (fun _ => s_x0) (by decide) (by decide) rfl ?_
  refine x_iload1 22 dX9_change_21 rfl ?_
  refine x_aload0 23 dX9_change_22 rfl ?_
  refine x_getR cf9 1 26 hw dX9_change_23 rfl wd100 (fun _ => s_x0) (by decide) (by decide) rfl ?_
  refine x_iload1 27 dX9_change_26 rfl ?_
  refine x_sipush (nI 596) 30 dX9_change_27 rfl rfl ?_
  refine x_iadd 31 dX9_change_30 rfl ?_
  refine x_iald (Int32.toNatClampNeg (x1 + (nI 596))) 32 dX9_change_31 rfl (SH.fld hw (fun _ => s_x0) 1 (Nat.le_of_ble_eq_true rfl) rfl rfl) i1 rfl ?_
  refine x_iast (Int32.toNatClampNeg x1) 33 dX9_change_32 rfl (SH.fld hw (fun _ => s_x0) 1 (Nat.le_of_ble_eq_true rfl) rfl rfl) i2 rfl ?_
  refine x_iinc1 (x1 + (nI 1)) 36 dX9_change_33 rfl (by decide) rfl rfl ?_
  exact x_goto 10 dX9_change_36 (by decide) kt
set_option maxRecDepth 20000 in
theorem B9_change_39 {ω : Om} {h : AH} {Q : Option Value → AH → Prop} {x0 : Nat} {u1 : Option Value} (hw : ω.2.2.2.1 = true) (s_x0 : gs h x0 = some (9, 17)) (kf : Ex ω M9_change 49 [some (.ref x0), none] [] (si h x0 2 ((gi h x0 2) - (nI 1))) 0 0 Q) : Ex ω M9_change 39 [some (.ref x0), u1] [] h 0 0 Q := by
  refine x_dr1 ?_
  refine x_aload0 40 dX9_change_39 rfl ?_
  refine x_dup 41 dX9_change_40 rfl rfl ?_
  refine x_getI cf9 2 44 dX9_change_41 rfl wd207 (fun _ => s_x0) (by decide) rfl ?_
  refine x_iconst (nI 1) 45 dX9_change_44 rfl rfl ?_
  refine x_isub 46 dX9_change_45 rfl ?_
  refine x_putI cf9 2 49 dX9_change_46 rfl wd207 (fun _ => s_x0) (by decide) rfl rfl ?_
  exact kf
set_option maxRecDepth 20000 in
theorem B9_change_49 {ω : Om} {h : AH} {Q : Option Value → AH → Prop} {x0 : Nat} {u1 : Option Value} (hw : ω.2.2.2.1 = true) (kf : Ex ω M9_change 51 [some (.ref x0), some (.int (nI 0))] [] h 0 0 Q) : Ex ω M9_change 49 [some (.ref x0), u1] [] h 0 0 Q := by
  refine x_dr1 ?_
  refine x_iconst (nI 0) 50 dX9_change_49 rfl rfl ?_
  refine x_istore1 51 dX9_change_50 rfl (by decide) rfl ?_
  exact kf
set_option maxRecDepth 20000 in
theorem B9_change_51 {ω : Om} {h : AH} {Q : Option Value → AH → Prop} {x0 : Nat} {x1 : Int32} (hw : ω.2.2.2.1 = true) (kt : (nI 596) ≤ x1 → Ex ω M9_change 85 [some (.ref x0), some (.int x1)] [] h 0 0 Q) (kf : ¬ (nI 596) ≤ x1 → Ex ω M9_change 58 [some (.ref x0), some (.int x1)] [] h 0 0 Q) : Ex ω M9_change 51 [some (.ref x0), some (.int x1)] [] h 0 0 Q := by
  refine x_iload1 52 dX9_change_51 rfl ?_
  refine x_sipush (nI 596) 55 dX9_change_52 rfl rfl ?_
  exact x_icmp_ge 58 85 dX9_change_55 rfl (by decide) kt kf
set_option maxRecDepth 20000 in
theorem B9_change_58 {ω : Om} {h : AH} {Q : Option Value → AH → Prop} {x0 : Nat} {x1 : Int32} (hw : ω.2.2.2.1 = true) (s_x0 : gs h x0 = some (9, 17)) (i1 : vp_in x1 596) (i2 : vp_in (((gi h x0 2) * (nI 596)) + x1) 2384) (kt : Ex ω M9_change 51 [some (.ref x0), some (.int (x1 + (nI 1)))] [] (si h (gr h x0 1) (Int32.toNatClampNeg (((gi h x0 2) * (nI 596)) + x1)) (gi h (gr h x0 0) (Int32.toNatClampNeg x1))) 0 0 Q) : Ex ω M9_change 58 [some (.ref x0), some (.int x1)] [] h 0 0 Q := by
  refine x_aload0 59 dX9_change_58 rfl ?_
  refine x_getR cf9 1 62 hw dX9_change_59 rfl wd100 (fun _ => s_x0) (by decide) (by decide) rfl ?_
  refine x_aload0 63 dX9_change_62 rfl ?_
  refine x_getI cf9 2 66 dX9_change_63 rfl wd207 (fun _ => s_x0) (by decide) rfl ?_
  refine x_sipush (nI 596) 69 dX9_change_66 rfl rfl ?_
  refine x_imul 70 dX9_change_69 rfl ?_
  refine x_iload1 71 dX9_change_70 rfl ?_
  refine x_iadd 72 dX9_change_71 rfl ?_
  refine x_aload0 73 dX9_change_72 rfl ?_
  refine x_getR cf9 0 76 hw dX9_change_73 rfl wd99 (fun _ => s_x0) (by decide) (by decide) rfl ?_
  refine x_iload1 77 dX9_change_76 rfl ?_
  refine x_iald (Int32.toNatClampNeg x1) 78 dX9_change_77 rfl (SH.fld hw (fun _ => s_x0) 0 (Nat.le_of_ble_eq_true rfl) rfl rfl) i1 rfl ?_
  refine x_iast (Int32.toNatClampNeg (((gi h x0 2) * (nI 596)) + x1)) 79 dX9_change_78 rfl (SH.fld hw (fun _ => s_x0) 1 (Nat.le_of_ble_eq_true rfl) rfl rfl) i2 rfl ?_
  refine x_iinc1 (x1 + (nI 1)) 82 dX9_change_79 rfl (by decide) rfl rfl ?_
  exact x_goto 51 dX9_change_82 (by decide) kt
set_option maxRecDepth 20000 in
theorem B9_change_85 {ω : Om} {h : AH} {Q : Option Value → AH → Prop} {x0 : Nat} {u1 : Option Value} (hw : ω.2.2.2.1 = true) (s_x0 : gs h x0 = some (9, 17)) (hq : Q none (si h x0 2 ((gi h x0 2) + (nI 1)))) : Ex ω M9_change 85 [some (.ref x0), u1] [] h 0 0 Q := by
  refine x_dr1 ?_
  refine x_aload0 86 dX9_change_85 rfl ?_
  refine x_dup 87 dX9_change_86 rfl rfl ?_
  refine x_getI cf9 2 90 dX9_change_87 rfl wd207 (fun _ => s_x0) (by decide) rfl ?_
  refine x_iconst (nI 1) 91 dX9_change_90 rfl rfl ?_
  refine x_iadd 92 dX9_change_91 rfl ?_
  refine x_putI cf9 2 95 dX9_change_92 rfl wd207 (fun _ => s_x0) (by decide) rfl rfl ?_
  exact x_vret dX9_change_95 rfl (Nat.zero_le _) (Nat.zero_le _) hq
set_option maxRecDepth 20000 in
theorem B9_laysAside_0 {ω : Om} {h : AH} {Q : Option Value → AH → Prop} {x0 : Nat} {u1 : Option Value} (hw : ω.2.2.2.1 = true) (kf : Ex ω M9_laysAside 2 [some (.ref x0), some (.int (nI 0))] [] h 0 0 Q) : Ex ω M9_laysAside 0 [some (.ref x0), u1] [] h 0 0 Q := by
  refine x_dr1 ?_
  refine x_iconst (nI 0) 1 dX9_laysAside_0 rfl rfl ?_
  refine x_istore1 2 dX9_laysAside_1 rfl (by decide) rfl ?_
  exact kf
set_option maxRecDepth 20000 in
theorem B9_laysAside_2 {ω : Om} {h : AH} {Q : Option Value → AH → Prop} {x0 : Nat} {x1 : Int32} (hw : ω.2.2.2.1 = true) (kt : (nI 596) ≤ x1 → Ex ω M9_laysAside 27 [some (.ref x0), some (.int x1)] [] h 0 0 Q) (kf : ¬ (nI 596) ≤ x1 → Ex ω M9_laysAside 9 [some (.ref x0), some (.int x1)] [] h 0 0 Q) : Ex ω M9_laysAside 2 [some (.ref x0), some (.int x1)] [] h 0 0 Q := by
  refine x_iload1 3 dX9_laysAside_2 rfl ?_
  refine x_sipush (nI 596) 6 dX9_laysAside_3 rfl rfl ?_
  exact x_icmp_ge 9 27 dX9_laysAside_6 rfl (by decide) kt kf
set_option maxRecDepth 20000 in
theorem B9_laysAside_9 {ω : Om} {h : AH} {Q : Option Value → AH → Prop} {x0 : Nat} {x1 : Int32} (hw : ω.2.2.2.1 = true) (s_x0 : gs h x0 = some (9, 17)) (i1 : vp_in x1 596) (i2 : vp_in x1 596) (kt : Ex ω M9_laysAside 2 [some (.ref x0), some (.int (x1 + (nI 1)))] [] (si h (gr h x0 3) (Int32.toNatClampNeg x1) (gi h (gr h x0 0) (Int32.toNatClampNeg x1))) 0 0 Q) : Ex ω M9_laysAside 9 [some (.ref x0), some (.int x1)] [] h 0 0 Q := by
  refine x_aload0 10 dX9_laysAside_9 rfl ?_
  refine x_getR cf9 3 13 hw dX9_laysAside_10 rfl wd101 (fun _ => s_x0) (by decide) (by decide) rfl ?_
  refine x_iload1 14 dX9_laysAside_13 rfl ?_
  refine x_aload0 15 dX9_laysAside_14 rfl ?_
  refine x_getR cf9 0 18 hw dX9_laysAside_15 rfl wd99 (fun _ => s_x0) (by decide) (by decide) rfl ?_
  refine x_iload1 19 dX9_laysAside_18 rfl ?_
  refine x_iald (Int32.toNatClampNeg x1) 20 dX9_laysAside_19 rfl (SH.fld hw (fun _ => s_x0) 0 (Nat.le_of_ble_eq_true rfl) rfl rfl) i1 rfl ?_
  refine x_iast (Int32.toNatClampNeg x1) 21 dX9_laysAside_20 rfl (SH.fld hw (fun _ => s_x0) 3 (Nat.le_of_ble_eq_true rfl) rfl rfl) i2 rfl ?_
  refine x_iinc1 (x1 + (nI 1)) 24 dX9_laysAside_21 rfl (by decide) rfl rfl ?_
  exact x_goto 2 dX9_laysAside_24 (by decide) kt
set_option maxRecDepth 20000 in
theorem B9_laysAside_27 {ω : Om} {h : AH} {Q : Option Value → AH → Prop} {u0 : Option Value} {u1 : Option Value} (hw : ω.2.2.2.1 = true) (hq : Q none h) : Ex ω M9_laysAside 27 [u0, u1] [] h 0 0 Q := by
  refine x_dr0 ?_
  refine x_dr1 ?_
  exact x_vret dX9_laysAside_27 rfl (Nat.zero_le _) (Nat.zero_le _) hq
set_option maxRecDepth 20000 in
theorem B9_takesBack_0 {ω : Om} {h : AH} {Q : Option Value → AH → Prop} {x0 : Nat} {u1 : Option Value} (hw : ω.2.2.2.1 = true) (kf : Ex ω M9_takesBack 2 [some (.ref x0), some (.int (nI 0))] [] h 0 0 Q) : Ex ω M9_takesBack 0 [some (.ref x0), u1] [] h 0 0 Q := by
  refine x_dr1 ?_
  refine x_iconst (nI 0) 1 dX9_takesBack_0 rfl rfl ?_
  refine x_istore1 2 dX9_takesBack_1 rfl (by decide) rfl ?_
  exact kf
set_option maxRecDepth 20000 in
theorem B9_takesBack_2 {ω : Om} {h : AH} {Q : Option Value → AH → Prop} {x0 : Nat} {x1 : Int32} (hw : ω.2.2.2.1 = true) (kt : (nI 596) ≤ x1 → Ex ω M9_takesBack 27 [some (.ref x0), some (.int x1)] [] h 0 0 Q) (kf : ¬ (nI 596) ≤ x1 → Ex ω M9_takesBack 9 [some (.ref x0), some (.int x1)] [] h 0 0 Q) : Ex ω M9_takesBack 2 [some (.ref x0), some (.int x1)] [] h 0 0 Q := by
  refine x_iload1 3 dX9_takesBack_2 rfl ?_
  refine x_sipush (nI 596) 6 dX9_takesBack_3 rfl rfl ?_
  exact x_icmp_ge 9 27 dX9_takesBack_6 rfl (by decide) kt kf
set_option maxRecDepth 20000 in
theorem B9_takesBack_9 {ω : Om} {h : AH} {Q : Option Value → AH → Prop} {x0 : Nat} {x1 : Int32} (hw : ω.2.2.2.1 = true) (s_x0 : gs h x0 = some (9, 17)) (i1 : vp_in x1 596) (i2 : vp_in x1 596) (kt : Ex ω M9_takesBack 2 [some (.ref x0), some (.int (x1 + (nI 1)))] [] (si h (gr h x0 0) (Int32.toNatClampNeg x1) (gi h (gr h x0 3) (Int32.toNatClampNeg x1))) 0 0 Q) : Ex ω M9_takesBack 9 [some (.ref x0), some (.int x1)] [] h 0 0 Q := by
  refine x_aload0 10 dX9_takesBack_9 rfl ?_
  refine x_getR cf9 0 13 hw dX9_takesBack_10 rfl wd99 (fun _ => s_x0) (by decide) (by decide) rfl ?_
  refine x_iload1 14 dX9_takesBack_13 rfl ?_
  refine x_aload0 15 dX9_takesBack_14 rfl ?_
  refine x_getR cf9 3 18 hw dX9_takesBack_15 rfl wd101 (fun _ => s_x0) (by decide) (by decide) rfl ?_
  refine x_iload1 19 dX9_takesBack_18 rfl ?_
  refine x_iald (Int32.toNatClampNeg x1) 20 dX9_takesBack_19 rfl (SH.fld hw (fun _ => s_x0) 3 (Nat.le_of_ble_eq_true rfl) rfl rfl) i1 rfl ?_
  refine x_iast (Int32.toNatClampNeg x1) 21 dX9_takesBack_20 rfl (SH.fld hw (fun _ => s_x0) 0 (Nat.le_of_ble_eq_true rfl) rfl rfl) i2 rfl ?_
  refine x_iinc1 (x1 + (nI 1)) 24 dX9_takesBack_21 rfl (by decide) rfl rfl ?_
  exact x_goto 2 dX9_takesBack_24 (by decide) kt
set_option maxRecDepth 20000 in
theorem B9_takesBack_27 {ω : Om} {h : AH} {Q : Option Value → AH → Prop} {u0 : Option Value} {u1 : Option Value} (hw : ω.2.2.2.1 = true) (hq : Q none h) : Ex ω M9_takesBack 27 [u0, u1] [] h 0 0 Q := by
  refine x_dr0 ?_
  refine x_dr1 ?_
  exact x_vret dX9_takesBack_27 rfl (Nat.zero_le _) (Nat.zero_le _) hq
set_option maxRecDepth 20000 in
theorem B9_undo_0 {ω : Om} {h : AH} {Q : Option Value → AH → Prop} {x0 : Nat} {u1 : Option Value} (hw : ω.2.2.2.1 = true) (s_x0 : gs h x0 = some (9, 17)) (kt : ¬ (gi h x0 2) = 0 → Ex ω M9_undo 10 [some (.ref x0), none] [] h 0 0 Q) (kf : (gi h x0 2) = 0 → Ex ω M9_undo 7 [some (.ref x0), none] [] h 0 0 Q) : Ex ω M9_undo 0 [some (.ref x0), u1] [] h 0 0 Q := by
  refine x_dr1 ?_
  refine x_aload0 1 dX9_undo_0 rfl ?_
  refine x_getI cf9 2 4 dX9_undo_1 rfl wd207 (fun _ => s_x0) (by decide) rfl ?_
  exact x_if_ne 7 10 dX9_undo_4 rfl (by decide) kt kf
set_option maxRecDepth 20000 in
theorem B9_undo_7 {ω : Om} {h : AH} {Q : Option Value → AH → Prop} {u0 : Option Value} {u1 : Option Value} (hw : ω.2.2.2.1 = true) (hq : Q (some (.int ((-2)))) h) : Ex ω M9_undo 7 [u0, u1] [] h 0 0 Q := by
  refine x_dr0 ?_
  refine x_dr1 ?_
  refine x_bipush ((-2)) 9 dX9_undo_7 rfl rfl ?_
  exact x_iret dX9_undo_9 rfl (Nat.zero_le _) (Nat.zero_le _) hq
set_option maxRecDepth 20000 in
theorem B9_undo_10 {ω : Om} {h : AH} {Q : Option Value → AH → Prop} {x0 : Nat} {u1 : Option Value} (hw : ω.2.2.2.1 = true) (s_x0 : gs h x0 = some (9, 17)) (kf : Ex ω M9_undo 22 [some (.ref x0), some (.int (nI 0))] [] (si h x0 2 ((gi h x0 2) - (nI 1))) 0 0 Q) : Ex ω M9_undo 10 [some (.ref x0), u1] [] h 0 0 Q := by
  refine x_dr1 ?_
  refine x_aload0 11 dX9_undo_10 rfl ?_
  refine x_dup 12 dX9_undo_11 rfl rfl ?_
  refine x_getI cf9 2 15 dX9_undo_12 rfl wd207 (fun _ => s_x0) (by decide) rfl ?_
  refine x_iconst (nI 1) 16 dX9_undo_15 rfl rfl ?_
  refine x_isub 17 dX9_undo_16 rfl ?_
  refine x_putI cf9 2 20 dX9_undo_17 rfl wd207 (fun _ => s_x0) (by decide) rfl rfl ?_
  refine x_iconst (nI 0) 21 dX9_undo_20 rfl rfl ?_
  refine x_istore1 22 dX9_undo_21 rfl (by decide) rfl ?_
  exact kf
set_option maxRecDepth 20000 in
theorem B9_undo_22 {ω : Om} {h : AH} {Q : Option Value → AH → Prop} {x0 : Nat} {x1 : Int32} (hw : ω.2.2.2.1 = true) (kt : (nI 596) ≤ x1 → Ex ω M9_undo 56 [some (.ref x0), some (.int x1)] [] h 0 0 Q) (kf : ¬ (nI 596) ≤ x1 → Ex ω M9_undo 29 [some (.ref x0), some (.int x1)] [] h 0 0 Q) : Ex ω M9_undo 22 [some (.ref x0), some (.int x1)] [] h 0 0 Q := by
  refine x_iload1 23 dX9_undo_22 rfl ?_
  refine x_sipush (nI 596) 26 dX9_undo_23 rfl rfl ?_
  exact x_icmp_ge 29 56 dX9_undo_26 rfl (by decide) kt kf
set_option maxRecDepth 20000 in
theorem B9_undo_29 {ω : Om} {h : AH} {Q : Option Value → AH → Prop} {x0 : Nat} {x1 : Int32} (hw : ω.2.2.2.1 = true) (s_x0 : gs h x0 = some (9, 17)) (i1 : vp_in (((gi h x0 2) * (nI 596)) + x1) 2384) (i2 : vp_in x1 596) (kt : Ex ω M9_undo 22 [some (.ref x0), some (.int (x1 + (nI 1)))] [] (si h (gr h x0 0) (Int32.toNatClampNeg x1) (gi h (gr h x0 1) (Int32.toNatClampNeg (((gi h x0 2) * (nI 596)) + x1)))) 0 0 Q) : Ex ω M9_undo 29 [some (.ref x0), some (.int x1)] [] h 0 0 Q := by
  refine x_aload0 30 dX9_undo_29 rfl ?_
  refine x_getR cf9 0 33 hw dX9_undo_30 rfl wd99 (fun _ => s_x0) (by decide) (by decide) rfl ?_
  refine x_iload1 34 dX9_undo_33 rfl ?_
  refine x_aload0 35 dX9_undo_34 rfl ?_
  refine x_getR cf9 1 38 hw dX9_undo_35 rfl wd100 (fun _ => s_x0) (by decide) (by decide) rfl ?_
  refine x_aload0 39 dX9_undo_38 rfl ?_
  refine x_getI cf9 2 42 dX9_undo_39 rfl wd207 (fun _ => s_x0) (by decide) rfl ?_
  refine x_sipush (nI 596) 45 dX9_undo_42 rfl rfl ?_
  refine x_imul 46 dX9_undo_45 rfl ?_
  refine x_iload1 47 dX9_undo_46 rfl ?_
  refine x_iadd 48 dX9_undo_47 rfl ?_
  refine x_iald (Int32.toNatClampNeg (((gi h x0 2) * (nI 596)) + x1)) 49 dX9_undo_48 rfl (SH.fld hw (fun _ => s_x0) 1 (Nat.le_of_ble_eq_true rfl) rfl rfl) i1 rfl ?_
  refine x_iast (Int32.toNatClampNeg x1) 50 dX9_undo_49 rfl (SH.fld hw (fun _ => s_x0) 0 (Nat.le_of_ble_eq_true rfl) rfl rfl) i2 rfl ?_
  refine x_iinc1 (x1 + (nI 1)) 53 dX9_undo_50 rfl (by decide) rfl rfl ?_
  exact x_goto 22 dX9_undo_53 (by decide) kt
set_option maxRecDepth 20000 in
theorem B9_undo_56 {ω : Om} {h : AH} {Q : Option Value → AH → Prop} {x0 : Nat} {u1 : Option Value} (hw : ω.2.2.2.1 = true) (s_x0 : gs h x0 = some (9, 17)) (hq : Q (some (.int (gi h x0 2))) h) : Ex ω M9_undo 56 [some (.ref x0), u1] [] h 0 0 Q := by
  refine x_dr1 ?_
  refine x_aload0 57 dX9_undo_56 rfl ?_
  refine x_getI cf9 2 60 dX9_undo_57 rfl wd207 (fun _ => s_x0) (by decide) rfl ?_
  exact x_iret dX9_undo_60 rfl (Nat.zero_le _) (Nat.zero_le _) hq
set_option maxRecDepth 20000 in
theorem B9_rollAt_0 {ω : Om} {h : AH} {Q : Option Value → AH → Prop} {x0 : Nat} {x1 : Int32} {x2 : Int32} (hw : ω.2.2.2.1 = true) (s_x0 : gs h x0 = some (9, 17)) (i1 : vp_in (((nI 20) + ((nI 20) * x1)) + x2) 596) (hq : Q (some (.int (gi h (gr h x0 0) (Int32.toNatClampNeg (((nI 20) + ((nI 20) * x1)) + x2))))) h) : Ex ω M9_rollAt 0 [some (.ref x0), some (.int x1), some (.int x2)] [] h 0 0 Q := by
  refine x_aload0 1 dX9_rollAt_0 rfl ?_
  refine x_getR cf9 0 4 hw dX9_rollAt_1 rfl wd99 (fun _ => s_x0) (by decide) (by decide) rfl ?_
  refine x_bipush (nI 20) 6 dX9_rollAt_4 rfl rfl ?_
  refine x_bipush (nI 20) 8 dX9_rollAt_6 rfl rfl ?_
  refine x_iload1 9 dX9_rollAt_8 rfl ?_
  refine x_imul 10 dX9_rollAt_9 rfl ?_
  refine x_iadd 11 dX9_rollAt_10 rfl ?_
  refine x_iload2 12 dX9_rollAt_11 rfl ?_
  refine x_iadd 13 dX9_rollAt_12 rfl ?_
  refine x_iald (Int32.toNatClampNeg (((nI 20) + ((nI 20) * x1)) + x2)) 14 dX9_rollAt_13 rfl (SH.fld hw (fun _ => s_x0) 0 (Nat.le_of_ble_eq_true rfl) rfl rfl) i1 rfl ?_
  exact x_iret dX9_rollAt_14 rfl (Nat.zero_le _) (Nat.zero_le _) hq
set_option maxRecDepth 20000 in
theorem B9_addRoll_0 {ω : Om} {h : AH} {Q : Option Value → AH → Prop} {x0 : Nat} {x1 : Int32} {x2 : Int32} {u3 : Option Value} {u4 : Option Value} (hw : ω.2.2.2.1 = true) (kk : Ex ω M9_in 0 [some (.long (Int32.toInt64 x1)), none, some (.long ((100 : Int64))), none, some (.long ((100000 : Int64))), none] [] h 0 0 (fun v h' => Ex ω M9_addRoll 11 [some (.ref x0), some (.int x1), some (.int x2), none, none] (v.toList ++ []) h' 0 0 Q)) : Ex ω M9_addRoll 0 [some (.ref x0), some (.int x1), some (.int x2), u3, u4] [] h 0 0 Q := by
  refine x_dr3 ?_
  refine x_dr4 ?_
  refine x_iload1 1 dX9_addRoll_0 rfl ?_
  refine x_i2l 2 dX9_addRoll_1 rfl ?_
  refine x_ldc2 100 5 dX9_addRoll_2 rfl wd197 ?_
  refine x_ldc2 100000 8 dX9_addRoll_5 rfl wd198 ?_
  exact x_callS 11 [.long (Int32.toInt64 x1), .long ((100 : Int64)), .long ((100000 : Int64))] [] dX9_addRoll_8 rfl lk_9_in ⟨wd200, wd201⟩ ⟨by decide, by decide⟩ rfl rfl (Nat.le_of_ble_eq_true rfl) (Nat.le_of_ble_eq_true rfl) (by decide) (by decide) kk
set_option maxRecDepth 20000 in
theorem B9_addRoll_11 {ω : Om} {h : AH} {Q : Option Value → AH → Prop} {x0 : Nat} {x1 : Int32} {x2 : Int32} {u3 : Option Value} {u4 : Option Value} {y0 : Int32} (hw : ω.2.2.2.1 = true) (kt : y0 = 0 → Ex ω M9_addRoll 26 [some (.ref x0), some (.int x1), some (.int x2), none, none] [] h 0 0 Q) (kf : ¬ y0 = 0 → Ex ω M9_addRoll 14 [some (.ref x0), some (.int x1), some (.int x2), none, none] [] h 0 0 Q) : Ex ω M9_addRoll 11 [some (.ref x0), some (.int x1), some (.int x2), u3, u4] [.int y0] h 0 0 Q := by
  refine x_dr3 ?_
  refine x_dr4 ?_
  exact x_if_eq 14 26 dX9_addRoll_11 rfl (by decide) kt kf
set_option maxRecDepth 20000 in
theorem B9_addRoll_14 {ω : Om} {h : AH} {Q : Option Value → AH → Prop} {x0 : Nat} {x1 : Int32} {x2 : Int32} {u3 : Option Value} {u4 : Option Value} (hw : ω.2.2.2.1 = true) (kk : Ex ω M9_in 0 [some (.long (Int32.toInt64 x2)), none, some (.long ((1 : Int64))), none, some (.long ((50 : Int64))), none] [] h 0 0 (fun v h' => Ex ω M9_addRoll 23 [some (.ref x0), some (.int x1), some (.int x2), none, none] (v.toList ++ []) h' 0 0 Q)) : Ex ω M9_addRoll 14 [some (.ref x0), some (.int x1), some (.int x2), u3, u4] [] h 0 0 Q := by
  refine x_dr3 ?_
  refine x_dr4 ?_
  refine x_iload2 15 dX9_addRoll_14 rfl ?_
  refine x_i2l 16 dX9_addRoll_15 rfl ?_
  refine x_lconst 1 17 dX9_addRoll_16 rfl rfl ?_
  refine x_ldc2 50 20 dX9_addRoll_17 rfl wd199 ?_
  exact x_callS 23 [.long (Int32.toInt64 x2), .long ((1 : Int64)), .long ((50 : Int64))] [] dX9_addRoll_20 rfl lk_9_in ⟨wd200, wd201⟩ ⟨by decide, by decide⟩ rfl rfl (Nat.le_of_ble_eq_true rfl) (Nat.le_of_ble_eq_true rfl) (by decide) (by decide) kk
set_option maxRecDepth 20000 in
theorem B9_addRoll_23 {ω : Om} {h : AH} {Q : Option Value → AH → Prop} {x0 : Nat} {x1 : Int32} {x2 : Int32} {u3 : Option Value} {u4 : Option Value} {y0 : Int32} (hw : ω.2.2.2.1 = true) (kt : ¬ y0 = 0 → Ex ω M9_addRoll 28 [some (.ref x0), some (.int x1), some (.int x2), none, none] [] h 0 0 Q) (kf : y0 = 0 → Ex ω M9_addRoll 26 [some (.ref x0), some (.int x1), some (.int x2), none, none] [] h 0 0 Q) : Ex ω M9_addRoll 23 [some (.ref x0), some (.int x1), some (.int x2), u3, u4] [.int y0] h 0 0 Q := by
  refine x_dr3 ?_
  refine x_dr4 ?_
  exact x_if_ne 26 28 dX9_addRoll_23 rfl (by decide) kt kf
set_option maxRecDepth 20000 in
theorem B9_addRoll_26 {ω : Om} {h : AH} {Q : Option Value → AH → Prop} {u0 : Option Value} {u1 : Option Value} {u2 : Option Value} {u3 : Option Value} {u4 : Option Value} (hw : ω.2.2.2.1 = true) (hq : Q (some (.int ((-1)))) h) : Ex ω M9_addRoll 26 [u0, u1, u2, u3, u4] [] h 0 0 Q := by
  refine x_dr0 ?_
  refine x_dr1 ?_
  refine x_dr2 ?_
  refine x_dr3 ?_
  refine x_dr4 ?_
  refine x_iconst ((-1)) 27 dX9_addRoll_26 rfl rfl ?_
  exact x_iret dX9_addRoll_27 rfl (Nat.zero_le _) (Nat.zero_le _) hq
set_option maxRecDepth 20000 in
theorem B9_addRoll_28 {ω : Om} {h : AH} {Q : Option Value → AH → Prop} {x0 : Nat} {x1 : Int32} {x2 : Int32} {u3 : Option Value} {u4 : Option Value} (hw : ω.2.2.2.1 = true) (s_x0 : gs h x0 = some (9, 17)) (kt : ¬ (gi h (gr h x0 0) 0) = (nI 6) → Ex ω M9_addRoll 42 [some (.ref x0), some (.int x1), some (.int x2), none, none] [] h 0 0 Q) (kf : (gi h (gr h x0 0) 0) = (nI 6) → Ex ω M9_addRoll 39 [some (.ref x0), some (.int x1), some (.int x2), none, none] [] h 0 0 Q) : Ex ω M9_addRoll 28 [some (.ref x0), some (.int x1), some (.int x2), u3, u4] [] h 0 0 Q := by
  refine x_dr3 ?_
  refine x_dr4 ?_
  refine x_aload0 29 dX9_addRoll_28 rfl ?_
  refine x_getR cf9 0 32 hw dX9_addRoll_29 rfl wd99 (fun _ => s_x0) (by decide) (by decide) rfl ?_
  refine x_iconst (nI 0) 33 dX9_addRoll_32 rfl rfl ?_
  refine x_iald 0 34 dX9_addRoll_33 rfl (SH.fld hw (fun _ => s_x0) 0 (Nat.le_of_ble_eq_true rfl) rfl rfl) (vp_c (by decide)) rfl ?_
  refine x_bipush (nI 6) 36 dX9_addRoll_34 rfl rfl ?_
  exact x_icmp_ne 39 42 dX9_addRoll_36 rfl (by decide) kt kf
set_option maxRecDepth 20000 in
theorem B9_addRoll_39 {ω : Om} {h : AH} {Q : Option Value → AH → Prop} {u0 : Option Value} {u1 : Option Value} {u2 : Option Value} {u3 : Option Value} {u4 : Option Value} (hw : ω.2.2.2.1 = true) (hq : Q (some (.int ((-3)))) h) : Ex ω M9_addRoll 39 [u0, u1, u2, u3, u4] [] h 0 0 Q := by
  refine x_dr0 ?_
  refine x_dr1 ?_
  refine x_dr2 ?_
  refine x_dr3 ?_
  refine x_dr4 ?_
  refine x_bipush ((-3)) 41 dX9_addRoll_39 rfl rfl ?_
  exact x_iret dX9_addRoll_41 rfl (Nat.zero_le _) (Nat.zero_le _) hq
set_option maxRecDepth 20000 in
theorem B9_addRoll_42 {ω : Om} {h : AH} {Q : Option Value → AH → Prop} {x0 : Nat} {x1 : Int32} {x2 : Int32} {u3 : Option Value} {u4 : Option Value} (hw : ω.2.2.2.1 = true) (s_x0 : gs h x0 = some (9, 17)) (kk : Ex ω M9_change 0 [some (.ref x0), none] [] h 0 0 (fun v h' => Ex ω M9_addRoll 46 [some (.ref x0), some (.int x1), some (.int x2), none, none] (v.toList ++ []) h' 0 0 Q)) : Ex ω M9_addRoll 42 [some (.ref x0), some (.int x1), some (.int x2), u3, u4] [] h 0 0 Q := by
  refine x_dr3 ?_
  refine x_dr4 ?_
  refine x_aload0 43 dX9_addRoll_42 rfl ?_
  exact x_callV 46 x0 [] [] dX9_addRoll_43 rfl lk_9_change ⟨wd203, wd204, wd205⟩ ⟨by decide, by decide⟩ (recvO cf9 (fun _ => s_x0)) rfl rfl (Nat.le_of_ble_eq_true rfl) (Nat.le_of_ble_eq_true rfl) (by decide) (by decide) kk
set_option maxRecDepth 20000 in
theorem B9_addRoll_46 {ω : Om} {h : AH} {Q : Option Value → AH → Prop} {x0 : Nat} {x1 : Int32} {x2 : Int32} {u3 : Option Value} {u4 : Option Value} (hw : ω.2.2.2.1 = true) (s_x0 : gs h x0 = some (9, 17)) (kf : Ex ω M9_addRoll 62 [some (.ref x0), some (.int x1), some (.int x2), some (.int ((nI 20) + ((nI 20) * (gi h (gr h x0 0) 0)))), some (.int (nI 0))] [] h 0 0 Q) : Ex ω M9_addRoll 46 [some (.ref x0), some (.int x1), some (.int x2), u3, u4] [] h 0 0 Q := by
  refine x_dr3 ?_
  refine x_dr4 ?_
  refine x_bipush (nI 20) 48 dX9_addRoll_46 rfl rfl ?_
  refine x_bipush (nI 20) 50 dX9_addRoll_48 rfl rfl ?_
  refine x_aload0 51 dX9_addRoll_50 rfl ?_
  refine x_getR cf9 0 54 hw dX9_addRoll_51 rfl wd99 (fun _ => s_x0) (by decide) (by decide) rfl ?_
  refine x_iconst (nI 0) 55 dX9_addRoll_54 rfl rfl ?_
  refine x_iald 0 56 dX9_addRoll_55 rfl (SH.fld hw (fun _ => s_x0) 0 (Nat.le_of_ble_eq_true rfl) rfl rfl) (vp_c (by decide)) rfl ?_
  refine x_imul 57 dX9_addRoll_56 rfl ?_
  refine x_iadd 58 dX9_addRoll_57 rfl ?_
  refine x_istore3 59 dX9_addRoll_58 rfl (by decide) rfl ?_
  refine x_iconst (nI 0) 60 dX9_addRoll_59 rfl rfl ?_
  refine x_istore4 62 dX9_addRoll_60 rfl (by decide) rfl ?_
  exact kf
set_option maxRecDepth 20000 in
theorem B9_addRoll_62 {ω : Om} {h : AH} {Q : Option Value → AH → Prop} {x0 : Nat} {x1 : Int32} {x2 : Int32} {x3 : Int32} {x4 : Int32} (hw : ω.2.2.2.1 = true) (kt : (nI 20) ≤ x4 → Ex ω M9_addRoll 85 [some (.ref x0), some (.int x1), some (.int x2), some (.int x3), some (.int x4)] [] h 0 0 Q) (kf : ¬ (nI 20) ≤ x4 → Ex ω M9_addRoll 69 [some (.ref x0), some (.int x1), some (.int x2), some (.int x3), some (.int x4)] [] h 0 0 Q) : Ex ω M9_addRoll 62 [some (.ref x0), some (.int x1), some (.int x2), some (.int x3), some (.int x4)] [] h 0 0 Q := by
  refine x_iload4 64 dX9_addRoll_62 rfl ?_
  refine x_bipush (nI 20) 66 dX9_addRoll_64 rfl rfl ?_
  exact x_icmp_ge 69 85 dX9_addRoll_66 rfl (by decide) kt kf
set_option maxRecDepth 20000 in
theorem B9_addRoll_69 {ω : Om} {h : AH} {Q : Option Value → AH → Prop} {x0 : Nat} {x1 : Int32} {x2 : Int32} {x3 : Int32} {x4 : Int32} (hw : ω.2.2.2.1 = true) (s_x0 : gs h x0 = some (9, 17)) (i1 : vp_in (x3 + x4) 596) (kt : Ex ω M9_addRoll 62 [some (.ref x0), some (.int x1), some (.int x2), some (.int x3), some (.int (x4 + (nI 1)))] [] (si h (gr h x0 0) (Int32.toNatClampNeg (x3 + x4)) (nI 0)) 0 0 Q) : Ex ω M9_addRoll 69 [some (.ref x0), some (.int x1), some (.int x2), some (.int x3), some (.int x4)] [] h 0 0 Q := by
  refine x_aload0 70 dX9_addRoll_69 rfl ?_
  refine x_getR cf9 0 73 hw dX9_addRoll_70 rfl wd99 (fun _ => s_x0) (by decide) (by decide) rfl ?_
  refine x_iload3 74 dX9_addRoll_73 rfl ?_
  refine x_iload4 76 dX9_addRoll_74 rfl ?_
  refine x_iadd 77 dX9_addRoll_76 rfl ?_
  refine x_iconst (nI 0) 78 dX9_addRoll_77 rfl rfl ?_
  refine x_iast (Int32.toNatClampNeg (x3 + x4)) 79 dX9_addRoll_78 rfl (SH.fld hw (fun _ => s_x0) 0 (Nat.le_of_ble_eq_true rfl) rfl rfl) i1 rfl ?_
  refine x_iinc4 (x4 + (nI 1)) 82 dX9_addRoll_79 rfl (by decide) rfl rfl ?_
  exact x_goto 62 dX9_addRoll_82 (by decide) kt
set_option maxRecDepth 20000 in
theorem B9_addRoll_85 {ω : Om} {h : AH} {Q : Option Value → AH → Prop} {x0 : Nat} {x1 : Int32} {x2 : Int32} {x3 : Int32} {u4 : Option Value} (hw : ω.2.2.2.1 = true) (s_x0 : gs h x0 = some (9, 17)) (i1 : vp_in (x3 + (nI 0)) 596) (i2 : vp_in (x3 + (nI 1)) 596) (kf : Ex ω M9_addRoll 113 [some (.ref x0), some (.int x1), some (.int x2), some (.int x3), none] [] (si (si (si h (gr h x0 0) (Int32.toNatClampNeg (x3 + (nI 0))) x1) (gr h x0 0) (Int32.toNatClampNeg (x3 + (nI 1))) x2) (gr h x0 0) 0 ((gi (si (si h (gr h x0 0) (Int32.toNatClampNeg (x3 + (nI 0))) x1) (gr h x0 0) (Int32.toNatClampNeg (x3 + (nI 1))) x2) (gr h x0 0) 0) + (nI 1))) 0 0 Q) : Ex ω M9_addRoll 85 [some (.ref x0), some (.int x1), some (.int x2), some (.int x3), u4] [] h 0 0 Q := by
  refine x_dr4 ?_
  refine x_aload0 86 dX9_addRoll_85 rfl ?_
  refine x_getR cf9 0 89 hw dX9_addRoll_86 rfl wd99 (fun _ => s_x0) (by decide) (by decide) rfl ?_
  refine x_iload3 90 dX9_addRoll_89 rfl ?_
  refine x_iconst (nI 0) 91 dX9_addRoll_90 rfl rfl ?_
  refine x_iadd 92 dX9_addRoll_91 rfl ?_
  refine x_iload1 93 dX9_addRoll_92 rfl ?_
  refine x_iast (Int32.toNatClampNeg (x3 + (nI 0))) 94 dX9_addRoll_93 rfl (SH.fld hw (fun _ => s_x0) 0 (Nat.le_of_ble_eq_true rfl) rfl rfl) i1 rfl ?_
  refine x_aload0 95 dX9_addRoll_94 rfl ?_
  refine x_getR cf9 0 98 hw dX9_addRoll_95 rfl wd99 (fun _ => s_x0) (by decide) (by decide) rfl ?_
  refine x_iload3 99 dX9_addRoll_98 rfl ?_
  refine x_iconst (nI 1) 100 dX9_addRoll_99 rfl rfl ?_
  refine x_iadd 101 dX9_addRoll_100 rfl ?_
  refine x_iload2 102 dX9_addRoll_101 rfl ?_
  refine x_iast (Int32.toNatClampNeg (x3 + (nI 1))) 103 dX9_addRoll_102 rfl (SH.fld hw (fun _ => s_x0) 0 (Nat.le_of_ble_eq_true rfl) rfl rfl) i2 rfl ?_
  refine x_aload0 104 dX9_addRoll_103 rfl ?_
  refine x_getR cf9 0 107 hw dX9_addRoll_104 rfl wd99 (fun _ => s_x0) (by decide) (by decide) rfl ?_
  refine x_iconst (nI 0) 108 dX9_addRoll_107 rfl rfl ?_
  refine x_dup2 109 dX9_addRoll_108 rfl rfl rfl ?_
  refine x_iald 0 110 dX9_addRoll_109 rfl (SH.fld hw (fun _ => s_x0) 0 (Nat.le_of_ble_eq_true rfl) rfl rfl) (vp_c (by decide)) rfl ?_
  refine x_iconst (nI 1) 111 dX9_addRoll_110 rfl rfl ?_
  refine x_iadd 112 dX9_addRoll_111 rfl ?_
  refine x_iast 0 113 dX9_addRoll_112 rfl (SH.fld hw (fun _ => s_x0) 0 (Nat.le_of_ble_eq_true rfl) rfl rfl) (vp_c (by decide)) rfl ?_
  exact kf
set_option maxRecDepth 20000 in
theorem B9_addRoll_113 {ω : Om} {h : AH} {Q : Option Value → AH → Prop} {x0 : Nat} {u1 : Option Value} {u2 : Option Value} {u3 : Option Value} {u4 : Option Value} (hw : ω.2.2.2.1 = true) (s_x0 : gs h x0 = some (9, 17)) (hq : Q (some (.int (gi h (gr h x0 0) 0))) h) : Ex ω M9_addRoll 113 [some (.ref x0), u1, u2, u3, u4] [] h 0 0 Q := by
  refine x_dr1 ?_
  refine x_dr2 ?_
  refine x_dr3 ?_
  refine x_dr4 ?_
  refine x_aload0 114 dX9_addRoll_113 rfl ?_
  refine x_getR cf9 0 117 hw dX9_addRoll_114 rfl wd99 (fun _ => s_x0) (by decide) (by decide) rfl ?_
  refine x_iconst (nI 0) 118 dX9_addRoll_117 rfl rfl ?_
  refine x_iald 0 119 dX9_addRoll_118 rfl (SH.fld hw (fun _ => s_x0) 0 (Nat.le_of_ble_eq_true rfl) rfl rfl) (vp_c (by decide)) rfl ?_
  exact x_iret dX9_addRoll_119 rfl (Nat.zero_le _) (Nat.zero_le _) hq
set_option maxRecDepth 20000 in
theorem B9_isRoll_0 {ω : Om} {h : AH} {Q : Option Value → AH → Prop} {x0 : Nat} {x1 : Int32} (hw : ω.2.2.2.1 = true) (s_x0 : gs h x0 = some (9, 17)) (kk : Ex ω M9_in 0 [some (.long (Int32.toInt64 x1)), none, some (.long ((0 : Int64))), none, some (.long (Int32.toInt64 ((gi h (gr h x0 0) 0) - (nI 1)))), none] [] h 0 0 (fun v h' => Ex ω M9_isRoll 15 [some (.ref x0), some (.int x1)] (v.toList ++ []) h' 0 0 Q)) : Ex ω M9_isRoll 0 [some (.ref x0), some (.int x1)] [] h 0 0 Q := by
  refine x_iload1 1 dX9_isRoll_0 rfl ?_
  refine x_i2l 2 dX9_isRoll_1 rfl ?_
  refine x_lconst 0 3 dX9_isRoll_2 rfl rfl ?_
  refine x_aload0 4 dX9_isRoll_3 rfl ?_
  refine x_getR cf9 0 7 hw dX9_isRoll_4 rfl wd99 (fun _ => s_x0) (by decide) (by decide) rfl ?_
  refine x_iconst (nI 0) 8 dX9_isRoll_7 rfl rfl ?_
  refine x_iald 0 9 dX9_isRoll_8 rfl (SH.fld hw (fun _ => s_x0) 0 (Nat.le_of_ble_eq_true rfl) rfl rfl) (vp_c (by decide)) rfl ?_
  refine x_iconst (nI 1) 10 dX9_isRoll_9 rfl rfl ?_
  refine x_isub 11 dX9_isRoll_10 rfl ?_
  refine x_i2l 12 dX9_isRoll_11 rfl ?_
  exact x_callS 15 [.long (Int32.toInt64 x1), .long ((0 : Int64)), .long (Int32.toInt64 ((gi h (gr h x0 0) 0) - (nI 1)))] [] dX9_isRoll_12 rfl lk_9_in ⟨wd200, wd201⟩ ⟨by decide, by decide⟩ rfl rfl (Nat.le_of_ble_eq_true rfl) (Nat.le_of_ble_eq_true rfl) (by decide) (by decide) kk
set_option maxRecDepth 20000 in
theorem B9_isRoll_15 {ω : Om} {h : AH} {Q : Option Value → AH → Prop} {u0 : Option Value} {u1 : Option Value} {y0 : Int32} (hw : ω.2.2.2.1 = true) (hz : narrow .boolean (.int y0) = .int y0) (hq : Q (some (.int y0)) h) : Ex ω M9_isRoll 15 [u0, u1] [.int y0] h 0 0 Q := by
  refine x_dr0 ?_
  refine x_dr1 ?_
  exact x_zret dX9_isRoll_15 rfl hz (Nat.zero_le _) (Nat.zero_le _) hq
set_option maxRecDepth 20000 in
theorem B9_weaken_0 {ω : Om} {h : AH} {Q : Option Value → AH → Prop} {x0 : Nat} {x1 : Int32} {x2 : Int32} {x3 : Int32} {u4 : Option Value} {u5 : Option Value} (hw : ω.2.2.2.1 = true) (s_x0 : gs h x0 = some (9, 17)) (kk : Ex ω M9_isRoll 0 [some (.ref x0), some (.int x1)] [] h 0 0 (fun v h' => Ex ω M9_weaken 5 [some (.ref x0), some (.int x1), some (.int x2), some (.int x3), none, none] (v.toList ++ []) h' 0 0 Q)) : Ex ω M9_weaken 0 [some (.ref x0), some (.int x1), some (.int x2), some (.int x3), u4, u5] [] h 0 0 Q := by
  refine x_dr4 ?_
  refine x_dr5 ?_
  refine x_aload0 1 dX9_weaken_0 rfl ?_
  refine x_iload1 2 dX9_weaken_1 rfl ?_
  exact x_callV 5 x0 [.int x1] [] dX9_weaken_2 rfl lk_9_isRoll ⟨wd229, wd230, wd231⟩ ⟨by decide, by decide⟩ (recvO cf9 (fun _ => s_x0)) rfl rfl (Nat.le_of_ble_eq_true rfl) (Nat.le_of_ble_eq_true rfl) (by decide) (by decide) kk
set_option maxRecDepth 20000 in
theorem B9_weaken_5 {ω : Om} {h : AH} {Q : Option Value → AH → Prop} {x0 : Nat} {x1 : Int32} {x2 : Int32} {x3 : Int32} {u4 : Option Value} {u5 : Option Value} {y0 : Int32} (hw : ω.2.2.2.1 = true) (kt : y0 = 0 → Ex ω M9_weaken 38 [some (.ref x0), some (.int x1), some (.int x2), some (.int x3), none, none] [] h 0 0 Q) (kf : ¬ y0 = 0 → Ex ω M9_weaken 8 [some (.ref x0), some (.int x1), some (.int x2), some (.int x3), none, none] [] h 0 0 Q) : Ex ω M9_weaken 5 [some (.ref x0), some (.int x1), some (.int x2), some (.int x3), u4, u5] [.int y0] h 0 0 Q := by
  refine x_dr4 ?_
  refine x_dr5 ?_
  exact x_if_eq 8 38 dX9_weaken_5 rfl (by decide) kt kf
set_option maxRecDepth 20000 in
theorem B9_weaken_8 {ω : Om} {h : AH} {Q : Option Value → AH → Prop} {x0 : Nat} {x1 : Int32} {x2 : Int32} {x3 : Int32} {u4 : Option Value} {u5 : Option Value} (hw : ω.2.2.2.1 = true) (s_x0 : gs h x0 = some (9, 17)) (kk : Ex ω M9_rollAt 0 [some (.ref x0), some (.int x1), some (.int (nI 0))] [] h 0 0 (fun v h' => Ex ω M9_weaken 17 [some (.ref x0), some (.int x1), some (.int x2), some (.int x3), none, none] (v.toList ++ [.long ((1 : Int64)), .long (Int32.toInt64 x2)]) h' 0 0 Q)) : Ex ω M9_weaken 8 [some (.ref x0), some (.int x1), some (.int x2), some (.int x3), u4, u5] [] h 0 0 Q := by
  refine x_dr4 ?_
  refine x_dr5 ?_
  refine x_iload2 9 dX9_weaken_8 rfl ?_
  refine x_i2l 10 dX9_weaken_9 rfl ?_
  refine x_lconst 1 11 dX9_weaken_10 rfl rfl ?_
  refine x_aload0 12 dX9_weaken_11 rfl ?_
  refine x_iload1 13 dX9_weaken_12 rfl ?_
  refine x_iconst (nI 0) 14 dX9_weaken_13 rfl rfl ?_
  exact x_callV 17 x0 [.int x1, .int (nI 0)] [.long ((1 : Int64)), .long (Int32.toInt64 x2)] dX9_weaken_14 rfl lk_9_rollAt ⟨wd233, wd234, wd235⟩ ⟨by decide, by decide⟩ (recvO cf9 (fun _ => s_x0)) rfl rfl (Nat.le_of_ble_eq_true rfl) (Nat.le_of_ble_eq_true rfl) (by decide) (by decide) kk
set_option maxRecDepth 20000 in
theorem B9_weaken_17 {ω : Om} {h : AH} {Q : Option Value → AH → Prop} {x0 : Nat} {x1 : Int32} {x2 : Int32} {x3 : Int32} {u4 : Option Value} {u5 : Option Value} {y0 : Int64} {y1 : Int64} {y2 : Int32} (hw : ω.2.2.2.1 = true) (kk : Ex ω M9_in 0 [some (.long y0), none, some (.long y1), none, some (.long (Int32.toInt64 (y2 - (nI 1)))), none] [] h 0 0 (fun v h' => Ex ω M9_weaken 23 [some (.ref x0), some (.int x1), some (.int x2), some (.int x3), none, none] (v.toList ++ []) h' 0 0 Q)) : Ex ω M9_weaken 17 [some (.ref x0), some (.int x1), some (.int x2), some (.int x3), u4, u5] [.int y2, .long y1, .long y0] h 0 0 Q := by
  refine x_dr4 ?_
  refine x_dr5 ?_
  refine x_iconst (nI 1) 18 dX9_weaken_17 rfl rfl ?_
  refine x_isub 19 dX9_weaken_18 rfl ?_
  refine x_i2l 20 dX9_weaken_19 rfl ?_
  exact x_callS 23 [.long y0, .long y1, .long (Int32.toInt64 (y2 - (nI 1)))] [] dX9_weaken_20 rfl lk_9_in ⟨wd200, wd201⟩ ⟨by decide, by decide⟩ rfl rfl (Nat.le_of_ble_eq_true rfl) (Nat.le_of_ble_eq_true rfl) (by decide) (by decide) kk
set_option maxRecDepth 20000 in
theorem B9_weaken_23 {ω : Om} {h : AH} {Q : Option Value → AH → Prop} {x0 : Nat} {x1 : Int32} {x2 : Int32} {x3 : Int32} {u4 : Option Value} {u5 : Option Value} {y0 : Int32} (hw : ω.2.2.2.1 = true) (kt : y0 = 0 → Ex ω M9_weaken 38 [some (.ref x0), some (.int x1), some (.int x2), some (.int x3), none, none] [] h 0 0 Q) (kf : ¬ y0 = 0 → Ex ω M9_weaken 26 [some (.ref x0), some (.int x1), some (.int x2), some (.int x3), none, none] [] h 0 0 Q) : Ex ω M9_weaken 23 [some (.ref x0), some (.int x1), some (.int x2), some (.int x3), u4, u5] [.int y0] h 0 0 Q := by
  refine x_dr4 ?_
  refine x_dr5 ?_
  exact x_if_eq 26 38 dX9_weaken_23 rfl (by decide) kt kf
set_option maxRecDepth 20000 in
theorem B9_weaken_26 {ω : Om} {h : AH} {Q : Option Value → AH → Prop} {x0 : Nat} {x1 : Int32} {x2 : Int32} {x3 : Int32} {u4 : Option Value} {u5 : Option Value} (hw : ω.2.2.2.1 = true) (kk : Ex ω M9_in 0 [some (.long (Int32.toInt64 x3)), none, some (.long ((0 : Int64))), none, some (.long ((199 : Int64))), none] [] h 0 0 (fun v h' => Ex ω M9_weaken 35 [some (.ref x0), some (.int x1), some (.int x2), some (.int x3), none, none] (v.toList ++ []) h' 0 0 Q)) : Ex ω M9_weaken 26 [some (.ref x0), some (.int x1), some (.int x2), some (.int x3), u4, u5] [] h 0 0 Q := by
  refine x_dr4 ?_
  refine x_dr5 ?_
  refine x_iload3 27 dX9_weaken_26 rfl ?_
  refine x_i2l 28 dX9_weaken_27 rfl ?_
  refine x_lconst 0 29 dX9_weaken_28 rfl rfl ?_
  refine x_ldc2 199 32 dX9_weaken_29 rfl wd228 ?_
  exact x_callS 35 [.long (Int32.toInt64 x3), .long ((0 : Int64)), .long ((199 : Int64))] [] dX9_weaken_32 rfl lk_9_in ⟨wd200, wd201⟩ ⟨by decide, by decide⟩ rfl rfl (Nat.le_of_ble_eq_true rfl) (Nat.le_of_ble_eq_true rfl) (by decide) (by decide) kk
set_option maxRecDepth 20000 in
theorem B9_weaken_35 {ω : Om} {h : AH} {Q : Option Value → AH → Prop} {x0 : Nat} {x1 : Int32} {x2 : Int32} {x3 : Int32} {u4 : Option Value} {u5 : Option Value} {y0 : Int32} (hw : ω.2.2.2.1 = true) (kt : ¬ y0 = 0 → Ex ω M9_weaken 40 [some (.ref x0), some (.int x1), some (.int x2), some (.int x3), none, none] [] h 0 0 Q) (kf : y0 = 0 → Ex ω M9_weaken 38 [some (.ref x0), some (.int x1), some (.int x2), some (.int x3), none, none] [] h 0 0 Q) : Ex ω M9_weaken 35 [some (.ref x0), some (.int x1), some (.int x2), some (.int x3), u4, u5] [.int y0] h 0 0 Q := by
  refine x_dr4 ?_
  refine x_dr5 ?_
  exact x_if_ne 38 40 dX9_weaken_35 rfl (by decide) kt kf
set_option maxRecDepth 20000 in
theorem B9_weaken_38 {ω : Om} {h : AH} {Q : Option Value → AH → Prop} {u0 : Option Value} {u1 : Option Value} {u2 : Option Value} {u3 : Option Value} {u4 : Option Value} {u5 : Option Value} (hw : ω.2.2.2.1 = true) (hq : Q (some (.int ((-1)))) h) : Ex ω M9_weaken 38 [u0, u1, u2, u3, u4, u5] [] h 0 0 Q := by
  refine x_dr0 ?_
  refine x_dr1 ?_
  refine x_dr2 ?_
  refine x_dr3 ?_
  refine x_dr4 ?_
  refine x_dr5 ?_
  refine x_iconst ((-1)) 39 dX9_weaken_38 rfl rfl ?_
  exact x_iret dX9_weaken_39 rfl (Nat.zero_le _) (Nat.zero_le _) hq
set_option maxRecDepth 20000 in
theorem B9_weaken_40 {ω : Om} {h : AH} {Q : Option Value → AH → Prop} {x0 : Nat} {x1 : Int32} {x2 : Int32} {x3 : Int32} {u4 : Option Value} {u5 : Option Value} (hw : ω.2.2.2.1 = true) (s_x0 : gs h x0 = some (9, 17)) (kk : Ex ω M9_rollAt 0 [some (.ref x0), some (.int x1), some (.int (nI 2))] [] h 0 0 (fun v h' => Ex ω M9_weaken 47 [some (.ref x0), some (.int x1), some (.int x2), some (.int x3), none, none] (v.toList ++ [.int x2]) h' 0 0 Q)) : Ex ω M9_weaken 40 [some (.ref x0), some (.int x1), some (.int x2), some (.int x3), u4, u5] [] h 0 0 Q := by
  refine x_dr4 ?_
  refine x_dr5 ?_
  refine x_iload2 41 dX9_weaken_40 rfl ?_
  refine x_aload0 42 dX9_weaken_41 rfl ?_
  refine x_iload1 43 dX9_weaken_42 rfl ?_
  refine x_iconst (nI 2) 44 dX9_weaken_43 rfl rfl ?_
  exact x_callV 47 x0 [.int x1, .int (nI 2)] [.int x2] dX9_weaken_44 rfl lk_9_rollAt ⟨wd233, wd234, wd235⟩ ⟨by decide, by decide⟩ (recvO cf9 (fun _ => s_x0)) rfl rfl (Nat.le_of_ble_eq_true rfl) (Nat.le_of_ble_eq_true rfl) (by decide) (by decide) kk
set_option maxRecDepth 20000 in
theorem B9_weaken_47 {ω : Om} {h : AH} {Q : Option Value → AH → Prop} {x0 : Nat} {x1 : Int32} {x2 : Int32} {x3 : Int32} {u4 : Option Value} {u5 : Option Value} {y0 : Int32} {y1 : Int32} (hw : ω.2.2.2.1 = true) (kt : y1 < y0 → Ex ω M9_weaken 54 [some (.ref x0), some (.int x1), some (.int x2), some (.int x3), none, none] [] h 0 0 Q) (kf : ¬ y1 < y0 → Ex ω M9_weaken 50 [some (.ref x0), some (.int x1), some (.int x2), some (.int x3), none, none] [] h 0 0 Q) : Ex ω M9_weaken 47 [some (.ref x0), some (.int x1), some (.int x2), some (.int x3), u4, u5] [.int y1, .int y0] h 0 0 Q := by
  refine x_dr4 ?_
  refine x_dr5 ?_
  exact x_icmp_gt 50 54 dX9_weaken_47 rfl (by decide) kt kf
set_option maxRecDepth 20000 in
theorem B9_weaken_50 {ω : Om} {h : AH} {Q : Option Value → AH → Prop} {x0 : Nat} {x1 : Int32} {x2 : Int32} {x3 : Int32} {u4 : Option Value} {u5 : Option Value} (hw : ω.2.2.2.1 = true) (kt : Ex ω M9_weaken 55 [some (.ref x0), some (.int x1), some (.int x2), some (.int x3), none, none] [.int (nI 1)] h 0 0 Q) : Ex ω M9_weaken 50 [some (.ref x0), some (.int x1), some (.int x2), some (.int x3), u4, u5] [] h 0 0 Q := by
  refine x_dr4 ?_
  refine x_dr5 ?_
  refine x_iconst (nI 1) 51 dX9_weaken_50 rfl rfl ?_
  exact x_goto 55 dX9_weaken_51 (by decide) kt
set_option maxRecDepth 20000 in
theorem B9_weaken_54 {ω : Om} {h : AH} {Q : Option Value → AH → Prop} {x0 : Nat} {x1 : Int32} {x2 : Int32} {x3 : Int32} {u4 : Option Value} {u5 : Option Value} (hw : ω.2.2.2.1 = true) (kf : Ex ω M9_weaken 55 [some (.ref x0), some (.int x1), some (.int x2), some (.int x3), none, none] [.int (nI 0)] h 0 0 Q) : Ex ω M9_weaken 54 [some (.ref x0), some (.int x1), some (.int x2), some (.int x3), u4, u5] [] h 0 0 Q := by
  refine x_dr4 ?_
  refine x_dr5 ?_
  refine x_iconst (nI 0) 55 dX9_weaken_54 rfl rfl ?_
  exact kf
set_option maxRecDepth 20000 in
theorem B9_weaken_55 {ω : Om} {h : AH} {Q : Option Value → AH → Prop} {x0 : Nat} {x1 : Int32} {x2 : Int32} {x3 : Int32} {u4 : Option Value} {u5 : Option Value} {y0 : Int32} (hw : ω.2.2.2.1 = true) (kf : Ex ω M9_weaken 60 [some (.ref x0), some (.int x1), some (.int x2), some (.int x3), some (.int y0), some (.int (nI 0))] [] h 0 0 Q) : Ex ω M9_weaken 55 [some (.ref x0), some (.int x1), some (.int x2), some (.int x3), u4, u5] [.int y0] h 0 0 Q := by
  refine x_dr4 ?_
  refine x_dr5 ?_
  refine x_istore4 57 dX9_weaken_55 rfl (by decide) rfl ?_
  refine x_iconst (nI 0) 58 dX9_weaken_57 rfl rfl ?_
  refine x_istore5 60 dX9_weaken_58 rfl (by decide) rfl ?_
  exact kf
set_option maxRecDepth 20000 in
theorem B9_weaken_60 {ω : Om} {h : AH} {Q : Option Value → AH → Prop} {x0 : Nat} {x1 : Int32} {x2 : Int32} {x3 : Int32} {x4 : Int32} {x5 : Int32} (hw : ω.2.2.2.1 = true) (s_x0 : gs h x0 = some (9, 17)) (kk : Ex ω M9_rollAt 0 [some (.ref x0), some (.int x1), some (.int (nI 3))] [] h 0 0 (fun v h' => Ex ω M9_weaken 68 [some (.ref x0), some (.int x1), some (.int x2), some (.int x3), some (.int x4), some (.int x5)] (v.toList ++ [.int x5]) h' 0 0 Q)) : Ex ω M9_weaken 60 [some (.ref x0), some (.int x1), some (.int x2), some (.int x3), some (.int x4), some (.int x5)] [] h 0 0 Q := by
  refine x_iload5 62 dX9_weaken_60 rfl ?_
  refine x_aload0 63 dX9_weaken_62 rfl ?_
  refine x_iload1 64 dX9_weaken_63 rfl ?_
  refine x_iconst (nI 3) 65 dX9_weaken_64 rfl rfl ?_
  exact x_callV 68 x0 [.int x1, .int (nI 3)] [.int x5] dX9_weaken_65 rfl lk_9_rollAt ⟨wd233, wd234, wd235⟩ ⟨by decide, by decide⟩ (recvO cf9 (fun _ => s_x0)) rfl rfl (Nat.le_of_ble_eq_true rfl) (Nat.le_of_ble_eq_true rfl) (by decide) (by decide) kk
set_option maxRecDepth 20000 in
theorem B9_weaken_68 {ω : Om} {h : AH} {Q : Option Value → AH → Prop} {x0 : Nat} {x1 : Int32} {x2 : Int32} {x3 : Int32} {x4 : Int32} {x5 : Int32} {y0 : Int32} {y1 : Int32} (hw : ω.2.2.2.1 = true) (kt : y1 ≤ y0 → Ex ω M9_weaken 102 [some (.ref x0), some (.int x1), some (.int x2), some (.int x3), some (.int x4), some (.int x5)] [] h 0 0 Q) (kf : ¬ y1 ≤ y0 → Ex ω M9_weaken 71 [some (.ref x0), some (.int x1), some (.int x2), some (.int x3), some (.int x4), some (.int x5)] [] h 0 0 Q) : Ex ω M9_weaken 68 [some (.ref x0), some (.int x1), some (.int x2), some (.int x3), some (.int x4), some (.int x5)] [.int y1, .int y0] h 0 0 Q := by
  exact x_icmp_ge 71 102 dX9_weaken_68 rfl (by decide) kt kf
set_option maxRecDepth 20000 in
theorem B9_weaken_71 {ω : Om} {h : AH} {Q : Option Value → AH → Prop} {x0 : Nat} {x1 : Int32} {x2 : Int32} {x3 : Int32} {x4 : Int32} {x5 : Int32} (hw : ω.2.2.2.1 = true) (kt : ¬ x4 = 0 → Ex ω M9_weaken 89 [some (.ref x0), some (.int x1), some (.int x2), some (.int x3), some (.int x4), some (.int x5)] [] h 0 0 Q) (kf : x4 = 0 → Ex ω M9_weaken 76 [some (.ref x0), some (.int x1), some (.int x2), some (.int x3), some (.int x4), some (.int x5)] [] h 0 0 Q) : Ex ω M9_weaken 71 [some (.ref x0), some (.int x1), some (.int x2), some (.int x3), some (.int x4), some (.int x5)] [] h 0 0 Q := by
  refine x_iload4 73 dX9_weaken_71 rfl ?_
  exact x_if_ne 76 89 dX9_weaken_73 rfl (by decide) kt kf
set_option maxRecDepth 20000 in
theorem B9_weaken_76 {ω : Om} {h : AH} {Q : Option Value → AH → Prop} {x0 : Nat} {x1 : Int32} {x2 : Int32} {x3 : Int32} {u4 : Option Value} {x5 : Int32} (hw : ω.2.2.2.1 = true) (s_x0 : gs h x0 = some (9, 17)) (kk : Ex ω M9_rollAt 0 [some (.ref x0), some (.int x1), some (.int ((nI 4) + x5))] [] h 0 0 (fun v h' => Ex ω M9_weaken 85 [some (.ref x0), some (.int x1), some (.int x2), some (.int x3), none, some (.int x5)] (v.toList ++ []) h' 0 0 Q)) : Ex ω M9_weaken 76 [some (.ref x0), some (.int x1), some (.int x2), some (.int x3), u4, some (.int x5)] [] h 0 0 Q := by
  refine x_dr4 ?_
  refine x_aload0 77 dX9_weaken_76 rfl ?_
  refine x_iload1 78 dX9_weaken_77 rfl ?_
  refine x_iconst (nI 4) 79 dX9_weaken_78 rfl rfl ?_
  refine x_iload5 81 dX9_weaken_79 rfl ?_
  refine x_iadd 82 dX9_weaken_81 rfl ?_
  exact x_callV 85 x0 [.int x1, .int ((nI 4) + x5)] [] dX9_weaken_82 rfl lk_9_rollAt ⟨wd233, wd234, wd235⟩ ⟨by decide, by decide⟩ (recvO cf9 (fun _ => s_x0)) rfl rfl (Nat.le_of_ble_eq_true rfl) (Nat.le_of_ble_eq_true rfl) (by decide) (by decide) kk
set_option maxRecDepth 20000 in
theorem B9_weaken_85 {ω : Om} {h : AH} {Q : Option Value → AH → Prop} {x0 : Nat} {x1 : Int32} {x2 : Int32} {x3 : Int32} {u4 : Option Value} {x5 : Int32} {y0 : Int32} (hw : ω.2.2.2.1 = true) (kt : ¬ y0 = x2 → Ex ω M9_weaken 93 [some (.ref x0), some (.int x1), some (.int x2), some (.int x3), none, some (.int x5)] [] h 0 0 Q) (kf : y0 = x2 → Ex ω M9_weaken 89 [some (.ref x0), some (.int x1), some (.int x2), some (.int x3), none, some (.int x5)] [] h 0 0 Q) : Ex ω M9_weaken 85 [some (.ref x0), some (.int x1), some (.int x2), some (.int x3), u4, some (.int x5)] [.int y0] h 0 0 Q := by
  refine x_dr4 ?_
  refine x_iload2 86 dX9_weaken_85 rfl ?_
  exact x_icmp_ne 89 93 dX9_weaken_86 rfl (by decide) kt kf
set_option maxRecDepth 20000 in
theorem B9_weaken_89 {ω : Om} {h : AH} {Q : Option Value → AH → Prop} {x0 : Nat} {x1 : Int32} {x2 : Int32} {x3 : Int32} {u4 : Option Value} {x5 : Int32} (hw : ω.2.2.2.1 = true) (kt : Ex ω M9_weaken 94 [some (.ref x0), some (.int x1), some (.int x2), some (.int x3), none, some (.int x5)] [.int (nI 1)] h 0 0 Q) : Ex ω M9_weaken 89 [some (.ref x0), some (.int x1), some (.int x2), some (.int x3), u4, some (.int x5)] [] h 0 0 Q := by
  refine x_dr4 ?_
  refine x_iconst (nI 1) 90 dX9_weaken_89 rfl rfl ?_
  exact x_goto 94 dX9_weaken_90 (by decide) kt
set_option maxRecDepth 20000 in
theorem B9_weaken_93 {ω : Om} {h : AH} {Q : Option Value → AH → Prop} {x0 : Nat} {x1 : Int32} {x2 : Int32} {x3 : Int32} {u4 : Option Value} {x5 : Int32} (hw : ω.2.2.2.1 = true) (kf : Ex ω M9_weaken 94 [some (.ref x0), some (.int x1), some (.int x2), some (.int x3), none, some (.int x5)] [.int (nI 0)] h 0 0 Q) : Ex ω M9_weaken 93 [some (.ref x0), some (.int x1), some (.int x2), some (.int x3), u4, some (.int x5)] [] h 0 0 Q := by
  refine x_dr4 ?_
  refine x_iconst (nI 0) 94 dX9_weaken_93 rfl rfl ?_
  exact kf
set_option maxRecDepth 20000 in
theorem B9_weaken_94 {ω : Om} {h : AH} {Q : Option Value → AH → Prop} {x0 : Nat} {x1 : Int32} {x2 : Int32} {x3 : Int32} {u4 : Option Value} {x5 : Int32} {y0 : Int32} (hw : ω.2.2.2.1 = true) (kt : Ex ω M9_weaken 60 [some (.ref x0), some (.int x1), some (.int x2), some (.int x3), some (.int y0), some (.int (x5 + (nI 1)))] [] h 0 0 Q) : Ex ω M9_weaken 94 [some (.ref x0), some (.int x1), some (.int x2), some (.int x3), u4, some (.int x5)] [.int y0] h 0 0 Q := by
  refine x_dr4 ?_
  refine x_istore4 96 dX9_weaken_94 rfl (by decide) rfl ?_
  refine x_iinc5 (x5 + (nI 1)) 99 dX9_weaken_96 rfl (by decide) rfl rfl ?_
  exact x_goto 60 dX9_weaken_99 (by decide) kt
set_option maxRecDepth 20000 in
theorem B9_weaken_102 {ω : Om} {h : AH} {Q : Option Value → AH → Prop} {x0 : Nat} {x1 : Int32} {x2 : Int32} {x3 : Int32} {x4 : Int32} {u5 : Option Value} (hw : ω.2.2.2.1 = true) (kt : x4 = 0 → Ex ω M9_weaken 110 [some (.ref x0), some (.int x1), some (.int x2), some (.int x3), some (.int x4), none] [] h 0 0 Q) (kf : ¬ x4 = 0 → Ex ω M9_weaken 107 [some (.ref x0), some (.int x1), some (.int x2), some (.int x3), some (.int x4), none] [] h 0 0 Q) : Ex ω M9_weaken 102 [some (.ref x0), some (.int x1), some (.int x2), some (.int x3), some (.int x4), u5] [] h 0 0 Q := by
  refine x_dr5 ?_
  refine x_iload4 104 dX9_weaken_102 rfl ?_
  exact x_if_eq 107 110 dX9_weaken_104 rfl (by decide) kt kf
set_option maxRecDepth 20000 in
theorem B9_weaken_107 {ω : Om} {h : AH} {Q : Option Value → AH → Prop} {u0 : Option Value} {u1 : Option Value} {u2 : Option Value} {u3 : Option Value} {u4 : Option Value} {u5 : Option Value} (hw : ω.2.2.2.1 = true) (hq : Q (some (.int ((-2)))) h) : Ex ω M9_weaken 107 [u0, u1, u2, u3, u4, u5] [] h 0 0 Q := by
  refine x_dr0 ?_
  refine x_dr1 ?_
  refine x_dr2 ?_
  refine x_dr3 ?_
  refine x_dr4 ?_
  refine x_dr5 ?_
  refine x_bipush ((-2)) 109 dX9_weaken_107 rfl rfl ?_
  exact x_iret dX9_weaken_109 rfl (Nat.zero_le _) (Nat.zero_le _) hq
set_option maxRecDepth 20000 in
theorem B9_weaken_110 {ω : Om} {h : AH} {Q : Option Value → AH → Prop} {x0 : Nat} {x1 : Int32} {x2 : Int32} {x3 : Int32} {u4 : Option Value} {u5 : Option Value} (hw : ω.2.2.2.1 = true) (s_x0 : gs h x0 = some (9, 17)) (kk : Ex ω M9_rollAt 0 [some (.ref x0), some (.int x1), some (.int (nI 3))] [] h 0 0 (fun v h' => Ex ω M9_weaken 116 [some (.ref x0), some (.int x1), some (.int x2), some (.int x3), none, none] (v.toList ++ []) h' 0 0 Q)) : Ex ω M9_weaken 110 [some (.ref x0), some (.int x1), some (.int x2), some (.int x3), u4, u5] [] h 0 0 Q := by
  refine x_dr4 ?_
  refine x_dr5 ?_
  refine x_aload0 111 dX9_weaken_110 rfl ?_
  refine x_iload1 112 dX9_weaken_111 rfl ?_
  refine x_iconst (nI 3) 113 dX9_weaken_112 rfl rfl ?_
  exact x_callV 116 x0 [.int x1, .int (nI 3)] [] dX9_weaken_113 rfl lk_9_rollAt ⟨wd233, wd234, wd235⟩ ⟨by decide, by decide⟩ (recvO cf9 (fun _ => s_x0)) rfl rfl (Nat.le_of_ble_eq_true rfl) (Nat.le_of_ble_eq_true rfl) (by decide) (by decide) kk
set_option maxRecDepth 20000 in
theorem B9_weaken_116 {ω : Om} {h : AH} {Q : Option Value → AH → Prop} {x0 : Nat} {x1 : Int32} {x2 : Int32} {x3 : Int32} {u4 : Option Value} {u5 : Option Value} {y0 : Int32} (hw : ω.2.2.2.1 = true) (kt : ¬ y0 = (nI 8) → Ex ω M9_weaken 124 [some (.ref x0), some (.int x1), some (.int x2), some (.int x3), none, none] [] h 0 0 Q) (kf : y0 = (nI 8) → Ex ω M9_weaken 121 [some (.ref x0), some (.int x1), some (.int x2), some (.int x3), none, none] [] h 0 0 Q) : Ex ω M9_weaken 116 [some (.ref x0), some (.int x1), some (.int x2), some (.int x3), u4, u5] [.int y0] h 0 0 Q := by
  refine x_dr4 ?_
  refine x_dr5 ?_
  refine x_bipush (nI 8) 118 dX9_weaken_116 rfl rfl ?_
  exact x_icmp_ne 121 124 dX9_weaken_118 rfl (by decide) kt kf
set_option maxRecDepth 20000 in
theorem B9_weaken_121 {ω : Om} {h : AH} {Q : Option Value → AH → Prop} {u0 : Option Value} {u1 : Option Value} {u2 : Option Value} {u3 : Option Value} {u4 : Option Value} {u5 : Option Value} (hw : ω.2.2.2.1 = true) (hq : Q (some (.int ((-3)))) h) : Ex ω M9_weaken 121 [u0, u1, u2, u3, u4, u5] [] h 0 0 Q := by
  refine x_dr0 ?_
  refine x_dr1 ?_
  refine x_dr2 ?_
  refine x_dr3 ?_
  refine x_dr4 ?_
  refine x_dr5 ?_
  refine x_bipush ((-3)) 123 dX9_weaken_121 rfl rfl ?_
  exact x_iret dX9_weaken_123 rfl (Nat.zero_le _) (Nat.zero_le _) hq
set_option maxRecDepth 20000 in
theorem B9_weaken_124 {ω : Om} {h : AH} {Q : Option Value → AH → Prop} {x0 : Nat} {x1 : Int32} {x2 : Int32} {x3 : Int32} {u4 : Option Value} {u5 : Option Value} (hw : ω.2.2.2.1 = true) (s_x0 : gs h x0 = some (9, 17)) (kk : Ex ω M9_change 0 [some (.ref x0), none] [] h 0 0 (fun v h' => Ex ω M9_weaken 128 [some (.ref x0), some (.int x1), some (.int x2), some (.int x3), none, none] (v.toList ++ []) h' 0 0 Q)) : Ex ω M9_weaken 124 [some (.ref x0), some (.int x1), some (.int x2), some (.int x3), u4, u5] [] h 0 0 Q := by
  refine x_dr4 ?_
  refine x_dr5 ?_
  refine x_aload0 125 dX9_weaken_124 rfl ?_
  exact x_callV 128 x0 [] [] dX9_weaken_125 rfl lk_9_change ⟨wd203, wd204, wd205⟩ ⟨by decide, by decide⟩ (recvO cf9 (fun _ => s_x0)) rfl rfl (Nat.le_of_ble_eq_true rfl) (Nat.le_of_ble_eq_true rfl) (by decide) (by decide) kk
set_option maxRecDepth 20000 in
theorem B9_weaken_128 {ω : Om} {h : AH} {Q : Option Value → AH → Prop} {x0 : Nat} {x1 : Int32} {x2 : Int32} {x3 : Int32} {u4 : Option Value} {u5 : Option Value} (hw : ω.2.2.2.1 = true) (s_x0 : gs h x0 = some (9, 17)) (i1 : vp_in (((nI 20) + ((nI 20) * x1)) + (nI 3)) 596) (i2 : vp_in ((((nI 20) + ((nI 20) * x1)) + (nI 4)) + (gi h (gr h x0 0) (Int32.toNatClampNeg (((nI 20) + ((nI 20) * x1)) + (nI 3))))) 596) (kf : Ex ω M9_weaken 157 [some (.ref x0), some (.int x1), some (.int x2), some (.int x3), none, some (.int ((nI 20) + ((nI 20) * x1)))] [] (si h (gr h x0 0) (Int32.toNatClampNeg ((((nI 20) + ((nI 20) * x1)) + (nI 4)) + (gi h (gr h x0 0) (Int32.toNatClampNeg (((nI 20) + ((nI 20) * x1)) + (nI 3)))))) x2) 0 0 Q) : Ex ω M9_weaken 128 [some (.ref x0), some (.int x1), some (.int x2), some (.int x3), u4, u5] [] h 0 0 Q := by
  refine x_dr4 ?_
  refine x_dr5 ?_
  refine x_bipush (nI 20) 130 dX9_weaken_128 rfl rfl ?_
  refine x_bipush (nI 20) 132 dX9_weaken_130 rfl rfl ?_
  refine x_iload1 133 dX9_weaken_132 rfl ?_
  refine x_imul 134 dX9_weaken_133 rfl ?_
  refine x_iadd 135 dX9_weaken_134 rfl ?_
  refine x_istore5 137 dX9_weaken_135 rfl (by decide) rfl ?_
  refine x_aload0 138 dX9_weaken_137 rfl ?_
  refine x_getR cf9 0 141 hw dX9_weaken_138 rfl wd99 (fun _ => s_x0) (by decide) (by decide) rfl ?_
  refine x_iload5 143 dX9_weaken_141 rfl ?_
  refine x_iconst (nI 4) 144 dX9_weaken_143 rfl rfl ?_
  refine x_iadd 145 dX9_weaken_144 rfl ?_
  refine x_aload0 146 dX9_weaken_145 rfl ?_
  refine x_getR cf9 0 149 hw dX9_weaken_146 rfl wd99 (fun _ => s_x0) (by decide) (by decide) rfl ?_
  refine x_iload5 151 dX9_weaken_149 rfl ?_
  refine x_iconst (nI 3) 152 dX9_weaken_151 rfl rfl ?_
  refine x_iadd 153 dX9_weaken_152 rfl ?_
  refine x_iald (Int32.toNatClampNeg (((nI 20) + ((nI 20) * x1)) + (nI 3))) 154 dX9_weaken_153 rfl (SH.fld hw (fun _ => s_x0) 0 (Nat.le_of_ble_eq_true rfl) rfl rfl) i1 rfl ?_
  refine x_iadd 155 dX9_weaken_154 rfl ?_
  refine x_iload2 156 dX9_weaken_155 rfl ?_
  refine x_iast (Int32.toNatClampNeg ((((nI 20) + ((nI 20) * x1)) + (nI 4)) + (gi h (gr h x0 0) (Int32.toNatClampNeg (((nI 20) + ((nI 20) * x1)) + (nI 3)))))) 157 dX9_weaken_156 rfl (SH.fld hw (fun _ => s_x0) 0 (Nat.le_of_ble_eq_true rfl) rfl rfl) i2 rfl ?_
  exact kf
set_option maxRecDepth 20000 in
theorem B9_weaken_157 {ω : Om} {h : AH} {Q : Option Value → AH → Prop} {x0 : Nat} {u1 : Option Value} {u2 : Option Value} {x3 : Int32} {u4 : Option Value} {x5 : Int32} (hw : ω.2.2.2.1 = true) (s_x0 : gs h x0 = some (9, 17)) (i1 : vp_in (x5 + (nI 3)) 596) (i2 : vp_in ((x5 + (nI 12)) + (gi h (gr h x0 0) (Int32.toNatClampNeg (x5 + (nI 3))))) 596) (i3 : vp_in (x5 + (nI 3)) 596) (i4 : vp_in (x5 + (nI 3)) 596) (kf : Ex ω M9_weaken 191 [some (.ref x0), none, none, some (.int x3), none, some (.int x5)] [] (si (si h (gr h x0 0) (Int32.toNatClampNeg ((x5 + (nI 12)) + (gi h (gr h x0 0) (Int32.toNatClampNeg (x5 + (nI 3)))))) x3) (gr h x0 0) (Int32.toNatClampNeg (x5 + (nI 3))) ((gi (si h (gr h x0 0) (Int32.toNatClampNeg ((x5 + (nI 12)) + (gi h (gr h x0 0) (Int32.toNatClampNeg (x5 + (nI 3)))))) x3) (gr h x0 0) (Int32.toNatClampNeg (x5 + (nI 3)))) + (nI 1))) 0 0 Q) : Ex ω M9_weaken 157 [some (.ref x0), u1, u2, some (.int x3), u4, some (.int x5)] [] h 0 0 Q := by
  refine x_dr1 ?_
  refine x_dr2 ?_
  refine x_dr4 ?_
  refine x_aload0 158 dX9_weaken_157 rfl ?_
  refine x_getR cf9 0 161 hw dX9_weaken_158 rfl wd99 (fun _ => s_x0) (by decide) (by decide) rfl ?_
  refine x_iload5 163 dX9_weaken_161 rfl ?_
  refine x_bipush (nI 12) 165 dX9_weaken_163 rfl rfl ?_
  refine x_iadd 166 dX9_weaken_165 rfl ?_
  refine x_aload0 167 dX9_weaken_166 rfl ?_
  refine x_getR cf9 0 170 hw dX9_weaken_167 rfl wd99 (fun _ => s_x0) (by decide) (by decide) rfl ?_
  refine x_iload5 172 dX9_weaken_170 rfl ?_
  refine x_iconst (nI 3) 173 dX9_weaken_172 rfl rfl ?_
  refine x_iadd 174 dX9_weaken_173 rfl ?_
  refine x_iald (Int32.toNatClampNeg (x5 + (nI 3))) 175 dX9_weaken_174 rfl (SH.fld hw (fun _ => s_x0) 0 (Nat.le_of_ble_eq_true rfl) rfl rfl) i1 rfl ?_
  refine x_iadd 176 dX9_weaken_175 rfl ?_
  refine x_iload3 177 dX9_weaken_176 rfl ?_
  refine x_iast (Int32.toNatClampNeg ((x5 + (nI 12)) + (gi h (gr h x0 0) (Int32.toNatClampNeg (x5 + (nI 3)))))) 178 dX9_weaken_177 rfl (SH.fld hw (fun _ => s_x0) 0 (Nat.le_of_ble_eq_true rfl) rfl rfl) i2 rfl ?_
  refine x_aload0 179 dX9_weaken_178 rfl ?_
  refine x_getR cf9 0 182 hw dX9_weaken_179 rfl wd99 (fun _ => s_x0) (by decide) (by decide) rfl ?_
  refine x_iload5 184 dX9_weaken_182 rfl ?_
  refine x_iconst (nI 3) 185 dX9_weaken_184 rfl rfl ?_
  refine x_iadd 186 dX9_weaken_185 rfl ?_
  refine x_dup2 187 dX9_weaken_186 rfl rfl rfl ?_
  refine x_iald (Int32.toNatClampNeg (x5 + (nI 3))) 188 dX9_weaken_187 rfl (SH.fld hw (fun _ => s_x0) 0 (Nat.le_of_ble_eq_true rfl) rfl rfl) i3 rfl ?_
  refine x_iconst (nI 1) 189 dX9_weaken_188 rfl rfl ?_
  refine x_iadd 190 dX9_weaken_189 rfl ?_
  refine x_iast (Int32.toNatClampNeg (x5 + (nI 3))) 191 dX9_weaken_190 rfl (SH.fld hw (fun _ => s_x0) 0 (Nat.le_of_ble_eq_true rfl) rfl rfl) i4 rfl ?_
  exact kf
set_option maxRecDepth 20000 in
theorem B9_weaken_191 {ω : Om} {h : AH} {Q : Option Value → AH → Prop} {x0 : Nat} {u1 : Option Value} {u2 : Option Value} {u3 : Option Value} {u4 : Option Value} {x5 : Int32} (hw : ω.2.2.2.1 = true) (s_x0 : gs h x0 = some (9, 17)) (i1 : vp_in (x5 + (nI 3)) 596) (hq : Q (some (.int (gi h (gr h x0 0) (Int32.toNatClampNeg (x5 + (nI 3)))))) h) : Ex ω M9_weaken 191 [some (.ref x0), u1, u2, u3, u4, some (.int x5)] [] h 0 0 Q := by
  refine x_dr1 ?_
  refine x_dr2 ?_
  refine x_dr3 ?_
  refine x_dr4 ?_
  refine x_aload0 192 dX9_weaken_191 rfl ?_
  refine x_getR cf9 0 195 hw dX9_weaken_192 rfl wd99 (fun _ => s_x0) (by decide) (by decide) rfl ?_
  refine x_iload5 197 dX9_weaken_195 rfl ?_
  refine x_iconst (nI 3) 198 dX9_weaken_197 rfl rfl ?_
  refine x_iadd 199 dX9_weaken_198 rfl ?_
  refine x_iald (Int32.toNatClampNeg (x5 + (nI 3))) 200 dX9_weaken_199 rfl (SH.fld hw (fun _ => s_x0) 0 (Nat.le_of_ble_eq_true rfl) rfl rfl) i1 rfl ?_
  exact x_iret dX9_weaken_200 rfl (Nat.zero_le _) (Nat.zero_le _) hq
set_option maxRecDepth 20000 in
theorem B9_weakBehind_0 {ω : Om} {h : AH} {Q : Option Value → AH → Prop} {x0 : Nat} {x1 : Int32} {x2 : Int32} {u3 : Option Value} {u4 : Option Value} {u5 : Option Value} (hw : ω.2.2.2.1 = true) (kf : Ex ω M9_weakBehind 5 [some (.ref x0), some (.int x1), some (.int x2), some (.int ((-1))), some (.int (nI 0)), none] [] h 0 0 Q) : Ex ω M9_weakBehind 0 [some (.ref x0), some (.int x1), some (.int x2), u3, u4, u5] [] h 0 0 Q := by
  refine x_dr3 ?_
  refine x_dr4 ?_
  refine x_dr5 ?_
  refine x_iconst ((-1)) 1 dX9_weakBehind_0 rfl rfl ?_
  refine x_istore3 2 dX9_weakBehind_1 rfl (by decide) rfl ?_
  refine x_iconst (nI 0) 3 dX9_weakBehind_2 rfl rfl ?_
  refine x_istore4 5 dX9_weakBehind_3 rfl (by decide) rfl ?_
  exact kf
set_option maxRecDepth 20000 in
theorem B9_weakBehind_5 {ω : Om} {h : AH} {Q : Option Value → AH → Prop} {x0 : Nat} {x1 : Int32} {x2 : Int32} {x3 : Int32} {x4 : Int32} {u5 : Option Value} (hw : ω.2.2.2.1 = true) (s_x0 : gs h x0 = some (9, 17)) (kk : Ex ω M9_rollAt 0 [some (.ref x0), some (.int x1), some (.int (nI 3))] [] h 0 0 (fun v h' => Ex ω M9_weakBehind 13 [some (.ref x0), some (.int x1), some (.int x2), some (.int x3), some (.int x4), none] (v.toList ++ [.int x4]) h' 0 0 Q)) : Ex ω M9_weakBehind 5 [some (.ref x0), some (.int x1), some (.int x2), some (.int x3), some (.int x4), u5] [] h 0 0 Q := by
  refine x_dr5 ?_
  refine x_iload4 7 dX9_weakBehind_5 rfl ?_
  refine x_aload0 8 dX9_weakBehind_7 rfl ?_
  refine x_iload1 9 dX9_weakBehind_8 rfl ?_
  refine x_iconst (nI 3) 10 dX9_weakBehind_9 rfl rfl ?_
  exact x_callV 13 x0 [.int x1, .int (nI 3)] [.int x4] dX9_weakBehind_10 rfl lk_9_rollAt ⟨wd233, wd234, wd235⟩ ⟨by decide, by decide⟩ (recvO cf9 (fun _ => s_x0)) rfl rfl (Nat.le_of_ble_eq_true rfl) (Nat.le_of_ble_eq_true rfl) (by decide) (by decide) kk
set_option maxRecDepth 20000 in
theorem B9_weakBehind_13 {ω : Om} {h : AH} {Q : Option Value → AH → Prop} {x0 : Nat} {x1 : Int32} {x2 : Int32} {x3 : Int32} {x4 : Int32} {u5 : Option Value} {y0 : Int32} {y1 : Int32} (hw : ω.2.2.2.1 = true) (kt : y1 ≤ y0 → Ex ω M9_weakBehind 97 [some (.ref x0), some (.int x1), some (.int x2), some (.int x3), some (.int x4), none] [] h 0 0 Q) (kf : ¬ y1 ≤ y0 → Ex ω M9_weakBehind 16 [some (.ref x0), some (.int x1), some (.int x2), some (.int x3), some (.int x4), none] [] h 0 0 Q) : Ex ω M9_weakBehind 13 [some (.ref x0), some (.int x1), some (.int x2), some (.int x3), some (.int x4), u5] [.int y1, .int y0] h 0 0 Q := by
  refine x_dr5 ?_
  exact x_icmp_ge 16 97 dX9_weakBehind_13 rfl (by decide) kt kf
set_option maxRecDepth 20000 in
theorem B9_weakBehind_16 {ω : Om} {h : AH} {Q : Option Value → AH → Prop} {x0 : Nat} {x1 : Int32} {x2 : Int32} {x3 : Int32} {x4 : Int32} {u5 : Option Value} (hw : ω.2.2.2.1 = true) (s_x0 : gs h x0 = some (9, 17)) (kk : Ex ω M9_rollAt 0 [some (.ref x0), some (.int x1), some (.int ((nI 4) + x4))] [] h 0 0 (fun v h' => Ex ω M9_weakBehind 25 [some (.ref x0), some (.int x1), some (.int x2), some (.int x3), some (.int x4), none] (v.toList ++ []) h' 0 0 Q)) : Ex ω M9_weakBehind 16 [some (.ref x0), some (.int x1), some (.int x2), some (.int x3), some (.int x4), u5] [] h 0 0 Q := by
  refine x_dr5 ?_
  refine x_aload0 17 dX9_weakBehind_16 rfl ?_
  refine x_iload1 18 dX9_weakBehind_17 rfl ?_
  refine x_iconst (nI 4) 19 dX9_weakBehind_18 rfl rfl ?_
  refine x_iload4 21 dX9_weakBehind_19 rfl ?_
  refine x_iadd 22 dX9_weakBehind_21 rfl ?_
  exact x_callV 25 x0 [.int x1, .int ((nI 4) + x4)] [] dX9_weakBehind_22 rfl lk_9_rollAt ⟨wd233, wd234, wd235⟩ ⟨by decide, by decide⟩ (recvO cf9 (fun _ => s_x0)) rfl rfl (Nat.le_of_ble_eq_true rfl) (Nat.le_of_ble_eq_true rfl) (by decide) (by decide) kk
set_option maxRecDepth 20000 in
theorem B9_weakBehind_25 {ω : Om} {h : AH} {Q : Option Value → AH → Prop} {x0 : Nat} {x1 : Int32} {x2 : Int32} {x3 : Int32} {x4 : Int32} {u5 : Option Value} {y0 : Int32} (hw : ω.2.2.2.1 = true) (s_x0 : gs h x0 = some (9, 17)) (kk : Ex ω M9_rollAt 0 [some (.ref x0), some (.int x1), some (.int (nI 2))] [] h 0 0 (fun v h' => Ex ω M9_weakBehind 31 [some (.ref x0), some (.int x1), some (.int x2), some (.int x3), some (.int x4), none] (v.toList ++ [.int y0]) h' 0 0 Q)) : Ex ω M9_weakBehind 25 [some (.ref x0), some (.int x1), some (.int x2), some (.int x3), some (.int x4), u5] [.int y0] h 0 0 Q := by
  refine x_dr5 ?_
  refine x_aload0 26 dX9_weakBehind_25 rfl ?_
  refine x_iload1 27 dX9_weakBehind_26 rfl ?_
  refine x_iconst (nI 2) 28 dX9_weakBehind_27 rfl rfl ?_
  exact x_callV 31 x0 [.int x1, .int (nI 2)] [.int y0] dX9_weakBehind_28 rfl lk_9_rollAt ⟨wd233, wd234, wd235⟩ ⟨by decide, by decide⟩ (recvO cf9 (fun _ => s_x0)) rfl rfl (Nat.le_of_ble_eq_true rfl) (Nat.le_of_ble_eq_true rfl) (by decide) (by decide) kk
set_option maxRecDepth 20000 in
theorem B9_weakBehind_31 {ω : Om} {h : AH} {Q : Option Value → AH → Prop} {x0 : Nat} {x1 : Int32} {x2 : Int32} {x3 : Int32} {x4 : Int32} {u5 : Option Value} {y0 : Int32} {y1 : Int32} (hw : ω.2.2.2.1 = true) (kt : y0 ≤ y1 → Ex ω M9_weakBehind 52 [some (.ref x0), some (.int x1), some (.int x2), some (.int x3), some (.int x4), none] [] h 0 0 Q) (kf : ¬ y0 ≤ y1 → Ex ω M9_weakBehind 34 [some (.ref x0), some (.int x1), some (.int x2), some (.int x3), some (.int x4), none] [] h 0 0 Q) : Ex ω M9_weakBehind 31 [some (.ref x0), some (.int x1), some (.int x2), some (.int x3), some (.int x4), u5] [.int y1, .int y0] h 0 0 Q := by
  refine x_dr5 ?_
  exact x_icmp_le 34 52 dX9_weakBehind_31 rfl (by decide) kt kf
set_option maxRecDepth 20000 in
theorem B9_weakBehind_34 {ω : Om} {h : AH} {Q : Option Value → AH → Prop} {x0 : Nat} {x1 : Int32} {x2 : Int32} {x3 : Int32} {x4 : Int32} {u5 : Option Value} (hw : ω.2.2.2.1 = true) (s_x0 : gs h x0 = some (9, 17)) (kk : Ex ω M9_rollAt 0 [some (.ref x0), some (.int x1), some (.int ((nI 12) + x4))] [] h 0 0 (fun v h' => Ex ω M9_weakBehind 44 [some (.ref x0), some (.int x1), some (.int x2), some (.int x3), some (.int x4), none] (v.toList ++ []) h' 0 0 Q)) : Ex ω M9_weakBehind 34 [some (.ref x0), some (.int x1), some (.int x2), some (.int x3), some (.int x4), u5] [] h 0 0 Q := by
  refine x_dr5 ?_
  refine x_aload0 35 dX9_weakBehind_34 rfl ?_
  refine x_iload1 36 dX9_weakBehind_35 rfl ?_
  refine x_bipush (nI 12) 38 dX9_weakBehind_36 rfl rfl ?_
  refine x_iload4 40 dX9_weakBehind_38 rfl ?_
  refine x_iadd 41 dX9_weakBehind_40 rfl ?_
  exact x_callV 44 x0 [.int x1, .int ((nI 12) + x4)] [] dX9_weakBehind_41 rfl lk_9_rollAt ⟨wd233, wd234, wd235⟩ ⟨by decide, by decide⟩ (recvO cf9 (fun _ => s_x0)) rfl rfl (Nat.le_of_ble_eq_true rfl) (Nat.le_of_ble_eq_true rfl) (by decide) (by decide) kk
set_option maxRecDepth 20000 in
theorem B9_weakBehind_44 {ω : Om} {h : AH} {Q : Option Value → AH → Prop} {x0 : Nat} {x1 : Int32} {x2 : Int32} {x3 : Int32} {x4 : Int32} {u5 : Option Value} {y0 : Int32} (hw : ω.2.2.2.1 = true) (kt : x2 ≤ y0 → Ex ω M9_weakBehind 52 [some (.ref x0), some (.int x1), some (.int x2), some (.int x3), some (.int x4), none] [] h 0 0 Q) (kf : ¬ x2 ≤ y0 → Ex ω M9_weakBehind 48 [some (.ref x0), some (.int x1), some (.int x2), some (.int x3), some (.int x4), none] [] h 0 0 Q) : Ex ω M9_weakBehind 44 [some (.ref x0), some (.int x1), some (.int x2), some (.int x3), some (.int x4), u5] [.int y0] h 0 0 Q := by
  refine x_dr5 ?_
  refine x_iload2 45 dX9_weakBehind_44 rfl ?_
  exact x_icmp_ge 48 52 dX9_weakBehind_45 rfl (by decide) kt kf
set_option maxRecDepth 20000 in
theorem B9_weakBehind_48 {ω : Om} {h : AH} {Q : Option Value → AH → Prop} {x0 : Nat} {x1 : Int32} {x2 : Int32} {x3 : Int32} {x4 : Int32} {u5 : Option Value} (hw : ω.2.2.2.1 = true) (kt : Ex ω M9_weakBehind 53 [some (.ref x0), some (.int x1), some (.int x2), some (.int x3), some (.int x4), none] [.int (nI 1)] h 0 0 Q) : Ex ω M9_weakBehind 48 [some (.ref x0), some (.int x1), some (.int x2), some (.int x3), some (.int x4), u5] [] h 0 0 Q := by
  refine x_dr5 ?_
  refine x_iconst (nI 1) 49 dX9_weakBehind_48 rfl rfl ?_
  exact x_goto 53 dX9_weakBehind_49 (by decide) kt
set_option maxRecDepth 20000 in
theorem B9_weakBehind_52 {ω : Om} {h : AH} {Q : Option Value → AH → Prop} {x0 : Nat} {x1 : Int32} {x2 : Int32} {x3 : Int32} {x4 : Int32} {u5 : Option Value} (hw : ω.2.2.2.1 = true) (kf : Ex ω M9_weakBehind 53 [some (.ref x0), some (.int x1), some (.int x2), some (.int x3), some (.int x4), none] [.int (nI 0)] h 0 0 Q) : Ex ω M9_weakBehind 52 [some (.ref x0), some (.int x1), some (.int x2), some (.int x3), some (.int x4), u5] [] h 0 0 Q := by
  refine x_dr5 ?_
  refine x_iconst (nI 0) 53 dX9_weakBehind_52 rfl rfl ?_
  exact kf
set_option maxRecDepth 20000 in
theorem B9_weakBehind_53 {ω : Om} {h : AH} {Q : Option Value → AH → Prop} {x0 : Nat} {x1 : Int32} {x2 : Int32} {x3 : Int32} {x4 : Int32} {u5 : Option Value} {y0 : Int32} (hw : ω.2.2.2.1 = true) (kt : y0 = 0 → Ex ω M9_weakBehind 89 [some (.ref x0), some (.int x1), some (.int x2), some (.int x3), some (.int x4), some (.int y0)] [] h 0 0 Q) (kf : ¬ y0 = 0 → Ex ω M9_weakBehind 60 [some (.ref x0), some (.int x1), some (.int x2), some (.int x3), some (.int x4), some (.int y0)] [] h 0 0 Q) : Ex ω M9_weakBehind 53 [some (.ref x0), some (.int x1), some (.int x2), some (.int x3), some (.int x4), u5] [.int y0] h 0 0 Q := by
  refine x_dr5 ?_
  refine x_istore5 55 dX9_weakBehind_53 rfl (by decide) rfl ?_
  refine x_iload5 57 dX9_weakBehind_55 rfl ?_
  exact x_if_eq 60 89 dX9_weakBehind_57 rfl (by decide) kt kf
set_option maxRecDepth 20000 in
theorem B9_weakBehind_60 {ω : Om} {h : AH} {Q : Option Value → AH → Prop} {x0 : Nat} {x1 : Int32} {x2 : Int32} {x3 : Int32} {x4 : Int32} {u5 : Option Value} (hw : ω.2.2.2.1 = true) (kt : x3 < 0 → Ex ω M9_weakBehind 84 [some (.ref x0), some (.int x1), some (.int x2), some (.int x3), some (.int x4), none] [] h 0 0 Q) (kf : ¬ x3 < 0 → Ex ω M9_weakBehind 64 [some (.ref x0), some (.int x1), some (.int x2), some (.int x3), some (.int x4), none] [] h 0 0 Q) : Ex ω M9_weakBehind 60 [some (.ref x0), some (.int x1), some (.int x2), some (.int x3), some (.int x4), u5] [] h 0 0 Q := by
  refine x_dr5 ?_
  refine x_iload3 61 dX9_weakBehind_60 rfl ?_
  exact x_if_lt 64 84 dX9_weakBehind_61 rfl (by decide) kt kf
set_option maxRecDepth 20000 in
theorem B9_weakBehind_64 {ω : Om} {h : AH} {Q : Option Value → AH → Prop} {x0 : Nat} {x1 : Int32} {x2 : Int32} {x3 : Int32} {x4 : Int32} {u5 : Option Value} (hw : ω.2.2.2.1 = true) (s_x0 : gs h x0 = some (9, 17)) (kk : Ex ω M9_rollAt 0 [some (.ref x0), some (.int x1), some (.int ((nI 4) + x4))] [] h 0 0 (fun v h' => Ex ω M9_weakBehind 73 [some (.ref x0), some (.int x1), some (.int x2), some (.int x3), some (.int x4), none] (v.toList ++ []) h' 0 0 Q)) : Ex ω M9_weakBehind 64 [some (.ref x0), some (.int x1), some (.int x2), some (.int x3), some (.int x4), u5] [] h 0 0 Q := by
  refine x_dr5 ?_
  refine x_aload0 65 dX9_weakBehind_64 rfl ?_
  refine x_iload1 66 dX9_weakBehind_65 rfl ?_
  refine x_iconst (nI 4) 67 dX9_weakBehind_66 rfl rfl ?_
  refine x_iload4 69 dX9_weakBehind_67 rfl ?_
  refine x_iadd 70 dX9_weakBehind_69 rfl ?_
  exact x_callV 73 x0 [.int x1, .int ((nI 4) + x4)] [] dX9_weakBehind_70 rfl lk_9_rollAt ⟨wd233, wd234, wd235⟩ ⟨by decide, by decide⟩ (recvO cf9 (fun _ => s_x0)) rfl rfl (Nat.le_of_ble_eq_true rfl) (Nat.le_of_ble_eq_true rfl) (by decide) (by decide) kk
set_option maxRecDepth 20000 in
theorem B9_weakBehind_73 {ω : Om} {h : AH} {Q : Option Value → AH → Prop} {x0 : Nat} {x1 : Int32} {x2 : Int32} {x3 : Int32} {x4 : Int32} {u5 : Option Value} {y0 : Int32} (hw : ω.2.2.2.1 = true) (s_x0 : gs h x0 = some (9, 17)) (kk : Ex ω M9_rollAt 0 [some (.ref x0), some (.int x1), some (.int ((nI 4) + x3))] [] h 0 0 (fun v h' => Ex ω M9_weakBehind 81 [some (.ref x0), some (.int x1), some (.int x2), some (.int x3), some (.int x4), none] (v.toList ++ [.int y0]) h' 0 0 Q)) : Ex ω M9_weakBehind 73 [some (.ref x0), some (.int x1), some (.int x2), some (.int x3), some (.int x4), u5] [.int y0] h 0 0 Q := by
  refine x_dr5 ?_
  refine x_aload0 74 dX9_weakBehind_73 rfl ?_
  refine x_iload1 75 dX9_weakBehind_74 rfl ?_
  refine x_iconst (nI 4) 76 dX9_weakBehind_75 rfl rfl ?_
  refine x_iload3 77 dX9_weakBehind_76 rfl ?_
  refine x_iadd 78 dX9_weakBehind_77 rfl ?_
  exact x_callV 81 x0 [.int x1, .int ((nI 4) + x3)] [.int y0] dX9_weakBehind_78 rfl lk_9_rollAt ⟨wd233, wd234, wd235⟩ ⟨by decide, by decide⟩ (recvO cf9 (fun _ => s_x0)) rfl rfl (Nat.le_of_ble_eq_true rfl) (Nat.le_of_ble_eq_true rfl) (by decide) (by decide) kk
set_option maxRecDepth 20000 in
theorem B9_weakBehind_81 {ω : Om} {h : AH} {Q : Option Value → AH → Prop} {x0 : Nat} {x1 : Int32} {x2 : Int32} {x3 : Int32} {x4 : Int32} {u5 : Option Value} {y0 : Int32} {y1 : Int32} (hw : ω.2.2.2.1 = true) (kt : y1 ≤ y0 → Ex ω M9_weakBehind 89 [some (.ref x0), some (.int x1), some (.int x2), some (.int x3), some (.int x4), none] [] h 0 0 Q) (kf : ¬ y1 ≤ y0 → Ex ω M9_weakBehind 84 [some (.ref x0), some (.int x1), some (.int x2), some (.int x3), some (.int x4), none] [] h 0 0 Q) : Ex ω M9_weakBehind 81 [some (.ref x0), some (.int x1), some (.int x2), some (.int x3), some (.int x4), u5] [.int y1, .int y0] h 0 0 Q := by
  refine x_dr5 ?_
  exact x_icmp_ge 84 89 dX9_weakBehind_81 rfl (by decide) kt kf
set_option maxRecDepth 20000 in
theorem B9_weakBehind_84 {ω : Om} {h : AH} {Q : Option Value → AH → Prop} {x0 : Nat} {x1 : Int32} {x2 : Int32} {u3 : Option Value} {x4 : Int32} {u5 : Option Value} (hw : ω.2.2.2.1 = true) (kt : Ex ω M9_weakBehind 90 [some (.ref x0), some (.int x1), some (.int x2), none, some (.int x4), none] [.int x4] h 0 0 Q) : Ex ω M9_weakBehind 84 [some (.ref x0), some (.int x1), some (.int x2), u3, some (.int x4), u5] [] h 0 0 Q := by
  refine x_dr3 ?_
  refine x_dr5 ?_
  refine x_iload4 86 dX9_weakBehind_84 rfl ?_
  exact x_goto 90 dX9_weakBehind_86 (by decide) kt
set_option maxRecDepth 20000 in
theorem B9_weakBehind_89 {ω : Om} {h : AH} {Q : Option Value → AH → Prop} {x0 : Nat} {x1 : Int32} {x2 : Int32} {x3 : Int32} {x4 : Int32} {u5 : Option Value} (hw : ω.2.2.2.1 = true) (kf : Ex ω M9_weakBehind 90 [some (.ref x0), some (.int x1), some (.int x2), some (.int x3), some (.int x4), none] [.int x3] h 0 0 Q) : Ex ω M9_weakBehind 89 [some (.ref x0), some (.int x1), some (.int x2), some (.int x3), some (.int x4), u5] [] h 0 0 Q := by
  refine x_dr5 ?_
  refine x_iload3 90 dX9_weakBehind_89 rfl ?_
  exact kf
set_option maxRecDepth 20000 in
theorem B9_weakBehind_90 {ω : Om} {h : AH} {Q : Option Value → AH → Prop} {x0 : Nat} {x1 : Int32} {x2 : Int32} {u3 : Option Value} {x4 : Int32} {u5 : Option Value} {y0 : Int32} (hw : ω.2.2.2.1 = true) (kt : Ex ω M9_weakBehind 5 [some (.ref x0), some (.int x1), some (.int x2), some (.int y0), some (.int (x4 + (nI 1))), none] [] h 0 0 Q) : Ex ω M9_weakBehind 90 [some (.ref x0), some (.int x1), some (.int x2), u3, some (.int x4), u5] [.int y0] h 0 0 Q := by
  refine x_dr3 ?_
  refine x_dr5 ?_
  refine x_istore3 91 dX9_weakBehind_90 rfl (by decide) rfl ?_
  refine x_iinc4 (x4 + (nI 1)) 94 dX9_weakBehind_91 rfl (by decide) rfl rfl ?_
  exact x_goto 5 dX9_weakBehind_94 (by decide) kt
set_option maxRecDepth 20000 in
theorem B9_weakBehind_97 {ω : Om} {h : AH} {Q : Option Value → AH → Prop} {u0 : Option Value} {u1 : Option Value} {u2 : Option Value} {x3 : Int32} {u4 : Option Value} {u5 : Option Value} (hw : ω.2.2.2.1 = true) (hq : Q (some (.int x3)) h) : Ex ω M9_weakBehind 97 [u0, u1, u2, some (.int x3), u4, u5] [] h 0 0 Q := by
  refine x_dr0 ?_
  refine x_dr1 ?_
  refine x_dr2 ?_
  refine x_dr4 ?_
  refine x_dr5 ?_
  refine x_iload3 98 dX9_weakBehind_97 rfl ?_
  exact x_iret dX9_weakBehind_98 rfl (Nat.zero_le _) (Nat.zero_le _) hq
set_option maxRecDepth 20000 in
theorem B9_roll_0 {ω : Om} {h : AH} {Q : Option Value → AH → Prop} {x0 : Nat} {x1 : Int32} {x2 : Int32} {u3 : Option Value} {u4 : Option Value} (hw : ω.2.2.2.1 = true) (s_x0 : gs h x0 = some (9, 17)) (kk : Ex ω M9_isRoll 0 [some (.ref x0), some (.int x1)] [] h 0 0 (fun v h' => Ex ω M9_roll 5 [some (.ref x0), some (.int x1), some (.int x2), none, none] (v.toList ++ []) h' 0 0 Q)) : Ex ω M9_roll 0 [some (.ref x0), some (.int x1), some (.int x2), u3, u4] [] h 0 0 Q := by
  refine x_dr3 ?_
  refine x_dr4 ?_
  refine x_aload0 1 dX9_roll_0 rfl ?_
  refine x_iload1 2 dX9_roll_1 rfl ?_
  exact x_callV 5 x0 [.int x1] [] dX9_roll_2 rfl lk_9_isRoll ⟨wd229, wd230, wd231⟩ ⟨by decide, by decide⟩ (recvO cf9 (fun _ => s_x0)) rfl rfl (Nat.le_of_ble_eq_true rfl) (Nat.le_of_ble_eq_true rfl) (by decide) (by decide) kk
set_option maxRecDepth 20000 in
theorem B9_roll_5 {ω : Om} {h : AH} {Q : Option Value → AH → Prop} {x0 : Nat} {x1 : Int32} {x2 : Int32} {u3 : Option Value} {u4 : Option Value} {y0 : Int32} (hw : ω.2.2.2.1 = true) (kt : y0 = 0 → Ex ω M9_roll 20 [some (.ref x0), some (.int x1), some (.int x2), none, none] [] h 0 0 Q) (kf : ¬ y0 = 0 → Ex ω M9_roll 8 [some (.ref x0), some (.int x1), some (.int x2), none, none] [] h 0 0 Q) : Ex ω M9_roll 5 [some (.ref x0), some (.int x1), some (.int x2), u3, u4] [.int y0] h 0 0 Q := by
  refine x_dr3 ?_
  refine x_dr4 ?_
  exact x_if_eq 8 20 dX9_roll_5 rfl (by decide) kt kf
set_option maxRecDepth 20000 in
theorem B9_roll_8 {ω : Om} {h : AH} {Q : Option Value → AH → Prop} {x0 : Nat} {x1 : Int32} {x2 : Int32} {u3 : Option Value} {u4 : Option Value} (hw : ω.2.2.2.1 = true) (kk : Ex ω M9_in 0 [some (.long (Int32.toInt64 x2)), none, some (.long ((0 : Int64))), none, some (.long ((5 : Int64))), none] [] h 0 0 (fun v h' => Ex ω M9_roll 17 [some (.ref x0), some (.int x1), some (.int x2), none, none] (v.toList ++ []) h' 0 0 Q)) : Ex ω M9_roll 8 [some (.ref x0), some (.int x1), some (.int x2), u3, u4] [] h 0 0 Q := by
  refine x_dr3 ?_
  refine x_dr4 ?_
  refine x_iload2 9 dX9_roll_8 rfl ?_
  refine x_i2l 10 dX9_roll_9 rfl ?_
  refine x_lconst 0 11 dX9_roll_10 rfl rfl ?_
  refine x_ldc2 5 14 dX9_roll_11 rfl wd253 ?_
  exact x_callS 17 [.long (Int32.toInt64 x2), .long ((0 : Int64)), .long ((5 : Int64))] [] dX9_roll_14 rfl lk_9_in ⟨wd200, wd201⟩ ⟨by decide, by decide⟩ rfl rfl (Nat.le_of_ble_eq_true rfl) (Nat.le_of_ble_eq_true rfl) (by decide) (by decide) kk
set_option maxRecDepth 20000 in
theorem B9_roll_17 {ω : Om} {h : AH} {Q : Option Value → AH → Prop} {x0 : Nat} {x1 : Int32} {x2 : Int32} {u3 : Option Value} {u4 : Option Value} {y0 : Int32} (hw : ω.2.2.2.1 = true) (kt : ¬ y0 = 0 → Ex ω M9_roll 22 [some (.ref x0), some (.int x1), some (.int x2), none, none] [] h 0 0 Q) (kf : y0 = 0 → Ex ω M9_roll 20 [some (.ref x0), some (.int x1), some (.int x2), none, none] [] h 0 0 Q) : Ex ω M9_roll 17 [some (.ref x0), some (.int x1), some (.int x2), u3, u4] [.int y0] h 0 0 Q := by
  refine x_dr3 ?_
  refine x_dr4 ?_
  exact x_if_ne 20 22 dX9_roll_17 rfl (by decide) kt kf
set_option maxRecDepth 20000 in
theorem B9_roll_20 {ω : Om} {h : AH} {Q : Option Value → AH → Prop} {u0 : Option Value} {u1 : Option Value} {u2 : Option Value} {u3 : Option Value} {u4 : Option Value} (hw : ω.2.2.2.1 = true) (hq : Q (some (.int ((-1)))) h) : Ex ω M9_roll 20 [u0, u1, u2, u3, u4] [] h 0 0 Q := by
  refine x_dr0 ?_
  refine x_dr1 ?_
  refine x_dr2 ?_
  refine x_dr3 ?_
  refine x_dr4 ?_
  refine x_iconst ((-1)) 21 dX9_roll_20 rfl rfl ?_
  exact x_iret dX9_roll_21 rfl (Nat.zero_le _) (Nat.zero_le _) hq
set_option maxRecDepth 20000 in
theorem B9_roll_22 {ω : Om} {h : AH} {Q : Option Value → AH → Prop} {x0 : Nat} {x1 : Int32} {x2 : Int32} {u3 : Option Value} {u4 : Option Value} (hw : ω.2.2.2.1 = true) (kt : (nI 3) ≤ x2 → Ex ω M9_roll 34 [some (.ref x0), some (.int x1), some (.int x2), none, none] [] h 0 0 Q) (kf : ¬ (nI 3) ≤ x2 → Ex ω M9_roll 27 [some (.ref x0), some (.int x1), some (.int x2), none, none] [] h 0 0 Q) : Ex ω M9_roll 22 [some (.ref x0), some (.int x1), some (.int x2), u3, u4] [] h 0 0 Q := by
  refine x_dr3 ?_
  refine x_dr4 ?_
  refine x_iload2 23 dX9_roll_22 rfl ?_
  refine x_iconst (nI 3) 24 dX9_roll_23 rfl rfl ?_
  exact x_icmp_ge 27 34 dX9_roll_24 rfl (by decide) kt kf
set_option maxRecDepth 20000 in
theorem B9_roll_27 {ω : Om} {h : AH} {Q : Option Value → AH → Prop} {x0 : Nat} {x1 : Int32} {x2 : Int32} {u3 : Option Value} {u4 : Option Value} (hw : ω.2.2.2.1 = true) (s_x0 : gs h x0 = some (9, 17)) (kk : Ex ω M9_rollAt 0 [some (.ref x0), some (.int x1), some (.int x2)] [] h 0 0 (fun v h' => Ex ω M9_roll 33 [some (.ref x0), some (.int x1), some (.int x2), none, none] (v.toList ++ []) h' 0 0 Q)) : Ex ω M9_roll 27 [some (.ref x0), some (.int x1), some (.int x2), u3, u4] [] h 0 0 Q := by
  refine x_dr3 ?_
  refine x_dr4 ?_
  refine x_aload0 28 dX9_roll_27 rfl ?_
  refine x_iload1 29 dX9_roll_28 rfl ?_
  refine x_iload2 30 dX9_roll_29 rfl ?_
  exact x_callV 33 x0 [.int x1, .int x2] [] dX9_roll_30 rfl lk_9_rollAt ⟨wd233, wd234, wd235⟩ ⟨by decide, by decide⟩ (recvO cf9 (fun _ => s_x0)) rfl rfl (Nat.le_of_ble_eq_true rfl) (Nat.le_of_ble_eq_true rfl) (by decide) (by decide) kk
set_option maxRecDepth 20000 in
theorem B9_roll_33 {ω : Om} {h : AH} {Q : Option Value → AH → Prop} {u0 : Option Value} {u1 : Option Value} {u2 : Option Value} {u3 : Option Value} {u4 : Option Value} {y0 : Int32} (hw : ω.2.2.2.1 = true) (hq : Q (some (.int y0)) h) : Ex ω M9_roll 33 [u0, u1, u2, u3, u4] [.int y0] h 0 0 Q := by
  refine x_dr0 ?_
  refine x_dr1 ?_
  refine x_dr2 ?_
  refine x_dr3 ?_
  refine x_dr4 ?_
  exact x_iret dX9_roll_33 rfl (Nat.zero_le _) (Nat.zero_le _) hq
set_option maxRecDepth 20000 in
theorem B9_roll_34 {ω : Om} {h : AH} {Q : Option Value → AH → Prop} {x0 : Nat} {x1 : Int32} {x2 : Int32} {u3 : Option Value} {u4 : Option Value} (hw : ω.2.2.2.1 = true) (kf : Ex ω M9_roll 39 [some (.ref x0), some (.int x1), some (.int x2), some (.int (nI 0)), some (.int (nI 0))] [] h 0 0 Q) : Ex ω M9_roll 34 [some (.ref x0), some (.int x1), some (.int x2), u3, u4] [] h 0 0 Q := by
  refine x_dr3 ?_
  refine x_dr4 ?_
  refine x_iconst (nI 0) 35 dX9_roll_34 rfl rfl ?_
  refine x_istore3 36 dX9_roll_35 rfl (by decide) rfl ?_
  refine x_iconst (nI 0) 37 dX9_roll_36 rfl rfl ?_
  refine x_istore4 39 dX9_roll_37 rfl (by decide) rfl ?_
  exact kf
set_option maxRecDepth 20000 in
theorem B9_roll_39 {ω : Om} {h : AH} {Q : Option Value → AH → Prop} {x0 : Nat} {x1 : Int32} {x2 : Int32} {x3 : Int32} {x4 : Int32} (hw : ω.2.2.2.1 = true) (s_x0 : gs h x0 = some (9, 17)) (kk : Ex ω M9_rollAt 0 [some (.ref x0), some (.int x1), some (.int (nI 3))] [] h 0 0 (fun v h' => Ex ω M9_roll 47 [some (.ref x0), some (.int x1), some (.int x2), some (.int x3), some (.int x4)] (v.toList ++ [.int x4]) h' 0 0 Q)) : Ex ω M9_roll 39 [some (.ref x0), some (.int x1), some (.int x2), some (.int x3), some (.int x4)] [] h 0 0 Q := by
  refine x_iload4 41 dX9_roll_39 rfl ?_
  refine x_aload0 42 dX9_roll_41 rfl ?_
  refine x_iload1 43 dX9_roll_42 rfl ?_
  refine x_iconst (nI 3) 44 dX9_roll_43 rfl rfl ?_
  exact x_callV 47 x0 [.int x1, .int (nI 3)] [.int x4] dX9_roll_44 rfl lk_9_rollAt ⟨wd233, wd234, wd235⟩ ⟨by decide, by decide⟩ (recvO cf9 (fun _ => s_x0)) rfl rfl (Nat.le_of_ble_eq_true rfl) (Nat.le_of_ble_eq_true rfl) (by decide) (by decide) kk
set_option maxRecDepth 20000 in
theorem B9_roll_47 {ω : Om} {h : AH} {Q : Option Value → AH → Prop} {x0 : Nat} {x1 : Int32} {x2 : Int32} {x3 : Int32} {x4 : Int32} {y0 : Int32} {y1 : Int32} (hw : ω.2.2.2.1 = true) (kt : y1 ≤ y0 → Ex ω M9_roll 82 [some (.ref x0), some (.int x1), some (.int x2), some (.int x3), some (.int x4)] [] h 0 0 Q) (kf : ¬ y1 ≤ y0 → Ex ω M9_roll 50 [some (.ref x0), some (.int x1), some (.int x2), some (.int x3), some (.int x4)] [] h 0 0 Q) : Ex ω M9_roll 47 [some (.ref x0), some (.int x1), some (.int x2), some (.int x3), some (.int x4)] [.int y1, .int y0] h 0 0 Q := by
  exact x_icmp_ge 50 82 dX9_roll_47 rfl (by decide) kt kf
set_option maxRecDepth 20000 in
theorem B9_roll_50 {ω : Om} {h : AH} {Q : Option Value → AH → Prop} {x0 : Nat} {x1 : Int32} {x2 : Int32} {x3 : Int32} {x4 : Int32} (hw : ω.2.2.2.1 = true) (s_x0 : gs h x0 = some (9, 17)) (kk : Ex ω M9_rollAt 0 [some (.ref x0), some (.int x1), some (.int ((nI 4) + x4))] [] h 0 0 (fun v h' => Ex ω M9_roll 60 [some (.ref x0), some (.int x1), some (.int x2), some (.int x3), some (.int x4)] (v.toList ++ [.int x3]) h' 0 0 Q)) : Ex ω M9_roll 50 [some (.ref x0), some (.int x1), some (.int x2), some (.int x3), some (.int x4)] [] h 0 0 Q := by
  refine x_iload3 51 dX9_roll_50 rfl ?_
  refine x_aload0 52 dX9_roll_51 rfl ?_
  refine x_iload1 53 dX9_roll_52 rfl ?_
  refine x_iconst (nI 4) 54 dX9_roll_53 rfl rfl ?_
  refine x_iload4 56 dX9_roll_54 rfl ?_
  refine x_iadd 57 dX9_roll_56 rfl ?_
  exact x_callV 60 x0 [.int x1, .int ((nI 4) + x4)] [.int x3] dX9_roll_57 rfl lk_9_rollAt ⟨wd233, wd234, wd235⟩ ⟨by decide, by decide⟩ (recvO cf9 (fun _ => s_x0)) rfl rfl (Nat.le_of_ble_eq_true rfl) (Nat.le_of_ble_eq_true rfl) (by decide) (by decide) kk
set_option maxRecDepth 20000 in
theorem B9_roll_60 {ω : Om} {h : AH} {Q : Option Value → AH → Prop} {x0 : Nat} {x1 : Int32} {x2 : Int32} {u3 : Option Value} {x4 : Int32} {y0 : Int32} {y1 : Int32} (hw : ω.2.2.2.1 = true) (s_x0 : gs h x0 = some (9, 17)) (kk : Ex ω M9_rollAt 0 [some (.ref x0), some (.int x1), some (.int (nI 2))] [] h 0 0 (fun v h' => Ex ω M9_roll 66 [some (.ref x0), some (.int x1), some (.int x2), none, some (.int x4)] (v.toList ++ [.int y1, .int y0]) h' 0 0 Q)) : Ex ω M9_roll 60 [some (.ref x0), some (.int x1), some (.int x2), u3, some (.int x4)] [.int y1, .int y0] h 0 0 Q := by
  refine x_dr3 ?_
  refine x_aload0 61 dX9_roll_60 rfl ?_
  refine x_iload1 62 dX9_roll_61 rfl ?_
  refine x_iconst (nI 2) 63 dX9_roll_62 rfl rfl ?_
  exact x_callV 66 x0 [.int x1, .int (nI 2)] [.int y1, .int y0] dX9_roll_63 rfl lk_9_rollAt ⟨wd233, wd234, wd235⟩ ⟨by decide, by decide⟩ (recvO cf9 (fun _ => s_x0)) rfl rfl (Nat.le_of_ble_eq_true rfl) (Nat.le_of_ble_eq_true rfl) (by decide) (by decide) kk
set_option maxRecDepth 20000 in
theorem B9_roll_66 {ω : Om} {h : AH} {Q : Option Value → AH → Prop} {x0 : Nat} {x1 : Int32} {x2 : Int32} {u3 : Option Value} {x4 : Int32} {y0 : Int32} {y1 : Int32} {y2 : Int32} (hw : ω.2.2.2.1 = true) (kt : y1 ≤ y2 → Ex ω M9_roll 73 [some (.ref x0), some (.int x1), some (.int x2), none, some (.int x4)] [.int y0] h 0 0 Q) (kf : ¬ y1 ≤ y2 → Ex ω M9_roll 69 [some (.ref x0), some (.int x1), some (.int x2), none, some (.int x4)] [.int y0] h 0 0 Q) : Ex ω M9_roll 66 [some (.ref x0), some (.int x1), some (.int x2), u3, some (.int x4)] [.int y2, .int y1, .int y0] h 0 0 Q := by
  refine x_dr3 ?_
  exact x_icmp_le 69 73 dX9_roll_66 rfl (by decide) kt kf
set_option maxRecDepth 20000 in
theorem B9_roll_69 {ω : Om} {h : AH} {Q : Option Value → AH → Prop} {x0 : Nat} {x1 : Int32} {x2 : Int32} {u3 : Option Value} {x4 : Int32} {y0 : Int32} (hw : ω.2.2.2.1 = true) (kt : Ex ω M9_roll 74 [some (.ref x0), some (.int x1), some (.int x2), none, some (.int x4)] [.int (nI 1), .int y0] h 0 0 Q) : Ex ω M9_roll 69 [some (.ref x0), some (.int x1), some (.int x2), u3, some (.int x4)] [.int y0] h 0 0 Q := by
  refine x_dr3 ?_
  refine x_iconst (nI 1) 70 dX9_roll_69 rfl rfl ?_
  exact x_goto 74 dX9_roll_70 (by decide) kt
set_option maxRecDepth 20000 in
theorem B9_roll_73 {ω : Om} {h : AH} {Q : Option Value → AH → Prop} {x0 : Nat} {x1 : Int32} {x2 : Int32} {u3 : Option Value} {x4 : Int32} {y0 : Int32} (hw : ω.2.2.2.1 = true) (kf : Ex ω M9_roll 74 [some (.ref x0), some (.int x1), some (.int x2), none, some (.int x4)] [.int (nI 0), .int y0] h 0 0 Q) : Ex ω M9_roll 73 [some (.ref x0), some (.int x1), some (.int x2), u3, some (.int x4)] [.int y0] h 0 0 Q := by
  refine x_dr3 ?_
  refine x_iconst (nI 0) 74 dX9_roll_73 rfl rfl ?_
  exact kf
set_option maxRecDepth 20000 in
theorem B9_roll_74 {ω : Om} {h : AH} {Q : Option Value → AH → Prop} {x0 : Nat} {x1 : Int32} {x2 : Int32} {u3 : Option Value} {x4 : Int32} {y0 : Int32} {y1 : Int32} (hw : ω.2.2.2.1 = true) (kt : Ex ω M9_roll 39 [some (.ref x0), some (.int x1), some (.int x2), some (.int (y0 + y1)), some (.int (x4 + (nI 1)))] [] h 0 0 Q) : Ex ω M9_roll 74 [some (.ref x0), some (.int x1), some (.int x2), u3, some (.int x4)] [.int y1, .int y0] h 0 0 Q := by
  refine x_dr3 ?_
  refine x_iadd 75 dX9_roll_74 rfl ?_
  refine x_istore3 76 dX9_roll_75 rfl (by decide) rfl ?_
  refine x_iinc4 (x4 + (nI 1)) 79 dX9_roll_76 rfl (by decide) rfl rfl ?_
  exact x_goto 39 dX9_roll_79 (by decide) kt
set_option maxRecDepth 20000 in
theorem B9_roll_82 {ω : Om} {h : AH} {Q : Option Value → AH → Prop} {x0 : Nat} {x1 : Int32} {x2 : Int32} {x3 : Int32} {u4 : Option Value} (hw : ω.2.2.2.1 = true) (s_x0 : gs h x0 = some (9, 17)) (kk : Ex ω M9_weakBehind 0 [some (.ref x0), some (.int x1), some (.int (nI 1000)), none, none, none] [] h 0 0 (fun v h' => Ex ω M9_roll 90 [some (.ref x0), some (.int x1), some (.int x2), some (.int x3), none] (v.toList ++ []) h' 0 0 Q)) : Ex ω M9_roll 82 [some (.ref x0), some (.int x1), some (.int x2), some (.int x3), u4] [] h 0 0 Q := by
  refine x_dr4 ?_
  refine x_aload0 83 dX9_roll_82 rfl ?_
  refine x_iload1 84 dX9_roll_83 rfl ?_
  refine x_sipush (nI 1000) 87 dX9_roll_84 rfl rfl ?_
  exact x_callV 90 x0 [.int x1, .int (nI 1000)] [] dX9_roll_87 rfl lk_9_weakBehind ⟨wd254, wd255, wd256⟩ ⟨by decide, by decide⟩ (recvO cf9 (fun _ => s_x0)) rfl rfl (Nat.le_of_ble_eq_true rfl) (Nat.le_of_ble_eq_true rfl) (by decide) (by decide) kk
set_option maxRecDepth 20000 in
theorem B9_roll_90 {ω : Om} {h : AH} {Q : Option Value → AH → Prop} {x0 : Nat} {x1 : Int32} {x2 : Int32} {x3 : Int32} {u4 : Option Value} {y0 : Int32} (hw : ω.2.2.2.1 = true) (kt : ¬ x2 = (nI 3) → Ex ω M9_roll 101 [some (.ref x0), some (.int x1), some (.int x2), some (.int x3), some (.int y0)] [] h 0 0 Q) (kf : x2 = (nI 3) → Ex ω M9_roll 97 [some (.ref x0), some (.int x1), some (.int x2), some (.int x3), some (.int y0)] [] h 0 0 Q) : Ex ω M9_roll 90 [some (.ref x0), some (.int x1), some (.int x2), some (.int x3), u4] [.int y0] h 0 0 Q := by
  refine x_dr4 ?_
  refine x_istore4 92 dX9_roll_90 rfl (by decide) rfl ?_
  refine x_iload2 93 dX9_roll_92 rfl ?_
  refine x_iconst (nI 3) 94 dX9_roll_93 rfl rfl ?_
  exact x_icmp_ne 97 101 dX9_roll_94 rfl (by decide) kt kf
set_option maxRecDepth 20000 in
theorem B9_roll_97 {ω : Om} {h : AH} {Q : Option Value → AH → Prop} {u0 : Option Value} {u1 : Option Value} {u2 : Option Value} {x3 : Int32} {u4 : Option Value} (hw : ω.2.2.2.1 = true) (kt : Ex ω M9_roll 130 [none, none, none, some (.int x3), none] [.int x3] h 0 0 Q) : Ex ω M9_roll 97 [u0, u1, u2, some (.int x3), u4] [] h 0 0 Q := by
  refine x_dr0 ?_
  refine x_dr1 ?_
  refine x_dr2 ?_
  refine x_dr4 ?_
  refine x_iload3 98 dX9_roll_97 rfl ?_
  exact x_goto 130 dX9_roll_98 (by decide) kt
set_option maxRecDepth 20000 in
theorem B9_roll_101 {ω : Om} {h : AH} {Q : Option Value → AH → Prop} {x0 : Nat} {x1 : Int32} {x2 : Int32} {u3 : Option Value} {x4 : Int32} (hw : ω.2.2.2.1 = true) (kt : 0 ≤ x4 → Ex ω M9_roll 111 [some (.ref x0), some (.int x1), some (.int x2), none, some (.int x4)] [] h 0 0 Q) (kf : ¬ 0 ≤ x4 → Ex ω M9_roll 106 [some (.ref x0), some (.int x1), some (.int x2), none, some (.int x4)] [] h 0 0 Q) : Ex ω M9_roll 101 [some (.ref x0), some (.int x1), some (.int x2), u3, some (.int x4)] [] h 0 0 Q := by
  refine x_dr3 ?_
  refine x_iload4 103 dX9_roll_101 rfl ?_
  exact x_if_ge 106 111 dX9_roll_103 rfl (by decide) kt kf
set_option maxRecDepth 20000 in
theorem B9_roll_106 {ω : Om} {h : AH} {Q : Option Value → AH → Prop} {u0 : Option Value} {u1 : Option Value} {u2 : Option Value} {u3 : Option Value} {u4 : Option Value} (hw : ω.2.2.2.1 = true) (kt : Ex ω M9_roll 130 [none, none, none, none, none] [.int ((-4))] h 0 0 Q) : Ex ω M9_roll 106 [u0, u1, u2, u3, u4] [] h 0 0 Q := by
  refine x_dr0 ?_
  refine x_dr1 ?_
  refine x_dr2 ?_
  refine x_dr3 ?_
  refine x_dr4 ?_
  refine x_bipush ((-4)) 108 dX9_roll_106 rfl rfl ?_
  exact x_goto 130 dX9_roll_108 (by decide) kt
set_option maxRecDepth 20000 in
theorem B9_roll_111 {ω : Om} {h : AH} {Q : Option Value → AH → Prop} {x0 : Nat} {x1 : Int32} {x2 : Int32} {u3 : Option Value} {x4 : Int32} (hw : ω.2.2.2.1 = true) (kt : ¬ x2 = (nI 4) → Ex ω M9_roll 122 [some (.ref x0), some (.int x1), some (.int x2), none, some (.int x4)] [.int x1, .ref x0] h 0 0 Q) (kf : x2 = (nI 4) → Ex ω M9_roll 118 [some (.ref x0), some (.int x1), some (.int x2), none, some (.int x4)] [.int x1, .ref x0] h 0 0 Q) : Ex ω M9_roll 111 [some (.ref x0), some (.int x1), some (.int x2), u3, some (.int x4)] [] h 0 0 Q := by
  refine x_dr3 ?_
  refine x_aload0 112 dX9_roll_111 rfl ?_
  refine x_iload1 113 dX9_roll_112 rfl ?_
  refine x_iload2 114 dX9_roll_113 rfl ?_
  refine x_iconst (nI 4) 115 dX9_roll_114 rfl rfl ?_
  exact x_icmp_ne 118 122 dX9_roll_115 rfl (by decide) kt kf
set_option maxRecDepth 20000 in
theorem B9_roll_118 {ω : Om} {h : AH} {Q : Option Value → AH → Prop} {u0 : Option Value} {u1 : Option Value} {u2 : Option Value} {u3 : Option Value} {x4 : Int32} {y0 : Nat} {y1 : Int32} (hw : ω.2.2.2.1 = true) (kt : Ex ω M9_roll 124 [none, none, none, none, some (.int x4)] [.int (nI 4), .int y1, .ref y0] h 0 0 Q) : Ex ω M9_roll 118 [u0, u1, u2, u3, some (.int x4)] [.int y1, .ref y0] h 0 0 Q := by
  refine x_dr0 ?_
  refine x_dr1 ?_
  refine x_dr2 ?_
  refine x_dr3 ?_
  refine x_iconst (nI 4) 119 dX9_roll_118 rfl rfl ?_
  exact x_goto 124 dX9_roll_119 (by decide) kt
set_option maxRecDepth 20000 in
theorem B9_roll_122 {ω : Om} {h : AH} {Q : Option Value → AH → Prop} {u0 : Option Value} {u1 : Option Value} {u2 : Option Value} {u3 : Option Value} {x4 : Int32} {y0 : Nat} {y1 : Int32} (hw : ω.2.2.2.1 = true) (kf : Ex ω M9_roll 124 [none, none, none, none, some (.int x4)] [.int (nI 12), .int y1, .ref y0] h 0 0 Q) : Ex ω M9_roll 122 [u0, u1, u2, u3, some (.int x4)] [.int y1, .ref y0] h 0 0 Q := by
  refine x_dr0 ?_
  refine x_dr1 ?_
  refine x_dr2 ?_
  refine x_dr3 ?_
  refine x_bipush (nI 12) 124 dX9_roll_122 rfl rfl ?_
  exact kf
set_option maxRecDepth 20000 in
theorem B9_roll_124 {ω : Om} {h : AH} {Q : Option Value → AH → Prop} {u0 : Option Value} {u1 : Option Value} {u2 : Option Value} {u3 : Option Value} {x4 : Int32} {y0 : Nat} {y1 : Int32} {y2 : Int32} (hw : ω.2.2.2.1 = true) (s_y0 : gs h y0 = some (9, 17)) (kk : Ex ω M9_rollAt 0 [some (.ref y0), some (.int y1), some (.int (y2 + x4))] [] h 0 0 (fun v h' => Ex ω M9_roll 130 [none, none, none, none, some (.int x4)] (v.toList ++ []) h' 0 0 Q)) : Ex ω M9_roll 124 [u0, u1, u2, u3, some (.int x4)] [.int y2, .int y1, .ref y0] h 0 0 Q := by
  refine x_dr0 ?_
  refine x_dr1 ?_
  refine x_dr2 ?_
  refine x_dr3 ?_
  refine x_iload4 126 dX9_roll_124 rfl ?_
  refine x_iadd 127 dX9_roll_126 rfl ?_
  exact x_callV 130 y0 [.int y1, .int (y2 + x4)] [] dX9_roll_127 rfl lk_9_rollAt ⟨wd233, wd234, wd235⟩ ⟨by decide, by decide⟩ (recvO cf9 (fun _ => s_y0)) rfl rfl (Nat.le_of_ble_eq_true rfl) (Nat.le_of_ble_eq_true rfl) (by decide) (by decide) kk
set_option maxRecDepth 20000 in
theorem B9_roll_130 {ω : Om} {h : AH} {Q : Option Value → AH → Prop} {u0 : Option Value} {u1 : Option Value} {u2 : Option Value} {u3 : Option Value} {u4 : Option Value} {y0 : Int32} (hw : ω.2.2.2.1 = true) (hq : Q (some (.int y0)) h) : Ex ω M9_roll 130 [u0, u1, u2, u3, u4] [.int y0] h 0 0 Q := by
  refine x_dr0 ?_
  refine x_dr1 ?_
  refine x_dr2 ?_
  refine x_dr3 ?_
  refine x_dr4 ?_
  exact x_iret dX9_roll_130 rfl (Nat.zero_le _) (Nat.zero_le _) hq
set_option maxRecDepth 20000 in
theorem B9_rollGoes_0 {ω : Om} {h : AH} {Q : Option Value → AH → Prop} {x0 : Nat} {u1 : Option Value} (hw : ω.2.2.2.1 = true) (s_x0 : gs h x0 = some (9, 17)) (kf : Ex ω M9_rollGoes 13 [some (.ref x0), some (.int (nI 20))] [] (si h (gr h x0 0) 0 ((gi h (gr h x0 0) 0) - (nI 1))) 0 0 Q) : Ex ω M9_rollGoes 0 [some (.ref x0), u1] [] h 0 0 Q := by
  refine x_dr1 ?_
  refine x_aload0 1 dX9_rollGoes_0 rfl ?_
  refine x_getR cf9 0 4 hw dX9_rollGoes_1 rfl wd99 (fun _ => s_x0) (by decide) (by decide) rfl ?_
  refine x_iconst (nI 0) 5 dX9_rollGoes_4 rfl rfl ?_
  refine x_dup2 6 dX9_rollGoes_5 rfl rfl rfl ?_
  refine x_iald 0 7 dX9_rollGoes_6 rfl (SH.fld hw (fun _ => s_x0) 0 (Nat.le_of_ble_eq_true rfl) rfl rfl) (vp_c (by decide)) rfl ?_
  refine x_iconst (nI 1) 8 dX9_rollGoes_7 rfl rfl ?_
  refine x_isub 9 dX9_rollGoes_8 rfl ?_
  refine x_iast 0 10 dX9_rollGoes_9 rfl (SH.fld hw (fun _ => s_x0) 0 (Nat.le_of_ble_eq_true rfl) rfl rfl) (vp_c (by decide)) rfl ?_
  refine x_bipush (nI 20) 12 dX9_rollGoes_10 rfl rfl ?_
  refine x_istore1 13 dX9_rollGoes_12 rfl (by decide) rfl ?_
  exact kf
set_option maxRecDepth 20000 in
theorem B9_rollGoes_13 {ω : Om} {h : AH} {Q : Option Value → AH → Prop} {x0 : Nat} {x1 : Int32} (hw : ω.2.2.2.1 = true) (s_x0 : gs h x0 = some (9, 17)) (kt : ((nI 20) + ((nI 20) * (gi h (gr h x0 0) 0))) ≤ x1 → Ex ω M9_rollGoes 50 [some (.ref x0), some (.int x1)] [] h 0 0 Q) (kf : ¬ ((nI 20) + ((nI 20) * (gi h (gr h x0 0) 0))) ≤ x1 → Ex ω M9_rollGoes 29 [some (.ref x0), some (.int x1)] [] h 0 0 Q) : Ex ω M9_rollGoes 13 [some (.ref x0), some (.int x1)] [] h 0 0 Q := by
  refine x_iload1 14 dX9_rollGoes_13 rfl ?_
  refine x_bipush (nI 20) 16 dX9_rollGoes_14 rfl rfl ?_
  refine x_bipush (nI 20) 18 dX9_rollGoes_16 rfl rfl ?_
  refine x_aload0 19 dX9_rollGoes_18 rfl ?_
  refine x_getR cf9 0 22 hw dX9_rollGoes_19 rfl wd99 (fun _ => s_x0) (by decide) (by decide) rfl ?_
  refine x_iconst (nI 0) 23 dX9_rollGoes_22 rfl rfl ?_
  refine x_iald 0 24 dX9_rollGoes_23 rfl (SH.fld hw (fun _ => s_x0) 0 (Nat.le_of_ble_eq_true rfl) rfl rfl) (vp_c (by decide)) rfl ?_
  refine x_imul 25 dX9_rollGoes_24 rfl ?_
  refine x_iadd 26 dX9_rollGoes_25 rfl ?_
  exact x_icmp_ge 29 50 dX9_rollGoes_26 rfl (by decide) kt kf
set_option maxRecDepth 20000 in
theorem B9_rollGoes_29 {ω : Om} {h : AH} {Q : Option Value → AH → Prop} {x0 : Nat} {x1 : Int32} (hw : ω.2.2.2.1 = true) (s_x0 : gs h x0 = some (9, 17)) (i1 : vp_in (x1 + (nI 20)) 596) (i2 : vp_in x1 596) (kt : Ex ω M9_rollGoes 13 [some (.ref x0), some (.int (x1 + (nI 1)))] [] (si h (gr h x0 0) (Int32.toNatClampNeg x1) (gi h (gr h x0 0) (Int32.toNatClampNeg (x1 + (nI 20))))) 0 0 Q) : Ex ω M9_rollGoes 29 [some (.ref x0), some (.int x1)] [] h 0 0 Q := by
  refine x_aload0 30 dX9_rollGoes_29 rfl ?_
  refine x_getR cf9 0 33 hw dX9_rollGoes_30 rfl wd99 (fun _ => s_x0) (by decide) (by decide) rfl ?_
  refine x_iload1 34 dX9_rollGoes_33 rfl ?_
  refine x_aload0 35 dX9_rollGoes_34 rfl ?_
  refine x_getR cf9 0 38 hw dX9_rollGoes_35 rfl wd99 (fun _ => s_x0) (by decide) (by decide) rfl ?_
  refine x_iload1 39 dX9_rollGoes_38 rfl ?_
  refine x_bipush (nI 20) 41 dX9_rollGoes_39 rfl rfl ?_
  refine x_iadd 42 dX9_rollGoes_41 rfl ?_
  refine x_iald (Int32.toNatClampNeg (x1 + (nI 20))) 43 dX9_rollGoes_42 rfl (SH.fld hw (fun _ => s_x0) 0 (Nat.le_of_ble_eq_true rfl) rfl rfl) i1 rfl ?_
  refine x_iast (Int32.toNatClampNeg x1) 44 dX9_rollGoes_43 rfl (SH.fld hw (fun _ => s_x0) 0 (Nat.le_of_ble_eq_true rfl) rfl rfl) i2 rfl ?_
  refine x_iinc1 (x1 + (nI 1)) 47 dX9_rollGoes_44 rfl (by decide) rfl rfl ?_
  exact x_goto 13 dX9_rollGoes_47 (by decide) kt
set_option maxRecDepth 20000 in
theorem B9_rollGoes_50 {ω : Om} {h : AH} {Q : Option Value → AH → Prop} {u0 : Option Value} {u1 : Option Value} (hw : ω.2.2.2.1 = true) (hq : Q none h) : Ex ω M9_rollGoes 50 [u0, u1] [] h 0 0 Q := by
  refine x_dr0 ?_
  refine x_dr1 ?_
  exact x_vret dX9_rollGoes_50 rfl (Nat.zero_le _) (Nat.zero_le _) hq
set_option maxRecDepth 20000 in
theorem B9_palletAt_0 {ω : Om} {h : AH} {Q : Option Value → AH → Prop} {x0 : Nat} {x1 : Int32} {x2 : Int32} (hw : ω.2.2.2.1 = true) (s_x0 : gs h x0 = some (9, 17)) (i1 : vp_in (((nI 140) + ((nI 6) * x1)) + x2) 596) (hq : Q (some (.int (gi h (gr h x0 0) (Int32.toNatClampNeg (((nI 140) + ((nI 6) * x1)) + x2))))) h) : Ex ω M9_palletAt 0 [some (.ref x0), some (.int x1), some (.int x2)] [] h 0 0 Q := by
  refine x_aload0 1 dX9_palletAt_0 rfl ?_
  refine x_getR cf9 0 4 hw dX9_palletAt_1 rfl wd99 (fun _ => s_x0) (by decide) (by decide) rfl ?_
  refine x_sipush (nI 140) 7 dX9_palletAt_4 rfl rfl ?_
  refine x_bipush (nI 6) 9 dX9_palletAt_7 rfl rfl ?_
  refine x_iload1 10 dX9_palletAt_9 rfl ?_
  refine x_imul 11 dX9_palletAt_10 rfl ?_
  refine x_iadd 12 dX9_palletAt_11 rfl ?_
  refine x_iload2 13 dX9_palletAt_12 rfl ?_
  refine x_iadd 14 dX9_palletAt_13 rfl ?_
  refine x_iald (Int32.toNatClampNeg (((nI 140) + ((nI 6) * x1)) + x2)) 15 dX9_palletAt_14 rfl (SH.fld hw (fun _ => s_x0) 0 (Nat.le_of_ble_eq_true rfl) rfl rfl) i1 rfl ?_
  exact x_iret dX9_palletAt_15 rfl (Nat.zero_le _) (Nat.zero_le _) hq
set_option maxRecDepth 20000 in
theorem B9_addPallet_0 {ω : Om} {h : AH} {Q : Option Value → AH → Prop} {x0 : Nat} {x1 : Int32} {x2 : Int32} {x3 : Int32} {x4 : Int32} {x5 : Int32} {u6 : Option Value} (hw : ω.2.2.2.1 = true) (kk : Ex ω M9_in 0 [some (.long (Int32.toInt64 x1)), none, some (.long ((20 : Int64))), none, some (.long ((200 : Int64))), none] [] h 0 0 (fun v h' => Ex ω M9_addPallet 11 [some (.ref x0), some (.int x1), some (.int x2), some (.int x3), some (.int x4), some (.int x5), none] (v.toList ++ []) h' 0 0 Q)) : Ex ω M9_addPallet 0 [some (.ref x0), some (.int x1), some (.int x2), some (.int x3), some (.int x4), some (.int x5), u6] [] h 0 0 Q := by
  refine x_dr6 ?_
  refine x_iload1 1 dX9_addPallet_0 rfl ?_
  refine x_i2l 2 dX9_addPallet_1 rfl ?_
  refine x_ldc2 20 5 dX9_addPallet_2 rfl wd279 ?_
  refine x_ldc2 200 8 dX9_addPallet_5 rfl wd280 ?_
  exact x_callS 11 [.long (Int32.toInt64 x1), .long ((20 : Int64)), .long ((200 : Int64))] [] dX9_addPallet_8 rfl lk_9_in ⟨wd200, wd201⟩ ⟨by decide, by decide⟩ rfl rfl (Nat.le_of_ble_eq_true rfl) (Nat.le_of_ble_eq_true rfl) (by decide) (by decide) kk
set_option maxRecDepth 20000 in
theorem B9_addPallet_11 {ω : Om} {h : AH} {Q : Option Value → AH → Prop} {x0 : Nat} {x1 : Int32} {x2 : Int32} {x3 : Int32} {x4 : Int32} {x5 : Int32} {u6 : Option Value} {y0 : Int32} (hw : ω.2.2.2.1 = true) (kt : y0 = 0 → Ex ω M9_addPallet 68 [some (.ref x0), some (.int x1), some (.int x2), some (.int x3), some (.int x4), some (.int x5), none] [] h 0 0 Q) (kf : ¬ y0 = 0 → Ex ω M9_addPallet 14 [some (.ref x0), some (.int x1), some (.int x2), some (.int x3), some (.int x4), some (.int x5), none] [] h 0 0 Q) : Ex ω M9_addPallet 11 [some (.ref x0), some (.int x1), some (.int x2), some (.int x3), some (.int x4), some (.int x5), u6] [.int y0] h 0 0 Q := by
  refine x_dr6 ?_
  exact x_if_eq 14 68 dX9_addPallet_11 rfl (by decide) kt kf
set_option maxRecDepth 20000 in
theorem B9_addPallet_14 {ω : Om} {h : AH} {Q : Option Value → AH → Prop} {x0 : Nat} {x1 : Int32} {x2 : Int32} {x3 : Int32} {x4 : Int32} {x5 : Int32} {u6 : Option Value} (hw : ω.2.2.2.1 = true) (kk : Ex ω M9_in 0 [some (.long (Int32.toInt64 x2)), none, some (.long ((20 : Int64))), none, some (.long ((200 : Int64))), none] [] h 0 0 (fun v h' => Ex ω M9_addPallet 25 [some (.ref x0), some (.int x1), some (.int x2), some (.int x3), some (.int x4), some (.int x5), none] (v.toList ++ []) h' 0 0 Q)) : Ex ω M9_addPallet 14 [some (.ref x0), some (.int x1), some (.int x2), some (.int x3), some (.int x4), some (.int x5), u6] [] h 0 0 Q := by
  refine x_dr6 ?_
  refine x_iload2 15 dX9_addPallet_14 rfl ?_
  refine x_i2l 16 dX9_addPallet_15 rfl ?_
  refine x_ldc2 20 19 dX9_addPallet_16 rfl wd279 ?_
  refine x_ldc2 200 22 dX9_addPallet_19 rfl wd280 ?_
  exact x_callS 25 [.long (Int32.toInt64 x2), .long ((20 : Int64)), .long ((200 : Int64))] [] dX9_addPallet_22 rfl lk_9_in ⟨wd200, wd201⟩ ⟨by decide, by decide⟩ rfl rfl (Nat.le_of_ble_eq_true rfl) (Nat.le_of_ble_eq_true rfl) (by decide) (by decide) kk
set_option maxRecDepth 20000 in
theorem B9_addPallet_25 {ω : Om} {h : AH} {Q : Option Value → AH → Prop} {x0 : Nat} {x1 : Int32} {x2 : Int32} {x3 : Int32} {x4 : Int32} {x5 : Int32} {u6 : Option Value} {y0 : Int32} (hw : ω.2.2.2.1 = true) (kt : y0 = 0 → Ex ω M9_addPallet 68 [some (.ref x0), some (.int x1), some (.int x2), some (.int x3), some (.int x4), some (.int x5), none] [] h 0 0 Q) (kf : ¬ y0 = 0 → Ex ω M9_addPallet 28 [some (.ref x0), some (.int x1), some (.int x2), some (.int x3), some (.int x4), some (.int x5), none] [] h 0 0 Q) : Ex ω M9_addPallet 25 [some (.ref x0), some (.int x1), some (.int x2), some (.int x3), some (.int x4), some (.int x5), u6] [.int y0] h 0 0 Q := by
  refine x_dr6 ?_
  exact x_if_eq 28 68 dX9_addPallet_25 rfl (by decide) kt kf
set_option maxRecDepth 20000 in
theorem B9_addPallet_28 {ω : Om} {h : AH} {Q : Option Value → AH → Prop} {x0 : Nat} {x1 : Int32} {x2 : Int32} {x3 : Int32} {x4 : Int32} {x5 : Int32} {u6 : Option Value} (hw : ω.2.2.2.1 = true) (kk : Ex ω M9_in 0 [some (.long (Int32.toInt64 x3)), none, some (.long ((10 : Int64))), none, some (.long ((250 : Int64))), none] [] h 0 0 (fun v h' => Ex ω M9_addPallet 39 [some (.ref x0), some (.int x1), some (.int x2), some (.int x3), some (.int x4), some (.int x5), none] (v.toList ++ []) h' 0 0 Q)) : Ex ω M9_addPallet 28 [some (.ref x0), some (.int x1), some (.int x2), some (.int x3), some (.int x4), some (.int x5), u6] [] h 0 0 Q := by
  refine x_dr6 ?_
  refine x_iload3 29 dX9_addPallet_28 rfl ?_
  refine x_i2l 30 dX9_addPallet_29 rfl ?_
  refine x_ldc2 10 33 dX9_addPallet_30 rfl wd281 ?_
  refine x_ldc2 250 36 dX9_addPallet_33 rfl wd282 ?_
  exact x_callS 39 [.long (Int32.toInt64 x3), .long ((10 : Int64)), .long ((250 : Int64))] [] dX9_addPallet_36 rfl lk_9_in ⟨wd200, wd201⟩ ⟨by decide, by decide⟩ rfl rfl (Nat.le_of_ble_eq_true rfl) (Nat.le_of_ble_eq_true rfl) (by decide) (by decide) kk
set_option maxRecDepth 20000 in
theorem B9_addPallet_39 {ω : Om} {h : AH} {Q : Option Value → AH → Prop} {x0 : Nat} {x1 : Int32} {x2 : Int32} {x3 : Int32} {x4 : Int32} {x5 : Int32} {u6 : Option Value} {y0 : Int32} (hw : ω.2.2.2.1 = true) (kt : y0 = 0 → Ex ω M9_addPallet 68 [some (.ref x0), some (.int x1), some (.int x2), some (.int x3), some (.int x4), some (.int x5), none] [] h 0 0 Q) (kf : ¬ y0 = 0 → Ex ω M9_addPallet 42 [some (.ref x0), some (.int x1), some (.int x2), some (.int x3), some (.int x4), some (.int x5), none] [] h 0 0 Q) : Ex ω M9_addPallet 39 [some (.ref x0), some (.int x1), some (.int x2), some (.int x3), some (.int x4), some (.int x5), u6] [.int y0] h 0 0 Q := by
  refine x_dr6 ?_
  exact x_if_eq 42 68 dX9_addPallet_39 rfl (by decide) kt kf
set_option maxRecDepth 20000 in
theorem B9_addPallet_42 {ω : Om} {h : AH} {Q : Option Value → AH → Prop} {x0 : Nat} {x1 : Int32} {x2 : Int32} {x3 : Int32} {x4 : Int32} {x5 : Int32} {u6 : Option Value} (hw : ω.2.2.2.1 = true) (kk : Ex ω M9_in 0 [some (.long (Int32.toInt64 x4)), none, some (.long ((0 : Int64))), none, some (.long ((5000 : Int64))), none] [] h 0 0 (fun v h' => Ex ω M9_addPallet 52 [some (.ref x0), some (.int x1), some (.int x2), some (.int x3), some (.int x4), some (.int x5), none] (v.toList ++ []) h' 0 0 Q)) : Ex ω M9_addPallet 42 [some (.ref x0), some (.int x1), some (.int x2), some (.int x3), some (.int x4), some (.int x5), u6] [] h 0 0 Q := by
  refine x_dr6 ?_
  refine x_iload4 44 dX9_addPallet_42 rfl ?_
  refine x_i2l 45 dX9_addPallet_44 rfl ?_
  refine x_lconst 0 46 dX9_addPallet_45 rfl rfl ?_
  refine x_ldc2 5000 49 dX9_addPallet_46 rfl wd283 ?_
  exact x_callS 52 [.long (Int32.toInt64 x4), .long ((0 : Int64)), .long ((5000 : Int64))] [] dX9_addPallet_49 rfl lk_9_in ⟨wd200, wd201⟩ ⟨by decide, by decide⟩ rfl rfl (Nat.le_of_ble_eq_true rfl) (Nat.le_of_ble_eq_true rfl) (by decide) (by decide) kk
set_option maxRecDepth 20000 in
theorem B9_addPallet_52 {ω : Om} {h : AH} {Q : Option Value → AH → Prop} {x0 : Nat} {x1 : Int32} {x2 : Int32} {x3 : Int32} {x4 : Int32} {x5 : Int32} {u6 : Option Value} {y0 : Int32} (hw : ω.2.2.2.1 = true) (kt : y0 = 0 → Ex ω M9_addPallet 68 [some (.ref x0), some (.int x1), some (.int x2), some (.int x3), some (.int x4), some (.int x5), none] [] h 0 0 Q) (kf : ¬ y0 = 0 → Ex ω M9_addPallet 55 [some (.ref x0), some (.int x1), some (.int x2), some (.int x3), some (.int x4), some (.int x5), none] [] h 0 0 Q) : Ex ω M9_addPallet 52 [some (.ref x0), some (.int x1), some (.int x2), some (.int x3), some (.int x4), some (.int x5), u6] [.int y0] h 0 0 Q := by
  refine x_dr6 ?_
  exact x_if_eq 55 68 dX9_addPallet_52 rfl (by decide) kt kf
set_option maxRecDepth 20000 in
theorem B9_addPallet_55 {ω : Om} {h : AH} {Q : Option Value → AH → Prop} {x0 : Nat} {x1 : Int32} {x2 : Int32} {x3 : Int32} {x4 : Int32} {x5 : Int32} {u6 : Option Value} (hw : ω.2.2.2.1 = true) (kk : Ex ω M9_in 0 [some (.long (Int32.toInt64 x5)), none, some (.long ((0 : Int64))), none, some (.long ((9999 : Int64))), none] [] h 0 0 (fun v h' => Ex ω M9_addPallet 65 [some (.ref x0), some (.int x1), some (.int x2), some (.int x3), some (.int x4), some (.int x5), none] (v.toList ++ []) h' 0 0 Q)) : Ex ω M9_addPallet 55 [some (.ref x0), some (.int x1), some (.int x2), some (.int x3), some (.int x4), some (.int x5), u6] [] h 0 0 Q := by
  refine x_dr6 ?_
  refine x_iload5 57 dX9_addPallet_55 rfl ?_
  refine x_i2l 58 dX9_addPallet_57 rfl ?_
  refine x_lconst 0 59 dX9_addPallet_58 rfl rfl ?_
  refine x_ldc2 9999 62 dX9_addPallet_59 rfl wd284 ?_
  exact x_callS 65 [.long (Int32.toInt64 x5), .long ((0 : Int64)), .long ((9999 : Int64))] [] dX9_addPallet_62 rfl lk_9_in ⟨wd200, wd201⟩ ⟨by decide, by decide⟩ rfl rfl (Nat.le_of_ble_eq_true rfl) (Nat.le_of_ble_eq_true rfl) (by decide) (by decide) kk
set_option maxRecDepth 20000 in
theorem B9_addPallet_65 {ω : Om} {h : AH} {Q : Option Value → AH → Prop} {x0 : Nat} {x1 : Int32} {x2 : Int32} {x3 : Int32} {x4 : Int32} {x5 : Int32} {u6 : Option Value} {y0 : Int32} (hw : ω.2.2.2.1 = true) (kt : ¬ y0 = 0 → Ex ω M9_addPallet 70 [some (.ref x0), some (.int x1), some (.int x2), some (.int x3), some (.int x4), some (.int x5), none] [] h 0 0 Q) (kf : y0 = 0 → Ex ω M9_addPallet 68 [some (.ref x0), some (.int x1), some (.int x2), some (.int x3), some (.int x4), some (.int x5), none] [] h 0 0 Q) : Ex ω M9_addPallet 65 [some (.ref x0), some (.int x1), some (.int x2), some (.int x3), some (.int x4), some (.int x5), u6] [.int y0] h 0 0 Q := by
  refine x_dr6 ?_
  exact x_if_ne 68 70 dX9_addPallet_65 rfl (by decide) kt kf
set_option maxRecDepth 20000 in
theorem B9_addPallet_68 {ω : Om} {h : AH} {Q : Option Value → AH → Prop} {u0 : Option Value} {u1 : Option Value} {u2 : Option Value} {u3 : Option Value} {u4 : Option Value} {u5 : Option Value} {u6 : Option Value} (hw : ω.2.2.2.1 = true) (hq : Q (some (.int ((-1)))) h) : Ex ω M9_addPallet 68 [u0, u1, u2, u3, u4, u5, u6] [] h 0 0 Q := by
  refine x_dr0 ?_
  refine x_dr1 ?_
  refine x_dr2 ?_
  refine x_dr3 ?_
  refine x_dr4 ?_
  refine x_dr5 ?_
  refine x_dr6 ?_
  refine x_iconst ((-1)) 69 dX9_addPallet_68 rfl rfl ?_
  exact x_iret dX9_addPallet_69 rfl (Nat.zero_le _) (Nat.zero_le _) hq
set_option maxRecDepth 20000 in
theorem B9_addPallet_70 {ω : Om} {h : AH} {Q : Option Value → AH → Prop} {x0 : Nat} {x1 : Int32} {x2 : Int32} {x3 : Int32} {x4 : Int32} {x5 : Int32} {u6 : Option Value} (hw : ω.2.2.2.1 = true) (s_x0 : gs h x0 = some (9, 17)) (kt : ¬ (gi h (gr h x0 0) 1) = (nI 8) → Ex ω M9_addPallet 84 [some (.ref x0), some (.int x1), some (.int x2), some (.int x3), some (.int x4), some (.int x5), none] [] h 0 0 Q) (kf : (gi h (gr h x0 0) 1) = (nI 8) → Ex ω M9_addPallet 81 [some (.ref x0), some (.int x1), some (.int x2), some (.int x3), some (.int x4), some (.int x5), none] [] h 0 0 Q) : Ex ω M9_addPallet 70 [some (.ref x0), some (.int x1), some (.int x2), some (.int x3), some (.int x4), some (.int x5), u6] [] h 0 0 Q := by
  refine x_dr6 ?_
  refine x_aload0 71 dX9_addPallet_70 rfl ?_
  refine x_getR cf9 0 74 hw dX9_addPallet_71 rfl wd99 (fun _ => s_x0) (by decide) (by decide) rfl ?_
  refine x_iconst (nI 1) 75 dX9_addPallet_74 rfl rfl ?_
  refine x_iald 1 76 dX9_addPallet_75 rfl (SH.fld hw (fun _ => s_x0) 0 (Nat.le_of_ble_eq_true rfl) rfl rfl) (vp_c (by decide)) rfl ?_
  refine x_bipush (nI 8) 78 dX9_addPallet_76 rfl rfl ?_
  exact x_icmp_ne 81 84 dX9_addPallet_78 rfl (by decide) kt kf
set_option maxRecDepth 20000 in
theorem B9_addPallet_81 {ω : Om} {h : AH} {Q : Option Value → AH → Prop} {u0 : Option Value} {u1 : Option Value} {u2 : Option Value} {u3 : Option Value} {u4 : Option Value} {u5 : Option Value} {u6 : Option Value} (hw : ω.2.2.2.1 = true) (hq : Q (some (.int ((-3)))) h) : Ex ω M9_addPallet 81 [u0, u1, u2, u3, u4, u5, u6] [] h 0 0 Q := by
  refine x_dr0 ?_
  refine x_dr1 ?_
  refine x_dr2 ?_
  refine x_dr3 ?_
  refine x_dr4 ?_
  refine x_dr5 ?_
  refine x_dr6 ?_
  refine x_bipush ((-3)) 83 dX9_addPallet_81 rfl rfl ?_
  exact x_iret dX9_addPallet_83 rfl (Nat.zero_le _) (Nat.zero_le _) hq
set_option maxRecDepth 20000 in
theorem B9_addPallet_84 {ω : Om} {h : AH} {Q : Option Value → AH → Prop} {x0 : Nat} {x1 : Int32} {x2 : Int32} {x3 : Int32} {x4 : Int32} {x5 : Int32} {u6 : Option Value} (hw : ω.2.2.2.1 = true) (s_x0 : gs h x0 = some (9, 17)) (kk : Ex ω M9_change 0 [some (.ref x0), none] [] h 0 0 (fun v h' => Ex ω M9_addPallet 88 [some (.ref x0), some (.int x1), some (.int x2), some (.int x3), some (.int x4), some (.int x5), none] (v.toList ++ []) h' 0 0 Q)) : Ex ω M9_addPallet 84 [some (.ref x0), some (.int x1), some (.int x2), some (.int x3), some (.int x4), some (.int x5), u6] [] h 0 0 Q := by
  refine x_dr6 ?_
  refine x_aload0 85 dX9_addPallet_84 rfl ?_
  exact x_callV 88 x0 [] [] dX9_addPallet_85 rfl lk_9_change ⟨wd203, wd204, wd205⟩ ⟨by decide, by decide⟩ (recvO cf9 (fun _ => s_x0)) rfl rfl (Nat.le_of_ble_eq_true rfl) (Nat.le_of_ble_eq_true rfl) (by decide) (by decide) kk
set_option maxRecDepth 20000 in
theorem B9_addPallet_88 {ω : Om} {h : AH} {Q : Option Value → AH → Prop} {x0 : Nat} {x1 : Int32} {x2 : Int32} {x3 : Int32} {x4 : Int32} {x5 : Int32} {u6 : Option Value} (hw : ω.2.2.2.1 = true) (s_x0 : gs h x0 = some (9, 17)) (i1 : vp_in ((nI 140) + ((nI 6) * (gi h (gr h x0 0) 1))) 596) (i2 : vp_in (((nI 140) + ((nI 6) * (gi h (gr h x0 0) 1))) + (nI 1)) 596) (kf : Ex ω M9_addPallet 126 [some (.ref x0), some (.int x1), some (.int x2), some (.int x3), some (.int x4), some (.int x5), some (.int ((nI 140) + ((nI 6) * (gi h (gr h x0 0) 1))))] [] (si (si h (gr h x0 0) (Int32.toNatClampNeg ((nI 140) + ((nI 6) * (gi h (gr h x0 0) 1)))) (gi h (gr h x0 0) 2)) (gr h x0 0) (Int32.toNatClampNeg (((nI 140) + ((nI 6) * (gi h (gr h x0 0) 1))) + (nI 1))) x1) 0 0 Q) : Ex ω M9_addPallet 88 [some (.ref x0), some (.int x1), some (.int x2), some (.int x3), some (.int x4), some (.int x5), u6] [] h 0 0 Q := by
  refine x_dr6 ?_
  refine x_sipush (nI 140) 91 dX9_addPallet_88 rfl rfl ?_
  refine x_bipush (nI 6) 93 dX9_addPallet_91 rfl rfl ?_
  refine x_aload0 94 dX9_addPallet_93 rfl ?_
  refine x_getR cf9 0 97 hw dX9_addPallet_94 rfl wd99 (fun _ => s_x0) (by decide) (by decide) rfl ?_
  refine x_iconst (nI 1) 98 dX9_addPallet_97 rfl rfl ?_
  refine x_iald 1 99 dX9_addPallet_98 rfl (SH.fld hw (fun _ => s_x0) 0 (Nat.le_of_ble_eq_true rfl) rfl rfl) (vp_c (by decide)) rfl ?_
  refine x_imul 100 dX9_addPallet_99 rfl ?_
  refine x_iadd 101 dX9_addPallet_100 rfl ?_
  refine x_istore6 103 dX9_addPallet_101 rfl (by decide) rfl ?_
  refine x_aload0 104 dX9_addPallet_103 rfl ?_
  refine x_getR cf9 0 107 hw dX9_addPallet_104 rfl wd99 (fun _ => s_x0) (by decide) (by decide) rfl ?_
  refine x_iload6 109 dX9_addPallet_107 rfl ?_
  refine x_aload0 110 dX9_addPallet_109 rfl ?_
  refine x_getR cf9 0 113 hw dX9_addPallet_110 rfl wd99 (fun _ => s_x0) (by decide) (by decide) rfl ?_
  refine x_iconst (nI 2) 114 dX9_addPallet_113 rfl rfl ?_
  refine x_iald 2 115 dX9_addPallet_114 rfl (SH.fld hw (fun _ => s_x0) 0 (Nat.le_of_ble_eq_true rfl) rfl rfl) (vp_c (by decide)) rfl ?_
  refine x_iast (Int32.toNatClampNeg ((nI 140) + ((nI 6) * (gi h (gr h x0 0) 1)))) 116 dX9_addPallet_115 rfl (SH.fld hw (fun _ => s_x0) 0 (Nat.le_of_ble_eq_true rfl) rfl rfl) i1 rfl ?_
  refine x_aload0 117 dX9_addPallet_116 rfl ?_
  refine x_getR cf9 0 120 hw dX9_addPallet_117 rfl wd99 (fun _ => s_x0) (by decide) (by decide) rfl ?_
  refine x_iload6 122 dX9_addPallet_120 rfl ?_
  refine x_iconst (nI 1) 123 dX9_addPallet_122 rfl rfl ?_
  refine x_iadd 124 dX9_addPallet_123 rfl ?_
  refine x_iload1 125 dX9_addPallet_124 rfl ?_
  refine x_iast (Int32.toNatClampNeg (((nI 140) + ((nI 6) * (gi h (gr h x0 0) 1))) + (nI 1))) 126 dX9_addPallet_125 rfl (SH.fld hw (fun _ => s_x0) 0 (Nat.le_of_ble_eq_true rfl) rfl rfl) i2 rfl ?_
  exact kf
set_option maxRecDepth 20000 in
theorem B9_addPallet_126 {ω : Om} {h : AH} {Q : Option Value → AH → Prop} {x0 : Nat} {u1 : Option Value} {x2 : Int32} {x3 : Int32} {x4 : Int32} {x5 : Int32} {x6 : Int32} (hw : ω.2.2.2.1 = true) (s_x0 : gs h x0 = some (9, 17)) (i1 : vp_in (x6 + (nI 2)) 596) (i2 : vp_in (x6 + (nI 3)) 596) (i3 : vp_in (x6 + (nI 4)) 596) (kf : Ex ω M9_addPallet 157 [some (.ref x0), none, some (.int x2), some (.int x3), some (.int x4), some (.int x5), some (.int x6)] [] (si (si (si h (gr h x0 0) (Int32.toNatClampNeg (x6 + (nI 2))) x2) (gr h x0 0) (Int32.toNatClampNeg (x6 + (nI 3))) x3) (gr h x0 0) (Int32.toNatClampNeg (x6 + (nI 4))) x4) 0 0 Q) : Ex ω M9_addPallet 126 [some (.ref x0), u1, some (.int x2), some (.int x3), some (.int x4), some (.int x5), some (.int x6)] [] h 0 0 Q := by
  refine x_dr1 ?_
  refine x_aload0 127 dX9_addPallet_126 rfl ?_
  refine x_getR cf9 0 130 hw dX9_addPallet_127 rfl wd99 (fun _ => s_x0) (by decide) (by decide) rfl ?_
  refine x_iload6 132 dX9_addPallet_130 rfl ?_
  refine x_iconst (nI 2) 133 dX9_addPallet_132 rfl rfl ?_
  refine x_iadd 134 dX9_addPallet_133 rfl ?_
  refine x_iload2 135 dX9_addPallet_134 rfl ?_
  refine x_iast (Int32.toNatClampNeg (x6 + (nI 2))) 136 dX9_addPallet_135 rfl (SH.fld hw (fun _ => s_x0) 0 (Nat.le_of_ble_eq_true rfl) rfl rfl) i1 rfl ?_
  refine x_aload0 137 dX9_addPallet_136 rfl ?_
  refine x_getR cf9 0 140 hw dX9_addPallet_137 rfl wd99 (fun _ => s_x0) (by decide) (by decide) rfl ?_
  refine x_iload6 142 dX9_addPallet_140 rfl ?_
  refine x_iconst (nI 3) 143 dX9_addPallet_142 rfl rfl ?_
  refine x_iadd 144 dX9_addPallet_143 rfl ?_
  refine x_iload3 145 dX9_addPallet_144 rfl ?_
  refine x_iast (Int32.toNatClampNeg (x6 + (nI 3))) 146 dX9_addPallet_145 rfl (SH.fld hw (fun _ => s_x0) 0 (Nat.le_of_ble_eq_true rfl) rfl rfl) i2 rfl ?_
  refine x_aload0 147 dX9_addPallet_146 rfl ?_
  refine x_getR cf9 0 150 hw dX9_addPallet_147 rfl wd99 (fun _ => s_x0) (by decide) (by decide) rfl ?_
  refine x_iload6 152 dX9_addPallet_150 rfl ?_
  refine x_iconst (nI 4) 153 dX9_addPallet_152 rfl rfl ?_
  refine x_iadd 154 dX9_addPallet_153 rfl ?_
  refine x_iload4 156 dX9_addPallet_154 rfl ?_
  refine x_iast (Int32.toNatClampNeg (x6 + (nI 4))) 157 dX9_addPallet_156 rfl (SH.fld hw (fun _ => s_x0) 0 (Nat.le_of_ble_eq_true rfl) rfl rfl) i3 rfl ?_
  exact kf
set_option maxRecDepth 20000 in
theorem B9_addPallet_157 {ω : Om} {h : AH} {Q : Option Value → AH → Prop} {x0 : Nat} {u1 : Option Value} {u2 : Option Value} {u3 : Option Value} {u4 : Option Value} {x5 : Int32} {x6 : Int32} (hw : ω.2.2.2.1 = true) (s_x0 : gs h x0 = some (9, 17)) (i1 : vp_in (x6 + (nI 5)) 596) (kf : Ex ω M9_addPallet 178 [some (.ref x0), none, none, none, none, some (.int x5), some (.int x6)] [] (si (si h (gr h x0 0) (Int32.toNatClampNeg (x6 + (nI 5))) x5) (gr h x0 0) 2 ((gi (si h (gr h x0 0) (Int32.toNatClampNeg (x6 + (nI 5))) x5) (gr h x0 0) 2) + (nI 1))) 0 0 Q) : Ex ω M9_addPallet 157 [some (.ref x0), u1, u2, u3, u4, some (.int x5), some (.int x6)] [] h 0 0 Q := by
  refine x_dr1 ?_
  refine x_dr2 ?_
  refine x_dr3 ?_
  refine x_dr4 ?_
  refine x_aload0 158 dX9_addPallet_157 rfl ?_
  refine x_getR cf9 0 161 hw dX9_addPallet_158 rfl wd99 (fun _ => s_x0) (by decide) (by decide) rfl ?_
  refine x_iload6 163 dX9_addPallet_161 rfl ?_
  refine x_iconst (nI 5) 164 dX9_addPallet_163 rfl rfl ?_
  refine x_iadd 165 dX9_addPallet_164 rfl ?_
  refine x_iload5 167 dX9_addPallet_165 rfl ?_
  refine x_iast (Int32.toNatClampNeg (x6 + (nI 5))) 168 dX9_addPallet_167 rfl (SH.fld hw (fun _ => s_x0) 0 (Nat.le_of_ble_eq_true rfl) rfl rfl) i1 rfl ?_
  refine x_aload0 169 dX9_addPallet_168 rfl ?_
  refine x_getR cf9 0 172 hw dX9_addPallet_169 rfl wd99 (fun _ => s_x0) (by decide) (by decide) rfl ?_
  refine x_iconst (nI 2) 173 dX9_addPallet_172 rfl rfl ?_
  refine x_dup2 174 dX9_addPallet_173 rfl rfl rfl ?_
  refine x_iald 2 175 dX9_addPallet_174 rfl (SH.fld hw (fun _ => s_x0) 0 (Nat.le_of_ble_eq_true rfl) rfl rfl) (vp_c (by decide)) rfl ?_
  refine x_iconst (nI 1) 176 dX9_addPallet_175 rfl rfl ?_
  refine x_iadd 177 dX9_addPallet_176 rfl ?_
  refine x_iast 2 178 dX9_addPallet_177 rfl (SH.fld hw (fun _ => s_x0) 0 (Nat.le_of_ble_eq_true rfl) rfl rfl) (vp_c (by decide)) rfl ?_
  exact kf
set_option maxRecDepth 20000 in
theorem B9_addPallet_178 {ω : Om} {h : AH} {Q : Option Value → AH → Prop} {x0 : Nat} {u1 : Option Value} {u2 : Option Value} {u3 : Option Value} {u4 : Option Value} {u5 : Option Value} {u6 : Option Value} (hw : ω.2.2.2.1 = true) (s_x0 : gs h x0 = some (9, 17)) (hq : Q (some (.int ((gi (si h (gr h x0 0) 1 ((gi h (gr h x0 0) 1) + (nI 1))) (gr h x0 0) 2) - (nI 1)))) (si h (gr h x0 0) 1 ((gi h (gr h x0 0) 1) + (nI 1)))) : Ex ω M9_addPallet 178 [some (.ref x0), u1, u2, u3, u4, u5, u6] [] h 0 0 Q := by
  refine x_dr1 ?_
  refine x_dr2 ?_
  refine x_dr3 ?_
  refine x_dr4 ?_
  refine x_dr5 ?_
  refine x_dr6 ?_
  refine x_aload0 179 dX9_addPallet_178 rfl ?_
  refine x_getR cf9 0 182 hw dX9_addPallet_179 rfl wd99 (fun _ => s_x0) (by decide) (by decide) rfl ?_
  refine x_iconst (nI 1) 183 dX9_addPallet_182 rfl rfl ?_
  refine x_dup2 184 dX9_addPallet_183 rfl rfl rfl ?_
  refine x_iald 1 185 dX9_addPallet_184 rfl (SH.fld hw (fun _ => s_x0) 0 (Nat.le_of_ble_eq_true rfl) rfl rfl) (vp_c (by decide)) rfl ?_
  refine x_iconst (nI 1) 186 dX9_addPallet_185 rfl rfl ?_
  refine x_iadd 187 dX9_addPallet_186 rfl ?_
  refine x_iast 1 188 dX9_addPallet_187 rfl (SH.fld hw (fun _ => s_x0) 0 (Nat.le_of_ble_eq_true rfl) rfl rfl) (vp_c (by decide)) rfl ?_
  refine x_aload0 189 dX9_addPallet_188 rfl ?_
  refine x_getR cf9 0 192 hw dX9_addPallet_189 rfl wd99 (fun _ => s_x0) (by decide) (by decide) rfl ?_
  refine x_iconst (nI 2) 193 dX9_addPallet_192 rfl rfl ?_
  refine x_iald 2 194 dX9_addPallet_193 rfl (SH.fld hw (fun _ => s_x0) 0 (Nat.le_of_ble_eq_true rfl) rfl rfl) (vp_c (by decide)) rfl ?_
  refine x_iconst (nI 1) 195 dX9_addPallet_194 rfl rfl ?_
  refine x_isub 196 dX9_addPallet_195 rfl ?_
  exact x_iret dX9_addPallet_196 rfl (Nat.zero_le _) (Nat.zero_le _) hq
set_option maxRecDepth 20000 in
theorem B9_palletGoes_0 {ω : Om} {h : AH} {Q : Option Value → AH → Prop} {x0 : Nat} {x1 : Int32} {u2 : Option Value} (hw : ω.2.2.2.1 = true) (s_x0 : gs h x0 = some (9, 17)) (kf : Ex ω M9_palletGoes 19 [some (.ref x0), some (.int x1), some (.int ((nI 140) + ((nI 6) * x1)))] [] (si h (gr h x0 0) 1 ((gi h (gr h x0 0) 1) - (nI 1))) 0 0 Q) : Ex ω M9_palletGoes 0 [some (.ref x0), some (.int x1), u2] [] h 0 0 Q := by
  refine x_dr2 ?_
  refine x_aload0 1 dX9_palletGoes_0 rfl ?_
  refine x_getR cf9 0 4 hw dX9_palletGoes_1 rfl wd99 (fun _ => s_x0) (by decide) (by decide) rfl ?_
  refine x_iconst (nI 1) 5 dX9_palletGoes_4 rfl rfl ?_
  refine x_dup2 6 dX9_palletGoes_5 rfl rfl rfl ?_
  refine x_iald 1 7 dX9_palletGoes_6 rfl (SH.fld hw (fun _ => s_x0) 0 (Nat.le_of_ble_eq_true rfl) rfl rfl) (vp_c (by decide)) rfl ?_
  refine x_iconst (nI 1) 8 dX9_palletGoes_7 rfl rfl ?_
  refine x_isub 9 dX9_palletGoes_8 rfl ?_
  refine x_iast 1 10 dX9_palletGoes_9 rfl (SH.fld hw (fun _ => s_x0) 0 (Nat.le_of_ble_eq_true rfl) rfl rfl) (vp_c (by decide)) rfl ?_
  refine x_sipush (nI 140) 13 dX9_palletGoes_10 rfl rfl ?_
  refine x_bipush (nI 6) 15 dX9_palletGoes_13 rfl rfl ?_
  refine x_iload1 16 dX9_palletGoes_15 rfl ?_
  refine x_imul 17 dX9_palletGoes_16 rfl ?_
  refine x_iadd 18 dX9_palletGoes_17 rfl ?_
  refine x_istore2 19 dX9_palletGoes_18 rfl (by decide) rfl ?_
  exact kf
set_option maxRecDepth 20000 in
theorem B9_palletGoes_19 {ω : Om} {h : AH} {Q : Option Value → AH → Prop} {x0 : Nat} {u1 : Option Value} {x2 : Int32} (hw : ω.2.2.2.1 = true) (s_x0 : gs h x0 = some (9, 17)) (kt : ((nI 140) + ((nI 6) * (gi h (gr h x0 0) 1))) ≤ x2 → Ex ω M9_palletGoes 57 [some (.ref x0), none, some (.int x2)] [] h 0 0 Q) (kf : ¬ ((nI 140) + ((nI 6) * (gi h (gr h x0 0) 1))) ≤ x2 → Ex ω M9_palletGoes 36 [some (.ref x0), none, some (.int x2)] [] h 0 0 Q) : Ex ω M9_palletGoes 19 [some (.ref x0), u1, some (.int x2)] [] h 0 0 Q := by
  refine x_dr1 ?_
  refine x_iload2 20 dX9_palletGoes_19 rfl ?_
  refine x_sipush (nI 140) 23 dX9_palletGoes_20 rfl rfl ?_
  refine x_bipush (nI 6) 25 dX9_palletGoes_23 rfl rfl ?_
  refine x_aload0 26 dX9_palletGoes_25 rfl ?_
  refine x_getR cf9 0 29 hw dX9_palletGoes_26 rfl wd99 (fun _ => s_x0) (by decide) (by decide) rfl ?_
  refine x_iconst (nI 1) 30 dX9_palletGoes_29 rfl rfl ?_
  refine x_iald 1 31 dX9_palletGoes_30 rfl (SH.fld hw (fun _ => s_x0) 0 (Nat.le_of_ble_eq_true rfl) rfl rfl) (vp_c (by decide)) rfl ?_
  refine x_imul 32 dX9_palletGoes_31 rfl ?_
  refine x_iadd 33 dX9_palletGoes_32 rfl ?_
  exact x_icmp_ge 36 57 dX9_palletGoes_33 rfl (by decide) kt kf
set_option maxRecDepth 20000 in
theorem B9_palletGoes_36 {ω : Om} {h : AH} {Q : Option Value → AH → Prop} {x0 : Nat} {u1 : Option Value} {x2 : Int32} (hw : ω.2.2.2.1 = true) (s_x0 : gs h x0 = some (9, 17)) (i1 : vp_in (x2 + (nI 6)) 596) (i2 : vp_in x2 596) (kt : Ex ω M9_palletGoes 19 [some (.ref x0), none, some (.int (x2 + (nI 1)))] [] (si h (gr h x0 0) (Int32.toNatClampNeg x2) (gi h (gr h x0 0) (Int32.toNatClampNeg (x2 + (nI 6))))) 0 0 Q) : Ex ω M9_palletGoes 36 [some (.ref x0), u1, some (.int x2)] [] h 0 0 Q := by
  refine x_dr1 ?_
  refine x_aload0 37 dX9_palletGoes_36 rfl ?_
  refine x_getR cf9 0 40 hw dX9_palletGoes_37 rfl wd99 (fun _ => s_x0) (by decide) (by decide) rfl ?_
  refine x_iload2 41 dX9_palletGoes_40 rfl ?_
  refine x_aload0 42 dX9_palletGoes_41 rfl ?_
  refine x_getR cf9 0 45 hw dX9_palletGoes_42 rfl wd99 (fun _ => s_x0) (by decide) (by decide) rfl ?_
  refine x_iload2 46 dX9_palletGoes_45 rfl ?_
  refine x_bipush (nI 6) 48 dX9_palletGoes_46 rfl rfl ?_
  refine x_iadd 49 dX9_palletGoes_48 rfl ?_
  refine x_iald (Int32.toNatClampNeg (x2 + (nI 6))) 50 dX9_palletGoes_49 rfl (SH.fld hw (fun _ => s_x0) 0 (Nat.le_of_ble_eq_true rfl) rfl rfl) i1 rfl ?_
  refine x_iast (Int32.toNatClampNeg x2) 51 dX9_palletGoes_50 rfl (SH.fld hw (fun _ => s_x0) 0 (Nat.le_of_ble_eq_true rfl) rfl rfl) i2 rfl ?_
  refine x_iinc2 (x2 + (nI 1)) 54 dX9_palletGoes_51 rfl (by decide) rfl rfl ?_
  exact x_goto 19 dX9_palletGoes_54 (by decide) kt
set_option maxRecDepth 20000 in
theorem B9_palletGoes_57 {ω : Om} {h : AH} {Q : Option Value → AH → Prop} {u0 : Option Value} {u1 : Option Value} {u2 : Option Value} (hw : ω.2.2.2.1 = true) (hq : Q none h) : Ex ω M9_palletGoes 57 [u0, u1, u2] [] h 0 0 Q := by
  refine x_dr0 ?_
  refine x_dr1 ?_
  refine x_dr2 ?_
  exact x_vret dX9_palletGoes_57 rfl (Nat.zero_le _) (Nat.zero_le _) hq
set_option maxRecDepth 20000 in
theorem B9_drop_0 {ω : Om} {h : AH} {Q : Option Value → AH → Prop} {x0 : Nat} {x1 : Int32} {u2 : Option Value} (hw : ω.2.2.2.1 = true) (kt : 0 ≤ x1 → Ex ω M9_drop 6 [some (.ref x0), some (.int x1), none] [] h 0 0 Q) (kf : ¬ 0 ≤ x1 → Ex ω M9_drop 4 [some (.ref x0), some (.int x1), none] [] h 0 0 Q) : Ex ω M9_drop 0 [some (.ref x0), some (.int x1), u2] [] h 0 0 Q := by
  refine x_dr2 ?_
  refine x_iload1 1 dX9_drop_0 rfl ?_
  exact x_if_ge 4 6 dX9_drop_1 rfl (by decide) kt kf
set_option maxRecDepth 20000 in
theorem B9_drop_4 {ω : Om} {h : AH} {Q : Option Value → AH → Prop} {u0 : Option Value} {u1 : Option Value} {u2 : Option Value} (hw : ω.2.2.2.1 = true) (hq : Q (some (.int ((-1)))) h) : Ex ω M9_drop 4 [u0, u1, u2] [] h 0 0 Q := by
  refine x_dr0 ?_
  refine x_dr1 ?_
  refine x_dr2 ?_
  refine x_iconst ((-1)) 5 dX9_drop_4 rfl rfl ?_
  exact x_iret dX9_drop_5 rfl (Nat.zero_le _) (Nat.zero_le _) hq
set_option maxRecDepth 20000 in
theorem B9_drop_6 {ω : Om} {h : AH} {Q : Option Value → AH → Prop} {x0 : Nat} {x1 : Int32} {u2 : Option Value} (hw : ω.2.2.2.1 = true) (kf : Ex ω M9_drop 8 [some (.ref x0), some (.int x1), some (.int (nI 0))] [] h 0 0 Q) : Ex ω M9_drop 6 [some (.ref x0), some (.int x1), u2] [] h 0 0 Q := by
  refine x_dr2 ?_
  refine x_iconst (nI 0) 7 dX9_drop_6 rfl rfl ?_
  refine x_istore2 8 dX9_drop_7 rfl (by decide) rfl ?_
  exact kf
set_option maxRecDepth 20000 in
theorem B9_drop_8 {ω : Om} {h : AH} {Q : Option Value → AH → Prop} {x0 : Nat} {x1 : Int32} {x2 : Int32} (hw : ω.2.2.2.1 = true) (s_x0 : gs h x0 = some (9, 17)) (kt : (gi h (gr h x0 0) 1) ≤ x2 → Ex ω M9_drop 50 [some (.ref x0), some (.int x1), some (.int x2)] [] h 0 0 Q) (kf : ¬ (gi h (gr h x0 0) 1) ≤ x2 → Ex ω M9_drop 18 [some (.ref x0), some (.int x1), some (.int x2)] [] h 0 0 Q) : Ex ω M9_drop 8 [some (.ref x0), some (.int x1), some (.int x2)] [] h 0 0 Q := by
  refine x_iload2 9 dX9_drop_8 rfl ?_
  refine x_aload0 10 dX9_drop_9 rfl ?_
  refine x_getR cf9 0 13 hw dX9_drop_10 rfl wd99 (fun _ => s_x0) (by decide) (by decide) rfl ?_
  refine x_iconst (nI 1) 14 dX9_drop_13 rfl rfl ?_
  refine x_iald 1 15 dX9_drop_14 rfl (SH.fld hw (fun _ => s_x0) 0 (Nat.le_of_ble_eq_true rfl) rfl rfl) (vp_c (by decide)) rfl ?_
  exact x_icmp_ge 18 50 dX9_drop_15 rfl (by decide) kt kf
set_option maxRecDepth 20000 in
theorem B9_drop_18 {ω : Om} {h : AH} {Q : Option Value → AH → Prop} {x0 : Nat} {x1 : Int32} {x2 : Int32} (hw : ω.2.2.2.1 = true) (s_x0 : gs h x0 = some (9, 17)) (kk : Ex ω M9_palletAt 0 [some (.ref x0), some (.int x2), some (.int (nI 0))] [] h 0 0 (fun v h' => Ex ω M9_drop 24 [some (.ref x0), some (.int x1), some (.int x2)] (v.toList ++ []) h' 0 0 Q)) : Ex ω M9_drop 18 [some (.ref x0), some (.int x1), some (.int x2)] [] h 0 0 Q := by
  refine x_aload0 19 dX9_drop_18 rfl ?_
  refine x_iload2 20 dX9_drop_19 rfl ?_
  refine x_iconst (nI 0) 21 dX9_drop_20 rfl rfl ?_
  exact x_callV 24 x0 [.int x2, .int (nI 0)] [] dX9_drop_21 rfl lk_9_palletAt ⟨wd301, wd302, wd303⟩ ⟨by decide, by decide⟩ (recvO cf9 (fun _ => s_x0)) rfl rfl (Nat.le_of_ble_eq_true rfl) (Nat.le_of_ble_eq_true rfl) (by decide) (by decide) kk
set_option maxRecDepth 20000 in
theorem B9_drop_24 {ω : Om} {h : AH} {Q : Option Value → AH → Prop} {x0 : Nat} {x1 : Int32} {x2 : Int32} {y0 : Int32} (hw : ω.2.2.2.1 = true) (kt : ¬ y0 = x1 → Ex ω M9_drop 44 [some (.ref x0), some (.int x1), some (.int x2)] [] h 0 0 Q) (kf : y0 = x1 → Ex ω M9_drop 28 [some (.ref x0), some (.int x1), some (.int x2)] [] h 0 0 Q) : Ex ω M9_drop 24 [some (.ref x0), some (.int x1), some (.int x2)] [.int y0] h 0 0 Q := by
  refine x_iload1 25 dX9_drop_24 rfl ?_
  exact x_icmp_ne 28 44 dX9_drop_25 rfl (by decide) kt kf
set_option maxRecDepth 20000 in
theorem B9_drop_28 {ω : Om} {h : AH} {Q : Option Value → AH → Prop} {x0 : Nat} {u1 : Option Value} {x2 : Int32} (hw : ω.2.2.2.1 = true) (s_x0 : gs h x0 = some (9, 17)) (kk : Ex ω M9_change 0 [some (.ref x0), none] [] h 0 0 (fun v h' => Ex ω M9_drop 32 [some (.ref x0), none, some (.int x2)] (v.toList ++ []) h' 0 0 Q)) : Ex ω M9_drop 28 [some (.ref x0), u1, some (.int x2)] [] h 0 0 Q := by
  refine x_dr1 ?_
  refine x_aload0 29 dX9_drop_28 rfl ?_
  exact x_callV 32 x0 [] [] dX9_drop_29 rfl lk_9_change ⟨wd203, wd204, wd205⟩ ⟨by decide, by decide⟩ (recvO cf9 (fun _ => s_x0)) rfl rfl (Nat.le_of_ble_eq_true rfl) (Nat.le_of_ble_eq_true rfl) (by decide) (by decide) kk
set_option maxRecDepth 20000 in
theorem B9_drop_32 {ω : Om} {h : AH} {Q : Option Value → AH → Prop} {x0 : Nat} {u1 : Option Value} {x2 : Int32} (hw : ω.2.2.2.1 = true) (s_x0 : gs h x0 = some (9, 17)) (kk : Ex ω M9_palletGoes 0 [some (.ref x0), some (.int x2), none] [] h 0 0 (fun v h' => Ex ω M9_drop 37 [some (.ref x0), none, some (.int x2)] (v.toList ++ []) h' 0 0 Q)) : Ex ω M9_drop 32 [some (.ref x0), u1, some (.int x2)] [] h 0 0 Q := by
  refine x_dr1 ?_
  refine x_aload0 33 dX9_drop_32 rfl ?_
  refine x_iload2 34 dX9_drop_33 rfl ?_
  exact x_callV 37 x0 [.int x2] [] dX9_drop_34 rfl lk_9_palletGoes ⟨wd305, wd306, wd307⟩ ⟨by decide, by decide⟩ (recvO cf9 (fun _ => s_x0)) rfl rfl (Nat.le_of_ble_eq_true rfl) (Nat.le_of_ble_eq_true rfl) (by decide) (by decide) kk
set_option maxRecDepth 20000 in
theorem B9_drop_37 {ω : Om} {h : AH} {Q : Option Value → AH → Prop} {x0 : Nat} {u1 : Option Value} {u2 : Option Value} (hw : ω.2.2.2.1 = true) (s_x0 : gs h x0 = some (9, 17)) (hq : Q (some (.int (gi h (gr h x0 0) 1))) h) : Ex ω M9_drop 37 [some (.ref x0), u1, u2] [] h 0 0 Q := by
  refine x_dr1 ?_
  refine x_dr2 ?_
  refine x_aload0 38 dX9_drop_37 rfl ?_
  refine x_getR cf9 0 41 hw dX9_drop_38 rfl wd99 (fun _ => s_x0) (by decide) (by decide) rfl ?_
  refine x_iconst (nI 1) 42 dX9_drop_41 rfl rfl ?_
  refine x_iald 1 43 dX9_drop_42 rfl (SH.fld hw (fun _ => s_x0) 0 (Nat.le_of_ble_eq_true rfl) rfl rfl) (vp_c (by decide)) rfl ?_
  exact x_iret dX9_drop_43 rfl (Nat.zero_le _) (Nat.zero_le _) hq
set_option maxRecDepth 20000 in
theorem B9_drop_44 {ω : Om} {h : AH} {Q : Option Value → AH → Prop} {x0 : Nat} {x1 : Int32} {x2 : Int32} (hw : ω.2.2.2.1 = true) (kt : Ex ω M9_drop 8 [some (.ref x0), some (.int x1), some (.int (x2 + (nI 1)))] [] h 0 0 Q) : Ex ω M9_drop 44 [some (.ref x0), some (.int x1), some (.int x2)] [] h 0 0 Q := by
  refine x_iinc2 (x2 + (nI 1)) 47 dX9_drop_44 rfl (by decide) rfl rfl ?_
  exact x_goto 8 dX9_drop_47 (by decide) kt
set_option maxRecDepth 20000 in
theorem B9_drop_50 {ω : Om} {h : AH} {Q : Option Value → AH → Prop} {u0 : Option Value} {u1 : Option Value} {u2 : Option Value} (hw : ω.2.2.2.1 = true) (hq : Q (some (.int ((-4)))) h) : Ex ω M9_drop 50 [u0, u1, u2] [] h 0 0 Q := by
  refine x_dr0 ?_
  refine x_dr1 ?_
  refine x_dr2 ?_
  refine x_bipush ((-4)) 52 dX9_drop_50 rfl rfl ?_
  exact x_iret dX9_drop_52 rfl (Nat.zero_le _) (Nat.zero_le _) hq
set_option maxRecDepth 20000 in
theorem B9_byTurn_0 {ω : Om} {h : AH} {Q : Option Value → AH → Prop} {x0 : Nat} {x1 : Int32} {u2 : Option Value} {u3 : Option Value} {u4 : Option Value} (hw : ω.2.2.2.1 = true) (kf : Ex ω M9_byTurn 2 [some (.ref x0), some (.int x1), some (.int (nI 0)), none, none] [] h 0 0 Q) : Ex ω M9_byTurn 0 [some (.ref x0), some (.int x1), u2, u3, u4] [] h 0 0 Q := by
  refine x_dr2 ?_
  refine x_dr3 ?_
  refine x_dr4 ?_
  refine x_iconst (nI 0) 1 dX9_byTurn_0 rfl rfl ?_
  refine x_istore2 2 dX9_byTurn_1 rfl (by decide) rfl ?_
  exact kf
set_option maxRecDepth 20000 in
theorem B9_byTurn_2 {ω : Om} {h : AH} {Q : Option Value → AH → Prop} {x0 : Nat} {x1 : Int32} {x2 : Int32} {u3 : Option Value} {u4 : Option Value} (hw : ω.2.2.2.1 = true) (s_x0 : gs h x0 = some (9, 17)) (kt : (gi h (gr h x0 0) 1) ≤ x2 → Ex ω M9_byTurn 103 [some (.ref x0), some (.int x1), some (.int x2), none, none] [] h 0 0 Q) (kf : ¬ (gi h (gr h x0 0) 1) ≤ x2 → Ex ω M9_byTurn 12 [some (.ref x0), some (.int x1), some (.int x2), none, none] [] h 0 0 Q) : Ex ω M9_byTurn 2 [some (.ref x0), some (.int x1), some (.int x2), u3, u4] [] h 0 0 Q := by
  refine x_dr3 ?_
  refine x_dr4 ?_
  refine x_iload2 3 dX9_byTurn_2 rfl ?_
  refine x_aload0 4 dX9_byTurn_3 rfl ?_
  refine x_getR cf9 0 7 hw dX9_byTurn_4 rfl wd99 (fun _ => s_x0) (by decide) (by decide) rfl ?_
  refine x_iconst (nI 1) 8 dX9_byTurn_7 rfl rfl ?_
  refine x_iald 1 9 dX9_byTurn_8 rfl (SH.fld hw (fun _ => s_x0) 0 (Nat.le_of_ble_eq_true rfl) rfl rfl) (vp_c (by decide)) rfl ?_
  exact x_icmp_ge 12 103 dX9_byTurn_9 rfl (by decide) kt kf
set_option maxRecDepth 20000 in
theorem B9_byTurn_12 {ω : Om} {h : AH} {Q : Option Value → AH → Prop} {x0 : Nat} {x1 : Int32} {x2 : Int32} {u3 : Option Value} {u4 : Option Value} (hw : ω.2.2.2.1 = true) (kf : Ex ω M9_byTurn 17 [some (.ref x0), some (.int x1), some (.int x2), some (.int (nI 0)), some (.int (nI 0))] [] h 0 0 Q) : Ex ω M9_byTurn 12 [some (.ref x0), some (.int x1), some (.int x2), u3, u4] [] h 0 0 Q := by
  refine x_dr3 ?_
  refine x_dr4 ?_
  refine x_iconst (nI 0) 13 dX9_byTurn_12 rfl rfl ?_
  refine x_istore3 14 dX9_byTurn_13 rfl (by decide) rfl ?_
  refine x_iconst (nI 0) 15 dX9_byTurn_14 rfl rfl ?_
  refine x_istore4 17 dX9_byTurn_15 rfl (by decide) rfl ?_
  exact kf
set_option maxRecDepth 20000 in
theorem B9_byTurn_17 {ω : Om} {h : AH} {Q : Option Value → AH → Prop} {x0 : Nat} {x1 : Int32} {x2 : Int32} {x3 : Int32} {x4 : Int32} (hw : ω.2.2.2.1 = true) (s_x0 : gs h x0 = some (9, 17)) (kt : (gi h (gr h x0 0) 1) ≤ x4 → Ex ω M9_byTurn 90 [some (.ref x0), some (.int x1), some (.int x2), some (.int x3), some (.int x4)] [] h 0 0 Q) (kf : ¬ (gi h (gr h x0 0) 1) ≤ x4 → Ex ω M9_byTurn 28 [some (.ref x0), some (.int x1), some (.int x2), some (.int x3), some (.int x4)] [] h 0 0 Q) : Ex ω M9_byTurn 17 [some (.ref x0), some (.int x1), some (.int x2), some (.int x3), some (.int x4)] [] h 0 0 Q := by
  refine x_iload4 19 dX9_byTurn_17 rfl ?_
  refine x_aload0 20 dX9_byTurn_19 rfl ?_
  refine x_getR cf9 0 23 hw dX9_byTurn_20 rfl wd99 (fun _ => s_x0) (by decide) (by decide) rfl ?_
  refine x_iconst (nI 1) 24 dX9_byTurn_23 rfl rfl ?_
  refine x_iald 1 25 dX9_byTurn_24 rfl (SH.fld hw (fun _ => s_x0) 0 (Nat.le_of_ble_eq_true rfl) rfl rfl) (vp_c (by decide)) rfl ?_
  exact x_icmp_ge 28 90 dX9_byTurn_25 rfl (by decide) kt kf
set_option maxRecDepth 20000 in
theorem B9_byTurn_28 {ω : Om} {h : AH} {Q : Option Value → AH → Prop} {x0 : Nat} {x1 : Int32} {x2 : Int32} {x3 : Int32} {x4 : Int32} (hw : ω.2.2.2.1 = true) (s_x0 : gs h x0 = some (9, 17)) (kk : Ex ω M9_palletAt 0 [some (.ref x0), some (.int x4), some (.int (nI 5))] [] h 0 0 (fun v h' => Ex ω M9_byTurn 36 [some (.ref x0), some (.int x1), some (.int x2), some (.int x3), some (.int x4)] (v.toList ++ [.int x3]) h' 0 0 Q)) : Ex ω M9_byTurn 28 [some (.ref x0), some (.int x1), some (.int x2), some (.int x3), some (.int x4)] [] h 0 0 Q := by
  refine x_iload3 29 dX9_byTurn_28 rfl ?_
  refine x_aload0 30 dX9_byTurn_29 rfl ?_
  refine x_iload4 32 dX9_byTurn_30 rfl ?_
  refine x_iconst (nI 5) 33 dX9_byTurn_32 rfl rfl ?_
  exact x_callV 36 x0 [.int x4, .int (nI 5)] [.int x3] dX9_byTurn_33 rfl lk_9_palletAt ⟨wd301, wd302, wd303⟩ ⟨by decide, by decide⟩ (recvO cf9 (fun _ => s_x0)) rfl rfl (Nat.le_of_ble_eq_true rfl) (Nat.le_of_ble_eq_true rfl) (by decide) (by decide) kk
set_option maxRecDepth 20000 in
theorem B9_byTurn_36 {ω : Om} {h : AH} {Q : Option Value → AH → Prop} {x0 : Nat} {x1 : Int32} {x2 : Int32} {u3 : Option Value} {x4 : Int32} {y0 : Int32} {y1 : Int32} (hw : ω.2.2.2.1 = true) (s_x0 : gs h x0 = some (9, 17)) (kk : Ex ω M9_palletAt 0 [some (.ref x0), some (.int x2), some (.int (nI 5))] [] h 0 0 (fun v h' => Ex ω M9_byTurn 42 [some (.ref x0), some (.int x1), some (.int x2), none, some (.int x4)] (v.toList ++ [.int y1, .int y0]) h' 0 0 Q)) : Ex ω M9_byTurn 36 [some (.ref x0), some (.int x1), some (.int x2), u3, some (.int x4)] [.int y1, .int y0] h 0 0 Q := by
  refine x_dr3 ?_
  refine x_aload0 37 dX9_byTurn_36 rfl ?_
  refine x_iload2 38 dX9_byTurn_37 rfl ?_
  refine x_iconst (nI 5) 39 dX9_byTurn_38 rfl rfl ?_
  exact x_callV 42 x0 [.int x2, .int (nI 5)] [.int y1, .int y0] dX9_byTurn_39 rfl lk_9_palletAt ⟨wd301, wd302, wd303⟩ ⟨by decide, by decide⟩ (recvO cf9 (fun _ => s_x0)) rfl rfl (Nat.le_of_ble_eq_true rfl) (Nat.le_of_ble_eq_true rfl) (by decide) (by decide) kk
set_option maxRecDepth 20000 in
theorem B9_byTurn_42 {ω : Om} {h : AH} {Q : Option Value → AH → Prop} {x0 : Nat} {x1 : Int32} {x2 : Int32} {u3 : Option Value} {x4 : Int32} {y0 : Int32} {y1 : Int32} {y2 : Int32} (hw : ω.2.2.2.1 = true) (kt : y1 < y2 → Ex ω M9_byTurn 77 [some (.ref x0), some (.int x1), some (.int x2), none, some (.int x4)] [.int y0] h 0 0 Q) (kf : ¬ y1 < y2 → Ex ω M9_byTurn 45 [some (.ref x0), some (.int x1), some (.int x2), none, some (.int x4)] [.int y0] h 0 0 Q) : Ex ω M9_byTurn 42 [some (.ref x0), some (.int x1), some (.int x2), u3, some (.int x4)] [.int y2, .int y1, .int y0] h 0 0 Q := by
  refine x_dr3 ?_
  exact x_icmp_lt 45 77 dX9_byTurn_42 rfl (by decide) kt kf
set_option maxRecDepth 20000 in
theorem B9_byTurn_45 {ω : Om} {h : AH} {Q : Option Value → AH → Prop} {x0 : Nat} {x1 : Int32} {x2 : Int32} {u3 : Option Value} {x4 : Int32} {y0 : Int32} (hw : ω.2.2.2.1 = true) (s_x0 : gs h x0 = some (9, 17)) (kk : Ex ω M9_palletAt 0 [some (.ref x0), some (.int x4), some (.int (nI 5))] [] h 0 0 (fun v h' => Ex ω M9_byTurn 52 [some (.ref x0), some (.int x1), some (.int x2), none, some (.int x4)] (v.toList ++ [.int y0]) h' 0 0 Q)) : Ex ω M9_byTurn 45 [some (.ref x0), some (.int x1), some (.int x2), u3, some (.int x4)] [.int y0] h 0 0 Q := by
  refine x_dr3 ?_
  refine x_aload0 46 dX9_byTurn_45 rfl ?_
  refine x_iload4 48 dX9_byTurn_46 rfl ?_
  refine x_iconst (nI 5) 49 dX9_byTurn_48 rfl rfl ?_
  exact x_callV 52 x0 [.int x4, .int (nI 5)] [.int y0] dX9_byTurn_49 rfl lk_9_palletAt ⟨wd301, wd302, wd303⟩ ⟨by decide, by decide⟩ (recvO cf9 (fun _ => s_x0)) rfl rfl (Nat.le_of_ble_eq_true rfl) (Nat.le_of_ble_eq_true rfl) (by decide) (by decide) kk
set_option maxRecDepth 20000 in
theorem B9_byTurn_52 {ω : Om} {h : AH} {Q : Option Value → AH → Prop} {x0 : Nat} {x1 : Int32} {x2 : Int32} {u3 : Option Value} {x4 : Int32} {y0 : Int32} {y1 : Int32} (hw : ω.2.2.2.1 = true) (s_x0 : gs h x0 = some (9, 17)) (kk : Ex ω M9_palletAt 0 [some (.ref x0), some (.int x2), some (.int (nI 5))] [] h 0 0 (fun v h' => Ex ω M9_byTurn 58 [some (.ref x0), some (.int x1), some (.int x2), none, some (.int x4)] (v.toList ++ [.int y1, .int y0]) h' 0 0 Q)) : Ex ω M9_byTurn 52 [some (.ref x0), some (.int x1), some (.int x2), u3, some (.int x4)] [.int y1, .int y0] h 0 0 Q := by
  refine x_dr3 ?_
  refine x_aload0 53 dX9_byTurn_52 rfl ?_
  refine x_iload2 54 dX9_byTurn_53 rfl ?_
  refine x_iconst (nI 5) 55 dX9_byTurn_54 rfl rfl ?_
  exact x_callV 58 x0 [.int x2, .int (nI 5)] [.int y1, .int y0] dX9_byTurn_55 rfl lk_9_palletAt ⟨wd301, wd302, wd303⟩ ⟨by decide, by decide⟩ (recvO cf9 (fun _ => s_x0)) rfl rfl (Nat.le_of_ble_eq_true rfl) (Nat.le_of_ble_eq_true rfl) (by decide) (by decide) kk
set_option maxRecDepth 20000 in
theorem B9_byTurn_58 {ω : Om} {h : AH} {Q : Option Value → AH → Prop} {x0 : Nat} {x1 : Int32} {x2 : Int32} {u3 : Option Value} {x4 : Int32} {y0 : Int32} {y1 : Int32} {y2 : Int32} (hw : ω.2.2.2.1 = true) (kt : ¬ y1 = y2 → Ex ω M9_byTurn 81 [some (.ref x0), some (.int x1), some (.int x2), none, some (.int x4)] [.int y0] h 0 0 Q) (kf : y1 = y2 → Ex ω M9_byTurn 61 [some (.ref x0), some (.int x1), some (.int x2), none, some (.int x4)] [.int y0] h 0 0 Q) : Ex ω M9_byTurn 58 [some (.ref x0), some (.int x1), some (.int x2), u3, some (.int x4)] [.int y2, .int y1, .int y0] h 0 0 Q := by
  refine x_dr3 ?_
  exact x_icmp_ne 61 81 dX9_byTurn_58 rfl (by decide) kt kf
set_option maxRecDepth 20000 in
theorem B9_byTurn_61 {ω : Om} {h : AH} {Q : Option Value → AH → Prop} {x0 : Nat} {x1 : Int32} {x2 : Int32} {u3 : Option Value} {x4 : Int32} {y0 : Int32} (hw : ω.2.2.2.1 = true) (s_x0 : gs h x0 = some (9, 17)) (kk : Ex ω M9_palletAt 0 [some (.ref x0), some (.int x4), some (.int (nI 0))] [] h 0 0 (fun v h' => Ex ω M9_byTurn 68 [some (.ref x0), some (.int x1), some (.int x2), none, some (.int x4)] (v.toList ++ [.int y0]) h' 0 0 Q)) : Ex ω M9_byTurn 61 [some (.ref x0), some (.int x1), some (.int x2), u3, some (.int x4)] [.int y0] h 0 0 Q := by
  refine x_dr3 ?_
  refine x_aload0 62 dX9_byTurn_61 rfl ?_
  refine x_iload4 64 dX9_byTurn_62 rfl ?_
  refine x_iconst (nI 0) 65 dX9_byTurn_64 rfl rfl ?_
  exact x_callV 68 x0 [.int x4, .int (nI 0)] [.int y0] dX9_byTurn_65 rfl lk_9_palletAt ⟨wd301, wd302, wd303⟩ ⟨by decide, by decide⟩ (recvO cf9 (fun _ => s_x0)) rfl rfl (Nat.le_of_ble_eq_true rfl) (Nat.le_of_ble_eq_true rfl) (by decide) (by decide) kk
set_option maxRecDepth 20000 in
theorem B9_byTurn_68 {ω : Om} {h : AH} {Q : Option Value → AH → Prop} {x0 : Nat} {x1 : Int32} {x2 : Int32} {u3 : Option Value} {x4 : Int32} {y0 : Int32} {y1 : Int32} (hw : ω.2.2.2.1 = true) (s_x0 : gs h x0 = some (9, 17)) (kk : Ex ω M9_palletAt 0 [some (.ref x0), some (.int x2), some (.int (nI 0))] [] h 0 0 (fun v h' => Ex ω M9_byTurn 74 [some (.ref x0), some (.int x1), some (.int x2), none, some (.int x4)] (v.toList ++ [.int y1, .int y0]) h' 0 0 Q)) : Ex ω M9_byTurn 68 [some (.ref x0), some (.int x1), some (.int x2), u3, some (.int x4)] [.int y1, .int y0] h 0 0 Q := by
  refine x_dr3 ?_
  refine x_aload0 69 dX9_byTurn_68 rfl ?_
  refine x_iload2 70 dX9_byTurn_69 rfl ?_
  refine x_iconst (nI 0) 71 dX9_byTurn_70 rfl rfl ?_
  exact x_callV 74 x0 [.int x2, .int (nI 0)] [.int y1, .int y0] dX9_byTurn_71 rfl lk_9_palletAt ⟨wd301, wd302, wd303⟩ ⟨by decide, by decide⟩ (recvO cf9 (fun _ => s_x0)) rfl rfl (Nat.le_of_ble_eq_true rfl) (Nat.le_of_ble_eq_true rfl) (by decide) (by decide) kk
set_option maxRecDepth 20000 in
theorem B9_byTurn_74 {ω : Om} {h : AH} {Q : Option Value → AH → Prop} {x0 : Nat} {x1 : Int32} {x2 : Int32} {u3 : Option Value} {x4 : Int32} {y0 : Int32} {y1 : Int32} {y2 : Int32} (hw : ω.2.2.2.1 = true) (kt : y2 ≤ y1 → Ex ω M9_byTurn 81 [some (.ref x0), some (.int x1), some (.int x2), none, some (.int x4)] [.int y0] h 0 0 Q) (kf : ¬ y2 ≤ y1 → Ex ω M9_byTurn 77 [some (.ref x0), some (.int x1), some (.int x2), none, some (.int x4)] [.int y0] h 0 0 Q) : Ex ω M9_byTurn 74 [some (.ref x0), some (.int x1), some (.int x2), u3, some (.int x4)] [.int y2, .int y1, .int y0] h 0 0 Q := by
  refine x_dr3 ?_
  exact x_icmp_ge 77 81 dX9_byTurn_74 rfl (by decide) kt kf
set_option maxRecDepth 20000 in
theorem B9_byTurn_77 {ω : Om} {h : AH} {Q : Option Value → AH → Prop} {x0 : Nat} {x1 : Int32} {x2 : Int32} {u3 : Option Value} {x4 : Int32} {y0 : Int32} (hw : ω.2.2.2.1 = true) (kt : Ex ω M9_byTurn 82 [some (.ref x0), some (.int x1), some (.int x2), none, some (.int x4)] [.int (nI 1), .int y0] h 0 0 Q) : Ex ω M9_byTurn 77 [some (.ref x0), some (.int x1), some (.int x2), u3, some (.int x4)] [.int y0] h 0 0 Q := by
  refine x_dr3 ?_
  refine x_iconst (nI 1) 78 dX9_byTurn_77 rfl rfl ?_
  exact x_goto 82 dX9_byTurn_78 (by decide) kt
set_option maxRecDepth 20000 in
theorem B9_byTurn_81 {ω : Om} {h : AH} {Q : Option Value → AH → Prop} {x0 : Nat} {x1 : Int32} {x2 : Int32} {u3 : Option Value} {x4 : Int32} {y0 : Int32} (hw : ω.2.2.2.1 = true) (kf : Ex ω M9_byTurn 82 [some (.ref x0), some (.int x1), some (.int x2), none, some (.int x4)] [.int (nI 0), .int y0] h 0 0 Q) : Ex ω M9_byTurn 81 [some (.ref x0), some (.int x1), some (.int x2), u3, some (.int x4)] [.int y0] h 0 0 Q := by
  refine x_dr3 ?_
  refine x_iconst (nI 0) 82 dX9_byTurn_81 rfl rfl ?_
  exact kf
set_option maxRecDepth 20000 in
theorem B9_byTurn_82 {ω : Om} {h : AH} {Q : Option Value → AH → Prop} {x0 : Nat} {x1 : Int32} {x2 : Int32} {u3 : Option Value} {x4 : Int32} {y0 : Int32} {y1 : Int32} (hw : ω.2.2.2.1 = true) (kt : Ex ω M9_byTurn 17 [some (.ref x0), some (.int x1), some (.int x2), some (.int (y0 + y1)), some (.int (x4 + (nI 1)))] [] h 0 0 Q) : Ex ω M9_byTurn 82 [some (.ref x0), some (.int x1), some (.int x2), u3, some (.int x4)] [.int y1, .int y0] h 0 0 Q := by
  refine x_dr3 ?_
  refine x_iadd 83 dX9_byTurn_82 rfl ?_
  refine x_istore3 84 dX9_byTurn_83 rfl (by decide) rfl ?_
  refine x_iinc4 (x4 + (nI 1)) 87 dX9_byTurn_84 rfl (by decide) rfl rfl ?_
  exact x_goto 17 dX9_byTurn_87 (by decide) kt
set_option maxRecDepth 20000 in
theorem B9_byTurn_90 {ω : Om} {h : AH} {Q : Option Value → AH → Prop} {x0 : Nat} {x1 : Int32} {x2 : Int32} {x3 : Int32} {u4 : Option Value} (hw : ω.2.2.2.1 = true) (kt : ¬ x3 = x1 → Ex ω M9_byTurn 97 [some (.ref x0), some (.int x1), some (.int x2), some (.int x3), none] [] h 0 0 Q) (kf : x3 = x1 → Ex ω M9_byTurn 95 [some (.ref x0), some (.int x1), some (.int x2), some (.int x3), none] [] h 0 0 Q) : Ex ω M9_byTurn 90 [some (.ref x0), some (.int x1), some (.int x2), some (.int x3), u4] [] h 0 0 Q := by
  refine x_dr4 ?_
  refine x_iload3 91 dX9_byTurn_90 rfl ?_
  refine x_iload1 92 dX9_byTurn_91 rfl ?_
  exact x_icmp_ne 95 97 dX9_byTurn_92 rfl (by decide) kt kf
set_option maxRecDepth 20000 in
theorem B9_byTurn_95 {ω : Om} {h : AH} {Q : Option Value → AH → Prop} {u0 : Option Value} {u1 : Option Value} {x2 : Int32} {u3 : Option Value} {u4 : Option Value} (hw : ω.2.2.2.1 = true) (hq : Q (some (.int x2)) h) : Ex ω M9_byTurn 95 [u0, u1, some (.int x2), u3, u4] [] h 0 0 Q := by
  refine x_dr0 ?_
  refine x_dr1 ?_
  refine x_dr3 ?_
  refine x_dr4 ?_
  refine x_iload2 96 dX9_byTurn_95 rfl ?_
  exact x_iret dX9_byTurn_96 rfl (Nat.zero_le _) (Nat.zero_le _) hq
set_option maxRecDepth 20000 in
theorem B9_byTurn_97 {ω : Om} {h : AH} {Q : Option Value → AH → Prop} {x0 : Nat} {x1 : Int32} {x2 : Int32} {u3 : Option Value} {u4 : Option Value} (hw : ω.2.2.2.1 = true) (kt : Ex ω M9_byTurn 2 [some (.ref x0), some (.int x1), some (.int (x2 + (nI 1))), none, none] [] h 0 0 Q) : Ex ω M9_byTurn 97 [some (.ref x0), some (.int x1), some (.int x2), u3, u4] [] h 0 0 Q := by
  refine x_dr3 ?_
  refine x_dr4 ?_
  refine x_iinc2 (x2 + (nI 1)) 100 dX9_byTurn_97 rfl (by decide) rfl rfl ?_
  exact x_goto 2 dX9_byTurn_100 (by decide) kt
set_option maxRecDepth 20000 in
theorem B9_byTurn_103 {ω : Om} {h : AH} {Q : Option Value → AH → Prop} {u0 : Option Value} {u1 : Option Value} {u2 : Option Value} {u3 : Option Value} {u4 : Option Value} (hw : ω.2.2.2.1 = true) (hq : Q (some (.int ((-1)))) h) : Ex ω M9_byTurn 103 [u0, u1, u2, u3, u4] [] h 0 0 Q := by
  refine x_dr0 ?_
  refine x_dr1 ?_
  refine x_dr2 ?_
  refine x_dr3 ?_
  refine x_dr4 ?_
  refine x_iconst ((-1)) 104 dX9_byTurn_103 rfl rfl ?_
  exact x_iret dX9_byTurn_104 rfl (Nat.zero_le _) (Nat.zero_le _) hq
set_option maxRecDepth 20000 in
theorem B9_waiting_0 {ω : Om} {h : AH} {Q : Option Value → AH → Prop} {x0 : Nat} {x1 : Int32} {x2 : Int32} {u3 : Option Value} (hw : ω.2.2.2.1 = true) (kt : x1 < 0 → Ex ω M9_waiting 16 [some (.ref x0), some (.int x1), some (.int x2), none] [] h 0 0 Q) (kf : ¬ x1 < 0 → Ex ω M9_waiting 4 [some (.ref x0), some (.int x1), some (.int x2), none] [] h 0 0 Q) : Ex ω M9_waiting 0 [some (.ref x0), some (.int x1), some (.int x2), u3] [] h 0 0 Q := by
  refine x_dr3 ?_
  refine x_iload1 1 dX9_waiting_0 rfl ?_
  exact x_if_lt 4 16 dX9_waiting_1 rfl (by decide) kt kf
set_option maxRecDepth 20000 in
theorem B9_waiting_4 {ω : Om} {h : AH} {Q : Option Value → AH → Prop} {x0 : Nat} {x1 : Int32} {x2 : Int32} {u3 : Option Value} (hw : ω.2.2.2.1 = true) (kk : Ex ω M9_in 0 [some (.long (Int32.toInt64 x2)), none, some (.long ((0 : Int64))), none, some (.long ((5 : Int64))), none] [] h 0 0 (fun v h' => Ex ω M9_waiting 13 [some (.ref x0), some (.int x1), some (.int x2), none] (v.toList ++ []) h' 0 0 Q)) : Ex ω M9_waiting 4 [some (.ref x0), some (.int x1), some (.int x2), u3] [] h 0 0 Q := by
  refine x_dr3 ?_
  refine x_iload2 5 dX9_waiting_4 rfl ?_
  refine x_i2l 6 dX9_waiting_5 rfl ?_
  refine x_lconst 0 7 dX9_waiting_6 rfl rfl ?_
  refine x_ldc2 5 10 dX9_waiting_7 rfl wd253 ?_
  exact x_callS 13 [.long (Int32.toInt64 x2), .long ((0 : Int64)), .long ((5 : Int64))] [] dX9_waiting_10 rfl lk_9_in ⟨wd200, wd201⟩ ⟨by decide, by decide⟩ rfl rfl (Nat.le_of_ble_eq_true rfl) (Nat.le_of_ble_eq_true rfl) (by decide) (by decide) kk
set_option maxRecDepth 20000 in
theorem B9_waiting_13 {ω : Om} {h : AH} {Q : Option Value → AH → Prop} {x0 : Nat} {x1 : Int32} {x2 : Int32} {u3 : Option Value} {y0 : Int32} (hw : ω.2.2.2.1 = true) (kt : ¬ y0 = 0 → Ex ω M9_waiting 18 [some (.ref x0), some (.int x1), some (.int x2), none] [] h 0 0 Q) (kf : y0 = 0 → Ex ω M9_waiting 16 [some (.ref x0), some (.int x1), some (.int x2), none] [] h 0 0 Q) : Ex ω M9_waiting 13 [some (.ref x0), some (.int x1), some (.int x2), u3] [.int y0] h 0 0 Q := by
  refine x_dr3 ?_
  exact x_if_ne 16 18 dX9_waiting_13 rfl (by decide) kt kf
set_option maxRecDepth 20000 in
theorem B9_waiting_16 {ω : Om} {h : AH} {Q : Option Value → AH → Prop} {u0 : Option Value} {u1 : Option Value} {u2 : Option Value} {u3 : Option Value} (hw : ω.2.2.2.1 = true) (hq : Q (some (.int ((-1)))) h) : Ex ω M9_waiting 16 [u0, u1, u2, u3] [] h 0 0 Q := by
  refine x_dr0 ?_
  refine x_dr1 ?_
  refine x_dr2 ?_
  refine x_dr3 ?_
  refine x_iconst ((-1)) 17 dX9_waiting_16 rfl rfl ?_
  exact x_iret dX9_waiting_17 rfl (Nat.zero_le _) (Nat.zero_le _) hq
set_option maxRecDepth 20000 in
theorem B9_waiting_18 {ω : Om} {h : AH} {Q : Option Value → AH → Prop} {x0 : Nat} {x1 : Int32} {x2 : Int32} {u3 : Option Value} (hw : ω.2.2.2.1 = true) (s_x0 : gs h x0 = some (9, 17)) (kk : Ex ω M9_byTurn 0 [some (.ref x0), some (.int x1), none, none, none] [] h 0 0 (fun v h' => Ex ω M9_waiting 23 [some (.ref x0), some (.int x1), some (.int x2), none] (v.toList ++ []) h' 0 0 Q)) : Ex ω M9_waiting 18 [some (.ref x0), some (.int x1), some (.int x2), u3] [] h 0 0 Q := by
  refine x_dr3 ?_
  refine x_aload0 19 dX9_waiting_18 rfl ?_
  refine x_iload1 20 dX9_waiting_19 rfl ?_
  exact x_callV 23 x0 [.int x1] [] dX9_waiting_20 rfl lk_9_byTurn ⟨wd322, wd323, wd324⟩ ⟨by decide, by decide⟩ (recvO cf9 (fun _ => s_x0)) rfl rfl (Nat.le_of_ble_eq_true rfl) (Nat.le_of_ble_eq_true rfl) (by decide) (by decide) kk
set_option maxRecDepth 20000 in
theorem B9_waiting_23 {ω : Om} {h : AH} {Q : Option Value → AH → Prop} {x0 : Nat} {u1 : Option Value} {x2 : Int32} {u3 : Option Value} {y0 : Int32} (hw : ω.2.2.2.1 = true) (kt : 0 ≤ y0 → Ex ω M9_waiting 33 [some (.ref x0), none, some (.int x2), some (.int y0)] [] h 0 0 Q) (kf : ¬ 0 ≤ y0 → Ex ω M9_waiting 28 [some (.ref x0), none, some (.int x2), some (.int y0)] [] h 0 0 Q) : Ex ω M9_waiting 23 [some (.ref x0), u1, some (.int x2), u3] [.int y0] h 0 0 Q := by
  refine x_dr1 ?_
  refine x_dr3 ?_
  refine x_istore3 24 dX9_waiting_23 rfl (by decide) rfl ?_
  refine x_iload3 25 dX9_waiting_24 rfl ?_
  exact x_if_ge 28 33 dX9_waiting_25 rfl (by decide) kt kf
set_option maxRecDepth 20000 in
theorem B9_waiting_28 {ω : Om} {h : AH} {Q : Option Value → AH → Prop} {u0 : Option Value} {u1 : Option Value} {u2 : Option Value} {u3 : Option Value} (hw : ω.2.2.2.1 = true) (kt : Ex ω M9_waiting 39 [none, none, none, none] [.int ((-4))] h 0 0 Q) : Ex ω M9_waiting 28 [u0, u1, u2, u3] [] h 0 0 Q := by
  refine x_dr0 ?_
  refine x_dr1 ?_
  refine x_dr2 ?_
  refine x_dr3 ?_
  refine x_bipush ((-4)) 30 dX9_waiting_28 rfl rfl ?_
  exact x_goto 39 dX9_waiting_30 (by decide) kt
set_option maxRecDepth 20000 in
theorem B9_waiting_33 {ω : Om} {h : AH} {Q : Option Value → AH → Prop} {x0 : Nat} {u1 : Option Value} {x2 : Int32} {x3 : Int32} (hw : ω.2.2.2.1 = true) (s_x0 : gs h x0 = some (9, 17)) (kk : Ex ω M9_palletAt 0 [some (.ref x0), some (.int x3), some (.int x2)] [] h 0 0 (fun v h' => Ex ω M9_waiting 39 [some (.ref x0), none, some (.int x2), some (.int x3)] (v.toList ++ []) h' 0 0 Q)) : Ex ω M9_waiting 33 [some (.ref x0), u1, some (.int x2), some (.int x3)] [] h 0 0 Q := by
  refine x_dr1 ?_
  refine x_aload0 34 dX9_waiting_33 rfl ?_
  refine x_iload3 35 dX9_waiting_34 rfl ?_
  refine x_iload2 36 dX9_waiting_35 rfl ?_
  exact x_callV 39 x0 [.int x3, .int x2] [] dX9_waiting_36 rfl lk_9_palletAt ⟨wd301, wd302, wd303⟩ ⟨by decide, by decide⟩ (recvO cf9 (fun _ => s_x0)) rfl rfl (Nat.le_of_ble_eq_true rfl) (Nat.le_of_ble_eq_true rfl) (by decide) (by decide) kk
set_option maxRecDepth 20000 in
theorem B9_waiting_39 {ω : Om} {h : AH} {Q : Option Value → AH → Prop} {u0 : Option Value} {u1 : Option Value} {u2 : Option Value} {u3 : Option Value} {y0 : Int32} (hw : ω.2.2.2.1 = true) (hq : Q (some (.int y0)) h) : Ex ω M9_waiting 39 [u0, u1, u2, u3] [.int y0] h 0 0 Q := by
  refine x_dr0 ?_
  refine x_dr1 ?_
  refine x_dr2 ?_
  refine x_dr3 ?_
  exact x_iret dX9_waiting_39 rfl (Nat.zero_le _) (Nat.zero_le _) hq
set_option maxRecDepth 20000 in
theorem B9_set_0 {ω : Om} {h : AH} {Q : Option Value → AH → Prop} {x0 : Nat} {x1 : Int32} {x2 : Int32} {u3 : Option Value} (hw : ω.2.2.2.1 = true) (kk : Ex ω M9_in 0 [some (.long (Int32.toInt64 x1)), none, some (.long ((0 : Int64))), none, some (.long ((1 : Int64))), none] [] h 0 0 (fun v h' => Ex ω M9_set 7 [some (.ref x0), some (.int x1), some (.int x2), none] (v.toList ++ []) h' 0 0 Q)) : Ex ω M9_set 0 [some (.ref x0), some (.int x1), some (.int x2), u3] [] h 0 0 Q := by
  refine x_dr3 ?_
  refine x_iload1 1 dX9_set_0 rfl ?_
  refine x_i2l 2 dX9_set_1 rfl ?_
  refine x_lconst 0 3 dX9_set_2 rfl rfl ?_
  refine x_lconst 1 4 dX9_set_3 rfl rfl ?_
  exact x_callS 7 [.long (Int32.toInt64 x1), .long ((0 : Int64)), .long ((1 : Int64))] [] dX9_set_4 rfl lk_9_in ⟨wd200, wd201⟩ ⟨by decide, by decide⟩ rfl rfl (Nat.le_of_ble_eq_true rfl) (Nat.le_of_ble_eq_true rfl) (by decide) (by decide) kk
set_option maxRecDepth 20000 in
theorem B9_set_7 {ω : Om} {h : AH} {Q : Option Value → AH → Prop} {x0 : Nat} {x1 : Int32} {x2 : Int32} {u3 : Option Value} {y0 : Int32} (hw : ω.2.2.2.1 = true) (kt : y0 = 0 → Ex ω M9_set 32 [some (.ref x0), some (.int x1), some (.int x2), none] [] h 0 0 Q) (kf : ¬ y0 = 0 → Ex ω M9_set 10 [some (.ref x0), some (.int x1), some (.int x2), none] [] h 0 0 Q) : Ex ω M9_set 7 [some (.ref x0), some (.int x1), some (.int x2), u3] [.int y0] h 0 0 Q := by
  refine x_dr3 ?_
  exact x_if_eq 10 32 dX9_set_7 rfl (by decide) kt kf
set_option maxRecDepth 20000 in
theorem B9_set_10 {ω : Om} {h : AH} {Q : Option Value → AH → Prop} {x0 : Nat} {x1 : Int32} {x2 : Int32} {u3 : Option Value} (hw : ω.2.2.2.1 = true) (kt : ¬ x1 = 0 → Ex ω M9_set 23 [some (.ref x0), some (.int x1), some (.int x2), none] [.long ((0 : Int64)), .long (Int32.toInt64 x2)] h 0 0 Q) (kf : x1 = 0 → Ex ω M9_set 17 [some (.ref x0), some (.int x1), some (.int x2), none] [.long ((0 : Int64)), .long (Int32.toInt64 x2)] h 0 0 Q) : Ex ω M9_set 10 [some (.ref x0), some (.int x1), some (.int x2), u3] [] h 0 0 Q := by
  refine x_dr3 ?_
  refine x_iload2 11 dX9_set_10 rfl ?_
  refine x_i2l 12 dX9_set_11 rfl ?_
  refine x_lconst 0 13 dX9_set_12 rfl rfl ?_
  refine x_iload1 14 dX9_set_13 rfl ?_
  exact x_if_ne 17 23 dX9_set_14 rfl (by decide) kt kf
set_option maxRecDepth 20000 in
theorem B9_set_17 {ω : Om} {h : AH} {Q : Option Value → AH → Prop} {x0 : Nat} {x1 : Int32} {x2 : Int32} {u3 : Option Value} {y0 : Int64} {y1 : Int64} (hw : ω.2.2.2.1 = true) (kt : Ex ω M9_set 26 [some (.ref x0), some (.int x1), some (.int x2), none] [.long ((500 : Int64)), .long y1, .long y0] h 0 0 Q) : Ex ω M9_set 17 [some (.ref x0), some (.int x1), some (.int x2), u3] [.long y1, .long y0] h 0 0 Q := by
  refine x_dr3 ?_
  refine x_ldc2 500 20 dX9_set_17 rfl wd336 ?_
  exact x_goto 26 dX9_set_20 (by decide) kt
set_option maxRecDepth 20000 in
theorem B9_set_23 {ω : Om} {h : AH} {Q : Option Value → AH → Prop} {x0 : Nat} {x1 : Int32} {x2 : Int32} {u3 : Option Value} {y0 : Int64} {y1 : Int64} (hw : ω.2.2.2.1 = true) (kf : Ex ω M9_set 26 [some (.ref x0), some (.int x1), some (.int x2), none] [.long ((20 : Int64)), .long y1, .long y0] h 0 0 Q) : Ex ω M9_set 23 [some (.ref x0), some (.int x1), some (.int x2), u3] [.long y1, .long y0] h 0 0 Q := by
  refine x_dr3 ?_
  refine x_ldc2 20 26 dX9_set_23 rfl wd279 ?_
  exact kf
set_option maxRecDepth 20000 in
theorem B9_set_26 {ω : Om} {h : AH} {Q : Option Value → AH → Prop} {x0 : Nat} {x1 : Int32} {x2 : Int32} {u3 : Option Value} {y0 : Int64} {y1 : Int64} {y2 : Int64} (hw : ω.2.2.2.1 = true) (kk : Ex ω M9_in 0 [some (.long y0), none, some (.long y1), none, some (.long y2), none] [] h 0 0 (fun v h' => Ex ω M9_set 29 [some (.ref x0), some (.int x1), some (.int x2), none] (v.toList ++ []) h' 0 0 Q)) : Ex ω M9_set 26 [some (.ref x0), some (.int x1), some (.int x2), u3] [.long y2, .long y1, .long y0] h 0 0 Q := by
  refine x_dr3 ?_
  exact x_callS 29 [.long y0, .long y1, .long y2] [] dX9_set_26 rfl lk_9_in ⟨wd200, wd201⟩ ⟨by decide, by decide⟩ rfl rfl (Nat.le_of_ble_eq_true rfl) (Nat.le_of_ble_eq_true rfl) (by decide) (by decide) kk
set_option maxRecDepth 20000 in
theorem B9_set_29 {ω : Om} {h : AH} {Q : Option Value → AH → Prop} {x0 : Nat} {x1 : Int32} {x2 : Int32} {u3 : Option Value} {y0 : Int32} (hw : ω.2.2.2.1 = true) (kt : ¬ y0 = 0 → Ex ω M9_set 34 [some (.ref x0), some (.int x1), some (.int x2), none] [] h 0 0 Q) (kf : y0 = 0 → Ex ω M9_set 32 [some (.ref x0), some (.int x1), some (.int x2), none] [] h 0 0 Q) : Ex ω M9_set 29 [some (.ref x0), some (.int x1), some (.int x2), u3] [.int y0] h 0 0 Q := by
  refine x_dr3 ?_
  exact x_if_ne 32 34 dX9_set_29 rfl (by decide) kt kf
set_option maxRecDepth 20000 in
theorem B9_set_32 {ω : Om} {h : AH} {Q : Option Value → AH → Prop} {u0 : Option Value} {u1 : Option Value} {u2 : Option Value} {u3 : Option Value} (hw : ω.2.2.2.1 = true) (hq : Q (some (.int ((-1)))) h) : Ex ω M9_set 32 [u0, u1, u2, u3] [] h 0 0 Q := by
  refine x_dr0 ?_
  refine x_dr1 ?_
  refine x_dr2 ?_
  refine x_dr3 ?_
  refine x_iconst ((-1)) 33 dX9_set_32 rfl rfl ?_
  exact x_iret dX9_set_33 rfl (Nat.zero_le _) (Nat.zero_le _) hq
set_option maxRecDepth 20000 in
theorem B9_set_34 {ω : Om} {h : AH} {Q : Option Value → AH → Prop} {x0 : Nat} {x1 : Int32} {x2 : Int32} {u3 : Option Value} (hw : ω.2.2.2.1 = true) (s_x0 : gs h x0 = some (9, 17)) (kk : Ex ω M9_change 0 [some (.ref x0), none] [] h 0 0 (fun v h' => Ex ω M9_set 38 [some (.ref x0), some (.int x1), some (.int x2), none] (v.toList ++ []) h' 0 0 Q)) : Ex ω M9_set 34 [some (.ref x0), some (.int x1), some (.int x2), u3] [] h 0 0 Q := by
  refine x_dr3 ?_
  refine x_aload0 35 dX9_set_34 rfl ?_
  exact x_callV 38 x0 [] [] dX9_set_35 rfl lk_9_change ⟨wd203, wd204, wd205⟩ ⟨by decide, by decide⟩ (recvO cf9 (fun _ => s_x0)) rfl rfl (Nat.le_of_ble_eq_true rfl) (Nat.le_of_ble_eq_true rfl) (by decide) (by decide) kk
set_option maxRecDepth 20000 in
theorem B9_set_38 {ω : Om} {h : AH} {Q : Option Value → AH → Prop} {x0 : Nat} {x1 : Int32} {x2 : Int32} {u3 : Option Value} (hw : ω.2.2.2.1 = true) (s_x0 : gs h x0 = some (9, 17)) (i1 : vp_in ((nI 4) + x1) 596) (i2 : vp_in ((nI 4) + x1) 596) (hq : Q (some (.int (gi h (gr h x0 0) (Int32.toNatClampNeg ((nI 4) + x1))))) (si h (gr h x0 0) (Int32.toNatClampNeg ((nI 4) + x1)) x2)) : Ex ω M9_set 38 [some (.ref x0), some (.int x1), some (.int x2), u3] [] h 0 0 Q := by
  refine x_dr3 ?_
  refine x_aload0 39 dX9_set_38 rfl ?_
  refine x_getR cf9 0 42 hw dX9_set_39 rfl wd99 (fun _ => s_x0) (by decide) (by decide) rfl ?_
  refine x_iconst (nI 4) 43 dX9_set_42 rfl rfl ?_
  refine x_iload1 44 dX9_set_43 rfl ?_
  refine x_iadd 45 dX9_set_44 rfl ?_
  refine x_iald (Int32.toNatClampNeg ((nI 4) + x1)) 46 dX9_set_45 rfl (SH.fld hw (fun _ => s_x0) 0 (Nat.le_of_ble_eq_true rfl) rfl rfl) i1 rfl ?_
  refine x_istore3 47 dX9_set_46 rfl (by decide) rfl ?_
  refine x_aload0 48 dX9_set_47 rfl ?_
  refine x_getR cf9 0 51 hw dX9_set_48 rfl wd99 (fun _ => s_x0) (by decide) (by decide) rfl ?_
  refine x_iconst (nI 4) 52 dX9_set_51 rfl rfl ?_
  refine x_iload1 53 dX9_set_52 rfl ?_
  refine x_iadd 54 dX9_set_53 rfl ?_
  refine x_iload2 55 dX9_set_54 rfl ?_
  refine x_iast (Int32.toNatClampNeg ((nI 4) + x1)) 56 dX9_set_55 rfl (SH.fld hw (fun _ => s_x0) 0 (Nat.le_of_ble_eq_true rfl) rfl rfl) i2 rfl ?_
  refine x_iload3 57 dX9_set_56 rfl ?_
  exact x_iret dX9_set_57 rfl (Nat.zero_le _) (Nat.zero_le _) hq
set_option maxRecDepth 20000 in
theorem B9_count_0 {ω : Om} {h : AH} {Q : Option Value → AH → Prop} {x0 : Nat} {x1 : Int32} (hw : ω.2.2.2.1 = true) (c0 : x1 = nI 0 → Ex ω M9_count 52 [some (.ref x0), some (.int x1)] [] h 0 0 Q) (c1 : x1 = nI 1 → Ex ω M9_count 59 [some (.ref x0), some (.int x1)] [] h 0 0 Q) (c2 : x1 = nI 2 → Ex ω M9_count 66 [some (.ref x0), some (.int x1)] [] h 0 0 Q) (c3 : x1 = nI 3 → Ex ω M9_count 74 [some (.ref x0), some (.int x1)] [] h 0 0 Q) (c4 : x1 = nI 4 → Ex ω M9_count 81 [some (.ref x0), some (.int x1)] [] h 0 0 Q) (c5 : x1 = nI 5 → Ex ω M9_count 81 [some (.ref x0), some (.int x1)] [] h 0 0 Q) (c6 : x1 = nI 6 → Ex ω M9_count 88 [some (.ref x0), some (.int x1)] [] h 0 0 Q) (c7 : x1 = nI 7 → Ex ω M9_count 93 [some (.ref x0), some (.int x1)] [] h 0 0 Q) (c8 : x1 = nI 8 → Ex ω M9_count 98 [some (.ref x0), some (.int x1)] [] h 0 0 Q) (cd : (¬ (0 ≤ x1 ∧ x1 ≤ nI 8)) → Ex ω M9_count 106 [some (.ref x0), some (.int x1)] [] h 0 0 Q) : Ex ω M9_count 0 [some (.ref x0), some (.int x1)] [] h 0 0 Q := by
  refine x_iload1 1 dX9_count_0 rfl ?_
  refine x_tsw 8 [52, 59, 66, 74, 81, 81, 88, 93, 98] 106 dX9_count_1 (by decide) (by decide) (by decide) (by decide) (by decide) cd (fun j hj e => ?_)
  match j, hj with
  | 0, _ => exact c0 e
  | 1, _ => exact c1 e
  | 2, _ => exact c2 e
  | 3, _ => exact c3 e
  | 4, _ => exact c4 e
  | 5, _ => exact c5 e
  | 6, _ => exact c6 e
  | 7, _ => exact c7 e
  | 8, _ => exact c8 e
  | j + 9, hj => exact absurd hj (by simp)
set_option maxRecDepth 20000 in
theorem B9_count_52 {ω : Om} {h : AH} {Q : Option Value → AH → Prop} {x0 : Nat} {u1 : Option Value} (hw : ω.2.2.2.1 = true) (s_x0 : gs h x0 = some (9, 17)) (hq : Q (some (.int (gi h (gr h x0 0) 0))) h) : Ex ω M9_count 52 [some (.ref x0), u1] [] h 0 0 Q := by
  refine x_dr1 ?_
  refine x_aload0 53 dX9_count_52 rfl ?_
  refine x_getR cf9 0 56 hw dX9_count_53 rfl wd99 (fun _ => s_x0) (by decide) (by decide) rfl ?_
  refine x_iconst (nI 0) 57 dX9_count_56 rfl rfl ?_
  refine x_iald 0 58 dX9_count_57 rfl (SH.fld hw (fun _ => s_x0) 0 (Nat.le_of_ble_eq_true rfl) rfl rfl) (vp_c (by decide)) rfl ?_
  exact x_iret dX9_count_58 rfl (Nat.zero_le _) (Nat.zero_le _) hq
set_option maxRecDepth 20000 in
theorem B9_count_59 {ω : Om} {h : AH} {Q : Option Value → AH → Prop} {x0 : Nat} {u1 : Option Value} (hw : ω.2.2.2.1 = true) (s_x0 : gs h x0 = some (9, 17)) (hq : Q (some (.int (gi h (gr h x0 0) 1))) h) : Ex ω M9_count 59 [some (.ref x0), u1] [] h 0 0 Q := by
  refine x_dr1 ?_
  refine x_aload0 60 dX9_count_59 rfl ?_
  refine x_getR cf9 0 63 hw dX9_count_60 rfl wd99 (fun _ => s_x0) (by decide) (by decide) rfl ?_
  refine x_iconst (nI 1) 64 dX9_count_63 rfl rfl ?_
  refine x_iald 1 65 dX9_count_64 rfl (SH.fld hw (fun _ => s_x0) 0 (Nat.le_of_ble_eq_true rfl) rfl rfl) (vp_c (by decide)) rfl ?_
  exact x_iret dX9_count_65 rfl (Nat.zero_le _) (Nat.zero_le _) hq
set_option maxRecDepth 20000 in
theorem B9_count_66 {ω : Om} {h : AH} {Q : Option Value → AH → Prop} {x0 : Nat} {u1 : Option Value} (hw : ω.2.2.2.1 = true) (s_x0 : gs h x0 = some (9, 17)) (hq : Q (some (.int (gi h (gr h x0 0) 7))) h) : Ex ω M9_count 66 [some (.ref x0), u1] [] h 0 0 Q := by
  refine x_dr1 ?_
  refine x_aload0 67 dX9_count_66 rfl ?_
  refine x_getR cf9 0 70 hw dX9_count_67 rfl wd99 (fun _ => s_x0) (by decide) (by decide) rfl ?_
  refine x_bipush (nI 7) 72 dX9_count_70 rfl rfl ?_
  refine x_iald 7 73 dX9_count_72 rfl (SH.fld hw (fun _ => s_x0) 0 (Nat.le_of_ble_eq_true rfl) rfl rfl) (vp_c (by decide)) rfl ?_
  exact x_iret dX9_count_73 rfl (Nat.zero_le _) (Nat.zero_le _) hq
set_option maxRecDepth 20000 in
theorem B9_count_74 {ω : Om} {h : AH} {Q : Option Value → AH → Prop} {x0 : Nat} {u1 : Option Value} (hw : ω.2.2.2.1 = true) (s_x0 : gs h x0 = some (9, 17)) (hq : Q (some (.int (gi h (gr h x0 0) 3))) h) : Ex ω M9_count 74 [some (.ref x0), u1] [] h 0 0 Q := by
  refine x_dr1 ?_
  refine x_aload0 75 dX9_count_74 rfl ?_
  refine x_getR cf9 0 78 hw dX9_count_75 rfl wd99 (fun _ => s_x0) (by decide) (by decide) rfl ?_
  refine x_iconst (nI 3) 79 dX9_count_78 rfl rfl ?_
  refine x_iald 3 80 dX9_count_79 rfl (SH.fld hw (fun _ => s_x0) 0 (Nat.le_of_ble_eq_true rfl) rfl rfl) (vp_c (by decide)) rfl ?_
  exact x_iret dX9_count_80 rfl (Nat.zero_le _) (Nat.zero_le _) hq
set_option maxRecDepth 20000 in
theorem B9_count_81 {ω : Om} {h : AH} {Q : Option Value → AH → Prop} {x0 : Nat} {x1 : Int32} (hw : ω.2.2.2.1 = true) (s_x0 : gs h x0 = some (9, 17)) (i1 : vp_in x1 596) (hq : Q (some (.int (gi h (gr h x0 0) (Int32.toNatClampNeg x1)))) h) : Ex ω M9_count 81 [some (.ref x0), some (.int x1)] [] h 0 0 Q := by
  refine x_aload0 82 dX9_count_81 rfl ?_
  refine x_getR cf9 0 85 hw dX9_count_82 rfl wd99 (fun _ => s_x0) (by decide) (by decide) rfl ?_
  refine x_iload1 86 dX9_count_85 rfl ?_
  refine x_iald (Int32.toNatClampNeg x1) 87 dX9_count_86 rfl (SH.fld hw (fun _ => s_x0) 0 (Nat.le_of_ble_eq_true rfl) rfl rfl) i1 rfl ?_
  exact x_iret dX9_count_87 rfl (Nat.zero_le _) (Nat.zero_le _) hq
set_option maxRecDepth 20000 in
theorem B9_count_88 {ω : Om} {h : AH} {Q : Option Value → AH → Prop} {x0 : Nat} {u1 : Option Value} (hw : ω.2.2.2.1 = true) (s_x0 : gs h x0 = some (9, 17)) (hq : Q (some (.int (gi h x0 2))) h) : Ex ω M9_count 88 [some (.ref x0), u1] [] h 0 0 Q := by
  refine x_dr1 ?_
  refine x_aload0 89 dX9_count_88 rfl ?_
  refine x_getI cf9 2 92 dX9_count_89 rfl wd207 (fun _ => s_x0) (by decide) rfl ?_
  exact x_iret dX9_count_92 rfl (Nat.zero_le _) (Nat.zero_le _) hq
set_option maxRecDepth 20000 in
theorem B9_count_93 {ω : Om} {h : AH} {Q : Option Value → AH → Prop} {x0 : Nat} {u1 : Option Value} (hw : ω.2.2.2.1 = true) (s_x0 : gs h x0 = some (9, 17)) (hq : Q (some (.int (gi h x0 5))) h) : Ex ω M9_count 93 [some (.ref x0), u1] [] h 0 0 Q := by
  refine x_dr1 ?_
  refine x_aload0 94 dX9_count_93 rfl ?_
  refine x_getI cf9 5 97 dX9_count_94 rfl wd359 (fun _ => s_x0) (by decide) rfl ?_
  exact x_iret dX9_count_97 rfl (Nat.zero_le _) (Nat.zero_le _) hq
set_option maxRecDepth 20000 in
theorem B9_count_98 {ω : Om} {h : AH} {Q : Option Value → AH → Prop} {x0 : Nat} {u1 : Option Value} (hw : ω.2.2.2.1 = true) (s_x0 : gs h x0 = some (9, 17)) (hq : Q (some (.int (gi h (gr h x0 0) 6))) h) : Ex ω M9_count 98 [some (.ref x0), u1] [] h 0 0 Q := by
  refine x_dr1 ?_
  refine x_aload0 99 dX9_count_98 rfl ?_
  refine x_getR cf9 0 102 hw dX9_count_99 rfl wd99 (fun _ => s_x0) (by decide) (by decide) rfl ?_
  refine x_bipush (nI 6) 104 dX9_count_102 rfl rfl ?_
  refine x_iald 6 105 dX9_count_104 rfl (SH.fld hw (fun _ => s_x0) 0 (Nat.le_of_ble_eq_true rfl) rfl rfl) (vp_c (by decide)) rfl ?_
  exact x_iret dX9_count_105 rfl (Nat.zero_le _) (Nat.zero_le _) hq
set_option maxRecDepth 20000 in
theorem B9_count_106 {ω : Om} {h : AH} {Q : Option Value → AH → Prop} {u0 : Option Value} {u1 : Option Value} (hw : ω.2.2.2.1 = true) (hq : Q (some (.int ((-1)))) h) : Ex ω M9_count 106 [u0, u1] [] h 0 0 Q := by
  refine x_dr0 ?_
  refine x_dr1 ?_
  refine x_iconst ((-1)) 107 dX9_count_106 rfl rfl ?_
  exact x_iret dX9_count_107 rfl (Nat.zero_le _) (Nat.zero_le _) hq
set_option maxRecDepth 20000 in
theorem B9_type_0 {ω : Om} {h : AH} {Q : Option Value → AH → Prop} {x0 : Nat} {x1 : Int32} (hw : ω.2.2.2.1 = true) (kk : Ex ω M9_in 0 [some (.long (Int32.toInt64 x1)), none, some (.long ((32 : Int64))), none, some (.long ((126 : Int64))), none] [] h 0 0 (fun v h' => Ex ω M9_type 11 [some (.ref x0), some (.int x1)] (v.toList ++ []) h' 0 0 Q)) : Ex ω M9_type 0 [some (.ref x0), some (.int x1)] [] h 0 0 Q := by
  refine x_iload1 1 dX9_type_0 rfl ?_
  refine x_i2l 2 dX9_type_1 rfl ?_
  refine x_ldc2 32 5 dX9_type_2 rfl wd373 ?_
  refine x_ldc2 126 8 dX9_type_5 rfl wd374 ?_
  exact x_callS 11 [.long (Int32.toInt64 x1), .long ((32 : Int64)), .long ((126 : Int64))] [] dX9_type_8 rfl lk_9_in ⟨wd200, wd201⟩ ⟨by decide, by decide⟩ rfl rfl (Nat.le_of_ble_eq_true rfl) (Nat.le_of_ble_eq_true rfl) (by decide) (by decide) kk
set_option maxRecDepth 20000 in
theorem B9_type_11 {ω : Om} {h : AH} {Q : Option Value → AH → Prop} {x0 : Nat} {x1 : Int32} {y0 : Int32} (hw : ω.2.2.2.1 = true) (kt : ¬ y0 = 0 → Ex ω M9_type 16 [some (.ref x0), some (.int x1)] [] h 0 0 Q) (kf : y0 = 0 → Ex ω M9_type 14 [some (.ref x0), some (.int x1)] [] h 0 0 Q) : Ex ω M9_type 11 [some (.ref x0), some (.int x1)] [.int y0] h 0 0 Q := by
  exact x_if_ne 14 16 dX9_type_11 rfl (by decide) kt kf
set_option maxRecDepth 20000 in
theorem B9_type_14 {ω : Om} {h : AH} {Q : Option Value → AH → Prop} {u0 : Option Value} {u1 : Option Value} (hw : ω.2.2.2.1 = true) (hq : Q (some (.int ((-1)))) h) : Ex ω M9_type 14 [u0, u1] [] h 0 0 Q := by
  refine x_dr0 ?_
  refine x_dr1 ?_
  refine x_iconst ((-1)) 15 dX9_type_14 rfl rfl ?_
  exact x_iret dX9_type_15 rfl (Nat.zero_le _) (Nat.zero_le _) hq
set_option maxRecDepth 20000 in
theorem B9_type_16 {ω : Om} {h : AH} {Q : Option Value → AH → Prop} {x0 : Nat} {x1 : Int32} (hw : ω.2.2.2.1 = true) (s_x0 : gs h x0 = some (9, 17)) (kt : ¬ (gi h x0 5) = (nI 100) → Ex ω M9_type 28 [some (.ref x0), some (.int x1)] [] h 0 0 Q) (kf : (gi h x0 5) = (nI 100) → Ex ω M9_type 25 [some (.ref x0), some (.int x1)] [] h 0 0 Q) : Ex ω M9_type 16 [some (.ref x0), some (.int x1)] [] h 0 0 Q := by
  refine x_aload0 17 dX9_type_16 rfl ?_
  refine x_getI cf9 5 20 dX9_type_17 rfl wd359 (fun _ => s_x0) (by decide) rfl ?_
  refine x_bipush (nI 100) 22 dX9_type_20 rfl rfl ?_
  exact x_icmp_ne 25 28 dX9_type_22 rfl (by decide) kt kf
set_option maxRecDepth 20000 in
theorem B9_type_25 {ω : Om} {h : AH} {Q : Option Value → AH → Prop} {u0 : Option Value} {u1 : Option Value} (hw : ω.2.2.2.1 = true) (hq : Q (some (.int ((-3)))) h) : Ex ω M9_type 25 [u0, u1] [] h 0 0 Q := by
  refine x_dr0 ?_
  refine x_dr1 ?_
  refine x_bipush ((-3)) 27 dX9_type_25 rfl rfl ?_
  exact x_iret dX9_type_27 rfl (Nat.zero_le _) (Nat.zero_le _) hq
set_option maxRecDepth 20000 in
theorem B9_type_28 {ω : Om} {h : AH} {Q : Option Value → AH → Prop} {x0 : Nat} {x1 : Int32} (hw : ω.2.2.2.1 = true) (s_x0 : gs h x0 = some (9, 17)) (i1 : vp_in (gi h x0 5) 100) (kf : Ex ω M9_type 48 [some (.ref x0), some (.int x1)] [] (si (si h (gr h x0 4) (Int32.toNatClampNeg (gi h x0 5)) x1) x0 5 ((gi (si h (gr h x0 4) (Int32.toNatClampNeg (gi h x0 5)) x1) x0 5) + (nI 1))) 0 0 Q) : Ex ω M9_type 28 [some (.ref x0), some (.int x1)] [] h 0 0 Q := by
  refine x_aload0 29 dX9_type_28 rfl ?_
  refine x_getR cf9 4 32 hw dX9_type_29 rfl wd102 (fun _ => s_x0) (by decide) (by decide) rfl ?_
  refine x_aload0 33 dX9_type_32 rfl ?_
  refine x_getI cf9 5 36 dX9_type_33 rfl wd359 (fun _ => s_x0) (by decide) rfl ?_
  refine x_iload1 37 dX9_type_36 rfl ?_
  refine x_iast (Int32.toNatClampNeg (gi h x0 5)) 38 dX9_type_37 rfl (SH.fld hw (fun _ => s_x0) 4 (Nat.le_of_ble_eq_true rfl) rfl rfl) i1 rfl ?_
  refine x_aload0 39 dX9_type_38 rfl ?_
  refine x_dup 40 dX9_type_39 rfl rfl ?_
  refine x_getI cf9 5 43 dX9_type_40 rfl wd359 (fun _ => s_x0) (by decide) rfl ?_
  refine x_iconst (nI 1) 44 dX9_type_43 rfl rfl ?_
  refine x_iadd 45 dX9_type_44 rfl ?_
  refine x_putI cf9 5 48 dX9_type_45 rfl wd359 (fun _ => s_x0) (by decide) rfl rfl ?_
  exact kf
set_option maxRecDepth 20000 in
theorem B9_type_48 {ω : Om} {h : AH} {Q : Option Value → AH → Prop} {x0 : Nat} {u1 : Option Value} (hw : ω.2.2.2.1 = true) (s_x0 : gs h x0 = some (9, 17)) (hq : Q (some (.int (gi h x0 5))) h) : Ex ω M9_type 48 [some (.ref x0), u1] [] h 0 0 Q := by
  refine x_dr1 ?_
  refine x_aload0 49 dX9_type_48 rfl ?_
  refine x_getI cf9 5 52 dX9_type_49 rfl wd359 (fun _ => s_x0) (by decide) rfl ?_
  exact x_iret dX9_type_52 rfl (Nat.zero_le _) (Nat.zero_le _) hq
set_option maxRecDepth 20000 in
theorem B9_clearText_0 {ω : Om} {h : AH} {Q : Option Value → AH → Prop} {x0 : Nat} {u1 : Option Value} (hw : ω.2.2.2.1 = true) (s_x0 : gs h x0 = some (9, 17)) (hq : Q (some (.int (gi h x0 5))) (si h x0 5 (nI 0))) : Ex ω M9_clearText 0 [some (.ref x0), u1] [] h 0 0 Q := by
  refine x_dr1 ?_
  refine x_aload0 1 dX9_clearText_0 rfl ?_
  refine x_getI cf9 5 4 dX9_clearText_1 rfl wd359 (fun _ => s_x0) (by decide) rfl ?_
  refine x_istore1 5 dX9_clearText_4 rfl (by decide) rfl ?_
  refine x_aload0 6 dX9_clearText_5 rfl ?_
  refine x_iconst (nI 0) 7 dX9_clearText_6 rfl rfl ?_
  refine x_putI cf9 5 10 dX9_clearText_7 rfl wd359 (fun _ => s_x0) (by decide) rfl rfl ?_
  refine x_iload1 11 dX9_clearText_10 rfl ?_
  exact x_iret dX9_clearText_11 rfl (Nat.zero_le _) (Nat.zero_le _) hq
set_option maxRecDepth 20000 in
theorem B9_nameSize_0 {ω : Om} {h : AH} {Q : Option Value → AH → Prop} {x0 : Int32} (hw : ω.2.2.2.1 = true) (kt : x0 = 0 → Ex ω M9_nameSize 9 [some (.int x0)] [] h 0 0 Q) (kf : ¬ x0 = 0 → Ex ω M9_nameSize 4 [some (.int x0)] [] h 0 0 Q) : Ex ω M9_nameSize 0 [some (.int x0)] [] h 0 0 Q := by
  refine x_iload0 1 dX9_nameSize_0 rfl ?_
  exact x_if_eq 4 9 dX9_nameSize_1 rfl (by decide) kt kf
set_option maxRecDepth 20000 in
theorem B9_nameSize_4 {ω : Om} {h : AH} {Q : Option Value → AH → Prop} {x0 : Int32} (hw : ω.2.2.2.1 = true) (kt : ¬ x0 = (nI 2) → Ex ω M9_nameSize 13 [some (.int x0)] [] h 0 0 Q) (kf : x0 = (nI 2) → Ex ω M9_nameSize 9 [some (.int x0)] [] h 0 0 Q) : Ex ω M9_nameSize 4 [some (.int x0)] [] h 0 0 Q := by
  refine x_iload0 5 dX9_nameSize_4 rfl ?_
  refine x_iconst (nI 2) 6 dX9_nameSize_5 rfl rfl ?_
  exact x_icmp_ne 9 13 dX9_nameSize_6 rfl (by decide) kt kf
set_option maxRecDepth 20000 in
theorem B9_nameSize_9 {ω : Om} {h : AH} {Q : Option Value → AH → Prop} {u0 : Option Value} (hw : ω.2.2.2.1 = true) (kt : Ex ω M9_nameSize 24 [none] [.int (nI 4)] h 0 0 Q) : Ex ω M9_nameSize 9 [u0] [] h 0 0 Q := by
  refine x_dr0 ?_
  refine x_iconst (nI 4) 10 dX9_nameSize_9 rfl rfl ?_
  exact x_goto 24 dX9_nameSize_10 (by decide) kt
set_option maxRecDepth 20000 in
theorem B9_nameSize_13 {ω : Om} {h : AH} {Q : Option Value → AH → Prop} {x0 : Int32} (hw : ω.2.2.2.1 = true) (kt : ¬ x0 = (nI 1) → Ex ω M9_nameSize 22 [some (.int x0)] [] h 0 0 Q) (kf : x0 = (nI 1) → Ex ω M9_nameSize 18 [some (.int x0)] [] h 0 0 Q) : Ex ω M9_nameSize 13 [some (.int x0)] [] h 0 0 Q := by
  refine x_iload0 14 dX9_nameSize_13 rfl ?_
  refine x_iconst (nI 1) 15 dX9_nameSize_14 rfl rfl ?_
  exact x_icmp_ne 18 22 dX9_nameSize_15 rfl (by decide) kt kf
set_option maxRecDepth 20000 in
theorem B9_nameSize_18 {ω : Om} {h : AH} {Q : Option Value → AH → Prop} {u0 : Option Value} (hw : ω.2.2.2.1 = true) (kt : Ex ω M9_nameSize 24 [none] [.int (nI 2)] h 0 0 Q) : Ex ω M9_nameSize 18 [u0] [] h 0 0 Q := by
  refine x_dr0 ?_
  refine x_iconst (nI 2) 19 dX9_nameSize_18 rfl rfl ?_
  exact x_goto 24 dX9_nameSize_19 (by decide) kt
set_option maxRecDepth 20000 in
theorem B9_nameSize_22 {ω : Om} {h : AH} {Q : Option Value → AH → Prop} {u0 : Option Value} (hw : ω.2.2.2.1 = true) (kf : Ex ω M9_nameSize 24 [none] [.int (nI 7)] h 0 0 Q) : Ex ω M9_nameSize 22 [u0] [] h 0 0 Q := by
  refine x_dr0 ?_
  refine x_bipush (nI 7) 24 dX9_nameSize_22 rfl rfl ?_
  exact kf
set_option maxRecDepth 20000 in
theorem B9_nameSize_24 {ω : Om} {h : AH} {Q : Option Value → AH → Prop} {u0 : Option Value} {y0 : Int32} (hw : ω.2.2.2.1 = true) (hq : Q (some (.int y0)) h) : Ex ω M9_nameSize 24 [u0] [.int y0] h 0 0 Q := by
  refine x_dr0 ?_
  exact x_iret dX9_nameSize_24 rfl (Nat.zero_le _) (Nat.zero_le _) hq
set_option maxRecDepth 20000 in
theorem B9_nameAt_0 {ω : Om} {h : AH} {Q : Option Value → AH → Prop} {x0 : Int32} {x1 : Int32} (hw : ω.2.2.2.1 = true) (c0 : x0 = nI 0 → Ex ω M9_nameAt 32 [some (.int x0), some (.int x1)] [] h 0 0 Q) (c1 : x0 = nI 1 → Ex ω M9_nameAt 64 [some (.int x0), some (.int x1)] [] h 0 0 Q) (c2 : x0 = nI 2 → Ex ω M9_nameAt 76 [some (.int x0), some (.int x1)] [] h 0 0 Q) (c3 : x0 = nI 3 → Ex ω M9_nameAt 108 [some (.int x0), some (.int x1)] [] h 0 0 Q) (cd : (¬ (0 ≤ x0 ∧ x0 ≤ nI 3)) → Ex ω M9_nameAt 166 [some (.int x0), some (.int x1)] [] h 0 0 Q) : Ex ω M9_nameAt 0 [some (.int x0), some (.int x1)] [] h 0 0 Q := by
  refine x_iload0 1 dX9_nameAt_0 rfl ?_
  refine x_tsw 3 [32, 64, 76, 108] 166 dX9_nameAt_1 (by decide) (by decide) (by decide) (by decide) (by decide) cd (fun j hj e => ?_)
  match j, hj with
  | 0, _ => exact c0 e
  | 1, _ => exact c1 e
  | 2, _ => exact c2 e
  | 3, _ => exact c3 e
  | j + 4, hj => exact absurd hj (by simp)
set_option maxRecDepth 20000 in
theorem B9_nameAt_32 {ω : Om} {h : AH} {Q : Option Value → AH → Prop} {u0 : Option Value} {x1 : Int32} (hw : ω.2.2.2.1 = true) (kt : ¬ x1 = 0 → Ex ω M9_nameAt 41 [none, some (.int x1)] [] h 0 0 Q) (kf : x1 = 0 → Ex ω M9_nameAt 36 [none, some (.int x1)] [] h 0 0 Q) : Ex ω M9_nameAt 32 [u0, some (.int x1)] [] h 0 0 Q := by
  refine x_dr0 ?_
  refine x_iload1 33 dX9_nameAt_32 rfl ?_
  exact x_if_ne 36 41 dX9_nameAt_33 rfl (by decide) kt kf
set_option maxRecDepth 20000 in
theorem B9_nameAt_36 {ω : Om} {h : AH} {Q : Option Value → AH → Prop} {u0 : Option Value} {u1 : Option Value} (hw : ω.2.2.2.1 = true) (kt : Ex ω M9_nameAt 63 [none, none] [.int (nI 115)] h 0 0 Q) : Ex ω M9_nameAt 36 [u0, u1] [] h 0 0 Q := by
  refine x_dr0 ?_
  refine x_dr1 ?_
  refine x_bipush (nI 115) 38 dX9_nameAt_36 rfl rfl ?_
  exact x_goto 63 dX9_nameAt_38 (by decide) kt
set_option maxRecDepth 20000 in
theorem B9_nameAt_41 {ω : Om} {h : AH} {Q : Option Value → AH → Prop} {u0 : Option Value} {x1 : Int32} (hw : ω.2.2.2.1 = true) (kt : ¬ x1 = (nI 1) → Ex ω M9_nameAt 51 [none, some (.int x1)] [] h 0 0 Q) (kf : x1 = (nI 1) → Ex ω M9_nameAt 46 [none, some (.int x1)] [] h 0 0 Q) : Ex ω M9_nameAt 41 [u0, some (.int x1)] [] h 0 0 Q := by
  refine x_dr0 ?_
  refine x_iload1 42 dX9_nameAt_41 rfl ?_
  refine x_iconst (nI 1) 43 dX9_nameAt_42 rfl rfl ?_
  exact x_icmp_ne 46 51 dX9_nameAt_43 rfl (by decide) kt kf
set_option maxRecDepth 20000 in
theorem B9_nameAt_46 {ω : Om} {h : AH} {Q : Option Value → AH → Prop} {u0 : Option Value} {u1 : Option Value} (hw : ω.2.2.2.1 = true) (kt : Ex ω M9_nameAt 63 [none, none] [.int (nI 116)] h 0 0 Q) : Ex ω M9_nameAt 46 [u0, u1] [] h 0 0 Q := by
  refine x_dr0 ?_
  refine x_dr1 ?_
  refine x_bipush (nI 116) 48 dX9_nameAt_46 rfl rfl ?_
  exact x_goto 63 dX9_nameAt_48 (by decide) kt
set_option maxRecDepth 20000 in
theorem B9_nameAt_51 {ω : Om} {h : AH} {Q : Option Value → AH → Prop} {u0 : Option Value} {x1 : Int32} (hw : ω.2.2.2.1 = true) (kt : ¬ x1 = (nI 2) → Ex ω M9_nameAt 61 [none, some (.int x1)] [] h 0 0 Q) (kf : x1 = (nI 2) → Ex ω M9_nameAt 56 [none, some (.int x1)] [] h 0 0 Q) : Ex ω M9_nameAt 51 [u0, some (.int x1)] [] h 0 0 Q := by
  refine x_dr0 ?_
  refine x_iload1 52 dX9_nameAt_51 rfl ?_
  refine x_iconst (nI 2) 53 dX9_nameAt_52 rfl rfl ?_
  exact x_icmp_ne 56 61 dX9_nameAt_53 rfl (by decide) kt kf
set_option maxRecDepth 20000 in
theorem B9_nameAt_56 {ω : Om} {h : AH} {Q : Option Value → AH → Prop} {u0 : Option Value} {u1 : Option Value} (hw : ω.2.2.2.1 = true) (kt : Ex ω M9_nameAt 63 [none, none] [.int (nI 97)] h 0 0 Q) : Ex ω M9_nameAt 56 [u0, u1] [] h 0 0 Q := by
  refine x_dr0 ?_
  refine x_dr1 ?_
  refine x_bipush (nI 97) 58 dX9_nameAt_56 rfl rfl ?_
  exact x_goto 63 dX9_nameAt_58 (by decide) kt
set_option maxRecDepth 20000 in
theorem B9_nameAt_61 {ω : Om} {h : AH} {Q : Option Value → AH → Prop} {u0 : Option Value} {u1 : Option Value} (hw : ω.2.2.2.1 = true) (kf : Ex ω M9_nameAt 63 [none, none] [.int (nI 121)] h 0 0 Q) : Ex ω M9_nameAt 61 [u0, u1] [] h 0 0 Q := by
  refine x_dr0 ?_
  refine x_dr1 ?_
  refine x_bipush (nI 121) 63 dX9_nameAt_61 rfl rfl ?_
  exact kf
set_option maxRecDepth 20000 in
theorem B9_nameAt_63 {ω : Om} {h : AH} {Q : Option Value → AH → Prop} {u0 : Option Value} {u1 : Option Value} {y0 : Int32} (hw : ω.2.2.2.1 = true) (hq : Q (some (.int y0)) h) : Ex ω M9_nameAt 63 [u0, u1] [.int y0] h 0 0 Q := by
  refine x_dr0 ?_
  refine x_dr1 ?_
  exact x_iret dX9_nameAt_63 rfl (Nat.zero_le _) (Nat.zero_le _) hq
set_option maxRecDepth 20000 in
theorem B9_nameAt_64 {ω : Om} {h : AH} {Q : Option Value → AH → Prop} {u0 : Option Value} {x1 : Int32} (hw : ω.2.2.2.1 = true) (kt : ¬ x1 = 0 → Ex ω M9_nameAt 73 [none, some (.int x1)] [] h 0 0 Q) (kf : x1 = 0 → Ex ω M9_nameAt 68 [none, some (.int x1)] [] h 0 0 Q) : Ex ω M9_nameAt 64 [u0, some (.int x1)] [] h 0 0 Q := by
  refine x_dr0 ?_
  refine x_iload1 65 dX9_nameAt_64 rfl ?_
  exact x_if_ne 68 73 dX9_nameAt_65 rfl (by decide) kt kf
set_option maxRecDepth 20000 in
theorem B9_nameAt_68 {ω : Om} {h : AH} {Q : Option Value → AH → Prop} {u0 : Option Value} {u1 : Option Value} (hw : ω.2.2.2.1 = true) (kt : Ex ω M9_nameAt 75 [none, none] [.int (nI 117)] h 0 0 Q) : Ex ω M9_nameAt 68 [u0, u1] [] h 0 0 Q := by
  refine x_dr0 ?_
  refine x_dr1 ?_
  refine x_bipush (nI 117) 70 dX9_nameAt_68 rfl rfl ?_
  exact x_goto 75 dX9_nameAt_70 (by decide) kt
set_option maxRecDepth 20000 in
theorem B9_nameAt_73 {ω : Om} {h : AH} {Q : Option Value → AH → Prop} {u0 : Option Value} {u1 : Option Value} (hw : ω.2.2.2.1 = true) (kf : Ex ω M9_nameAt 75 [none, none] [.int (nI 112)] h 0 0 Q) : Ex ω M9_nameAt 73 [u0, u1] [] h 0 0 Q := by
  refine x_dr0 ?_
  refine x_dr1 ?_
  refine x_bipush (nI 112) 75 dX9_nameAt_73 rfl rfl ?_
  exact kf
set_option maxRecDepth 20000 in
theorem B9_nameAt_75 {ω : Om} {h : AH} {Q : Option Value → AH → Prop} {u0 : Option Value} {u1 : Option Value} {y0 : Int32} (hw : ω.2.2.2.1 = true) (hq : Q (some (.int y0)) h) : Ex ω M9_nameAt 75 [u0, u1] [.int y0] h 0 0 Q := by
  refine x_dr0 ?_
  refine x_dr1 ?_
  exact x_iret dX9_nameAt_75 rfl (Nat.zero_le _) (Nat.zero_le _) hq
set_option maxRecDepth 20000 in
theorem B9_nameAt_76 {ω : Om} {h : AH} {Q : Option Value → AH → Prop} {u0 : Option Value} {x1 : Int32} (hw : ω.2.2.2.1 = true) (kt : ¬ x1 = 0 → Ex ω M9_nameAt 85 [none, some (.int x1)] [] h 0 0 Q) (kf : x1 = 0 → Ex ω M9_nameAt 80 [none, some (.int x1)] [] h 0 0 Q) : Ex ω M9_nameAt 76 [u0, some (.int x1)] [] h 0 0 Q := by
  refine x_dr0 ?_
  refine x_iload1 77 dX9_nameAt_76 rfl ?_
  exact x_if_ne 80 85 dX9_nameAt_77 rfl (by decide) kt kf
set_option maxRecDepth 20000 in
theorem B9_nameAt_80 {ω : Om} {h : AH} {Q : Option Value → AH → Prop} {u0 : Option Value} {u1 : Option Value} (hw : ω.2.2.2.1 = true) (kt : Ex ω M9_nameAt 107 [none, none] [.int (nI 100)] h 0 0 Q) : Ex ω M9_nameAt 80 [u0, u1] [] h 0 0 Q := by
  refine x_dr0 ?_
  refine x_dr1 ?_
  refine x_bipush (nI 100) 82 dX9_nameAt_80 rfl rfl ?_
  exact x_goto 107 dX9_nameAt_82 (by decide) kt
set_option maxRecDepth 20000 in
theorem B9_nameAt_85 {ω : Om} {h : AH} {Q : Option Value → AH → Prop} {u0 : Option Value} {x1 : Int32} (hw : ω.2.2.2.1 = true) (kt : ¬ x1 = (nI 1) → Ex ω M9_nameAt 95 [none, some (.int x1)] [] h 0 0 Q) (kf : x1 = (nI 1) → Ex ω M9_nameAt 90 [none, some (.int x1)] [] h 0 0 Q) : Ex ω M9_nameAt 85 [u0, some (.int x1)] [] h 0 0 Q := by
  refine x_dr0 ?_
  refine x_iload1 86 dX9_nameAt_85 rfl ?_
  refine x_iconst (nI 1) 87 dX9_nameAt_86 rfl rfl ?_
  exact x_icmp_ne 90 95 dX9_nameAt_87 rfl (by decide) kt kf
set_option maxRecDepth 20000 in
theorem B9_nameAt_90 {ω : Om} {h : AH} {Q : Option Value → AH → Prop} {u0 : Option Value} {u1 : Option Value} (hw : ω.2.2.2.1 = true) (kt : Ex ω M9_nameAt 107 [none, none] [.int (nI 111)] h 0 0 Q) : Ex ω M9_nameAt 90 [u0, u1] [] h 0 0 Q := by
  refine x_dr0 ?_
  refine x_dr1 ?_
  refine x_bipush (nI 111) 92 dX9_nameAt_90 rfl rfl ?_
  exact x_goto 107 dX9_nameAt_92 (by decide) kt
set_option maxRecDepth 20000 in
theorem B9_nameAt_95 {ω : Om} {h : AH} {Q : Option Value → AH → Prop} {u0 : Option Value} {x1 : Int32} (hw : ω.2.2.2.1 = true) (kt : ¬ x1 = (nI 2) → Ex ω M9_nameAt 105 [none, some (.int x1)] [] h 0 0 Q) (kf : x1 = (nI 2) → Ex ω M9_nameAt 100 [none, some (.int x1)] [] h 0 0 Q) : Ex ω M9_nameAt 95 [u0, some (.int x1)] [] h 0 0 Q := by
  refine x_dr0 ?_
  refine x_iload1 96 dX9_nameAt_95 rfl ?_
  refine x_iconst (nI 2) 97 dX9_nameAt_96 rfl rfl ?_
  exact x_icmp_ne 100 105 dX9_nameAt_97 rfl (by decide) kt kf
set_option maxRecDepth 20000 in
theorem B9_nameAt_100 {ω : Om} {h : AH} {Q : Option Value → AH → Prop} {u0 : Option Value} {u1 : Option Value} (hw : ω.2.2.2.1 = true) (kt : Ex ω M9_nameAt 107 [none, none] [.int (nI 119)] h 0 0 Q) : Ex ω M9_nameAt 100 [u0, u1] [] h 0 0 Q := by
  refine x_dr0 ?_
  refine x_dr1 ?_
  refine x_bipush (nI 119) 102 dX9_nameAt_100 rfl rfl ?_
  exact x_goto 107 dX9_nameAt_102 (by decide) kt
set_option maxRecDepth 20000 in
theorem B9_nameAt_105 {ω : Om} {h : AH} {Q : Option Value → AH → Prop} {u0 : Option Value} {u1 : Option Value} (hw : ω.2.2.2.1 = true) (kf : Ex ω M9_nameAt 107 [none, none] [.int (nI 110)] h 0 0 Q) : Ex ω M9_nameAt 105 [u0, u1] [] h 0 0 Q := by
  refine x_dr0 ?_
  refine x_dr1 ?_
  refine x_bipush (nI 110) 107 dX9_nameAt_105 rfl rfl ?_
  exact kf
set_option maxRecDepth 20000 in
theorem B9_nameAt_107 {ω : Om} {h : AH} {Q : Option Value → AH → Prop} {u0 : Option Value} {u1 : Option Value} {y0 : Int32} (hw : ω.2.2.2.1 = true) (hq : Q (some (.int y0)) h) : Ex ω M9_nameAt 107 [u0, u1] [.int y0] h 0 0 Q := by
  refine x_dr0 ?_
  refine x_dr1 ?_
  exact x_iret dX9_nameAt_107 rfl (Nat.zero_le _) (Nat.zero_le _) hq
set_option maxRecDepth 20000 in
theorem B9_nameAt_108 {ω : Om} {h : AH} {Q : Option Value → AH → Prop} {u0 : Option Value} {x1 : Int32} (hw : ω.2.2.2.1 = true) (kt : ¬ x1 = 0 → Ex ω M9_nameAt 117 [none, some (.int x1)] [] h 0 0 Q) (kf : x1 = 0 → Ex ω M9_nameAt 112 [none, some (.int x1)] [] h 0 0 Q) : Ex ω M9_nameAt 108 [u0, some (.int x1)] [] h 0 0 Q := by
  refine x_dr0 ?_
  refine x_iload1 109 dX9_nameAt_108 rfl ?_
  exact x_if_ne 112 117 dX9_nameAt_109 rfl (by decide) kt kf
set_option maxRecDepth 20000 in
theorem B9_nameAt_112 {ω : Om} {h : AH} {Q : Option Value → AH → Prop} {u0 : Option Value} {u1 : Option Value} (hw : ω.2.2.2.1 = true) (kt : Ex ω M9_nameAt 165 [none, none] [.int (nI 116)] h 0 0 Q) : Ex ω M9_nameAt 112 [u0, u1] [] h 0 0 Q := by
  refine x_dr0 ?_
  refine x_dr1 ?_
  refine x_bipush (nI 116) 114 dX9_nameAt_112 rfl rfl ?_
  exact x_goto 165 dX9_nameAt_114 (by decide) kt
set_option maxRecDepth 20000 in
theorem B9_nameAt_117 {ω : Om} {h : AH} {Q : Option Value → AH → Prop} {u0 : Option Value} {x1 : Int32} (hw : ω.2.2.2.1 = true) (kt : ¬ x1 = (nI 1) → Ex ω M9_nameAt 127 [none, some (.int x1)] [] h 0 0 Q) (kf : x1 = (nI 1) → Ex ω M9_nameAt 122 [none, some (.int x1)] [] h 0 0 Q) : Ex ω M9_nameAt 117 [u0, some (.int x1)] [] h 0 0 Q := by
  refine x_dr0 ?_
  refine x_iload1 118 dX9_nameAt_117 rfl ?_
  refine x_iconst (nI 1) 119 dX9_nameAt_118 rfl rfl ?_
  exact x_icmp_ne 122 127 dX9_nameAt_119 rfl (by decide) kt kf
set_option maxRecDepth 20000 in
theorem B9_nameAt_122 {ω : Om} {h : AH} {Q : Option Value → AH → Prop} {u0 : Option Value} {u1 : Option Value} (hw : ω.2.2.2.1 = true) (kt : Ex ω M9_nameAt 165 [none, none] [.int (nI 101)] h 0 0 Q) : Ex ω M9_nameAt 122 [u0, u1] [] h 0 0 Q := by
  refine x_dr0 ?_
  refine x_dr1 ?_
  refine x_bipush (nI 101) 124 dX9_nameAt_122 rfl rfl ?_
  exact x_goto 165 dX9_nameAt_124 (by decide) kt
set_option maxRecDepth 20000 in
theorem B9_nameAt_127 {ω : Om} {h : AH} {Q : Option Value → AH → Prop} {u0 : Option Value} {x1 : Int32} (hw : ω.2.2.2.1 = true) (kt : x1 = (nI 2) → Ex ω M9_nameAt 138 [none, some (.int x1)] [] h 0 0 Q) (kf : ¬ x1 = (nI 2) → Ex ω M9_nameAt 132 [none, some (.int x1)] [] h 0 0 Q) : Ex ω M9_nameAt 127 [u0, some (.int x1)] [] h 0 0 Q := by
  refine x_dr0 ?_
  refine x_iload1 128 dX9_nameAt_127 rfl ?_
  refine x_iconst (nI 2) 129 dX9_nameAt_128 rfl rfl ?_
  exact x_icmp_eq 132 138 dX9_nameAt_129 rfl (by decide) kt kf
set_option maxRecDepth 20000 in
theorem B9_nameAt_132 {ω : Om} {h : AH} {Q : Option Value → AH → Prop} {u0 : Option Value} {x1 : Int32} (hw : ω.2.2.2.1 = true) (kt : ¬ x1 = (nI 6) → Ex ω M9_nameAt 143 [none, some (.int x1)] [] h 0 0 Q) (kf : x1 = (nI 6) → Ex ω M9_nameAt 138 [none, some (.int x1)] [] h 0 0 Q) : Ex ω M9_nameAt 132 [u0, some (.int x1)] [] h 0 0 Q := by
  refine x_dr0 ?_
  refine x_iload1 133 dX9_nameAt_132 rfl ?_
  refine x_bipush (nI 6) 135 dX9_nameAt_133 rfl rfl ?_
  exact x_icmp_ne 138 143 dX9_nameAt_135 rfl (by decide) kt kf
set_option maxRecDepth 20000 in
theorem B9_nameAt_138 {ω : Om} {h : AH} {Q : Option Value → AH → Prop} {u0 : Option Value} {u1 : Option Value} (hw : ω.2.2.2.1 = true) (kt : Ex ω M9_nameAt 165 [none, none] [.int (nI 110)] h 0 0 Q) : Ex ω M9_nameAt 138 [u0, u1] [] h 0 0 Q := by
  refine x_dr0 ?_
  refine x_dr1 ?_
  refine x_bipush (nI 110) 140 dX9_nameAt_138 rfl rfl ?_
  exact x_goto 165 dX9_nameAt_140 (by decide) kt
set_option maxRecDepth 20000 in
theorem B9_nameAt_143 {ω : Om} {h : AH} {Q : Option Value → AH → Prop} {u0 : Option Value} {x1 : Int32} (hw : ω.2.2.2.1 = true) (kt : ¬ x1 = (nI 3) → Ex ω M9_nameAt 153 [none, some (.int x1)] [] h 0 0 Q) (kf : x1 = (nI 3) → Ex ω M9_nameAt 148 [none, some (.int x1)] [] h 0 0 Q) : Ex ω M9_nameAt 143 [u0, some (.int x1)] [] h 0 0 Q := by
  refine x_dr0 ?_
  refine x_iload1 144 dX9_nameAt_143 rfl ?_
  refine x_iconst (nI 3) 145 dX9_nameAt_144 rfl rfl ?_
  exact x_icmp_ne 148 153 dX9_nameAt_145 rfl (by decide) kt kf
set_option maxRecDepth 20000 in
theorem B9_nameAt_148 {ω : Om} {h : AH} {Q : Option Value → AH → Prop} {u0 : Option Value} {u1 : Option Value} (hw : ω.2.2.2.1 = true) (kt : Ex ω M9_nameAt 165 [none, none] [.int (nI 115)] h 0 0 Q) : Ex ω M9_nameAt 148 [u0, u1] [] h 0 0 Q := by
  refine x_dr0 ?_
  refine x_dr1 ?_
  refine x_bipush (nI 115) 150 dX9_nameAt_148 rfl rfl ?_
  exact x_goto 165 dX9_nameAt_150 (by decide) kt
set_option maxRecDepth 20000 in
theorem B9_nameAt_153 {ω : Om} {h : AH} {Q : Option Value → AH → Prop} {u0 : Option Value} {x1 : Int32} (hw : ω.2.2.2.1 = true) (kt : ¬ x1 = (nI 4) → Ex ω M9_nameAt 163 [none, some (.int x1)] [] h 0 0 Q) (kf : x1 = (nI 4) → Ex ω M9_nameAt 158 [none, some (.int x1)] [] h 0 0 Q) : Ex ω M9_nameAt 153 [u0, some (.int x1)] [] h 0 0 Q := by
  refine x_dr0 ?_
  refine x_iload1 154 dX9_nameAt_153 rfl ?_
  refine x_iconst (nI 4) 155 dX9_nameAt_154 rfl rfl ?_
  exact x_icmp_ne 158 163 dX9_nameAt_155 rfl (by decide) kt kf
set_option maxRecDepth 20000 in
theorem B9_nameAt_158 {ω : Om} {h : AH} {Q : Option Value → AH → Prop} {u0 : Option Value} {u1 : Option Value} (hw : ω.2.2.2.1 = true) (kt : Ex ω M9_nameAt 165 [none, none] [.int (nI 105)] h 0 0 Q) : Ex ω M9_nameAt 158 [u0, u1] [] h 0 0 Q := by
  refine x_dr0 ?_
  refine x_dr1 ?_
  refine x_bipush (nI 105) 160 dX9_nameAt_158 rfl rfl ?_
  exact x_goto 165 dX9_nameAt_160 (by decide) kt
set_option maxRecDepth 20000 in
theorem B9_nameAt_163 {ω : Om} {h : AH} {Q : Option Value → AH → Prop} {u0 : Option Value} {u1 : Option Value} (hw : ω.2.2.2.1 = true) (kf : Ex ω M9_nameAt 165 [none, none] [.int (nI 111)] h 0 0 Q) : Ex ω M9_nameAt 163 [u0, u1] [] h 0 0 Q := by
  refine x_dr0 ?_
  refine x_dr1 ?_
  refine x_bipush (nI 111) 165 dX9_nameAt_163 rfl rfl ?_
  exact kf
set_option maxRecDepth 20000 in
theorem B9_nameAt_165 {ω : Om} {h : AH} {Q : Option Value → AH → Prop} {u0 : Option Value} {u1 : Option Value} {y0 : Int32} (hw : ω.2.2.2.1 = true) (hq : Q (some (.int y0)) h) : Ex ω M9_nameAt 165 [u0, u1] [.int y0] h 0 0 Q := by
  refine x_dr0 ?_
  refine x_dr1 ?_
  exact x_iret dX9_nameAt_165 rfl (Nat.zero_le _) (Nat.zero_le _) hq
set_option maxRecDepth 20000 in
theorem B9_nameAt_166 {ω : Om} {h : AH} {Q : Option Value → AH → Prop} {u0 : Option Value} {x1 : Int32} (hw : ω.2.2.2.1 = true) (kt : ¬ x1 = 0 → Ex ω M9_nameAt 175 [none, some (.int x1)] [] h 0 0 Q) (kf : x1 = 0 → Ex ω M9_nameAt 170 [none, some (.int x1)] [] h 0 0 Q) : Ex ω M9_nameAt 166 [u0, some (.int x1)] [] h 0 0 Q := by
  refine x_dr0 ?_
  refine x_iload1 167 dX9_nameAt_166 rfl ?_
  exact x_if_ne 170 175 dX9_nameAt_167 rfl (by decide) kt kf
set_option maxRecDepth 20000 in
theorem B9_nameAt_170 {ω : Om} {h : AH} {Q : Option Value → AH → Prop} {u0 : Option Value} {u1 : Option Value} (hw : ω.2.2.2.1 = true) (kt : Ex ω M9_nameAt 222 [none, none] [.int (nI 115)] h 0 0 Q) : Ex ω M9_nameAt 170 [u0, u1] [] h 0 0 Q := by
  refine x_dr0 ?_
  refine x_dr1 ?_
  refine x_bipush (nI 115) 172 dX9_nameAt_170 rfl rfl ?_
  exact x_goto 222 dX9_nameAt_172 (by decide) kt
set_option maxRecDepth 20000 in
theorem B9_nameAt_175 {ω : Om} {h : AH} {Q : Option Value → AH → Prop} {u0 : Option Value} {x1 : Int32} (hw : ω.2.2.2.1 = true) (kt : x1 = (nI 1) → Ex ω M9_nameAt 185 [none, some (.int x1)] [] h 0 0 Q) (kf : ¬ x1 = (nI 1) → Ex ω M9_nameAt 180 [none, some (.int x1)] [] h 0 0 Q) : Ex ω M9_nameAt 175 [u0, some (.int x1)] [] h 0 0 Q := by
  refine x_dr0 ?_
  refine x_iload1 176 dX9_nameAt_175 rfl ?_
  refine x_iconst (nI 1) 177 dX9_nameAt_176 rfl rfl ?_
  exact x_icmp_eq 180 185 dX9_nameAt_177 rfl (by decide) kt kf
set_option maxRecDepth 20000 in
theorem B9_nameAt_180 {ω : Om} {h : AH} {Q : Option Value → AH → Prop} {u0 : Option Value} {x1 : Int32} (hw : ω.2.2.2.1 = true) (kt : ¬ x1 = (nI 4) → Ex ω M9_nameAt 190 [none, some (.int x1)] [] h 0 0 Q) (kf : x1 = (nI 4) → Ex ω M9_nameAt 185 [none, some (.int x1)] [] h 0 0 Q) : Ex ω M9_nameAt 180 [u0, some (.int x1)] [] h 0 0 Q := by
  refine x_dr0 ?_
  refine x_iload1 181 dX9_nameAt_180 rfl ?_
  refine x_iconst (nI 4) 182 dX9_nameAt_181 rfl rfl ?_
  exact x_icmp_ne 185 190 dX9_nameAt_182 rfl (by decide) kt kf
set_option maxRecDepth 20000 in
theorem B9_nameAt_185 {ω : Om} {h : AH} {Q : Option Value → AH → Prop} {u0 : Option Value} {u1 : Option Value} (hw : ω.2.2.2.1 = true) (kt : Ex ω M9_nameAt 222 [none, none] [.int (nI 116)] h 0 0 Q) : Ex ω M9_nameAt 185 [u0, u1] [] h 0 0 Q := by
  refine x_dr0 ?_
  refine x_dr1 ?_
  refine x_bipush (nI 116) 187 dX9_nameAt_185 rfl rfl ?_
  exact x_goto 222 dX9_nameAt_187 (by decide) kt
set_option maxRecDepth 20000 in
theorem B9_nameAt_190 {ω : Om} {h : AH} {Q : Option Value → AH → Prop} {u0 : Option Value} {x1 : Int32} (hw : ω.2.2.2.1 = true) (kt : ¬ x1 = (nI 2) → Ex ω M9_nameAt 200 [none, some (.int x1)] [] h 0 0 Q) (kf : x1 = (nI 2) → Ex ω M9_nameAt 195 [none, some (.int x1)] [] h 0 0 Q) : Ex ω M9_nameAt 190 [u0, some (.int x1)] [] h 0 0 Q := by
  refine x_dr0 ?_
  refine x_iload1 191 dX9_nameAt_190 rfl ?_
  refine x_iconst (nI 2) 192 dX9_nameAt_191 rfl rfl ?_
  exact x_icmp_ne 195 200 dX9_nameAt_192 rfl (by decide) kt kf
set_option maxRecDepth 20000 in
theorem B9_nameAt_195 {ω : Om} {h : AH} {Q : Option Value → AH → Prop} {u0 : Option Value} {u1 : Option Value} (hw : ω.2.2.2.1 = true) (kt : Ex ω M9_nameAt 222 [none, none] [.int (nI 114)] h 0 0 Q) : Ex ω M9_nameAt 195 [u0, u1] [] h 0 0 Q := by
  refine x_dr0 ?_
  refine x_dr1 ?_
  refine x_bipush (nI 114) 197 dX9_nameAt_195 rfl rfl ?_
  exact x_goto 222 dX9_nameAt_197 (by decide) kt
set_option maxRecDepth 20000 in
theorem B9_nameAt_200 {ω : Om} {h : AH} {Q : Option Value → AH → Prop} {u0 : Option Value} {x1 : Int32} (hw : ω.2.2.2.1 = true) (kt : ¬ x1 = (nI 3) → Ex ω M9_nameAt 210 [none, some (.int x1)] [] h 0 0 Q) (kf : x1 = (nI 3) → Ex ω M9_nameAt 205 [none, some (.int x1)] [] h 0 0 Q) : Ex ω M9_nameAt 200 [u0, some (.int x1)] [] h 0 0 Q := by
  refine x_dr0 ?_
  refine x_iload1 201 dX9_nameAt_200 rfl ?_
  refine x_iconst (nI 3) 202 dX9_nameAt_201 rfl rfl ?_
  exact x_icmp_ne 205 210 dX9_nameAt_202 rfl (by decide) kt kf
set_option maxRecDepth 20000 in
theorem B9_nameAt_205 {ω : Om} {h : AH} {Q : Option Value → AH → Prop} {u0 : Option Value} {u1 : Option Value} (hw : ω.2.2.2.1 = true) (kt : Ex ω M9_nameAt 222 [none, none] [.int (nI 101)] h 0 0 Q) : Ex ω M9_nameAt 205 [u0, u1] [] h 0 0 Q := by
  refine x_dr0 ?_
  refine x_dr1 ?_
  refine x_bipush (nI 101) 207 dX9_nameAt_205 rfl rfl ?_
  exact x_goto 222 dX9_nameAt_207 (by decide) kt
set_option maxRecDepth 20000 in
theorem B9_nameAt_210 {ω : Om} {h : AH} {Q : Option Value → AH → Prop} {u0 : Option Value} {x1 : Int32} (hw : ω.2.2.2.1 = true) (kt : ¬ x1 = (nI 5) → Ex ω M9_nameAt 220 [none, some (.int x1)] [] h 0 0 Q) (kf : x1 = (nI 5) → Ex ω M9_nameAt 215 [none, some (.int x1)] [] h 0 0 Q) : Ex ω M9_nameAt 210 [u0, some (.int x1)] [] h 0 0 Q := by
  refine x_dr0 ?_
  refine x_iload1 211 dX9_nameAt_210 rfl ?_
  refine x_iconst (nI 5) 212 dX9_nameAt_211 rfl rfl ?_
  exact x_icmp_ne 215 220 dX9_nameAt_212 rfl (by decide) kt kf
set_option maxRecDepth 20000 in
theorem B9_nameAt_215 {ω : Om} {h : AH} {Q : Option Value → AH → Prop} {u0 : Option Value} {u1 : Option Value} (hw : ω.2.2.2.1 = true) (kt : Ex ω M9_nameAt 222 [none, none] [.int (nI 99)] h 0 0 Q) : Ex ω M9_nameAt 215 [u0, u1] [] h 0 0 Q := by
  refine x_dr0 ?_
  refine x_dr1 ?_
  refine x_bipush (nI 99) 217 dX9_nameAt_215 rfl rfl ?_
  exact x_goto 222 dX9_nameAt_217 (by decide) kt
set_option maxRecDepth 20000 in
theorem B9_nameAt_220 {ω : Om} {h : AH} {Q : Option Value → AH → Prop} {u0 : Option Value} {u1 : Option Value} (hw : ω.2.2.2.1 = true) (kf : Ex ω M9_nameAt 222 [none, none] [.int (nI 104)] h 0 0 Q) : Ex ω M9_nameAt 220 [u0, u1] [] h 0 0 Q := by
  refine x_dr0 ?_
  refine x_dr1 ?_
  refine x_bipush (nI 104) 222 dX9_nameAt_220 rfl rfl ?_
  exact kf
set_option maxRecDepth 20000 in
theorem B9_nameAt_222 {ω : Om} {h : AH} {Q : Option Value → AH → Prop} {u0 : Option Value} {u1 : Option Value} {y0 : Int32} (hw : ω.2.2.2.1 = true) (hq : Q (some (.int y0)) h) : Ex ω M9_nameAt 222 [u0, u1] [.int y0] h 0 0 Q := by
  refine x_dr0 ?_
  refine x_dr1 ?_
  exact x_iret dX9_nameAt_222 rfl (Nat.zero_le _) (Nat.zero_le _) hq
set_option maxRecDepth 20000 in
theorem B9_isAmount_0 {ω : Om} {h : AH} {Q : Option Value → AH → Prop} {x0 : Int32} {x1 : Int32} (hw : ω.2.2.2.1 = true) (kt : ¬ x0 = 0 → Ex ω M9_isAmount 16 [some (.int x0), some (.int x1)] [] h 0 0 Q) (kf : x0 = 0 → Ex ω M9_isAmount 4 [some (.int x0), some (.int x1)] [] h 0 0 Q) : Ex ω M9_isAmount 0 [some (.int x0), some (.int x1)] [] h 0 0 Q := by
  refine x_iload0 1 dX9_isAmount_0 rfl ?_
  exact x_if_ne 4 16 dX9_isAmount_1 rfl (by decide) kt kf
set_option maxRecDepth 20000 in
theorem B9_isAmount_4 {ω : Om} {h : AH} {Q : Option Value → AH → Prop} {u0 : Option Value} {x1 : Int32} (hw : ω.2.2.2.1 = true) (kk : Ex ω M9_in 0 [some (.long (Int32.toInt64 x1)), none, some (.long ((1 : Int64))), none, some (.long ((20 : Int64))), none] [] h 0 0 (fun v h' => Ex ω M9_isAmount 13 [none, some (.int x1)] (v.toList ++ []) h' 0 0 Q)) : Ex ω M9_isAmount 4 [u0, some (.int x1)] [] h 0 0 Q := by
  refine x_dr0 ?_
  refine x_iload1 5 dX9_isAmount_4 rfl ?_
  refine x_i2l 6 dX9_isAmount_5 rfl ?_
  refine x_lconst 1 7 dX9_isAmount_6 rfl rfl ?_
  refine x_ldc2 20 10 dX9_isAmount_7 rfl wd279 ?_
  exact x_callS 13 [.long (Int32.toInt64 x1), .long ((1 : Int64)), .long ((20 : Int64))] [] dX9_isAmount_10 rfl lk_9_in ⟨wd200, wd201⟩ ⟨by decide, by decide⟩ rfl rfl (Nat.le_of_ble_eq_true rfl) (Nat.le_of_ble_eq_true rfl) (by decide) (by decide) kk
set_option maxRecDepth 20000 in
theorem B9_isAmount_13 {ω : Om} {h : AH} {Q : Option Value → AH → Prop} {u0 : Option Value} {u1 : Option Value} {y0 : Int32} (hw : ω.2.2.2.1 = true) (kt : Ex ω M9_isAmount 59 [none, none] [.int y0] h 0 0 Q) : Ex ω M9_isAmount 13 [u0, u1] [.int y0] h 0 0 Q := by
  refine x_dr0 ?_
  refine x_dr1 ?_
  exact x_goto 59 dX9_isAmount_13 (by decide) kt
set_option maxRecDepth 20000 in
theorem B9_isAmount_16 {ω : Om} {h : AH} {Q : Option Value → AH → Prop} {x0 : Int32} {x1 : Int32} (hw : ω.2.2.2.1 = true) (kt : (nI 3) ≤ x0 → Ex ω M9_isAmount 33 [some (.int x0), some (.int x1)] [] h 0 0 Q) (kf : ¬ (nI 3) ≤ x0 → Ex ω M9_isAmount 21 [some (.int x0), some (.int x1)] [] h 0 0 Q) : Ex ω M9_isAmount 16 [some (.int x0), some (.int x1)] [] h 0 0 Q := by
  refine x_iload0 17 dX9_isAmount_16 rfl ?_
  refine x_iconst (nI 3) 18 dX9_isAmount_17 rfl rfl ?_
  exact x_icmp_ge 21 33 dX9_isAmount_18 rfl (by decide) kt kf
set_option maxRecDepth 20000 in
theorem B9_isAmount_21 {ω : Om} {h : AH} {Q : Option Value → AH → Prop} {u0 : Option Value} {x1 : Int32} (hw : ω.2.2.2.1 = true) (kk : Ex ω M9_in 0 [some (.long (Int32.toInt64 x1)), none, some (.long ((1 : Int64))), none, some (.long ((100 : Int64))), none] [] h 0 0 (fun v h' => Ex ω M9_isAmount 30 [none, some (.int x1)] (v.toList ++ []) h' 0 0 Q)) : Ex ω M9_isAmount 21 [u0, some (.int x1)] [] h 0 0 Q := by
  refine x_dr0 ?_
  refine x_iload1 22 dX9_isAmount_21 rfl ?_
  refine x_i2l 23 dX9_isAmount_22 rfl ?_
  refine x_lconst 1 24 dX9_isAmount_23 rfl rfl ?_
  refine x_ldc2 100 27 dX9_isAmount_24 rfl wd197 ?_
  exact x_callS 30 [.long (Int32.toInt64 x1), .long ((1 : Int64)), .long ((100 : Int64))] [] dX9_isAmount_27 rfl lk_9_in ⟨wd200, wd201⟩ ⟨by decide, by decide⟩ rfl rfl (Nat.le_of_ble_eq_true rfl) (Nat.le_of_ble_eq_true rfl) (by decide) (by decide) kk
set_option maxRecDepth 20000 in
theorem B9_isAmount_30 {ω : Om} {h : AH} {Q : Option Value → AH → Prop} {u0 : Option Value} {u1 : Option Value} {y0 : Int32} (hw : ω.2.2.2.1 = true) (kt : Ex ω M9_isAmount 59 [none, none] [.int y0] h 0 0 Q) : Ex ω M9_isAmount 30 [u0, u1] [.int y0] h 0 0 Q := by
  refine x_dr0 ?_
  refine x_dr1 ?_
  exact x_goto 59 dX9_isAmount_30 (by decide) kt
set_option maxRecDepth 20000 in
theorem B9_isAmount_33 {ω : Om} {h : AH} {Q : Option Value → AH → Prop} {x0 : Int32} {x1 : Int32} (hw : ω.2.2.2.1 = true) (kt : ¬ x0 = (nI 3) → Ex ω M9_isAmount 50 [some (.int x0), some (.int x1)] [] h 0 0 Q) (kf : x0 = (nI 3) → Ex ω M9_isAmount 38 [some (.int x0), some (.int x1)] [] h 0 0 Q) : Ex ω M9_isAmount 33 [some (.int x0), some (.int x1)] [] h 0 0 Q := by
  refine x_iload0 34 dX9_isAmount_33 rfl ?_
  refine x_iconst (nI 3) 35 dX9_isAmount_34 rfl rfl ?_
  exact x_icmp_ne 38 50 dX9_isAmount_35 rfl (by decide) kt kf
set_option maxRecDepth 20000 in
theorem B9_isAmount_38 {ω : Om} {h : AH} {Q : Option Value → AH → Prop} {u0 : Option Value} {x1 : Int32} (hw : ω.2.2.2.1 = true) (kk : Ex ω M9_in 0 [some (.long (Int32.toInt64 x1)), none, some (.long ((0 : Int64))), none, some (.long ((199 : Int64))), none] [] h 0 0 (fun v h' => Ex ω M9_isAmount 47 [none, some (.int x1)] (v.toList ++ []) h' 0 0 Q)) : Ex ω M9_isAmount 38 [u0, some (.int x1)] [] h 0 0 Q := by
  refine x_dr0 ?_
  refine x_iload1 39 dX9_isAmount_38 rfl ?_
  refine x_i2l 40 dX9_isAmount_39 rfl ?_
  refine x_lconst 0 41 dX9_isAmount_40 rfl rfl ?_
  refine x_ldc2 199 44 dX9_isAmount_41 rfl wd228 ?_
  exact x_callS 47 [.long (Int32.toInt64 x1), .long ((0 : Int64)), .long ((199 : Int64))] [] dX9_isAmount_44 rfl lk_9_in ⟨wd200, wd201⟩ ⟨by decide, by decide⟩ rfl rfl (Nat.le_of_ble_eq_true rfl) (Nat.le_of_ble_eq_true rfl) (by decide) (by decide) kk
set_option maxRecDepth 20000 in
theorem B9_isAmount_47 {ω : Om} {h : AH} {Q : Option Value → AH → Prop} {u0 : Option Value} {u1 : Option Value} {y0 : Int32} (hw : ω.2.2.2.1 = true) (kt : Ex ω M9_isAmount 59 [none, none] [.int y0] h 0 0 Q) : Ex ω M9_isAmount 47 [u0, u1] [.int y0] h 0 0 Q := by
  refine x_dr0 ?_
  refine x_dr1 ?_
  exact x_goto 59 dX9_isAmount_47 (by decide) kt
set_option maxRecDepth 20000 in
theorem B9_isAmount_50 {ω : Om} {h : AH} {Q : Option Value → AH → Prop} {u0 : Option Value} {x1 : Int32} (hw : ω.2.2.2.1 = true) (kk : Ex ω M9_in 0 [some (.long (Int32.toInt64 x1)), none, some (.long ((0 : Int64))), none, some (.long ((300 : Int64))), none] [] h 0 0 (fun v h' => Ex ω M9_isAmount 59 [none, some (.int x1)] (v.toList ++ []) h' 0 0 Q)) : Ex ω M9_isAmount 50 [u0, some (.int x1)] [] h 0 0 Q := by
  refine x_dr0 ?_
  refine x_iload1 51 dX9_isAmount_50 rfl ?_
  refine x_i2l 52 dX9_isAmount_51 rfl ?_
  refine x_lconst 0 53 dX9_isAmount_52 rfl rfl ?_
  refine x_ldc2 300 56 dX9_isAmount_53 rfl wd499 ?_
  exact x_callS 59 [.long (Int32.toInt64 x1), .long ((0 : Int64)), .long ((300 : Int64))] [] dX9_isAmount_56 rfl lk_9_in ⟨wd200, wd201⟩ ⟨by decide, by decide⟩ rfl rfl (Nat.le_of_ble_eq_true rfl) (Nat.le_of_ble_eq_true rfl) (by decide) (by decide) kk
set_option maxRecDepth 20000 in
theorem B9_isAmount_59 {ω : Om} {h : AH} {Q : Option Value → AH → Prop} {u0 : Option Value} {u1 : Option Value} {y0 : Int32} (hw : ω.2.2.2.1 = true) (hz : narrow .boolean (.int y0) = .int y0) (hq : Q (some (.int y0)) h) : Ex ω M9_isAmount 59 [u0, u1] [.int y0] h 0 0 Q := by
  refine x_dr0 ?_
  refine x_dr1 ?_
  exact x_zret dX9_isAmount_59 rfl hz (Nat.zero_le _) (Nat.zero_le _) hq
set_option maxRecDepth 20000 in
theorem B9_isNext_0 {ω : Om} {h : AH} {Q : Option Value → AH → Prop} {x0 : Nat} {x1 : Int32} (hw : ω.2.2.2.1 = true) (s_x0 : gs h x0 = some (9, 17)) (kt : (gi h x0 5) ≤ (gi h x0 6) → Ex ω M9_isNext 28 [some (.ref x0), some (.int x1)] [] h 0 0 Q) (kf : ¬ (gi h x0 5) ≤ (gi h x0 6) → Ex ω M9_isNext 11 [some (.ref x0), some (.int x1)] [] h 0 0 Q) : Ex ω M9_isNext 0 [some (.ref x0), some (.int x1)] [] h 0 0 Q := by
  refine x_aload0 1 dX9_isNext_0 rfl ?_
  refine x_getI cf9 6 4 dX9_isNext_1 rfl wd474 (fun _ => s_x0) (by decide) rfl ?_
  refine x_aload0 5 dX9_isNext_4 rfl ?_
  refine x_getI cf9 5 8 dX9_isNext_5 rfl wd359 (fun _ => s_x0) (by decide) rfl ?_
  exact x_icmp_ge 11 28 dX9_isNext_8 rfl (by decide) kt kf
set_option maxRecDepth 20000 in
theorem B9_isNext_11 {ω : Om} {h : AH} {Q : Option Value → AH → Prop} {x0 : Nat} {x1 : Int32} (hw : ω.2.2.2.1 = true) (s_x0 : gs h x0 = some (9, 17)) (i1 : vp_in (gi h x0 6) 100) (kt : ¬ (gi h (gr h x0 4) (Int32.toNatClampNeg (gi h x0 6))) = x1 → Ex ω M9_isNext 28 [some (.ref x0), some (.int x1)] [] h 0 0 Q) (kf : (gi h (gr h x0 4) (Int32.toNatClampNeg (gi h x0 6))) = x1 → Ex ω M9_isNext 24 [some (.ref x0), some (.int x1)] [] h 0 0 Q) : Ex ω M9_isNext 11 [some (.ref x0), some (.int x1)] [] h 0 0 Q := by
  refine x_aload0 12 dX9_isNext_11 rfl ?_
  refine x_getR cf9 4 15 hw dX9_isNext_12 rfl wd102 (fun _ => s_x0) (by decide) (by decide) rfl ?_
  refine x_aload0 16 dX9_isNext_15 rfl ?_
  refine x_getI cf9 6 19 dX9_isNext_16 rfl wd474 (fun _ => s_x0) (by decide) rfl ?_
  refine x_iald (Int32.toNatClampNeg (gi h x0 6)) 20 dX9_isNext_19 rfl (SH.fld hw (fun _ => s_x0) 4 (Nat.le_of_ble_eq_true rfl) rfl rfl) i1 rfl ?_
  refine x_iload1 21 dX9_isNext_20 rfl ?_
  exact x_icmp_ne 24 28 dX9_isNext_21 rfl (by decide) kt kf
set_option maxRecDepth 20000 in
theorem B9_isNext_24 {ω : Om} {h : AH} {Q : Option Value → AH → Prop} {u0 : Option Value} {u1 : Option Value} (hw : ω.2.2.2.1 = true) (kt : Ex ω M9_isNext 29 [none, none] [.int (nI 1)] h 0 0 Q) : Ex ω M9_isNext 24 [u0, u1] [] h 0 0 Q := by
  refine x_dr0 ?_
  refine x_dr1 ?_
  refine x_iconst (nI 1) 25 dX9_isNext_24 rfl rfl ?_
  exact x_goto 29 dX9_isNext_25 (by decide) kt
set_option maxRecDepth 20000 in
theorem B9_isNext_28 {ω : Om} {h : AH} {Q : Option Value → AH → Prop} {u0 : Option Value} {u1 : Option Value} (hw : ω.2.2.2.1 = true) (kf : Ex ω M9_isNext 29 [none, none] [.int (nI 0)] h 0 0 Q) : Ex ω M9_isNext 28 [u0, u1] [] h 0 0 Q := by
  refine x_dr0 ?_
  refine x_dr1 ?_
  refine x_iconst (nI 0) 29 dX9_isNext_28 rfl rfl ?_
  exact kf
set_option maxRecDepth 20000 in
theorem B9_isNext_29 {ω : Om} {h : AH} {Q : Option Value → AH → Prop} {u0 : Option Value} {u1 : Option Value} {y0 : Int32} (hw : ω.2.2.2.1 = true) (hz : narrow .boolean (.int y0) = .int y0) (hq : Q (some (.int y0)) h) : Ex ω M9_isNext 29 [u0, u1] [.int y0] h 0 0 Q := by
  refine x_dr0 ?_
  refine x_dr1 ?_
  exact x_zret dX9_isNext_29 rfl hz (Nat.zero_le _) (Nat.zero_le _) hq
set_option maxRecDepth 20000 in
theorem B9_readsName_0 {ω : Om} {h : AH} {Q : Option Value → AH → Prop} {x0 : Nat} {u1 : Option Value} {u2 : Option Value} (hw : ω.2.2.2.1 = true) (kf : Ex ω M9_readsName 2 [some (.ref x0), some (.int (nI 0)), none] [] h 0 0 Q) : Ex ω M9_readsName 0 [some (.ref x0), u1, u2] [] h 0 0 Q := by
  refine x_dr1 ?_
  refine x_dr2 ?_
  refine x_iconst (nI 0) 1 dX9_readsName_0 rfl rfl ?_
  refine x_istore1 2 dX9_readsName_1 rfl (by decide) rfl ?_
  exact kf
set_option maxRecDepth 20000 in
theorem B9_readsName_2 {ω : Om} {h : AH} {Q : Option Value → AH → Prop} {x0 : Nat} {x1 : Int32} {u2 : Option Value} (hw : ω.2.2.2.1 = true) (kt : (nI 5) ≤ x1 → Ex ω M9_readsName 81 [some (.ref x0), some (.int x1), none] [] h 0 0 Q) (kf : ¬ (nI 5) ≤ x1 → Ex ω M9_readsName 7 [some (.ref x0), some (.int x1), none] [] h 0 0 Q) : Ex ω M9_readsName 2 [some (.ref x0), some (.int x1), u2] [] h 0 0 Q := by
  refine x_dr2 ?_
  refine x_iload1 3 dX9_readsName_2 rfl ?_
  refine x_iconst (nI 5) 4 dX9_readsName_3 rfl rfl ?_
  exact x_icmp_ge 7 81 dX9_readsName_4 rfl (by decide) kt kf
set_option maxRecDepth 20000 in
theorem B9_readsName_7 {ω : Om} {h : AH} {Q : Option Value → AH → Prop} {x0 : Nat} {x1 : Int32} {u2 : Option Value} (hw : ω.2.2.2.1 = true) (kf : Ex ω M9_readsName 9 [some (.ref x0), some (.int x1), some (.int (nI 0))] [] h 0 0 Q) : Ex ω M9_readsName 7 [some (.ref x0), some (.int x1), u2] [] h 0 0 Q := by
  refine x_dr2 ?_
  refine x_iconst (nI 0) 8 dX9_readsName_7 rfl rfl ?_
  refine x_istore2 9 dX9_readsName_8 rfl (by decide) rfl ?_
  exact kf
set_option maxRecDepth 20000 in
theorem B9_readsName_9 {ω : Om} {h : AH} {Q : Option Value → AH → Prop} {x0 : Nat} {x1 : Int32} {x2 : Int32} (hw : ω.2.2.2.1 = true) (kk : Ex ω M9_nameSize 0 [some (.int x1)] [] h 0 0 (fun v h' => Ex ω M9_readsName 14 [some (.ref x0), some (.int x1), some (.int x2)] (v.toList ++ [.int x2]) h' 0 0 Q)) : Ex ω M9_readsName 9 [some (.ref x0), some (.int x1), some (.int x2)] [] h 0 0 Q := by
  refine x_iload2 10 dX9_readsName_9 rfl ?_
  refine x_iload1 11 dX9_readsName_10 rfl ?_
  exact x_callS 14 [.int x1] [.int x2] dX9_readsName_11 rfl lk_9_nameSize ⟨wd486, wd487⟩ ⟨by decide, by decide⟩ rfl rfl (Nat.le_of_ble_eq_true rfl) (Nat.le_of_ble_eq_true rfl) (by decide) (by decide) kk
set_option maxRecDepth 20000 in
theorem B9_readsName_14 {ω : Om} {h : AH} {Q : Option Value → AH → Prop} {x0 : Nat} {x1 : Int32} {x2 : Int32} {y0 : Int32} {y1 : Int32} (hw : ω.2.2.2.1 = true) (kt : y1 ≤ y0 → Ex ω M9_readsName 55 [some (.ref x0), some (.int x1), some (.int x2)] [] h 0 0 Q) (kf : ¬ y1 ≤ y0 → Ex ω M9_readsName 17 [some (.ref x0), some (.int x1), some (.int x2)] [] h 0 0 Q) : Ex ω M9_readsName 14 [some (.ref x0), some (.int x1), some (.int x2)] [.int y1, .int y0] h 0 0 Q := by
  exact x_icmp_ge 17 55 dX9_readsName_14 rfl (by decide) kt kf
set_option maxRecDepth 20000 in
theorem B9_readsName_17 {ω : Om} {h : AH} {Q : Option Value → AH → Prop} {x0 : Nat} {x1 : Int32} {x2 : Int32} (hw : ω.2.2.2.1 = true) (s_x0 : gs h x0 = some (9, 17)) (kt : (gi h x0 5) ≤ ((gi h x0 6) + x2) → Ex ω M9_readsName 55 [some (.ref x0), some (.int x1), some (.int x2)] [] h 0 0 Q) (kf : ¬ (gi h x0 5) ≤ ((gi h x0 6) + x2) → Ex ω M9_readsName 30 [some (.ref x0), some (.int x1), some (.int x2)] [] h 0 0 Q) : Ex ω M9_readsName 17 [some (.ref x0), some (.int x1), some (.int x2)] [] h 0 0 Q := by
  refine x_aload0 18 dX9_readsName_17 rfl ?_
  refine x_getI cf9 6 21 dX9_readsName_18 rfl wd474 (fun _ => s_x0) (by decide) rfl ?_
  refine x_iload2 22 dX9_readsName_21 rfl ?_
  refine x_iadd 23 dX9_readsName_22 rfl ?_
  refine x_aload0 24 dX9_readsName_23 rfl ?_
  refine x_getI cf9 5 27 dX9_readsName_24 rfl wd359 (fun _ => s_x0) (by decide) rfl ?_
  exact x_icmp_ge 30 55 dX9_readsName_27 rfl (by decide) kt kf
set_option maxRecDepth 20000 in
theorem B9_readsName_30 {ω : Om} {h : AH} {Q : Option Value → AH → Prop} {x0 : Nat} {x1 : Int32} {x2 : Int32} (hw : ω.2.2.2.1 = true) (s_x0 : gs h x0 = some (9, 17)) (i1 : vp_in ((gi h x0 6) + x2) 100) (kk : Ex ω M9_nameAt 0 [some (.int x1), some (.int x2)] [] h 0 0 (fun v h' => Ex ω M9_readsName 46 [some (.ref x0), some (.int x1), some (.int x2)] (v.toList ++ [.int (gi h (gr h x0 4) (Int32.toNatClampNeg ((gi h x0 6) + x2)))]) h' 0 0 Q)) : Ex ω M9_readsName 30 [some (.ref x0), some (.int x1), some (.int x2)] [] h 0 0 Q := by
  refine x_aload0 31 dX9_readsName_30 rfl ?_
  refine x_getR cf9 4 34 hw dX9_readsName_31 rfl wd102 (fun _ => s_x0) (by decide) (by decide) rfl ?_
  refine x_aload0 35 dX9_readsName_34 rfl ?_
  refine x_getI cf9 6 38 dX9_readsName_35 rfl wd474 (fun _ => s_x0) (by decide) rfl ?_
  refine x_iload2 39 dX9_readsName_38 rfl ?_
  refine x_iadd 40 dX9_readsName_39 rfl ?_
  refine x_iald (Int32.toNatClampNeg ((gi h x0 6) + x2)) 41 dX9_readsName_40 rfl (SH.fld hw (fun _ => s_x0) 4 (Nat.le_of_ble_eq_true rfl) rfl rfl) i1 rfl ?_
  refine x_iload1 42 dX9_readsName_41 rfl ?_
  refine x_iload2 43 dX9_readsName_42 rfl ?_
  exact x_callS 46 [.int x1, .int x2] [.int (gi h (gr h x0 4) (Int32.toNatClampNeg ((gi h x0 6) + x2)))] dX9_readsName_43 rfl lk_9_nameAt ⟨wd489, wd490⟩ ⟨by decide, by decide⟩ rfl rfl (Nat.le_of_ble_eq_true rfl) (Nat.le_of_ble_eq_true rfl) (by decide) (by decide) kk
set_option maxRecDepth 20000 in
theorem B9_readsName_46 {ω : Om} {h : AH} {Q : Option Value → AH → Prop} {x0 : Nat} {x1 : Int32} {x2 : Int32} {y0 : Int32} {y1 : Int32} (hw : ω.2.2.2.1 = true) (kt : ¬ y0 = y1 → Ex ω M9_readsName 55 [some (.ref x0), some (.int x1), some (.int x2)] [] h 0 0 Q) (kf : y0 = y1 → Ex ω M9_readsName 49 [some (.ref x0), some (.int x1), some (.int x2)] [] h 0 0 Q) : Ex ω M9_readsName 46 [some (.ref x0), some (.int x1), some (.int x2)] [.int y1, .int y0] h 0 0 Q := by
  exact x_icmp_ne 49 55 dX9_readsName_46 rfl (by decide) kt kf
set_option maxRecDepth 20000 in
theorem B9_readsName_49 {ω : Om} {h : AH} {Q : Option Value → AH → Prop} {x0 : Nat} {x1 : Int32} {x2 : Int32} (hw : ω.2.2.2.1 = true) (kt : Ex ω M9_readsName 9 [some (.ref x0), some (.int x1), some (.int (x2 + (nI 1)))] [] h 0 0 Q) : Ex ω M9_readsName 49 [some (.ref x0), some (.int x1), some (.int x2)] [] h 0 0 Q := by
  refine x_iinc2 (x2 + (nI 1)) 52 dX9_readsName_49 rfl (by decide) rfl rfl ?_
  exact x_goto 9 dX9_readsName_52 (by decide) kt
set_option maxRecDepth 20000 in
theorem B9_readsName_55 {ω : Om} {h : AH} {Q : Option Value → AH → Prop} {x0 : Nat} {x1 : Int32} {x2 : Int32} (hw : ω.2.2.2.1 = true) (kk : Ex ω M9_nameSize 0 [some (.int x1)] [] h 0 0 (fun v h' => Ex ω M9_readsName 60 [some (.ref x0), some (.int x1), some (.int x2)] (v.toList ++ [.int x2]) h' 0 0 Q)) : Ex ω M9_readsName 55 [some (.ref x0), some (.int x1), some (.int x2)] [] h 0 0 Q := by
  refine x_iload2 56 dX9_readsName_55 rfl ?_
  refine x_iload1 57 dX9_readsName_56 rfl ?_
  exact x_callS 60 [.int x1] [.int x2] dX9_readsName_57 rfl lk_9_nameSize ⟨wd486, wd487⟩ ⟨by decide, by decide⟩ rfl rfl (Nat.le_of_ble_eq_true rfl) (Nat.le_of_ble_eq_true rfl) (by decide) (by decide) kk
set_option maxRecDepth 20000 in
theorem B9_readsName_60 {ω : Om} {h : AH} {Q : Option Value → AH → Prop} {x0 : Nat} {x1 : Int32} {x2 : Int32} {y0 : Int32} {y1 : Int32} (hw : ω.2.2.2.1 = true) (kt : ¬ y0 = y1 → Ex ω M9_readsName 75 [some (.ref x0), some (.int x1), some (.int x2)] [] h 0 0 Q) (kf : y0 = y1 → Ex ω M9_readsName 63 [some (.ref x0), some (.int x1), some (.int x2)] [] h 0 0 Q) : Ex ω M9_readsName 60 [some (.ref x0), some (.int x1), some (.int x2)] [.int y1, .int y0] h 0 0 Q := by
  exact x_icmp_ne 63 75 dX9_readsName_60 rfl (by decide) kt kf
set_option maxRecDepth 20000 in
theorem B9_readsName_63 {ω : Om} {h : AH} {Q : Option Value → AH → Prop} {x0 : Nat} {x1 : Int32} {x2 : Int32} (hw : ω.2.2.2.1 = true) (s_x0 : gs h x0 = some (9, 17)) (hq : Q (some (.int x1)) (si h x0 6 ((gi h x0 6) + x2))) : Ex ω M9_readsName 63 [some (.ref x0), some (.int x1), some (.int x2)] [] h 0 0 Q := by
  refine x_aload0 64 dX9_readsName_63 rfl ?_
  refine x_dup 65 dX9_readsName_64 rfl rfl ?_
  refine x_getI cf9 6 68 dX9_readsName_65 rfl wd474 (fun _ => s_x0) (by decide) rfl ?_
  refine x_iload2 69 dX9_readsName_68 rfl ?_
  refine x_iadd 70 dX9_readsName_69 rfl ?_
  refine x_putI cf9 6 73 dX9_readsName_70 rfl wd474 (fun _ => s_x0) (by decide) rfl rfl ?_
  refine x_iload1 74 dX9_readsName_73 rfl ?_
  exact x_iret dX9_readsName_74 rfl (Nat.zero_le _) (Nat.zero_le _) hq
set_option maxRecDepth 20000 in
theorem B9_readsName_75 {ω : Om} {h : AH} {Q : Option Value → AH → Prop} {x0 : Nat} {x1 : Int32} {u2 : Option Value} (hw : ω.2.2.2.1 = true) (kt : Ex ω M9_readsName 2 [some (.ref x0), some (.int (x1 + (nI 1))), none] [] h 0 0 Q) : Ex ω M9_readsName 75 [some (.ref x0), some (.int x1), u2] [] h 0 0 Q := by
  refine x_dr2 ?_
  refine x_iinc1 (x1 + (nI 1)) 78 dX9_readsName_75 rfl (by decide) rfl rfl ?_
  exact x_goto 2 dX9_readsName_78 (by decide) kt
set_option maxRecDepth 20000 in
theorem B9_readsName_81 {ω : Om} {h : AH} {Q : Option Value → AH → Prop} {u0 : Option Value} {u1 : Option Value} {u2 : Option Value} (hw : ω.2.2.2.1 = true) (hq : Q (some (.int ((-1)))) h) : Ex ω M9_readsName 81 [u0, u1, u2] [] h 0 0 Q := by
  refine x_dr0 ?_
  refine x_dr1 ?_
  refine x_dr2 ?_
  refine x_iconst ((-1)) 82 dX9_readsName_81 rfl rfl ?_
  exact x_iret dX9_readsName_82 rfl (Nat.zero_le _) (Nat.zero_le _) hq
