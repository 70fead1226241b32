/-! block laws (written by a program: wip/p29/gen_all.py) -/
set_option maxRecDepth 20000 in
theorem B8_addRoll_0 {ω : Om} {h : AH} {Q : Option Value → AH → Prop} {x0 : Nat} {x1 : Int32} {x2 : Int32} (hw : ω.2.2.2.1 = true) (kk : Ex ω M8_outside 0 [some (.int x1), some (.int (nI 100)), some (.int (nI 100000))] [] h 0 0 (fun v h' => Ex ω M8_addRoll 8 [some (.ref x0), some (.int x1), some (.int x2)] (v.toList ++ []) h' 0 0 Q)) : Ex ω M8_addRoll 0 [some (.ref x0), some (.int x1), some (.int x2)] [] h 0 0 Q := by
  refine x_iload1 1 dX8_addRoll_0 rfl ?_
  refine x_bipush (nI 100) 3 dX8_addRoll_1 rfl rfl ?_
  refine x_ldc (nI 100000) 5 dX8_addRoll_3 rfl wd265 ?_
  exact x_callS 8 [.int x1, .int (nI 100), .int (nI 100000)] [] dX8_addRoll_5 rfl lk_8_outside ⟨wd267, wd240⟩ ⟨by decide, by decide⟩ rfl rfl (Nat.le_of_ble_eq_true rfl) (Nat.le_of_ble_eq_true rfl) (by decide) (by decide) kk
set_option maxRecDepth 20000 in
theorem B8_addRoll_8 {ω : Om} {h : AH} {Q : Option Value → AH → Prop} {x0 : Nat} {x1 : Int32} {x2 : Int32} {y0 : Int32} (hw : ω.2.2.2.1 = true) (kt : ¬ y0 = 0 → Ex ω M8_addRoll 21 [some (.ref x0), some (.int x1), some (.int x2)] [] h 0 0 Q) (kf : y0 = 0 → Ex ω M8_addRoll 11 [some (.ref x0), some (.int x1), some (.int x2)] [] h 0 0 Q) : Ex ω M8_addRoll 8 [some (.ref x0), some (.int x1), some (.int x2)] [.int y0] h 0 0 Q := by
  exact x_if_ne 11 21 dX8_addRoll_8 rfl (by decide) kt kf
set_option maxRecDepth 20000 in
theorem B8_addRoll_11 {ω : Om} {h : AH} {Q : Option Value → AH → Prop} {x0 : Nat} {x1 : Int32} {x2 : Int32} (hw : ω.2.2.2.1 = true) (kk : Ex ω M8_outside 0 [some (.int x2), some (.int (nI 1)), some (.int (nI 50))] [] h 0 0 (fun v h' => Ex ω M8_addRoll 18 [some (.ref x0), some (.int x1), some (.int x2)] (v.toList ++ []) h' 0 0 Q)) : Ex ω M8_addRoll 11 [some (.ref x0), some (.int x1), some (.int x2)] [] h 0 0 Q := by
  refine x_iload2 12 dX8_addRoll_11 rfl ?_
  refine x_iconst (nI 1) 13 dX8_addRoll_12 rfl rfl ?_
  refine x_bipush (nI 50) 15 dX8_addRoll_13 rfl rfl ?_
  exact x_callS 18 [.int x2, .int (nI 1), .int (nI 50)] [] dX8_addRoll_15 rfl lk_8_outside ⟨wd267, wd240⟩ ⟨by decide, by decide⟩ rfl rfl (Nat.le_of_ble_eq_true rfl) (Nat.le_of_ble_eq_true rfl) (by decide) (by decide) kk
set_option maxRecDepth 20000 in
theorem B8_addRoll_18 {ω : Om} {h : AH} {Q : Option Value → AH → Prop} {x0 : Nat} {x1 : Int32} {x2 : Int32} {y0 : Int32} (hw : ω.2.2.2.1 = true) (kt : y0 = 0 → Ex ω M8_addRoll 23 [some (.ref x0), some (.int x1), some (.int x2)] [] h 0 0 Q) (kf : ¬ y0 = 0 → Ex ω M8_addRoll 21 [some (.ref x0), some (.int x1), some (.int x2)] [] h 0 0 Q) : Ex ω M8_addRoll 18 [some (.ref x0), some (.int x1), some (.int x2)] [.int y0] h 0 0 Q := by
  exact x_if_eq 21 23 dX8_addRoll_18 rfl (by decide) kt kf
set_option maxRecDepth 20000 in
theorem B8_addRoll_21 {ω : Om} {h : AH} {Q : Option Value → AH → Prop} {u0 : Option Value} {u1 : Option Value} {u2 : Option Value} (hw : ω.2.2.2.1 = true) (hq : Q (some (.int ((-1)))) h) : Ex ω M8_addRoll 21 [u0, u1, u2] [] h 0 0 Q := by
  refine x_dr0 ?_
  refine x_dr1 ?_
  refine x_dr2 ?_
  refine x_iconst ((-1)) 22 dX8_addRoll_21 rfl rfl ?_
  exact x_iret dX8_addRoll_22 rfl (Nat.zero_le _) (Nat.zero_le _) hq
set_option maxRecDepth 20000 in
theorem B8_addRoll_23 {ω : Om} {h : AH} {Q : Option Value → AH → Prop} {x0 : Nat} {x1 : Int32} {x2 : Int32} (hw : ω.2.2.2.1 = true) (s_x0 : gs h x0 = some (8, 8)) (kt : (gi h (gr h x0 0) 1) < (nI 6) → Ex ω M8_addRoll 38 [some (.ref x0), some (.int x1), some (.int x2)] [] h 0 0 Q) (kf : ¬ (gi h (gr h x0 0) 1) < (nI 6) → Ex ω M8_addRoll 35 [some (.ref x0), some (.int x1), some (.int x2)] [] h 0 0 Q) : Ex ω M8_addRoll 23 [some (.ref x0), some (.int x1), some (.int x2)] [] h 0 0 Q := by
  refine x_aload0 24 dX8_addRoll_23 rfl ?_
  refine x_getR cf8 0 27 hw dX8_addRoll_24 rfl wd13 (fun _ => s_x0) (by decide) (by decide) rfl ?_
  refine x_getI cf5 1 30 dX8_addRoll_27 rfl wd266 (SH.fld hw (fun _ => s_x0) 0 (Nat.le_of_ble_eq_true rfl) rfl rfl) (by decide) rfl ?_
  refine x_bipush (nI 6) 32 dX8_addRoll_30 rfl rfl ?_
  exact x_icmp_lt 35 38 dX8_addRoll_32 rfl (by decide) kt kf
set_option maxRecDepth 20000 in
theorem B8_addRoll_35 {ω : Om} {h : AH} {Q : Option Value → AH → Prop} {u0 : Option Value} {u1 : Option Value} {u2 : Option Value} (hw : ω.2.2.2.1 = true) (hq : Q (some (.int ((-3)))) h) : Ex ω M8_addRoll 35 [u0, u1, u2] [] h 0 0 Q := by
  refine x_dr0 ?_
  refine x_dr1 ?_
  refine x_dr2 ?_
  refine x_bipush ((-3)) 37 dX8_addRoll_35 rfl rfl ?_
  exact x_iret dX8_addRoll_37 rfl (Nat.zero_le _) (Nat.zero_le _) hq
set_option maxRecDepth 20000 in
theorem B8_addRoll_38 {ω : Om} {h : AH} {Q : Option Value → AH → Prop} {x0 : Nat} {x1 : Int32} {x2 : Int32} (hw : ω.2.2.2.1 = true) (s_x0 : gs h x0 = some (8, 8)) (kk : Ex ω M8_record 0 [some (.ref x0), none, none] [] h 0 0 (fun v h' => Ex ω M8_addRoll 42 [some (.ref x0), some (.int x1), some (.int x2)] (v.toList ++ []) h' 0 0 Q)) : Ex ω M8_addRoll 38 [some (.ref x0), some (.int x1), some (.int x2)] [] h 0 0 Q := by
  refine x_aload0 39 dX8_addRoll_38 rfl ?_
  exact x_callV 42 x0 [] [] dX8_addRoll_39 rfl lk_8_record ⟨wd256, wd257, wd258⟩ ⟨by decide, by decide⟩ (recvO cf8 (fun _ => s_x0)) rfl rfl (Nat.le_of_ble_eq_true rfl) (Nat.le_of_ble_eq_true rfl) (by decide) (by decide) kk
set_option maxRecDepth 20000 in
theorem B8_addRoll_42 {ω : Om} {h : AH} {Q : Option Value → AH → Prop} {x0 : Nat} {x1 : Int32} {x2 : Int32} (hw : ω.2.2.2.1 = true) (s_x0 : gs h x0 = some (8, 8)) (kk : Ex ω M5_appendRoll 0 [some (.ref (gr h x0 0)), some (.int x1), some (.int x2)] [] h 0 0 (fun v h' => Ex ω M8_addRoll 51 [some (.ref x0), some (.int x1), some (.int x2)] (v.toList ++ []) h' 0 0 Q)) : Ex ω M8_addRoll 42 [some (.ref x0), some (.int x1), some (.int x2)] [] h 0 0 Q := by
  refine x_aload0 43 dX8_addRoll_42 rfl ?_
  refine x_getR cf8 0 46 hw dX8_addRoll_43 rfl wd13 (fun _ => s_x0) (by decide) (by decide) rfl ?_
  refine x_iload1 47 dX8_addRoll_46 rfl ?_
  refine x_iload2 48 dX8_addRoll_47 rfl ?_
  exact x_callV 51 (gr h x0 0) [.int x1, .int x2] [] dX8_addRoll_48 rfl lk_5_appendRoll ⟨wd268, wd269, wd270⟩ ⟨by decide, by decide⟩ (recvO cf5 (SH.fld hw (fun _ => s_x0) 0 (Nat.le_of_ble_eq_true rfl) rfl rfl)) rfl rfl (Nat.le_of_ble_eq_true rfl) (Nat.le_of_ble_eq_true rfl) (by decide) (by decide) kk
set_option maxRecDepth 20000 in
theorem B8_addRoll_51 {ω : Om} {h : AH} {Q : Option Value → AH → Prop} {x0 : Nat} {u1 : Option Value} {u2 : Option Value} (hw : ω.2.2.2.1 = true) (s_x0 : gs h x0 = some (8, 8)) (hq : Q (some (.int (gi h (gr h x0 0) 1))) h) : Ex ω M8_addRoll 51 [some (.ref x0), u1, u2] [] h 0 0 Q := by
  refine x_dr1 ?_
  refine x_dr2 ?_
  refine x_aload0 52 dX8_addRoll_51 rfl ?_
  refine x_getR cf8 0 55 hw dX8_addRoll_52 rfl wd13 (fun _ => s_x0) (by decide) (by decide) rfl ?_
  refine x_getI cf5 1 58 dX8_addRoll_55 rfl wd266 (SH.fld hw (fun _ => s_x0) 0 (Nat.le_of_ble_eq_true rfl) rfl rfl) (by decide) rfl ?_
  exact x_iret dX8_addRoll_58 rfl (Nat.zero_le _) (Nat.zero_le _) hq
set_option maxRecDepth 20000 in
theorem B8_weaken_0 {ω : Om} {h : AH} {Q : Option Value → AH → Prop} {x0 : Nat} {x1 : Int32} {x2 : Int32} {x3 : Int32} (hw : ω.2.2.2.1 = true) (s_x0 : gs h x0 = some (8, 8)) (kk : Ex ω M8_outside 0 [some (.int x1), some (.int (nI 0)), some (.int ((gi h (gr h x0 0) 1) - (nI 1)))] [] h 0 0 (fun v h' => Ex ω M8_weaken 14 [some (.ref x0), some (.int x1), some (.int x2), some (.int x3)] (v.toList ++ []) h' 0 0 Q)) : Ex ω M8_weaken 0 [some (.ref x0), some (.int x1), some (.int x2), some (.int x3)] [] h 0 0 Q := by
  refine x_iload1 1 dX8_weaken_0 rfl ?_
  refine x_iconst (nI 0) 2 dX8_weaken_1 rfl rfl ?_
  refine x_aload0 3 dX8_weaken_2 rfl ?_
  refine x_getR cf8 0 6 hw dX8_weaken_3 rfl wd13 (fun _ => s_x0) (by decide) (by decide) rfl ?_
  refine x_getI cf5 1 9 dX8_weaken_6 rfl wd266 (SH.fld hw (fun _ => s_x0) 0 (Nat.le_of_ble_eq_true rfl) rfl rfl) (by decide) rfl ?_
  refine x_iconst (nI 1) 10 dX8_weaken_9 rfl rfl ?_
  refine x_isub 11 dX8_weaken_10 rfl ?_
  exact x_callS 14 [.int x1, .int (nI 0), .int ((gi h (gr h x0 0) 1) - (nI 1))] [] dX8_weaken_11 rfl lk_8_outside ⟨wd267, wd240⟩ ⟨by decide, by decide⟩ rfl rfl (Nat.le_of_ble_eq_true rfl) (Nat.le_of_ble_eq_true rfl) (by decide) (by decide) kk
set_option maxRecDepth 20000 in
theorem B8_weaken_14 {ω : Om} {h : AH} {Q : Option Value → AH → Prop} {x0 : Nat} {x1 : Int32} {x2 : Int32} {x3 : Int32} {y0 : Int32} (hw : ω.2.2.2.1 = true) (kt : ¬ y0 = 0 → Ex ω M8_weaken 28 [some (.ref x0), some (.int x1), some (.int x2), some (.int x3)] [] h 0 0 Q) (kf : y0 = 0 → Ex ω M8_weaken 17 [some (.ref x0), some (.int x1), some (.int x2), some (.int x3)] [] h 0 0 Q) : Ex ω M8_weaken 14 [some (.ref x0), some (.int x1), some (.int x2), some (.int x3)] [.int y0] h 0 0 Q := by
  exact x_if_ne 17 28 dX8_weaken_14 rfl (by decide) kt kf
set_option maxRecDepth 20000 in
theorem B8_weaken_17 {ω : Om} {h : AH} {Q : Option Value → AH → Prop} {x0 : Nat} {x1 : Int32} {x2 : Int32} {x3 : Int32} (hw : ω.2.2.2.1 = true) (kk : Ex ω M8_outside 0 [some (.int x3), some (.int (nI 0)), some (.int (nI 199))] [] h 0 0 (fun v h' => Ex ω M8_weaken 25 [some (.ref x0), some (.int x1), some (.int x2), some (.int x3)] (v.toList ++ []) h' 0 0 Q)) : Ex ω M8_weaken 17 [some (.ref x0), some (.int x1), some (.int x2), some (.int x3)] [] h 0 0 Q := by
  refine x_iload3 18 dX8_weaken_17 rfl ?_
  refine x_iconst (nI 0) 19 dX8_weaken_18 rfl rfl ?_
  refine x_sipush (nI 199) 22 dX8_weaken_19 rfl rfl ?_
  exact x_callS 25 [.int x3, .int (nI 0), .int (nI 199)] [] dX8_weaken_22 rfl lk_8_outside ⟨wd267, wd240⟩ ⟨by decide, by decide⟩ rfl rfl (Nat.le_of_ble_eq_true rfl) (Nat.le_of_ble_eq_true rfl) (by decide) (by decide) kk
set_option maxRecDepth 20000 in
theorem B8_weaken_25 {ω : Om} {h : AH} {Q : Option Value → AH → Prop} {x0 : Nat} {x1 : Int32} {x2 : Int32} {x3 : Int32} {y0 : Int32} (hw : ω.2.2.2.1 = true) (kt : y0 = 0 → Ex ω M8_weaken 30 [some (.ref x0), some (.int x1), some (.int x2), some (.int x3)] [] h 0 0 Q) (kf : ¬ y0 = 0 → Ex ω M8_weaken 28 [some (.ref x0), some (.int x1), some (.int x2), some (.int x3)] [] h 0 0 Q) : Ex ω M8_weaken 25 [some (.ref x0), some (.int x1), some (.int x2), some (.int x3)] [.int y0] h 0 0 Q := by
  exact x_if_eq 28 30 dX8_weaken_25 rfl (by decide) kt kf
set_option maxRecDepth 20000 in
theorem B8_weaken_28 {ω : Om} {h : AH} {Q : Option Value → AH → Prop} {u0 : Option Value} {u1 : Option Value} {u2 : Option Value} {u3 : Option Value} (hw : ω.2.2.2.1 = true) (hq : Q (some (.int ((-1)))) h) : Ex ω M8_weaken 28 [u0, u1, u2, u3] [] h 0 0 Q := by
  refine x_dr0 ?_
  refine x_dr1 ?_
  refine x_dr2 ?_
  refine x_dr3 ?_
  refine x_iconst ((-1)) 29 dX8_weaken_28 rfl rfl ?_
  exact x_iret dX8_weaken_29 rfl (Nat.zero_le _) (Nat.zero_le _) hq
set_option maxRecDepth 20000 in
theorem B8_weaken_30 {ω : Om} {h : AH} {Q : Option Value → AH → Prop} {x0 : Nat} {x1 : Int32} {x2 : Int32} {x3 : Int32} (hw : ω.2.2.2.1 = true) (s_x0 : gs h x0 = some (8, 8)) (i1 : vp_in x1 6) (kk : Ex ω M8_outside 0 [some (.int x2), some (.int (nI 1)), some (.int ((gi h (gr h (gr h (gr h x0 0) 0) (Int32.toNatClampNeg x1)) 0) - (nI 1)))] [] h 0 0 (fun v h' => Ex ω M8_weaken 49 [some (.ref x0), some (.int x1), some (.int x2), some (.int x3)] (v.toList ++ []) h' 0 0 Q)) : Ex ω M8_weaken 30 [some (.ref x0), some (.int x1), some (.int x2), some (.int x3)] [] h 0 0 Q := by
  refine x_iload2 31 dX8_weaken_30 rfl ?_
  refine x_iconst (nI 1) 32 dX8_weaken_31 rfl rfl ?_
  refine x_aload0 33 dX8_weaken_32 rfl ?_
  refine x_getR cf8 0 36 hw dX8_weaken_33 rfl wd13 (fun _ => s_x0) (by decide) (by decide) rfl ?_
  refine x_getR cf5 0 39 hw dX8_weaken_36 rfl wd297 (SH.fld hw (fun _ => s_x0) 0 (Nat.le_of_ble_eq_true rfl) rfl rfl) (by decide) (by decide) rfl ?_
  refine x_iload1 40 dX8_weaken_39 rfl ?_
  refine x_aald arK12 (Int32.toNatClampNeg x1) 41 hw dX8_weaken_40 rfl (SH.fld hw (SH.fld hw (fun _ => s_x0) 0 (Nat.le_of_ble_eq_true rfl) rfl rfl) 0 (Nat.le_of_ble_eq_true rfl) rfl rfl) i1 rfl ?_
  refine x_getI cf4 0 44 dX8_weaken_41 rfl wd298 (SH.elt hw (SH.fld hw (SH.fld hw (fun _ => s_x0) 0 (Nat.le_of_ble_eq_true rfl) rfl rfl) 0 (Nat.le_of_ble_eq_true rfl) rfl rfl) i1 (fun _ => rfl) (fun _ => rfl)) (by decide) rfl ?_
  refine x_iconst (nI 1) 45 dX8_weaken_44 rfl rfl ?_
  refine x_isub 46 dX8_weaken_45 rfl ?_
  exact x_callS 49 [.int x2, .int (nI 1), .int ((gi h (gr h (gr h (gr h x0 0) 0) (Int32.toNatClampNeg x1)) 0) - (nI 1))] [] dX8_weaken_46 rfl lk_8_outside ⟨wd267, wd240⟩ ⟨by decide, by decide⟩ rfl rfl (Nat.le_of_ble_eq_true rfl) (Nat.le_of_ble_eq_true rfl) (by decide) (by decide) kk
set_option maxRecDepth 20000 in
theorem B8_weaken_49 {ω : Om} {h : AH} {Q : Option Value → AH → Prop} {x0 : Nat} {x1 : Int32} {x2 : Int32} {x3 : Int32} {y0 : Int32} (hw : ω.2.2.2.1 = true) (kt : y0 = 0 → Ex ω M8_weaken 54 [some (.ref x0), some (.int x1), some (.int x2), some (.int x3)] [] h 0 0 Q) (kf : ¬ y0 = 0 → Ex ω M8_weaken 52 [some (.ref x0), some (.int x1), some (.int x2), some (.int x3)] [] h 0 0 Q) : Ex ω M8_weaken 49 [some (.ref x0), some (.int x1), some (.int x2), some (.int x3)] [.int y0] h 0 0 Q := by
  exact x_if_eq 52 54 dX8_weaken_49 rfl (by decide) kt kf
set_option maxRecDepth 20000 in
theorem B8_weaken_52 {ω : Om} {h : AH} {Q : Option Value → AH → Prop} {u0 : Option Value} {u1 : Option Value} {u2 : Option Value} {u3 : Option Value} (hw : ω.2.2.2.1 = true) (hq : Q (some (.int ((-1)))) h) : Ex ω M8_weaken 52 [u0, u1, u2, u3] [] h 0 0 Q := by
  refine x_dr0 ?_
  refine x_dr1 ?_
  refine x_dr2 ?_
  refine x_dr3 ?_
  refine x_iconst ((-1)) 53 dX8_weaken_52 rfl rfl ?_
  exact x_iret dX8_weaken_53 rfl (Nat.zero_le _) (Nat.zero_le _) hq
set_option maxRecDepth 20000 in
theorem B8_weaken_54 {ω : Om} {h : AH} {Q : Option Value → AH → Prop} {x0 : Nat} {x1 : Int32} {x2 : Int32} {x3 : Int32} (hw : ω.2.2.2.1 = true) (s_x0 : gs h x0 = some (8, 8)) (i1 : vp_in x1 6) (kk : Ex ω M4_isWeakAt 0 [some (.ref (gr h (gr h (gr h x0 0) 0) (Int32.toNatClampNeg x1))), some (.int x2), none] [] h 0 0 (fun v h' => Ex ω M8_weaken 67 [some (.ref x0), some (.int x1), some (.int x2), some (.int x3)] (v.toList ++ []) h' 0 0 Q)) : Ex ω M8_weaken 54 [some (.ref x0), some (.int x1), some (.int x2), some (.int x3)] [] h 0 0 Q := by
  refine x_aload0 55 dX8_weaken_54 rfl ?_
  refine x_getR cf8 0 58 hw dX8_weaken_55 rfl wd13 (fun _ => s_x0) (by decide) (by decide) rfl ?_
  refine x_getR cf5 0 61 hw dX8_weaken_58 rfl wd297 (SH.fld hw (fun _ => s_x0) 0 (Nat.le_of_ble_eq_true rfl) rfl rfl) (by decide) (by decide) rfl ?_
  refine x_iload1 62 dX8_weaken_61 rfl ?_
  refine x_aald arK12 (Int32.toNatClampNeg x1) 63 hw dX8_weaken_62 rfl (SH.fld hw (SH.fld hw (fun _ => s_x0) 0 (Nat.le_of_ble_eq_true rfl) rfl rfl) 0 (Nat.le_of_ble_eq_true rfl) rfl rfl) i1 rfl ?_
  refine x_iload2 64 dX8_weaken_63 rfl ?_
  exact x_callV 67 (gr h (gr h (gr h x0 0) 0) (Int32.toNatClampNeg x1)) [.int x2] [] dX8_weaken_64 rfl lk_4_isWeakAt ⟨wd301, wd302, wd303⟩ ⟨by decide, by decide⟩ (recvO cf4 (SH.elt hw (SH.fld hw (SH.fld hw (fun _ => s_x0) 0 (Nat.le_of_ble_eq_true rfl) rfl rfl) 0 (Nat.le_of_ble_eq_true rfl) rfl rfl) i1 (fun _ => rfl) (fun _ => rfl))) rfl rfl (Nat.le_of_ble_eq_true rfl) (Nat.le_of_ble_eq_true rfl) (by decide) (by decide) kk
set_option maxRecDepth 20000 in
theorem B8_weaken_67 {ω : Om} {h : AH} {Q : Option Value → AH → Prop} {x0 : Nat} {x1 : Int32} {x2 : Int32} {x3 : Int32} {y0 : Int32} (hw : ω.2.2.2.1 = true) (kt : ¬ y0 = 0 → Ex ω M8_weaken 86 [some (.ref x0), some (.int x1), some (.int x2), some (.int x3)] [] h 0 0 Q) (kf : y0 = 0 → Ex ω M8_weaken 70 [some (.ref x0), some (.int x1), some (.int x2), some (.int x3)] [] h 0 0 Q) : Ex ω M8_weaken 67 [some (.ref x0), some (.int x1), some (.int x2), some (.int x3)] [.int y0] h 0 0 Q := by
  exact x_if_ne 70 86 dX8_weaken_67 rfl (by decide) kt kf
set_option maxRecDepth 20000 in
theorem B8_weaken_70 {ω : Om} {h : AH} {Q : Option Value → AH → Prop} {x0 : Nat} {x1 : Int32} {x2 : Int32} {x3 : Int32} (hw : ω.2.2.2.1 = true) (s_x0 : gs h x0 = some (8, 8)) (i1 : vp_in x1 6) (kt : (gi h (gr h (gr h (gr h x0 0) 0) (Int32.toNatClampNeg x1)) 2) < x2 → Ex ω M8_weaken 89 [some (.ref x0), some (.int x1), some (.int x2), some (.int x3)] [] h 0 0 Q) (kf : ¬ (gi h (gr h (gr h (gr h x0 0) 0) (Int32.toNatClampNeg x1)) 2) < x2 → Ex ω M8_weaken 86 [some (.ref x0), some (.int x1), some (.int x2), some (.int x3)] [] h 0 0 Q) : Ex ω M8_weaken 70 [some (.ref x0), some (.int x1), some (.int x2), some (.int x3)] [] h 0 0 Q := by
  refine x_iload2 71 dX8_weaken_70 rfl ?_
  refine x_aload0 72 dX8_weaken_71 rfl ?_
  refine x_getR cf8 0 75 hw dX8_weaken_72 rfl wd13 (fun _ => s_x0) (by decide) (by decide) rfl ?_
  refine x_getR cf5 0 78 hw dX8_weaken_75 rfl wd297 (SH.fld hw (fun _ => s_x0) 0 (Nat.le_of_ble_eq_true rfl) rfl rfl) (by decide) (by decide) rfl ?_
  refine x_iload1 79 dX8_weaken_78 rfl ?_
  refine x_aald arK12 (Int32.toNatClampNeg x1) 80 hw dX8_weaken_79 rfl (SH.fld hw (SH.fld hw (fun _ => s_x0) 0 (Nat.le_of_ble_eq_true rfl) rfl rfl) 0 (Nat.le_of_ble_eq_true rfl) rfl rfl) i1 rfl ?_
  refine x_getI cf4 2 83 dX8_weaken_80 rfl wd299 (SH.elt hw (SH.fld hw (SH.fld hw (fun _ => s_x0) 0 (Nat.le_of_ble_eq_true rfl) rfl rfl) 0 (Nat.le_of_ble_eq_true rfl) rfl rfl) i1 (fun _ => rfl) (fun _ => rfl)) (by decide) rfl ?_
  exact x_icmp_gt 86 89 dX8_weaken_83 rfl (by decide) kt kf
set_option maxRecDepth 20000 in
theorem B8_weaken_86 {ω : Om} {h : AH} {Q : Option Value → AH → Prop} {u0 : Option Value} {u1 : Option Value} {u2 : Option Value} {u3 : Option Value} (hw : ω.2.2.2.1 = true) (hq : Q (some (.int ((-2)))) h) : Ex ω M8_weaken 86 [u0, u1, u2, u3] [] h 0 0 Q := by
  refine x_dr0 ?_
  refine x_dr1 ?_
  refine x_dr2 ?_
  refine x_dr3 ?_
  refine x_bipush ((-2)) 88 dX8_weaken_86 rfl rfl ?_
  exact x_iret dX8_weaken_88 rfl (Nat.zero_le _) (Nat.zero_le _) hq
set_option maxRecDepth 20000 in
theorem B8_weaken_89 {ω : Om} {h : AH} {Q : Option Value → AH → Prop} {x0 : Nat} {x1 : Int32} {x2 : Int32} {x3 : Int32} (hw : ω.2.2.2.1 = true) (s_x0 : gs h x0 = some (8, 8)) (i1 : vp_in x1 6) (kt : (gi h (gr h (gr h (gr h x0 0) 0) (Int32.toNatClampNeg x1)) 3) < (nI 8) → Ex ω M8_weaken 109 [some (.ref x0), some (.int x1), some (.int x2), some (.int x3)] [] h 0 0 Q) (kf : ¬ (gi h (gr h (gr h (gr h x0 0) 0) (Int32.toNatClampNeg x1)) 3) < (nI 8) → Ex ω M8_weaken 106 [some (.ref x0), some (.int x1), some (.int x2), some (.int x3)] [] h 0 0 Q) : Ex ω M8_weaken 89 [some (.ref x0), some (.int x1), some (.int x2), some (.int x3)] [] h 0 0 Q := by
  refine x_aload0 90 dX8_weaken_89 rfl ?_
  refine x_getR cf8 0 93 hw dX8_weaken_90 rfl wd13 (fun _ => s_x0) (by decide) (by decide) rfl ?_
  refine x_getR cf5 0 96 hw dX8_weaken_93 rfl wd297 (SH.fld hw (fun _ => s_x0) 0 (Nat.le_of_ble_eq_true rfl) rfl rfl) (by decide) (by decide) rfl ?_
  refine x_iload1 97 dX8_weaken_96 rfl ?_
  refine x_aald arK12 (Int32.toNatClampNeg x1) 98 hw dX8_weaken_97 rfl (SH.fld hw (SH.fld hw (fun _ => s_x0) 0 (Nat.le_of_ble_eq_true rfl) rfl rfl) 0 (Nat.le_of_ble_eq_true rfl) rfl rfl) i1 rfl ?_
  refine x_getI cf4 3 101 dX8_weaken_98 rfl wd300 (SH.elt hw (SH.fld hw (SH.fld hw (fun _ => s_x0) 0 (Nat.le_of_ble_eq_true rfl) rfl rfl) 0 (Nat.le_of_ble_eq_true rfl) rfl rfl) i1 (fun _ => rfl) (fun _ => rfl)) (by decide) rfl ?_
  refine x_bipush (nI 8) 103 dX8_weaken_101 rfl rfl ?_
  exact x_icmp_lt 106 109 dX8_weaken_103 rfl (by decide) kt kf
set_option maxRecDepth 20000 in
theorem B8_weaken_106 {ω : Om} {h : AH} {Q : Option Value → AH → Prop} {u0 : Option Value} {u1 : Option Value} {u2 : Option Value} {u3 : Option Value} (hw : ω.2.2.2.1 = true) (hq : Q (some (.int ((-3)))) h) : Ex ω M8_weaken 106 [u0, u1, u2, u3] [] h 0 0 Q := by
  refine x_dr0 ?_
  refine x_dr1 ?_
  refine x_dr2 ?_
  refine x_dr3 ?_
  refine x_bipush ((-3)) 108 dX8_weaken_106 rfl rfl ?_
  exact x_iret dX8_weaken_108 rfl (Nat.zero_le _) (Nat.zero_le _) hq
set_option maxRecDepth 20000 in
theorem B8_weaken_109 {ω : Om} {h : AH} {Q : Option Value → AH → Prop} {x0 : Nat} {x1 : Int32} {x2 : Int32} {x3 : Int32} (hw : ω.2.2.2.1 = true) (s_x0 : gs h x0 = some (8, 8)) (kk : Ex ω M8_record 0 [some (.ref x0), none, none] [] h 0 0 (fun v h' => Ex ω M8_weaken 113 [some (.ref x0), some (.int x1), some (.int x2), some (.int x3)] (v.toList ++ []) h' 0 0 Q)) : Ex ω M8_weaken 109 [some (.ref x0), some (.int x1), some (.int x2), some (.int x3)] [] h 0 0 Q := by
  refine x_aload0 110 dX8_weaken_109 rfl ?_
  exact x_callV 113 x0 [] [] dX8_weaken_110 rfl lk_8_record ⟨wd256, wd257, wd258⟩ ⟨by decide, by decide⟩ (recvO cf8 (fun _ => s_x0)) rfl rfl (Nat.le_of_ble_eq_true rfl) (Nat.le_of_ble_eq_true rfl) (by decide) (by decide) kk
set_option maxRecDepth 20000 in
theorem B8_weaken_113 {ω : Om} {h : AH} {Q : Option Value → AH → Prop} {x0 : Nat} {x1 : Int32} {x2 : Int32} {x3 : Int32} (hw : ω.2.2.2.1 = true) (s_x0 : gs h x0 = some (8, 8)) (i1 : vp_in x1 6) (kk : Ex ω M4_insertWeakPlace 0 [some (.ref (gr h (gr h (gr h x0 0) 0) (Int32.toNatClampNeg x1))), some (.int x2), some (.int x3), none] [] h 0 0 (fun v h' => Ex ω M8_weaken 127 [some (.ref x0), some (.int x1), some (.int x2), some (.int x3)] (v.toList ++ []) h' 0 0 Q)) : Ex ω M8_weaken 113 [some (.ref x0), some (.int x1), some (.int x2), some (.int x3)] [] h 0 0 Q := by
  refine x_aload0 114 dX8_weaken_113 rfl ?_
  refine x_getR cf8 0 117 hw dX8_weaken_114 rfl wd13 (fun _ => s_x0) (by decide) (by decide) rfl ?_
  refine x_getR cf5 0 120 hw dX8_weaken_117 rfl wd297 (SH.fld hw (fun _ => s_x0) 0 (Nat.le_of_ble_eq_true rfl) rfl rfl) (by decide) (by decide) rfl ?_
  refine x_iload1 121 dX8_weaken_120 rfl ?_
  refine x_aald arK12 (Int32.toNatClampNeg x1) 122 hw dX8_weaken_121 rfl (SH.fld hw (SH.fld hw (fun _ => s_x0) 0 (Nat.le_of_ble_eq_true rfl) rfl rfl) 0 (Nat.le_of_ble_eq_true rfl) rfl rfl) i1 rfl ?_
  refine x_iload2 123 dX8_weaken_122 rfl ?_
  refine x_iload3 124 dX8_weaken_123 rfl ?_
  exact x_callV 127 (gr h (gr h (gr h x0 0) 0) (Int32.toNatClampNeg x1)) [.int x2, .int x3] [] dX8_weaken_124 rfl lk_4_insertWeakPlace ⟨wd305, wd306, wd307⟩ ⟨by decide, by decide⟩ (recvO cf4 (SH.elt hw (SH.fld hw (SH.fld hw (fun _ => s_x0) 0 (Nat.le_of_ble_eq_true rfl) rfl rfl) 0 (Nat.le_of_ble_eq_true rfl) rfl rfl) i1 (fun _ => rfl) (fun _ => rfl))) rfl rfl (Nat.le_of_ble_eq_true rfl) (Nat.le_of_ble_eq_true rfl) (by decide) (by decide) kk
set_option maxRecDepth 20000 in
theorem B8_weaken_127 {ω : Om} {h : AH} {Q : Option Value → AH → Prop} {x0 : Nat} {x1 : Int32} {u2 : Option Value} {u3 : Option Value} (hw : ω.2.2.2.1 = true) (s_x0 : gs h x0 = some (8, 8)) (i1 : vp_in x1 6) (hq : Q (some (.int (gi h (gr h (gr h (gr h x0 0) 0) (Int32.toNatClampNeg x1)) 3))) h) : Ex ω M8_weaken 127 [some (.ref x0), some (.int x1), u2, u3] [] h 0 0 Q := by
  refine x_dr2 ?_
  refine x_dr3 ?_
  refine x_aload0 128 dX8_weaken_127 rfl ?_
  refine x_getR cf8 0 131 hw dX8_weaken_128 rfl wd13 (fun _ => s_x0) (by decide) (by decide) rfl ?_
  refine x_getR cf5 0 134 hw dX8_weaken_131 rfl wd297 (SH.fld hw (fun _ => s_x0) 0 (Nat.le_of_ble_eq_true rfl) rfl rfl) (by decide) (by decide) rfl ?_
  refine x_iload1 135 dX8_weaken_134 rfl ?_
  refine x_aald arK12 (Int32.toNatClampNeg x1) 136 hw dX8_weaken_135 rfl (SH.fld hw (SH.fld hw (fun _ => s_x0) 0 (Nat.le_of_ble_eq_true rfl) rfl rfl) 0 (Nat.le_of_ble_eq_true rfl) rfl rfl) i1 rfl ?_
  refine x_getI cf4 3 139 dX8_weaken_136 rfl wd300 (SH.elt hw (SH.fld hw (SH.fld hw (fun _ => s_x0) 0 (Nat.le_of_ble_eq_true rfl) rfl rfl) 0 (Nat.le_of_ble_eq_true rfl) rfl rfl) i1 (fun _ => rfl) (fun _ => rfl)) (by decide) rfl ?_
  exact x_iret dX8_weaken_139 rfl (Nat.zero_le _) (Nat.zero_le _) hq
set_option maxRecDepth 20000 in
theorem B8_roll_0 {ω : Om} {h : AH} {Q : Option Value → AH → Prop} {x0 : Nat} {x1 : Int32} {x2 : Int32} (hw : ω.2.2.2.1 = true) (s_x0 : gs h x0 = some (8, 8)) (kk : Ex ω M8_outside 0 [some (.int x1), some (.int (nI 0)), some (.int ((gi h (gr h x0 0) 1) - (nI 1)))] [] h 0 0 (fun v h' => Ex ω M8_roll 14 [some (.ref x0), some (.int x1), some (.int x2)] (v.toList ++ []) h' 0 0 Q)) : Ex ω M8_roll 0 [some (.ref x0), some (.int x1), some (.int x2)] [] h 0 0 Q := by
  refine x_iload1 1 dX8_roll_0 rfl ?_
  refine x_iconst (nI 0) 2 dX8_roll_1 rfl rfl ?_
  refine x_aload0 3 dX8_roll_2 rfl ?_
  refine x_getR cf8 0 6 hw dX8_roll_3 rfl wd13 (fun _ => s_x0) (by decide) (by decide) rfl ?_
  refine x_getI cf5 1 9 dX8_roll_6 rfl wd266 (SH.fld hw (fun _ => s_x0) 0 (Nat.le_of_ble_eq_true rfl) rfl rfl) (by decide) rfl ?_
  refine x_iconst (nI 1) 10 dX8_roll_9 rfl rfl ?_
  refine x_isub 11 dX8_roll_10 rfl ?_
  exact x_callS 14 [.int x1, .int (nI 0), .int ((gi h (gr h x0 0) 1) - (nI 1))] [] dX8_roll_11 rfl lk_8_outside ⟨wd267, wd240⟩ ⟨by decide, by decide⟩ rfl rfl (Nat.le_of_ble_eq_true rfl) (Nat.le_of_ble_eq_true rfl) (by decide) (by decide) kk
set_option maxRecDepth 20000 in
theorem B8_roll_14 {ω : Om} {h : AH} {Q : Option Value → AH → Prop} {x0 : Nat} {x1 : Int32} {x2 : Int32} {y0 : Int32} (hw : ω.2.2.2.1 = true) (kt : ¬ y0 = 0 → Ex ω M8_roll 26 [some (.ref x0), some (.int x1), some (.int x2)] [] h 0 0 Q) (kf : y0 = 0 → Ex ω M8_roll 17 [some (.ref x0), some (.int x1), some (.int x2)] [] h 0 0 Q) : Ex ω M8_roll 14 [some (.ref x0), some (.int x1), some (.int x2)] [.int y0] h 0 0 Q := by
  exact x_if_ne 17 26 dX8_roll_14 rfl (by decide) kt kf
set_option maxRecDepth 20000 in
theorem B8_roll_17 {ω : Om} {h : AH} {Q : Option Value → AH → Prop} {x0 : Nat} {x1 : Int32} {x2 : Int32} (hw : ω.2.2.2.1 = true) (kk : Ex ω M8_outside 0 [some (.int x2), some (.int (nI 0)), some (.int (nI 5))] [] h 0 0 (fun v h' => Ex ω M8_roll 23 [some (.ref x0), some (.int x1), some (.int x2)] (v.toList ++ []) h' 0 0 Q)) : Ex ω M8_roll 17 [some (.ref x0), some (.int x1), some (.int x2)] [] h 0 0 Q := by
  refine x_iload2 18 dX8_roll_17 rfl ?_
  refine x_iconst (nI 0) 19 dX8_roll_18 rfl rfl ?_
  refine x_iconst (nI 5) 20 dX8_roll_19 rfl rfl ?_
  exact x_callS 23 [.int x2, .int (nI 0), .int (nI 5)] [] dX8_roll_20 rfl lk_8_outside ⟨wd267, wd240⟩ ⟨by decide, by decide⟩ rfl rfl (Nat.le_of_ble_eq_true rfl) (Nat.le_of_ble_eq_true rfl) (by decide) (by decide) kk
set_option maxRecDepth 20000 in
theorem B8_roll_23 {ω : Om} {h : AH} {Q : Option Value → AH → Prop} {x0 : Nat} {x1 : Int32} {x2 : Int32} {y0 : Int32} (hw : ω.2.2.2.1 = true) (kt : y0 = 0 → Ex ω M8_roll 28 [some (.ref x0), some (.int x1), some (.int x2)] [] h 0 0 Q) (kf : ¬ y0 = 0 → Ex ω M8_roll 26 [some (.ref x0), some (.int x1), some (.int x2)] [] h 0 0 Q) : Ex ω M8_roll 23 [some (.ref x0), some (.int x1), some (.int x2)] [.int y0] h 0 0 Q := by
  exact x_if_eq 26 28 dX8_roll_23 rfl (by decide) kt kf
set_option maxRecDepth 20000 in
theorem B8_roll_26 {ω : Om} {h : AH} {Q : Option Value → AH → Prop} {u0 : Option Value} {u1 : Option Value} {u2 : Option Value} (hw : ω.2.2.2.1 = true) (hq : Q (some (.int ((-1)))) h) : Ex ω M8_roll 26 [u0, u1, u2] [] h 0 0 Q := by
  refine x_dr0 ?_
  refine x_dr1 ?_
  refine x_dr2 ?_
  refine x_iconst ((-1)) 27 dX8_roll_26 rfl rfl ?_
  exact x_iret dX8_roll_27 rfl (Nat.zero_le _) (Nat.zero_le _) hq
set_option maxRecDepth 20000 in
theorem B8_roll_28 {ω : Om} {h : AH} {Q : Option Value → AH → Prop} {x0 : Nat} {x1 : Int32} {x2 : Int32} (hw : ω.2.2.2.1 = true) (s_x0 : gs h x0 = some (8, 8)) (i1 : vp_in x1 6) (kk : Ex ω M4_property 0 [some (.ref (gr h (gr h (gr h x0 0) 0) (Int32.toNatClampNeg x1))), some (.int x2), none] [] h 0 0 (fun v h' => Ex ω M8_roll 41 [some (.ref x0), some (.int x1), some (.int x2)] (v.toList ++ []) h' 0 0 Q)) : Ex ω M8_roll 28 [some (.ref x0), some (.int x1), some (.int x2)] [] h 0 0 Q := by
  refine x_aload0 29 dX8_roll_28 rfl ?_
  refine x_getR cf8 0 32 hw dX8_roll_29 rfl wd13 (fun _ => s_x0) (by decide) (by decide) rfl ?_
  refine x_getR cf5 0 35 hw dX8_roll_32 rfl wd297 (SH.fld hw (fun _ => s_x0) 0 (Nat.le_of_ble_eq_true rfl) rfl rfl) (by decide) (by decide) rfl ?_
  refine x_iload1 36 dX8_roll_35 rfl ?_
  refine x_aald arK12 (Int32.toNatClampNeg x1) 37 hw dX8_roll_36 rfl (SH.fld hw (SH.fld hw (fun _ => s_x0) 0 (Nat.le_of_ble_eq_true rfl) rfl rfl) 0 (Nat.le_of_ble_eq_true rfl) rfl rfl) i1 rfl ?_
  refine x_iload2 38 dX8_roll_37 rfl ?_
  exact x_callV 41 (gr h (gr h (gr h x0 0) 0) (Int32.toNatClampNeg x1)) [.int x2] [] dX8_roll_38 rfl lk_4_property ⟨wd406, wd407, wd408⟩ ⟨by decide, by decide⟩ (recvO cf4 (SH.elt hw (SH.fld hw (SH.fld hw (fun _ => s_x0) 0 (Nat.le_of_ble_eq_true rfl) rfl rfl) 0 (Nat.le_of_ble_eq_true rfl) rfl rfl) i1 (fun _ => rfl) (fun _ => rfl))) rfl rfl (Nat.le_of_ble_eq_true rfl) (Nat.le_of_ble_eq_true rfl) (by decide) (by decide) kk
set_option maxRecDepth 20000 in
theorem B8_roll_41 {ω : Om} {h : AH} {Q : Option Value → AH → Prop} {u0 : Option Value} {u1 : Option Value} {u2 : Option Value} {y0 : Int32} (hw : ω.2.2.2.1 = true) (hq : Q (some (.int y0)) h) : Ex ω M8_roll 41 [u0, u1, u2] [.int y0] h 0 0 Q := by
  refine x_dr0 ?_
  refine x_dr1 ?_
  refine x_dr2 ?_
  exact x_iret dX8_roll_41 rfl (Nat.zero_le _) (Nat.zero_le _) hq
set_option maxRecDepth 20000 in
theorem B8_addPallet_0 {ω : Om} {h : AH} {Q : Option Value → AH → Prop} {x0 : Nat} {x1 : Int32} {x2 : Int32} {x3 : Int32} {x4 : Int32} {x5 : Int32} {u6 : Option Value} (hw : ω.2.2.2.1 = true) (kk : Ex ω M8_outside 0 [some (.int x1), some (.int (nI 20)), some (.int (nI 200))] [] h 0 0 (fun v h' => Ex ω M8_addPallet 9 [some (.ref x0), some (.int x1), some (.int x2), some (.int x3), some (.int x4), some (.int x5), none] (v.toList ++ []) h' 0 0 Q)) : Ex ω M8_addPallet 0 [some (.ref x0), some (.int x1), some (.int x2), some (.int x3), some (.int x4), some (.int x5), u6] [] h 0 0 Q := by
  refine x_dr6 ?_
  refine x_iload1 1 dX8_addPallet_0 rfl ?_
  refine x_bipush (nI 20) 3 dX8_addPallet_1 rfl rfl ?_
  refine x_sipush (nI 200) 6 dX8_addPallet_3 rfl rfl ?_
  exact x_callS 9 [.int x1, .int (nI 20), .int (nI 200)] [] dX8_addPallet_6 rfl lk_8_outside ⟨wd267, wd240⟩ ⟨by decide, by decide⟩ rfl rfl (Nat.le_of_ble_eq_true rfl) (Nat.le_of_ble_eq_true rfl) (by decide) (by decide) kk
set_option maxRecDepth 20000 in
theorem B8_addPallet_9 {ω : Om} {h : AH} {Q : Option Value → AH → Prop} {x0 : Nat} {x1 : Int32} {x2 : Int32} {x3 : Int32} {x4 : Int32} {x5 : Int32} {u6 : Option Value} {y0 : Int32} (hw : ω.2.2.2.1 = true) (kt : ¬ y0 = 0 → Ex ω M8_addPallet 36 [some (.ref x0), some (.int x1), some (.int x2), some (.int x3), some (.int x4), some (.int x5), none] [] h 0 0 Q) (kf : y0 = 0 → Ex ω M8_addPallet 12 [some (.ref x0), some (.int x1), some (.int x2), some (.int x3), some (.int x4), some (.int x5), none] [] h 0 0 Q) : Ex ω M8_addPallet 9 [some (.ref x0), some (.int x1), some (.int x2), some (.int x3), some (.int x4), some (.int x5), u6] [.int y0] h 0 0 Q := by
  refine x_dr6 ?_
  exact x_if_ne 12 36 dX8_addPallet_9 rfl (by decide) kt kf
set_option maxRecDepth 20000 in
theorem B8_addPallet_12 {ω : Om} {h : AH} {Q : Option Value → AH → Prop} {x0 : Nat} {x1 : Int32} {x2 : Int32} {x3 : Int32} {x4 : Int32} {x5 : Int32} {u6 : Option Value} (hw : ω.2.2.2.1 = true) (kk : Ex ω M8_outside 0 [some (.int x2), some (.int (nI 20)), some (.int (nI 200))] [] h 0 0 (fun v h' => Ex ω M8_addPallet 21 [some (.ref x0), some (.int x1), some (.int x2), some (.int x3), some (.int x4), some (.int x5), none] (v.toList ++ []) h' 0 0 Q)) : Ex ω M8_addPallet 12 [some (.ref x0), some (.int x1), some (.int x2), some (.int x3), some (.int x4), some (.int x5), u6] [] h 0 0 Q := by
  refine x_dr6 ?_
  refine x_iload2 13 dX8_addPallet_12 rfl ?_
  refine x_bipush (nI 20) 15 dX8_addPallet_13 rfl rfl ?_
  refine x_sipush (nI 200) 18 dX8_addPallet_15 rfl rfl ?_
  exact x_callS 21 [.int x2, .int (nI 20), .int (nI 200)] [] dX8_addPallet_18 rfl lk_8_outside ⟨wd267, wd240⟩ ⟨by decide, by decide⟩ rfl rfl (Nat.le_of_ble_eq_true rfl) (Nat.le_of_ble_eq_true rfl) (by decide) (by decide) kk
set_option maxRecDepth 20000 in
theorem B8_addPallet_21 {ω : Om} {h : AH} {Q : Option Value → AH → Prop} {x0 : Nat} {x1 : Int32} {x2 : Int32} {x3 : Int32} {x4 : Int32} {x5 : Int32} {u6 : Option Value} {y0 : Int32} (hw : ω.2.2.2.1 = true) (kt : ¬ y0 = 0 → Ex ω M8_addPallet 36 [some (.ref x0), some (.int x1), some (.int x2), some (.int x3), some (.int x4), some (.int x5), none] [] h 0 0 Q) (kf : y0 = 0 → Ex ω M8_addPallet 24 [some (.ref x0), some (.int x1), some (.int x2), some (.int x3), some (.int x4), some (.int x5), none] [] h 0 0 Q) : Ex ω M8_addPallet 21 [some (.ref x0), some (.int x1), some (.int x2), some (.int x3), some (.int x4), some (.int x5), u6] [.int y0] h 0 0 Q := by
  refine x_dr6 ?_
  exact x_if_ne 24 36 dX8_addPallet_21 rfl (by decide) kt kf
set_option maxRecDepth 20000 in
theorem B8_addPallet_24 {ω : Om} {h : AH} {Q : Option Value → AH → Prop} {x0 : Nat} {x1 : Int32} {x2 : Int32} {x3 : Int32} {x4 : Int32} {x5 : Int32} {u6 : Option Value} (hw : ω.2.2.2.1 = true) (kk : Ex ω M8_outside 0 [some (.int x3), some (.int (nI 10)), some (.int (nI 250))] [] h 0 0 (fun v h' => Ex ω M8_addPallet 33 [some (.ref x0), some (.int x1), some (.int x2), some (.int x3), some (.int x4), some (.int x5), none] (v.toList ++ []) h' 0 0 Q)) : Ex ω M8_addPallet 24 [some (.ref x0), some (.int x1), some (.int x2), some (.int x3), some (.int x4), some (.int x5), u6] [] h 0 0 Q := by
  refine x_dr6 ?_
  refine x_iload3 25 dX8_addPallet_24 rfl ?_
  refine x_bipush (nI 10) 27 dX8_addPallet_25 rfl rfl ?_
  refine x_sipush (nI 250) 30 dX8_addPallet_27 rfl rfl ?_
  exact x_callS 33 [.int x3, .int (nI 10), .int (nI 250)] [] dX8_addPallet_30 rfl lk_8_outside ⟨wd267, wd240⟩ ⟨by decide, by decide⟩ rfl rfl (Nat.le_of_ble_eq_true rfl) (Nat.le_of_ble_eq_true rfl) (by decide) (by decide) kk
set_option maxRecDepth 20000 in
theorem B8_addPallet_33 {ω : Om} {h : AH} {Q : Option Value → AH → Prop} {x0 : Nat} {x1 : Int32} {x2 : Int32} {x3 : Int32} {x4 : Int32} {x5 : Int32} {u6 : Option Value} {y0 : Int32} (hw : ω.2.2.2.1 = true) (kt : y0 = 0 → Ex ω M8_addPallet 38 [some (.ref x0), some (.int x1), some (.int x2), some (.int x3), some (.int x4), some (.int x5), none] [] h 0 0 Q) (kf : ¬ y0 = 0 → Ex ω M8_addPallet 36 [some (.ref x0), some (.int x1), some (.int x2), some (.int x3), some (.int x4), some (.int x5), none] [] h 0 0 Q) : Ex ω M8_addPallet 33 [some (.ref x0), some (.int x1), some (.int x2), some (.int x3), some (.int x4), some (.int x5), u6] [.int y0] h 0 0 Q := by
  refine x_dr6 ?_
  exact x_if_eq 36 38 dX8_addPallet_33 rfl (by decide) kt kf
set_option maxRecDepth 20000 in
theorem B8_addPallet_36 {ω : Om} {h : AH} {Q : Option Value → AH → Prop} {u0 : Option Value} {u1 : Option Value} {u2 : Option Value} {u3 : Option Value} {u4 : Option Value} {u5 : Option Value} {u6 : Option Value} (hw : ω.2.2.2.1 = true) (hq : Q (some (.int ((-1)))) h) : Ex ω M8_addPallet 36 [u0, u1, u2, u3, u4, u5, u6] [] h 0 0 Q := by
  refine x_dr0 ?_
  refine x_dr1 ?_
  refine x_dr2 ?_
  refine x_dr3 ?_
  refine x_dr4 ?_
  refine x_dr5 ?_
  refine x_dr6 ?_
  refine x_iconst ((-1)) 37 dX8_addPallet_36 rfl rfl ?_
  exact x_iret dX8_addPallet_37 rfl (Nat.zero_le _) (Nat.zero_le _) hq
set_option maxRecDepth 20000 in
theorem B8_addPallet_38 {ω : Om} {h : AH} {Q : Option Value → AH → Prop} {x0 : Nat} {x1 : Int32} {x2 : Int32} {x3 : Int32} {x4 : Int32} {x5 : Int32} {u6 : Option Value} (hw : ω.2.2.2.1 = true) (kk : Ex ω M8_outside 0 [some (.int x4), some (.int (nI 0)), some (.int (nI 5000))] [] h 0 0 (fun v h' => Ex ω M8_addPallet 47 [some (.ref x0), some (.int x1), some (.int x2), some (.int x3), some (.int x4), some (.int x5), none] (v.toList ++ []) h' 0 0 Q)) : Ex ω M8_addPallet 38 [some (.ref x0), some (.int x1), some (.int x2), some (.int x3), some (.int x4), some (.int x5), u6] [] h 0 0 Q := by
  refine x_dr6 ?_
  refine x_iload4 40 dX8_addPallet_38 rfl ?_
  refine x_iconst (nI 0) 41 dX8_addPallet_40 rfl rfl ?_
  refine x_sipush (nI 5000) 44 dX8_addPallet_41 rfl rfl ?_
  exact x_callS 47 [.int x4, .int (nI 0), .int (nI 5000)] [] dX8_addPallet_44 rfl lk_8_outside ⟨wd267, wd240⟩ ⟨by decide, by decide⟩ rfl rfl (Nat.le_of_ble_eq_true rfl) (Nat.le_of_ble_eq_true rfl) (by decide) (by decide) kk
set_option maxRecDepth 20000 in
theorem B8_addPallet_47 {ω : Om} {h : AH} {Q : Option Value → AH → Prop} {x0 : Nat} {x1 : Int32} {x2 : Int32} {x3 : Int32} {x4 : Int32} {x5 : Int32} {u6 : Option Value} {y0 : Int32} (hw : ω.2.2.2.1 = true) (kt : ¬ y0 = 0 → Ex ω M8_addPallet 62 [some (.ref x0), some (.int x1), some (.int x2), some (.int x3), some (.int x4), some (.int x5), none] [] h 0 0 Q) (kf : y0 = 0 → Ex ω M8_addPallet 50 [some (.ref x0), some (.int x1), some (.int x2), some (.int x3), some (.int x4), some (.int x5), none] [] h 0 0 Q) : Ex ω M8_addPallet 47 [some (.ref x0), some (.int x1), some (.int x2), some (.int x3), some (.int x4), some (.int x5), u6] [.int y0] h 0 0 Q := by
  refine x_dr6 ?_
  exact x_if_ne 50 62 dX8_addPallet_47 rfl (by decide) kt kf
set_option maxRecDepth 20000 in
theorem B8_addPallet_50 {ω : Om} {h : AH} {Q : Option Value → AH → Prop} {x0 : Nat} {x1 : Int32} {x2 : Int32} {x3 : Int32} {x4 : Int32} {x5 : Int32} {u6 : Option Value} (hw : ω.2.2.2.1 = true) (kk : Ex ω M8_outside 0 [some (.int x5), some (.int (nI 0)), some (.int (nI 9999))] [] h 0 0 (fun v h' => Ex ω M8_addPallet 59 [some (.ref x0), some (.int x1), some (.int x2), some (.int x3), some (.int x4), some (.int x5), none] (v.toList ++ []) h' 0 0 Q)) : Ex ω M8_addPallet 50 [some (.ref x0), some (.int x1), some (.int x2), some (.int x3), some (.int x4), some (.int x5), u6] [] h 0 0 Q := by
  refine x_dr6 ?_
  refine x_iload5 52 dX8_addPallet_50 rfl ?_
  refine x_iconst (nI 0) 53 dX8_addPallet_52 rfl rfl ?_
  refine x_sipush (nI 9999) 56 dX8_addPallet_53 rfl rfl ?_
  exact x_callS 59 [.int x5, .int (nI 0), .int (nI 9999)] [] dX8_addPallet_56 rfl lk_8_outside ⟨wd267, wd240⟩ ⟨by decide, by decide⟩ rfl rfl (Nat.le_of_ble_eq_true rfl) (Nat.le_of_ble_eq_true rfl) (by decide) (by decide) kk
set_option maxRecDepth 20000 in
theorem B8_addPallet_59 {ω : Om} {h : AH} {Q : Option Value → AH → Prop} {x0 : Nat} {x1 : Int32} {x2 : Int32} {x3 : Int32} {x4 : Int32} {x5 : Int32} {u6 : Option Value} {y0 : Int32} (hw : ω.2.2.2.1 = true) (kt : y0 = 0 → Ex ω M8_addPallet 64 [some (.ref x0), some (.int x1), some (.int x2), some (.int x3), some (.int x4), some (.int x5), none] [] h 0 0 Q) (kf : ¬ y0 = 0 → Ex ω M8_addPallet 62 [some (.ref x0), some (.int x1), some (.int x2), some (.int x3), some (.int x4), some (.int x5), none] [] h 0 0 Q) : Ex ω M8_addPallet 59 [some (.ref x0), some (.int x1), some (.int x2), some (.int x3), some (.int x4), some (.int x5), u6] [.int y0] h 0 0 Q := by
  refine x_dr6 ?_
  exact x_if_eq 62 64 dX8_addPallet_59 rfl (by decide) kt kf
set_option maxRecDepth 20000 in
theorem B8_addPallet_62 {ω : Om} {h : AH} {Q : Option Value → AH → Prop} {u0 : Option Value} {u1 : Option Value} {u2 : Option Value} {u3 : Option Value} {u4 : Option Value} {u5 : Option Value} {u6 : Option Value} (hw : ω.2.2.2.1 = true) (hq : Q (some (.int ((-1)))) h) : Ex ω M8_addPallet 62 [u0, u1, u2, u3, u4, u5, u6] [] h 0 0 Q := by
  refine x_dr0 ?_
  refine x_dr1 ?_
  refine x_dr2 ?_
  refine x_dr3 ?_
  refine x_dr4 ?_
  refine x_dr5 ?_
  refine x_dr6 ?_
  refine x_iconst ((-1)) 63 dX8_addPallet_62 rfl rfl ?_
  exact x_iret dX8_addPallet_63 rfl (Nat.zero_le _) (Nat.zero_le _) hq
set_option maxRecDepth 20000 in
theorem B8_addPallet_64 {ω : Om} {h : AH} {Q : Option Value → AH → Prop} {x0 : Nat} {x1 : Int32} {x2 : Int32} {x3 : Int32} {x4 : Int32} {x5 : Int32} {u6 : Option Value} (hw : ω.2.2.2.1 = true) (s_x0 : gs h x0 = some (8, 8)) (kt : (gi h (gr h x0 0) 3) < (nI 8) → Ex ω M8_addPallet 79 [some (.ref x0), some (.int x1), some (.int x2), some (.int x3), some (.int x4), some (.int x5), none] [] h 0 0 Q) (kf : ¬ (gi h (gr h x0 0) 3) < (nI 8) → Ex ω M8_addPallet 76 [some (.ref x0), some (.int x1), some (.int x2), some (.int x3), some (.int x4), some (.int x5), none] [] h 0 0 Q) : Ex ω M8_addPallet 64 [some (.ref x0), some (.int x1), some (.int x2), some (.int x3), some (.int x4), some (.int x5), u6] [] h 0 0 Q := by
  refine x_dr6 ?_
  refine x_aload0 65 dX8_addPallet_64 rfl ?_
  refine x_getR cf8 0 68 hw dX8_addPallet_65 rfl wd13 (fun _ => s_x0) (by decide) (by decide) rfl ?_
  refine x_getI cf5 3 71 dX8_addPallet_68 rfl wd286 (SH.fld hw (fun _ => s_x0) 0 (Nat.le_of_ble_eq_true rfl) rfl rfl) (by decide) rfl ?_
  refine x_bipush (nI 8) 73 dX8_addPallet_71 rfl rfl ?_
  exact x_icmp_lt 76 79 dX8_addPallet_73 rfl (by decide) kt kf
set_option maxRecDepth 20000 in
theorem B8_addPallet_76 {ω : Om} {h : AH} {Q : Option Value → AH → Prop} {u0 : Option Value} {u1 : Option Value} {u2 : Option Value} {u3 : Option Value} {u4 : Option Value} {u5 : Option Value} {u6 : Option Value} (hw : ω.2.2.2.1 = true) (hq : Q (some (.int ((-3)))) h) : Ex ω M8_addPallet 76 [u0, u1, u2, u3, u4, u5, u6] [] h 0 0 Q := by
  refine x_dr0 ?_
  refine x_dr1 ?_
  refine x_dr2 ?_
  refine x_dr3 ?_
  refine x_dr4 ?_
  refine x_dr5 ?_
  refine x_dr6 ?_
  refine x_bipush ((-3)) 78 dX8_addPallet_76 rfl rfl ?_
  exact x_iret dX8_addPallet_78 rfl (Nat.zero_le _) (Nat.zero_le _) hq
set_option maxRecDepth 20000 in
theorem B8_addPallet_79 {ω : Om} {h : AH} {Q : Option Value → AH → Prop} {x0 : Nat} {x1 : Int32} {x2 : Int32} {x3 : Int32} {x4 : Int32} {x5 : Int32} {u6 : Option Value} (hw : ω.2.2.2.1 = true) (s_x0 : gs h x0 = some (8, 8)) (kk : Ex ω M8_record 0 [some (.ref x0), none, none] [] h 0 0 (fun v h' => Ex ω M8_addPallet 83 [some (.ref x0), some (.int x1), some (.int x2), some (.int x3), some (.int x4), some (.int x5), none] (v.toList ++ []) h' 0 0 Q)) : Ex ω M8_addPallet 79 [some (.ref x0), some (.int x1), some (.int x2), some (.int x3), some (.int x4), some (.int x5), u6] [] h 0 0 Q := by
  refine x_dr6 ?_
  refine x_aload0 80 dX8_addPallet_79 rfl ?_
  exact x_callV 83 x0 [] [] dX8_addPallet_80 rfl lk_8_record ⟨wd256, wd257, wd258⟩ ⟨by decide, by decide⟩ (recvO cf8 (fun _ => s_x0)) rfl rfl (Nat.le_of_ble_eq_true rfl) (Nat.le_of_ble_eq_true rfl) (by decide) (by decide) kk
set_option maxRecDepth 20000 in
theorem B8_addPallet_83 {ω : Om} {h : AH} {Q : Option Value → AH → Prop} {x0 : Nat} {x1 : Int32} {x2 : Int32} {x3 : Int32} {x4 : Int32} {x5 : Int32} {u6 : Option Value} (hw : ω.2.2.2.1 = true) (s_x0 : gs h x0 = some (8, 8)) (kk : Ex ω M5_insertPallet 0 [some (.ref (gr h x0 0)), some (.int x5), none, none] [] h 0 0 (fun v h' => Ex ω M8_addPallet 92 [some (.ref x0), some (.int x1), some (.int x2), some (.int x3), some (.int x4), some (.int x5), none] (v.toList ++ []) h' 0 0 Q)) : Ex ω M8_addPallet 83 [some (.ref x0), some (.int x1), some (.int x2), some (.int x3), some (.int x4), some (.int x5), u6] [] h 0 0 Q := by
  refine x_dr6 ?_
  refine x_aload0 84 dX8_addPallet_83 rfl ?_
  refine x_getR cf8 0 87 hw dX8_addPallet_84 rfl wd13 (fun _ => s_x0) (by decide) (by decide) rfl ?_
  refine x_iload5 89 dX8_addPallet_87 rfl ?_
  exact x_callV 92 (gr h x0 0) [.int x5] [] dX8_addPallet_89 rfl lk_5_insertPallet ⟨wd379, wd380, wd381⟩ ⟨by decide, by decide⟩ (recvO cf5 (SH.fld hw (fun _ => s_x0) 0 (Nat.le_of_ble_eq_true rfl) rfl rfl)) rfl rfl (Nat.le_of_ble_eq_true rfl) (Nat.le_of_ble_eq_true rfl) (by decide) (by decide) kk
set_option maxRecDepth 20000 in
theorem B8_addPallet_92 {ω : Om} {h : AH} {Q : Option Value → AH → Prop} {u0 : Option Value} {x1 : Int32} {x2 : Int32} {x3 : Int32} {x4 : Int32} {u5 : Option Value} {u6 : Option Value} {y0 : Nat} (hw : ω.2.2.2.1 = true) (s_y0 : gs h y0 = some (1, 6)) (kk : Ex ω M1_measure 0 [some (.ref y0), some (.int x1), some (.int x2), some (.int x3), some (.int x4)] [] h 0 0 (fun v h' => Ex ω M8_addPallet 104 [none, some (.int x1), some (.int x2), some (.int x3), some (.int x4), none, some (.ref y0)] (v.toList ++ []) h' 0 0 Q)) : Ex ω M8_addPallet 92 [u0, some (.int x1), some (.int x2), some (.int x3), some (.int x4), u5, u6] [.ref y0] h 0 0 Q := by
  refine x_dr0 ?_
  refine x_dr5 ?_
  refine x_dr6 ?_
  refine x_astore6 94 dX8_addPallet_92 rfl (by decide) rfl ?_
  refine x_aload6 96 dX8_addPallet_94 rfl ?_
  refine x_iload1 97 dX8_addPallet_96 rfl ?_
  refine x_iload2 98 dX8_addPallet_97 rfl ?_
  refine x_iload3 99 dX8_addPallet_98 rfl ?_
  refine x_iload4 101 dX8_addPallet_99 rfl ?_
  exact x_callV 104 y0 [.int x1, .int x2, .int x3, .int x4] [] dX8_addPallet_101 rfl lk_1_measure ⟨wd389, wd123, wd124⟩ ⟨by decide, by decide⟩ (recvO cf1 (fun _ => s_y0)) rfl rfl (Nat.le_of_ble_eq_true rfl) (Nat.le_of_ble_eq_true rfl) (by decide) (by decide) kk
set_option maxRecDepth 20000 in
theorem B8_addPallet_104 {ω : Om} {h : AH} {Q : Option Value → AH → Prop} {u0 : Option Value} {u1 : Option Value} {u2 : Option Value} {u3 : Option Value} {u4 : Option Value} {u5 : Option Value} {x6 : Nat} (hw : ω.2.2.2.1 = true) (s_x6 : gs h x6 = some (1, 6)) (hq : Q (some (.int (gi h x6 0))) h) : Ex ω M8_addPallet 104 [u0, u1, u2, u3, u4, u5, some (.ref x6)] [] h 0 0 Q := by
  refine x_dr0 ?_
  refine x_dr1 ?_
  refine x_dr2 ?_
  refine x_dr3 ?_
  refine x_dr4 ?_
  refine x_dr5 ?_
  refine x_aload6 106 dX8_addPallet_104 rfl ?_
  refine x_getI cf1 0 109 dX8_addPallet_106 rfl wd378 (fun _ => s_x6) (by decide) rfl ?_
  exact x_iret dX8_addPallet_109 rfl (Nat.zero_le _) (Nat.zero_le _) hq
set_option maxRecDepth 20000 in
theorem B8_waiting_0 {ω : Om} {h : AH} {Q : Option Value → AH → Prop} {x0 : Nat} {x1 : Int32} {x2 : Int32} (hw : ω.2.2.2.1 = true) (kt : x1 < 0 → Ex ω M8_waiting 13 [some (.ref x0), some (.int x1), some (.int x2)] [] h 0 0 Q) (kf : ¬ x1 < 0 → Ex ω M8_waiting 4 [some (.ref x0), some (.int x1), some (.int x2)] [] h 0 0 Q) : Ex ω M8_waiting 0 [some (.ref x0), some (.int x1), some (.int x2)] [] h 0 0 Q := by
  refine x_iload1 1 dX8_waiting_0 rfl ?_
  exact x_if_lt 4 13 dX8_waiting_1 rfl (by decide) kt kf
set_option maxRecDepth 20000 in
theorem B8_waiting_4 {ω : Om} {h : AH} {Q : Option Value → AH → Prop} {x0 : Nat} {x1 : Int32} {x2 : Int32} (hw : ω.2.2.2.1 = true) (kk : Ex ω M8_outside 0 [some (.int x2), some (.int (nI 0)), some (.int (nI 5))] [] h 0 0 (fun v h' => Ex ω M8_waiting 10 [some (.ref x0), some (.int x1), some (.int x2)] (v.toList ++ []) h' 0 0 Q)) : Ex ω M8_waiting 4 [some (.ref x0), some (.int x1), some (.int x2)] [] h 0 0 Q := by
  refine x_iload2 5 dX8_waiting_4 rfl ?_
  refine x_iconst (nI 0) 6 dX8_waiting_5 rfl rfl ?_
  refine x_iconst (nI 5) 7 dX8_waiting_6 rfl rfl ?_
  exact x_callS 10 [.int x2, .int (nI 0), .int (nI 5)] [] dX8_waiting_7 rfl lk_8_outside ⟨wd267, wd240⟩ ⟨by decide, by decide⟩ rfl rfl (Nat.le_of_ble_eq_true rfl) (Nat.le_of_ble_eq_true rfl) (by decide) (by decide) kk
set_option maxRecDepth 20000 in
theorem B8_waiting_10 {ω : Om} {h : AH} {Q : Option Value → AH → Prop} {x0 : Nat} {x1 : Int32} {x2 : Int32} {y0 : Int32} (hw : ω.2.2.2.1 = true) (kt : y0 = 0 → Ex ω M8_waiting 15 [some (.ref x0), some (.int x1), some (.int x2)] [] h 0 0 Q) (kf : ¬ y0 = 0 → Ex ω M8_waiting 13 [some (.ref x0), some (.int x1), some (.int x2)] [] h 0 0 Q) : Ex ω M8_waiting 10 [some (.ref x0), some (.int x1), some (.int x2)] [.int y0] h 0 0 Q := by
  exact x_if_eq 13 15 dX8_waiting_10 rfl (by decide) kt kf
set_option maxRecDepth 20000 in
theorem B8_waiting_13 {ω : Om} {h : AH} {Q : Option Value → AH → Prop} {u0 : Option Value} {u1 : Option Value} {u2 : Option Value} (hw : ω.2.2.2.1 = true) (hq : Q (some (.int ((-1)))) h) : Ex ω M8_waiting 13 [u0, u1, u2] [] h 0 0 Q := by
  refine x_dr0 ?_
  refine x_dr1 ?_
  refine x_dr2 ?_
  refine x_iconst ((-1)) 14 dX8_waiting_13 rfl rfl ?_
  exact x_iret dX8_waiting_14 rfl (Nat.zero_le _) (Nat.zero_le _) hq
set_option maxRecDepth 20000 in
theorem B8_waiting_15 {ω : Om} {h : AH} {Q : Option Value → AH → Prop} {x0 : Nat} {x1 : Int32} {x2 : Int32} (hw : ω.2.2.2.1 = true) (s_x0 : gs h x0 = some (8, 8)) (kt : x1 < (gi h (gr h x0 0) 3) → Ex ω M8_waiting 29 [some (.ref x0), some (.int x1), some (.int x2)] [] h 0 0 Q) (kf : ¬ x1 < (gi h (gr h x0 0) 3) → Ex ω M8_waiting 26 [some (.ref x0), some (.int x1), some (.int x2)] [] h 0 0 Q) : Ex ω M8_waiting 15 [some (.ref x0), some (.int x1), some (.int x2)] [] h 0 0 Q := by
  refine x_iload1 16 dX8_waiting_15 rfl ?_
  refine x_aload0 17 dX8_waiting_16 rfl ?_
  refine x_getR cf8 0 20 hw dX8_waiting_17 rfl wd13 (fun _ => s_x0) (by decide) (by decide) rfl ?_
  refine x_getI cf5 3 23 dX8_waiting_20 rfl wd286 (SH.fld hw (fun _ => s_x0) 0 (Nat.le_of_ble_eq_true rfl) rfl rfl) (by decide) rfl ?_
  exact x_icmp_lt 26 29 dX8_waiting_23 rfl (by decide) kt kf
set_option maxRecDepth 20000 in
theorem B8_waiting_26 {ω : Om} {h : AH} {Q : Option Value → AH → Prop} {u0 : Option Value} {u1 : Option Value} {u2 : Option Value} (hw : ω.2.2.2.1 = true) (hq : Q (some (.int ((-4)))) h) : Ex ω M8_waiting 26 [u0, u1, u2] [] h 0 0 Q := by
  refine x_dr0 ?_
  refine x_dr1 ?_
  refine x_dr2 ?_
  refine x_bipush ((-4)) 28 dX8_waiting_26 rfl rfl ?_
  exact x_iret dX8_waiting_28 rfl (Nat.zero_le _) (Nat.zero_le _) hq
set_option maxRecDepth 20000 in
theorem B8_waiting_29 {ω : Om} {h : AH} {Q : Option Value → AH → Prop} {x0 : Nat} {x1 : Int32} {x2 : Int32} (hw : ω.2.2.2.1 = true) (s_x0 : gs h x0 = some (8, 8)) (i1 : vp_in x1 8) (kk : Ex ω M1_property 0 [some (.ref (gr h (gr h (gr h x0 0) 2) (Int32.toNatClampNeg x1))), some (.int x2)] [] h 0 0 (fun v h' => Ex ω M8_waiting 42 [some (.ref x0), some (.int x1), some (.int x2)] (v.toList ++ []) h' 0 0 Q)) : Ex ω M8_waiting 29 [some (.ref x0), some (.int x1), some (.int x2)] [] h 0 0 Q := by
  refine x_aload0 30 dX8_waiting_29 rfl ?_
  refine x_getR cf8 0 33 hw dX8_waiting_30 rfl wd13 (fun _ => s_x0) (by decide) (by decide) rfl ?_
  refine x_getR cf5 2 36 hw dX8_waiting_33 rfl wd397 (SH.fld hw (fun _ => s_x0) 0 (Nat.le_of_ble_eq_true rfl) rfl rfl) (by decide) (by decide) rfl ?_
  refine x_iload1 37 dX8_waiting_36 rfl ?_
  refine x_aald arK13 (Int32.toNatClampNeg x1) 38 hw dX8_waiting_37 rfl (SH.fld hw (SH.fld hw (fun _ => s_x0) 0 (Nat.le_of_ble_eq_true rfl) rfl rfl) 2 (Nat.le_of_ble_eq_true rfl) rfl rfl) i1 rfl ?_
  refine x_iload2 39 dX8_waiting_38 rfl ?_
  exact x_callV 42 (gr h (gr h (gr h x0 0) 2) (Int32.toNatClampNeg x1)) [.int x2] [] dX8_waiting_39 rfl lk_1_property ⟨wd398, wd399, wd400⟩ ⟨by decide, by decide⟩ (recvO cf1 (SH.elt hw (SH.fld hw (SH.fld hw (fun _ => s_x0) 0 (Nat.le_of_ble_eq_true rfl) rfl rfl) 2 (Nat.le_of_ble_eq_true rfl) rfl rfl) i1 (fun _ => rfl) (fun _ => rfl))) rfl rfl (Nat.le_of_ble_eq_true rfl) (Nat.le_of_ble_eq_true rfl) (by decide) (by decide) kk
set_option maxRecDepth 20000 in
theorem B8_waiting_42 {ω : Om} {h : AH} {Q : Option Value → AH → Prop} {u0 : Option Value} {u1 : Option Value} {u2 : Option Value} {y0 : Int32} (hw : ω.2.2.2.1 = true) (hq : Q (some (.int y0)) h) : Ex ω M8_waiting 42 [u0, u1, u2] [.int y0] h 0 0 Q := by
  refine x_dr0 ?_
  refine x_dr1 ?_
  refine x_dr2 ?_
  exact x_iret dX8_waiting_42 rfl (Nat.zero_le _) (Nat.zero_le _) hq
set_option maxRecDepth 20000 in
theorem B8_set_0 {ω : Om} {h : AH} {Q : Option Value → AH → Prop} {x0 : Nat} {x1 : Int32} {x2 : Int32} {u3 : Option Value} (hw : ω.2.2.2.1 = true) (kk : Ex ω M8_outside 0 [some (.int x1), some (.int (nI 0)), some (.int (nI 1))] [] h 0 0 (fun v h' => Ex ω M8_set 6 [some (.ref x0), some (.int x1), some (.int x2), none] (v.toList ++ []) h' 0 0 Q)) : Ex ω M8_set 0 [some (.ref x0), some (.int x1), some (.int x2), u3] [] h 0 0 Q := by
  refine x_dr3 ?_
  refine x_iload1 1 dX8_set_0 rfl ?_
  refine x_iconst (nI 0) 2 dX8_set_1 rfl rfl ?_
  refine x_iconst (nI 1) 3 dX8_set_2 rfl rfl ?_
  exact x_callS 6 [.int x1, .int (nI 0), .int (nI 1)] [] dX8_set_3 rfl lk_8_outside ⟨wd267, wd240⟩ ⟨by decide, by decide⟩ rfl rfl (Nat.le_of_ble_eq_true rfl) (Nat.le_of_ble_eq_true rfl) (by decide) (by decide) kk
set_option maxRecDepth 20000 in
theorem B8_set_6 {ω : Om} {h : AH} {Q : Option Value → AH → Prop} {x0 : Nat} {x1 : Int32} {x2 : Int32} {u3 : Option Value} {y0 : Int32} (hw : ω.2.2.2.1 = true) (kt : ¬ y0 = 0 → Ex ω M8_set 29 [some (.ref x0), some (.int x1), some (.int x2), none] [] h 0 0 Q) (kf : y0 = 0 → Ex ω M8_set 9 [some (.ref x0), some (.int x1), some (.int x2), none] [] h 0 0 Q) : Ex ω M8_set 6 [some (.ref x0), some (.int x1), some (.int x2), u3] [.int y0] h 0 0 Q := by
  refine x_dr3 ?_
  exact x_if_ne 9 29 dX8_set_6 rfl (by decide) kt kf
set_option maxRecDepth 20000 in
theorem B8_set_9 {ω : Om} {h : AH} {Q : Option Value → AH → Prop} {x0 : Nat} {x1 : Int32} {x2 : Int32} {u3 : Option Value} (hw : ω.2.2.2.1 = true) (kt : ¬ x1 = 0 → Ex ω M8_set 21 [some (.ref x0), some (.int x1), some (.int x2), none] [.int (nI 0), .int x2] h 0 0 Q) (kf : x1 = 0 → Ex ω M8_set 15 [some (.ref x0), some (.int x1), some (.int x2), none] [.int (nI 0), .int x2] h 0 0 Q) : Ex ω M8_set 9 [some (.ref x0), some (.int x1), some (.int x2), u3] [] h 0 0 Q := by
  refine x_dr3 ?_
  refine x_iload2 10 dX8_set_9 rfl ?_
  refine x_iconst (nI 0) 11 dX8_set_10 rfl rfl ?_
  refine x_iload1 12 dX8_set_11 rfl ?_
  exact x_if_ne 15 21 dX8_set_12 rfl (by decide) kt kf
set_option maxRecDepth 20000 in
theorem B8_set_15 {ω : Om} {h : AH} {Q : Option Value → AH → Prop} {x0 : Nat} {x1 : Int32} {x2 : Int32} {u3 : Option Value} {y0 : Int32} {y1 : Int32} (hw : ω.2.2.2.1 = true) (kt : Ex ω M8_set 23 [some (.ref x0), some (.int x1), some (.int x2), none] [.int (nI 500), .int y1, .int y0] h 0 0 Q) : Ex ω M8_set 15 [some (.ref x0), some (.int x1), some (.int x2), u3] [.int y1, .int y0] h 0 0 Q := by
  refine x_dr3 ?_
  refine x_sipush (nI 500) 18 dX8_set_15 rfl rfl ?_
  exact x_goto 23 dX8_set_18 (by decide) kt
set_option maxRecDepth 20000 in
theorem B8_set_21 {ω : Om} {h : AH} {Q : Option Value → AH → Prop} {x0 : Nat} {x1 : Int32} {x2 : Int32} {u3 : Option Value} {y0 : Int32} {y1 : Int32} (hw : ω.2.2.2.1 = true) (kf : Ex ω M8_set 23 [some (.ref x0), some (.int x1), some (.int x2), none] [.int (nI 20), .int y1, .int y0] h 0 0 Q) : Ex ω M8_set 21 [some (.ref x0), some (.int x1), some (.int x2), u3] [.int y1, .int y0] h 0 0 Q := by
  refine x_dr3 ?_
  refine x_bipush (nI 20) 23 dX8_set_21 rfl rfl ?_
  exact kf
set_option maxRecDepth 20000 in
theorem B8_set_23 {ω : Om} {h : AH} {Q : Option Value → AH → Prop} {x0 : Nat} {x1 : Int32} {x2 : Int32} {u3 : Option Value} {y0 : Int32} {y1 : Int32} {y2 : Int32} (hw : ω.2.2.2.1 = true) (kk : Ex ω M8_outside 0 [some (.int y0), some (.int y1), some (.int y2)] [] h 0 0 (fun v h' => Ex ω M8_set 26 [some (.ref x0), some (.int x1), some (.int x2), none] (v.toList ++ []) h' 0 0 Q)) : Ex ω M8_set 23 [some (.ref x0), some (.int x1), some (.int x2), u3] [.int y2, .int y1, .int y0] h 0 0 Q := by
  refine x_dr3 ?_
  exact x_callS 26 [.int y0, .int y1, .int y2] [] dX8_set_23 rfl lk_8_outside ⟨wd267, wd240⟩ ⟨by decide, by decide⟩ rfl rfl (Nat.le_of_ble_eq_true rfl) (Nat.le_of_ble_eq_true rfl) (by decide) (by decide) kk
set_option maxRecDepth 20000 in
theorem B8_set_26 {ω : Om} {h : AH} {Q : Option Value → AH → Prop} {x0 : Nat} {x1 : Int32} {x2 : Int32} {u3 : Option Value} {y0 : Int32} (hw : ω.2.2.2.1 = true) (kt : y0 = 0 → Ex ω M8_set 31 [some (.ref x0), some (.int x1), some (.int x2), none] [] h 0 0 Q) (kf : ¬ y0 = 0 → Ex ω M8_set 29 [some (.ref x0), some (.int x1), some (.int x2), none] [] h 0 0 Q) : Ex ω M8_set 26 [some (.ref x0), some (.int x1), some (.int x2), u3] [.int y0] h 0 0 Q := by
  refine x_dr3 ?_
  exact x_if_eq 29 31 dX8_set_26 rfl (by decide) kt kf
set_option maxRecDepth 20000 in
theorem B8_set_29 {ω : Om} {h : AH} {Q : Option Value → AH → Prop} {u0 : Option Value} {u1 : Option Value} {u2 : Option Value} {u3 : Option Value} (hw : ω.2.2.2.1 = true) (hq : Q (some (.int ((-1)))) h) : Ex ω M8_set 29 [u0, u1, u2, u3] [] h 0 0 Q := by
  refine x_dr0 ?_
  refine x_dr1 ?_
  refine x_dr2 ?_
  refine x_dr3 ?_
  refine x_iconst ((-1)) 30 dX8_set_29 rfl rfl ?_
  exact x_iret dX8_set_30 rfl (Nat.zero_le _) (Nat.zero_le _) hq
set_option maxRecDepth 20000 in
theorem B8_set_31 {ω : Om} {h : AH} {Q : Option Value → AH → Prop} {x0 : Nat} {x1 : Int32} {x2 : Int32} {u3 : Option Value} (hw : ω.2.2.2.1 = true) (s_x0 : gs h x0 = some (8, 8)) (kk : Ex ω M8_record 0 [some (.ref x0), none, none] [] h 0 0 (fun v h' => Ex ω M8_set 35 [some (.ref x0), some (.int x1), some (.int x2), none] (v.toList ++ []) h' 0 0 Q)) : Ex ω M8_set 31 [some (.ref x0), some (.int x1), some (.int x2), u3] [] h 0 0 Q := by
  refine x_dr3 ?_
  refine x_aload0 32 dX8_set_31 rfl ?_
  exact x_callV 35 x0 [] [] dX8_set_32 rfl lk_8_record ⟨wd256, wd257, wd258⟩ ⟨by decide, by decide⟩ (recvO cf8 (fun _ => s_x0)) rfl rfl (Nat.le_of_ble_eq_true rfl) (Nat.le_of_ble_eq_true rfl) (by decide) (by decide) kk
set_option maxRecDepth 20000 in
theorem B8_set_35 {ω : Om} {h : AH} {Q : Option Value → AH → Prop} {x0 : Nat} {x1 : Int32} {x2 : Int32} {u3 : Option Value} (hw : ω.2.2.2.1 = true) (kt : ¬ x1 = 0 → Ex ω M8_set 49 [some (.ref x0), some (.int x1), some (.int x2), none] [] h 0 0 Q) (kf : x1 = 0 → Ex ω M8_set 39 [some (.ref x0), some (.int x1), some (.int x2), none] [] h 0 0 Q) : Ex ω M8_set 35 [some (.ref x0), some (.int x1), some (.int x2), u3] [] h 0 0 Q := by
  refine x_dr3 ?_
  refine x_iload1 36 dX8_set_35 rfl ?_
  exact x_if_ne 39 49 dX8_set_36 rfl (by decide) kt kf
set_option maxRecDepth 20000 in
theorem B8_set_39 {ω : Om} {h : AH} {Q : Option Value → AH → Prop} {x0 : Nat} {x1 : Int32} {x2 : Int32} {u3 : Option Value} (hw : ω.2.2.2.1 = true) (s_x0 : gs h x0 = some (8, 8)) (kt : Ex ω M8_set 56 [some (.ref x0), some (.int x1), some (.int x2), none] [.int (gi h (gr h x0 0) 9)] h 0 0 Q) : Ex ω M8_set 39 [some (.ref x0), some (.int x1), some (.int x2), u3] [] h 0 0 Q := by
  refine x_dr3 ?_
  refine x_aload0 40 dX8_set_39 rfl ?_
  refine x_getR cf8 0 43 hw dX8_set_40 rfl wd13 (fun _ => s_x0) (by decide) (by decide) rfl ?_
  refine x_getI cf5 9 46 dX8_set_43 rfl wd289 (SH.fld hw (fun _ => s_x0) 0 (Nat.le_of_ble_eq_true rfl) rfl rfl) (by decide) rfl ?_
  exact x_goto 56 dX8_set_46 (by decide) kt
set_option maxRecDepth 20000 in
theorem B8_set_49 {ω : Om} {h : AH} {Q : Option Value → AH → Prop} {x0 : Nat} {x1 : Int32} {x2 : Int32} {u3 : Option Value} (hw : ω.2.2.2.1 = true) (s_x0 : gs h x0 = some (8, 8)) (kf : Ex ω M8_set 56 [some (.ref x0), some (.int x1), some (.int x2), none] [.int (gi h (gr h x0 0) 10)] h 0 0 Q) : Ex ω M8_set 49 [some (.ref x0), some (.int x1), some (.int x2), u3] [] h 0 0 Q := by
  refine x_dr3 ?_
  refine x_aload0 50 dX8_set_49 rfl ?_
  refine x_getR cf8 0 53 hw dX8_set_50 rfl wd13 (fun _ => s_x0) (by decide) (by decide) rfl ?_
  refine x_getI cf5 10 56 dX8_set_53 rfl wd290 (SH.fld hw (fun _ => s_x0) 0 (Nat.le_of_ble_eq_true rfl) rfl rfl) (by decide) rfl ?_
  exact kf
set_option maxRecDepth 20000 in
theorem B8_set_56 {ω : Om} {h : AH} {Q : Option Value → AH → Prop} {x0 : Nat} {x1 : Int32} {x2 : Int32} {u3 : Option Value} {y0 : Int32} (hw : ω.2.2.2.1 = true) (kt : ¬ x1 = 0 → Ex ω M8_set 72 [some (.ref x0), some (.int x1), some (.int x2), some (.int y0)] [] h 0 0 Q) (kf : x1 = 0 → Ex ω M8_set 61 [some (.ref x0), some (.int x1), some (.int x2), some (.int y0)] [] h 0 0 Q) : Ex ω M8_set 56 [some (.ref x0), some (.int x1), some (.int x2), u3] [.int y0] h 0 0 Q := by
  refine x_dr3 ?_
  refine x_istore3 57 dX8_set_56 rfl (by decide) rfl ?_
  refine x_iload1 58 dX8_set_57 rfl ?_
  exact x_if_ne 61 72 dX8_set_58 rfl (by decide) kt kf
set_option maxRecDepth 20000 in
theorem B8_set_61 {ω : Om} {h : AH} {Q : Option Value → AH → Prop} {x0 : Nat} {u1 : Option Value} {x2 : Int32} {x3 : Int32} (hw : ω.2.2.2.1 = true) (s_x0 : gs h x0 = some (8, 8)) (kt : Ex ω M8_set 80 [some (.ref x0), none, some (.int x2), some (.int x3)] [] (si h (gr h x0 0) 9 x2) 0 0 Q) : Ex ω M8_set 61 [some (.ref x0), u1, some (.int x2), some (.int x3)] [] h 0 0 Q := by
  refine x_dr1 ?_
  refine x_aload0 62 dX8_set_61 rfl ?_
  refine x_getR cf8 0 65 hw dX8_set_62 rfl wd13 (fun _ => s_x0) (by decide) (by decide) rfl ?_
  refine x_iload2 66 dX8_set_65 rfl ?_
  refine x_putI cf5 9 69 dX8_set_66 rfl wd289 (SH.fld hw (fun _ => s_x0) 0 (Nat.le_of_ble_eq_true rfl) rfl rfl) (by decide) rfl rfl ?_
  exact x_goto 80 dX8_set_69 (by decide) kt
set_option maxRecDepth 20000 in
theorem B8_set_72 {ω : Om} {h : AH} {Q : Option Value → AH → Prop} {x0 : Nat} {u1 : Option Value} {x2 : Int32} {x3 : Int32} (hw : ω.2.2.2.1 = true) (s_x0 : gs h x0 = some (8, 8)) (kf : Ex ω M8_set 80 [some (.ref x0), none, some (.int x2), some (.int x3)] [] (si h (gr h x0 0) 10 x2) 0 0 Q) : Ex ω M8_set 72 [some (.ref x0), u1, some (.int x2), some (.int x3)] [] h 0 0 Q := by
  refine x_dr1 ?_
  refine x_aload0 73 dX8_set_72 rfl ?_
  refine x_getR cf8 0 76 hw dX8_set_73 rfl wd13 (fun _ => s_x0) (by decide) (by decide) rfl ?_
  refine x_iload2 77 dX8_set_76 rfl ?_
  refine x_putI cf5 10 80 dX8_set_77 rfl wd290 (SH.fld hw (fun _ => s_x0) 0 (Nat.le_of_ble_eq_true rfl) rfl rfl) (by decide) rfl rfl ?_
  exact kf
set_option maxRecDepth 20000 in
theorem B8_set_80 {ω : Om} {h : AH} {Q : Option Value → AH → Prop} {u0 : Option Value} {u1 : Option Value} {u2 : Option Value} {x3 : Int32} (hw : ω.2.2.2.1 = true) (hq : Q (some (.int x3)) h) : Ex ω M8_set 80 [u0, u1, u2, some (.int x3)] [] h 0 0 Q := by
  refine x_dr0 ?_
  refine x_dr1 ?_
  refine x_dr2 ?_
  refine x_iload3 81 dX8_set_80 rfl ?_
  exact x_iret dX8_set_81 rfl (Nat.zero_le _) (Nat.zero_le _) hq
set_option maxRecDepth 20000 in
theorem B8_undo_0 {ω : Om} {h : AH} {Q : Option Value → AH → Prop} {x0 : Nat} (hw : ω.2.2.2.1 = true) (s_x0 : gs h x0 = some (8, 8)) (kt : ¬ (gi h x0 3) = 0 → Ex ω M8_undo 10 [some (.ref x0)] [] h 0 0 Q) (kf : (gi h x0 3) = 0 → Ex ω M8_undo 7 [some (.ref x0)] [] h 0 0 Q) : Ex ω M8_undo 0 [some (.ref x0)] [] h 0 0 Q := by
  refine x_aload0 1 dX8_undo_0 rfl ?_
  refine x_getI cf8 3 4 dX8_undo_1 rfl wd16 (fun _ => s_x0) (by decide) rfl ?_
  exact x_if_ne 7 10 dX8_undo_4 rfl (by decide) kt kf
set_option maxRecDepth 20000 in
theorem B8_undo_7 {ω : Om} {h : AH} {Q : Option Value → AH → Prop} {u0 : Option Value} (hw : ω.2.2.2.1 = true) (hq : Q (some (.int ((-2)))) h) : Ex ω M8_undo 7 [u0] [] h 0 0 Q := by
  refine x_dr0 ?_
  refine x_bipush ((-2)) 9 dX8_undo_7 rfl rfl ?_
  exact x_iret dX8_undo_9 rfl (Nat.zero_le _) (Nat.zero_le _) hq
set_option maxRecDepth 20000 in
theorem B8_undo_10 {ω : Om} {h : AH} {Q : Option Value → AH → Prop} {x0 : Nat} (hw : ω.2.2.2.1 = true) (s_x0 : gs h x0 = some (8, 8)) (i1 : vp_in (gi (si h x0 3 ((gi h x0 3) - (nI 1))) x0 3) 4) (kk : Ex ω M5_copyFrom 0 [some (.ref (gr h x0 0)), some (.ref (gr h (gr h x0 2) (Int32.toNatClampNeg (gi (si h x0 3 ((gi h x0 3) - (nI 1))) x0 3)))), none] [] (si h x0 3 ((gi h x0 3) - (nI 1))) 0 0 (fun v h' => Ex ω M8_undo 36 [some (.ref x0)] (v.toList ++ []) h' 0 0 Q)) : Ex ω M8_undo 10 [some (.ref x0)] [] h 0 0 Q := by
  refine x_aload0 11 dX8_undo_10 rfl ?_
  refine x_dup 12 dX8_undo_11 rfl rfl ?_
  refine x_getI cf8 3 15 dX8_undo_12 rfl wd16 (fun _ => s_x0) (by decide) rfl ?_
  refine x_iconst (nI 1) 16 dX8_undo_15 rfl rfl ?_
  refine x_isub 17 dX8_undo_16 rfl ?_
  refine x_putI cf8 3 20 dX8_undo_17 rfl wd16 (fun _ => s_x0) (by decide) rfl rfl ?_
  refine x_aload0 21 dX8_undo_20 rfl ?_
  refine x_getR cf8 0 24 hw dX8_undo_21 rfl wd13 (fun _ => s_x0) (by decide) (by decide) rfl ?_
  refine x_aload0 25 dX8_undo_24 rfl ?_
  refine x_getR cf8 2 28 hw dX8_undo_25 rfl wd15 (fun _ => s_x0) (by decide) (by decide) rfl ?_
  refine x_aload0 29 dX8_undo_28 rfl ?_
  refine x_getI cf8 3 32 dX8_undo_29 rfl wd16 (fun _ => s_x0) (by decide) rfl ?_
  refine x_aald arK15 (Int32.toNatClampNeg (gi (si h x0 3 ((gi h x0 3) - (nI 1))) x0 3)) 33 hw dX8_undo_32 rfl (SH.fld hw (fun _ => s_x0) 2 (Nat.le_of_ble_eq_true rfl) rfl rfl) i1 rfl ?_
  exact x_callV 36 (gr h x0 0) [.ref (gr h (gr h x0 2) (Int32.toNatClampNeg (gi (si h x0 3 ((gi h x0 3) - (nI 1))) x0 3)))] [] dX8_undo_33 rfl lk_5_copyFrom ⟨wd96, wd97, wd98⟩ ⟨by decide, by decide⟩ (recvO cf5 (SH.fld hw (fun _ => s_x0) 0 (Nat.le_of_ble_eq_true rfl) rfl rfl)) rfl rfl (Nat.le_of_ble_eq_true rfl) (Nat.le_of_ble_eq_true rfl) (by decide) (by decide) kk
set_option maxRecDepth 20000 in
theorem B8_undo_36 {ω : Om} {h : AH} {Q : Option Value → AH → Prop} {x0 : Nat} (hw : ω.2.2.2.1 = true) (s_x0 : gs h x0 = some (8, 8)) (hq : Q (some (.int (gi h x0 3))) h) : Ex ω M8_undo 36 [some (.ref x0)] [] h 0 0 Q := by
  refine x_aload0 37 dX8_undo_36 rfl ?_
  refine x_getI cf8 3 40 dX8_undo_37 rfl wd16 (fun _ => s_x0) (by decide) rfl ?_
  exact x_iret dX8_undo_40 rfl (Nat.zero_le _) (Nat.zero_le _) hq
set_option maxRecDepth 20000 in
theorem B8_count_0 {ω : Om} {h : AH} {Q : Option Value → AH → Prop} {x0 : Nat} {x1 : Int32} (hw : ω.2.2.2.1 = true) (c0 : x1 = nI 0 → Ex ω M8_count 52 [some (.ref x0), some (.int x1)] [] h 0 0 Q) (c1 : x1 = nI 1 → Ex ω M8_count 60 [some (.ref x0), some (.int x1)] [] h 0 0 Q) (c2 : x1 = nI 2 → Ex ω M8_count 68 [some (.ref x0), some (.int x1)] [] h 0 0 Q) (c3 : x1 = nI 3 → Ex ω M8_count 79 [some (.ref x0), some (.int x1)] [] h 0 0 Q) (c4 : x1 = nI 4 → Ex ω M8_count 90 [some (.ref x0), some (.int x1)] [] h 0 0 Q) (c5 : x1 = nI 5 → Ex ω M8_count 98 [some (.ref x0), some (.int x1)] [] h 0 0 Q) (c6 : x1 = nI 6 → Ex ω M8_count 106 [some (.ref x0), some (.int x1)] [] h 0 0 Q) (c7 : x1 = nI 7 → Ex ω M8_count 111 [some (.ref x0), some (.int x1)] [] h 0 0 Q) (c8 : x1 = nI 8 → Ex ω M8_count 119 [some (.ref x0), some (.int x1)] [] h 0 0 Q) (cd : (¬ (0 ≤ x1 ∧ x1 ≤ nI 8)) → Ex ω M8_count 130 [some (.ref x0), some (.int x1)] [] h 0 0 Q) : Ex ω M8_count 0 [some (.ref x0), some (.int x1)] [] h 0 0 Q := by
  refine x_iload1 1 dX8_count_0 rfl ?_
  refine x_tsw 8 [52, 60, 68, 79, 90, 98, 106, 111, 119] 130 dX8_count_1 (by decide) (by decide) (by decide) (by decide) (by decide) cd (fun j hj e => ?_)
  match j, hj with
  | 0, _ => exact c0 e
  | 1, _ => exact c1 e
  | 2, _ => exact c2 e
  | 3, _ => exact c3 e
  | 4, _ => exact c4 e
  | 5, _ => exact c5 e
  | 6, _ => exact c6 e
  | 7, _ => exact c7 e
  | 8, _ => exact c8 e
  | j + 9, hj => exact absurd hj (by simp)
set_option maxRecDepth 20000 in
theorem B8_count_52 {ω : Om} {h : AH} {Q : Option Value → AH → Prop} {x0 : Nat} {u1 : Option Value} (hw : ω.2.2.2.1 = true) (s_x0 : gs h x0 = some (8, 8)) (hq : Q (some (.int (gi h (gr h x0 0) 1))) h) : Ex ω M8_count 52 [some (.ref x0), u1] [] h 0 0 Q := by
  refine x_dr1 ?_
  refine x_aload0 53 dX8_count_52 rfl ?_
  refine x_getR cf8 0 56 hw dX8_count_53 rfl wd13 (fun _ => s_x0) (by decide) (by decide) rfl ?_
  refine x_getI cf5 1 59 dX8_count_56 rfl wd266 (SH.fld hw (fun _ => s_x0) 0 (Nat.le_of_ble_eq_true rfl) rfl rfl) (by decide) rfl ?_
  exact x_iret dX8_count_59 rfl (Nat.zero_le _) (Nat.zero_le _) hq
set_option maxRecDepth 20000 in
theorem B8_count_60 {ω : Om} {h : AH} {Q : Option Value → AH → Prop} {x0 : Nat} {u1 : Option Value} (hw : ω.2.2.2.1 = true) (s_x0 : gs h x0 = some (8, 8)) (hq : Q (some (.int (gi h (gr h x0 0) 3))) h) : Ex ω M8_count 60 [some (.ref x0), u1] [] h 0 0 Q := by
  refine x_dr1 ?_
  refine x_aload0 61 dX8_count_60 rfl ?_
  refine x_getR cf8 0 64 hw dX8_count_61 rfl wd13 (fun _ => s_x0) (by decide) (by decide) rfl ?_
  refine x_getI cf5 3 67 dX8_count_64 rfl wd286 (SH.fld hw (fun _ => s_x0) 0 (Nat.le_of_ble_eq_true rfl) rfl rfl) (by decide) rfl ?_
  exact x_iret dX8_count_67 rfl (Nat.zero_le _) (Nat.zero_le _) hq
set_option maxRecDepth 20000 in
theorem B8_count_68 {ω : Om} {h : AH} {Q : Option Value → AH → Prop} {x0 : Nat} {u1 : Option Value} (hw : ω.2.2.2.1 = true) (s_x0 : gs h x0 = some (8, 8)) (hq : Q (some (.int (gi h (gr h (gr h x0 0) 8) 0))) h) : Ex ω M8_count 68 [some (.ref x0), u1] [] h 0 0 Q := by
  refine x_dr1 ?_
  refine x_aload0 69 dX8_count_68 rfl ?_
  refine x_getR cf8 0 72 hw dX8_count_69 rfl wd13 (fun _ => s_x0) (by decide) (by decide) rfl ?_
  refine x_getR cf5 8 75 hw dX8_count_72 rfl wd287 (SH.fld hw (fun _ => s_x0) 0 (Nat.le_of_ble_eq_true rfl) rfl rfl) (by decide) (by decide) rfl ?_
  refine x_getI cf6 0 78 dX8_count_75 rfl wd288 (SH.fld hw (SH.fld hw (fun _ => s_x0) 0 (Nat.le_of_ble_eq_true rfl) rfl rfl) 8 (Nat.le_of_ble_eq_true rfl) rfl rfl) (by decide) rfl ?_
  exact x_iret dX8_count_78 rfl (Nat.zero_le _) (Nat.zero_le _) hq
set_option maxRecDepth 20000 in
theorem B8_count_79 {ω : Om} {h : AH} {Q : Option Value → AH → Prop} {x0 : Nat} {u1 : Option Value} (hw : ω.2.2.2.1 = true) (s_x0 : gs h x0 = some (8, 8)) (hq : Q (some (.int (gi h (gr h (gr h x0 0) 7) 0))) h) : Ex ω M8_count 79 [some (.ref x0), u1] [] h 0 0 Q := by
  refine x_dr1 ?_
  refine x_aload0 80 dX8_count_79 rfl ?_
  refine x_getR cf8 0 83 hw dX8_count_80 rfl wd13 (fun _ => s_x0) (by decide) (by decide) rfl ?_
  refine x_getR cf5 7 86 hw dX8_count_83 rfl wd254 (SH.fld hw (fun _ => s_x0) 0 (Nat.le_of_ble_eq_true rfl) rfl rfl) (by decide) (by decide) rfl ?_
  refine x_getI cf2 0 89 dX8_count_86 rfl wd255 (SH.fld hw (SH.fld hw (fun _ => s_x0) 0 (Nat.le_of_ble_eq_true rfl) rfl rfl) 7 (Nat.le_of_ble_eq_true rfl) rfl rfl) (by decide) rfl ?_
  exact x_iret dX8_count_89 rfl (Nat.zero_le _) (Nat.zero_le _) hq
set_option maxRecDepth 20000 in
theorem B8_count_90 {ω : Om} {h : AH} {Q : Option Value → AH → Prop} {x0 : Nat} {u1 : Option Value} (hw : ω.2.2.2.1 = true) (s_x0 : gs h x0 = some (8, 8)) (hq : Q (some (.int (gi h (gr h x0 0) 9))) h) : Ex ω M8_count 90 [some (.ref x0), u1] [] h 0 0 Q := by
  refine x_dr1 ?_
  refine x_aload0 91 dX8_count_90 rfl ?_
  refine x_getR cf8 0 94 hw dX8_count_91 rfl wd13 (fun _ => s_x0) (by decide) (by decide) rfl ?_
  refine x_getI cf5 9 97 dX8_count_94 rfl wd289 (SH.fld hw (fun _ => s_x0) 0 (Nat.le_of_ble_eq_true rfl) rfl rfl) (by decide) rfl ?_
  exact x_iret dX8_count_97 rfl (Nat.zero_le _) (Nat.zero_le _) hq
set_option maxRecDepth 20000 in
theorem B8_count_98 {ω : Om} {h : AH} {Q : Option Value → AH → Prop} {x0 : Nat} {u1 : Option Value} (hw : ω.2.2.2.1 = true) (s_x0 : gs h x0 = some (8, 8)) (hq : Q (some (.int (gi h (gr h x0 0) 10))) h) : Ex ω M8_count 98 [some (.ref x0), u1] [] h 0 0 Q := by
  refine x_dr1 ?_
  refine x_aload0 99 dX8_count_98 rfl ?_
  refine x_getR cf8 0 102 hw dX8_count_99 rfl wd13 (fun _ => s_x0) (by decide) (by decide) rfl ?_
  refine x_getI cf5 10 105 dX8_count_102 rfl wd290 (SH.fld hw (fun _ => s_x0) 0 (Nat.le_of_ble_eq_true rfl) rfl rfl) (by decide) rfl ?_
  exact x_iret dX8_count_105 rfl (Nat.zero_le _) (Nat.zero_le _) hq
set_option maxRecDepth 20000 in
theorem B8_count_106 {ω : Om} {h : AH} {Q : Option Value → AH → Prop} {x0 : Nat} {u1 : Option Value} (hw : ω.2.2.2.1 = true) (s_x0 : gs h x0 = some (8, 8)) (hq : Q (some (.int (gi h x0 3))) h) : Ex ω M8_count 106 [some (.ref x0), u1] [] h 0 0 Q := by
  refine x_dr1 ?_
  refine x_aload0 107 dX8_count_106 rfl ?_
  refine x_getI cf8 3 110 dX8_count_107 rfl wd16 (fun _ => s_x0) (by decide) rfl ?_
  exact x_iret dX8_count_110 rfl (Nat.zero_le _) (Nat.zero_le _) hq
set_option maxRecDepth 20000 in
theorem B8_count_111 {ω : Om} {h : AH} {Q : Option Value → AH → Prop} {x0 : Nat} {u1 : Option Value} (hw : ω.2.2.2.1 = true) (s_x0 : gs h x0 = some (8, 8)) (hq : Q (some (.int (gi h (gr h x0 4) 1))) h) : Ex ω M8_count 111 [some (.ref x0), u1] [] h 0 0 Q := by
  refine x_dr1 ?_
  refine x_aload0 112 dX8_count_111 rfl ?_
  refine x_getR cf8 4 115 hw dX8_count_112 rfl wd20 (fun _ => s_x0) (by decide) (by decide) rfl ?_
  refine x_getI cf7 1 118 dX8_count_115 rfl wd291 (SH.fld hw (fun _ => s_x0) 4 (Nat.le_of_ble_eq_true rfl) rfl rfl) (by decide) rfl ?_
  exact x_iret dX8_count_118 rfl (Nat.zero_le _) (Nat.zero_le _) hq
set_option maxRecDepth 20000 in
theorem B8_count_119 {ω : Om} {h : AH} {Q : Option Value → AH → Prop} {x0 : Nat} {u1 : Option Value} (hw : ω.2.2.2.1 = true) (s_x0 : gs h x0 = some (8, 8)) (hq : Q (some (.int (gi h (gr h (gr h x0 0) 8) 10))) h) : Ex ω M8_count 119 [some (.ref x0), u1] [] h 0 0 Q := by
  refine x_dr1 ?_
  refine x_aload0 120 dX8_count_119 rfl ?_
  refine x_getR cf8 0 123 hw dX8_count_120 rfl wd13 (fun _ => s_x0) (by decide) (by decide) rfl ?_
  refine x_getR cf5 8 126 hw dX8_count_123 rfl wd287 (SH.fld hw (fun _ => s_x0) 0 (Nat.le_of_ble_eq_true rfl) rfl rfl) (by decide) (by decide) rfl ?_
  refine x_getI cf6 10 129 dX8_count_126 rfl wd292 (SH.fld hw (SH.fld hw (fun _ => s_x0) 0 (Nat.le_of_ble_eq_true rfl) rfl rfl) 8 (Nat.le_of_ble_eq_true rfl) rfl rfl) (by decide) rfl ?_
  exact x_iret dX8_count_129 rfl (Nat.zero_le _) (Nat.zero_le _) hq
set_option maxRecDepth 20000 in
theorem B8_count_130 {ω : Om} {h : AH} {Q : Option Value → AH → Prop} {u0 : Option Value} {u1 : Option Value} (hw : ω.2.2.2.1 = true) (hq : Q (some (.int ((-1)))) h) : Ex ω M8_count 130 [u0, u1] [] h 0 0 Q := by
  refine x_dr0 ?_
  refine x_dr1 ?_
  refine x_iconst ((-1)) 131 dX8_count_130 rfl rfl ?_
  exact x_iret dX8_count_131 rfl (Nat.zero_le _) (Nat.zero_le _) hq
set_option maxRecDepth 20000 in
theorem B8_type_0 {ω : Om} {h : AH} {Q : Option Value → AH → Prop} {x0 : Nat} {x1 : Int32} (hw : ω.2.2.2.1 = true) (kk : Ex ω M8_outside 0 [some (.int x1), some (.int (nI 32)), some (.int (nI 126))] [] h 0 0 (fun v h' => Ex ω M8_type 8 [some (.ref x0), some (.int x1)] (v.toList ++ []) h' 0 0 Q)) : Ex ω M8_type 0 [some (.ref x0), some (.int x1)] [] h 0 0 Q := by
  refine x_iload1 1 dX8_type_0 rfl ?_
  refine x_bipush (nI 32) 3 dX8_type_1 rfl rfl ?_
  refine x_bipush (nI 126) 5 dX8_type_3 rfl rfl ?_
  exact x_callS 8 [.int x1, .int (nI 32), .int (nI 126)] [] dX8_type_5 rfl lk_8_outside ⟨wd267, wd240⟩ ⟨by decide, by decide⟩ rfl rfl (Nat.le_of_ble_eq_true rfl) (Nat.le_of_ble_eq_true rfl) (by decide) (by decide) kk
set_option maxRecDepth 20000 in
theorem B8_type_8 {ω : Om} {h : AH} {Q : Option Value → AH → Prop} {x0 : Nat} {x1 : Int32} {y0 : Int32} (hw : ω.2.2.2.1 = true) (kt : y0 = 0 → Ex ω M8_type 13 [some (.ref x0), some (.int x1)] [] h 0 0 Q) (kf : ¬ y0 = 0 → Ex ω M8_type 11 [some (.ref x0), some (.int x1)] [] h 0 0 Q) : Ex ω M8_type 8 [some (.ref x0), some (.int x1)] [.int y0] h 0 0 Q := by
  exact x_if_eq 11 13 dX8_type_8 rfl (by decide) kt kf
set_option maxRecDepth 20000 in
theorem B8_type_11 {ω : Om} {h : AH} {Q : Option Value → AH → Prop} {u0 : Option Value} {u1 : Option Value} (hw : ω.2.2.2.1 = true) (hq : Q (some (.int ((-1)))) h) : Ex ω M8_type 11 [u0, u1] [] h 0 0 Q := by
  refine x_dr0 ?_
  refine x_dr1 ?_
  refine x_iconst ((-1)) 12 dX8_type_11 rfl rfl ?_
  exact x_iret dX8_type_12 rfl (Nat.zero_le _) (Nat.zero_le _) hq
set_option maxRecDepth 20000 in
theorem B8_type_13 {ω : Om} {h : AH} {Q : Option Value → AH → Prop} {x0 : Nat} {x1 : Int32} (hw : ω.2.2.2.1 = true) (s_x0 : gs h x0 = some (8, 8)) (kt : (gi h (gr h x0 4) 1) < (nI 100) → Ex ω M8_type 28 [some (.ref x0), some (.int x1)] [] h 0 0 Q) (kf : ¬ (gi h (gr h x0 4) 1) < (nI 100) → Ex ω M8_type 25 [some (.ref x0), some (.int x1)] [] h 0 0 Q) : Ex ω M8_type 13 [some (.ref x0), some (.int x1)] [] h 0 0 Q := by
  refine x_aload0 14 dX8_type_13 rfl ?_
  refine x_getR cf8 4 17 hw dX8_type_14 rfl wd20 (fun _ => s_x0) (by decide) (by decide) rfl ?_
  refine x_getI cf7 1 20 dX8_type_17 rfl wd291 (SH.fld hw (fun _ => s_x0) 4 (Nat.le_of_ble_eq_true rfl) rfl rfl) (by decide) rfl ?_
  refine x_bipush (nI 100) 22 dX8_type_20 rfl rfl ?_
  exact x_icmp_lt 25 28 dX8_type_22 rfl (by decide) kt kf
set_option maxRecDepth 20000 in
theorem B8_type_25 {ω : Om} {h : AH} {Q : Option Value → AH → Prop} {u0 : Option Value} {u1 : Option Value} (hw : ω.2.2.2.1 = true) (hq : Q (some (.int ((-3)))) h) : Ex ω M8_type 25 [u0, u1] [] h 0 0 Q := by
  refine x_dr0 ?_
  refine x_dr1 ?_
  refine x_bipush ((-3)) 27 dX8_type_25 rfl rfl ?_
  exact x_iret dX8_type_27 rfl (Nat.zero_le _) (Nat.zero_le _) hq
set_option maxRecDepth 20000 in
theorem B8_type_28 {ω : Om} {h : AH} {Q : Option Value → AH → Prop} {x0 : Nat} {x1 : Int32} (hw : ω.2.2.2.1 = true) (s_x0 : gs h x0 = some (8, 8)) (kk : Ex ω M7_append 0 [some (.ref (gr h x0 4)), some (.int (UInt32.toInt32 (Int32.toUInt32 x1 % 65536)))] [] h 0 0 (fun v h' => Ex ω M8_type 37 [some (.ref x0), some (.int x1)] (v.toList ++ []) h' 0 0 Q)) : Ex ω M8_type 28 [some (.ref x0), some (.int x1)] [] h 0 0 Q := by
  refine x_aload0 29 dX8_type_28 rfl ?_
  refine x_getR cf8 4 32 hw dX8_type_29 rfl wd20 (fun _ => s_x0) (by decide) (by decide) rfl ?_
  refine x_iload1 33 dX8_type_32 rfl ?_
  refine x_i2c 34 dX8_type_33 rfl ?_
  exact x_callV 37 (gr h x0 4) [.int (UInt32.toInt32 (Int32.toUInt32 x1 % 65536))] [] dX8_type_34 rfl lk_7_append ⟨wd321, wd322, wd323⟩ ⟨by decide, by decide⟩ (recvO cf7 (SH.fld hw (fun _ => s_x0) 4 (Nat.le_of_ble_eq_true rfl) rfl rfl)) rfl rfl (Nat.le_of_ble_eq_true rfl) (Nat.le_of_ble_eq_true rfl) (by decide) (by decide) kk
set_option maxRecDepth 20000 in
theorem B8_type_37 {ω : Om} {h : AH} {Q : Option Value → AH → Prop} {x0 : Nat} {u1 : Option Value} (hw : ω.2.2.2.1 = true) (s_x0 : gs h x0 = some (8, 8)) (hq : Q (some (.int (gi h (gr h x0 4) 1))) h) : Ex ω M8_type 37 [some (.ref x0), u1] [] h 0 0 Q := by
  refine x_dr1 ?_
  refine x_aload0 38 dX8_type_37 rfl ?_
  refine x_getR cf8 4 41 hw dX8_type_38 rfl wd20 (fun _ => s_x0) (by decide) (by decide) rfl ?_
  refine x_getI cf7 1 44 dX8_type_41 rfl wd291 (SH.fld hw (fun _ => s_x0) 4 (Nat.le_of_ble_eq_true rfl) rfl rfl) (by decide) rfl ?_
  exact x_iret dX8_type_44 rfl (Nat.zero_le _) (Nat.zero_le _) hq
set_option maxRecDepth 20000 in
theorem B8_clearText_0 {ω : Om} {h : AH} {Q : Option Value → AH → Prop} {x0 : Nat} {u1 : Option Value} (hw : ω.2.2.2.1 = true) (s_x0 : gs h x0 = some (8, 8)) (hq : Q (some (.int (gi h (gr h x0 4) 1))) (si h (gr h x0 4) 1 (nI 0))) : Ex ω M8_clearText 0 [some (.ref x0), u1] [] h 0 0 Q := by
  refine x_dr1 ?_
  refine x_aload0 1 dX8_clearText_0 rfl ?_
  refine x_getR cf8 4 4 hw dX8_clearText_1 rfl wd20 (fun _ => s_x0) (by decide) (by decide) rfl ?_
  refine x_getI cf7 1 7 dX8_clearText_4 rfl wd291 (SH.fld hw (fun _ => s_x0) 4 (Nat.le_of_ble_eq_true rfl) rfl rfl) (by decide) rfl ?_
  refine x_istore1 8 dX8_clearText_7 rfl (by decide) rfl ?_
  refine x_aload0 9 dX8_clearText_8 rfl ?_
  refine x_getR cf8 4 12 hw dX8_clearText_9 rfl wd20 (fun _ => s_x0) (by decide) (by decide) rfl ?_
  refine x_iconst (nI 0) 13 dX8_clearText_12 rfl rfl ?_
  refine x_putI cf7 1 16 dX8_clearText_13 rfl wd291 (SH.fld hw (fun _ => s_x0) 4 (Nat.le_of_ble_eq_true rfl) rfl rfl) (by decide) rfl rfl ?_
  refine x_iload1 17 dX8_clearText_16 rfl ?_
  exact x_iret dX8_clearText_17 rfl (Nat.zero_le _) (Nat.zero_le _) hq
set_option maxRecDepth 20000 in
theorem B8_fault_0 {ω : Om} {h : AH} {Q : Option Value → AH → Prop} {x0 : Nat} {u1 : Option Value} (hw : ω.2.2.2.1 = true) (s_x0 : gs h x0 = some (8, 8)) (kk : Ex ω M7_readInto 0 [some (.ref (gr h x0 4)), some (.ref (gr h x0 5)), none, none, none] [] h 0 0 (fun v h' => Ex ω M8_fault 11 [some (.ref x0), none] (v.toList ++ []) h' 0 0 Q)) : Ex ω M8_fault 0 [some (.ref x0), u1] [] h 0 0 Q := by
  refine x_dr1 ?_
  refine x_aload0 1 dX8_fault_0 rfl ?_
  refine x_getR cf8 4 4 hw dX8_fault_1 rfl wd20 (fun _ => s_x0) (by decide) (by decide) rfl ?_
  refine x_aload0 5 dX8_fault_4 rfl ?_
  refine x_getR cf8 5 8 hw dX8_fault_5 rfl wd24 (fun _ => s_x0) (by decide) (by decide) rfl ?_
  exact x_callV 11 (gr h x0 4) [.ref (gr h x0 5)] [] dX8_fault_8 rfl lk_7_readInto ⟨wd168, wd169, wd170⟩ ⟨by decide, by decide⟩ (recvO cf7 (SH.fld hw (fun _ => s_x0) 4 (Nat.le_of_ble_eq_true rfl) rfl rfl)) rfl rfl (Nat.le_of_ble_eq_true rfl) (Nat.le_of_ble_eq_true rfl) (by decide) (by decide) kk
set_option maxRecDepth 20000 in
theorem B8_fault_11 {ω : Om} {h : AH} {Q : Option Value → AH → Prop} {u0 : Option Value} {u1 : Option Value} {y0 : Int32} (hw : ω.2.2.2.1 = true) (kt : ¬ y0 = ((-1)) → Ex ω M8_fault 22 [none, some (.int y0)] [] h 0 0 Q) (kf : y0 = ((-1)) → Ex ω M8_fault 17 [none, some (.int y0)] [] h 0 0 Q) : Ex ω M8_fault 11 [u0, u1] [.int y0] h 0 0 Q := by
  refine x_dr0 ?_
  refine x_dr1 ?_
  refine x_istore1 12 dX8_fault_11 rfl (by decide) rfl ?_
  refine x_iload1 13 dX8_fault_12 rfl ?_
  refine x_iconst ((-1)) 14 dX8_fault_13 rfl rfl ?_
  exact x_icmp_ne 17 22 dX8_fault_14 rfl (by decide) kt kf
set_option maxRecDepth 20000 in
theorem B8_fault_17 {ω : Om} {h : AH} {Q : Option Value → AH → Prop} {u0 : Option Value} {u1 : Option Value} (hw : ω.2.2.2.1 = true) (kt : Ex ω M8_fault 23 [none, none] [.int ((-4))] h 0 0 Q) : Ex ω M8_fault 17 [u0, u1] [] h 0 0 Q := by
  refine x_dr0 ?_
  refine x_dr1 ?_
  refine x_bipush ((-4)) 19 dX8_fault_17 rfl rfl ?_
  exact x_goto 23 dX8_fault_19 (by decide) kt
set_option maxRecDepth 20000 in
theorem B8_fault_22 {ω : Om} {h : AH} {Q : Option Value → AH → Prop} {u0 : Option Value} {x1 : Int32} (hw : ω.2.2.2.1 = true) (kf : Ex ω M8_fault 23 [none, some (.int x1)] [.int x1] h 0 0 Q) : Ex ω M8_fault 22 [u0, some (.int x1)] [] h 0 0 Q := by
  refine x_dr0 ?_
  refine x_iload1 23 dX8_fault_22 rfl ?_
  exact kf
set_option maxRecDepth 20000 in
theorem B8_fault_23 {ω : Om} {h : AH} {Q : Option Value → AH → Prop} {u0 : Option Value} {u1 : Option Value} {y0 : Int32} (hw : ω.2.2.2.1 = true) (hq : Q (some (.int y0)) h) : Ex ω M8_fault 23 [u0, u1] [.int y0] h 0 0 Q := by
  refine x_dr0 ?_
  refine x_dr1 ?_
  exact x_iret dX8_fault_23 rfl (Nat.zero_le _) (Nat.zero_le _) hq
set_option maxRecDepth 20000 in
theorem B8_load_0 {ω : Om} {h : AH} {Q : Option Value → AH → Prop} {x0 : Nat} (hw : ω.2.2.2.1 = true) (s_x0 : gs h x0 = some (8, 8)) (kk : Ex ω M7_readInto 0 [some (.ref (gr h x0 4)), some (.ref (gr h x0 5)), none, none, none] [] h 0 0 (fun v h' => Ex ω M8_load 11 [some (.ref x0)] (v.toList ++ []) h' 0 0 Q)) : Ex ω M8_load 0 [some (.ref x0)] [] h 0 0 Q := by
  refine x_aload0 1 dX8_load_0 rfl ?_
  refine x_getR cf8 4 4 hw dX8_load_1 rfl wd20 (fun _ => s_x0) (by decide) (by decide) rfl ?_
  refine x_aload0 5 dX8_load_4 rfl ?_
  refine x_getR cf8 5 8 hw dX8_load_5 rfl wd24 (fun _ => s_x0) (by decide) (by decide) rfl ?_
  exact x_callV 11 (gr h x0 4) [.ref (gr h x0 5)] [] dX8_load_8 rfl lk_7_readInto ⟨wd168, wd169, wd170⟩ ⟨by decide, by decide⟩ (recvO cf7 (SH.fld hw (fun _ => s_x0) 4 (Nat.le_of_ble_eq_true rfl) rfl rfl)) rfl rfl (Nat.le_of_ble_eq_true rfl) (Nat.le_of_ble_eq_true rfl) (by decide) (by decide) kk
set_option maxRecDepth 20000 in
theorem B8_load_11 {ω : Om} {h : AH} {Q : Option Value → AH → Prop} {x0 : Nat} {y0 : Int32} (hw : ω.2.2.2.1 = true) (kt : y0 = ((-1)) → Ex ω M8_load 18 [some (.ref x0)] [] h 0 0 Q) (kf : ¬ y0 = ((-1)) → Ex ω M8_load 15 [some (.ref x0)] [] h 0 0 Q) : Ex ω M8_load 11 [some (.ref x0)] [.int y0] h 0 0 Q := by
  refine x_iconst ((-1)) 12 dX8_load_11 rfl rfl ?_
  exact x_icmp_eq 15 18 dX8_load_12 rfl (by decide) kt kf
set_option maxRecDepth 20000 in
theorem B8_load_15 {ω : Om} {h : AH} {Q : Option Value → AH → Prop} {u0 : Option Value} (hw : ω.2.2.2.1 = true) (hq : Q (some (.int ((-2)))) h) : Ex ω M8_load 15 [u0] [] h 0 0 Q := by
  refine x_dr0 ?_
  refine x_bipush ((-2)) 17 dX8_load_15 rfl rfl ?_
  exact x_iret dX8_load_17 rfl (Nat.zero_le _) (Nat.zero_le _) hq
set_option maxRecDepth 20000 in
theorem B8_load_18 {ω : Om} {h : AH} {Q : Option Value → AH → Prop} {x0 : Nat} (hw : ω.2.2.2.1 = true) (s_x0 : gs h x0 = some (8, 8)) (kk : Ex ω M8_record 0 [some (.ref x0), none, none] [] h 0 0 (fun v h' => Ex ω M8_load 22 [some (.ref x0)] (v.toList ++ []) h' 0 0 Q)) : Ex ω M8_load 18 [some (.ref x0)] [] h 0 0 Q := by
  refine x_aload0 19 dX8_load_18 rfl ?_
  exact x_callV 22 x0 [] [] dX8_load_19 rfl lk_8_record ⟨wd256, wd257, wd258⟩ ⟨by decide, by decide⟩ (recvO cf8 (fun _ => s_x0)) rfl rfl (Nat.le_of_ble_eq_true rfl) (Nat.le_of_ble_eq_true rfl) (by decide) (by decide) kk
set_option maxRecDepth 20000 in
theorem B8_load_22 {ω : Om} {h : AH} {Q : Option Value → AH → Prop} {x0 : Nat} (hw : ω.2.2.2.1 = true) (s_x0 : gs h x0 = some (8, 8)) (kk : Ex ω M2_copyFrom 0 [some (.ref (gr h (gr h x0 0) 7)), some (.ref (gr h x0 5)), none] [] h 0 0 (fun v h' => Ex ω M8_load 36 [some (.ref x0)] (v.toList ++ []) h' 0 0 Q)) : Ex ω M8_load 22 [some (.ref x0)] [] h 0 0 Q := by
  refine x_aload0 23 dX8_load_22 rfl ?_
  refine x_getR cf8 0 26 hw dX8_load_23 rfl wd13 (fun _ => s_x0) (by decide) (by decide) rfl ?_
  refine x_getR cf5 7 29 hw dX8_load_26 rfl wd254 (SH.fld hw (fun _ => s_x0) 0 (Nat.le_of_ble_eq_true rfl) rfl rfl) (by decide) (by decide) rfl ?_
  refine x_aload0 30 dX8_load_29 rfl ?_
  refine x_getR cf8 5 33 hw dX8_load_30 rfl wd24 (fun _ => s_x0) (by decide) (by decide) rfl ?_
  exact x_callV 36 (gr h (gr h x0 0) 7) [.ref (gr h x0 5)] [] dX8_load_33 rfl lk_2_copyFrom ⟨wd260, wd144, wd145⟩ ⟨by decide, by decide⟩ (recvO cf2 (SH.fld hw (SH.fld hw (fun _ => s_x0) 0 (Nat.le_of_ble_eq_true rfl) rfl rfl) 7 (Nat.le_of_ble_eq_true rfl) rfl rfl)) rfl rfl (Nat.le_of_ble_eq_true rfl) (Nat.le_of_ble_eq_true rfl) (by decide) (by decide) kk
set_option maxRecDepth 20000 in
theorem B8_load_36 {ω : Om} {h : AH} {Q : Option Value → AH → Prop} {x0 : Nat} (hw : ω.2.2.2.1 = true) (s_x0 : gs h x0 = some (8, 8)) (hq : Q (some (.int (gi h (gr h (gr h x0 0) 7) 0))) h) : Ex ω M8_load 36 [some (.ref x0)] [] h 0 0 Q := by
  refine x_aload0 37 dX8_load_36 rfl ?_
  refine x_getR cf8 0 40 hw dX8_load_37 rfl wd13 (fun _ => s_x0) (by decide) (by decide) rfl ?_
  refine x_getR cf5 7 43 hw dX8_load_40 rfl wd254 (SH.fld hw (fun _ => s_x0) 0 (Nat.le_of_ble_eq_true rfl) rfl rfl) (by decide) (by decide) rfl ?_
  refine x_getI cf2 0 46 dX8_load_43 rfl wd255 (SH.fld hw (SH.fld hw (fun _ => s_x0) 0 (Nat.le_of_ble_eq_true rfl) rfl rfl) 7 (Nat.le_of_ble_eq_true rfl) rfl rfl) (by decide) rfl ?_
  exact x_iret dX8_load_46 rfl (Nat.zero_le _) (Nat.zero_le _) hq
set_option maxRecDepth 20000 in
theorem B8_step_0 {ω : Om} {h : AH} {Q : Option Value → AH → Prop} {x0 : Nat} {x1 : Int32} {x2 : Int32} (hw : ω.2.2.2.1 = true) (kt : x1 < 0 → Ex ω M8_step 13 [some (.ref x0), some (.int x1), some (.int x2)] [] h 0 0 Q) (kf : ¬ x1 < 0 → Ex ω M8_step 4 [some (.ref x0), some (.int x1), some (.int x2)] [] h 0 0 Q) : Ex ω M8_step 0 [some (.ref x0), some (.int x1), some (.int x2)] [] h 0 0 Q := by
  refine x_iload1 1 dX8_step_0 rfl ?_
  exact x_if_lt 4 13 dX8_step_1 rfl (by decide) kt kf
set_option maxRecDepth 20000 in
theorem B8_step_4 {ω : Om} {h : AH} {Q : Option Value → AH → Prop} {x0 : Nat} {x1 : Int32} {x2 : Int32} (hw : ω.2.2.2.1 = true) (kk : Ex ω M8_outside 0 [some (.int x2), some (.int (nI 0)), some (.int (nI 1))] [] h 0 0 (fun v h' => Ex ω M8_step 10 [some (.ref x0), some (.int x1), some (.int x2)] (v.toList ++ []) h' 0 0 Q)) : Ex ω M8_step 4 [some (.ref x0), some (.int x1), some (.int x2)] [] h 0 0 Q := by
  refine x_iload2 5 dX8_step_4 rfl ?_
  refine x_iconst (nI 0) 6 dX8_step_5 rfl rfl ?_
  refine x_iconst (nI 1) 7 dX8_step_6 rfl rfl ?_
  exact x_callS 10 [.int x2, .int (nI 0), .int (nI 1)] [] dX8_step_7 rfl lk_8_outside ⟨wd267, wd240⟩ ⟨by decide, by decide⟩ rfl rfl (Nat.le_of_ble_eq_true rfl) (Nat.le_of_ble_eq_true rfl) (by decide) (by decide) kk
set_option maxRecDepth 20000 in
theorem B8_step_10 {ω : Om} {h : AH} {Q : Option Value → AH → Prop} {x0 : Nat} {x1 : Int32} {x2 : Int32} {y0 : Int32} (hw : ω.2.2.2.1 = true) (kt : y0 = 0 → Ex ω M8_step 15 [some (.ref x0), some (.int x1), some (.int x2)] [] h 0 0 Q) (kf : ¬ y0 = 0 → Ex ω M8_step 13 [some (.ref x0), some (.int x1), some (.int x2)] [] h 0 0 Q) : Ex ω M8_step 10 [some (.ref x0), some (.int x1), some (.int x2)] [.int y0] h 0 0 Q := by
  exact x_if_eq 13 15 dX8_step_10 rfl (by decide) kt kf
set_option maxRecDepth 20000 in
theorem B8_step_13 {ω : Om} {h : AH} {Q : Option Value → AH → Prop} {u0 : Option Value} {u1 : Option Value} {u2 : Option Value} (hw : ω.2.2.2.1 = true) (hq : Q (some (.int ((-1)))) h) : Ex ω M8_step 13 [u0, u1, u2] [] h 0 0 Q := by
  refine x_dr0 ?_
  refine x_dr1 ?_
  refine x_dr2 ?_
  refine x_iconst ((-1)) 14 dX8_step_13 rfl rfl ?_
  exact x_iret dX8_step_14 rfl (Nat.zero_le _) (Nat.zero_le _) hq
set_option maxRecDepth 20000 in
theorem B8_step_15 {ω : Om} {h : AH} {Q : Option Value → AH → Prop} {x0 : Nat} {x1 : Int32} {x2 : Int32} (hw : ω.2.2.2.1 = true) (s_x0 : gs h x0 = some (8, 8)) (kt : x1 < (gi h (gr h (gr h x0 0) 7) 0) → Ex ω M8_step 32 [some (.ref x0), some (.int x1), some (.int x2)] [] h 0 0 Q) (kf : ¬ x1 < (gi h (gr h (gr h x0 0) 7) 0) → Ex ω M8_step 29 [some (.ref x0), some (.int x1), some (.int x2)] [] h 0 0 Q) : Ex ω M8_step 15 [some (.ref x0), some (.int x1), some (.int x2)] [] h 0 0 Q := by
  refine x_iload1 16 dX8_step_15 rfl ?_
  refine x_aload0 17 dX8_step_16 rfl ?_
  refine x_getR cf8 0 20 hw dX8_step_17 rfl wd13 (fun _ => s_x0) (by decide) (by decide) rfl ?_
  refine x_getR cf5 7 23 hw dX8_step_20 rfl wd254 (SH.fld hw (fun _ => s_x0) 0 (Nat.le_of_ble_eq_true rfl) rfl rfl) (by decide) (by decide) rfl ?_
  refine x_getI cf2 0 26 dX8_step_23 rfl wd255 (SH.fld hw (SH.fld hw (fun _ => s_x0) 0 (Nat.le_of_ble_eq_true rfl) rfl rfl) 7 (Nat.le_of_ble_eq_true rfl) rfl rfl) (by decide) rfl ?_
  exact x_icmp_lt 29 32 dX8_step_26 rfl (by decide) kt kf
set_option maxRecDepth 20000 in
theorem B8_step_29 {ω : Om} {h : AH} {Q : Option Value → AH → Prop} {u0 : Option Value} {u1 : Option Value} {u2 : Option Value} (hw : ω.2.2.2.1 = true) (hq : Q (some (.int ((-4)))) h) : Ex ω M8_step 29 [u0, u1, u2] [] h 0 0 Q := by
  refine x_dr0 ?_
  refine x_dr1 ?_
  refine x_dr2 ?_
  refine x_bipush ((-4)) 31 dX8_step_29 rfl rfl ?_
  exact x_iret dX8_step_31 rfl (Nat.zero_le _) (Nat.zero_le _) hq
set_option maxRecDepth 20000 in
theorem B8_step_32 {ω : Om} {h : AH} {Q : Option Value → AH → Prop} {x0 : Nat} {x1 : Int32} {x2 : Int32} (hw : ω.2.2.2.1 = true) (kt : ¬ x2 = 0 → Ex ω M8_step 51 [some (.ref x0), some (.int x1), some (.int x2)] [] h 0 0 Q) (kf : x2 = 0 → Ex ω M8_step 36 [some (.ref x0), some (.int x1), some (.int x2)] [] h 0 0 Q) : Ex ω M8_step 32 [some (.ref x0), some (.int x1), some (.int x2)] [] h 0 0 Q := by
  refine x_iload2 33 dX8_step_32 rfl ?_
  exact x_if_ne 36 51 dX8_step_33 rfl (by decide) kt kf
set_option maxRecDepth 20000 in
theorem B8_step_36 {ω : Om} {h : AH} {Q : Option Value → AH → Prop} {x0 : Nat} {x1 : Int32} {u2 : Option Value} (hw : ω.2.2.2.1 = true) (s_x0 : gs h x0 = some (8, 8)) (i1 : vp_in x1 12) (kt : Ex ω M8_step 63 [some (.ref x0), some (.int x1), none] [.int (gi h (gr h (gr h (gr h x0 0) 7) 1) (Int32.toNatClampNeg x1))] h 0 0 Q) : Ex ω M8_step 36 [some (.ref x0), some (.int x1), u2] [] h 0 0 Q := by
  refine x_dr2 ?_
  refine x_aload0 37 dX8_step_36 rfl ?_
  refine x_getR cf8 0 40 hw dX8_step_37 rfl wd13 (fun _ => s_x0) (by decide) (by decide) rfl ?_
  refine x_getR cf5 7 43 hw dX8_step_40 rfl wd254 (SH.fld hw (fun _ => s_x0) 0 (Nat.le_of_ble_eq_true rfl) rfl rfl) (by decide) (by decide) rfl ?_
  refine x_getR cf2 1 46 hw dX8_step_43 rfl wd344 (SH.fld hw (SH.fld hw (fun _ => s_x0) 0 (Nat.le_of_ble_eq_true rfl) rfl rfl) 7 (Nat.le_of_ble_eq_true rfl) rfl rfl) (by decide) (by decide) rfl ?_
  refine x_iload1 47 dX8_step_46 rfl ?_
  refine x_iald (Int32.toNatClampNeg x1) 48 dX8_step_47 rfl (SH.fld hw (SH.fld hw (SH.fld hw (fun _ => s_x0) 0 (Nat.le_of_ble_eq_true rfl) rfl rfl) 7 (Nat.le_of_ble_eq_true rfl) rfl rfl) 1 (Nat.le_of_ble_eq_true rfl) rfl rfl) i1 rfl ?_
  exact x_goto 63 dX8_step_48 (by decide) kt
set_option maxRecDepth 20000 in
theorem B8_step_51 {ω : Om} {h : AH} {Q : Option Value → AH → Prop} {x0 : Nat} {x1 : Int32} {u2 : Option Value} (hw : ω.2.2.2.1 = true) (s_x0 : gs h x0 = some (8, 8)) (i1 : vp_in x1 12) (kf : Ex ω M8_step 63 [some (.ref x0), some (.int x1), none] [.int (gi h (gr h (gr h (gr h x0 0) 7) 2) (Int32.toNatClampNeg x1))] h 0 0 Q) : Ex ω M8_step 51 [some (.ref x0), some (.int x1), u2] [] h 0 0 Q := by
  refine x_dr2 ?_
  refine x_aload0 52 dX8_step_51 rfl ?_
  refine x_getR cf8 0 55 hw dX8_step_52 rfl wd13 (fun _ => s_x0) (by decide) (by decide) rfl ?_
  refine x_getR cf5 7 58 hw dX8_step_55 rfl wd254 (SH.fld hw (fun _ => s_x0) 0 (Nat.le_of_ble_eq_true rfl) rfl rfl) (by decide) (by decide) rfl ?_
  refine x_getR cf2 2 61 hw dX8_step_58 rfl wd345 (SH.fld hw (SH.fld hw (fun _ => s_x0) 0 (Nat.le_of_ble_eq_true rfl) rfl rfl) 7 (Nat.le_of_ble_eq_true rfl) rfl rfl) (by decide) (by decide) rfl ?_
  refine x_iload1 62 dX8_step_61 rfl ?_
  refine x_iald (Int32.toNatClampNeg x1) 63 dX8_step_62 rfl (SH.fld hw (SH.fld hw (SH.fld hw (fun _ => s_x0) 0 (Nat.le_of_ble_eq_true rfl) rfl rfl) 7 (Nat.le_of_ble_eq_true rfl) rfl rfl) 2 (Nat.le_of_ble_eq_true rfl) rfl rfl) i1 rfl ?_
  exact kf
set_option maxRecDepth 20000 in
theorem B8_step_63 {ω : Om} {h : AH} {Q : Option Value → AH → Prop} {u0 : Option Value} {u1 : Option Value} {u2 : Option Value} {y0 : Int32} (hw : ω.2.2.2.1 = true) (hq : Q (some (.int y0)) h) : Ex ω M8_step 63 [u0, u1, u2] [.int y0] h 0 0 Q := by
  refine x_dr0 ?_
  refine x_dr1 ?_
  refine x_dr2 ?_
  exact x_iret dX8_step_63 rfl (Nat.zero_le _) (Nat.zero_le _) hq
set_option maxRecDepth 20000 in
theorem B8_write_0 {ω : Om} {h : AH} {Q : Option Value → AH → Prop} {x0 : Nat} (hw : ω.2.2.2.1 = true) (s_x0 : gs h x0 = some (8, 8)) (kk : Ex ω M7_showProgram 0 [some (.ref (gr h x0 4)), some (.ref (gr h (gr h x0 0) 7)), none] [] h 0 0 (fun v h' => Ex ω M8_write 14 [some (.ref x0)] (v.toList ++ []) h' 0 0 Q)) : Ex ω M8_write 0 [some (.ref x0)] [] h 0 0 Q := by
  refine x_aload0 1 dX8_write_0 rfl ?_
  refine x_getR cf8 4 4 hw dX8_write_1 rfl wd20 (fun _ => s_x0) (by decide) (by decide) rfl ?_
  refine x_aload0 5 dX8_write_4 rfl ?_
  refine x_getR cf8 0 8 hw dX8_write_5 rfl wd13 (fun _ => s_x0) (by decide) (by decide) rfl ?_
  refine x_getR cf5 7 11 hw dX8_write_8 rfl wd254 (SH.fld hw (fun _ => s_x0) 0 (Nat.le_of_ble_eq_true rfl) rfl rfl) (by decide) (by decide) rfl ?_
  exact x_callV 14 (gr h x0 4) [.ref (gr h (gr h x0 0) 7)] [] dX8_write_11 rfl lk_7_showProgram ⟨wd350, wd351, wd352⟩ ⟨by decide, by decide⟩ (recvO cf7 (SH.fld hw (fun _ => s_x0) 4 (Nat.le_of_ble_eq_true rfl) rfl rfl)) rfl rfl (Nat.le_of_ble_eq_true rfl) (Nat.le_of_ble_eq_true rfl) (by decide) (by decide) kk
set_option maxRecDepth 20000 in
theorem B8_write_14 {ω : Om} {h : AH} {Q : Option Value → AH → Prop} {x0 : Nat} (hw : ω.2.2.2.1 = true) (s_x0 : gs h x0 = some (8, 8)) (hq : Q (some (.int (gi h (gr h x0 4) 1))) h) : Ex ω M8_write 14 [some (.ref x0)] [] h 0 0 Q := by
  refine x_aload0 15 dX8_write_14 rfl ?_
  refine x_getR cf8 4 18 hw dX8_write_15 rfl wd20 (fun _ => s_x0) (by decide) (by decide) rfl ?_
  refine x_getI cf7 1 21 dX8_write_18 rfl wd291 (SH.fld hw (fun _ => s_x0) 4 (Nat.le_of_ble_eq_true rfl) rfl rfl) (by decide) rfl ?_
  exact x_iret dX8_write_21 rfl (Nat.zero_le _) (Nat.zero_le _) hq
set_option maxRecDepth 20000 in
theorem B8_textAt_0 {ω : Om} {h : AH} {Q : Option Value → AH → Prop} {x0 : Nat} {x1 : Int32} (hw : ω.2.2.2.1 = true) (kt : 0 ≤ x1 → Ex ω M8_textAt 6 [some (.ref x0), some (.int x1)] [] h 0 0 Q) (kf : ¬ 0 ≤ x1 → Ex ω M8_textAt 4 [some (.ref x0), some (.int x1)] [] h 0 0 Q) : Ex ω M8_textAt 0 [some (.ref x0), some (.int x1)] [] h 0 0 Q := by
  refine x_iload1 1 dX8_textAt_0 rfl ?_
  exact x_if_ge 4 6 dX8_textAt_1 rfl (by decide) kt kf
set_option maxRecDepth 20000 in
theorem B8_textAt_4 {ω : Om} {h : AH} {Q : Option Value → AH → Prop} {u0 : Option Value} {u1 : Option Value} (hw : ω.2.2.2.1 = true) (hq : Q (some (.int ((-1)))) h) : Ex ω M8_textAt 4 [u0, u1] [] h 0 0 Q := by
  refine x_dr0 ?_
  refine x_dr1 ?_
  refine x_iconst ((-1)) 5 dX8_textAt_4 rfl rfl ?_
  exact x_iret dX8_textAt_5 rfl (Nat.zero_le _) (Nat.zero_le _) hq
set_option maxRecDepth 20000 in
theorem B8_textAt_6 {ω : Om} {h : AH} {Q : Option Value → AH → Prop} {x0 : Nat} {x1 : Int32} (hw : ω.2.2.2.1 = true) (s_x0 : gs h x0 = some (8, 8)) (kt : x1 < (gi h (gr h x0 4) 1) → Ex ω M8_textAt 20 [some (.ref x0), some (.int x1)] [] h 0 0 Q) (kf : ¬ x1 < (gi h (gr h x0 4) 1) → Ex ω M8_textAt 17 [some (.ref x0), some (.int x1)] [] h 0 0 Q) : Ex ω M8_textAt 6 [some (.ref x0), some (.int x1)] [] h 0 0 Q := by
  refine x_iload1 7 dX8_textAt_6 rfl ?_
  refine x_aload0 8 dX8_textAt_7 rfl ?_
  refine x_getR cf8 4 11 hw dX8_textAt_8 rfl wd20 (fun _ => s_x0) (by decide) (by decide) rfl ?_
  refine x_getI cf7 1 14 dX8_textAt_11 rfl wd291 (SH.fld hw (fun _ => s_x0) 4 (Nat.le_of_ble_eq_true rfl) rfl rfl) (by decide) rfl ?_
  exact x_icmp_lt 17 20 dX8_textAt_14 rfl (by decide) kt kf
set_option maxRecDepth 20000 in
theorem B8_textAt_17 {ω : Om} {h : AH} {Q : Option Value → AH → Prop} {u0 : Option Value} {u1 : Option Value} (hw : ω.2.2.2.1 = true) (hq : Q (some (.int ((-4)))) h) : Ex ω M8_textAt 17 [u0, u1] [] h 0 0 Q := by
  refine x_dr0 ?_
  refine x_dr1 ?_
  refine x_bipush ((-4)) 19 dX8_textAt_17 rfl rfl ?_
  exact x_iret dX8_textAt_19 rfl (Nat.zero_le _) (Nat.zero_le _) hq
set_option maxRecDepth 20000 in
theorem B8_textAt_20 {ω : Om} {h : AH} {Q : Option Value → AH → Prop} {x0 : Nat} {x1 : Int32} (hw : ω.2.2.2.1 = true) (s_x0 : gs h x0 = some (8, 8)) (i1 : vp_in x1 100) (hq : Q (some (.int (gi h (gr h (gr h x0 4) 0) (Int32.toNatClampNeg x1)))) h) : Ex ω M8_textAt 20 [some (.ref x0), some (.int x1)] [] h 0 0 Q := by
  refine x_aload0 21 dX8_textAt_20 rfl ?_
  refine x_getR cf8 4 24 hw dX8_textAt_21 rfl wd20 (fun _ => s_x0) (by decide) (by decide) rfl ?_
  refine x_getR cf7 0 27 hw dX8_textAt_24 rfl wd369 (SH.fld hw (fun _ => s_x0) 4 (Nat.le_of_ble_eq_true rfl) rfl rfl) (by decide) (by decide) rfl ?_
  refine x_iload1 28 dX8_textAt_27 rfl ?_
  refine x_cald (Int32.toNatClampNeg x1) 29 dX8_textAt_28 rfl (SH.fld hw (SH.fld hw (fun _ => s_x0) 4 (Nat.le_of_ble_eq_true rfl) rfl rfl) 0 (Nat.le_of_ble_eq_true rfl) rfl rfl) i1 rfl ?_
  exact x_iret dX8_textAt_29 rfl (Nat.zero_le _) (Nat.zero_le _) hq
set_option maxRecDepth 20000 in
theorem B8_wrap_0 {ω : Om} {h : AH} {Q : Option Value → AH → Prop} {x0 : Nat} (hw : ω.2.2.2.1 = true) (s_x0 : gs h x0 = some (8, 8)) (kt : ¬ (gi h (gr h x0 0) 3) = 0 → Ex ω M8_wrap 13 [some (.ref x0)] [] h 0 0 Q) (kf : (gi h (gr h x0 0) 3) = 0 → Ex ω M8_wrap 10 [some (.ref x0)] [] h 0 0 Q) : Ex ω M8_wrap 0 [some (.ref x0)] [] h 0 0 Q := by
  refine x_aload0 1 dX8_wrap_0 rfl ?_
  refine x_getR cf8 0 4 hw dX8_wrap_1 rfl wd13 (fun _ => s_x0) (by decide) (by decide) rfl ?_
  refine x_getI cf5 3 7 dX8_wrap_4 rfl wd286 (SH.fld hw (fun _ => s_x0) 0 (Nat.le_of_ble_eq_true rfl) rfl rfl) (by decide) rfl ?_
  exact x_if_ne 10 13 dX8_wrap_7 rfl (by decide) kt kf
set_option maxRecDepth 20000 in
theorem B8_wrap_10 {ω : Om} {h : AH} {Q : Option Value → AH → Prop} {u0 : Option Value} (hw : ω.2.2.2.1 = true) (hq : Q (some (.int ((-2)))) h) : Ex ω M8_wrap 10 [u0] [] h 0 0 Q := by
  refine x_dr0 ?_
  refine x_bipush ((-2)) 12 dX8_wrap_10 rfl rfl ?_
  exact x_iret dX8_wrap_12 rfl (Nat.zero_le _) (Nat.zero_le _) hq
set_option maxRecDepth 20000 in
theorem B8_wrap_13 {ω : Om} {h : AH} {Q : Option Value → AH → Prop} {x0 : Nat} (hw : ω.2.2.2.1 = true) (s_x0 : gs h x0 = some (8, 8)) (kk : Ex ω M8_record 0 [some (.ref x0), none, none] [] h 0 0 (fun v h' => Ex ω M8_wrap 17 [some (.ref x0)] (v.toList ++ []) h' 0 0 Q)) : Ex ω M8_wrap 13 [some (.ref x0)] [] h 0 0 Q := by
  refine x_aload0 14 dX8_wrap_13 rfl ?_
  exact x_callV 17 x0 [] [] dX8_wrap_14 rfl lk_8_record ⟨wd256, wd257, wd258⟩ ⟨by decide, by decide⟩ (recvO cf8 (fun _ => s_x0)) rfl rfl (Nat.le_of_ble_eq_true rfl) (Nat.le_of_ble_eq_true rfl) (by decide) (by decide) kk
set_option maxRecDepth 20000 in
theorem B8_wrap_17 {ω : Om} {h : AH} {Q : Option Value → AH → Prop} {x0 : Nat} (hw : ω.2.2.2.1 = true) (s_x0 : gs h x0 = some (8, 8)) (kk : Ex ω M5_wrapNext 0 [some (.ref (gr h x0 0)), some (.ref (gr h x0 6)), none, none, none] [] h 0 0 (fun v h' => Ex ω M8_wrap 28 [some (.ref x0)] (v.toList ++ []) h' 0 0 Q)) : Ex ω M8_wrap 17 [some (.ref x0)] [] h 0 0 Q := by
  refine x_aload0 18 dX8_wrap_17 rfl ?_
  refine x_getR cf8 0 21 hw dX8_wrap_18 rfl wd13 (fun _ => s_x0) (by decide) (by decide) rfl ?_
  refine x_aload0 22 dX8_wrap_21 rfl ?_
  refine x_getR cf8 6 25 hw dX8_wrap_22 rfl wd28 (fun _ => s_x0) (by decide) (by decide) rfl ?_
  exact x_callV 28 (gr h x0 0) [.ref (gr h x0 6)] [] dX8_wrap_25 rfl lk_5_wrapNext ⟨wd431, wd432, wd433⟩ ⟨by decide, by decide⟩ (recvO cf5 (SH.fld hw (fun _ => s_x0) 0 (Nat.le_of_ble_eq_true rfl) rfl rfl)) rfl rfl (Nat.le_of_ble_eq_true rfl) (Nat.le_of_ble_eq_true rfl) (by decide) (by decide) kk
set_option maxRecDepth 20000 in
theorem B8_wrap_28 {ω : Om} {h : AH} {Q : Option Value → AH → Prop} {u0 : Option Value} {y0 : Int32} (hw : ω.2.2.2.1 = true) (hq : Q (some (.int y0)) h) : Ex ω M8_wrap 28 [u0] [.int y0] h 0 0 Q := by
  refine x_dr0 ?_
  exact x_iret dX8_wrap_28 rfl (Nat.zero_le _) (Nat.zero_le _) hq
set_option maxRecDepth 20000 in
theorem B8_done_0 {ω : Om} {h : AH} {Q : Option Value → AH → Prop} {x0 : Nat} {x1 : Int32} {x2 : Int32} (hw : ω.2.2.2.1 = true) (kt : x1 < 0 → Ex ω M8_done 14 [some (.ref x0), some (.int x1), some (.int x2)] [] h 0 0 Q) (kf : ¬ x1 < 0 → Ex ω M8_done 4 [some (.ref x0), some (.int x1), some (.int x2)] [] h 0 0 Q) : Ex ω M8_done 0 [some (.ref x0), some (.int x1), some (.int x2)] [] h 0 0 Q := by
  refine x_iload1 1 dX8_done_0 rfl ?_
  exact x_if_lt 4 14 dX8_done_1 rfl (by decide) kt kf
set_option maxRecDepth 20000 in
theorem B8_done_4 {ω : Om} {h : AH} {Q : Option Value → AH → Prop} {x0 : Nat} {x1 : Int32} {x2 : Int32} (hw : ω.2.2.2.1 = true) (kk : Ex ω M8_outside 0 [some (.int x2), some (.int (nI 0)), some (.int (nI 12))] [] h 0 0 (fun v h' => Ex ω M8_done 11 [some (.ref x0), some (.int x1), some (.int x2)] (v.toList ++ []) h' 0 0 Q)) : Ex ω M8_done 4 [some (.ref x0), some (.int x1), some (.int x2)] [] h 0 0 Q := by
  refine x_iload2 5 dX8_done_4 rfl ?_
  refine x_iconst (nI 0) 6 dX8_done_5 rfl rfl ?_
  refine x_bipush (nI 12) 8 dX8_done_6 rfl rfl ?_
  exact x_callS 11 [.int x2, .int (nI 0), .int (nI 12)] [] dX8_done_8 rfl lk_8_outside ⟨wd267, wd240⟩ ⟨by decide, by decide⟩ rfl rfl (Nat.le_of_ble_eq_true rfl) (Nat.le_of_ble_eq_true rfl) (by decide) (by decide) kk
set_option maxRecDepth 20000 in
theorem B8_done_11 {ω : Om} {h : AH} {Q : Option Value → AH → Prop} {x0 : Nat} {x1 : Int32} {x2 : Int32} {y0 : Int32} (hw : ω.2.2.2.1 = true) (kt : y0 = 0 → Ex ω M8_done 16 [some (.ref x0), some (.int x1), some (.int x2)] [] h 0 0 Q) (kf : ¬ y0 = 0 → Ex ω M8_done 14 [some (.ref x0), some (.int x1), some (.int x2)] [] h 0 0 Q) : Ex ω M8_done 11 [some (.ref x0), some (.int x1), some (.int x2)] [.int y0] h 0 0 Q := by
  exact x_if_eq 14 16 dX8_done_11 rfl (by decide) kt kf
set_option maxRecDepth 20000 in
theorem B8_done_14 {ω : Om} {h : AH} {Q : Option Value → AH → Prop} {u0 : Option Value} {u1 : Option Value} {u2 : Option Value} (hw : ω.2.2.2.1 = true) (hq : Q (some (.int ((-1)))) h) : Ex ω M8_done 14 [u0, u1, u2] [] h 0 0 Q := by
  refine x_dr0 ?_
  refine x_dr1 ?_
  refine x_dr2 ?_
  refine x_iconst ((-1)) 15 dX8_done_14 rfl rfl ?_
  exact x_iret dX8_done_15 rfl (Nat.zero_le _) (Nat.zero_le _) hq
set_option maxRecDepth 20000 in
theorem B8_done_16 {ω : Om} {h : AH} {Q : Option Value → AH → Prop} {x0 : Nat} {x1 : Int32} {x2 : Int32} (hw : ω.2.2.2.1 = true) (s_x0 : gs h x0 = some (8, 8)) (kt : x1 < (gi h (gr h x0 0) 6) → Ex ω M8_done 30 [some (.ref x0), some (.int x1), some (.int x2)] [] h 0 0 Q) (kf : ¬ x1 < (gi h (gr h x0 0) 6) → Ex ω M8_done 27 [some (.ref x0), some (.int x1), some (.int x2)] [] h 0 0 Q) : Ex ω M8_done 16 [some (.ref x0), some (.int x1), some (.int x2)] [] h 0 0 Q := by
  refine x_iload1 17 dX8_done_16 rfl ?_
  refine x_aload0 18 dX8_done_17 rfl ?_
  refine x_getR cf8 0 21 hw dX8_done_18 rfl wd13 (fun _ => s_x0) (by decide) (by decide) rfl ?_
  refine x_getI cf5 6 24 dX8_done_21 rfl wd577 (SH.fld hw (fun _ => s_x0) 0 (Nat.le_of_ble_eq_true rfl) rfl rfl) (by decide) rfl ?_
  exact x_icmp_lt 27 30 dX8_done_24 rfl (by decide) kt kf
set_option maxRecDepth 20000 in
theorem B8_done_27 {ω : Om} {h : AH} {Q : Option Value → AH → Prop} {u0 : Option Value} {u1 : Option Value} {u2 : Option Value} (hw : ω.2.2.2.1 = true) (hq : Q (some (.int ((-4)))) h) : Ex ω M8_done 27 [u0, u1, u2] [] h 0 0 Q := by
  refine x_dr0 ?_
  refine x_dr1 ?_
  refine x_dr2 ?_
  refine x_bipush ((-4)) 29 dX8_done_27 rfl rfl ?_
  exact x_iret dX8_done_29 rfl (Nat.zero_le _) (Nat.zero_le _) hq
set_option maxRecDepth 20000 in
theorem B8_done_30 {ω : Om} {h : AH} {Q : Option Value → AH → Prop} {x0 : Nat} {x1 : Int32} {x2 : Int32} (hw : ω.2.2.2.1 = true) (s_x0 : gs h x0 = some (8, 8)) (i1 : vp_in x1 6) (kk : Ex ω M3_property 0 [some (.ref (gr h (gr h (gr h x0 0) 5) (Int32.toNatClampNeg x1))), some (.int x2)] [] h 0 0 (fun v h' => Ex ω M8_done 43 [some (.ref x0), some (.int x1), some (.int x2)] (v.toList ++ []) h' 0 0 Q)) : Ex ω M8_done 30 [some (.ref x0), some (.int x1), some (.int x2)] [] h 0 0 Q := by
  refine x_aload0 31 dX8_done_30 rfl ?_
  refine x_getR cf8 0 34 hw dX8_done_31 rfl wd13 (fun _ => s_x0) (by decide) (by decide) rfl ?_
  refine x_getR cf5 5 37 hw dX8_done_34 rfl wd578 (SH.fld hw (fun _ => s_x0) 0 (Nat.le_of_ble_eq_true rfl) rfl rfl) (by decide) (by decide) rfl ?_
  refine x_iload1 38 dX8_done_37 rfl ?_
  refine x_aald arK14 (Int32.toNatClampNeg x1) 39 hw dX8_done_38 rfl (SH.fld hw (SH.fld hw (fun _ => s_x0) 0 (Nat.le_of_ble_eq_true rfl) rfl rfl) 5 (Nat.le_of_ble_eq_true rfl) rfl rfl) i1 rfl ?_
  refine x_iload2 40 dX8_done_39 rfl ?_
  exact x_callV 43 (gr h (gr h (gr h x0 0) 5) (Int32.toNatClampNeg x1)) [.int x2] [] dX8_done_40 rfl lk_3_property ⟨wd579, wd580, wd581⟩ ⟨by decide, by decide⟩ (recvO cf3 (SH.elt hw (SH.fld hw (SH.fld hw (fun _ => s_x0) 0 (Nat.le_of_ble_eq_true rfl) rfl rfl) 5 (Nat.le_of_ble_eq_true rfl) rfl rfl) i1 (fun _ => rfl) (fun _ => rfl))) rfl rfl (Nat.le_of_ble_eq_true rfl) (Nat.le_of_ble_eq_true rfl) (by decide) (by decide) kk
set_option maxRecDepth 20000 in
theorem B8_done_43 {ω : Om} {h : AH} {Q : Option Value → AH → Prop} {u0 : Option Value} {u1 : Option Value} {u2 : Option Value} {y0 : Int32} (hw : ω.2.2.2.1 = true) (hq : Q (some (.int y0)) h) : Ex ω M8_done 43 [u0, u1, u2] [.int y0] h 0 0 Q := by
  refine x_dr0 ?_
  refine x_dr1 ?_
  refine x_dr2 ?_
  exact x_iret dX8_done_43 rfl (Nat.zero_le _) (Nat.zero_le _) hq
set_option maxRecDepth 20000 in
theorem B8_total_0 {ω : Om} {h : AH} {Q : Option Value → AH → Prop} {x0 : Nat} {x1 : Int32} (hw : ω.2.2.2.1 = true) (kk : Ex ω M8_outside 0 [some (.int x1), some (.int (nI 0)), some (.int (nI 9))] [] h 0 0 (fun v h' => Ex ω M8_total 7 [some (.ref x0), some (.int x1)] (v.toList ++ []) h' 0 0 Q)) : Ex ω M8_total 0 [some (.ref x0), some (.int x1)] [] h 0 0 Q := by
  refine x_iload1 1 dX8_total_0 rfl ?_
  refine x_iconst (nI 0) 2 dX8_total_1 rfl rfl ?_
  refine x_bipush (nI 9) 4 dX8_total_2 rfl rfl ?_
  exact x_callS 7 [.int x1, .int (nI 0), .int (nI 9)] [] dX8_total_4 rfl lk_8_outside ⟨wd267, wd240⟩ ⟨by decide, by decide⟩ rfl rfl (Nat.le_of_ble_eq_true rfl) (Nat.le_of_ble_eq_true rfl) (by decide) (by decide) kk
set_option maxRecDepth 20000 in
theorem B8_total_7 {ω : Om} {h : AH} {Q : Option Value → AH → Prop} {x0 : Nat} {x1 : Int32} {y0 : Int32} (hw : ω.2.2.2.1 = true) (kt : y0 = 0 → Ex ω M8_total 12 [some (.ref x0), some (.int x1)] [] h 0 0 Q) (kf : ¬ y0 = 0 → Ex ω M8_total 10 [some (.ref x0), some (.int x1)] [] h 0 0 Q) : Ex ω M8_total 7 [some (.ref x0), some (.int x1)] [.int y0] h 0 0 Q := by
  exact x_if_eq 10 12 dX8_total_7 rfl (by decide) kt kf
set_option maxRecDepth 20000 in
theorem B8_total_10 {ω : Om} {h : AH} {Q : Option Value → AH → Prop} {u0 : Option Value} {u1 : Option Value} (hw : ω.2.2.2.1 = true) (hq : Q (some (.int ((-1)))) h) : Ex ω M8_total 10 [u0, u1] [] h 0 0 Q := by
  refine x_dr0 ?_
  refine x_dr1 ?_
  refine x_iconst ((-1)) 11 dX8_total_10 rfl rfl ?_
  exact x_iret dX8_total_11 rfl (Nat.zero_le _) (Nat.zero_le _) hq
set_option maxRecDepth 20000 in
theorem B8_total_12 {ω : Om} {h : AH} {Q : Option Value → AH → Prop} {x0 : Nat} {x1 : Int32} (hw : ω.2.2.2.1 = true) (s_x0 : gs h x0 = some (8, 8)) (kk : Ex ω M6_property 0 [some (.ref (gr h (gr h x0 0) 8)), some (.int x1)] [] h 0 0 (fun v h' => Ex ω M8_total 23 [some (.ref x0), some (.int x1)] (v.toList ++ []) h' 0 0 Q)) : Ex ω M8_total 12 [some (.ref x0), some (.int x1)] [] h 0 0 Q := by
  refine x_aload0 13 dX8_total_12 rfl ?_
  refine x_getR cf8 0 16 hw dX8_total_13 rfl wd13 (fun _ => s_x0) (by decide) (by decide) rfl ?_
  refine x_getR cf5 8 19 hw dX8_total_16 rfl wd287 (SH.fld hw (fun _ => s_x0) 0 (Nat.le_of_ble_eq_true rfl) rfl rfl) (by decide) (by decide) rfl ?_
  refine x_iload1 20 dX8_total_19 rfl ?_
  exact x_callV 23 (gr h (gr h x0 0) 8) [.int x1] [] dX8_total_20 rfl lk_6_property ⟨wd418, wd419, wd420⟩ ⟨by decide, by decide⟩ (recvO cf6 (SH.fld hw (SH.fld hw (fun _ => s_x0) 0 (Nat.le_of_ble_eq_true rfl) rfl rfl) 8 (Nat.le_of_ble_eq_true rfl) rfl rfl)) rfl rfl (Nat.le_of_ble_eq_true rfl) (Nat.le_of_ble_eq_true rfl) (by decide) (by decide) kk
set_option maxRecDepth 20000 in
theorem B8_total_23 {ω : Om} {h : AH} {Q : Option Value → AH → Prop} {u0 : Option Value} {u1 : Option Value} {y0 : Int32} (hw : ω.2.2.2.1 = true) (hq : Q (some (.int y0)) h) : Ex ω M8_total 23 [u0, u1] [.int y0] h 0 0 Q := by
  refine x_dr0 ?_
  refine x_dr1 ?_
  exact x_iret dX8_total_23 rfl (Nat.zero_le _) (Nat.zero_le _) hq
set_option maxRecDepth 20000 in
theorem B8_weight_0 {ω : Om} {h : AH} {Q : Option Value → AH → Prop} {x0 : Nat} (hw : ω.2.2.2.1 = true) (s_x0 : gs h x0 = some (8, 8)) (hq : Q (some (.long (gl h (gr h (gr h x0 0) 8) 11))) h) : Ex ω M8_weight 0 [some (.ref x0)] [] h 0 0 Q := by
  refine x_aload0 1 dX8_weight_0 rfl ?_
  refine x_getR cf8 0 4 hw dX8_weight_1 rfl wd13 (fun _ => s_x0) (by decide) (by decide) rfl ?_
  refine x_getR cf5 8 7 hw dX8_weight_4 rfl wd287 (SH.fld hw (fun _ => s_x0) 0 (Nat.le_of_ble_eq_true rfl) rfl rfl) (by decide) (by decide) rfl ?_
  refine x_getL cf6 11 10 dX8_weight_7 rfl wd426 (SH.fld hw (SH.fld hw (fun _ => s_x0) 0 (Nat.le_of_ble_eq_true rfl) rfl rfl) 8 (Nat.le_of_ble_eq_true rfl) rfl rfl) (by decide) rfl ?_
  exact x_lret dX8_weight_10 rfl (Nat.zero_le _) (Nat.zero_le _) hq
set_option maxRecDepth 20000 in
theorem B8_outside_0 {ω : Om} {h : AH} {Q : Option Value → AH → Prop} {x0 : Int32} {x1 : Int32} {x2 : Int32} (hw : ω.2.2.2.1 = true) (kt : x0 < x1 → Ex ω M8_outside 10 [some (.int x0), some (.int x1), some (.int x2)] [] h 0 0 Q) (kf : ¬ x0 < x1 → Ex ω M8_outside 5 [some (.int x0), some (.int x1), some (.int x2)] [] h 0 0 Q) : Ex ω M8_outside 0 [some (.int x0), some (.int x1), some (.int x2)] [] h 0 0 Q := by
  refine x_iload0 1 dX8_outside_0 rfl ?_
  refine x_iload1 2 dX8_outside_1 rfl ?_
  exact x_icmp_lt 5 10 dX8_outside_2 rfl (by decide) kt kf
set_option maxRecDepth 20000 in
theorem B8_outside_5 {ω : Om} {h : AH} {Q : Option Value → AH → Prop} {x0 : Int32} {u1 : Option Value} {x2 : Int32} (hw : ω.2.2.2.1 = true) (kt : x0 ≤ x2 → Ex ω M8_outside 14 [some (.int x0), none, some (.int x2)] [] h 0 0 Q) (kf : ¬ x0 ≤ x2 → Ex ω M8_outside 10 [some (.int x0), none, some (.int x2)] [] h 0 0 Q) : Ex ω M8_outside 5 [some (.int x0), u1, some (.int x2)] [] h 0 0 Q := by
  refine x_dr1 ?_
  refine x_iload0 6 dX8_outside_5 rfl ?_
  refine x_iload2 7 dX8_outside_6 rfl ?_
  exact x_icmp_le 10 14 dX8_outside_7 rfl (by decide) kt kf
set_option maxRecDepth 20000 in
theorem B8_outside_10 {ω : Om} {h : AH} {Q : Option Value → AH → Prop} {u0 : Option Value} {u1 : Option Value} {u2 : Option Value} (hw : ω.2.2.2.1 = true) (kt : Ex ω M8_outside 15 [none, none, none] [.int (nI 1)] h 0 0 Q) : Ex ω M8_outside 10 [u0, u1, u2] [] h 0 0 Q := by
  refine x_dr0 ?_
  refine x_dr1 ?_
  refine x_dr2 ?_
  refine x_iconst (nI 1) 11 dX8_outside_10 rfl rfl ?_
  exact x_goto 15 dX8_outside_11 (by decide) kt
set_option maxRecDepth 20000 in
theorem B8_outside_14 {ω : Om} {h : AH} {Q : Option Value → AH → Prop} {u0 : Option Value} {u1 : Option Value} {u2 : Option Value} (hw : ω.2.2.2.1 = true) (kf : Ex ω M8_outside 15 [none, none, none] [.int (nI 0)] h 0 0 Q) : Ex ω M8_outside 14 [u0, u1, u2] [] h 0 0 Q := by
  refine x_dr0 ?_
  refine x_dr1 ?_
  refine x_dr2 ?_
  refine x_iconst (nI 0) 15 dX8_outside_14 rfl rfl ?_
  exact kf
set_option maxRecDepth 20000 in
theorem B8_outside_15 {ω : Om} {h : AH} {Q : Option Value → AH → Prop} {u0 : Option Value} {u1 : Option Value} {u2 : Option Value} {y0 : Int32} (hw : ω.2.2.2.1 = true) (hz : narrow .boolean (.int y0) = .int y0) (hq : Q (some (.int y0)) h) : Ex ω M8_outside 15 [u0, u1, u2] [.int y0] h 0 0 Q := by
  refine x_dr0 ?_
  refine x_dr1 ?_
  refine x_dr2 ?_
  exact x_zret dX8_outside_15 rfl hz (Nat.zero_le _) (Nat.zero_le _) hq
set_option maxRecDepth 20000 in
theorem B8_roundedUp_0 {ω : Om} {h : AH} {Q : Option Value → AH → Prop} {x0 : Int32} {x1 : Int32} (hw : ω.2.2.2.1 = true) (kt : x1 ≤ 0 → Ex ω M8_roundedUp 14 [some (.int x0), some (.int x1)] [] h 0 0 Q) (kf : ¬ x1 ≤ 0 → Ex ω M8_roundedUp 4 [some (.int x0), some (.int x1)] [] h 0 0 Q) : Ex ω M8_roundedUp 0 [some (.int x0), some (.int x1)] [] h 0 0 Q := by
  refine x_iload1 1 dX8_roundedUp_0 rfl ?_
  exact x_if_le 4 14 dX8_roundedUp_1 rfl (by decide) kt kf
set_option maxRecDepth 20000 in
theorem B8_roundedUp_4 {ω : Om} {h : AH} {Q : Option Value → AH → Prop} {x0 : Int32} {x1 : Int32} (hw : ω.2.2.2.1 = true) (z1 : ¬ x1 = (0 : Int32)) (kt : Ex ω M8_roundedUp 15 [some (.int x0), some (.int x1)] [.int (((x0 + x1) - (nI 1)) / x1)] h 0 0 Q) : Ex ω M8_roundedUp 4 [some (.int x0), some (.int x1)] [] h 0 0 Q := by
  refine x_iload0 5 dX8_roundedUp_4 rfl ?_
  refine x_iload1 6 dX8_roundedUp_5 rfl ?_
  refine x_iadd 7 dX8_roundedUp_6 rfl ?_
  refine x_iconst (nI 1) 8 dX8_roundedUp_7 rfl rfl ?_
  refine x_isub 9 dX8_roundedUp_8 rfl ?_
  refine x_iload1 10 dX8_roundedUp_9 rfl ?_
  refine x_idiv 11 dX8_roundedUp_10 rfl z1 ?_
  exact x_goto 15 dX8_roundedUp_11 (by decide) kt
set_option maxRecDepth 20000 in
theorem B8_roundedUp_14 {ω : Om} {h : AH} {Q : Option Value → AH → Prop} {u0 : Option Value} {u1 : Option Value} (hw : ω.2.2.2.1 = true) (kf : Ex ω M8_roundedUp 15 [none, none] [.int (nI 0)] h 0 0 Q) : Ex ω M8_roundedUp 14 [u0, u1] [] h 0 0 Q := by
  refine x_dr0 ?_
  refine x_dr1 ?_
  refine x_iconst (nI 0) 15 dX8_roundedUp_14 rfl rfl ?_
  exact kf
set_option maxRecDepth 20000 in
theorem B8_roundedUp_15 {ω : Om} {h : AH} {Q : Option Value → AH → Prop} {u0 : Option Value} {u1 : Option Value} {y0 : Int32} (hw : ω.2.2.2.1 = true) (hq : Q (some (.int y0)) h) : Ex ω M8_roundedUp 15 [u0, u1] [.int y0] h 0 0 Q := by
  refine x_dr0 ?_
  refine x_dr1 ?_
  exact x_iret dX8_roundedUp_15 rfl (Nat.zero_le _) (Nat.zero_le _) hq
set_option maxRecDepth 20000 in
theorem B8_least_0 {ω : Om} {h : AH} {Q : Option Value → AH → Prop} {x0 : Nat} {x1 : Int32} {u2 : Option Value} {u3 : Option Value} {nx0 : Nat} (hw : ω.2.2.2.1 = true) (s_x0 : gs h x0 = some (10, nx0)) (kt : (nI nx0) ≤ 0 → Ex ω M8_least 11 [some (.ref x0), some (.int x1), none, none] [] h 0 0 Q) (kf : ¬ (nI nx0) ≤ 0 → Ex ω M8_least 5 [some (.ref x0), some (.int x1), none, none] [] h 0 0 Q) : Ex ω M8_least 0 [some (.ref x0), some (.int x1), u2, u3] [] h 0 0 Q := by
  refine x_dr2 ?_
  refine x_dr3 ?_
  refine x_aload0 1 dX8_least_0 rfl ?_
  refine x_alen 2 dX8_least_1 rfl (fun _ => s_x0) ?_
  exact x_if_le 5 11 dX8_least_2 rfl (by decide) kt kf
set_option maxRecDepth 20000 in
theorem B8_least_5 {ω : Om} {h : AH} {Q : Option Value → AH → Prop} {x0 : Nat} {x1 : Int32} {u2 : Option Value} {u3 : Option Value} {nx0 : Nat} (hw : ω.2.2.2.1 = true) (s_x0 : gs h x0 = some (10, nx0)) (i1 : vp_in (nI 0) nx0) (kt : Ex ω M8_least 12 [some (.ref x0), some (.int x1), none, none] [.int (gi h x0 (Int32.toNatClampNeg (nI 0)))] h 0 0 Q) : Ex ω M8_least 5 [some (.ref x0), some (.int x1), u2, u3] [] h 0 0 Q := by
  refine x_dr2 ?_
  refine x_dr3 ?_
  refine x_aload0 6 dX8_least_5 rfl ?_
  refine x_iconst (nI 0) 7 dX8_least_6 rfl rfl ?_
  refine x_iald (Int32.toNatClampNeg (nI 0)) 8 dX8_least_7 rfl (fun _ => s_x0) i1 rfl ?_
  exact x_goto 12 dX8_least_8 (by decide) kt
set_option maxRecDepth 20000 in
theorem B8_least_11 {ω : Om} {h : AH} {Q : Option Value → AH → Prop} {x0 : Nat} {x1 : Int32} {u2 : Option Value} {u3 : Option Value} (hw : ω.2.2.2.1 = true) (kf : Ex ω M8_least 12 [some (.ref x0), some (.int x1), none, none] [.int (nI 0)] h 0 0 Q) : Ex ω M8_least 11 [some (.ref x0), some (.int x1), u2, u3] [] h 0 0 Q := by
  refine x_dr2 ?_
  refine x_dr3 ?_
  refine x_iconst (nI 0) 12 dX8_least_11 rfl rfl ?_
  exact kf
set_option maxRecDepth 20000 in
theorem B8_least_12 {ω : Om} {h : AH} {Q : Option Value → AH → Prop} {x0 : Nat} {x1 : Int32} {u2 : Option Value} {u3 : Option Value} {y0 : Int32} (hw : ω.2.2.2.1 = true) (kf : Ex ω M8_least 15 [some (.ref x0), some (.int x1), some (.int y0), some (.int (nI 1))] [] h 0 0 Q) : Ex ω M8_least 12 [some (.ref x0), some (.int x1), u2, u3] [.int y0] h 0 0 Q := by
  refine x_dr2 ?_
  refine x_dr3 ?_
  refine x_istore2 13 dX8_least_12 rfl (by decide) rfl ?_
  refine x_iconst (nI 1) 14 dX8_least_13 rfl rfl ?_
  refine x_istore3 15 dX8_least_14 rfl (by decide) rfl ?_
  exact kf
set_option maxRecDepth 20000 in
theorem B8_least_15 {ω : Om} {h : AH} {Q : Option Value → AH → Prop} {x0 : Nat} {x1 : Int32} {x2 : Int32} {x3 : Int32} (hw : ω.2.2.2.1 = true) (kt : x1 ≤ x3 → Ex ω M8_least 40 [some (.ref x0), some (.int x1), some (.int x2), some (.int x3)] [] h 0 0 Q) (kf : ¬ x1 ≤ x3 → Ex ω M8_least 20 [some (.ref x0), some (.int x1), some (.int x2), some (.int x3)] [] h 0 0 Q) : Ex ω M8_least 15 [some (.ref x0), some (.int x1), some (.int x2), some (.int x3)] [] h 0 0 Q := by
  refine x_iload3 16 dX8_least_15 rfl ?_
  refine x_iload1 17 dX8_least_16 rfl ?_
  exact x_icmp_ge 20 40 dX8_least_17 rfl (by decide) kt kf
set_option maxRecDepth 20000 in
theorem B8_least_20 {ω : Om} {h : AH} {Q : Option Value → AH → Prop} {x0 : Nat} {x1 : Int32} {x2 : Int32} {x3 : Int32} {nx0 : Nat} (hw : ω.2.2.2.1 = true) (s_x0 : gs h x0 = some (10, nx0)) (kt : (nI nx0) ≤ x3 → Ex ω M8_least 40 [some (.ref x0), some (.int x1), some (.int x2), some (.int x3)] [] h 0 0 Q) (kf : ¬ (nI nx0) ≤ x3 → Ex ω M8_least 26 [some (.ref x0), some (.int x1), some (.int x2), some (.int x3)] [] h 0 0 Q) : Ex ω M8_least 20 [some (.ref x0), some (.int x1), some (.int x2), some (.int x3)] [] h 0 0 Q := by
  refine x_iload3 21 dX8_least_20 rfl ?_
  refine x_aload0 22 dX8_least_21 rfl ?_
  refine x_alen 23 dX8_least_22 rfl (fun _ => s_x0) ?_
  exact x_icmp_ge 26 40 dX8_least_23 rfl (by decide) kt kf
set_option maxRecDepth 20000 in
theorem B8_least_26 {ω : Om} {h : AH} {Q : Option Value → AH → Prop} {x0 : Nat} {x1 : Int32} {x2 : Int32} {x3 : Int32} {nx0 : Nat} (hw : ω.2.2.2.1 = true) (s_x0 : gs h x0 = some (10, nx0)) (i1 : vp_in x3 nx0) (kt : Ex ω M8_least 15 [some (.ref x0), some (.int x1), some (.int (if (gi h x0 (Int32.toNatClampNeg x3)) < x2 then (gi h x0 (Int32.toNatClampNeg x3)) else x2)), some (.int (x3 + (nI 1)))] [] h 0 0 Q) : Ex ω M8_least 26 [some (.ref x0), some (.int x1), some (.int x2), some (.int x3)] [] h 0 0 Q := by
  refine x_iload2 27 dX8_least_26 rfl ?_
  refine x_aload0 28 dX8_least_27 rfl ?_
  refine x_iload3 29 dX8_least_28 rfl ?_
  refine x_iald (Int32.toNatClampNeg x3) 30 dX8_least_29 rfl (fun _ => s_x0) i1 rfl ?_
  refine x_mmin 33 dX8_least_30 rfl mw_RX8_221 (by decide) (Nat.le_of_ble_eq_true rfl) (Nat.zero_le _) (Nat.zero_le _) ?_
  refine x_istore2 34 dX8_least_33 rfl (by decide) rfl ?_
  refine x_iinc3 (x3 + (nI 1)) 37 dX8_least_34 rfl (by decide) rfl rfl ?_
  exact x_goto 15 dX8_least_37 (by decide) kt
set_option maxRecDepth 20000 in
theorem B8_least_40 {ω : Om} {h : AH} {Q : Option Value → AH → Prop} {u0 : Option Value} {u1 : Option Value} {x2 : Int32} {u3 : Option Value} (hw : ω.2.2.2.1 = true) (hq : Q (some (.int x2)) h) : Ex ω M8_least 40 [u0, u1, some (.int x2), u3] [] h 0 0 Q := by
  refine x_dr0 ?_
  refine x_dr1 ?_
  refine x_dr3 ?_
  refine x_iload2 41 dX8_least_40 rfl ?_
  exact x_iret dX8_least_41 rfl (Nat.zero_le _) (Nat.zero_le _) hq
set_option maxRecDepth 20000 in
theorem B8_forceOf_0 {ω : Om} {h : AH} {Q : Option Value → AH → Prop} {x0 : Int32} (hw : ω.2.2.2.1 = true) (hq : Q (some (.int ((x0 * (nI 141)) / (nI 100)))) h) : Ex ω M8_forceOf 0 [some (.int x0)] [] h 0 0 Q := by
  refine x_iload0 1 dX8_forceOf_0 rfl ?_
  refine x_sipush (nI 141) 4 dX8_forceOf_1 rfl rfl ?_
  refine x_imul 5 dX8_forceOf_4 rfl ?_
  refine x_bipush (nI 100) 7 dX8_forceOf_5 rfl rfl ?_
  refine x_idiv 8 dX8_forceOf_7 rfl (by decide) ?_
  exact x_iret dX8_forceOf_8 rfl (Nat.zero_le _) (Nat.zero_le _) hq
set_option maxRecDepth 20000 in
theorem B8_greatestTension_0 {ω : Om} {h : AH} {Q : Option Value → AH → Prop} {x0 : Int32} {x1 : Int32} (hw : ω.2.2.2.1 = true) (hq : Q (some (.int (if ((((nI 100) * x1) + (nI 99)) / (nI 141)) < x0 then ((((nI 100) * x1) + (nI 99)) / (nI 141)) else x0))) h) : Ex ω M8_greatestTension 0 [some (.int x0), some (.int x1)] [] h 0 0 Q := by
  refine x_iload0 1 dX8_greatestTension_0 rfl ?_
  refine x_bipush (nI 100) 3 dX8_greatestTension_1 rfl rfl ?_
  refine x_iload1 4 dX8_greatestTension_3 rfl ?_
  refine x_imul 5 dX8_greatestTension_4 rfl ?_
  refine x_bipush (nI 99) 7 dX8_greatestTension_5 rfl rfl ?_
  refine x_iadd 8 dX8_greatestTension_7 rfl ?_
  refine x_sipush (nI 141) 11 dX8_greatestTension_8 rfl rfl ?_
  refine x_idiv 12 dX8_greatestTension_11 rfl (by decide) ?_
  refine x_mmin 15 dX8_greatestTension_12 rfl mw_RX8_221 (by decide) (Nat.le_of_ble_eq_true rfl) (Nat.zero_le _) (Nat.zero_le _) ?_
  exact x_iret dX8_greatestTension_15 rfl (Nat.zero_le _) (Nat.zero_le _) hq
set_option maxRecDepth 20000 in
theorem B8_firstZone_0 {ω : Om} {h : AH} {Q : Option Value → AH → Prop} {x0 : Int32} (hw : ω.2.2.2.1 = true) (hq : Q (some (.int (x0 / (nI 10)))) h) : Ex ω M8_firstZone 0 [some (.int x0)] [] h 0 0 Q := by
  refine x_iload0 1 dX8_firstZone_0 rfl ?_
  refine x_bipush (nI 10) 3 dX8_firstZone_1 rfl rfl ?_
  refine x_idiv 4 dX8_firstZone_3 rfl (by decide) ?_
  exact x_iret dX8_firstZone_4 rfl (Nat.zero_le _) (Nat.zero_le _) hq
set_option maxRecDepth 20000 in
theorem B8_zonesEnd_0 {ω : Om} {h : AH} {Q : Option Value → AH → Prop} {x0 : Int32} {x1 : Int32} (hw : ω.2.2.2.1 = true) (kk : Ex ω M8_roundedUp 0 [some (.int (x0 + (nI 50))), some (.int (nI 10))] [] h 0 0 (fun v h' => Ex ω M8_zonesEnd 10 [some (.int x0), some (.int x1)] (v.toList ++ [.int x1]) h' 0 0 Q)) : Ex ω M8_zonesEnd 0 [some (.int x0), some (.int x1)] [] h 0 0 Q := by
  refine x_iload1 1 dX8_zonesEnd_0 rfl ?_
  refine x_iload0 2 dX8_zonesEnd_1 rfl ?_
  refine x_bipush (nI 50) 4 dX8_zonesEnd_2 rfl rfl ?_
  refine x_iadd 5 dX8_zonesEnd_4 rfl ?_
  refine x_bipush (nI 10) 7 dX8_zonesEnd_5 rfl rfl ?_
  exact x_callS 10 [.int (x0 + (nI 50)), .int (nI 10)] [.int x1] dX8_zonesEnd_7 rfl lk_8_roundedUp ⟨wd497, wd450⟩ ⟨by decide, by decide⟩ rfl rfl (Nat.le_of_ble_eq_true rfl) (Nat.le_of_ble_eq_true rfl) (by decide) (by decide) kk
set_option maxRecDepth 20000 in
theorem B8_zonesEnd_10 {ω : Om} {h : AH} {Q : Option Value → AH → Prop} {u0 : Option Value} {u1 : Option Value} {y0 : Int32} {y1 : Int32} (hw : ω.2.2.2.1 = true) (hq : Q (some (.int (if y1 < y0 then y1 else y0))) h) : Ex ω M8_zonesEnd 10 [u0, u1] [.int y1, .int y0] h 0 0 Q := by
  refine x_dr0 ?_
  refine x_dr1 ?_
  refine x_mmin 13 dX8_zonesEnd_10 rfl mw_RX8_221 (by decide) (Nat.le_of_ble_eq_true rfl) (Nat.zero_le _) (Nat.zero_le _) ?_
  exact x_iret dX8_zonesEnd_13 rfl (Nat.zero_le _) (Nat.zero_le _) hq
set_option maxRecDepth 20000 in
theorem B8_nameOf_0 {ω : Om} {h : AH} {Q : Option Value → AH → Prop} {x0 : Int32} (hw : ω.2.2.2.1 = true) (c0 : x0 = nI 0 → Ex ω M8_nameOf 32 [some (.int x0)] [] h 0 0 Q) (c1 : x0 = nI 1 → Ex ω M8_nameOf 35 [some (.int x0)] [] h 0 0 Q) (c2 : x0 = nI 2 → Ex ω M8_nameOf 38 [some (.int x0)] [] h 0 0 Q) (c3 : x0 = nI 3 → Ex ω M8_nameOf 41 [some (.int x0)] [] h 0 0 Q) (cd : (¬ (0 ≤ x0 ∧ x0 ≤ nI 3)) → Ex ω M8_nameOf 44 [some (.int x0)] [] h 0 0 Q) : Ex ω M8_nameOf 0 [some (.int x0)] [] h 0 0 Q := by
  refine x_iload0 1 dX8_nameOf_0 rfl ?_
  refine x_tsw 3 [32, 35, 38, 41] 44 dX8_nameOf_1 (by decide) (by decide) (by decide) (by decide) (by decide) cd (fun j hj e => ?_)
  match j, hj with
  | 0, _ => exact c0 e
  | 1, _ => exact c1 e
  | 2, _ => exact c2 e
  | 3, _ => exact c3 e
  | j + 4, hj => exact absurd hj (by simp)
set_option maxRecDepth 20000 in
theorem B8_nameOf_32 {ω : Om} {h : AH} {Q : Option Value → AH → Prop} {u0 : Option Value} (hw : ω.2.2.2.1 = true) (hq : Q (some (.ref (ω.2.2.2.2.1 0))) h) : Ex ω M8_nameOf 32 [u0] [] h 0 0 Q := by
  refine x_dr0 ?_
  refine x_ldcS 0 34 dX8_nameOf_32 rfl rfl (by decide) rfl ?_
  exact x_aret dX8_nameOf_34 rfl (Nat.zero_le _) (Nat.zero_le _) hq
set_option maxRecDepth 20000 in
theorem B8_nameOf_35 {ω : Om} {h : AH} {Q : Option Value → AH → Prop} {u0 : Option Value} (hw : ω.2.2.2.1 = true) (hq : Q (some (.ref (ω.2.2.2.2.1 1))) h) : Ex ω M8_nameOf 35 [u0] [] h 0 0 Q := by
  refine x_dr0 ?_
  refine x_ldcS 1 37 dX8_nameOf_35 rfl rfl (by decide) rfl ?_
  exact x_aret dX8_nameOf_37 rfl (Nat.zero_le _) (Nat.zero_le _) hq
set_option maxRecDepth 20000 in
theorem B8_nameOf_38 {ω : Om} {h : AH} {Q : Option Value → AH → Prop} {u0 : Option Value} (hw : ω.2.2.2.1 = true) (hq : Q (some (.ref (ω.2.2.2.2.1 2))) h) : Ex ω M8_nameOf 38 [u0] [] h 0 0 Q := by
  refine x_dr0 ?_
  refine x_ldcS 2 40 dX8_nameOf_38 rfl rfl (by decide) rfl ?_
  exact x_aret dX8_nameOf_40 rfl (Nat.zero_le _) (Nat.zero_le _) hq
set_option maxRecDepth 20000 in
theorem B8_nameOf_41 {ω : Om} {h : AH} {Q : Option Value → AH → Prop} {u0 : Option Value} (hw : ω.2.2.2.1 = true) (hq : Q (some (.ref (ω.2.2.2.2.1 3))) h) : Ex ω M8_nameOf 41 [u0] [] h 0 0 Q := by
  refine x_dr0 ?_
  refine x_ldcS 3 43 dX8_nameOf_41 rfl rfl (by decide) rfl ?_
  exact x_aret dX8_nameOf_43 rfl (Nat.zero_le _) (Nat.zero_le _) hq
set_option maxRecDepth 20000 in
theorem B8_nameOf_44 {ω : Om} {h : AH} {Q : Option Value → AH → Prop} {u0 : Option Value} (hw : ω.2.2.2.1 = true) (hq : Q (some (.ref (ω.2.2.2.2.1 4))) h) : Ex ω M8_nameOf 44 [u0] [] h 0 0 Q := by
  refine x_dr0 ?_
  refine x_ldcS 4 46 dX8_nameOf_44 rfl rfl (by decide) rfl ?_
  exact x_aret dX8_nameOf_46 rfl (Nat.zero_le _) (Nat.zero_le _) hq
set_option maxRecDepth 20000 in
theorem B8_record_0 {ω : Om} {h : AH} {Q : Option Value → AH → Prop} {x0 : Nat} {u1 : Option Value} {u2 : Option Value} (hw : ω.2.2.2.1 = true) (s_x0 : gs h x0 = some (8, 8)) (kt : ¬ (gi h x0 3) = (nI 4) → Ex ω M8_record 59 [some (.ref x0), none, none] [] h 0 0 Q) (kf : (gi h x0 3) = (nI 4) → Ex ω M8_record 8 [some (.ref x0), none, none] [] h 0 0 Q) : Ex ω M8_record 0 [some (.ref x0), u1, u2] [] h 0 0 Q := by
  refine x_dr1 ?_
  refine x_dr2 ?_
  refine x_aload0 1 dX8_record_0 rfl ?_
  refine x_getI cf8 3 4 dX8_record_1 rfl wd16 (fun _ => s_x0) (by decide) rfl ?_
  refine x_iconst (nI 4) 5 dX8_record_4 rfl rfl ?_
  exact x_icmp_ne 8 59 dX8_record_5 rfl (by decide) kt kf
set_option maxRecDepth 20000 in
theorem B8_record_8 {ω : Om} {h : AH} {Q : Option Value → AH → Prop} {x0 : Nat} {u1 : Option Value} {u2 : Option Value} (hw : ω.2.2.2.1 = true) (s_x0 : gs h x0 = some (8, 8)) (kf : Ex ω M8_record 17 [some (.ref x0), some (.ref (gr h (gr h x0 2) 0)), some (.int (nI 1))] [] h 0 0 Q) : Ex ω M8_record 8 [some (.ref x0), u1, u2] [] h 0 0 Q := by
  refine x_dr1 ?_
  refine x_dr2 ?_
  refine x_aload0 9 dX8_record_8 rfl ?_
  refine x_getR cf8 2 12 hw dX8_record_9 rfl wd15 (fun _ => s_x0) (by decide) (by decide) rfl ?_
  refine x_iconst (nI 0) 13 dX8_record_12 rfl rfl ?_
  refine x_aald arK15 0 14 hw dX8_record_13 rfl (SH.fld hw (fun _ => s_x0) 2 (Nat.le_of_ble_eq_true rfl) rfl rfl) (vp_c (by decide)) rfl ?_
  refine x_astore1 15 dX8_record_14 rfl (by decide) rfl ?_
  refine x_iconst (nI 1) 16 dX8_record_15 rfl rfl ?_
  refine x_istore2 17 dX8_record_16 rfl (by decide) rfl ?_
  exact kf
set_option maxRecDepth 20000 in
theorem B8_record_17 {ω : Om} {h : AH} {Q : Option Value → AH → Prop} {x0 : Nat} {x1 : Nat} {x2 : Int32} (hw : ω.2.2.2.1 = true) (kt : (nI 4) ≤ x2 → Ex ω M8_record 42 [some (.ref x0), some (.ref x1), some (.int x2)] [] h 0 0 Q) (kf : ¬ (nI 4) ≤ x2 → Ex ω M8_record 22 [some (.ref x0), some (.ref x1), some (.int x2)] [] h 0 0 Q) : Ex ω M8_record 17 [some (.ref x0), some (.ref x1), some (.int x2)] [] h 0 0 Q := by
  refine x_iload2 18 dX8_record_17 rfl ?_
  refine x_iconst (nI 4) 19 dX8_record_18 rfl rfl ?_
  exact x_icmp_ge 22 42 dX8_record_19 rfl (by decide) kt kf
set_option maxRecDepth 20000 in
theorem B8_record_22 {ω : Om} {h : AH} {Q : Option Value → AH → Prop} {x0 : Nat} {x1 : Nat} {x2 : Int32} (hw : ω.2.2.2.1 = true) (s_x0 : gs h x0 = some (8, 8)) (i1 : vp_in x2 4) (i2 : vp_in (x2 - (nI 1)) 4) (kt : Ex ω M8_record 17 [some (.ref x0), some (.ref x1), some (.int (x2 + (nI 1)))] [] (sr h (gr h x0 2) (Int32.toNatClampNeg (x2 - (nI 1))) (gr h (gr h x0 2) (Int32.toNatClampNeg x2))) 0 0 Q) : Ex ω M8_record 22 [some (.ref x0), some (.ref x1), some (.int x2)] [] h 0 0 Q := by
  refine x_aload0 23 dX8_record_22 rfl ?_
  refine x_getR cf8 2 26 hw dX8_record_23 rfl wd15 (fun _ => s_x0) (by decide) (by decide) rfl ?_
  refine x_iload2 27 dX8_record_26 rfl ?_
  refine x_iconst (nI 1) 28 dX8_record_27 rfl rfl ?_
  refine x_isub 29 dX8_record_28 rfl ?_
  refine x_aload0 30 dX8_record_29 rfl ?_
  refine x_getR cf8 2 33 hw dX8_record_30 rfl wd15 (fun _ => s_x0) (by decide) (by decide) rfl ?_
  refine x_iload2 34 dX8_record_33 rfl ?_
  refine x_aald arK15 (Int32.toNatClampNeg x2) 35 hw dX8_record_34 rfl (SH.fld hw (fun _ => s_x0) 2 (Nat.le_of_ble_eq_true rfl) rfl rfl) i1 rfl ?_
  refine x_aast arK15 (Int32.toNatClampNeg (x2 - (nI 1))) 36 dX8_record_35 rfl (SH.fld hw (fun _ => s_x0) 2 (Nat.le_of_ble_eq_true rfl) rfl rfl) i2 rfl (SH.elt hw (SH.fld hw (fun _ => s_x0) 2 (Nat.le_of_ble_eq_true rfl) rfl rfl) i1 (fun _ => rfl) (fun _ => rfl)) (fun _ => rfl) ?_
  refine x_iinc2 (x2 + (nI 1)) 39 dX8_record_36 rfl (by decide) rfl rfl ?_
  exact x_goto 17 dX8_record_39 (by decide) kt
set_option maxRecDepth 20000 in
theorem B8_record_42 {ω : Om} {h : AH} {Q : Option Value → AH → Prop} {x0 : Nat} {x1 : Nat} {u2 : Option Value} (hw : ω.2.2.2.1 = true) (s_x0 : gs h x0 = some (8, 8)) (s_x1 : gs h x1 = some (5, 11)) (kf : Ex ω M8_record 59 [some (.ref x0), some (.ref x1), none] [] (si (sr h (gr h x0 2) 3 x1) x0 3 ((gi (sr h (gr h x0 2) 3 x1) x0 3) - (nI 1))) 0 0 Q) : Ex ω M8_record 42 [some (.ref x0), some (.ref x1), u2] [] h 0 0 Q := by
  refine x_dr2 ?_
  refine x_aload0 43 dX8_record_42 rfl ?_
  refine x_getR cf8 2 46 hw dX8_record_43 rfl wd15 (fun _ => s_x0) (by decide) (by decide) rfl ?_
  refine x_iconst (nI 3) 47 dX8_record_46 rfl rfl ?_
  refine x_aload1 48 dX8_record_47 rfl ?_
  refine x_aast arK15 3 49 dX8_record_48 rfl (SH.fld hw (fun _ => s_x0) 2 (Nat.le_of_ble_eq_true rfl) rfl rfl) (vp_c (by decide)) rfl (fun _ => s_x1) (fun _ => rfl) ?_
  refine x_aload0 50 dX8_record_49 rfl ?_
  refine x_dup 51 dX8_record_50 rfl rfl ?_
  refine x_getI cf8 3 54 dX8_record_51 rfl wd16 (fun _ => s_x0) (by decide) rfl ?_
  refine x_iconst (nI 1) 55 dX8_record_54 rfl rfl ?_
  refine x_isub 56 dX8_record_55 rfl ?_
  refine x_putI cf8 3 59 dX8_record_56 rfl wd16 (fun _ => s_x0) (by decide) rfl rfl ?_
  exact kf
set_option maxRecDepth 20000 in
theorem B8_record_59 {ω : Om} {h : AH} {Q : Option Value → AH → Prop} {x0 : Nat} {u1 : Option Value} {u2 : Option Value} (hw : ω.2.2.2.1 = true) (s_x0 : gs h x0 = some (8, 8)) (i1 : vp_in (gi h x0 3) 4) (kk : Ex ω M5_copyFrom 0 [some (.ref (gr h (gr h x0 2) (Int32.toNatClampNeg (gi h x0 3)))), some (.ref (gr h x0 0)), none] [] h 0 0 (fun v h' => Ex ω M8_record 75 [some (.ref x0), none, none] (v.toList ++ []) h' 0 0 Q)) : Ex ω M8_record 59 [some (.ref x0), u1, u2] [] h 0 0 Q := by
  refine x_dr1 ?_
  refine x_dr2 ?_
  refine x_aload0 60 dX8_record_59 rfl ?_
  refine x_getR cf8 2 63 hw dX8_record_60 rfl wd15 (fun _ => s_x0) (by decide) (by decide) rfl ?_
  refine x_aload0 64 dX8_record_63 rfl ?_
  refine x_getI cf8 3 67 dX8_record_64 rfl wd16 (fun _ => s_x0) (by decide) rfl ?_
  refine x_aald arK15 (Int32.toNatClampNeg (gi h x0 3)) 68 hw dX8_record_67 rfl (SH.fld hw (fun _ => s_x0) 2 (Nat.le_of_ble_eq_true rfl) rfl rfl) i1 rfl ?_
  refine x_aload0 69 dX8_record_68 rfl ?_
  refine x_getR cf8 0 72 hw dX8_record_69 rfl wd13 (fun _ => s_x0) (by decide) (by decide) rfl ?_
  exact x_callV 75 (gr h (gr h x0 2) (Int32.toNatClampNeg (gi h x0 3))) [.ref (gr h x0 0)] [] dX8_record_72 rfl lk_5_copyFrom ⟨wd96, wd97, wd98⟩ ⟨by decide, by decide⟩ (recvO cf5 (SH.elt hw (SH.fld hw (fun _ => s_x0) 2 (Nat.le_of_ble_eq_true rfl) rfl rfl) i1 (fun _ => rfl) (fun _ => rfl))) rfl rfl (Nat.le_of_ble_eq_true rfl) (Nat.le_of_ble_eq_true rfl) (by decide) (by decide) kk
set_option maxRecDepth 20000 in
theorem B8_record_75 {ω : Om} {h : AH} {Q : Option Value → AH → Prop} {x0 : Nat} {u1 : Option Value} {u2 : Option Value} (hw : ω.2.2.2.1 = true) (s_x0 : gs h x0 = some (8, 8)) (hq : Q none (si h x0 3 ((gi h x0 3) + (nI 1)))) : Ex ω M8_record 75 [some (.ref x0), u1, u2] [] h 0 0 Q := by
  refine x_dr1 ?_
  refine x_dr2 ?_
  refine x_aload0 76 dX8_record_75 rfl ?_
  refine x_dup 77 dX8_record_76 rfl rfl ?_
  refine x_getI cf8 3 80 dX8_record_77 rfl wd16 (fun _ => s_x0) (by decide) rfl ?_
  refine x_iconst (nI 1) 81 dX8_record_80 rfl rfl ?_
  refine x_iadd 82 dX8_record_81 rfl ?_
  refine x_putI cf8 3 85 dX8_record_82 rfl wd16 (fun _ => s_x0) (by decide) rfl rfl ?_
  exact x_vret dX8_record_85 rfl (Nat.zero_le _) (Nat.zero_le _) hq
