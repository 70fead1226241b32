/-! block laws (written by a program: wip/p29/gen_all.py) -/
set_option maxRecDepth 20000 in
theorem BL_number_0 {ω : Om} {h : AH} {Q : Option Value → AH → Prop} {x0 : Nat} {x1 : Int32} {u2 : Option Value} (hw : ω.2.2.2.1 = true) (kt : x1 ≤ (nI 99) → Ex ω ML_number 11 [some (.ref x0), some (.int x1), none] [] h 0 0 Q) (kf : ¬ x1 ≤ (nI 99) → Ex ω ML_number 6 [some (.ref x0), some (.int x1), none] [] h 0 0 Q) : Ex ω ML_number 0 [some (.ref x0), some (.int x1), u2] [] h 0 0 Q := by
  refine x_dr2 ?_
  refine x_iload1 1 dL_number_0 rfl ?_
  refine x_bipush (nI 99) 3 dL_number_1 rfl rfl ?_
  exact x_icmp_le 6 11 dL_number_3 rfl (by decide) kt kf
set_option maxRecDepth 20000 in
theorem BL_number_6 {ω : Om} {h : AH} {Q : Option Value → AH → Prop} {x0 : Nat} {x1 : Int32} {u2 : Option Value} (hw : ω.2.2.2.1 = true) (kt : Ex ω ML_number 23 [some (.ref x0), some (.int x1), none] [.int (nI 100)] h 0 0 Q) : Ex ω ML_number 6 [some (.ref x0), some (.int x1), u2] [] h 0 0 Q := by
  refine x_dr2 ?_
  refine x_bipush (nI 100) 8 dL_number_6 rfl rfl ?_
  exact x_goto 23 dL_number_8 (by decide) kt
set_option maxRecDepth 20000 in
theorem BL_number_11 {ω : Om} {h : AH} {Q : Option Value → AH → Prop} {x0 : Nat} {x1 : Int32} {u2 : Option Value} (hw : ω.2.2.2.1 = true) (kt : x1 ≤ (nI 9) → Ex ω ML_number 22 [some (.ref x0), some (.int x1), none] [] h 0 0 Q) (kf : ¬ x1 ≤ (nI 9) → Ex ω ML_number 17 [some (.ref x0), some (.int x1), none] [] h 0 0 Q) : Ex ω ML_number 11 [some (.ref x0), some (.int x1), u2] [] h 0 0 Q := by
  refine x_dr2 ?_
  refine x_iload1 12 dL_number_11 rfl ?_
  refine x_bipush (nI 9) 14 dL_number_12 rfl rfl ?_
  exact x_icmp_le 17 22 dL_number_14 rfl (by decide) kt kf
set_option maxRecDepth 20000 in
theorem BL_number_17 {ω : Om} {h : AH} {Q : Option Value → AH → Prop} {x0 : Nat} {x1 : Int32} {u2 : Option Value} (hw : ω.2.2.2.1 = true) (kt : Ex ω ML_number 23 [some (.ref x0), some (.int x1), none] [.int (nI 10)] h 0 0 Q) : Ex ω ML_number 17 [some (.ref x0), some (.int x1), u2] [] h 0 0 Q := by
  refine x_dr2 ?_
  refine x_bipush (nI 10) 19 dL_number_17 rfl rfl ?_
  exact x_goto 23 dL_number_19 (by decide) kt
set_option maxRecDepth 20000 in
theorem BL_number_22 {ω : Om} {h : AH} {Q : Option Value → AH → Prop} {x0 : Nat} {x1 : Int32} {u2 : Option Value} (hw : ω.2.2.2.1 = true) (kf : Ex ω ML_number 23 [some (.ref x0), some (.int x1), none] [.int (nI 1)] h 0 0 Q) : Ex ω ML_number 22 [some (.ref x0), some (.int x1), u2] [] h 0 0 Q := by
  refine x_dr2 ?_
  refine x_iconst (nI 1) 23 dL_number_22 rfl rfl ?_
  exact kf
set_option maxRecDepth 20000 in
theorem BL_number_23 {ω : Om} {h : AH} {Q : Option Value → AH → Prop} {x0 : Nat} {x1 : Int32} {u2 : Option Value} {y0 : Int32} (hw : ω.2.2.2.1 = true) (kf : Ex ω ML_number 24 [some (.ref x0), some (.int x1), some (.int y0)] [] h 0 0 Q) : Ex ω ML_number 23 [some (.ref x0), some (.int x1), u2] [.int y0] h 0 0 Q := by
  refine x_dr2 ?_
  refine x_istore2 24 dL_number_23 rfl (by decide) rfl ?_
  exact kf
set_option maxRecDepth 20000 in
theorem BL_number_24 {ω : Om} {h : AH} {Q : Option Value → AH → Prop} {x0 : Nat} {x1 : Int32} {x2 : Int32} (hw : ω.2.2.2.1 = true) (kt : x2 ≤ 0 → Ex ω ML_number 50 [some (.ref x0), some (.int x1), some (.int x2)] [] h 0 0 Q) (kf : ¬ x2 ≤ 0 → Ex ω ML_number 28 [some (.ref x0), some (.int x1), some (.int x2)] [] h 0 0 Q) : Ex ω ML_number 24 [some (.ref x0), some (.int x1), some (.int x2)] [] h 0 0 Q := by
  refine x_iload2 25 dL_number_24 rfl ?_
  exact x_if_le 28 50 dL_number_25 rfl (by decide) kt kf
set_option maxRecDepth 20000 in
theorem BL_number_28 {ω : Om} {h : AH} {Q : Option Value → AH → Prop} {x0 : Nat} {x1 : Int32} {x2 : Int32} (hw : ω.2.2.2.1 = true) (s_x0 : gs h x0 = some (8, 8)) (z1 : ¬ x2 = (0 : Int32)) (kk : Ex ω M8_type 0 [some (.ref x0), some (.int ((nI 48) + ((x1 / x2) - (x1 / x2) / (nI 10) * (nI 10))))] [] h 0 0 (fun v h' => Ex ω ML_number 41 [some (.ref x0), some (.int x1), some (.int x2)] (v.toList ++ []) h' 0 0 Q)) : Ex ω ML_number 28 [some (.ref x0), some (.int x1), some (.int x2)] [] h 0 0 Q := by
  refine x_aload0 29 dL_number_28 rfl ?_
  refine x_bipush (nI 48) 31 dL_number_29 rfl rfl ?_
  refine x_iload1 32 dL_number_31 rfl ?_
  refine x_iload2 33 dL_number_32 rfl ?_
  refine x_idiv 34 dL_number_33 rfl z1 ?_
  refine x_bipush (nI 10) 36 dL_number_34 rfl rfl ?_
  refine x_irem 37 dL_number_36 rfl (by decide) ?_
  refine x_iadd 38 dL_number_37 rfl ?_
  exact x_callV 41 x0 [.int ((nI 48) + ((x1 / x2) - (x1 / x2) / (nI 10) * (nI 10)))] [] dL_number_38 rfl lk_8_type ⟨wd317, wd318, wd319⟩ ⟨by decide, by decide⟩ (recvO cf8 (fun _ => s_x0)) rfl rfl (Nat.le_of_ble_eq_true rfl) (Nat.le_of_ble_eq_true rfl) (by decide) (by decide) kk
set_option maxRecDepth 20000 in
theorem BL_number_41 {ω : Om} {h : AH} {Q : Option Value → AH → Prop} {x0 : Nat} {x1 : Int32} {x2 : Int32} {y0 : Int32} (hw : ω.2.2.2.1 = true) (kt : Ex ω ML_number 24 [some (.ref x0), some (.int x1), some (.int (x2 / (nI 10)))] [] h 0 0 Q) : Ex ω ML_number 41 [some (.ref x0), some (.int x1), some (.int x2)] [.int y0] h 0 0 Q := by
  refine x_pop 42 dL_number_41 rfl rfl ?_
  refine x_iload2 43 dL_number_42 rfl ?_
  refine x_bipush (nI 10) 45 dL_number_43 rfl rfl ?_
  refine x_idiv 46 dL_number_45 rfl (by decide) ?_
  refine x_istore2 47 dL_number_46 rfl (by decide) rfl ?_
  exact x_goto 24 dL_number_47 (by decide) kt
set_option maxRecDepth 20000 in
theorem BL_number_50 {ω : Om} {h : AH} {Q : Option Value → AH → Prop} {u0 : Option Value} {u1 : Option Value} {u2 : Option Value} (hw : ω.2.2.2.1 = true) (hq : Q none h) : Ex ω ML_number 50 [u0, u1, u2] [] h 0 0 Q := by
  refine x_dr0 ?_
  refine x_dr1 ?_
  refine x_dr2 ?_
  exact x_vret dL_number_50 rfl (Nat.zero_le _) (Nat.zero_le _) hq
set_option maxRecDepth 20000 in
theorem BL_name_0 {ω : Om} {h : AH} {Q : Option Value → AH → Prop} {x0 : Nat} {x1 : Int32} {u2 : Option Value} {u3 : Option Value} {u4 : Option Value} {u5 : Option Value} (hw : ω.2.2.2.1 = true) (kt : ¬ x1 = 0 → Ex ω ML_name 10 [some (.ref x0), some (.int x1), none, none, none, none] [] h 0 0 Q) (kf : x1 = 0 → Ex ω ML_name 4 [some (.ref x0), some (.int x1), none, none, none, none] [] h 0 0 Q) : Ex ω ML_name 0 [some (.ref x0), some (.int x1), u2, u3, u4, u5] [] h 0 0 Q := by
  refine x_dr2 ?_
  refine x_dr3 ?_
  refine x_dr4 ?_
  refine x_dr5 ?_
  refine x_iload1 1 dL_name_0 rfl ?_
  exact x_if_ne 4 10 dL_name_1 rfl (by decide) kt kf
set_option maxRecDepth 20000 in
theorem BL_name_4 {ω : Om} {h : AH} {Q : Option Value → AH → Prop} {x0 : Nat} {u1 : Option Value} {u2 : Option Value} {u3 : Option Value} {u4 : Option Value} {u5 : Option Value} (hw : ω.2.2.2.1 = true) (kt : Ex ω ML_name 46 [some (.ref x0), none, none, none, none, none] [.long ((1937006969 : Int64))] h 0 0 Q) : Ex ω ML_name 4 [some (.ref x0), u1, u2, u3, u4, u5] [] h 0 0 Q := by
  refine x_dr1 ?_
  refine x_dr2 ?_
  refine x_dr3 ?_
  refine x_dr4 ?_
  refine x_dr5 ?_
  refine x_ldc2 1937006969 7 dL_name_4 rfl wd328 ?_
  exact x_goto 46 dL_name_7 (by decide) kt
set_option maxRecDepth 20000 in
theorem BL_name_10 {ω : Om} {h : AH} {Q : Option Value → AH → Prop} {x0 : Nat} {x1 : Int32} {u2 : Option Value} {u3 : Option Value} {u4 : Option Value} {u5 : Option Value} (hw : ω.2.2.2.1 = true) (kt : ¬ x1 = (nI 1) → Ex ω ML_name 21 [some (.ref x0), some (.int x1), none, none, none, none] [] h 0 0 Q) (kf : x1 = (nI 1) → Ex ω ML_name 15 [some (.ref x0), some (.int x1), none, none, none, none] [] h 0 0 Q) : Ex ω ML_name 10 [some (.ref x0), some (.int x1), u2, u3, u4, u5] [] h 0 0 Q := by
  refine x_dr2 ?_
  refine x_dr3 ?_
  refine x_dr4 ?_
  refine x_dr5 ?_
  refine x_iload1 11 dL_name_10 rfl ?_
  refine x_iconst (nI 1) 12 dL_name_11 rfl rfl ?_
  exact x_icmp_ne 15 21 dL_name_12 rfl (by decide) kt kf
set_option maxRecDepth 20000 in
theorem BL_name_15 {ω : Om} {h : AH} {Q : Option Value → AH → Prop} {x0 : Nat} {u1 : Option Value} {u2 : Option Value} {u3 : Option Value} {u4 : Option Value} {u5 : Option Value} (hw : ω.2.2.2.1 = true) (kt : Ex ω ML_name 46 [some (.ref x0), none, none, none, none, none] [.long ((30064 : Int64))] h 0 0 Q) : Ex ω ML_name 15 [some (.ref x0), u1, u2, u3, u4, u5] [] h 0 0 Q := by
  refine x_dr1 ?_
  refine x_dr2 ?_
  refine x_dr3 ?_
  refine x_dr4 ?_
  refine x_dr5 ?_
  refine x_ldc2 30064 18 dL_name_15 rfl wd329 ?_
  exact x_goto 46 dL_name_18 (by decide) kt
set_option maxRecDepth 20000 in
theorem BL_name_21 {ω : Om} {h : AH} {Q : Option Value → AH → Prop} {x0 : Nat} {x1 : Int32} {u2 : Option Value} {u3 : Option Value} {u4 : Option Value} {u5 : Option Value} (hw : ω.2.2.2.1 = true) (kt : ¬ x1 = (nI 2) → Ex ω ML_name 32 [some (.ref x0), some (.int x1), none, none, none, none] [] h 0 0 Q) (kf : x1 = (nI 2) → Ex ω ML_name 26 [some (.ref x0), some (.int x1), none, none, none, none] [] h 0 0 Q) : Ex ω ML_name 21 [some (.ref x0), some (.int x1), u2, u3, u4, u5] [] h 0 0 Q := by
  refine x_dr2 ?_
  refine x_dr3 ?_
  refine x_dr4 ?_
  refine x_dr5 ?_
  refine x_iload1 22 dL_name_21 rfl ?_
  refine x_iconst (nI 2) 23 dL_name_22 rfl rfl ?_
  exact x_icmp_ne 26 32 dL_name_23 rfl (by decide) kt kf
set_option maxRecDepth 20000 in
theorem BL_name_26 {ω : Om} {h : AH} {Q : Option Value → AH → Prop} {x0 : Nat} {u1 : Option Value} {u2 : Option Value} {u3 : Option Value} {u4 : Option Value} {u5 : Option Value} (hw : ω.2.2.2.1 = true) (kt : Ex ω ML_name 46 [some (.ref x0), none, none, none, none, none] [.long ((1685026670 : Int64))] h 0 0 Q) : Ex ω ML_name 26 [some (.ref x0), u1, u2, u3, u4, u5] [] h 0 0 Q := by
  refine x_dr1 ?_
  refine x_dr2 ?_
  refine x_dr3 ?_
  refine x_dr4 ?_
  refine x_dr5 ?_
  refine x_ldc2 1685026670 29 dL_name_26 rfl wd330 ?_
  exact x_goto 46 dL_name_29 (by decide) kt
set_option maxRecDepth 20000 in
theorem BL_name_32 {ω : Om} {h : AH} {Q : Option Value → AH → Prop} {x0 : Nat} {x1 : Int32} {u2 : Option Value} {u3 : Option Value} {u4 : Option Value} {u5 : Option Value} (hw : ω.2.2.2.1 = true) (kt : ¬ x1 = (nI 3) → Ex ω ML_name 43 [some (.ref x0), some (.int x1), none, none, none, none] [] h 0 0 Q) (kf : x1 = (nI 3) → Ex ω ML_name 37 [some (.ref x0), some (.int x1), none, none, none, none] [] h 0 0 Q) : Ex ω ML_name 32 [some (.ref x0), some (.int x1), u2, u3, u4, u5] [] h 0 0 Q := by
  refine x_dr2 ?_
  refine x_dr3 ?_
  refine x_dr4 ?_
  refine x_dr5 ?_
  refine x_iload1 33 dL_name_32 rfl ?_
  refine x_iconst (nI 3) 34 dL_name_33 rfl rfl ?_
  exact x_icmp_ne 37 43 dL_name_34 rfl (by decide) kt kf
set_option maxRecDepth 20000 in
theorem BL_name_37 {ω : Om} {h : AH} {Q : Option Value → AH → Prop} {x0 : Nat} {u1 : Option Value} {u2 : Option Value} {u3 : Option Value} {u4 : Option Value} {u5 : Option Value} (hw : ω.2.2.2.1 = true) (kt : Ex ω ML_name 46 [some (.ref x0), none, none, none, none, none] [.long ((32762622355533678 : Int64))] h 0 0 Q) : Ex ω ML_name 37 [some (.ref x0), u1, u2, u3, u4, u5] [] h 0 0 Q := by
  refine x_dr1 ?_
  refine x_dr2 ?_
  refine x_dr3 ?_
  refine x_dr4 ?_
  refine x_dr5 ?_
  refine x_ldc2 32762622355533678 40 dL_name_37 rfl wd331 ?_
  exact x_goto 46 dL_name_40 (by decide) kt
set_option maxRecDepth 20000 in
theorem BL_name_43 {ω : Om} {h : AH} {Q : Option Value → AH → Prop} {x0 : Nat} {u1 : Option Value} {u2 : Option Value} {u3 : Option Value} {u4 : Option Value} {u5 : Option Value} (hw : ω.2.2.2.1 = true) (kf : Ex ω ML_name 46 [some (.ref x0), none, none, none, none, none] [.long ((32497656998945640 : Int64))] h 0 0 Q) : Ex ω ML_name 43 [some (.ref x0), u1, u2, u3, u4, u5] [] h 0 0 Q := by
  refine x_dr1 ?_
  refine x_dr2 ?_
  refine x_dr3 ?_
  refine x_dr4 ?_
  refine x_dr5 ?_
  refine x_ldc2 32497656998945640 46 dL_name_43 rfl wd332 ?_
  exact kf
set_option maxRecDepth 20000 in
theorem BL_name_46 {ω : Om} {h : AH} {Q : Option Value → AH → Prop} {x0 : Nat} {u1 : Option Value} {u2 : Option Value} {u3 : Option Value} {u4 : Option Value} {u5 : Option Value} {y0 : Int64} (hw : ω.2.2.2.1 = true) (kf : Ex ω ML_name 51 [some (.ref x0), none, some (.long y0), none, some (.int (nI 48)), none] [] h 0 0 Q) : Ex ω ML_name 46 [some (.ref x0), u1, u2, u3, u4, u5] [.long y0] h 0 0 Q := by
  refine x_dr1 ?_
  refine x_dr2 ?_
  refine x_dr3 ?_
  refine x_dr4 ?_
  refine x_dr5 ?_
  refine x_lstore2 47 dL_name_46 rfl (by decide) rfl ?_
  refine x_bipush (nI 48) 49 dL_name_47 rfl rfl ?_
  refine x_istore4 51 dL_name_49 rfl (by decide) rfl ?_
  exact kf
set_option maxRecDepth 20000 in
theorem BL_name_51 {ω : Om} {h : AH} {Q : Option Value → AH → Prop} {x0 : Nat} {u1 : Option Value} {x2 : Int64} {x4 : Int32} {u5 : Option Value} (hw : ω.2.2.2.1 = true) (kt : x4 < 0 → Ex ω ML_name 85 [some (.ref x0), none, some (.long x2), none, some (.int x4), none] [] h 0 0 Q) (kf : ¬ x4 < 0 → Ex ω ML_name 56 [some (.ref x0), none, some (.long x2), none, some (.int x4), none] [] h 0 0 Q) : Ex ω ML_name 51 [some (.ref x0), u1, some (.long x2), none, some (.int x4), u5] [] h 0 0 Q := by
  refine x_dr1 ?_
  refine x_dr5 ?_
  refine x_iload4 53 dL_name_51 rfl ?_
  exact x_if_lt 56 85 dL_name_53 rfl (by decide) kt kf
set_option maxRecDepth 20000 in
theorem BL_name_56 {ω : Om} {h : AH} {Q : Option Value → AH → Prop} {x0 : Nat} {u1 : Option Value} {x2 : Int64} {x4 : Int32} {u5 : Option Value} (hw : ω.2.2.2.1 = true) (kt : (Int64.toInt32 ((x2 >>> (Int32.toInt64 x4 &&& 63)) &&& ((255 : Int64)))) ≤ 0 → Ex ω ML_name 79 [some (.ref x0), none, some (.long x2), none, some (.int x4), some (.int (Int64.toInt32 ((x2 >>> (Int32.toInt64 x4 &&& 63)) &&& ((255 : Int64)))))] [] h 0 0 Q) (kf : ¬ (Int64.toInt32 ((x2 >>> (Int32.toInt64 x4 &&& 63)) &&& ((255 : Int64)))) ≤ 0 → Ex ω ML_name 72 [some (.ref x0), none, some (.long x2), none, some (.int x4), some (.int (Int64.toInt32 ((x2 >>> (Int32.toInt64 x4 &&& 63)) &&& ((255 : Int64)))))] [] h 0 0 Q) : Ex ω ML_name 56 [some (.ref x0), u1, some (.long x2), none, some (.int x4), u5] [] h 0 0 Q := by
  refine x_dr1 ?_
  refine x_dr5 ?_
  refine x_lload2 57 dL_name_56 rfl ?_
  refine x_iload4 59 dL_name_57 rfl ?_
  refine x_lshr 60 dL_name_59 rfl ?_
  refine x_ldc2 255 63 dL_name_60 rfl wd333 ?_
  refine x_land 64 dL_name_63 rfl ?_
  refine x_l2i 65 dL_name_64 rfl ?_
  refine x_istore5 67 dL_name_65 rfl (by decide) rfl ?_
  refine x_iload5 69 dL_name_67 rfl ?_
  exact x_if_le 72 79 dL_name_69 rfl (by decide) kt kf
set_option maxRecDepth 20000 in
theorem BL_name_72 {ω : Om} {h : AH} {Q : Option Value → AH → Prop} {x0 : Nat} {u1 : Option Value} {x2 : Int64} {x4 : Int32} {x5 : Int32} (hw : ω.2.2.2.1 = true) (s_x0 : gs h x0 = some (8, 8)) (kk : Ex ω M8_type 0 [some (.ref x0), some (.int x5)] [] h 0 0 (fun v h' => Ex ω ML_name 78 [some (.ref x0), none, some (.long x2), none, some (.int x4), some (.int x5)] (v.toList ++ []) h' 0 0 Q)) : Ex ω ML_name 72 [some (.ref x0), u1, some (.long x2), none, some (.int x4), some (.int x5)] [] h 0 0 Q := by
  refine x_dr1 ?_
  refine x_aload0 73 dL_name_72 rfl ?_
  refine x_iload5 75 dL_name_73 rfl ?_
  exact x_callV 78 x0 [.int x5] [] dL_name_75 rfl lk_8_type ⟨wd317, wd318, wd319⟩ ⟨by decide, by decide⟩ (recvO cf8 (fun _ => s_x0)) rfl rfl (Nat.le_of_ble_eq_true rfl) (Nat.le_of_ble_eq_true rfl) (by decide) (by decide) kk
set_option maxRecDepth 20000 in
theorem BL_name_78 {ω : Om} {h : AH} {Q : Option Value → AH → Prop} {x0 : Nat} {u1 : Option Value} {x2 : Int64} {x4 : Int32} {u5 : Option Value} {y0 : Int32} (hw : ω.2.2.2.1 = true) (kf : Ex ω ML_name 79 [some (.ref x0), none, some (.long x2), none, some (.int x4), none] [] h 0 0 Q) : Ex ω ML_name 78 [some (.ref x0), u1, some (.long x2), none, some (.int x4), u5] [.int y0] h 0 0 Q := by
  refine x_dr1 ?_
  refine x_dr5 ?_
  refine x_pop 79 dL_name_78 rfl rfl ?_
  exact kf
set_option maxRecDepth 20000 in
theorem BL_name_79 {ω : Om} {h : AH} {Q : Option Value → AH → Prop} {x0 : Nat} {u1 : Option Value} {x2 : Int64} {x4 : Int32} {u5 : Option Value} (hw : ω.2.2.2.1 = true) (kt : Ex ω ML_name 51 [some (.ref x0), none, some (.long x2), none, some (.int (x4 + ((-8)))), none] [] h 0 0 Q) : Ex ω ML_name 79 [some (.ref x0), u1, some (.long x2), none, some (.int x4), u5] [] h 0 0 Q := by
  refine x_dr1 ?_
  refine x_dr5 ?_
  refine x_iinc4 (x4 + ((-8))) 82 dL_name_79 rfl (by decide) rfl rfl ?_
  exact x_goto 51 dL_name_82 (by decide) kt
set_option maxRecDepth 20000 in
theorem BL_name_85 {ω : Om} {h : AH} {Q : Option Value → AH → Prop} {x0 : Nat} {u1 : Option Value} {u2 : Option Value} {u3 : Option Value} {u4 : Option Value} {u5 : Option Value} (hw : ω.2.2.2.1 = true) (s_x0 : gs h x0 = some (8, 8)) (kk : Ex ω M8_type 0 [some (.ref x0), some (.int (nI 32))] [] h 0 0 (fun v h' => Ex ω ML_name 91 [some (.ref x0), none, none, none, none, none] (v.toList ++ []) h' 0 0 Q)) : Ex ω ML_name 85 [some (.ref x0), u1, u2, u3, u4, u5] [] h 0 0 Q := by
  refine x_dr1 ?_
  refine x_dr2 ?_
  refine x_dr3 ?_
  refine x_dr4 ?_
  refine x_dr5 ?_
  refine x_aload0 86 dL_name_85 rfl ?_
  refine x_bipush (nI 32) 88 dL_name_86 rfl rfl ?_
  exact x_callV 91 x0 [.int (nI 32)] [] dL_name_88 rfl lk_8_type ⟨wd317, wd318, wd319⟩ ⟨by decide, by decide⟩ (recvO cf8 (fun _ => s_x0)) rfl rfl (Nat.le_of_ble_eq_true rfl) (Nat.le_of_ble_eq_true rfl) (by decide) (by decide) kk
set_option maxRecDepth 20000 in
theorem BL_name_91 {ω : Om} {h : AH} {Q : Option Value → AH → Prop} {u0 : Option Value} {u1 : Option Value} {u2 : Option Value} {u3 : Option Value} {u4 : Option Value} {u5 : Option Value} {y0 : Int32} (hw : ω.2.2.2.1 = true) (hq : Q none h) : Ex ω ML_name 91 [u0, u1, u2, u3, u4, u5] [.int y0] h 0 0 Q := by
  refine x_dr0 ?_
  refine x_dr1 ?_
  refine x_dr2 ?_
  refine x_dr3 ?_
  refine x_dr4 ?_
  refine x_dr5 ?_
  refine x_pop 92 dL_name_91 rfl rfl ?_
  exact x_vret dL_name_92 rfl (Nat.zero_le _) (Nat.zero_le _) hq
set_option maxRecDepth 20000 in
theorem BL_programs_0 {ω : Om} {h : AH} {Q : Option Value → AH → Prop} {x0 : Nat} {x1 : Int32} {x2 : Int32} {u3 : Option Value} {u4 : Option Value} {u5 : Option Value} {u6 : Option Value} {u7 : Option Value} (hw : ω.2.2.2.1 = true) (s_x0 : gs h x0 = some (8, 8)) (z1 : ¬ x2 = (0 : Int32)) (kk : Ex ω M8_clearText 0 [some (.ref x0), none] [] h 0 0 (fun v h' => Ex ω ML_programs 13 [some (.ref x0), some (.int x1), some (.int x2), some (.int x1), some (.int ((nI 1) + (x1 - x1 / x2 * x2))), none, none, none] (v.toList ++ []) h' 0 0 Q)) : Ex ω ML_programs 0 [some (.ref x0), some (.int x1), some (.int x2), u3, u4, u5, u6, u7] [] h 0 0 Q := by
  refine x_dr3 ?_
  refine x_dr4 ?_
  refine x_dr5 ?_
  refine x_dr6 ?_
  refine x_dr7 ?_
  refine x_iload1 1 dL_programs_0 rfl ?_
  refine x_istore3 2 dL_programs_1 rfl (by decide) rfl ?_
  refine x_iconst (nI 1) 3 dL_programs_2 rfl rfl ?_
  refine x_iload1 4 dL_programs_3 rfl ?_
  refine x_iload2 5 dL_programs_4 rfl ?_
  refine x_irem 6 dL_programs_5 rfl z1 ?_
  refine x_iadd 7 dL_programs_6 rfl ?_
  refine x_istore4 9 dL_programs_7 rfl (by decide) rfl ?_
  refine x_aload0 10 dL_programs_9 rfl ?_
  exact x_callV 13 x0 [] [] dL_programs_10 rfl lk_8_clearText ⟨wd313, wd314, wd315⟩ ⟨by decide, by decide⟩ (recvO cf8 (fun _ => s_x0)) rfl rfl (Nat.le_of_ble_eq_true rfl) (Nat.le_of_ble_eq_true rfl) (by decide) (by decide) kk
set_option maxRecDepth 20000 in
theorem BL_programs_13 {ω : Om} {h : AH} {Q : Option Value → AH → Prop} {x0 : Nat} {u1 : Option Value} {u2 : Option Value} {x3 : Int32} {x4 : Int32} {u5 : Option Value} {u6 : Option Value} {u7 : Option Value} {y0 : Int32} (hw : ω.2.2.2.1 = true) (kf : Ex ω ML_programs 17 [some (.ref x0), none, none, some (.int x3), some (.int x4), some (.int (nI 0)), none, none] [] h 0 0 Q) : Ex ω ML_programs 13 [some (.ref x0), u1, u2, some (.int x3), some (.int x4), u5, u6, u7] [.int y0] h 0 0 Q := by
  refine x_dr1 ?_
  refine x_dr2 ?_
  refine x_dr5 ?_
  refine x_dr6 ?_
  refine x_dr7 ?_
  refine x_pop 14 dL_programs_13 rfl rfl ?_
  refine x_iconst (nI 0) 15 dL_programs_14 rfl rfl ?_
  refine x_istore5 17 dL_programs_15 rfl (by decide) rfl ?_
  exact kf
set_option maxRecDepth 20000 in
theorem BL_programs_17 {ω : Om} {h : AH} {Q : Option Value → AH → Prop} {x0 : Nat} {u1 : Option Value} {u2 : Option Value} {x3 : Int32} {x4 : Int32} {x5 : Int32} {u6 : Option Value} {u7 : Option Value} (hw : ω.2.2.2.1 = true) (kt : x4 ≤ x5 → Ex ω ML_programs 143 [some (.ref x0), none, none, some (.int x3), some (.int x4), some (.int x5), none, none] [] h 0 0 Q) (kf : ¬ x4 ≤ x5 → Ex ω ML_programs 24 [some (.ref x0), none, none, some (.int x3), some (.int x4), some (.int x5), none, none] [] h 0 0 Q) : Ex ω ML_programs 17 [some (.ref x0), u1, u2, some (.int x3), some (.int x4), some (.int x5), u6, u7] [] h 0 0 Q := by
  refine x_dr1 ?_
  refine x_dr2 ?_
  refine x_dr6 ?_
  refine x_dr7 ?_
  refine x_iload5 19 dL_programs_17 rfl ?_
  refine x_iload4 21 dL_programs_19 rfl ?_
  exact x_icmp_ge 24 143 dL_programs_21 rfl (by decide) kt kf
set_option maxRecDepth 20000 in
theorem BL_programs_24 {ω : Om} {h : AH} {Q : Option Value → AH → Prop} {x0 : Nat} {u1 : Option Value} {u2 : Option Value} {x3 : Int32} {x4 : Int32} {x5 : Int32} {u6 : Option Value} {u7 : Option Value} (hw : ω.2.2.2.1 = true) (kt : ¬ (((((x3 * (nI 1103515245)) + (nI 12345)) &&& (nI 2147483647)) >>> ((nI 8) &&& 31)) - ((((x3 * (nI 1103515245)) + (nI 12345)) &&& (nI 2147483647)) >>> ((nI 8) &&& 31)) / (nI 5) * (nI 5)) = 0 → Ex ω ML_programs 61 [some (.ref x0), none, none, some (.int (((x3 * (nI 1103515245)) + (nI 12345)) &&& (nI 2147483647))), some (.int x4), some (.int x5), some (.int (((((x3 * (nI 1103515245)) + (nI 12345)) &&& (nI 2147483647)) >>> ((nI 8) &&& 31)) - ((((x3 * (nI 1103515245)) + (nI 12345)) &&& (nI 2147483647)) >>> ((nI 8) &&& 31)) / (nI 5) * (nI 5))), none] [] h 0 0 Q) (kf : (((((x3 * (nI 1103515245)) + (nI 12345)) &&& (nI 2147483647)) >>> ((nI 8) &&& 31)) - ((((x3 * (nI 1103515245)) + (nI 12345)) &&& (nI 2147483647)) >>> ((nI 8) &&& 31)) / (nI 5) * (nI 5)) = 0 → Ex ω ML_programs 49 [some (.ref x0), none, none, some (.int (((x3 * (nI 1103515245)) + (nI 12345)) &&& (nI 2147483647))), some (.int x4), some (.int x5), some (.int (((((x3 * (nI 1103515245)) + (nI 12345)) &&& (nI 2147483647)) >>> ((nI 8) &&& 31)) - ((((x3 * (nI 1103515245)) + (nI 12345)) &&& (nI 2147483647)) >>> ((nI 8) &&& 31)) / (nI 5) * (nI 5))), none] [] h 0 0 Q) : Ex ω ML_programs 24 [some (.ref x0), u1, u2, some (.int x3), some (.int x4), some (.int x5), u6, u7] [] h 0 0 Q := by
  refine x_dr1 ?_
  refine x_dr2 ?_
  refine x_dr6 ?_
  refine x_dr7 ?_
  refine x_iload3 25 dL_programs_24 rfl ?_
  refine x_ldc (nI 1103515245) 27 dL_programs_25 rfl wd312 ?_
  refine x_imul 28 dL_programs_27 rfl ?_
  refine x_sipush (nI 12345) 31 dL_programs_28 rfl rfl ?_
  refine x_iadd 32 dL_programs_31 rfl ?_
  refine x_ldc (nI 2147483647) 34 dL_programs_32 rfl wd281 ?_
  refine x_iand 35 dL_programs_34 rfl ?_
  refine x_istore3 36 dL_programs_35 rfl (by decide) rfl ?_
  refine x_iload3 37 dL_programs_36 rfl ?_
  refine x_bipush (nI 8) 39 dL_programs_37 rfl rfl ?_
  refine x_ishr 40 dL_programs_39 rfl ?_
  refine x_iconst (nI 5) 41 dL_programs_40 rfl rfl ?_
  refine x_irem 42 dL_programs_41 rfl (by decide) ?_
  refine x_istore6 44 dL_programs_42 rfl (by decide) rfl ?_
  refine x_iload6 46 dL_programs_44 rfl ?_
  exact x_if_ne 49 61 dL_programs_46 rfl (by decide) kt kf
set_option maxRecDepth 20000 in
theorem BL_programs_49 {ω : Om} {h : AH} {Q : Option Value → AH → Prop} {x0 : Nat} {u1 : Option Value} {u2 : Option Value} {x3 : Int32} {x4 : Int32} {x5 : Int32} {x6 : Int32} {u7 : Option Value} (hw : ω.2.2.2.1 = true) (kt : Ex ω ML_programs 104 [some (.ref x0), none, none, some (.int x3), some (.int x4), some (.int x5), some (.int x6), none] [.int ((nI 1) + ((x3 >>> ((nI 12) &&& 31)) - (x3 >>> ((nI 12) &&& 31)) / (nI 6) * (nI 6)))] h 0 0 Q) : Ex ω ML_programs 49 [some (.ref x0), u1, u2, some (.int x3), some (.int x4), some (.int x5), some (.int x6), u7] [] h 0 0 Q := by
  refine x_dr1 ?_
  refine x_dr2 ?_
  refine x_dr7 ?_
  refine x_iconst (nI 1) 50 dL_programs_49 rfl rfl ?_
  refine x_iload3 51 dL_programs_50 rfl ?_
  refine x_bipush (nI 12) 53 dL_programs_51 rfl rfl ?_
  refine x_ishr 54 dL_programs_53 rfl ?_
  refine x_bipush (nI 6) 56 dL_programs_54 rfl rfl ?_
  refine x_irem 57 dL_programs_56 rfl (by decide) ?_
  refine x_iadd 58 dL_programs_57 rfl ?_
  exact x_goto 104 dL_programs_58 (by decide) kt
set_option maxRecDepth 20000 in
theorem BL_programs_61 {ω : Om} {h : AH} {Q : Option Value → AH → Prop} {x0 : Nat} {u1 : Option Value} {u2 : Option Value} {x3 : Int32} {x4 : Int32} {x5 : Int32} {x6 : Int32} {u7 : Option Value} (hw : ω.2.2.2.1 = true) (kt : (nI 3) ≤ x6 → Ex ω ML_programs 79 [some (.ref x0), none, none, some (.int x3), some (.int x4), some (.int x5), some (.int x6), none] [] h 0 0 Q) (kf : ¬ (nI 3) ≤ x6 → Ex ω ML_programs 67 [some (.ref x0), none, none, some (.int x3), some (.int x4), some (.int x5), some (.int x6), none] [] h 0 0 Q) : Ex ω ML_programs 61 [some (.ref x0), u1, u2, some (.int x3), some (.int x4), some (.int x5), some (.int x6), u7] [] h 0 0 Q := by
  refine x_dr1 ?_
  refine x_dr2 ?_
  refine x_dr7 ?_
  refine x_iload6 63 dL_programs_61 rfl ?_
  refine x_iconst (nI 3) 64 dL_programs_63 rfl rfl ?_
  exact x_icmp_ge 67 79 dL_programs_64 rfl (by decide) kt kf
set_option maxRecDepth 20000 in
theorem BL_programs_67 {ω : Om} {h : AH} {Q : Option Value → AH → Prop} {x0 : Nat} {u1 : Option Value} {u2 : Option Value} {x3 : Int32} {x4 : Int32} {x5 : Int32} {x6 : Int32} {u7 : Option Value} (hw : ω.2.2.2.1 = true) (kt : Ex ω ML_programs 104 [some (.ref x0), none, none, some (.int x3), some (.int x4), some (.int x5), some (.int x6), none] [.int ((nI 5) + ((x3 >>> ((nI 12) &&& 31)) - (x3 >>> ((nI 12) &&& 31)) / (nI 60) * (nI 60)))] h 0 0 Q) : Ex ω ML_programs 67 [some (.ref x0), u1, u2, some (.int x3), some (.int x4), some (.int x5), some (.int x6), u7] [] h 0 0 Q := by
  refine x_dr1 ?_
  refine x_dr2 ?_
  refine x_dr7 ?_
  refine x_iconst (nI 5) 68 dL_programs_67 rfl rfl ?_
  refine x_iload3 69 dL_programs_68 rfl ?_
  refine x_bipush (nI 12) 71 dL_programs_69 rfl rfl ?_
  refine x_ishr 72 dL_programs_71 rfl ?_
  refine x_bipush (nI 60) 74 dL_programs_72 rfl rfl ?_
  refine x_irem 75 dL_programs_74 rfl (by decide) ?_
  refine x_iadd 76 dL_programs_75 rfl ?_
  exact x_goto 104 dL_programs_76 (by decide) kt
set_option maxRecDepth 20000 in
theorem BL_programs_79 {ω : Om} {h : AH} {Q : Option Value → AH → Prop} {x0 : Nat} {u1 : Option Value} {u2 : Option Value} {x3 : Int32} {x4 : Int32} {x5 : Int32} {x6 : Int32} {u7 : Option Value} (hw : ω.2.2.2.1 = true) (kt : ¬ x6 = (nI 3) → Ex ω ML_programs 96 [some (.ref x0), none, none, some (.int x3), some (.int x4), some (.int x5), some (.int x6), none] [] h 0 0 Q) (kf : x6 = (nI 3) → Ex ω ML_programs 85 [some (.ref x0), none, none, some (.int x3), some (.int x4), some (.int x5), some (.int x6), none] [] h 0 0 Q) : Ex ω ML_programs 79 [some (.ref x0), u1, u2, some (.int x3), some (.int x4), some (.int x5), some (.int x6), u7] [] h 0 0 Q := by
  refine x_dr1 ?_
  refine x_dr2 ?_
  refine x_dr7 ?_
  refine x_iload6 81 dL_programs_79 rfl ?_
  refine x_iconst (nI 3) 82 dL_programs_81 rfl rfl ?_
  exact x_icmp_ne 85 96 dL_programs_82 rfl (by decide) kt kf
set_option maxRecDepth 20000 in
theorem BL_programs_85 {ω : Om} {h : AH} {Q : Option Value → AH → Prop} {x0 : Nat} {u1 : Option Value} {u2 : Option Value} {x3 : Int32} {x4 : Int32} {x5 : Int32} {x6 : Int32} {u7 : Option Value} (hw : ω.2.2.2.1 = true) (kt : Ex ω ML_programs 104 [some (.ref x0), none, none, some (.int x3), some (.int x4), some (.int x5), some (.int x6), none] [.int ((x3 >>> ((nI 12) &&& 31)) - (x3 >>> ((nI 12) &&& 31)) / (nI 200) * (nI 200))] h 0 0 Q) : Ex ω ML_programs 85 [some (.ref x0), u1, u2, some (.int x3), some (.int x4), some (.int x5), some (.int x6), u7] [] h 0 0 Q := by
  refine x_dr1 ?_
  refine x_dr2 ?_
  refine x_dr7 ?_
  refine x_iload3 86 dL_programs_85 rfl ?_
  refine x_bipush (nI 12) 88 dL_programs_86 rfl rfl ?_
  refine x_ishr 89 dL_programs_88 rfl ?_
  refine x_sipush (nI 200) 92 dL_programs_89 rfl rfl ?_
  refine x_irem 93 dL_programs_92 rfl (by decide) ?_
  exact x_goto 104 dL_programs_93 (by decide) kt
set_option maxRecDepth 20000 in
theorem BL_programs_96 {ω : Om} {h : AH} {Q : Option Value → AH → Prop} {x0 : Nat} {u1 : Option Value} {u2 : Option Value} {x3 : Int32} {x4 : Int32} {x5 : Int32} {x6 : Int32} {u7 : Option Value} (hw : ω.2.2.2.1 = true) (kf : Ex ω ML_programs 104 [some (.ref x0), none, none, some (.int x3), some (.int x4), some (.int x5), some (.int x6), none] [.int ((x3 >>> ((nI 12) &&& 31)) - (x3 >>> ((nI 12) &&& 31)) / (nI 301) * (nI 301))] h 0 0 Q) : Ex ω ML_programs 96 [some (.ref x0), u1, u2, some (.int x3), some (.int x4), some (.int x5), some (.int x6), u7] [] h 0 0 Q := by
  refine x_dr1 ?_
  refine x_dr2 ?_
  refine x_dr7 ?_
  refine x_iload3 97 dL_programs_96 rfl ?_
  refine x_bipush (nI 12) 99 dL_programs_97 rfl rfl ?_
  refine x_ishr 100 dL_programs_99 rfl ?_
  refine x_sipush (nI 301) 103 dL_programs_100 rfl rfl ?_
  refine x_irem 104 dL_programs_103 rfl (by decide) ?_
  exact kf
set_option maxRecDepth 20000 in
theorem BL_programs_104 {ω : Om} {h : AH} {Q : Option Value → AH → Prop} {x0 : Nat} {u1 : Option Value} {u2 : Option Value} {x3 : Int32} {x4 : Int32} {x5 : Int32} {x6 : Int32} {u7 : Option Value} {y0 : Int32} (hw : ω.2.2.2.1 = true) (kt : x5 ≤ 0 → Ex ω ML_programs 125 [some (.ref x0), none, none, some (.int x3), some (.int x4), some (.int x5), some (.int x6), some (.int y0)] [] h 0 0 Q) (kf : ¬ x5 ≤ 0 → Ex ω ML_programs 111 [some (.ref x0), none, none, some (.int x3), some (.int x4), some (.int x5), some (.int x6), some (.int y0)] [] h 0 0 Q) : Ex ω ML_programs 104 [some (.ref x0), u1, u2, some (.int x3), some (.int x4), some (.int x5), some (.int x6), u7] [.int y0] h 0 0 Q := by
  refine x_dr1 ?_
  refine x_dr2 ?_
  refine x_dr7 ?_
  refine x_istore7 106 dL_programs_104 rfl (by decide) rfl ?_
  refine x_iload5 108 dL_programs_106 rfl ?_
  exact x_if_le 111 125 dL_programs_108 rfl (by decide) kt kf
set_option maxRecDepth 20000 in
theorem BL_programs_111 {ω : Om} {h : AH} {Q : Option Value → AH → Prop} {x0 : Nat} {u1 : Option Value} {u2 : Option Value} {x3 : Int32} {x4 : Int32} {x5 : Int32} {x6 : Int32} {x7 : Int32} (hw : ω.2.2.2.1 = true) (s_x0 : gs h x0 = some (8, 8)) (kk : Ex ω M8_type 0 [some (.ref x0), some (.int (nI 44))] [] h 0 0 (fun v h' => Ex ω ML_programs 117 [some (.ref x0), none, none, some (.int x3), some (.int x4), some (.int x5), some (.int x6), some (.int x7)] (v.toList ++ []) h' 0 0 Q)) : Ex ω ML_programs 111 [some (.ref x0), u1, u2, some (.int x3), some (.int x4), some (.int x5), some (.int x6), some (.int x7)] [] h 0 0 Q := by
  refine x_dr1 ?_
  refine x_dr2 ?_
  refine x_aload0 112 dL_programs_111 rfl ?_
  refine x_bipush (nI 44) 114 dL_programs_112 rfl rfl ?_
  exact x_callV 117 x0 [.int (nI 44)] [] dL_programs_114 rfl lk_8_type ⟨wd317, wd318, wd319⟩ ⟨by decide, by decide⟩ (recvO cf8 (fun _ => s_x0)) rfl rfl (Nat.le_of_ble_eq_true rfl) (Nat.le_of_ble_eq_true rfl) (by decide) (by decide) kk
set_option maxRecDepth 20000 in
theorem BL_programs_117 {ω : Om} {h : AH} {Q : Option Value → AH → Prop} {x0 : Nat} {u1 : Option Value} {u2 : Option Value} {x3 : Int32} {x4 : Int32} {x5 : Int32} {x6 : Int32} {x7 : Int32} {y0 : Int32} (hw : ω.2.2.2.1 = true) (s_x0 : gs h x0 = some (8, 8)) (kk : Ex ω M8_type 0 [some (.ref x0), some (.int (nI 32))] [] h 0 0 (fun v h' => Ex ω ML_programs 124 [some (.ref x0), none, none, some (.int x3), some (.int x4), some (.int x5), some (.int x6), some (.int x7)] (v.toList ++ []) h' 0 0 Q)) : Ex ω ML_programs 117 [some (.ref x0), u1, u2, some (.int x3), some (.int x4), some (.int x5), some (.int x6), some (.int x7)] [.int y0] h 0 0 Q := by
  refine x_dr1 ?_
  refine x_dr2 ?_
  refine x_pop 118 dL_programs_117 rfl rfl ?_
  refine x_aload0 119 dL_programs_118 rfl ?_
  refine x_bipush (nI 32) 121 dL_programs_119 rfl rfl ?_
  exact x_callV 124 x0 [.int (nI 32)] [] dL_programs_121 rfl lk_8_type ⟨wd317, wd318, wd319⟩ ⟨by decide, by decide⟩ (recvO cf8 (fun _ => s_x0)) rfl rfl (Nat.le_of_ble_eq_true rfl) (Nat.le_of_ble_eq_true rfl) (by decide) (by decide) kk
set_option maxRecDepth 20000 in
theorem BL_programs_124 {ω : Om} {h : AH} {Q : Option Value → AH → Prop} {x0 : Nat} {u1 : Option Value} {u2 : Option Value} {x3 : Int32} {x4 : Int32} {x5 : Int32} {x6 : Int32} {x7 : Int32} {y0 : Int32} (hw : ω.2.2.2.1 = true) (kf : Ex ω ML_programs 125 [some (.ref x0), none, none, some (.int x3), some (.int x4), some (.int x5), some (.int x6), some (.int x7)] [] h 0 0 Q) : Ex ω ML_programs 124 [some (.ref x0), u1, u2, some (.int x3), some (.int x4), some (.int x5), some (.int x6), some (.int x7)] [.int y0] h 0 0 Q := by
  refine x_dr1 ?_
  refine x_dr2 ?_
  refine x_pop 125 dL_programs_124 rfl rfl ?_
  exact kf
set_option maxRecDepth 20000 in
theorem BL_programs_125 {ω : Om} {h : AH} {Q : Option Value → AH → Prop} {x0 : Nat} {u1 : Option Value} {u2 : Option Value} {x3 : Int32} {x4 : Int32} {x5 : Int32} {x6 : Int32} {x7 : Int32} (hw : ω.2.2.2.1 = true) (kk : Ex ω ML_name 0 [some (.ref x0), some (.int x6), none, none, none, none] [] h 0 0 (fun v h' => Ex ω ML_programs 131 [some (.ref x0), none, none, some (.int x3), some (.int x4), some (.int x5), some (.int x6), some (.int x7)] (v.toList ++ []) h' 0 0 Q)) : Ex ω ML_programs 125 [some (.ref x0), u1, u2, some (.int x3), some (.int x4), some (.int x5), some (.int x6), some (.int x7)] [] h 0 0 Q := by
  refine x_dr1 ?_
  refine x_dr2 ?_
  refine x_aload0 126 dL_programs_125 rfl ?_
  refine x_iload6 128 dL_programs_126 rfl ?_
  exact x_callS 131 [.ref x0, .int x6] [] dL_programs_128 rfl lk_L_name ⟨wd325, wd326⟩ ⟨by decide, by decide⟩ rfl rfl (Nat.le_of_ble_eq_true rfl) (Nat.le_of_ble_eq_true rfl) (by decide) (by decide) kk
set_option maxRecDepth 20000 in
theorem BL_programs_131 {ω : Om} {h : AH} {Q : Option Value → AH → Prop} {x0 : Nat} {u1 : Option Value} {u2 : Option Value} {x3 : Int32} {x4 : Int32} {x5 : Int32} {u6 : Option Value} {x7 : Int32} (hw : ω.2.2.2.1 = true) (kk : Ex ω ML_number 0 [some (.ref x0), some (.int x7), none] [] h 0 0 (fun v h' => Ex ω ML_programs 137 [some (.ref x0), none, none, some (.int x3), some (.int x4), some (.int x5), none, some (.int x7)] (v.toList ++ []) h' 0 0 Q)) : Ex ω ML_programs 131 [some (.ref x0), u1, u2, some (.int x3), some (.int x4), some (.int x5), u6, some (.int x7)] [] h 0 0 Q := by
  refine x_dr1 ?_
  refine x_dr2 ?_
  refine x_dr6 ?_
  refine x_aload0 132 dL_programs_131 rfl ?_
  refine x_iload7 134 dL_programs_132 rfl ?_
  exact x_callS 137 [.ref x0, .int x7] [] dL_programs_134 rfl lk_L_number ⟨wd334, wd335⟩ ⟨by decide, by decide⟩ rfl rfl (Nat.le_of_ble_eq_true rfl) (Nat.le_of_ble_eq_true rfl) (by decide) (by decide) kk
set_option maxRecDepth 20000 in
theorem BL_programs_137 {ω : Om} {h : AH} {Q : Option Value → AH → Prop} {x0 : Nat} {u1 : Option Value} {u2 : Option Value} {x3 : Int32} {x4 : Int32} {x5 : Int32} {u6 : Option Value} {u7 : Option Value} (hw : ω.2.2.2.1 = true) (kt : Ex ω ML_programs 17 [some (.ref x0), none, none, some (.int x3), some (.int x4), some (.int (x5 + (nI 1))), none, none] [] h 0 0 Q) : Ex ω ML_programs 137 [some (.ref x0), u1, u2, some (.int x3), some (.int x4), some (.int x5), u6, u7] [] h 0 0 Q := by
  refine x_dr1 ?_
  refine x_dr2 ?_
  refine x_dr6 ?_
  refine x_dr7 ?_
  refine x_iinc5 (x5 + (nI 1)) 140 dL_programs_137 rfl (by decide) rfl rfl ?_
  exact x_goto 17 dL_programs_140 (by decide) kt
set_option maxRecDepth 20000 in
theorem BL_programs_143 {ω : Om} {h : AH} {Q : Option Value → AH → Prop} {x0 : Nat} {u1 : Option Value} {u2 : Option Value} {u3 : Option Value} {u4 : Option Value} {u5 : Option Value} {u6 : Option Value} {u7 : Option Value} (hw : ω.2.2.2.1 = true) (s_x0 : gs h x0 = some (8, 8)) (kk : Ex ω M8_load 0 [some (.ref x0)] [] h 0 0 (fun v h' => Ex ω ML_programs 147 [some (.ref x0), none, none, none, none, none, none, none] (v.toList ++ []) h' 0 0 Q)) : Ex ω ML_programs 143 [some (.ref x0), u1, u2, u3, u4, u5, u6, u7] [] h 0 0 Q := by
  refine x_dr1 ?_
  refine x_dr2 ?_
  refine x_dr3 ?_
  refine x_dr4 ?_
  refine x_dr5 ?_
  refine x_dr6 ?_
  refine x_dr7 ?_
  refine x_aload0 144 dL_programs_143 rfl ?_
  exact x_callV 147 x0 [] [] dL_programs_144 rfl lk_8_load ⟨wd250, wd251, wd252⟩ ⟨by decide, by decide⟩ (recvO cf8 (fun _ => s_x0)) rfl rfl (Nat.le_of_ble_eq_true rfl) (Nat.le_of_ble_eq_true rfl) (by decide) (by decide) kk
set_option maxRecDepth 20000 in
theorem BL_programs_147 {ω : Om} {h : AH} {Q : Option Value → AH → Prop} {u0 : Option Value} {u1 : Option Value} {u2 : Option Value} {u3 : Option Value} {u4 : Option Value} {u5 : Option Value} {u6 : Option Value} {u7 : Option Value} {y0 : Int32} (hw : ω.2.2.2.1 = true) (hq : Q (some (.int y0)) h) : Ex ω ML_programs 147 [u0, u1, u2, u3, u4, u5, u6, u7] [.int y0] h 0 0 Q := by
  refine x_dr0 ?_
  refine x_dr1 ?_
  refine x_dr2 ?_
  refine x_dr3 ?_
  refine x_dr4 ?_
  refine x_dr5 ?_
  refine x_dr6 ?_
  refine x_dr7 ?_
  exact x_iret dL_programs_147 rfl (Nat.zero_le _) (Nat.zero_le _) hq
set_option maxRecDepth 20000 in
theorem BL_isWritten_0 {ω : Om} {h : AH} {Q : Option Value → AH → Prop} {x0 : Nat} {x1 : Nat} {x2 : Int32} {u3 : Option Value} {u4 : Option Value} {u5 : Option Value} {u6 : Option Value} (hw : ω.2.2.2.1 = true) (s_x0 : gs h x0 = some (8, 8)) (kk : Ex ω M8_count 0 [some (.ref x0), some (.int (nI 3))] [] h 0 0 (fun v h' => Ex ω ML_isWritten 5 [some (.ref x0), some (.ref x1), some (.int x2), none, none, none, none] (v.toList ++ []) h' 0 0 Q)) : Ex ω ML_isWritten 0 [some (.ref x0), some (.ref x1), some (.int x2), u3, u4, u5, u6] [] h 0 0 Q := by
  refine x_dr3 ?_
  refine x_dr4 ?_
  refine x_dr5 ?_
  refine x_dr6 ?_
  refine x_aload0 1 dL_isWritten_0 rfl ?_
  refine x_iconst (nI 3) 2 dL_isWritten_1 rfl rfl ?_
  exact x_callV 5 x0 [.int (nI 3)] [] dL_isWritten_2 rfl lk_8_count ⟨wd282, wd283, wd284⟩ ⟨by decide, by decide⟩ (recvO cf8 (fun _ => s_x0)) rfl rfl (Nat.le_of_ble_eq_true rfl) (Nat.le_of_ble_eq_true rfl) (by decide) (by decide) kk
set_option maxRecDepth 20000 in
theorem BL_isWritten_5 {ω : Om} {h : AH} {Q : Option Value → AH → Prop} {x0 : Nat} {x1 : Nat} {x2 : Int32} {u3 : Option Value} {u4 : Option Value} {u5 : Option Value} {u6 : Option Value} {y0 : Int32} (hw : ω.2.2.2.1 = true) (kf : Ex ω ML_isWritten 9 [some (.ref x0), some (.ref x1), some (.int x2), some (.int y0), some (.int (nI 0)), none, none] [] h 0 0 Q) : Ex ω ML_isWritten 5 [some (.ref x0), some (.ref x1), some (.int x2), u3, u4, u5, u6] [.int y0] h 0 0 Q := by
  refine x_dr3 ?_
  refine x_dr4 ?_
  refine x_dr5 ?_
  refine x_dr6 ?_
  refine x_istore3 6 dL_isWritten_5 rfl (by decide) rfl ?_
  refine x_iconst (nI 0) 7 dL_isWritten_6 rfl rfl ?_
  refine x_istore4 9 dL_isWritten_7 rfl (by decide) rfl ?_
  exact kf
set_option maxRecDepth 20000 in
theorem BL_isWritten_9 {ω : Om} {h : AH} {Q : Option Value → AH → Prop} {x0 : Nat} {x1 : Nat} {x2 : Int32} {x3 : Int32} {x4 : Int32} {u5 : Option Value} {u6 : Option Value} (hw : ω.2.2.2.1 = true) (kt : x3 ≤ x4 → Ex ω ML_isWritten 49 [some (.ref x0), some (.ref x1), some (.int x2), some (.int x3), some (.int x4), none, none] [] h 0 0 Q) (kf : ¬ x3 ≤ x4 → Ex ω ML_isWritten 15 [some (.ref x0), some (.ref x1), some (.int x2), some (.int x3), some (.int x4), none, none] [] h 0 0 Q) : Ex ω ML_isWritten 9 [some (.ref x0), some (.ref x1), some (.int x2), some (.int x3), some (.int x4), u5, u6] [] h 0 0 Q := by
  refine x_dr5 ?_
  refine x_dr6 ?_
  refine x_iload4 11 dL_isWritten_9 rfl ?_
  refine x_iload3 12 dL_isWritten_11 rfl ?_
  exact x_icmp_ge 15 49 dL_isWritten_12 rfl (by decide) kt kf
set_option maxRecDepth 20000 in
theorem BL_isWritten_15 {ω : Om} {h : AH} {Q : Option Value → AH → Prop} {x0 : Nat} {x1 : Nat} {x2 : Int32} {x3 : Int32} {x4 : Int32} {u5 : Option Value} {u6 : Option Value} (hw : ω.2.2.2.1 = true) (s_x0 : gs h x0 = some (8, 8)) (kk : Ex ω M8_step 0 [some (.ref x0), some (.int x4), some (.int (nI 0))] [] h 0 0 (fun v h' => Ex ω ML_isWritten 27 [some (.ref x0), some (.ref x1), some (.int x2), some (.int x3), some (.int x4), none, none] (v.toList ++ [.int ((nI 2) * x4), .ref x1]) h' 0 0 Q)) : Ex ω ML_isWritten 15 [some (.ref x0), some (.ref x1), some (.int x2), some (.int x3), some (.int x4), u5, u6] [] h 0 0 Q := by
  refine x_dr5 ?_
  refine x_dr6 ?_
  refine x_aload1 16 dL_isWritten_15 rfl ?_
  refine x_iconst (nI 2) 17 dL_isWritten_16 rfl rfl ?_
  refine x_iload4 19 dL_isWritten_17 rfl ?_
  refine x_imul 20 dL_isWritten_19 rfl ?_
  refine x_aload0 21 dL_isWritten_20 rfl ?_
  refine x_iload4 23 dL_isWritten_21 rfl ?_
  refine x_iconst (nI 0) 24 dL_isWritten_23 rfl rfl ?_
  exact x_callV 27 x0 [.int x4, .int (nI 0)] [.int ((nI 2) * x4), .ref x1] dL_isWritten_24 rfl lk_8_step ⟨wd340, wd341, wd342⟩ ⟨by decide, by decide⟩ (recvO cf8 (fun _ => s_x0)) rfl rfl (Nat.le_of_ble_eq_true rfl) (Nat.le_of_ble_eq_true rfl) (by decide) (by decide) kk
set_option maxRecDepth 20000 in
theorem BL_isWritten_27 {ω : Om} {h : AH} {Q : Option Value → AH → Prop} {x0 : Nat} {x1 : Nat} {x2 : Int32} {x3 : Int32} {x4 : Int32} {u5 : Option Value} {u6 : Option Value} {y0 : Nat} {y1 : Int32} {y2 : Int32} {ny0 : Nat} (hw : ω.2.2.2.1 = true) (s_y0 : gs h y0 = some (10, ny0)) (s_x0 : gs h x0 = some (8, 8)) (i1 : vp_in y1 ny0) (kk : Ex ω M8_step 0 [some (.ref x0), some (.int x4), some (.int (nI 1))] [] (si h y0 (Int32.toNatClampNeg y1) y2) 0 0 (fun v h' => Ex ω ML_isWritten 42 [some (.ref x0), some (.ref x1), some (.int x2), some (.int x3), some (.int x4), none, none] (v.toList ++ [.int (((nI 2) * x4) + (nI 1)), .ref x1]) h' 0 0 Q)) : Ex ω ML_isWritten 27 [some (.ref x0), some (.ref x1), some (.int x2), some (.int x3), some (.int x4), u5, u6] [.int y2, .int y1, .ref y0] h 0 0 Q := by
  refine x_dr5 ?_
  refine x_dr6 ?_
  refine x_iast (Int32.toNatClampNeg y1) 28 dL_isWritten_27 rfl (fun _ => s_y0) i1 rfl ?_
  refine x_aload1 29 dL_isWritten_28 rfl ?_
  refine x_iconst (nI 2) 30 dL_isWritten_29 rfl rfl ?_
  refine x_iload4 32 dL_isWritten_30 rfl ?_
  refine x_imul 33 dL_isWritten_32 rfl ?_
  refine x_iconst (nI 1) 34 dL_isWritten_33 rfl rfl ?_
  refine x_iadd 35 dL_isWritten_34 rfl ?_
  refine x_aload0 36 dL_isWritten_35 rfl ?_
  refine x_iload4 38 dL_isWritten_36 rfl ?_
  refine x_iconst (nI 1) 39 dL_isWritten_38 rfl rfl ?_
  exact x_callV 42 x0 [.int x4, .int (nI 1)] [.int (((nI 2) * x4) + (nI 1)), .ref x1] dL_isWritten_39 rfl lk_8_step ⟨wd340, wd341, wd342⟩ ⟨by decide, by decide⟩ (recvO cf8 (fun _ => s_x0)) rfl rfl (Nat.le_of_ble_eq_true rfl) (Nat.le_of_ble_eq_true rfl) (by decide) (by decide) kk
set_option maxRecDepth 20000 in
theorem BL_isWritten_42 {ω : Om} {h : AH} {Q : Option Value → AH → Prop} {x0 : Nat} {x1 : Nat} {x2 : Int32} {x3 : Int32} {x4 : Int32} {u5 : Option Value} {u6 : Option Value} {y0 : Nat} {y1 : Int32} {y2 : Int32} {ny0 : Nat} (hw : ω.2.2.2.1 = true) (s_y0 : gs h y0 = some (10, ny0)) (i1 : vp_in y1 ny0) (kt : Ex ω ML_isWritten 9 [some (.ref x0), some (.ref x1), some (.int x2), some (.int x3), some (.int (x4 + (nI 1))), none, none] [] (si h y0 (Int32.toNatClampNeg y1) y2) 0 0 Q) : Ex ω ML_isWritten 42 [some (.ref x0), some (.ref x1), some (.int x2), some (.int x3), some (.int x4), u5, u6] [.int y2, .int y1, .ref y0] h 0 0 Q := by
  refine x_dr5 ?_
  refine x_dr6 ?_
  refine x_iast (Int32.toNatClampNeg y1) 43 dL_isWritten_42 rfl (fun _ => s_y0) i1 rfl ?_
  refine x_iinc4 (x4 + (nI 1)) 46 dL_isWritten_43 rfl (by decide) rfl rfl ?_
  exact x_goto 9 dL_isWritten_46 (by decide) kt
set_option maxRecDepth 20000 in
theorem BL_isWritten_49 {ω : Om} {h : AH} {Q : Option Value → AH → Prop} {x0 : Nat} {x1 : Nat} {x2 : Int32} {x3 : Int32} {u4 : Option Value} {u5 : Option Value} {u6 : Option Value} (hw : ω.2.2.2.1 = true) (s_x0 : gs h x0 = some (8, 8)) (kk : Ex ω M8_write 0 [some (.ref x0)] [] h 0 0 (fun v h' => Ex ω ML_isWritten 53 [some (.ref x0), some (.ref x1), some (.int x2), some (.int x3), none, none, none] (v.toList ++ []) h' 0 0 Q)) : Ex ω ML_isWritten 49 [some (.ref x0), some (.ref x1), some (.int x2), some (.int x3), u4, u5, u6] [] h 0 0 Q := by
  refine x_dr4 ?_
  refine x_dr5 ?_
  refine x_dr6 ?_
  refine x_aload0 50 dL_isWritten_49 rfl ?_
  exact x_callV 53 x0 [] [] dL_isWritten_50 rfl lk_8_write ⟨wd346, wd347, wd348⟩ ⟨by decide, by decide⟩ (recvO cf8 (fun _ => s_x0)) rfl rfl (Nat.le_of_ble_eq_true rfl) (Nat.le_of_ble_eq_true rfl) (by decide) (by decide) kk
set_option maxRecDepth 20000 in
theorem BL_isWritten_53 {ω : Om} {h : AH} {Q : Option Value → AH → Prop} {x0 : Nat} {x1 : Nat} {x2 : Int32} {x3 : Int32} {u4 : Option Value} {u5 : Option Value} {u6 : Option Value} {y0 : Int32} (hw : ω.2.2.2.1 = true) (s_x0 : gs h x0 = some (8, 8)) (kk : Ex ω M8_count 0 [some (.ref x0), some (.int (nI 7))] [] h 0 0 (fun v h' => Ex ω ML_isWritten 61 [some (.ref x0), some (.ref x1), some (.int x2), some (.int x3), some (.int y0), none, none] (v.toList ++ []) h' 0 0 Q)) : Ex ω ML_isWritten 53 [some (.ref x0), some (.ref x1), some (.int x2), some (.int x3), u4, u5, u6] [.int y0] h 0 0 Q := by
  refine x_dr4 ?_
  refine x_dr5 ?_
  refine x_dr6 ?_
  refine x_istore4 55 dL_isWritten_53 rfl (by decide) rfl ?_
  refine x_aload0 56 dL_isWritten_55 rfl ?_
  refine x_bipush (nI 7) 58 dL_isWritten_56 rfl rfl ?_
  exact x_callV 61 x0 [.int (nI 7)] [] dL_isWritten_58 rfl lk_8_count ⟨wd282, wd283, wd284⟩ ⟨by decide, by decide⟩ (recvO cf8 (fun _ => s_x0)) rfl rfl (Nat.le_of_ble_eq_true rfl) (Nat.le_of_ble_eq_true rfl) (by decide) (by decide) kk
set_option maxRecDepth 20000 in
theorem BL_isWritten_61 {ω : Om} {h : AH} {Q : Option Value → AH → Prop} {x0 : Nat} {x1 : Nat} {x2 : Int32} {x3 : Int32} {x4 : Int32} {u5 : Option Value} {u6 : Option Value} {y0 : Int32} (hw : ω.2.2.2.1 = true) (kt : ¬ y0 = x4 → Ex ω ML_isWritten 99 [some (.ref x0), some (.ref x1), some (.int x2), some (.int x3), some (.int x4), none, none] [] h 0 0 Q) (kf : y0 = x4 → Ex ω ML_isWritten 66 [some (.ref x0), some (.ref x1), some (.int x2), some (.int x3), some (.int x4), none, none] [] h 0 0 Q) : Ex ω ML_isWritten 61 [some (.ref x0), some (.ref x1), some (.int x2), some (.int x3), some (.int x4), u5, u6] [.int y0] h 0 0 Q := by
  refine x_dr5 ?_
  refine x_dr6 ?_
  refine x_iload4 63 dL_isWritten_61 rfl ?_
  exact x_icmp_ne 66 99 dL_isWritten_63 rfl (by decide) kt kf
set_option maxRecDepth 20000 in
theorem BL_isWritten_66 {ω : Om} {h : AH} {Q : Option Value → AH → Prop} {x0 : Nat} {x1 : Nat} {x2 : Int32} {x3 : Int32} {x4 : Int32} {u5 : Option Value} {u6 : Option Value} (hw : ω.2.2.2.1 = true) (s_x0 : gs h x0 = some (8, 8)) (kk : Ex ω M8_textAt 0 [some (.ref x0), some (.int x4)] [] h 0 0 (fun v h' => Ex ω ML_isWritten 72 [some (.ref x0), some (.ref x1), some (.int x2), some (.int x3), some (.int x4), none, none] (v.toList ++ []) h' 0 0 Q)) : Ex ω ML_isWritten 66 [some (.ref x0), some (.ref x1), some (.int x2), some (.int x3), some (.int x4), u5, u6] [] h 0 0 Q := by
  refine x_dr5 ?_
  refine x_dr6 ?_
  refine x_aload0 67 dL_isWritten_66 rfl ?_
  refine x_iload4 69 dL_isWritten_67 rfl ?_
  exact x_callV 72 x0 [.int x4] [] dL_isWritten_69 rfl lk_8_textAt ⟨wd365, wd366, wd367⟩ ⟨by decide, by decide⟩ (recvO cf8 (fun _ => s_x0)) rfl rfl (Nat.le_of_ble_eq_true rfl) (Nat.le_of_ble_eq_true rfl) (by decide) (by decide) kk
set_option maxRecDepth 20000 in
theorem BL_isWritten_72 {ω : Om} {h : AH} {Q : Option Value → AH → Prop} {x0 : Nat} {x1 : Nat} {x2 : Int32} {x3 : Int32} {x4 : Int32} {u5 : Option Value} {u6 : Option Value} {y0 : Int32} (hw : ω.2.2.2.1 = true) (kt : ¬ y0 = ((-4)) → Ex ω ML_isWritten 99 [some (.ref x0), some (.ref x1), some (.int x2), some (.int x3), some (.int x4), none, none] [] h 0 0 Q) (kf : y0 = ((-4)) → Ex ω ML_isWritten 77 [some (.ref x0), some (.ref x1), some (.int x2), some (.int x3), some (.int x4), none, none] [] h 0 0 Q) : Ex ω ML_isWritten 72 [some (.ref x0), some (.ref x1), some (.int x2), some (.int x3), some (.int x4), u5, u6] [.int y0] h 0 0 Q := by
  refine x_dr5 ?_
  refine x_dr6 ?_
  refine x_bipush ((-4)) 74 dL_isWritten_72 rfl rfl ?_
  exact x_icmp_ne 77 99 dL_isWritten_74 rfl (by decide) kt kf
set_option maxRecDepth 20000 in
theorem BL_isWritten_77 {ω : Om} {h : AH} {Q : Option Value → AH → Prop} {x0 : Nat} {x1 : Nat} {x2 : Int32} {x3 : Int32} {x4 : Int32} {u5 : Option Value} {u6 : Option Value} (hw : ω.2.2.2.1 = true) (kt : (nI 100) < x4 → Ex ω ML_isWritten 99 [some (.ref x0), some (.ref x1), some (.int x2), some (.int x3), some (.int x4), none, none] [] h 0 0 Q) (kf : ¬ (nI 100) < x4 → Ex ω ML_isWritten 84 [some (.ref x0), some (.ref x1), some (.int x2), some (.int x3), some (.int x4), none, none] [] h 0 0 Q) : Ex ω ML_isWritten 77 [some (.ref x0), some (.ref x1), some (.int x2), some (.int x3), some (.int x4), u5, u6] [] h 0 0 Q := by
  refine x_dr5 ?_
  refine x_dr6 ?_
  refine x_iload4 79 dL_isWritten_77 rfl ?_
  refine x_bipush (nI 100) 81 dL_isWritten_79 rfl rfl ?_
  exact x_icmp_gt 84 99 dL_isWritten_81 rfl (by decide) kt kf
set_option maxRecDepth 20000 in
theorem BL_isWritten_84 {ω : Om} {h : AH} {Q : Option Value → AH → Prop} {x0 : Nat} {x1 : Nat} {x2 : Int32} {x3 : Int32} {x4 : Int32} {u5 : Option Value} {u6 : Option Value} (hw : ω.2.2.2.1 = true) (s_x0 : gs h x0 = some (8, 8)) (kk : Ex ω M8_step 0 [some (.ref x0), some (.int x3), some (.int (nI 0))] [] h 0 0 (fun v h' => Ex ω ML_isWritten 90 [some (.ref x0), some (.ref x1), some (.int x2), some (.int x3), some (.int x4), none, none] (v.toList ++ []) h' 0 0 Q)) : Ex ω ML_isWritten 84 [some (.ref x0), some (.ref x1), some (.int x2), some (.int x3), some (.int x4), u5, u6] [] h 0 0 Q := by
  refine x_dr5 ?_
  refine x_dr6 ?_
  refine x_aload0 85 dL_isWritten_84 rfl ?_
  refine x_iload3 86 dL_isWritten_85 rfl ?_
  refine x_iconst (nI 0) 87 dL_isWritten_86 rfl rfl ?_
  exact x_callV 90 x0 [.int x3, .int (nI 0)] [] dL_isWritten_87 rfl lk_8_step ⟨wd340, wd341, wd342⟩ ⟨by decide, by decide⟩ (recvO cf8 (fun _ => s_x0)) rfl rfl (Nat.le_of_ble_eq_true rfl) (Nat.le_of_ble_eq_true rfl) (by decide) (by decide) kk
set_option maxRecDepth 20000 in
theorem BL_isWritten_90 {ω : Om} {h : AH} {Q : Option Value → AH → Prop} {x0 : Nat} {x1 : Nat} {x2 : Int32} {x3 : Int32} {x4 : Int32} {u5 : Option Value} {u6 : Option Value} {y0 : Int32} (hw : ω.2.2.2.1 = true) (kt : ¬ y0 = ((-4)) → Ex ω ML_isWritten 99 [some (.ref x0), some (.ref x1), some (.int x2), some (.int x3), some (.int x4), none, none] [] h 0 0 Q) (kf : y0 = ((-4)) → Ex ω ML_isWritten 95 [some (.ref x0), some (.ref x1), some (.int x2), some (.int x3), some (.int x4), none, none] [] h 0 0 Q) : Ex ω ML_isWritten 90 [some (.ref x0), some (.ref x1), some (.int x2), some (.int x3), some (.int x4), u5, u6] [.int y0] h 0 0 Q := by
  refine x_dr5 ?_
  refine x_dr6 ?_
  refine x_bipush ((-4)) 92 dL_isWritten_90 rfl rfl ?_
  exact x_icmp_ne 95 99 dL_isWritten_92 rfl (by decide) kt kf
set_option maxRecDepth 20000 in
theorem BL_isWritten_95 {ω : Om} {h : AH} {Q : Option Value → AH → Prop} {x0 : Nat} {x1 : Nat} {x2 : Int32} {x3 : Int32} {x4 : Int32} {u5 : Option Value} {u6 : Option Value} (hw : ω.2.2.2.1 = true) (kt : Ex ω ML_isWritten 100 [some (.ref x0), some (.ref x1), some (.int x2), some (.int x3), some (.int x4), none, none] [.int (nI 1)] h 0 0 Q) : Ex ω ML_isWritten 95 [some (.ref x0), some (.ref x1), some (.int x2), some (.int x3), some (.int x4), u5, u6] [] h 0 0 Q := by
  refine x_dr5 ?_
  refine x_dr6 ?_
  refine x_iconst (nI 1) 96 dL_isWritten_95 rfl rfl ?_
  exact x_goto 100 dL_isWritten_96 (by decide) kt
set_option maxRecDepth 20000 in
theorem BL_isWritten_99 {ω : Om} {h : AH} {Q : Option Value → AH → Prop} {x0 : Nat} {x1 : Nat} {x2 : Int32} {x3 : Int32} {x4 : Int32} {u5 : Option Value} {u6 : Option Value} (hw : ω.2.2.2.1 = true) (kf : Ex ω ML_isWritten 100 [some (.ref x0), some (.ref x1), some (.int x2), some (.int x3), some (.int x4), none, none] [.int (nI 0)] h 0 0 Q) : Ex ω ML_isWritten 99 [some (.ref x0), some (.ref x1), some (.int x2), some (.int x3), some (.int x4), u5, u6] [] h 0 0 Q := by
  refine x_dr5 ?_
  refine x_dr6 ?_
  refine x_iconst (nI 0) 100 dL_isWritten_99 rfl rfl ?_
  exact kf
set_option maxRecDepth 20000 in
theorem BL_isWritten_100 {ω : Om} {h : AH} {Q : Option Value → AH → Prop} {x0 : Nat} {x1 : Nat} {x2 : Int32} {x3 : Int32} {x4 : Int32} {u5 : Option Value} {u6 : Option Value} {y0 : Int32} (hw : ω.2.2.2.1 = true) (kt : (nI 100) ≤ x4 → Ex ω ML_isWritten 313 [some (.ref x0), some (.ref x1), some (.int x2), some (.int x3), some (.int x4), some (.int y0), none] [] h 0 0 Q) (kf : ¬ (nI 100) ≤ x4 → Ex ω ML_isWritten 109 [some (.ref x0), some (.ref x1), some (.int x2), some (.int x3), some (.int x4), some (.int y0), none] [] h 0 0 Q) : Ex ω ML_isWritten 100 [some (.ref x0), some (.ref x1), some (.int x2), some (.int x3), some (.int x4), u5, u6] [.int y0] h 0 0 Q := by
  refine x_dr5 ?_
  refine x_dr6 ?_
  refine x_istore5 102 dL_isWritten_100 rfl (by decide) rfl ?_
  refine x_iload4 104 dL_isWritten_102 rfl ?_
  refine x_bipush (nI 100) 106 dL_isWritten_104 rfl rfl ?_
  exact x_icmp_ge 109 313 dL_isWritten_106 rfl (by decide) kt kf
set_option maxRecDepth 20000 in
theorem BL_isWritten_109 {ω : Om} {h : AH} {Q : Option Value → AH → Prop} {x0 : Nat} {x1 : Nat} {x2 : Int32} {x3 : Int32} {x4 : Int32} {x5 : Int32} {u6 : Option Value} (hw : ω.2.2.2.1 = true) (kt : x5 = 0 → Ex ω ML_isWritten 135 [some (.ref x0), some (.ref x1), some (.int x2), some (.int x3), some (.int x4), some (.int x5), none] [] h 0 0 Q) (kf : ¬ x5 = 0 → Ex ω ML_isWritten 114 [some (.ref x0), some (.ref x1), some (.int x2), some (.int x3), some (.int x4), some (.int x5), none] [] h 0 0 Q) : Ex ω ML_isWritten 109 [some (.ref x0), some (.ref x1), some (.int x2), some (.int x3), some (.int x4), some (.int x5), u6] [] h 0 0 Q := by
  refine x_dr6 ?_
  refine x_iload5 111 dL_isWritten_109 rfl ?_
  exact x_if_eq 114 135 dL_isWritten_111 rfl (by decide) kt kf
set_option maxRecDepth 20000 in
theorem BL_isWritten_114 {ω : Om} {h : AH} {Q : Option Value → AH → Prop} {x0 : Nat} {x1 : Nat} {x2 : Int32} {x3 : Int32} {x4 : Int32} {u5 : Option Value} {u6 : Option Value} (hw : ω.2.2.2.1 = true) (s_x0 : gs h x0 = some (8, 8)) (kk : Ex ω M8_fault 0 [some (.ref x0), none] [] h 0 0 (fun v h' => Ex ω ML_isWritten 118 [some (.ref x0), some (.ref x1), some (.int x2), some (.int x3), some (.int x4), none, none] (v.toList ++ []) h' 0 0 Q)) : Ex ω ML_isWritten 114 [some (.ref x0), some (.ref x1), some (.int x2), some (.int x3), some (.int x4), u5, u6] [] h 0 0 Q := by
  refine x_dr5 ?_
  refine x_dr6 ?_
  refine x_aload0 115 dL_isWritten_114 rfl ?_
  exact x_callV 118 x0 [] [] dL_isWritten_115 rfl lk_8_fault ⟨wd164, wd165, wd166⟩ ⟨by decide, by decide⟩ (recvO cf8 (fun _ => s_x0)) rfl rfl (Nat.le_of_ble_eq_true rfl) (Nat.le_of_ble_eq_true rfl) (by decide) (by decide) kk
set_option maxRecDepth 20000 in
theorem BL_isWritten_118 {ω : Om} {h : AH} {Q : Option Value → AH → Prop} {x0 : Nat} {x1 : Nat} {x2 : Int32} {x3 : Int32} {x4 : Int32} {u5 : Option Value} {u6 : Option Value} {y0 : Int32} (hw : ω.2.2.2.1 = true) (kt : ¬ y0 = ((-4)) → Ex ω ML_isWritten 135 [some (.ref x0), some (.ref x1), some (.int x2), some (.int x3), some (.int x4), none, none] [] h 0 0 Q) (kf : y0 = ((-4)) → Ex ω ML_isWritten 123 [some (.ref x0), some (.ref x1), some (.int x2), some (.int x3), some (.int x4), none, none] [] h 0 0 Q) : Ex ω ML_isWritten 118 [some (.ref x0), some (.ref x1), some (.int x2), some (.int x3), some (.int x4), u5, u6] [.int y0] h 0 0 Q := by
  refine x_dr5 ?_
  refine x_dr6 ?_
  refine x_bipush ((-4)) 120 dL_isWritten_118 rfl rfl ?_
  exact x_icmp_ne 123 135 dL_isWritten_120 rfl (by decide) kt kf
set_option maxRecDepth 20000 in
theorem BL_isWritten_123 {ω : Om} {h : AH} {Q : Option Value → AH → Prop} {x0 : Nat} {x1 : Nat} {x2 : Int32} {x3 : Int32} {x4 : Int32} {u5 : Option Value} {u6 : Option Value} (hw : ω.2.2.2.1 = true) (s_x0 : gs h x0 = some (8, 8)) (kk : Ex ω M8_load 0 [some (.ref x0)] [] h 0 0 (fun v h' => Ex ω ML_isWritten 127 [some (.ref x0), some (.ref x1), some (.int x2), some (.int x3), some (.int x4), none, none] (v.toList ++ []) h' 0 0 Q)) : Ex ω ML_isWritten 123 [some (.ref x0), some (.ref x1), some (.int x2), some (.int x3), some (.int x4), u5, u6] [] h 0 0 Q := by
  refine x_dr5 ?_
  refine x_dr6 ?_
  refine x_aload0 124 dL_isWritten_123 rfl ?_
  exact x_callV 127 x0 [] [] dL_isWritten_124 rfl lk_8_load ⟨wd250, wd251, wd252⟩ ⟨by decide, by decide⟩ (recvO cf8 (fun _ => s_x0)) rfl rfl (Nat.le_of_ble_eq_true rfl) (Nat.le_of_ble_eq_true rfl) (by decide) (by decide) kk
set_option maxRecDepth 20000 in
theorem BL_isWritten_127 {ω : Om} {h : AH} {Q : Option Value → AH → Prop} {x0 : Nat} {x1 : Nat} {x2 : Int32} {x3 : Int32} {x4 : Int32} {u5 : Option Value} {u6 : Option Value} {y0 : Int32} (hw : ω.2.2.2.1 = true) (kt : ¬ y0 = x3 → Ex ω ML_isWritten 135 [some (.ref x0), some (.ref x1), some (.int x2), some (.int x3), some (.int x4), none, none] [] h 0 0 Q) (kf : y0 = x3 → Ex ω ML_isWritten 131 [some (.ref x0), some (.ref x1), some (.int x2), some (.int x3), some (.int x4), none, none] [] h 0 0 Q) : Ex ω ML_isWritten 127 [some (.ref x0), some (.ref x1), some (.int x2), some (.int x3), some (.int x4), u5, u6] [.int y0] h 0 0 Q := by
  refine x_dr5 ?_
  refine x_dr6 ?_
  refine x_iload3 128 dL_isWritten_127 rfl ?_
  exact x_icmp_ne 131 135 dL_isWritten_128 rfl (by decide) kt kf
set_option maxRecDepth 20000 in
theorem BL_isWritten_131 {ω : Om} {h : AH} {Q : Option Value → AH → Prop} {x0 : Nat} {x1 : Nat} {x2 : Int32} {x3 : Int32} {x4 : Int32} {u5 : Option Value} {u6 : Option Value} (hw : ω.2.2.2.1 = true) (kt : Ex ω ML_isWritten 136 [some (.ref x0), some (.ref x1), some (.int x2), some (.int x3), some (.int x4), none, none] [.int (nI 1)] h 0 0 Q) : Ex ω ML_isWritten 131 [some (.ref x0), some (.ref x1), some (.int x2), some (.int x3), some (.int x4), u5, u6] [] h 0 0 Q := by
  refine x_dr5 ?_
  refine x_dr6 ?_
  refine x_iconst (nI 1) 132 dL_isWritten_131 rfl rfl ?_
  exact x_goto 136 dL_isWritten_132 (by decide) kt
set_option maxRecDepth 20000 in
theorem BL_isWritten_135 {ω : Om} {h : AH} {Q : Option Value → AH → Prop} {x0 : Nat} {x1 : Nat} {x2 : Int32} {x3 : Int32} {x4 : Int32} {u5 : Option Value} {u6 : Option Value} (hw : ω.2.2.2.1 = true) (kf : Ex ω ML_isWritten 136 [some (.ref x0), some (.ref x1), some (.int x2), some (.int x3), some (.int x4), none, none] [.int (nI 0)] h 0 0 Q) : Ex ω ML_isWritten 135 [some (.ref x0), some (.ref x1), some (.int x2), some (.int x3), some (.int x4), u5, u6] [] h 0 0 Q := by
  refine x_dr5 ?_
  refine x_dr6 ?_
  refine x_iconst (nI 0) 136 dL_isWritten_135 rfl rfl ?_
  exact kf
set_option maxRecDepth 20000 in
theorem BL_isWritten_136 {ω : Om} {h : AH} {Q : Option Value → AH → Prop} {x0 : Nat} {x1 : Nat} {x2 : Int32} {x3 : Int32} {x4 : Int32} {u5 : Option Value} {u6 : Option Value} {y0 : Int32} (hw : ω.2.2.2.1 = true) (kf : Ex ω ML_isWritten 141 [some (.ref x0), some (.ref x1), some (.int x2), some (.int x3), some (.int x4), some (.int y0), some (.int (nI 0))] [] h 0 0 Q) : Ex ω ML_isWritten 136 [some (.ref x0), some (.ref x1), some (.int x2), some (.int x3), some (.int x4), u5, u6] [.int y0] h 0 0 Q := by
  refine x_dr5 ?_
  refine x_dr6 ?_
  refine x_istore5 138 dL_isWritten_136 rfl (by decide) rfl ?_
  refine x_iconst (nI 0) 139 dL_isWritten_138 rfl rfl ?_
  refine x_istore6 141 dL_isWritten_139 rfl (by decide) rfl ?_
  exact kf
set_option maxRecDepth 20000 in
theorem BL_isWritten_141 {ω : Om} {h : AH} {Q : Option Value → AH → Prop} {x0 : Nat} {x1 : Nat} {x2 : Int32} {x3 : Int32} {x4 : Int32} {x5 : Int32} {x6 : Int32} (hw : ω.2.2.2.1 = true) (kt : x3 ≤ x6 → Ex ω ML_isWritten 199 [some (.ref x0), some (.ref x1), some (.int x2), some (.int x3), some (.int x4), some (.int x5), some (.int x6)] [] h 0 0 Q) (kf : ¬ x3 ≤ x6 → Ex ω ML_isWritten 147 [some (.ref x0), some (.ref x1), some (.int x2), some (.int x3), some (.int x4), some (.int x5), some (.int x6)] [] h 0 0 Q) : Ex ω ML_isWritten 141 [some (.ref x0), some (.ref x1), some (.int x2), some (.int x3), some (.int x4), some (.int x5), some (.int x6)] [] h 0 0 Q := by
  refine x_iload6 143 dL_isWritten_141 rfl ?_
  refine x_iload3 144 dL_isWritten_143 rfl ?_
  exact x_icmp_ge 147 199 dL_isWritten_144 rfl (by decide) kt kf
set_option maxRecDepth 20000 in
theorem BL_isWritten_147 {ω : Om} {h : AH} {Q : Option Value → AH → Prop} {x0 : Nat} {x1 : Nat} {x2 : Int32} {x3 : Int32} {x4 : Int32} {x5 : Int32} {x6 : Int32} (hw : ω.2.2.2.1 = true) (kt : x5 = 0 → Ex ω ML_isWritten 199 [some (.ref x0), some (.ref x1), some (.int x2), some (.int x3), some (.int x4), some (.int x5), some (.int x6)] [] h 0 0 Q) (kf : ¬ x5 = 0 → Ex ω ML_isWritten 152 [some (.ref x0), some (.ref x1), some (.int x2), some (.int x3), some (.int x4), some (.int x5), some (.int x6)] [] h 0 0 Q) : Ex ω ML_isWritten 147 [some (.ref x0), some (.ref x1), some (.int x2), some (.int x3), some (.int x4), some (.int x5), some (.int x6)] [] h 0 0 Q := by
  refine x_iload5 149 dL_isWritten_147 rfl ?_
  exact x_if_eq 152 199 dL_isWritten_149 rfl (by decide) kt kf
set_option maxRecDepth 20000 in
theorem BL_isWritten_152 {ω : Om} {h : AH} {Q : Option Value → AH → Prop} {x0 : Nat} {x1 : Nat} {x2 : Int32} {x3 : Int32} {x4 : Int32} {u5 : Option Value} {x6 : Int32} (hw : ω.2.2.2.1 = true) (s_x0 : gs h x0 = some (8, 8)) (kk : Ex ω M8_step 0 [some (.ref x0), some (.int x6), some (.int (nI 0))] [] h 0 0 (fun v h' => Ex ω ML_isWritten 159 [some (.ref x0), some (.ref x1), some (.int x2), some (.int x3), some (.int x4), none, some (.int x6)] (v.toList ++ []) h' 0 0 Q)) : Ex ω ML_isWritten 152 [some (.ref x0), some (.ref x1), some (.int x2), some (.int x3), some (.int x4), u5, some (.int x6)] [] h 0 0 Q := by
  refine x_dr5 ?_
  refine x_aload0 153 dL_isWritten_152 rfl ?_
  refine x_iload6 155 dL_isWritten_153 rfl ?_
  refine x_iconst (nI 0) 156 dL_isWritten_155 rfl rfl ?_
  exact x_callV 159 x0 [.int x6, .int (nI 0)] [] dL_isWritten_156 rfl lk_8_step ⟨wd340, wd341, wd342⟩ ⟨by decide, by decide⟩ (recvO cf8 (fun _ => s_x0)) rfl rfl (Nat.le_of_ble_eq_true rfl) (Nat.le_of_ble_eq_true rfl) (by decide) (by decide) kk
set_option maxRecDepth 20000 in
theorem BL_isWritten_159 {ω : Om} {h : AH} {Q : Option Value → AH → Prop} {x0 : Nat} {x1 : Nat} {x2 : Int32} {x3 : Int32} {x4 : Int32} {u5 : Option Value} {x6 : Int32} {y0 : Int32} {nx1 : Nat} (hw : ω.2.2.2.1 = true) (s_x1 : gs h x1 = some (10, nx1)) (i1 : vp_in ((nI 2) * x6) nx1) (kt : ¬ y0 = (gi h x1 (Int32.toNatClampNeg ((nI 2) * x6))) → Ex ω ML_isWritten 190 [some (.ref x0), some (.ref x1), some (.int x2), some (.int x3), some (.int x4), none, some (.int x6)] [] h 0 0 Q) (kf : y0 = (gi h x1 (Int32.toNatClampNeg ((nI 2) * x6))) → Ex ω ML_isWritten 168 [some (.ref x0), some (.ref x1), some (.int x2), some (.int x3), some (.int x4), none, some (.int x6)] [] h 0 0 Q) : Ex ω ML_isWritten 159 [some (.ref x0), some (.ref x1), some (.int x2), some (.int x3), some (.int x4), u5, some (.int x6)] [.int y0] h 0 0 Q := by
  refine x_dr5 ?_
  refine x_aload1 160 dL_isWritten_159 rfl ?_
  refine x_iconst (nI 2) 161 dL_isWritten_160 rfl rfl ?_
  refine x_iload6 163 dL_isWritten_161 rfl ?_
  refine x_imul 164 dL_isWritten_163 rfl ?_
  refine x_iald (Int32.toNatClampNeg ((nI 2) * x6)) 165 dL_isWritten_164 rfl (fun _ => s_x1) i1 rfl ?_
  exact x_icmp_ne 168 190 dL_isWritten_165 rfl (by decide) kt kf
set_option maxRecDepth 20000 in
theorem BL_isWritten_168 {ω : Om} {h : AH} {Q : Option Value → AH → Prop} {x0 : Nat} {x1 : Nat} {x2 : Int32} {x3 : Int32} {x4 : Int32} {u5 : Option Value} {x6 : Int32} (hw : ω.2.2.2.1 = true) (s_x0 : gs h x0 = some (8, 8)) (kk : Ex ω M8_step 0 [some (.ref x0), some (.int x6), some (.int (nI 1))] [] h 0 0 (fun v h' => Ex ω ML_isWritten 175 [some (.ref x0), some (.ref x1), some (.int x2), some (.int x3), some (.int x4), none, some (.int x6)] (v.toList ++ []) h' 0 0 Q)) : Ex ω ML_isWritten 168 [some (.ref x0), some (.ref x1), some (.int x2), some (.int x3), some (.int x4), u5, some (.int x6)] [] h 0 0 Q := by
  refine x_dr5 ?_
  refine x_aload0 169 dL_isWritten_168 rfl ?_
  refine x_iload6 171 dL_isWritten_169 rfl ?_
  refine x_iconst (nI 1) 172 dL_isWritten_171 rfl rfl ?_
  exact x_callV 175 x0 [.int x6, .int (nI 1)] [] dL_isWritten_172 rfl lk_8_step ⟨wd340, wd341, wd342⟩ ⟨by decide, by decide⟩ (recvO cf8 (fun _ => s_x0)) rfl rfl (Nat.le_of_ble_eq_true rfl) (Nat.le_of_ble_eq_true rfl) (by decide) (by decide) kk
set_option maxRecDepth 20000 in
theorem BL_isWritten_175 {ω : Om} {h : AH} {Q : Option Value → AH → Prop} {x0 : Nat} {x1 : Nat} {x2 : Int32} {x3 : Int32} {x4 : Int32} {u5 : Option Value} {x6 : Int32} {y0 : Int32} {nx1 : Nat} (hw : ω.2.2.2.1 = true) (s_x1 : gs h x1 = some (10, nx1)) (i1 : vp_in (((nI 2) * x6) + (nI 1)) nx1) (kt : ¬ y0 = (gi h x1 (Int32.toNatClampNeg (((nI 2) * x6) + (nI 1)))) → Ex ω ML_isWritten 190 [some (.ref x0), some (.ref x1), some (.int x2), some (.int x3), some (.int x4), none, some (.int x6)] [] h 0 0 Q) (kf : y0 = (gi h x1 (Int32.toNatClampNeg (((nI 2) * x6) + (nI 1)))) → Ex ω ML_isWritten 186 [some (.ref x0), some (.ref x1), some (.int x2), some (.int x3), some (.int x4), none, some (.int x6)] [] h 0 0 Q) : Ex ω ML_isWritten 175 [some (.ref x0), some (.ref x1), some (.int x2), some (.int x3), some (.int x4), u5, some (.int x6)] [.int y0] h 0 0 Q := by
  refine x_dr5 ?_
  refine x_aload1 176 dL_isWritten_175 rfl ?_
  refine x_iconst (nI 2) 177 dL_isWritten_176 rfl rfl ?_
  refine x_iload6 179 dL_isWritten_177 rfl ?_
  refine x_imul 180 dL_isWritten_179 rfl ?_
  refine x_iconst (nI 1) 181 dL_isWritten_180 rfl rfl ?_
  refine x_iadd 182 dL_isWritten_181 rfl ?_
  refine x_iald (Int32.toNatClampNeg (((nI 2) * x6) + (nI 1))) 183 dL_isWritten_182 rfl (fun _ => s_x1) i1 rfl ?_
  exact x_icmp_ne 186 190 dL_isWritten_183 rfl (by decide) kt kf
set_option maxRecDepth 20000 in
theorem BL_isWritten_186 {ω : Om} {h : AH} {Q : Option Value → AH → Prop} {x0 : Nat} {x1 : Nat} {x2 : Int32} {x3 : Int32} {x4 : Int32} {u5 : Option Value} {x6 : Int32} (hw : ω.2.2.2.1 = true) (kt : Ex ω ML_isWritten 191 [some (.ref x0), some (.ref x1), some (.int x2), some (.int x3), some (.int x4), none, some (.int x6)] [.int (nI 1)] h 0 0 Q) : Ex ω ML_isWritten 186 [some (.ref x0), some (.ref x1), some (.int x2), some (.int x3), some (.int x4), u5, some (.int x6)] [] h 0 0 Q := by
  refine x_dr5 ?_
  refine x_iconst (nI 1) 187 dL_isWritten_186 rfl rfl ?_
  exact x_goto 191 dL_isWritten_187 (by decide) kt
set_option maxRecDepth 20000 in
theorem BL_isWritten_190 {ω : Om} {h : AH} {Q : Option Value → AH → Prop} {x0 : Nat} {x1 : Nat} {x2 : Int32} {x3 : Int32} {x4 : Int32} {u5 : Option Value} {x6 : Int32} (hw : ω.2.2.2.1 = true) (kf : Ex ω ML_isWritten 191 [some (.ref x0), some (.ref x1), some (.int x2), some (.int x3), some (.int x4), none, some (.int x6)] [.int (nI 0)] h 0 0 Q) : Ex ω ML_isWritten 190 [some (.ref x0), some (.ref x1), some (.int x2), some (.int x3), some (.int x4), u5, some (.int x6)] [] h 0 0 Q := by
  refine x_dr5 ?_
  refine x_iconst (nI 0) 191 dL_isWritten_190 rfl rfl ?_
  exact kf
set_option maxRecDepth 20000 in
theorem BL_isWritten_191 {ω : Om} {h : AH} {Q : Option Value → AH → Prop} {x0 : Nat} {x1 : Nat} {x2 : Int32} {x3 : Int32} {x4 : Int32} {u5 : Option Value} {x6 : Int32} {y0 : Int32} (hw : ω.2.2.2.1 = true) (kt : Ex ω ML_isWritten 141 [some (.ref x0), some (.ref x1), some (.int x2), some (.int x3), some (.int x4), some (.int y0), some (.int (x6 + (nI 1)))] [] h 0 0 Q) : Ex ω ML_isWritten 191 [some (.ref x0), some (.ref x1), some (.int x2), some (.int x3), some (.int x4), u5, some (.int x6)] [.int y0] h 0 0 Q := by
  refine x_dr5 ?_
  refine x_istore5 193 dL_isWritten_191 rfl (by decide) rfl ?_
  refine x_iinc6 (x6 + (nI 1)) 196 dL_isWritten_193 rfl (by decide) rfl rfl ?_
  exact x_goto 141 dL_isWritten_196 (by decide) kt
set_option maxRecDepth 20000 in
theorem BL_isWritten_199 {ω : Om} {h : AH} {Q : Option Value → AH → Prop} {x0 : Nat} {u1 : Option Value} {x2 : Int32} {x3 : Int32} {x4 : Int32} {x5 : Int32} {u6 : Option Value} (hw : ω.2.2.2.1 = true) (kt : ¬ x3 = 0 → Ex ω ML_isWritten 207 [some (.ref x0), none, some (.int x2), some (.int x3), some (.int x4), some (.int x5), none] [] h 0 0 Q) (kf : x3 = 0 → Ex ω ML_isWritten 203 [some (.ref x0), none, some (.int x2), some (.int x3), some (.int x4), some (.int x5), none] [] h 0 0 Q) : Ex ω ML_isWritten 199 [some (.ref x0), u1, some (.int x2), some (.int x3), some (.int x4), some (.int x5), u6] [] h 0 0 Q := by
  refine x_dr1 ?_
  refine x_dr6 ?_
  refine x_iload3 200 dL_isWritten_199 rfl ?_
  exact x_if_ne 203 207 dL_isWritten_200 rfl (by decide) kt kf
set_option maxRecDepth 20000 in
theorem BL_isWritten_203 {ω : Om} {h : AH} {Q : Option Value → AH → Prop} {x0 : Nat} {u1 : Option Value} {x2 : Int32} {x3 : Int32} {x4 : Int32} {x5 : Int32} {u6 : Option Value} (hw : ω.2.2.2.1 = true) (kt : Ex ω ML_isWritten 209 [some (.ref x0), none, some (.int x2), some (.int x3), some (.int x4), some (.int x5), none] [.int (nI 0)] h 0 0 Q) : Ex ω ML_isWritten 203 [some (.ref x0), u1, some (.int x2), some (.int x3), some (.int x4), some (.int x5), u6] [] h 0 0 Q := by
  refine x_dr1 ?_
  refine x_dr6 ?_
  refine x_iconst (nI 0) 204 dL_isWritten_203 rfl rfl ?_
  exact x_goto 209 dL_isWritten_204 (by decide) kt
set_option maxRecDepth 20000 in
theorem BL_isWritten_207 {ω : Om} {h : AH} {Q : Option Value → AH → Prop} {x0 : Nat} {u1 : Option Value} {x2 : Int32} {x3 : Int32} {x4 : Int32} {x5 : Int32} {u6 : Option Value} (hw : ω.2.2.2.1 = true) (kf : Ex ω ML_isWritten 209 [some (.ref x0), none, some (.int x2), some (.int x3), some (.int x4), some (.int x5), none] [.int x4] h 0 0 Q) : Ex ω ML_isWritten 207 [some (.ref x0), u1, some (.int x2), some (.int x3), some (.int x4), some (.int x5), u6] [] h 0 0 Q := by
  refine x_dr1 ?_
  refine x_dr6 ?_
  refine x_iload4 209 dL_isWritten_207 rfl ?_
  exact kf
set_option maxRecDepth 20000 in
theorem BL_isWritten_209 {ω : Om} {h : AH} {Q : Option Value → AH → Prop} {x0 : Nat} {u1 : Option Value} {x2 : Int32} {x3 : Int32} {x4 : Int32} {x5 : Int32} {u6 : Option Value} {y0 : Int32} (hw : ω.2.2.2.1 = true) (kf : Ex ω ML_isWritten 211 [some (.ref x0), none, some (.int x2), some (.int x3), some (.int x4), some (.int x5), some (.int y0)] [] h 0 0 Q) : Ex ω ML_isWritten 209 [some (.ref x0), u1, some (.int x2), some (.int x3), some (.int x4), some (.int x5), u6] [.int y0] h 0 0 Q := by
  refine x_dr1 ?_
  refine x_dr6 ?_
  refine x_istore6 211 dL_isWritten_209 rfl (by decide) rfl ?_
  exact kf
set_option maxRecDepth 20000 in
theorem BL_isWritten_211 {ω : Om} {h : AH} {Q : Option Value → AH → Prop} {x0 : Nat} {u1 : Option Value} {x2 : Int32} {x3 : Int32} {x4 : Int32} {x5 : Int32} {x6 : Int32} (hw : ω.2.2.2.1 = true) (kt : x6 ≤ 0 → Ex ω ML_isWritten 235 [some (.ref x0), none, some (.int x2), some (.int x3), some (.int x4), some (.int x5), some (.int x6)] [] h 0 0 Q) (kf : ¬ x6 ≤ 0 → Ex ω ML_isWritten 216 [some (.ref x0), none, some (.int x2), some (.int x3), some (.int x4), some (.int x5), some (.int x6)] [] h 0 0 Q) : Ex ω ML_isWritten 211 [some (.ref x0), u1, some (.int x2), some (.int x3), some (.int x4), some (.int x5), some (.int x6)] [] h 0 0 Q := by
  refine x_dr1 ?_
  refine x_iload6 213 dL_isWritten_211 rfl ?_
  exact x_if_le 216 235 dL_isWritten_213 rfl (by decide) kt kf
set_option maxRecDepth 20000 in
theorem BL_isWritten_216 {ω : Om} {h : AH} {Q : Option Value → AH → Prop} {x0 : Nat} {u1 : Option Value} {x2 : Int32} {x3 : Int32} {x4 : Int32} {x5 : Int32} {x6 : Int32} (hw : ω.2.2.2.1 = true) (s_x0 : gs h x0 = some (8, 8)) (kk : Ex ω M8_textAt 0 [some (.ref x0), some (.int (x6 - (nI 1)))] [] h 0 0 (fun v h' => Ex ω ML_isWritten 224 [some (.ref x0), none, some (.int x2), some (.int x3), some (.int x4), some (.int x5), some (.int x6)] (v.toList ++ []) h' 0 0 Q)) : Ex ω ML_isWritten 216 [some (.ref x0), u1, some (.int x2), some (.int x3), some (.int x4), some (.int x5), some (.int x6)] [] h 0 0 Q := by
  refine x_dr1 ?_
  refine x_aload0 217 dL_isWritten_216 rfl ?_
  refine x_iload6 219 dL_isWritten_217 rfl ?_
  refine x_iconst (nI 1) 220 dL_isWritten_219 rfl rfl ?_
  refine x_isub 221 dL_isWritten_220 rfl ?_
  exact x_callV 224 x0 [.int (x6 - (nI 1))] [] dL_isWritten_221 rfl lk_8_textAt ⟨wd365, wd366, wd367⟩ ⟨by decide, by decide⟩ (recvO cf8 (fun _ => s_x0)) rfl rfl (Nat.le_of_ble_eq_true rfl) (Nat.le_of_ble_eq_true rfl) (by decide) (by decide) kk
set_option maxRecDepth 20000 in
theorem BL_isWritten_224 {ω : Om} {h : AH} {Q : Option Value → AH → Prop} {x0 : Nat} {u1 : Option Value} {x2 : Int32} {x3 : Int32} {x4 : Int32} {x5 : Int32} {x6 : Int32} {y0 : Int32} (hw : ω.2.2.2.1 = true) (kt : y0 = (nI 44) → Ex ω ML_isWritten 235 [some (.ref x0), none, some (.int x2), some (.int x3), some (.int x4), some (.int x5), some (.int x6)] [] h 0 0 Q) (kf : ¬ y0 = (nI 44) → Ex ω ML_isWritten 229 [some (.ref x0), none, some (.int x2), some (.int x3), some (.int x4), some (.int x5), some (.int x6)] [] h 0 0 Q) : Ex ω ML_isWritten 224 [some (.ref x0), u1, some (.int x2), some (.int x3), some (.int x4), some (.int x5), some (.int x6)] [.int y0] h 0 0 Q := by
  refine x_dr1 ?_
  refine x_bipush (nI 44) 226 dL_isWritten_224 rfl rfl ?_
  exact x_icmp_eq 229 235 dL_isWritten_226 rfl (by decide) kt kf
set_option maxRecDepth 20000 in
theorem BL_isWritten_229 {ω : Om} {h : AH} {Q : Option Value → AH → Prop} {x0 : Nat} {u1 : Option Value} {x2 : Int32} {x3 : Int32} {x4 : Int32} {x5 : Int32} {x6 : Int32} (hw : ω.2.2.2.1 = true) (kt : Ex ω ML_isWritten 211 [some (.ref x0), none, some (.int x2), some (.int x3), some (.int x4), some (.int x5), some (.int (x6 + ((-1))))] [] h 0 0 Q) : Ex ω ML_isWritten 229 [some (.ref x0), u1, some (.int x2), some (.int x3), some (.int x4), some (.int x5), some (.int x6)] [] h 0 0 Q := by
  refine x_dr1 ?_
  refine x_iinc6 (x6 + ((-1))) 232 dL_isWritten_229 rfl (by decide) rfl rfl ?_
  exact x_goto 211 dL_isWritten_232 (by decide) kt
set_option maxRecDepth 20000 in
theorem BL_isWritten_235 {ω : Om} {h : AH} {Q : Option Value → AH → Prop} {x0 : Nat} {u1 : Option Value} {x2 : Int32} {x3 : Int32} {x4 : Int32} {x5 : Int32} {x6 : Int32} (hw : ω.2.2.2.1 = true) (kt : x6 ≤ 0 → Ex ω ML_isWritten 246 [some (.ref x0), none, some (.int x2), some (.int x3), some (.int x4), some (.int x5), some (.int x6)] [.int x6] h 0 0 Q) (kf : ¬ x6 ≤ 0 → Ex ω ML_isWritten 242 [some (.ref x0), none, some (.int x2), some (.int x3), some (.int x4), some (.int x5), some (.int x6)] [.int x6] h 0 0 Q) : Ex ω ML_isWritten 235 [some (.ref x0), u1, some (.int x2), some (.int x3), some (.int x4), some (.int x5), some (.int x6)] [] h 0 0 Q := by
  refine x_dr1 ?_
  refine x_iload6 237 dL_isWritten_235 rfl ?_
  refine x_iload6 239 dL_isWritten_237 rfl ?_
  exact x_if_le 242 246 dL_isWritten_239 rfl (by decide) kt kf
set_option maxRecDepth 20000 in
theorem BL_isWritten_242 {ω : Om} {h : AH} {Q : Option Value → AH → Prop} {x0 : Nat} {u1 : Option Value} {x2 : Int32} {x3 : Int32} {x4 : Int32} {x5 : Int32} {u6 : Option Value} {y0 : Int32} (hw : ω.2.2.2.1 = true) (kt : Ex ω ML_isWritten 247 [some (.ref x0), none, some (.int x2), some (.int x3), some (.int x4), some (.int x5), none] [.int (nI 1), .int y0] h 0 0 Q) : Ex ω ML_isWritten 242 [some (.ref x0), u1, some (.int x2), some (.int x3), some (.int x4), some (.int x5), u6] [.int y0] h 0 0 Q := by
  refine x_dr1 ?_
  refine x_dr6 ?_
  refine x_iconst (nI 1) 243 dL_isWritten_242 rfl rfl ?_
  exact x_goto 247 dL_isWritten_243 (by decide) kt
set_option maxRecDepth 20000 in
theorem BL_isWritten_246 {ω : Om} {h : AH} {Q : Option Value → AH → Prop} {x0 : Nat} {u1 : Option Value} {x2 : Int32} {x3 : Int32} {x4 : Int32} {x5 : Int32} {u6 : Option Value} {y0 : Int32} (hw : ω.2.2.2.1 = true) (kf : Ex ω ML_isWritten 247 [some (.ref x0), none, some (.int x2), some (.int x3), some (.int x4), some (.int x5), none] [.int (nI 0), .int y0] h 0 0 Q) : Ex ω ML_isWritten 246 [some (.ref x0), u1, some (.int x2), some (.int x3), some (.int x4), some (.int x5), u6] [.int y0] h 0 0 Q := by
  refine x_dr1 ?_
  refine x_dr6 ?_
  refine x_iconst (nI 0) 247 dL_isWritten_246 rfl rfl ?_
  exact kf
set_option maxRecDepth 20000 in
theorem BL_isWritten_247 {ω : Om} {h : AH} {Q : Option Value → AH → Prop} {x0 : Nat} {u1 : Option Value} {x2 : Int32} {x3 : Int32} {x4 : Int32} {x5 : Int32} {u6 : Option Value} {y0 : Int32} {y1 : Int32} (hw : ω.2.2.2.1 = true) (kt : x5 = 0 → Ex ω ML_isWritten 310 [some (.ref x0), none, some (.int x2), some (.int x3), some (.int x4), some (.int x5), some (.int (y0 + y1))] [] h 0 0 Q) (kf : ¬ x5 = 0 → Ex ω ML_isWritten 255 [some (.ref x0), none, some (.int x2), some (.int x3), some (.int x4), some (.int x5), some (.int (y0 + y1))] [] h 0 0 Q) : Ex ω ML_isWritten 247 [some (.ref x0), u1, some (.int x2), some (.int x3), some (.int x4), some (.int x5), u6] [.int y1, .int y0] h 0 0 Q := by
  refine x_dr1 ?_
  refine x_dr6 ?_
  refine x_iadd 248 dL_isWritten_247 rfl ?_
  refine x_istore6 250 dL_isWritten_248 rfl (by decide) rfl ?_
  refine x_iload5 252 dL_isWritten_250 rfl ?_
  exact x_if_eq 255 310 dL_isWritten_252 rfl (by decide) kt kf
set_option maxRecDepth 20000 in
theorem BL_isWritten_255 {ω : Om} {h : AH} {Q : Option Value → AH → Prop} {x0 : Nat} {u1 : Option Value} {x2 : Int32} {x3 : Int32} {x4 : Int32} {u5 : Option Value} {x6 : Int32} (hw : ω.2.2.2.1 = true) (kt : ¬ (x2 - x2 / (nI 2) * (nI 2)) = 0 → Ex ω ML_isWritten 267 [some (.ref x0), none, some (.int x2), some (.int x3), some (.int x4), none, some (.int x6)] [.ref x0] h 0 0 Q) (kf : (x2 - x2 / (nI 2) * (nI 2)) = 0 → Ex ω ML_isWritten 262 [some (.ref x0), none, some (.int x2), some (.int x3), some (.int x4), none, some (.int x6)] [.ref x0] h 0 0 Q) : Ex ω ML_isWritten 255 [some (.ref x0), u1, some (.int x2), some (.int x3), some (.int x4), u5, some (.int x6)] [] h 0 0 Q := by
  refine x_dr1 ?_
  refine x_dr5 ?_
  refine x_aload0 256 dL_isWritten_255 rfl ?_
  refine x_iload2 257 dL_isWritten_256 rfl ?_
  refine x_iconst (nI 2) 258 dL_isWritten_257 rfl rfl ?_
  refine x_irem 259 dL_isWritten_258 rfl (by decide) ?_
  exact x_if_ne 262 267 dL_isWritten_259 rfl (by decide) kt kf
set_option maxRecDepth 20000 in
theorem BL_isWritten_262 {ω : Om} {h : AH} {Q : Option Value → AH → Prop} {x0 : Nat} {u1 : Option Value} {u2 : Option Value} {x3 : Int32} {x4 : Int32} {u5 : Option Value} {x6 : Int32} {y0 : Nat} (hw : ω.2.2.2.1 = true) (kt : Ex ω ML_isWritten 269 [some (.ref x0), none, none, some (.int x3), some (.int x4), none, some (.int x6)] [.int (nI 44), .ref y0] h 0 0 Q) : Ex ω ML_isWritten 262 [some (.ref x0), u1, u2, some (.int x3), some (.int x4), u5, some (.int x6)] [.ref y0] h 0 0 Q := by
  refine x_dr1 ?_
  refine x_dr2 ?_
  refine x_dr5 ?_
  refine x_bipush (nI 44) 264 dL_isWritten_262 rfl rfl ?_
  exact x_goto 269 dL_isWritten_264 (by decide) kt
set_option maxRecDepth 20000 in
theorem BL_isWritten_267 {ω : Om} {h : AH} {Q : Option Value → AH → Prop} {x0 : Nat} {u1 : Option Value} {u2 : Option Value} {x3 : Int32} {x4 : Int32} {u5 : Option Value} {x6 : Int32} {y0 : Nat} (hw : ω.2.2.2.1 = true) (kf : Ex ω ML_isWritten 269 [some (.ref x0), none, none, some (.int x3), some (.int x4), none, some (.int x6)] [.int (nI 35), .ref y0] h 0 0 Q) : Ex ω ML_isWritten 267 [some (.ref x0), u1, u2, some (.int x3), some (.int x4), u5, some (.int x6)] [.ref y0] h 0 0 Q := by
  refine x_dr1 ?_
  refine x_dr2 ?_
  refine x_dr5 ?_
  refine x_bipush (nI 35) 269 dL_isWritten_267 rfl rfl ?_
  exact kf
set_option maxRecDepth 20000 in
theorem BL_isWritten_269 {ω : Om} {h : AH} {Q : Option Value → AH → Prop} {x0 : Nat} {u1 : Option Value} {u2 : Option Value} {x3 : Int32} {x4 : Int32} {u5 : Option Value} {x6 : Int32} {y0 : Nat} {y1 : Int32} (hw : ω.2.2.2.1 = true) (s_y0 : gs h y0 = some (8, 8)) (kk : Ex ω M8_type 0 [some (.ref y0), some (.int y1)] [] h 0 0 (fun v h' => Ex ω ML_isWritten 272 [some (.ref x0), none, none, some (.int x3), some (.int x4), none, some (.int x6)] (v.toList ++ []) h' 0 0 Q)) : Ex ω ML_isWritten 269 [some (.ref x0), u1, u2, some (.int x3), some (.int x4), u5, some (.int x6)] [.int y1, .ref y0] h 0 0 Q := by
  refine x_dr1 ?_
  refine x_dr2 ?_
  refine x_dr5 ?_
  exact x_callV 272 y0 [.int y1] [] dL_isWritten_269 rfl lk_8_type ⟨wd317, wd318, wd319⟩ ⟨by decide, by decide⟩ (recvO cf8 (fun _ => s_y0)) rfl rfl (Nat.le_of_ble_eq_true rfl) (Nat.le_of_ble_eq_true rfl) (by decide) (by decide) kk
set_option maxRecDepth 20000 in
theorem BL_isWritten_272 {ω : Om} {h : AH} {Q : Option Value → AH → Prop} {x0 : Nat} {u1 : Option Value} {u2 : Option Value} {x3 : Int32} {x4 : Int32} {u5 : Option Value} {x6 : Int32} {y0 : Int32} (hw : ω.2.2.2.1 = true) (kt : ¬ y0 = (x4 + (nI 1)) → Ex ω ML_isWritten 310 [some (.ref x0), none, none, some (.int x3), some (.int x4), none, some (.int x6)] [] h 0 0 Q) (kf : y0 = (x4 + (nI 1)) → Ex ω ML_isWritten 279 [some (.ref x0), none, none, some (.int x3), some (.int x4), none, some (.int x6)] [] h 0 0 Q) : Ex ω ML_isWritten 272 [some (.ref x0), u1, u2, some (.int x3), some (.int x4), u5, some (.int x6)] [.int y0] h 0 0 Q := by
  refine x_dr1 ?_
  refine x_dr2 ?_
  refine x_dr5 ?_
  refine x_iload4 274 dL_isWritten_272 rfl ?_
  refine x_iconst (nI 1) 275 dL_isWritten_274 rfl rfl ?_
  refine x_iadd 276 dL_isWritten_275 rfl ?_
  exact x_icmp_ne 279 310 dL_isWritten_276 rfl (by decide) kt kf
set_option maxRecDepth 20000 in
theorem BL_isWritten_279 {ω : Om} {h : AH} {Q : Option Value → AH → Prop} {x0 : Nat} {u1 : Option Value} {u2 : Option Value} {x3 : Int32} {u4 : Option Value} {u5 : Option Value} {x6 : Int32} (hw : ω.2.2.2.1 = true) (s_x0 : gs h x0 = some (8, 8)) (kk : Ex ω M8_fault 0 [some (.ref x0), none] [] h 0 0 (fun v h' => Ex ω ML_isWritten 283 [some (.ref x0), none, none, some (.int x3), none, none, some (.int x6)] (v.toList ++ []) h' 0 0 Q)) : Ex ω ML_isWritten 279 [some (.ref x0), u1, u2, some (.int x3), u4, u5, some (.int x6)] [] h 0 0 Q := by
  refine x_dr1 ?_
  refine x_dr2 ?_
  refine x_dr4 ?_
  refine x_dr5 ?_
  refine x_aload0 280 dL_isWritten_279 rfl ?_
  exact x_callV 283 x0 [] [] dL_isWritten_280 rfl lk_8_fault ⟨wd164, wd165, wd166⟩ ⟨by decide, by decide⟩ (recvO cf8 (fun _ => s_x0)) rfl rfl (Nat.le_of_ble_eq_true rfl) (Nat.le_of_ble_eq_true rfl) (by decide) (by decide) kk
set_option maxRecDepth 20000 in
theorem BL_isWritten_283 {ω : Om} {h : AH} {Q : Option Value → AH → Prop} {x0 : Nat} {u1 : Option Value} {u2 : Option Value} {x3 : Int32} {u4 : Option Value} {u5 : Option Value} {x6 : Int32} {y0 : Int32} (hw : ω.2.2.2.1 = true) (kt : ¬ y0 = x6 → Ex ω ML_isWritten 310 [some (.ref x0), none, none, some (.int x3), none, none, some (.int x6)] [] h 0 0 Q) (kf : y0 = x6 → Ex ω ML_isWritten 288 [some (.ref x0), none, none, some (.int x3), none, none, some (.int x6)] [] h 0 0 Q) : Ex ω ML_isWritten 283 [some (.ref x0), u1, u2, some (.int x3), u4, u5, some (.int x6)] [.int y0] h 0 0 Q := by
  refine x_dr1 ?_
  refine x_dr2 ?_
  refine x_dr4 ?_
  refine x_dr5 ?_
  refine x_iload6 285 dL_isWritten_283 rfl ?_
  exact x_icmp_ne 288 310 dL_isWritten_285 rfl (by decide) kt kf
set_option maxRecDepth 20000 in
theorem BL_isWritten_288 {ω : Om} {h : AH} {Q : Option Value → AH → Prop} {x0 : Nat} {u1 : Option Value} {u2 : Option Value} {x3 : Int32} {u4 : Option Value} {u5 : Option Value} {u6 : Option Value} (hw : ω.2.2.2.1 = true) (s_x0 : gs h x0 = some (8, 8)) (kk : Ex ω M8_load 0 [some (.ref x0)] [] h 0 0 (fun v h' => Ex ω ML_isWritten 292 [some (.ref x0), none, none, some (.int x3), none, none, none] (v.toList ++ []) h' 0 0 Q)) : Ex ω ML_isWritten 288 [some (.ref x0), u1, u2, some (.int x3), u4, u5, u6] [] h 0 0 Q := by
  refine x_dr1 ?_
  refine x_dr2 ?_
  refine x_dr4 ?_
  refine x_dr5 ?_
  refine x_dr6 ?_
  refine x_aload0 289 dL_isWritten_288 rfl ?_
  exact x_callV 292 x0 [] [] dL_isWritten_289 rfl lk_8_load ⟨wd250, wd251, wd252⟩ ⟨by decide, by decide⟩ (recvO cf8 (fun _ => s_x0)) rfl rfl (Nat.le_of_ble_eq_true rfl) (Nat.le_of_ble_eq_true rfl) (by decide) (by decide) kk
set_option maxRecDepth 20000 in
theorem BL_isWritten_292 {ω : Om} {h : AH} {Q : Option Value → AH → Prop} {x0 : Nat} {u1 : Option Value} {u2 : Option Value} {x3 : Int32} {u4 : Option Value} {u5 : Option Value} {u6 : Option Value} {y0 : Int32} (hw : ω.2.2.2.1 = true) (kt : ¬ y0 = ((-2)) → Ex ω ML_isWritten 310 [some (.ref x0), none, none, some (.int x3), none, none, none] [] h 0 0 Q) (kf : y0 = ((-2)) → Ex ω ML_isWritten 297 [some (.ref x0), none, none, some (.int x3), none, none, none] [] h 0 0 Q) : Ex ω ML_isWritten 292 [some (.ref x0), u1, u2, some (.int x3), u4, u5, u6] [.int y0] h 0 0 Q := by
  refine x_dr1 ?_
  refine x_dr2 ?_
  refine x_dr4 ?_
  refine x_dr5 ?_
  refine x_dr6 ?_
  refine x_bipush ((-2)) 294 dL_isWritten_292 rfl rfl ?_
  exact x_icmp_ne 297 310 dL_isWritten_294 rfl (by decide) kt kf
set_option maxRecDepth 20000 in
theorem BL_isWritten_297 {ω : Om} {h : AH} {Q : Option Value → AH → Prop} {x0 : Nat} {u1 : Option Value} {u2 : Option Value} {x3 : Int32} {u4 : Option Value} {u5 : Option Value} {u6 : Option Value} (hw : ω.2.2.2.1 = true) (s_x0 : gs h x0 = some (8, 8)) (kk : Ex ω M8_count 0 [some (.ref x0), some (.int (nI 3))] [] h 0 0 (fun v h' => Ex ω ML_isWritten 302 [some (.ref x0), none, none, some (.int x3), none, none, none] (v.toList ++ []) h' 0 0 Q)) : Ex ω ML_isWritten 297 [some (.ref x0), u1, u2, some (.int x3), u4, u5, u6] [] h 0 0 Q := by
  refine x_dr1 ?_
  refine x_dr2 ?_
  refine x_dr4 ?_
  refine x_dr5 ?_
  refine x_dr6 ?_
  refine x_aload0 298 dL_isWritten_297 rfl ?_
  refine x_iconst (nI 3) 299 dL_isWritten_298 rfl rfl ?_
  exact x_callV 302 x0 [.int (nI 3)] [] dL_isWritten_299 rfl lk_8_count ⟨wd282, wd283, wd284⟩ ⟨by decide, by decide⟩ (recvO cf8 (fun _ => s_x0)) rfl rfl (Nat.le_of_ble_eq_true rfl) (Nat.le_of_ble_eq_true rfl) (by decide) (by decide) kk
set_option maxRecDepth 20000 in
theorem BL_isWritten_302 {ω : Om} {h : AH} {Q : Option Value → AH → Prop} {u0 : Option Value} {u1 : Option Value} {u2 : Option Value} {x3 : Int32} {u4 : Option Value} {u5 : Option Value} {u6 : Option Value} {y0 : Int32} (hw : ω.2.2.2.1 = true) (kt : ¬ y0 = x3 → Ex ω ML_isWritten 310 [none, none, none, some (.int x3), none, none, none] [] h 0 0 Q) (kf : y0 = x3 → Ex ω ML_isWritten 306 [none, none, none, some (.int x3), none, none, none] [] h 0 0 Q) : Ex ω ML_isWritten 302 [u0, u1, u2, some (.int x3), u4, u5, u6] [.int y0] h 0 0 Q := by
  refine x_dr0 ?_
  refine x_dr1 ?_
  refine x_dr2 ?_
  refine x_dr4 ?_
  refine x_dr5 ?_
  refine x_dr6 ?_
  refine x_iload3 303 dL_isWritten_302 rfl ?_
  exact x_icmp_ne 306 310 dL_isWritten_303 rfl (by decide) kt kf
set_option maxRecDepth 20000 in
theorem BL_isWritten_306 {ω : Om} {h : AH} {Q : Option Value → AH → Prop} {u0 : Option Value} {u1 : Option Value} {u2 : Option Value} {u3 : Option Value} {u4 : Option Value} {u5 : Option Value} {u6 : Option Value} (hw : ω.2.2.2.1 = true) (kt : Ex ω ML_isWritten 311 [none, none, none, none, none, none, none] [.int (nI 1)] h 0 0 Q) : Ex ω ML_isWritten 306 [u0, u1, u2, u3, u4, u5, u6] [] h 0 0 Q := by
  refine x_dr0 ?_
  refine x_dr1 ?_
  refine x_dr2 ?_
  refine x_dr3 ?_
  refine x_dr4 ?_
  refine x_dr5 ?_
  refine x_dr6 ?_
  refine x_iconst (nI 1) 307 dL_isWritten_306 rfl rfl ?_
  exact x_goto 311 dL_isWritten_307 (by decide) kt
set_option maxRecDepth 20000 in
theorem BL_isWritten_310 {ω : Om} {h : AH} {Q : Option Value → AH → Prop} {u0 : Option Value} {u1 : Option Value} {u2 : Option Value} {u3 : Option Value} {u4 : Option Value} {u5 : Option Value} {u6 : Option Value} (hw : ω.2.2.2.1 = true) (kf : Ex ω ML_isWritten 311 [none, none, none, none, none, none, none] [.int (nI 0)] h 0 0 Q) : Ex ω ML_isWritten 310 [u0, u1, u2, u3, u4, u5, u6] [] h 0 0 Q := by
  refine x_dr0 ?_
  refine x_dr1 ?_
  refine x_dr2 ?_
  refine x_dr3 ?_
  refine x_dr4 ?_
  refine x_dr5 ?_
  refine x_dr6 ?_
  refine x_iconst (nI 0) 311 dL_isWritten_310 rfl rfl ?_
  exact kf
set_option maxRecDepth 20000 in
theorem BL_isWritten_311 {ω : Om} {h : AH} {Q : Option Value → AH → Prop} {u0 : Option Value} {u1 : Option Value} {u2 : Option Value} {u3 : Option Value} {u4 : Option Value} {u5 : Option Value} {u6 : Option Value} {y0 : Int32} (hw : ω.2.2.2.1 = true) (kf : Ex ω ML_isWritten 313 [none, none, none, none, none, some (.int y0), none] [] h 0 0 Q) : Ex ω ML_isWritten 311 [u0, u1, u2, u3, u4, u5, u6] [.int y0] h 0 0 Q := by
  refine x_dr0 ?_
  refine x_dr1 ?_
  refine x_dr2 ?_
  refine x_dr3 ?_
  refine x_dr4 ?_
  refine x_dr5 ?_
  refine x_dr6 ?_
  refine x_istore5 313 dL_isWritten_311 rfl (by decide) rfl ?_
  exact kf
set_option maxRecDepth 20000 in
theorem BL_isWritten_313 {ω : Om} {h : AH} {Q : Option Value → AH → Prop} {u0 : Option Value} {u1 : Option Value} {u2 : Option Value} {u3 : Option Value} {u4 : Option Value} {x5 : Int32} {u6 : Option Value} (hw : ω.2.2.2.1 = true) (hz : narrow .boolean (.int x5) = .int x5) (hq : Q (some (.int x5)) h) : Ex ω ML_isWritten 313 [u0, u1, u2, u3, u4, some (.int x5), u6] [] h 0 0 Q := by
  refine x_dr0 ?_
  refine x_dr1 ?_
  refine x_dr2 ?_
  refine x_dr3 ?_
  refine x_dr4 ?_
  refine x_dr6 ?_
  refine x_iload5 315 dL_isWritten_313 rfl ?_
  exact x_zret dL_isWritten_315 rfl hz (Nat.zero_le _) (Nat.zero_le _) hq
set_option maxRecDepth 20000 in
theorem BL_isKept_0 {ω : Om} {h : AH} {Q : Option Value → AH → Prop} {x0 : Nat} {x1 : Int32} {u2 : Option Value} {u3 : Option Value} {u4 : Option Value} {u5 : Option Value} (hw : ω.2.2.2.1 = true) (kf : Ex ω ML_isKept 4 [some (.ref x0), some (.int x1), some (.int (nI 0)), some (.int (nI 0)), none, none] [] h 0 0 Q) : Ex ω ML_isKept 0 [some (.ref x0), some (.int x1), u2, u3, u4, u5] [] h 0 0 Q := by
  refine x_dr2 ?_
  refine x_dr3 ?_
  refine x_dr4 ?_
  refine x_dr5 ?_
  refine x_iconst (nI 0) 1 dL_isKept_0 rfl rfl ?_
  refine x_istore2 2 dL_isKept_1 rfl (by decide) rfl ?_
  refine x_iconst (nI 0) 3 dL_isKept_2 rfl rfl ?_
  refine x_istore3 4 dL_isKept_3 rfl (by decide) rfl ?_
  exact kf
set_option maxRecDepth 20000 in
theorem BL_isKept_4 {ω : Om} {h : AH} {Q : Option Value → AH → Prop} {x0 : Nat} {x1 : Int32} {x2 : Int32} {x3 : Int32} {u4 : Option Value} {u5 : Option Value} (hw : ω.2.2.2.1 = true) (s_x0 : gs h x0 = some (8, 8)) (kk : Ex ω M8_count 0 [some (.ref x0), some (.int (nI 0))] [] h 0 0 (fun v h' => Ex ω ML_isKept 10 [some (.ref x0), some (.int x1), some (.int x2), some (.int x3), none, none] (v.toList ++ [.int x3]) h' 0 0 Q)) : Ex ω ML_isKept 4 [some (.ref x0), some (.int x1), some (.int x2), some (.int x3), u4, u5] [] h 0 0 Q := by
  refine x_dr4 ?_
  refine x_dr5 ?_
  refine x_iload3 5 dL_isKept_4 rfl ?_
  refine x_aload0 6 dL_isKept_5 rfl ?_
  refine x_iconst (nI 0) 7 dL_isKept_6 rfl rfl ?_
  exact x_callV 10 x0 [.int (nI 0)] [.int x3] dL_isKept_7 rfl lk_8_count ⟨wd282, wd283, wd284⟩ ⟨by decide, by decide⟩ (recvO cf8 (fun _ => s_x0)) rfl rfl (Nat.le_of_ble_eq_true rfl) (Nat.le_of_ble_eq_true rfl) (by decide) (by decide) kk
set_option maxRecDepth 20000 in
theorem BL_isKept_10 {ω : Om} {h : AH} {Q : Option Value → AH → Prop} {x0 : Nat} {x1 : Int32} {x2 : Int32} {x3 : Int32} {u4 : Option Value} {u5 : Option Value} {y0 : Int32} {y1 : Int32} (hw : ω.2.2.2.1 = true) (kt : y1 ≤ y0 → Ex ω ML_isKept 96 [some (.ref x0), some (.int x1), some (.int x2), some (.int x3), none, none] [] h 0 0 Q) (kf : ¬ y1 ≤ y0 → Ex ω ML_isKept 13 [some (.ref x0), some (.int x1), some (.int x2), some (.int x3), none, none] [] h 0 0 Q) : Ex ω ML_isKept 10 [some (.ref x0), some (.int x1), some (.int x2), some (.int x3), u4, u5] [.int y1, .int y0] h 0 0 Q := by
  refine x_dr4 ?_
  refine x_dr5 ?_
  exact x_icmp_ge 13 96 dL_isKept_10 rfl (by decide) kt kf
set_option maxRecDepth 20000 in
theorem BL_isKept_13 {ω : Om} {h : AH} {Q : Option Value → AH → Prop} {x0 : Nat} {x1 : Int32} {x2 : Int32} {x3 : Int32} {u4 : Option Value} {u5 : Option Value} (hw : ω.2.2.2.1 = true) (s_x0 : gs h x0 = some (8, 8)) (kk : Ex ω M8_roll 0 [some (.ref x0), some (.int x3), some (.int (nI 0))] [] h 0 0 (fun v h' => Ex ω ML_isKept 20 [some (.ref x0), some (.int x1), some (.int x2), some (.int x3), none, none] (v.toList ++ [.int x2]) h' 0 0 Q)) : Ex ω ML_isKept 13 [some (.ref x0), some (.int x1), some (.int x2), some (.int x3), u4, u5] [] h 0 0 Q := by
  refine x_dr4 ?_
  refine x_dr5 ?_
  refine x_iload2 14 dL_isKept_13 rfl ?_
  refine x_aload0 15 dL_isKept_14 rfl ?_
  refine x_iload3 16 dL_isKept_15 rfl ?_
  refine x_iconst (nI 0) 17 dL_isKept_16 rfl rfl ?_
  exact x_callV 20 x0 [.int x3, .int (nI 0)] [.int x2] dL_isKept_17 rfl lk_8_roll ⟨wd402, wd403, wd404⟩ ⟨by decide, by decide⟩ (recvO cf8 (fun _ => s_x0)) rfl rfl (Nat.le_of_ble_eq_true rfl) (Nat.le_of_ble_eq_true rfl) (by decide) (by decide) kk
set_option maxRecDepth 20000 in
theorem BL_isKept_20 {ω : Om} {h : AH} {Q : Option Value → AH → Prop} {x0 : Nat} {x1 : Int32} {u2 : Option Value} {x3 : Int32} {u4 : Option Value} {u5 : Option Value} {y0 : Int32} {y1 : Int32} (hw : ω.2.2.2.1 = true) (s_x0 : gs h x0 = some (8, 8)) (kk : Ex ω M8_roll 0 [some (.ref x0), some (.int x3), some (.int (nI 2))] [] h 0 0 (fun v h' => Ex ω ML_isKept 26 [some (.ref x0), some (.int x1), none, some (.int x3), none, none] (v.toList ++ [.int y1, .int y0]) h' 0 0 Q)) : Ex ω ML_isKept 20 [some (.ref x0), some (.int x1), u2, some (.int x3), u4, u5] [.int y1, .int y0] h 0 0 Q := by
  refine x_dr2 ?_
  refine x_dr4 ?_
  refine x_dr5 ?_
  refine x_aload0 21 dL_isKept_20 rfl ?_
  refine x_iload3 22 dL_isKept_21 rfl ?_
  refine x_iconst (nI 2) 23 dL_isKept_22 rfl rfl ?_
  exact x_callV 26 x0 [.int x3, .int (nI 2)] [.int y1, .int y0] dL_isKept_23 rfl lk_8_roll ⟨wd402, wd403, wd404⟩ ⟨by decide, by decide⟩ (recvO cf8 (fun _ => s_x0)) rfl rfl (Nat.le_of_ble_eq_true rfl) (Nat.le_of_ble_eq_true rfl) (by decide) (by decide) kk
set_option maxRecDepth 20000 in
theorem BL_isKept_26 {ω : Om} {h : AH} {Q : Option Value → AH → Prop} {x0 : Nat} {x1 : Int32} {u2 : Option Value} {x3 : Int32} {u4 : Option Value} {u5 : Option Value} {y0 : Int32} {y1 : Int32} {y2 : Int32} (hw : ω.2.2.2.1 = true) (s_x0 : gs h x0 = some (8, 8)) (kk : Ex ω M8_roll 0 [some (.ref x0), some (.int x3), some (.int (nI 3))] [] h 0 0 (fun v h' => Ex ω ML_isKept 35 [some (.ref x0), some (.int x1), some (.int (y0 + (y1 - y2))), some (.int x3), none, none] (v.toList ++ []) h' 0 0 Q)) : Ex ω ML_isKept 26 [some (.ref x0), some (.int x1), u2, some (.int x3), u4, u5] [.int y2, .int y1, .int y0] h 0 0 Q := by
  refine x_dr2 ?_
  refine x_dr4 ?_
  refine x_dr5 ?_
  refine x_isub 27 dL_isKept_26 rfl ?_
  refine x_iadd 28 dL_isKept_27 rfl ?_
  refine x_istore2 29 dL_isKept_28 rfl (by decide) rfl ?_
  refine x_aload0 30 dL_isKept_29 rfl ?_
  refine x_iload3 31 dL_isKept_30 rfl ?_
  refine x_iconst (nI 3) 32 dL_isKept_31 rfl rfl ?_
  exact x_callV 35 x0 [.int x3, .int (nI 3)] [] dL_isKept_32 rfl lk_8_roll ⟨wd402, wd403, wd404⟩ ⟨by decide, by decide⟩ (recvO cf8 (fun _ => s_x0)) rfl rfl (Nat.le_of_ble_eq_true rfl) (Nat.le_of_ble_eq_true rfl) (by decide) (by decide) kk
set_option maxRecDepth 20000 in
theorem BL_isKept_35 {ω : Om} {h : AH} {Q : Option Value → AH → Prop} {x0 : Nat} {x1 : Int32} {x2 : Int32} {x3 : Int32} {u4 : Option Value} {u5 : Option Value} {y0 : Int32} (hw : ω.2.2.2.1 = true) (s_x0 : gs h x0 = some (8, 8)) (kk : Ex ω M8_roll 0 [some (.ref x0), some (.int x3), some (.int (nI 4))] [] h 0 0 (fun v h' => Ex ω ML_isKept 43 [some (.ref x0), some (.int x1), some (.int x2), some (.int x3), some (.int y0), none] (v.toList ++ []) h' 0 0 Q)) : Ex ω ML_isKept 35 [some (.ref x0), some (.int x1), some (.int x2), some (.int x3), u4, u5] [.int y0] h 0 0 Q := by
  refine x_dr4 ?_
  refine x_dr5 ?_
  refine x_istore4 37 dL_isKept_35 rfl (by decide) rfl ?_
  refine x_aload0 38 dL_isKept_37 rfl ?_
  refine x_iload3 39 dL_isKept_38 rfl ?_
  refine x_iconst (nI 4) 40 dL_isKept_39 rfl rfl ?_
  exact x_callV 43 x0 [.int x3, .int (nI 4)] [] dL_isKept_40 rfl lk_8_roll ⟨wd402, wd403, wd404⟩ ⟨by decide, by decide⟩ (recvO cf8 (fun _ => s_x0)) rfl rfl (Nat.le_of_ble_eq_true rfl) (Nat.le_of_ble_eq_true rfl) (by decide) (by decide) kk
set_option maxRecDepth 20000 in
theorem BL_isKept_43 {ω : Om} {h : AH} {Q : Option Value → AH → Prop} {x0 : Nat} {x1 : Int32} {x2 : Int32} {x3 : Int32} {x4 : Int32} {u5 : Option Value} {y0 : Int32} (hw : ω.2.2.2.1 = true) (kt : y0 ≤ 0 → Ex ω ML_isKept 50 [some (.ref x0), some (.int x1), some (.int x2), some (.int x3), some (.int x4), none] [] h 0 0 Q) (kf : ¬ y0 ≤ 0 → Ex ω ML_isKept 46 [some (.ref x0), some (.int x1), some (.int x2), some (.int x3), some (.int x4), none] [] h 0 0 Q) : Ex ω ML_isKept 43 [some (.ref x0), some (.int x1), some (.int x2), some (.int x3), some (.int x4), u5] [.int y0] h 0 0 Q := by
  refine x_dr5 ?_
  exact x_if_le 46 50 dL_isKept_43 rfl (by decide) kt kf
set_option maxRecDepth 20000 in
theorem BL_isKept_46 {ω : Om} {h : AH} {Q : Option Value → AH → Prop} {x0 : Nat} {x1 : Int32} {x2 : Int32} {x3 : Int32} {x4 : Int32} {u5 : Option Value} (hw : ω.2.2.2.1 = true) (kt : Ex ω ML_isKept 51 [some (.ref x0), some (.int x1), some (.int x2), some (.int x3), some (.int x4), none] [.int (nI 1)] h 0 0 Q) : Ex ω ML_isKept 46 [some (.ref x0), some (.int x1), some (.int x2), some (.int x3), some (.int x4), u5] [] h 0 0 Q := by
  refine x_dr5 ?_
  refine x_iconst (nI 1) 47 dL_isKept_46 rfl rfl ?_
  exact x_goto 51 dL_isKept_47 (by decide) kt
set_option maxRecDepth 20000 in
theorem BL_isKept_50 {ω : Om} {h : AH} {Q : Option Value → AH → Prop} {x0 : Nat} {x1 : Int32} {x2 : Int32} {x3 : Int32} {x4 : Int32} {u5 : Option Value} (hw : ω.2.2.2.1 = true) (kf : Ex ω ML_isKept 51 [some (.ref x0), some (.int x1), some (.int x2), some (.int x3), some (.int x4), none] [.int (nI 0)] h 0 0 Q) : Ex ω ML_isKept 50 [some (.ref x0), some (.int x1), some (.int x2), some (.int x3), some (.int x4), u5] [] h 0 0 Q := by
  refine x_dr5 ?_
  refine x_iconst (nI 0) 51 dL_isKept_50 rfl rfl ?_
  exact kf
set_option maxRecDepth 20000 in
theorem BL_isKept_51 {ω : Om} {h : AH} {Q : Option Value → AH → Prop} {x0 : Nat} {x1 : Int32} {x2 : Int32} {x3 : Int32} {x4 : Int32} {u5 : Option Value} {y0 : Int32} (hw : ω.2.2.2.1 = true) (kt : x4 ≤ 0 → Ex ω ML_isKept 64 [some (.ref x0), some (.int x1), some (.int x2), some (.int x3), some (.int x4), some (.int y0)] [.int y0] h 0 0 Q) (kf : ¬ x4 ≤ 0 → Ex ω ML_isKept 60 [some (.ref x0), some (.int x1), some (.int x2), some (.int x3), some (.int x4), some (.int y0)] [.int y0] h 0 0 Q) : Ex ω ML_isKept 51 [some (.ref x0), some (.int x1), some (.int x2), some (.int x3), some (.int x4), u5] [.int y0] h 0 0 Q := by
  refine x_dr5 ?_
  refine x_istore5 53 dL_isKept_51 rfl (by decide) rfl ?_
  refine x_iload5 55 dL_isKept_53 rfl ?_
  refine x_iload4 57 dL_isKept_55 rfl ?_
  exact x_if_le 60 64 dL_isKept_57 rfl (by decide) kt kf
set_option maxRecDepth 20000 in
theorem BL_isKept_60 {ω : Om} {h : AH} {Q : Option Value → AH → Prop} {x0 : Nat} {x1 : Int32} {x2 : Int32} {x3 : Int32} {u4 : Option Value} {x5 : Int32} {y0 : Int32} (hw : ω.2.2.2.1 = true) (kt : Ex ω ML_isKept 65 [some (.ref x0), some (.int x1), some (.int x2), some (.int x3), none, some (.int x5)] [.int (nI 1), .int y0] h 0 0 Q) : Ex ω ML_isKept 60 [some (.ref x0), some (.int x1), some (.int x2), some (.int x3), u4, some (.int x5)] [.int y0] h 0 0 Q := by
  refine x_dr4 ?_
  refine x_iconst (nI 1) 61 dL_isKept_60 rfl rfl ?_
  exact x_goto 65 dL_isKept_61 (by decide) kt
set_option maxRecDepth 20000 in
theorem BL_isKept_64 {ω : Om} {h : AH} {Q : Option Value → AH → Prop} {x0 : Nat} {x1 : Int32} {x2 : Int32} {x3 : Int32} {u4 : Option Value} {x5 : Int32} {y0 : Int32} (hw : ω.2.2.2.1 = true) (kf : Ex ω ML_isKept 65 [some (.ref x0), some (.int x1), some (.int x2), some (.int x3), none, some (.int x5)] [.int (nI 0), .int y0] h 0 0 Q) : Ex ω ML_isKept 64 [some (.ref x0), some (.int x1), some (.int x2), some (.int x3), u4, some (.int x5)] [.int y0] h 0 0 Q := by
  refine x_dr4 ?_
  refine x_iconst (nI 0) 65 dL_isKept_64 rfl rfl ?_
  exact kf
set_option maxRecDepth 20000 in
theorem BL_isKept_65 {ω : Om} {h : AH} {Q : Option Value → AH → Prop} {x0 : Nat} {x1 : Int32} {x2 : Int32} {x3 : Int32} {u4 : Option Value} {x5 : Int32} {y0 : Int32} {y1 : Int32} (hw : ω.2.2.2.1 = true) (kt : ¬ y0 = y1 → Ex ω ML_isKept 88 [some (.ref x0), some (.int x1), some (.int x2), some (.int x3), none, some (.int x5)] [] h 0 0 Q) (kf : y0 = y1 → Ex ω ML_isKept 68 [some (.ref x0), some (.int x1), some (.int x2), some (.int x3), none, some (.int x5)] [] h 0 0 Q) : Ex ω ML_isKept 65 [some (.ref x0), some (.int x1), some (.int x2), some (.int x3), u4, some (.int x5)] [.int y1, .int y0] h 0 0 Q := by
  refine x_dr4 ?_
  exact x_icmp_ne 68 88 dL_isKept_65 rfl (by decide) kt kf
set_option maxRecDepth 20000 in
theorem BL_isKept_68 {ω : Om} {h : AH} {Q : Option Value → AH → Prop} {x0 : Nat} {x1 : Int32} {x2 : Int32} {x3 : Int32} {u4 : Option Value} {x5 : Int32} (hw : ω.2.2.2.1 = true) (kt : x5 = 0 → Ex ω ML_isKept 90 [some (.ref x0), some (.int x1), some (.int x2), some (.int x3), none, some (.int x5)] [] h 0 0 Q) (kf : ¬ x5 = 0 → Ex ω ML_isKept 73 [some (.ref x0), some (.int x1), some (.int x2), some (.int x3), none, some (.int x5)] [] h 0 0 Q) : Ex ω ML_isKept 68 [some (.ref x0), some (.int x1), some (.int x2), some (.int x3), u4, some (.int x5)] [] h 0 0 Q := by
  refine x_dr4 ?_
  refine x_iload5 70 dL_isKept_68 rfl ?_
  exact x_if_eq 73 90 dL_isKept_70 rfl (by decide) kt kf
set_option maxRecDepth 20000 in
theorem BL_isKept_73 {ω : Om} {h : AH} {Q : Option Value → AH → Prop} {x0 : Nat} {x1 : Int32} {x2 : Int32} {x3 : Int32} {u4 : Option Value} {u5 : Option Value} (hw : ω.2.2.2.1 = true) (s_x0 : gs h x0 = some (8, 8)) (kk : Ex ω M8_roll 0 [some (.ref x0), some (.int x3), some (.int (nI 4))] [] h 0 0 (fun v h' => Ex ω ML_isKept 79 [some (.ref x0), some (.int x1), some (.int x2), some (.int x3), none, none] (v.toList ++ []) h' 0 0 Q)) : Ex ω ML_isKept 73 [some (.ref x0), some (.int x1), some (.int x2), some (.int x3), u4, u5] [] h 0 0 Q := by
  refine x_dr4 ?_
  refine x_dr5 ?_
  refine x_aload0 74 dL_isKept_73 rfl ?_
  refine x_iload3 75 dL_isKept_74 rfl ?_
  refine x_iconst (nI 4) 76 dL_isKept_75 rfl rfl ?_
  exact x_callV 79 x0 [.int x3, .int (nI 4)] [] dL_isKept_76 rfl lk_8_roll ⟨wd402, wd403, wd404⟩ ⟨by decide, by decide⟩ (recvO cf8 (fun _ => s_x0)) rfl rfl (Nat.le_of_ble_eq_true rfl) (Nat.le_of_ble_eq_true rfl) (by decide) (by decide) kk
set_option maxRecDepth 20000 in
theorem BL_isKept_79 {ω : Om} {h : AH} {Q : Option Value → AH → Prop} {x0 : Nat} {x1 : Int32} {x2 : Int32} {x3 : Int32} {u4 : Option Value} {u5 : Option Value} {y0 : Int32} (hw : ω.2.2.2.1 = true) (s_x0 : gs h x0 = some (8, 8)) (kk : Ex ω M8_roll 0 [some (.ref x0), some (.int x3), some (.int (nI 2))] [] h 0 0 (fun v h' => Ex ω ML_isKept 85 [some (.ref x0), some (.int x1), some (.int x2), some (.int x3), none, none] (v.toList ++ [.int y0]) h' 0 0 Q)) : Ex ω ML_isKept 79 [some (.ref x0), some (.int x1), some (.int x2), some (.int x3), u4, u5] [.int y0] h 0 0 Q := by
  refine x_dr4 ?_
  refine x_dr5 ?_
  refine x_aload0 80 dL_isKept_79 rfl ?_
  refine x_iload3 81 dL_isKept_80 rfl ?_
  refine x_iconst (nI 2) 82 dL_isKept_81 rfl rfl ?_
  exact x_callV 85 x0 [.int x3, .int (nI 2)] [.int y0] dL_isKept_82 rfl lk_8_roll ⟨wd402, wd403, wd404⟩ ⟨by decide, by decide⟩ (recvO cf8 (fun _ => s_x0)) rfl rfl (Nat.le_of_ble_eq_true rfl) (Nat.le_of_ble_eq_true rfl) (by decide) (by decide) kk
set_option maxRecDepth 20000 in
theorem BL_isKept_85 {ω : Om} {h : AH} {Q : Option Value → AH → Prop} {x0 : Nat} {x1 : Int32} {x2 : Int32} {x3 : Int32} {u4 : Option Value} {u5 : Option Value} {y0 : Int32} {y1 : Int32} (hw : ω.2.2.2.1 = true) (kt : y1 < y0 → Ex ω ML_isKept 90 [some (.ref x0), some (.int x1), some (.int x2), some (.int x3), none, none] [] h 0 0 Q) (kf : ¬ y1 < y0 → Ex ω ML_isKept 88 [some (.ref x0), some (.int x1), some (.int x2), some (.int x3), none, none] [] h 0 0 Q) : Ex ω ML_isKept 85 [some (.ref x0), some (.int x1), some (.int x2), some (.int x3), u4, u5] [.int y1, .int y0] h 0 0 Q := by
  refine x_dr4 ?_
  refine x_dr5 ?_
  exact x_icmp_gt 88 90 dL_isKept_85 rfl (by decide) kt kf
set_option maxRecDepth 20000 in
theorem BL_isKept_88 {ω : Om} {h : AH} {Q : Option Value → AH → Prop} {u0 : Option Value} {u1 : Option Value} {u2 : Option Value} {u3 : Option Value} {u4 : Option Value} {u5 : Option Value} (hw : ω.2.2.2.1 = true) (hq : Q (some (.int (nI 0))) h) : Ex ω ML_isKept 88 [u0, u1, u2, u3, u4, u5] [] h 0 0 Q := by
  refine x_dr0 ?_
  refine x_dr1 ?_
  refine x_dr2 ?_
  refine x_dr3 ?_
  refine x_dr4 ?_
  refine x_dr5 ?_
  refine x_iconst (nI 0) 89 dL_isKept_88 rfl rfl ?_
  exact x_zret dL_isKept_89 rfl rfl (Nat.zero_le _) (Nat.zero_le _) hq
set_option maxRecDepth 20000 in
theorem BL_isKept_90 {ω : Om} {h : AH} {Q : Option Value → AH → Prop} {x0 : Nat} {x1 : Int32} {x2 : Int32} {x3 : Int32} {u4 : Option Value} {u5 : Option Value} (hw : ω.2.2.2.1 = true) (kt : Ex ω ML_isKept 4 [some (.ref x0), some (.int x1), some (.int x2), some (.int (x3 + (nI 1))), none, none] [] h 0 0 Q) : Ex ω ML_isKept 90 [some (.ref x0), some (.int x1), some (.int x2), some (.int x3), u4, u5] [] h 0 0 Q := by
  refine x_dr4 ?_
  refine x_dr5 ?_
  refine x_iinc3 (x3 + (nI 1)) 93 dL_isKept_90 rfl (by decide) rfl rfl ?_
  exact x_goto 4 dL_isKept_93 (by decide) kt
set_option maxRecDepth 20000 in
theorem BL_isKept_96 {ω : Om} {h : AH} {Q : Option Value → AH → Prop} {x0 : Nat} {x1 : Int32} {x2 : Int32} {u3 : Option Value} {u4 : Option Value} {u5 : Option Value} (hw : ω.2.2.2.1 = true) (s_x0 : gs h x0 = some (8, 8)) (kk : Ex ω M8_total 0 [some (.ref x0), some (.int (nI 0))] [] h 0 0 (fun v h' => Ex ω ML_isKept 101 [some (.ref x0), some (.int x1), some (.int x2), none, none, none] (v.toList ++ []) h' 0 0 Q)) : Ex ω ML_isKept 96 [some (.ref x0), some (.int x1), some (.int x2), u3, u4, u5] [] h 0 0 Q := by
  refine x_dr3 ?_
  refine x_dr4 ?_
  refine x_dr5 ?_
  refine x_aload0 97 dL_isKept_96 rfl ?_
  refine x_iconst (nI 0) 98 dL_isKept_97 rfl rfl ?_
  exact x_callV 101 x0 [.int (nI 0)] [] dL_isKept_98 rfl lk_8_total ⟨wd414, wd415, wd416⟩ ⟨by decide, by decide⟩ (recvO cf8 (fun _ => s_x0)) rfl rfl (Nat.le_of_ble_eq_true rfl) (Nat.le_of_ble_eq_true rfl) (by decide) (by decide) kk
set_option maxRecDepth 20000 in
theorem BL_isKept_101 {ω : Om} {h : AH} {Q : Option Value → AH → Prop} {x0 : Nat} {x1 : Int32} {x2 : Int32} {u3 : Option Value} {u4 : Option Value} {u5 : Option Value} {y0 : Int32} (hw : ω.2.2.2.1 = true) (s_x0 : gs h x0 = some (8, 8)) (kk : Ex ω M8_total 0 [some (.ref x0), some (.int (nI 1))] [] h 0 0 (fun v h' => Ex ω ML_isKept 106 [some (.ref x0), some (.int x1), some (.int x2), none, none, none] (v.toList ++ [.int y0]) h' 0 0 Q)) : Ex ω ML_isKept 101 [some (.ref x0), some (.int x1), some (.int x2), u3, u4, u5] [.int y0] h 0 0 Q := by
  refine x_dr3 ?_
  refine x_dr4 ?_
  refine x_dr5 ?_
  refine x_aload0 102 dL_isKept_101 rfl ?_
  refine x_iconst (nI 1) 103 dL_isKept_102 rfl rfl ?_
  exact x_callV 106 x0 [.int (nI 1)] [.int y0] dL_isKept_103 rfl lk_8_total ⟨wd414, wd415, wd416⟩ ⟨by decide, by decide⟩ (recvO cf8 (fun _ => s_x0)) rfl rfl (Nat.le_of_ble_eq_true rfl) (Nat.le_of_ble_eq_true rfl) (by decide) (by decide) kk
set_option maxRecDepth 20000 in
theorem BL_isKept_106 {ω : Om} {h : AH} {Q : Option Value → AH → Prop} {x0 : Nat} {x1 : Int32} {x2 : Int32} {u3 : Option Value} {u4 : Option Value} {u5 : Option Value} {y0 : Int32} {y1 : Int32} (hw : ω.2.2.2.1 = true) (s_x0 : gs h x0 = some (8, 8)) (kk : Ex ω M8_total 0 [some (.ref x0), some (.int (nI 2))] [] h 0 0 (fun v h' => Ex ω ML_isKept 111 [some (.ref x0), some (.int x1), some (.int x2), none, none, none] (v.toList ++ [.int y1, .int y0]) h' 0 0 Q)) : Ex ω ML_isKept 106 [some (.ref x0), some (.int x1), some (.int x2), u3, u4, u5] [.int y1, .int y0] h 0 0 Q := by
  refine x_dr3 ?_
  refine x_dr4 ?_
  refine x_dr5 ?_
  refine x_aload0 107 dL_isKept_106 rfl ?_
  refine x_iconst (nI 2) 108 dL_isKept_107 rfl rfl ?_
  exact x_callV 111 x0 [.int (nI 2)] [.int y1, .int y0] dL_isKept_108 rfl lk_8_total ⟨wd414, wd415, wd416⟩ ⟨by decide, by decide⟩ (recvO cf8 (fun _ => s_x0)) rfl rfl (Nat.le_of_ble_eq_true rfl) (Nat.le_of_ble_eq_true rfl) (by decide) (by decide) kk
set_option maxRecDepth 20000 in
theorem BL_isKept_111 {ω : Om} {h : AH} {Q : Option Value → AH → Prop} {x0 : Nat} {x1 : Int32} {x2 : Int32} {u3 : Option Value} {u4 : Option Value} {u5 : Option Value} {y0 : Int32} {y1 : Int32} {y2 : Int32} (hw : ω.2.2.2.1 = true) (s_x0 : gs h x0 = some (8, 8)) (kk : Ex ω M8_total 0 [some (.ref x0), some (.int (nI 3))] [] h 0 0 (fun v h' => Ex ω ML_isKept 117 [some (.ref x0), some (.int x1), some (.int x2), none, none, none] (v.toList ++ [.int (y1 + y2), .int y0]) h' 0 0 Q)) : Ex ω ML_isKept 111 [some (.ref x0), some (.int x1), some (.int x2), u3, u4, u5] [.int y2, .int y1, .int y0] h 0 0 Q := by
  refine x_dr3 ?_
  refine x_dr4 ?_
  refine x_dr5 ?_
  refine x_iadd 112 dL_isKept_111 rfl ?_
  refine x_aload0 113 dL_isKept_112 rfl ?_
  refine x_iconst (nI 3) 114 dL_isKept_113 rfl rfl ?_
  exact x_callV 117 x0 [.int (nI 3)] [.int (y1 + y2), .int y0] dL_isKept_114 rfl lk_8_total ⟨wd414, wd415, wd416⟩ ⟨by decide, by decide⟩ (recvO cf8 (fun _ => s_x0)) rfl rfl (Nat.le_of_ble_eq_true rfl) (Nat.le_of_ble_eq_true rfl) (by decide) (by decide) kk
set_option maxRecDepth 20000 in
theorem BL_isKept_117 {ω : Om} {h : AH} {Q : Option Value → AH → Prop} {x0 : Nat} {x1 : Int32} {x2 : Int32} {u3 : Option Value} {u4 : Option Value} {u5 : Option Value} {y0 : Int32} {y1 : Int32} {y2 : Int32} (hw : ω.2.2.2.1 = true) (s_x0 : gs h x0 = some (8, 8)) (kk : Ex ω M8_total 0 [some (.ref x0), some (.int (nI 4))] [] h 0 0 (fun v h' => Ex ω ML_isKept 123 [some (.ref x0), some (.int x1), some (.int x2), none, none, none] (v.toList ++ [.int (y1 + y2), .int y0]) h' 0 0 Q)) : Ex ω ML_isKept 117 [some (.ref x0), some (.int x1), some (.int x2), u3, u4, u5] [.int y2, .int y1, .int y0] h 0 0 Q := by
  refine x_dr3 ?_
  refine x_dr4 ?_
  refine x_dr5 ?_
  refine x_iadd 118 dL_isKept_117 rfl ?_
  refine x_aload0 119 dL_isKept_118 rfl ?_
  refine x_iconst (nI 4) 120 dL_isKept_119 rfl rfl ?_
  exact x_callV 123 x0 [.int (nI 4)] [.int (y1 + y2), .int y0] dL_isKept_120 rfl lk_8_total ⟨wd414, wd415, wd416⟩ ⟨by decide, by decide⟩ (recvO cf8 (fun _ => s_x0)) rfl rfl (Nat.le_of_ble_eq_true rfl) (Nat.le_of_ble_eq_true rfl) (by decide) (by decide) kk
set_option maxRecDepth 20000 in
theorem BL_isKept_123 {ω : Om} {h : AH} {Q : Option Value → AH → Prop} {x0 : Nat} {x1 : Int32} {x2 : Int32} {u3 : Option Value} {u4 : Option Value} {u5 : Option Value} {y0 : Int32} {y1 : Int32} {y2 : Int32} (hw : ω.2.2.2.1 = true) (kt : ¬ y0 = (y1 + y2) → Ex ω ML_isKept 142 [some (.ref x0), some (.int x1), some (.int x2), none, none, none] [] h 0 0 Q) (kf : y0 = (y1 + y2) → Ex ω ML_isKept 127 [some (.ref x0), some (.int x1), some (.int x2), none, none, none] [] h 0 0 Q) : Ex ω ML_isKept 123 [some (.ref x0), some (.int x1), some (.int x2), u3, u4, u5] [.int y2, .int y1, .int y0] h 0 0 Q := by
  refine x_dr3 ?_
  refine x_dr4 ?_
  refine x_dr5 ?_
  refine x_iadd 124 dL_isKept_123 rfl ?_
  exact x_icmp_ne 127 142 dL_isKept_124 rfl (by decide) kt kf
set_option maxRecDepth 20000 in
theorem BL_isKept_127 {ω : Om} {h : AH} {Q : Option Value → AH → Prop} {x0 : Nat} {x1 : Int32} {x2 : Int32} {u3 : Option Value} {u4 : Option Value} {u5 : Option Value} (hw : ω.2.2.2.1 = true) (s_x0 : gs h x0 = some (8, 8)) (kk : Ex ω M8_total 0 [some (.ref x0), some (.int (nI 0))] [] h 0 0 (fun v h' => Ex ω ML_isKept 133 [some (.ref x0), some (.int x1), some (.int x2), none, none, none] (v.toList ++ [.int x2]) h' 0 0 Q)) : Ex ω ML_isKept 127 [some (.ref x0), some (.int x1), some (.int x2), u3, u4, u5] [] h 0 0 Q := by
  refine x_dr3 ?_
  refine x_dr4 ?_
  refine x_dr5 ?_
  refine x_iload2 128 dL_isKept_127 rfl ?_
  refine x_aload0 129 dL_isKept_128 rfl ?_
  refine x_iconst (nI 0) 130 dL_isKept_129 rfl rfl ?_
  exact x_callV 133 x0 [.int (nI 0)] [.int x2] dL_isKept_130 rfl lk_8_total ⟨wd414, wd415, wd416⟩ ⟨by decide, by decide⟩ (recvO cf8 (fun _ => s_x0)) rfl rfl (Nat.le_of_ble_eq_true rfl) (Nat.le_of_ble_eq_true rfl) (by decide) (by decide) kk
set_option maxRecDepth 20000 in
theorem BL_isKept_133 {ω : Om} {h : AH} {Q : Option Value → AH → Prop} {u0 : Option Value} {x1 : Int32} {u2 : Option Value} {u3 : Option Value} {u4 : Option Value} {u5 : Option Value} {y0 : Int32} {y1 : Int32} (hw : ω.2.2.2.1 = true) (kt : ¬ (y0 + y1) = x1 → Ex ω ML_isKept 142 [none, some (.int x1), none, none, none, none] [] h 0 0 Q) (kf : (y0 + y1) = x1 → Ex ω ML_isKept 138 [none, some (.int x1), none, none, none, none] [] h 0 0 Q) : Ex ω ML_isKept 133 [u0, some (.int x1), u2, u3, u4, u5] [.int y1, .int y0] h 0 0 Q := by
  refine x_dr0 ?_
  refine x_dr2 ?_
  refine x_dr3 ?_
  refine x_dr4 ?_
  refine x_dr5 ?_
  refine x_iadd 134 dL_isKept_133 rfl ?_
  refine x_iload1 135 dL_isKept_134 rfl ?_
  exact x_icmp_ne 138 142 dL_isKept_135 rfl (by decide) kt kf
set_option maxRecDepth 20000 in
theorem BL_isKept_138 {ω : Om} {h : AH} {Q : Option Value → AH → Prop} {u0 : Option Value} {u1 : Option Value} {u2 : Option Value} {u3 : Option Value} {u4 : Option Value} {u5 : Option Value} (hw : ω.2.2.2.1 = true) (kt : Ex ω ML_isKept 143 [none, none, none, none, none, none] [.int (nI 1)] h 0 0 Q) : Ex ω ML_isKept 138 [u0, u1, u2, u3, u4, u5] [] h 0 0 Q := by
  refine x_dr0 ?_
  refine x_dr1 ?_
  refine x_dr2 ?_
  refine x_dr3 ?_
  refine x_dr4 ?_
  refine x_dr5 ?_
  refine x_iconst (nI 1) 139 dL_isKept_138 rfl rfl ?_
  exact x_goto 143 dL_isKept_139 (by decide) kt
set_option maxRecDepth 20000 in
theorem BL_isKept_142 {ω : Om} {h : AH} {Q : Option Value → AH → Prop} {u0 : Option Value} {u1 : Option Value} {u2 : Option Value} {u3 : Option Value} {u4 : Option Value} {u5 : Option Value} (hw : ω.2.2.2.1 = true) (kf : Ex ω ML_isKept 143 [none, none, none, none, none, none] [.int (nI 0)] h 0 0 Q) : Ex ω ML_isKept 142 [u0, u1, u2, u3, u4, u5] [] h 0 0 Q := by
  refine x_dr0 ?_
  refine x_dr1 ?_
  refine x_dr2 ?_
  refine x_dr3 ?_
  refine x_dr4 ?_
  refine x_dr5 ?_
  refine x_iconst (nI 0) 143 dL_isKept_142 rfl rfl ?_
  exact kf
set_option maxRecDepth 20000 in
theorem BL_isKept_143 {ω : Om} {h : AH} {Q : Option Value → AH → Prop} {u0 : Option Value} {u1 : Option Value} {u2 : Option Value} {u3 : Option Value} {u4 : Option Value} {u5 : Option Value} {y0 : Int32} (hw : ω.2.2.2.1 = true) (hz : narrow .boolean (.int y0) = .int y0) (hq : Q (some (.int y0)) h) : Ex ω ML_isKept 143 [u0, u1, u2, u3, u4, u5] [.int y0] h 0 0 Q := by
  refine x_dr0 ?_
  refine x_dr1 ?_
  refine x_dr2 ?_
  refine x_dr3 ?_
  refine x_dr4 ?_
  refine x_dr5 ?_
  exact x_zret dL_isKept_143 rfl hz (Nat.zero_le _) (Nat.zero_le _) hq
set_option maxRecDepth 20000 in
theorem BL_isUndone_0 {ω : Om} {h : AH} {Q : Option Value → AH → Prop} {x0 : Nat} {u1 : Option Value} {u2 : Option Value} {u3 : Option Value} {u4 : Option Value} {u5 : Option Value} {u6 : Option Value} {u7 : Option Value} {u8 : Option Value} {u9 : Option Value} {u10 : Option Value} {u11 : Option Value} {u12 : Option Value} (hw : ω.2.2.2.1 = true) (s_x0 : gs h x0 = some (8, 8)) (kk : Ex ω M8_count 0 [some (.ref x0), some (.int (nI 1))] [] h 0 0 (fun v h' => Ex ω ML_isUndone 5 [some (.ref x0), none, none, none, none, none, none, none, none, none, none, none, none] (v.toList ++ []) h' 0 0 Q)) : Ex ω ML_isUndone 0 [some (.ref x0), u1, u2, u3, u4, u5, u6, u7, u8, u9, u10, u11, u12] [] h 0 0 Q := by
  refine x_dr1 ?_
  refine x_dr2 ?_
  refine x_dr3 ?_
  refine x_dr4 ?_
  refine x_dr5 ?_
  refine x_dr6 ?_
  refine x_dr7 ?_
  refine x_dr8 ?_
  refine x_dr9 ?_
  refine x_dr10 ?_
  refine x_dr11 ?_
  refine x_dr12 ?_
  refine x_aload0 1 dL_isUndone_0 rfl ?_
  refine x_iconst (nI 1) 2 dL_isUndone_1 rfl rfl ?_
  exact x_callV 5 x0 [.int (nI 1)] [] dL_isUndone_2 rfl lk_8_count ⟨wd282, wd283, wd284⟩ ⟨by decide, by decide⟩ (recvO cf8 (fun _ => s_x0)) rfl rfl (Nat.le_of_ble_eq_true rfl) (Nat.le_of_ble_eq_true rfl) (by decide) (by decide) kk
set_option maxRecDepth 20000 in
theorem BL_isUndone_5 {ω : Om} {h : AH} {Q : Option Value → AH → Prop} {x0 : Nat} {u1 : Option Value} {u2 : Option Value} {u3 : Option Value} {u4 : Option Value} {u5 : Option Value} {u6 : Option Value} {u7 : Option Value} {u8 : Option Value} {u9 : Option Value} {u10 : Option Value} {u11 : Option Value} {u12 : Option Value} {y0 : Int32} (hw : ω.2.2.2.1 = true) (s_x0 : gs h x0 = some (8, 8)) (kk : Ex ω M8_waiting 0 [some (.ref x0), some (.int (nI 0)), some (.int (nI 0))] [] h 0 0 (fun v h' => Ex ω ML_isUndone 12 [some (.ref x0), some (.int y0), none, none, none, none, none, none, none, none, none, none, none] (v.toList ++ []) h' 0 0 Q)) : Ex ω ML_isUndone 5 [some (.ref x0), u1, u2, u3, u4, u5, u6, u7, u8, u9, u10, u11, u12] [.int y0] h 0 0 Q := by
  refine x_dr1 ?_
  refine x_dr2 ?_
  refine x_dr3 ?_
  refine x_dr4 ?_
  refine x_dr5 ?_
  refine x_dr6 ?_
  refine x_dr7 ?_
  refine x_dr8 ?_
  refine x_dr9 ?_
  refine x_dr10 ?_
  refine x_dr11 ?_
  refine x_dr12 ?_
  refine x_istore1 6 dL_isUndone_5 rfl (by decide) rfl ?_
  refine x_aload0 7 dL_isUndone_6 rfl ?_
  refine x_iconst (nI 0) 8 dL_isUndone_7 rfl rfl ?_
  refine x_iconst (nI 0) 9 dL_isUndone_8 rfl rfl ?_
  exact x_callV 12 x0 [.int (nI 0), .int (nI 0)] [] dL_isUndone_9 rfl lk_8_waiting ⟨wd393, wd394, wd395⟩ ⟨by decide, by decide⟩ (recvO cf8 (fun _ => s_x0)) rfl rfl (Nat.le_of_ble_eq_true rfl) (Nat.le_of_ble_eq_true rfl) (by decide) (by decide) kk
set_option maxRecDepth 20000 in
theorem BL_isUndone_12 {ω : Om} {h : AH} {Q : Option Value → AH → Prop} {x0 : Nat} {x1 : Int32} {u2 : Option Value} {u3 : Option Value} {u4 : Option Value} {u5 : Option Value} {u6 : Option Value} {u7 : Option Value} {u8 : Option Value} {u9 : Option Value} {u10 : Option Value} {u11 : Option Value} {u12 : Option Value} {y0 : Int32} (hw : ω.2.2.2.1 = true) (s_x0 : gs h x0 = some (8, 8)) (kk : Ex ω M8_count 0 [some (.ref x0), some (.int (nI 2))] [] h 0 0 (fun v h' => Ex ω ML_isUndone 18 [some (.ref x0), some (.int x1), some (.int y0), none, none, none, none, none, none, none, none, none, none] (v.toList ++ []) h' 0 0 Q)) : Ex ω ML_isUndone 12 [some (.ref x0), some (.int x1), u2, u3, u4, u5, u6, u7, u8, u9, u10, u11, u12] [.int y0] h 0 0 Q := by
  refine x_dr2 ?_
  refine x_dr3 ?_
  refine x_dr4 ?_
  refine x_dr5 ?_
  refine x_dr6 ?_
  refine x_dr7 ?_
  refine x_dr8 ?_
  refine x_dr9 ?_
  refine x_dr10 ?_
  refine x_dr11 ?_
  refine x_dr12 ?_
  refine x_istore2 13 dL_isUndone_12 rfl (by decide) rfl ?_
  refine x_aload0 14 dL_isUndone_13 rfl ?_
  refine x_iconst (nI 2) 15 dL_isUndone_14 rfl rfl ?_
  exact x_callV 18 x0 [.int (nI 2)] [] dL_isUndone_15 rfl lk_8_count ⟨wd282, wd283, wd284⟩ ⟨by decide, by decide⟩ (recvO cf8 (fun _ => s_x0)) rfl rfl (Nat.le_of_ble_eq_true rfl) (Nat.le_of_ble_eq_true rfl) (by decide) (by decide) kk
set_option maxRecDepth 20000 in
theorem BL_isUndone_18 {ω : Om} {h : AH} {Q : Option Value → AH → Prop} {x0 : Nat} {x1 : Int32} {x2 : Int32} {u3 : Option Value} {u4 : Option Value} {u5 : Option Value} {u6 : Option Value} {u7 : Option Value} {u8 : Option Value} {u9 : Option Value} {u10 : Option Value} {u11 : Option Value} {u12 : Option Value} {y0 : Int32} (hw : ω.2.2.2.1 = true) (s_x0 : gs h x0 = some (8, 8)) (kk : Ex ω M8_count 0 [some (.ref x0), some (.int (nI 8))] [] h 0 0 (fun v h' => Ex ω ML_isUndone 25 [some (.ref x0), some (.int x1), some (.int x2), some (.int y0), none, none, none, none, none, none, none, none, none] (v.toList ++ []) h' 0 0 Q)) : Ex ω ML_isUndone 18 [some (.ref x0), some (.int x1), some (.int x2), u3, u4, u5, u6, u7, u8, u9, u10, u11, u12] [.int y0] h 0 0 Q := by
  refine x_dr3 ?_
  refine x_dr4 ?_
  refine x_dr5 ?_
  refine x_dr6 ?_
  refine x_dr7 ?_
  refine x_dr8 ?_
  refine x_dr9 ?_
  refine x_dr10 ?_
  refine x_dr11 ?_
  refine x_dr12 ?_
  refine x_istore3 19 dL_isUndone_18 rfl (by decide) rfl ?_
  refine x_aload0 20 dL_isUndone_19 rfl ?_
  refine x_bipush (nI 8) 22 dL_isUndone_20 rfl rfl ?_
  exact x_callV 25 x0 [.int (nI 8)] [] dL_isUndone_22 rfl lk_8_count ⟨wd282, wd283, wd284⟩ ⟨by decide, by decide⟩ (recvO cf8 (fun _ => s_x0)) rfl rfl (Nat.le_of_ble_eq_true rfl) (Nat.le_of_ble_eq_true rfl) (by decide) (by decide) kk
set_option maxRecDepth 20000 in
theorem BL_isUndone_25 {ω : Om} {h : AH} {Q : Option Value → AH → Prop} {x0 : Nat} {x1 : Int32} {x2 : Int32} {x3 : Int32} {u4 : Option Value} {u5 : Option Value} {u6 : Option Value} {u7 : Option Value} {u8 : Option Value} {u9 : Option Value} {u10 : Option Value} {u11 : Option Value} {u12 : Option Value} {y0 : Int32} (hw : ω.2.2.2.1 = true) (s_x0 : gs h x0 = some (8, 8)) (kk : Ex ω M8_count 0 [some (.ref x0), some (.int (nI 0))] [] h 0 0 (fun v h' => Ex ω ML_isUndone 32 [some (.ref x0), some (.int x1), some (.int x2), some (.int x3), some (.int y0), none, none, none, none, none, none, none, none] (v.toList ++ []) h' 0 0 Q)) : Ex ω ML_isUndone 25 [some (.ref x0), some (.int x1), some (.int x2), some (.int x3), u4, u5, u6, u7, u8, u9, u10, u11, u12] [.int y0] h 0 0 Q := by
  refine x_dr4 ?_
  refine x_dr5 ?_
  refine x_dr6 ?_
  refine x_dr7 ?_
  refine x_dr8 ?_
  refine x_dr9 ?_
  refine x_dr10 ?_
  refine x_dr11 ?_
  refine x_dr12 ?_
  refine x_istore4 27 dL_isUndone_25 rfl (by decide) rfl ?_
  refine x_aload0 28 dL_isUndone_27 rfl ?_
  refine x_iconst (nI 0) 29 dL_isUndone_28 rfl rfl ?_
  exact x_callV 32 x0 [.int (nI 0)] [] dL_isUndone_29 rfl lk_8_count ⟨wd282, wd283, wd284⟩ ⟨by decide, by decide⟩ (recvO cf8 (fun _ => s_x0)) rfl rfl (Nat.le_of_ble_eq_true rfl) (Nat.le_of_ble_eq_true rfl) (by decide) (by decide) kk
set_option maxRecDepth 20000 in
theorem BL_isUndone_32 {ω : Om} {h : AH} {Q : Option Value → AH → Prop} {x0 : Nat} {x1 : Int32} {x2 : Int32} {x3 : Int32} {x4 : Int32} {u5 : Option Value} {u6 : Option Value} {u7 : Option Value} {u8 : Option Value} {u9 : Option Value} {u10 : Option Value} {u11 : Option Value} {u12 : Option Value} {y0 : Int32} (hw : ω.2.2.2.1 = true) (kt : y0 ≤ 0 → Ex ω ML_isUndone 48 [some (.ref x0), some (.int x1), some (.int x2), some (.int x3), some (.int x4), some (.int y0), none, none, none, none, none, none, none] [] h 0 0 Q) (kf : ¬ y0 ≤ 0 → Ex ω ML_isUndone 39 [some (.ref x0), some (.int x1), some (.int x2), some (.int x3), some (.int x4), some (.int y0), none, none, none, none, none, none, none] [] h 0 0 Q) : Ex ω ML_isUndone 32 [some (.ref x0), some (.int x1), some (.int x2), some (.int x3), some (.int x4), u5, u6, u7, u8, u9, u10, u11, u12] [.int y0] h 0 0 Q := by
  refine x_dr5 ?_
  refine x_dr6 ?_
  refine x_dr7 ?_
  refine x_dr8 ?_
  refine x_dr9 ?_
  refine x_dr10 ?_
  refine x_dr11 ?_
  refine x_dr12 ?_
  refine x_istore5 34 dL_isUndone_32 rfl (by decide) rfl ?_
  refine x_iload5 36 dL_isUndone_34 rfl ?_
  exact x_if_le 39 48 dL_isUndone_36 rfl (by decide) kt kf
set_option maxRecDepth 20000 in
theorem BL_isUndone_39 {ω : Om} {h : AH} {Q : Option Value → AH → Prop} {x0 : Nat} {x1 : Int32} {x2 : Int32} {x3 : Int32} {x4 : Int32} {x5 : Int32} {u6 : Option Value} {u7 : Option Value} {u8 : Option Value} {u9 : Option Value} {u10 : Option Value} {u11 : Option Value} {u12 : Option Value} (hw : ω.2.2.2.1 = true) (s_x0 : gs h x0 = some (8, 8)) (kk : Ex ω M8_roll 0 [some (.ref x0), some (.int (nI 0)), some (.int (nI 2))] [] h 0 0 (fun v h' => Ex ω ML_isUndone 45 [some (.ref x0), some (.int x1), some (.int x2), some (.int x3), some (.int x4), some (.int x5), none, none, none, none, none, none, none] (v.toList ++ []) h' 0 0 Q)) : Ex ω ML_isUndone 39 [some (.ref x0), some (.int x1), some (.int x2), some (.int x3), some (.int x4), some (.int x5), u6, u7, u8, u9, u10, u11, u12] [] h 0 0 Q := by
  refine x_dr6 ?_
  refine x_dr7 ?_
  refine x_dr8 ?_
  refine x_dr9 ?_
  refine x_dr10 ?_
  refine x_dr11 ?_
  refine x_dr12 ?_
  refine x_aload0 40 dL_isUndone_39 rfl ?_
  refine x_iconst (nI 0) 41 dL_isUndone_40 rfl rfl ?_
  refine x_iconst (nI 2) 42 dL_isUndone_41 rfl rfl ?_
  exact x_callV 45 x0 [.int (nI 0), .int (nI 2)] [] dL_isUndone_42 rfl lk_8_roll ⟨wd402, wd403, wd404⟩ ⟨by decide, by decide⟩ (recvO cf8 (fun _ => s_x0)) rfl rfl (Nat.le_of_ble_eq_true rfl) (Nat.le_of_ble_eq_true rfl) (by decide) (by decide) kk
set_option maxRecDepth 20000 in
theorem BL_isUndone_45 {ω : Om} {h : AH} {Q : Option Value → AH → Prop} {x0 : Nat} {x1 : Int32} {x2 : Int32} {x3 : Int32} {x4 : Int32} {x5 : Int32} {u6 : Option Value} {u7 : Option Value} {u8 : Option Value} {u9 : Option Value} {u10 : Option Value} {u11 : Option Value} {u12 : Option Value} {y0 : Int32} (hw : ω.2.2.2.1 = true) (kt : Ex ω ML_isUndone 49 [some (.ref x0), some (.int x1), some (.int x2), some (.int x3), some (.int x4), some (.int x5), none, none, none, none, none, none, none] [.int y0] h 0 0 Q) : Ex ω ML_isUndone 45 [some (.ref x0), some (.int x1), some (.int x2), some (.int x3), some (.int x4), some (.int x5), u6, u7, u8, u9, u10, u11, u12] [.int y0] h 0 0 Q := by
  refine x_dr6 ?_
  refine x_dr7 ?_
  refine x_dr8 ?_
  refine x_dr9 ?_
  refine x_dr10 ?_
  refine x_dr11 ?_
  refine x_dr12 ?_
  exact x_goto 49 dL_isUndone_45 (by decide) kt
set_option maxRecDepth 20000 in
theorem BL_isUndone_48 {ω : Om} {h : AH} {Q : Option Value → AH → Prop} {x0 : Nat} {x1 : Int32} {x2 : Int32} {x3 : Int32} {x4 : Int32} {x5 : Int32} {u6 : Option Value} {u7 : Option Value} {u8 : Option Value} {u9 : Option Value} {u10 : Option Value} {u11 : Option Value} {u12 : Option Value} (hw : ω.2.2.2.1 = true) (kf : Ex ω ML_isUndone 49 [some (.ref x0), some (.int x1), some (.int x2), some (.int x3), some (.int x4), some (.int x5), none, none, none, none, none, none, none] [.int (nI 0)] h 0 0 Q) : Ex ω ML_isUndone 48 [some (.ref x0), some (.int x1), some (.int x2), some (.int x3), some (.int x4), some (.int x5), u6, u7, u8, u9, u10, u11, u12] [] h 0 0 Q := by
  refine x_dr6 ?_
  refine x_dr7 ?_
  refine x_dr8 ?_
  refine x_dr9 ?_
  refine x_dr10 ?_
  refine x_dr11 ?_
  refine x_dr12 ?_
  refine x_iconst (nI 0) 49 dL_isUndone_48 rfl rfl ?_
  exact kf
set_option maxRecDepth 20000 in
theorem BL_isUndone_49 {ω : Om} {h : AH} {Q : Option Value → AH → Prop} {x0 : Nat} {x1 : Int32} {x2 : Int32} {x3 : Int32} {x4 : Int32} {x5 : Int32} {u6 : Option Value} {u7 : Option Value} {u8 : Option Value} {u9 : Option Value} {u10 : Option Value} {u11 : Option Value} {u12 : Option Value} {y0 : Int32} (hw : ω.2.2.2.1 = true) (s_x0 : gs h x0 = some (8, 8)) (kk : Ex ω M8_total 0 [some (.ref x0), some (.int (nI 0))] [] h 0 0 (fun v h' => Ex ω ML_isUndone 56 [some (.ref x0), some (.int x1), some (.int x2), some (.int x3), some (.int x4), some (.int x5), some (.int y0), none, none, none, none, none, none] (v.toList ++ []) h' 0 0 Q)) : Ex ω ML_isUndone 49 [some (.ref x0), some (.int x1), some (.int x2), some (.int x3), some (.int x4), some (.int x5), u6, u7, u8, u9, u10, u11, u12] [.int y0] h 0 0 Q := by
  refine x_dr6 ?_
  refine x_dr7 ?_
  refine x_dr8 ?_
  refine x_dr9 ?_
  refine x_dr10 ?_
  refine x_dr11 ?_
  refine x_dr12 ?_
  refine x_istore6 51 dL_isUndone_49 rfl (by decide) rfl ?_
  refine x_aload0 52 dL_isUndone_51 rfl ?_
  refine x_iconst (nI 0) 53 dL_isUndone_52 rfl rfl ?_
  exact x_callV 56 x0 [.int (nI 0)] [] dL_isUndone_53 rfl lk_8_total ⟨wd414, wd415, wd416⟩ ⟨by decide, by decide⟩ (recvO cf8 (fun _ => s_x0)) rfl rfl (Nat.le_of_ble_eq_true rfl) (Nat.le_of_ble_eq_true rfl) (by decide) (by decide) kk
set_option maxRecDepth 20000 in
theorem BL_isUndone_56 {ω : Om} {h : AH} {Q : Option Value → AH → Prop} {x0 : Nat} {x1 : Int32} {x2 : Int32} {x3 : Int32} {x4 : Int32} {x5 : Int32} {x6 : Int32} {u7 : Option Value} {u8 : Option Value} {u9 : Option Value} {u10 : Option Value} {u11 : Option Value} {u12 : Option Value} {y0 : Int32} (hw : ω.2.2.2.1 = true) (s_x0 : gs h x0 = some (8, 8)) (kk : Ex ω M8_weight 0 [some (.ref x0)] [] h 0 0 (fun v h' => Ex ω ML_isUndone 62 [some (.ref x0), some (.int x1), some (.int x2), some (.int x3), some (.int x4), some (.int x5), some (.int x6), some (.int y0), none, none, none, none, none] (v.toList ++ []) h' 0 0 Q)) : Ex ω ML_isUndone 56 [some (.ref x0), some (.int x1), some (.int x2), some (.int x3), some (.int x4), some (.int x5), some (.int x6), u7, u8, u9, u10, u11, u12] [.int y0] h 0 0 Q := by
  refine x_dr7 ?_
  refine x_dr8 ?_
  refine x_dr9 ?_
  refine x_dr10 ?_
  refine x_dr11 ?_
  refine x_dr12 ?_
  refine x_istore7 58 dL_isUndone_56 rfl (by decide) rfl ?_
  refine x_aload0 59 dL_isUndone_58 rfl ?_
  exact x_callV 62 x0 [] [] dL_isUndone_59 rfl lk_8_weight ⟨wd422, wd423, wd424⟩ ⟨by decide, by decide⟩ (recvO cf8 (fun _ => s_x0)) rfl rfl (Nat.le_of_ble_eq_true rfl) (Nat.le_of_ble_eq_true rfl) (by decide) (by decide) kk
set_option maxRecDepth 20000 in
theorem BL_isUndone_62 {ω : Om} {h : AH} {Q : Option Value → AH → Prop} {x0 : Nat} {x1 : Int32} {x2 : Int32} {x3 : Int32} {x4 : Int32} {x5 : Int32} {x6 : Int32} {x7 : Int32} {u8 : Option Value} {u9 : Option Value} {u10 : Option Value} {u11 : Option Value} {u12 : Option Value} {y0 : Int64} (hw : ω.2.2.2.1 = true) (s_x0 : gs h x0 = some (8, 8)) (kk : Ex ω M8_wrap 0 [some (.ref x0)] [] h 0 0 (fun v h' => Ex ω ML_isUndone 68 [some (.ref x0), some (.int x1), some (.int x2), some (.int x3), some (.int x4), some (.int x5), some (.int x6), some (.int x7), some (.long y0), none, none, none, none] (v.toList ++ []) h' 0 0 Q)) : Ex ω ML_isUndone 62 [some (.ref x0), some (.int x1), some (.int x2), some (.int x3), some (.int x4), some (.int x5), some (.int x6), some (.int x7), u8, u9, u10, u11, u12] [.long y0] h 0 0 Q := by
  refine x_dr8 ?_
  refine x_dr9 ?_
  refine x_dr10 ?_
  refine x_dr11 ?_
  refine x_dr12 ?_
  refine x_lstore8 64 dL_isUndone_62 rfl (by decide) rfl ?_
  refine x_aload0 65 dL_isUndone_64 rfl ?_
  exact x_callV 68 x0 [] [] dL_isUndone_65 rfl lk_8_wrap ⟨wd427, wd428, wd429⟩ ⟨by decide, by decide⟩ (recvO cf8 (fun _ => s_x0)) rfl rfl (Nat.le_of_ble_eq_true rfl) (Nat.le_of_ble_eq_true rfl) (by decide) (by decide) kk
set_option maxRecDepth 20000 in
theorem BL_isUndone_68 {ω : Om} {h : AH} {Q : Option Value → AH → Prop} {x0 : Nat} {x1 : Int32} {x2 : Int32} {x3 : Int32} {x4 : Int32} {x5 : Int32} {x6 : Int32} {x7 : Int32} {x8 : Int64} {u10 : Option Value} {u11 : Option Value} {u12 : Option Value} {y0 : Int32} (hw : ω.2.2.2.1 = true) (kt : y0 < 0 → Ex ω ML_isUndone 183 [some (.ref x0), some (.int x1), some (.int x2), some (.int x3), some (.int x4), some (.int x5), some (.int x6), some (.int x7), some (.long x8), none, some (.int y0), none, none] [] h 0 0 Q) (kf : ¬ y0 < 0 → Ex ω ML_isUndone 75 [some (.ref x0), some (.int x1), some (.int x2), some (.int x3), some (.int x4), some (.int x5), some (.int x6), some (.int x7), some (.long x8), none, some (.int y0), none, none] [] h 0 0 Q) : Ex ω ML_isUndone 68 [some (.ref x0), some (.int x1), some (.int x2), some (.int x3), some (.int x4), some (.int x5), some (.int x6), some (.int x7), some (.long x8), none, u10, u11, u12] [.int y0] h 0 0 Q := by
  refine x_dr10 ?_
  refine x_dr11 ?_
  refine x_dr12 ?_
  refine x_istore10 70 dL_isUndone_68 rfl (by decide) rfl ?_
  refine x_iload10 72 dL_isUndone_70 rfl ?_
  exact x_if_lt 75 183 dL_isUndone_72 rfl (by decide) kt kf
set_option maxRecDepth 20000 in
theorem BL_isUndone_75 {ω : Om} {h : AH} {Q : Option Value → AH → Prop} {x0 : Nat} {x1 : Int32} {x2 : Int32} {x3 : Int32} {x4 : Int32} {x5 : Int32} {x6 : Int32} {x7 : Int32} {x8 : Int64} {x10 : Int32} {u11 : Option Value} {u12 : Option Value} (hw : ω.2.2.2.1 = true) (kt : (nI 2) < x10 → Ex ω ML_isUndone 183 [some (.ref x0), some (.int x1), some (.int x2), some (.int x3), some (.int x4), some (.int x5), some (.int x6), some (.int x7), some (.long x8), none, some (.int x10), none, none] [] h 0 0 Q) (kf : ¬ (nI 2) < x10 → Ex ω ML_isUndone 81 [some (.ref x0), some (.int x1), some (.int x2), some (.int x3), some (.int x4), some (.int x5), some (.int x6), some (.int x7), some (.long x8), none, some (.int x10), none, none] [] h 0 0 Q) : Ex ω ML_isUndone 75 [some (.ref x0), some (.int x1), some (.int x2), some (.int x3), some (.int x4), some (.int x5), some (.int x6), some (.int x7), some (.long x8), none, some (.int x10), u11, u12] [] h 0 0 Q := by
  refine x_dr11 ?_
  refine x_dr12 ?_
  refine x_iload10 77 dL_isUndone_75 rfl ?_
  refine x_iconst (nI 2) 78 dL_isUndone_77 rfl rfl ?_
  exact x_icmp_gt 81 183 dL_isUndone_78 rfl (by decide) kt kf
set_option maxRecDepth 20000 in
theorem BL_isUndone_81 {ω : Om} {h : AH} {Q : Option Value → AH → Prop} {x0 : Nat} {x1 : Int32} {x2 : Int32} {x3 : Int32} {x4 : Int32} {x5 : Int32} {x6 : Int32} {x7 : Int32} {x8 : Int64} {x10 : Int32} {u11 : Option Value} {u12 : Option Value} (hw : ω.2.2.2.1 = true) (s_x0 : gs h x0 = some (8, 8)) (kk : Ex ω M8_count 0 [some (.ref x0), some (.int (nI 1))] [] h 0 0 (fun v h' => Ex ω ML_isUndone 86 [some (.ref x0), some (.int x1), some (.int x2), some (.int x3), some (.int x4), some (.int x5), some (.int x6), some (.int x7), some (.long x8), none, some (.int x10), none, none] (v.toList ++ []) h' 0 0 Q)) : Ex ω ML_isUndone 81 [some (.ref x0), some (.int x1), some (.int x2), some (.int x3), some (.int x4), some (.int x5), some (.int x6), some (.int x7), some (.long x8), none, some (.int x10), u11, u12] [] h 0 0 Q := by
  refine x_dr11 ?_
  refine x_dr12 ?_
  refine x_aload0 82 dL_isUndone_81 rfl ?_
  refine x_iconst (nI 1) 83 dL_isUndone_82 rfl rfl ?_
  exact x_callV 86 x0 [.int (nI 1)] [] dL_isUndone_83 rfl lk_8_count ⟨wd282, wd283, wd284⟩ ⟨by decide, by decide⟩ (recvO cf8 (fun _ => s_x0)) rfl rfl (Nat.le_of_ble_eq_true rfl) (Nat.le_of_ble_eq_true rfl) (by decide) (by decide) kk
set_option maxRecDepth 20000 in
theorem BL_isUndone_86 {ω : Om} {h : AH} {Q : Option Value → AH → Prop} {x0 : Nat} {x1 : Int32} {x2 : Int32} {x3 : Int32} {x4 : Int32} {x5 : Int32} {x6 : Int32} {x7 : Int32} {x8 : Int64} {x10 : Int32} {u11 : Option Value} {u12 : Option Value} {y0 : Int32} (hw : ω.2.2.2.1 = true) (kt : ¬ y0 = (x1 - (nI 1)) → Ex ω ML_isUndone 183 [some (.ref x0), some (.int x1), some (.int x2), some (.int x3), some (.int x4), some (.int x5), some (.int x6), some (.int x7), some (.long x8), none, some (.int x10), none, none] [] h 0 0 Q) (kf : y0 = (x1 - (nI 1)) → Ex ω ML_isUndone 92 [some (.ref x0), some (.int x1), some (.int x2), some (.int x3), some (.int x4), some (.int x5), some (.int x6), some (.int x7), some (.long x8), none, some (.int x10), none, none] [] h 0 0 Q) : Ex ω ML_isUndone 86 [some (.ref x0), some (.int x1), some (.int x2), some (.int x3), some (.int x4), some (.int x5), some (.int x6), some (.int x7), some (.long x8), none, some (.int x10), u11, u12] [.int y0] h 0 0 Q := by
  refine x_dr11 ?_
  refine x_dr12 ?_
  refine x_iload1 87 dL_isUndone_86 rfl ?_
  refine x_iconst (nI 1) 88 dL_isUndone_87 rfl rfl ?_
  refine x_isub 89 dL_isUndone_88 rfl ?_
  exact x_icmp_ne 92 183 dL_isUndone_89 rfl (by decide) kt kf
set_option maxRecDepth 20000 in
theorem BL_isUndone_92 {ω : Om} {h : AH} {Q : Option Value → AH → Prop} {x0 : Nat} {x1 : Int32} {x2 : Int32} {x3 : Int32} {x4 : Int32} {x5 : Int32} {x6 : Int32} {x7 : Int32} {x8 : Int64} {x10 : Int32} {u11 : Option Value} {u12 : Option Value} (hw : ω.2.2.2.1 = true) (s_x0 : gs h x0 = some (8, 8)) (kk : Ex ω M8_count 0 [some (.ref x0), some (.int (nI 2))] [] h 0 0 (fun v h' => Ex ω ML_isUndone 97 [some (.ref x0), some (.int x1), some (.int x2), some (.int x3), some (.int x4), some (.int x5), some (.int x6), some (.int x7), some (.long x8), none, some (.int x10), none, none] (v.toList ++ []) h' 0 0 Q)) : Ex ω ML_isUndone 92 [some (.ref x0), some (.int x1), some (.int x2), some (.int x3), some (.int x4), some (.int x5), some (.int x6), some (.int x7), some (.long x8), none, some (.int x10), u11, u12] [] h 0 0 Q := by
  refine x_dr11 ?_
  refine x_dr12 ?_
  refine x_aload0 93 dL_isUndone_92 rfl ?_
  refine x_iconst (nI 2) 94 dL_isUndone_93 rfl rfl ?_
  exact x_callV 97 x0 [.int (nI 2)] [] dL_isUndone_94 rfl lk_8_count ⟨wd282, wd283, wd284⟩ ⟨by decide, by decide⟩ (recvO cf8 (fun _ => s_x0)) rfl rfl (Nat.le_of_ble_eq_true rfl) (Nat.le_of_ble_eq_true rfl) (by decide) (by decide) kk
set_option maxRecDepth 20000 in
theorem BL_isUndone_97 {ω : Om} {h : AH} {Q : Option Value → AH → Prop} {x0 : Nat} {x1 : Int32} {x2 : Int32} {x3 : Int32} {x4 : Int32} {x5 : Int32} {x6 : Int32} {x7 : Int32} {x8 : Int64} {x10 : Int32} {u11 : Option Value} {u12 : Option Value} {y0 : Int32} (hw : ω.2.2.2.1 = true) (kt : ¬ y0 = (x3 + (nI 1)) → Ex ω ML_isUndone 183 [some (.ref x0), some (.int x1), some (.int x2), some (.int x3), some (.int x4), some (.int x5), some (.int x6), some (.int x7), some (.long x8), none, some (.int x10), none, none] [] h 0 0 Q) (kf : y0 = (x3 + (nI 1)) → Ex ω ML_isUndone 103 [some (.ref x0), some (.int x1), some (.int x2), some (.int x3), some (.int x4), some (.int x5), some (.int x6), some (.int x7), some (.long x8), none, some (.int x10), none, none] [] h 0 0 Q) : Ex ω ML_isUndone 97 [some (.ref x0), some (.int x1), some (.int x2), some (.int x3), some (.int x4), some (.int x5), some (.int x6), some (.int x7), some (.long x8), none, some (.int x10), u11, u12] [.int y0] h 0 0 Q := by
  refine x_dr11 ?_
  refine x_dr12 ?_
  refine x_iload3 98 dL_isUndone_97 rfl ?_
  refine x_iconst (nI 1) 99 dL_isUndone_98 rfl rfl ?_
  refine x_iadd 100 dL_isUndone_99 rfl ?_
  exact x_icmp_ne 103 183 dL_isUndone_100 rfl (by decide) kt kf
set_option maxRecDepth 20000 in
theorem BL_isUndone_103 {ω : Om} {h : AH} {Q : Option Value → AH → Prop} {x0 : Nat} {x1 : Int32} {x2 : Int32} {x3 : Int32} {x4 : Int32} {x5 : Int32} {x6 : Int32} {x7 : Int32} {x8 : Int64} {x10 : Int32} {u11 : Option Value} {u12 : Option Value} (hw : ω.2.2.2.1 = true) (s_x0 : gs h x0 = some (8, 8)) (kk : Ex ω M8_done 0 [some (.ref x0), some (.int (nI 0)), some (.int (nI 1))] [] h 0 0 (fun v h' => Ex ω ML_isUndone 109 [some (.ref x0), some (.int x1), some (.int x2), some (.int x3), some (.int x4), some (.int x5), some (.int x6), some (.int x7), some (.long x8), none, some (.int x10), none, none] (v.toList ++ []) h' 0 0 Q)) : Ex ω ML_isUndone 103 [some (.ref x0), some (.int x1), some (.int x2), some (.int x3), some (.int x4), some (.int x5), some (.int x6), some (.int x7), some (.long x8), none, some (.int x10), u11, u12] [] h 0 0 Q := by
  refine x_dr11 ?_
  refine x_dr12 ?_
  refine x_aload0 104 dL_isUndone_103 rfl ?_
  refine x_iconst (nI 0) 105 dL_isUndone_104 rfl rfl ?_
  refine x_iconst (nI 1) 106 dL_isUndone_105 rfl rfl ?_
  exact x_callV 109 x0 [.int (nI 0), .int (nI 1)] [] dL_isUndone_106 rfl lk_8_done ⟨wd573, wd574, wd575⟩ ⟨by decide, by decide⟩ (recvO cf8 (fun _ => s_x0)) rfl rfl (Nat.le_of_ble_eq_true rfl) (Nat.le_of_ble_eq_true rfl) (by decide) (by decide) kk
set_option maxRecDepth 20000 in
theorem BL_isUndone_109 {ω : Om} {h : AH} {Q : Option Value → AH → Prop} {x0 : Nat} {x1 : Int32} {x2 : Int32} {x3 : Int32} {x4 : Int32} {x5 : Int32} {x6 : Int32} {x7 : Int32} {x8 : Int64} {x10 : Int32} {u11 : Option Value} {u12 : Option Value} {y0 : Int32} (hw : ω.2.2.2.1 = true) (kt : ¬ y0 = x10 → Ex ω ML_isUndone 183 [some (.ref x0), some (.int x1), some (.int x2), some (.int x3), some (.int x4), some (.int x5), some (.int x6), some (.int x7), some (.long x8), none, some (.int x10), none, none] [] h 0 0 Q) (kf : y0 = x10 → Ex ω ML_isUndone 114 [some (.ref x0), some (.int x1), some (.int x2), some (.int x3), some (.int x4), some (.int x5), some (.int x6), some (.int x7), some (.long x8), none, some (.int x10), none, none] [] h 0 0 Q) : Ex ω ML_isUndone 109 [some (.ref x0), some (.int x1), some (.int x2), some (.int x3), some (.int x4), some (.int x5), some (.int x6), some (.int x7), some (.long x8), none, some (.int x10), u11, u12] [.int y0] h 0 0 Q := by
  refine x_dr11 ?_
  refine x_dr12 ?_
  refine x_iload10 111 dL_isUndone_109 rfl ?_
  exact x_icmp_ne 114 183 dL_isUndone_111 rfl (by decide) kt kf
set_option maxRecDepth 20000 in
theorem BL_isUndone_114 {ω : Om} {h : AH} {Q : Option Value → AH → Prop} {x0 : Nat} {x1 : Int32} {x2 : Int32} {x3 : Int32} {x4 : Int32} {x5 : Int32} {x6 : Int32} {x7 : Int32} {x8 : Int64} {x10 : Int32} {u11 : Option Value} {u12 : Option Value} (hw : ω.2.2.2.1 = true) (s_x0 : gs h x0 = some (8, 8)) (kk : Ex ω M8_done 0 [some (.ref x0), some (.int (nI 0)), some (.int (nI 6))] [] h 0 0 (fun v h' => Ex ω ML_isUndone 121 [some (.ref x0), some (.int x1), some (.int x2), some (.int x3), some (.int x4), some (.int x5), some (.int x6), some (.int x7), some (.long x8), none, some (.int x10), none, none] (v.toList ++ []) h' 0 0 Q)) : Ex ω ML_isUndone 114 [some (.ref x0), some (.int x1), some (.int x2), some (.int x3), some (.int x4), some (.int x5), some (.int x6), some (.int x7), some (.long x8), none, some (.int x10), u11, u12] [] h 0 0 Q := by
  refine x_dr11 ?_
  refine x_dr12 ?_
  refine x_aload0 115 dL_isUndone_114 rfl ?_
  refine x_iconst (nI 0) 116 dL_isUndone_115 rfl rfl ?_
  refine x_bipush (nI 6) 118 dL_isUndone_116 rfl rfl ?_
  exact x_callV 121 x0 [.int (nI 0), .int (nI 6)] [] dL_isUndone_118 rfl lk_8_done ⟨wd573, wd574, wd575⟩ ⟨by decide, by decide⟩ (recvO cf8 (fun _ => s_x0)) rfl rfl (Nat.le_of_ble_eq_true rfl) (Nat.le_of_ble_eq_true rfl) (by decide) (by decide) kk
set_option maxRecDepth 20000 in
theorem BL_isUndone_121 {ω : Om} {h : AH} {Q : Option Value → AH → Prop} {x0 : Nat} {x1 : Int32} {x2 : Int32} {x3 : Int32} {x4 : Int32} {x5 : Int32} {x6 : Int32} {x7 : Int32} {x8 : Int64} {x10 : Int32} {u11 : Option Value} {u12 : Option Value} {y0 : Int32} (hw : ω.2.2.2.1 = true) (s_x0 : gs h x0 = some (8, 8)) (kk : Ex ω M8_count 0 [some (.ref x0), some (.int (nI 5))] [] h 0 0 (fun v h' => Ex ω ML_isUndone 126 [some (.ref x0), some (.int x1), some (.int x2), some (.int x3), some (.int x4), some (.int x5), some (.int x6), some (.int x7), some (.long x8), none, some (.int x10), none, none] (v.toList ++ [.int y0]) h' 0 0 Q)) : Ex ω ML_isUndone 121 [some (.ref x0), some (.int x1), some (.int x2), some (.int x3), some (.int x4), some (.int x5), some (.int x6), some (.int x7), some (.long x8), none, some (.int x10), u11, u12] [.int y0] h 0 0 Q := by
  refine x_dr11 ?_
  refine x_dr12 ?_
  refine x_aload0 122 dL_isUndone_121 rfl ?_
  refine x_iconst (nI 5) 123 dL_isUndone_122 rfl rfl ?_
  exact x_callV 126 x0 [.int (nI 5)] [.int y0] dL_isUndone_123 rfl lk_8_count ⟨wd282, wd283, wd284⟩ ⟨by decide, by decide⟩ (recvO cf8 (fun _ => s_x0)) rfl rfl (Nat.le_of_ble_eq_true rfl) (Nat.le_of_ble_eq_true rfl) (by decide) (by decide) kk
set_option maxRecDepth 20000 in
theorem BL_isUndone_126 {ω : Om} {h : AH} {Q : Option Value → AH → Prop} {x0 : Nat} {x1 : Int32} {x2 : Int32} {x3 : Int32} {x4 : Int32} {x5 : Int32} {x6 : Int32} {x7 : Int32} {x8 : Int64} {x10 : Int32} {u11 : Option Value} {u12 : Option Value} {y0 : Int32} {y1 : Int32} (hw : ω.2.2.2.1 = true) (kt : (y1 + (nI 1)) < y0 → Ex ω ML_isUndone 183 [some (.ref x0), some (.int x1), some (.int x2), some (.int x3), some (.int x4), some (.int x5), some (.int x6), some (.int x7), some (.long x8), none, some (.int x10), none, none] [] h 0 0 Q) (kf : ¬ (y1 + (nI 1)) < y0 → Ex ω ML_isUndone 131 [some (.ref x0), some (.int x1), some (.int x2), some (.int x3), some (.int x4), some (.int x5), some (.int x6), some (.int x7), some (.long x8), none, some (.int x10), none, none] [] h 0 0 Q) : Ex ω ML_isUndone 126 [some (.ref x0), some (.int x1), some (.int x2), some (.int x3), some (.int x4), some (.int x5), some (.int x6), some (.int x7), some (.long x8), none, some (.int x10), u11, u12] [.int y1, .int y0] h 0 0 Q := by
  refine x_dr11 ?_
  refine x_dr12 ?_
  refine x_iconst (nI 1) 127 dL_isUndone_126 rfl rfl ?_
  refine x_iadd 128 dL_isUndone_127 rfl ?_
  exact x_icmp_gt 131 183 dL_isUndone_128 rfl (by decide) kt kf
set_option maxRecDepth 20000 in
theorem BL_isUndone_131 {ω : Om} {h : AH} {Q : Option Value → AH → Prop} {x0 : Nat} {x1 : Int32} {x2 : Int32} {x3 : Int32} {x4 : Int32} {x5 : Int32} {x6 : Int32} {x7 : Int32} {x8 : Int64} {x10 : Int32} {u11 : Option Value} {u12 : Option Value} (hw : ω.2.2.2.1 = true) (kt : ¬ x10 = (nI 2) → Ex ω ML_isUndone 141 [some (.ref x0), some (.int x1), some (.int x2), some (.int x3), some (.int x4), some (.int x5), some (.int x6), some (.int x7), some (.long x8), none, some (.int x10), none, none] [] h 0 0 Q) (kf : x10 = (nI 2) → Ex ω ML_isUndone 137 [some (.ref x0), some (.int x1), some (.int x2), some (.int x3), some (.int x4), some (.int x5), some (.int x6), some (.int x7), some (.long x8), none, some (.int x10), none, none] [] h 0 0 Q) : Ex ω ML_isUndone 131 [some (.ref x0), some (.int x1), some (.int x2), some (.int x3), some (.int x4), some (.int x5), some (.int x6), some (.int x7), some (.long x8), none, some (.int x10), u11, u12] [] h 0 0 Q := by
  refine x_dr11 ?_
  refine x_dr12 ?_
  refine x_iload10 133 dL_isUndone_131 rfl ?_
  refine x_iconst (nI 2) 134 dL_isUndone_133 rfl rfl ?_
  exact x_icmp_ne 137 141 dL_isUndone_134 rfl (by decide) kt kf
set_option maxRecDepth 20000 in
theorem BL_isUndone_137 {ω : Om} {h : AH} {Q : Option Value → AH → Prop} {x0 : Nat} {x1 : Int32} {x2 : Int32} {x3 : Int32} {x4 : Int32} {x5 : Int32} {x6 : Int32} {x7 : Int32} {x8 : Int64} {x10 : Int32} {u11 : Option Value} {u12 : Option Value} (hw : ω.2.2.2.1 = true) (kt : Ex ω ML_isUndone 142 [some (.ref x0), some (.int x1), some (.int x2), some (.int x3), some (.int x4), some (.int x5), some (.int x6), some (.int x7), some (.long x8), none, some (.int x10), none, none] [.int (nI 1)] h 0 0 Q) : Ex ω ML_isUndone 137 [some (.ref x0), some (.int x1), some (.int x2), some (.int x3), some (.int x4), some (.int x5), some (.int x6), some (.int x7), some (.long x8), none, some (.int x10), u11, u12] [] h 0 0 Q := by
  refine x_dr11 ?_
  refine x_dr12 ?_
  refine x_iconst (nI 1) 138 dL_isUndone_137 rfl rfl ?_
  exact x_goto 142 dL_isUndone_138 (by decide) kt
set_option maxRecDepth 20000 in
theorem BL_isUndone_141 {ω : Om} {h : AH} {Q : Option Value → AH → Prop} {x0 : Nat} {x1 : Int32} {x2 : Int32} {x3 : Int32} {x4 : Int32} {x5 : Int32} {x6 : Int32} {x7 : Int32} {x8 : Int64} {x10 : Int32} {u11 : Option Value} {u12 : Option Value} (hw : ω.2.2.2.1 = true) (kf : Ex ω ML_isUndone 142 [some (.ref x0), some (.int x1), some (.int x2), some (.int x3), some (.int x4), some (.int x5), some (.int x6), some (.int x7), some (.long x8), none, some (.int x10), none, none] [.int (nI 0)] h 0 0 Q) : Ex ω ML_isUndone 141 [some (.ref x0), some (.int x1), some (.int x2), some (.int x3), some (.int x4), some (.int x5), some (.int x6), some (.int x7), some (.long x8), none, some (.int x10), u11, u12] [] h 0 0 Q := by
  refine x_dr11 ?_
  refine x_dr12 ?_
  refine x_iconst (nI 0) 142 dL_isUndone_141 rfl rfl ?_
  exact kf
set_option maxRecDepth 20000 in
theorem BL_isUndone_142 {ω : Om} {h : AH} {Q : Option Value → AH → Prop} {x0 : Nat} {x1 : Int32} {x2 : Int32} {x3 : Int32} {x4 : Int32} {x5 : Int32} {x6 : Int32} {x7 : Int32} {x8 : Int64} {x10 : Int32} {u11 : Option Value} {u12 : Option Value} {y0 : Int32} (hw : ω.2.2.2.1 = true) (s_x0 : gs h x0 = some (8, 8)) (kk : Ex ω M8_done 0 [some (.ref x0), some (.int (nI 0)), some (.int (nI 6))] [] h 0 0 (fun v h' => Ex ω ML_isUndone 149 [some (.ref x0), some (.int x1), some (.int x2), some (.int x3), some (.int x4), some (.int x5), some (.int x6), some (.int x7), some (.long x8), none, some (.int x10), none, none] (v.toList ++ [.int y0]) h' 0 0 Q)) : Ex ω ML_isUndone 142 [some (.ref x0), some (.int x1), some (.int x2), some (.int x3), some (.int x4), some (.int x5), some (.int x6), some (.int x7), some (.long x8), none, some (.int x10), u11, u12] [.int y0] h 0 0 Q := by
  refine x_dr11 ?_
  refine x_dr12 ?_
  refine x_aload0 143 dL_isUndone_142 rfl ?_
  refine x_iconst (nI 0) 144 dL_isUndone_143 rfl rfl ?_
  refine x_bipush (nI 6) 146 dL_isUndone_144 rfl rfl ?_
  exact x_callV 149 x0 [.int (nI 0), .int (nI 6)] [.int y0] dL_isUndone_146 rfl lk_8_done ⟨wd573, wd574, wd575⟩ ⟨by decide, by decide⟩ (recvO cf8 (fun _ => s_x0)) rfl rfl (Nat.le_of_ble_eq_true rfl) (Nat.le_of_ble_eq_true rfl) (by decide) (by decide) kk
set_option maxRecDepth 20000 in
theorem BL_isUndone_149 {ω : Om} {h : AH} {Q : Option Value → AH → Prop} {x0 : Nat} {x1 : Int32} {x2 : Int32} {x3 : Int32} {x4 : Int32} {x5 : Int32} {x6 : Int32} {x7 : Int32} {x8 : Int64} {x10 : Int32} {u11 : Option Value} {u12 : Option Value} {y0 : Int32} {y1 : Int32} (hw : ω.2.2.2.1 = true) (s_x0 : gs h x0 = some (8, 8)) (kk : Ex ω M8_count 0 [some (.ref x0), some (.int (nI 5))] [] h 0 0 (fun v h' => Ex ω ML_isUndone 154 [some (.ref x0), some (.int x1), some (.int x2), some (.int x3), some (.int x4), some (.int x5), some (.int x6), some (.int x7), some (.long x8), none, some (.int x10), none, none] (v.toList ++ [.int y1, .int y0]) h' 0 0 Q)) : Ex ω ML_isUndone 149 [some (.ref x0), some (.int x1), some (.int x2), some (.int x3), some (.int x4), some (.int x5), some (.int x6), some (.int x7), some (.long x8), none, some (.int x10), u11, u12] [.int y1, .int y0] h 0 0 Q := by
  refine x_dr11 ?_
  refine x_dr12 ?_
  refine x_aload0 150 dL_isUndone_149 rfl ?_
  refine x_iconst (nI 5) 151 dL_isUndone_150 rfl rfl ?_
  exact x_callV 154 x0 [.int (nI 5)] [.int y1, .int y0] dL_isUndone_151 rfl lk_8_count ⟨wd282, wd283, wd284⟩ ⟨by decide, by decide⟩ (recvO cf8 (fun _ => s_x0)) rfl rfl (Nat.le_of_ble_eq_true rfl) (Nat.le_of_ble_eq_true rfl) (by decide) (by decide) kk
set_option maxRecDepth 20000 in
theorem BL_isUndone_154 {ω : Om} {h : AH} {Q : Option Value → AH → Prop} {x0 : Nat} {x1 : Int32} {x2 : Int32} {x3 : Int32} {x4 : Int32} {x5 : Int32} {x6 : Int32} {x7 : Int32} {x8 : Int64} {x10 : Int32} {u11 : Option Value} {u12 : Option Value} {y0 : Int32} {y1 : Int32} {y2 : Int32} (hw : ω.2.2.2.1 = true) (kt : y1 ≤ y2 → Ex ω ML_isUndone 161 [some (.ref x0), some (.int x1), some (.int x2), some (.int x3), some (.int x4), some (.int x5), some (.int x6), some (.int x7), some (.long x8), none, some (.int x10), none, none] [.int y0] h 0 0 Q) (kf : ¬ y1 ≤ y2 → Ex ω ML_isUndone 157 [some (.ref x0), some (.int x1), some (.int x2), some (.int x3), some (.int x4), some (.int x5), some (.int x6), some (.int x7), some (.long x8), none, some (.int x10), none, none] [.int y0] h 0 0 Q) : Ex ω ML_isUndone 154 [some (.ref x0), some (.int x1), some (.int x2), some (.int x3), some (.int x4), some (.int x5), some (.int x6), some (.int x7), some (.long x8), none, some (.int x10), u11, u12] [.int y2, .int y1, .int y0] h 0 0 Q := by
  refine x_dr11 ?_
  refine x_dr12 ?_
  exact x_icmp_le 157 161 dL_isUndone_154 rfl (by decide) kt kf
set_option maxRecDepth 20000 in
theorem BL_isUndone_157 {ω : Om} {h : AH} {Q : Option Value → AH → Prop} {x0 : Nat} {x1 : Int32} {x2 : Int32} {x3 : Int32} {x4 : Int32} {x5 : Int32} {x6 : Int32} {x7 : Int32} {x8 : Int64} {x10 : Int32} {u11 : Option Value} {u12 : Option Value} {y0 : Int32} (hw : ω.2.2.2.1 = true) (kt : Ex ω ML_isUndone 162 [some (.ref x0), some (.int x1), some (.int x2), some (.int x3), some (.int x4), some (.int x5), some (.int x6), some (.int x7), some (.long x8), none, some (.int x10), none, none] [.int (nI 1), .int y0] h 0 0 Q) : Ex ω ML_isUndone 157 [some (.ref x0), some (.int x1), some (.int x2), some (.int x3), some (.int x4), some (.int x5), some (.int x6), some (.int x7), some (.long x8), none, some (.int x10), u11, u12] [.int y0] h 0 0 Q := by
  refine x_dr11 ?_
  refine x_dr12 ?_
  refine x_iconst (nI 1) 158 dL_isUndone_157 rfl rfl ?_
  exact x_goto 162 dL_isUndone_158 (by decide) kt
set_option maxRecDepth 20000 in
theorem BL_isUndone_161 {ω : Om} {h : AH} {Q : Option Value → AH → Prop} {x0 : Nat} {x1 : Int32} {x2 : Int32} {x3 : Int32} {x4 : Int32} {x5 : Int32} {x6 : Int32} {x7 : Int32} {x8 : Int64} {x10 : Int32} {u11 : Option Value} {u12 : Option Value} {y0 : Int32} (hw : ω.2.2.2.1 = true) (kf : Ex ω ML_isUndone 162 [some (.ref x0), some (.int x1), some (.int x2), some (.int x3), some (.int x4), some (.int x5), some (.int x6), some (.int x7), some (.long x8), none, some (.int x10), none, none] [.int (nI 0), .int y0] h 0 0 Q) : Ex ω ML_isUndone 161 [some (.ref x0), some (.int x1), some (.int x2), some (.int x3), some (.int x4), some (.int x5), some (.int x6), some (.int x7), some (.long x8), none, some (.int x10), u11, u12] [.int y0] h 0 0 Q := by
  refine x_dr11 ?_
  refine x_dr12 ?_
  refine x_iconst (nI 0) 162 dL_isUndone_161 rfl rfl ?_
  exact kf
set_option maxRecDepth 20000 in
theorem BL_isUndone_162 {ω : Om} {h : AH} {Q : Option Value → AH → Prop} {x0 : Nat} {x1 : Int32} {x2 : Int32} {x3 : Int32} {x4 : Int32} {x5 : Int32} {x6 : Int32} {x7 : Int32} {x8 : Int64} {x10 : Int32} {u11 : Option Value} {u12 : Option Value} {y0 : Int32} {y1 : Int32} (hw : ω.2.2.2.1 = true) (kt : ¬ y0 = y1 → Ex ω ML_isUndone 183 [some (.ref x0), some (.int x1), some (.int x2), some (.int x3), some (.int x4), some (.int x5), some (.int x6), some (.int x7), some (.long x8), none, some (.int x10), none, none] [] h 0 0 Q) (kf : y0 = y1 → Ex ω ML_isUndone 165 [some (.ref x0), some (.int x1), some (.int x2), some (.int x3), some (.int x4), some (.int x5), some (.int x6), some (.int x7), some (.long x8), none, some (.int x10), none, none] [] h 0 0 Q) : Ex ω ML_isUndone 162 [some (.ref x0), some (.int x1), some (.int x2), some (.int x3), some (.int x4), some (.int x5), some (.int x6), some (.int x7), some (.long x8), none, some (.int x10), u11, u12] [.int y1, .int y0] h 0 0 Q := by
  refine x_dr11 ?_
  refine x_dr12 ?_
  exact x_icmp_ne 165 183 dL_isUndone_162 rfl (by decide) kt kf
set_option maxRecDepth 20000 in
theorem BL_isUndone_165 {ω : Om} {h : AH} {Q : Option Value → AH → Prop} {x0 : Nat} {x1 : Int32} {x2 : Int32} {x3 : Int32} {x4 : Int32} {x5 : Int32} {x6 : Int32} {x7 : Int32} {x8 : Int64} {x10 : Int32} {u11 : Option Value} {u12 : Option Value} (hw : ω.2.2.2.1 = true) (kt : ¬ x10 = (nI 1) → Ex ω ML_isUndone 179 [some (.ref x0), some (.int x1), some (.int x2), some (.int x3), some (.int x4), some (.int x5), some (.int x6), some (.int x7), some (.long x8), none, some (.int x10), none, none] [] h 0 0 Q) (kf : x10 = (nI 1) → Ex ω ML_isUndone 171 [some (.ref x0), some (.int x1), some (.int x2), some (.int x3), some (.int x4), some (.int x5), some (.int x6), some (.int x7), some (.long x8), none, some (.int x10), none, none] [] h 0 0 Q) : Ex ω ML_isUndone 165 [some (.ref x0), some (.int x1), some (.int x2), some (.int x3), some (.int x4), some (.int x5), some (.int x6), some (.int x7), some (.long x8), none, some (.int x10), u11, u12] [] h 0 0 Q := by
  refine x_dr11 ?_
  refine x_dr12 ?_
  refine x_iload10 167 dL_isUndone_165 rfl ?_
  refine x_iconst (nI 1) 168 dL_isUndone_167 rfl rfl ?_
  exact x_icmp_ne 171 179 dL_isUndone_168 rfl (by decide) kt kf
set_option maxRecDepth 20000 in
theorem BL_isUndone_171 {ω : Om} {h : AH} {Q : Option Value → AH → Prop} {x0 : Nat} {x1 : Int32} {x2 : Int32} {x3 : Int32} {x4 : Int32} {x5 : Int32} {x6 : Int32} {x7 : Int32} {x8 : Int64} {x10 : Int32} {u11 : Option Value} {u12 : Option Value} (hw : ω.2.2.2.1 = true) (s_x0 : gs h x0 = some (8, 8)) (kk : Ex ω M8_count 0 [some (.ref x0), some (.int (nI 0))] [] h 0 0 (fun v h' => Ex ω ML_isUndone 176 [some (.ref x0), some (.int x1), some (.int x2), some (.int x3), some (.int x4), some (.int x5), some (.int x6), some (.int x7), some (.long x8), none, some (.int x10), none, none] (v.toList ++ []) h' 0 0 Q)) : Ex ω ML_isUndone 171 [some (.ref x0), some (.int x1), some (.int x2), some (.int x3), some (.int x4), some (.int x5), some (.int x6), some (.int x7), some (.long x8), none, some (.int x10), u11, u12] [] h 0 0 Q := by
  refine x_dr11 ?_
  refine x_dr12 ?_
  refine x_aload0 172 dL_isUndone_171 rfl ?_
  refine x_iconst (nI 0) 173 dL_isUndone_172 rfl rfl ?_
  exact x_callV 176 x0 [.int (nI 0)] [] dL_isUndone_173 rfl lk_8_count ⟨wd282, wd283, wd284⟩ ⟨by decide, by decide⟩ (recvO cf8 (fun _ => s_x0)) rfl rfl (Nat.le_of_ble_eq_true rfl) (Nat.le_of_ble_eq_true rfl) (by decide) (by decide) kk
set_option maxRecDepth 20000 in
theorem BL_isUndone_176 {ω : Om} {h : AH} {Q : Option Value → AH → Prop} {x0 : Nat} {x1 : Int32} {x2 : Int32} {x3 : Int32} {x4 : Int32} {x5 : Int32} {x6 : Int32} {x7 : Int32} {x8 : Int64} {x10 : Int32} {u11 : Option Value} {u12 : Option Value} {y0 : Int32} (hw : ω.2.2.2.1 = true) (kt : ¬ y0 = 0 → Ex ω ML_isUndone 183 [some (.ref x0), some (.int x1), some (.int x2), some (.int x3), some (.int x4), some (.int x5), some (.int x6), some (.int x7), some (.long x8), none, some (.int x10), none, none] [] h 0 0 Q) (kf : y0 = 0 → Ex ω ML_isUndone 179 [some (.ref x0), some (.int x1), some (.int x2), some (.int x3), some (.int x4), some (.int x5), some (.int x6), some (.int x7), some (.long x8), none, some (.int x10), none, none] [] h 0 0 Q) : Ex ω ML_isUndone 176 [some (.ref x0), some (.int x1), some (.int x2), some (.int x3), some (.int x4), some (.int x5), some (.int x6), some (.int x7), some (.long x8), none, some (.int x10), u11, u12] [.int y0] h 0 0 Q := by
  refine x_dr11 ?_
  refine x_dr12 ?_
  exact x_if_ne 179 183 dL_isUndone_176 rfl (by decide) kt kf
set_option maxRecDepth 20000 in
theorem BL_isUndone_179 {ω : Om} {h : AH} {Q : Option Value → AH → Prop} {x0 : Nat} {x1 : Int32} {x2 : Int32} {x3 : Int32} {x4 : Int32} {x5 : Int32} {x6 : Int32} {x7 : Int32} {x8 : Int64} {x10 : Int32} {u11 : Option Value} {u12 : Option Value} (hw : ω.2.2.2.1 = true) (kt : Ex ω ML_isUndone 184 [some (.ref x0), some (.int x1), some (.int x2), some (.int x3), some (.int x4), some (.int x5), some (.int x6), some (.int x7), some (.long x8), none, some (.int x10), none, none] [.int (nI 1)] h 0 0 Q) : Ex ω ML_isUndone 179 [some (.ref x0), some (.int x1), some (.int x2), some (.int x3), some (.int x4), some (.int x5), some (.int x6), some (.int x7), some (.long x8), none, some (.int x10), u11, u12] [] h 0 0 Q := by
  refine x_dr11 ?_
  refine x_dr12 ?_
  refine x_iconst (nI 1) 180 dL_isUndone_179 rfl rfl ?_
  exact x_goto 184 dL_isUndone_180 (by decide) kt
set_option maxRecDepth 20000 in
theorem BL_isUndone_183 {ω : Om} {h : AH} {Q : Option Value → AH → Prop} {x0 : Nat} {x1 : Int32} {x2 : Int32} {x3 : Int32} {x4 : Int32} {x5 : Int32} {x6 : Int32} {x7 : Int32} {x8 : Int64} {x10 : Int32} {u11 : Option Value} {u12 : Option Value} (hw : ω.2.2.2.1 = true) (kf : Ex ω ML_isUndone 184 [some (.ref x0), some (.int x1), some (.int x2), some (.int x3), some (.int x4), some (.int x5), some (.int x6), some (.int x7), some (.long x8), none, some (.int x10), none, none] [.int (nI 0)] h 0 0 Q) : Ex ω ML_isUndone 183 [some (.ref x0), some (.int x1), some (.int x2), some (.int x3), some (.int x4), some (.int x5), some (.int x6), some (.int x7), some (.long x8), none, some (.int x10), u11, u12] [] h 0 0 Q := by
  refine x_dr11 ?_
  refine x_dr12 ?_
  refine x_iconst (nI 0) 184 dL_isUndone_183 rfl rfl ?_
  exact kf
set_option maxRecDepth 20000 in
theorem BL_isUndone_184 {ω : Om} {h : AH} {Q : Option Value → AH → Prop} {x0 : Nat} {x1 : Int32} {x2 : Int32} {x3 : Int32} {x4 : Int32} {x5 : Int32} {x6 : Int32} {x7 : Int32} {x8 : Int64} {x10 : Int32} {u11 : Option Value} {u12 : Option Value} {y0 : Int32} (hw : ω.2.2.2.1 = true) (s_x0 : gs h x0 = some (8, 8)) (kk : Ex ω M8_total 0 [some (.ref x0), some (.int (nI 7))] [] h 0 0 (fun v h' => Ex ω ML_isUndone 192 [some (.ref x0), some (.int x1), some (.int x2), some (.int x3), some (.int x4), some (.int x5), some (.int x6), some (.int x7), some (.long x8), none, some (.int x10), some (.int y0), none] (v.toList ++ []) h' 0 0 Q)) : Ex ω ML_isUndone 184 [some (.ref x0), some (.int x1), some (.int x2), some (.int x3), some (.int x4), some (.int x5), some (.int x6), some (.int x7), some (.long x8), none, some (.int x10), u11, u12] [.int y0] h 0 0 Q := by
  refine x_dr11 ?_
  refine x_dr12 ?_
  refine x_istore11 186 dL_isUndone_184 rfl (by decide) rfl ?_
  refine x_aload0 187 dL_isUndone_186 rfl ?_
  refine x_bipush (nI 7) 189 dL_isUndone_187 rfl rfl ?_
  exact x_callV 192 x0 [.int (nI 7)] [] dL_isUndone_189 rfl lk_8_total ⟨wd414, wd415, wd416⟩ ⟨by decide, by decide⟩ (recvO cf8 (fun _ => s_x0)) rfl rfl (Nat.le_of_ble_eq_true rfl) (Nat.le_of_ble_eq_true rfl) (by decide) (by decide) kk
set_option maxRecDepth 20000 in
theorem BL_isUndone_192 {ω : Om} {h : AH} {Q : Option Value → AH → Prop} {x0 : Nat} {x1 : Int32} {x2 : Int32} {x3 : Int32} {x4 : Int32} {x5 : Int32} {x6 : Int32} {x7 : Int32} {x8 : Int64} {x10 : Int32} {x11 : Int32} {u12 : Option Value} {y0 : Int32} (hw : ω.2.2.2.1 = true) (kt : x11 = 0 → Ex ω ML_isUndone 279 [some (.ref x0), some (.int x1), some (.int x2), some (.int x3), some (.int x4), some (.int x5), some (.int x6), some (.int x7), some (.long x8), none, some (.int x10), some (.int x11), some (.int y0)] [] h 0 0 Q) (kf : ¬ x11 = 0 → Ex ω ML_isUndone 199 [some (.ref x0), some (.int x1), some (.int x2), some (.int x3), some (.int x4), some (.int x5), some (.int x6), some (.int x7), some (.long x8), none, some (.int x10), some (.int x11), some (.int y0)] [] h 0 0 Q) : Ex ω ML_isUndone 192 [some (.ref x0), some (.int x1), some (.int x2), some (.int x3), some (.int x4), some (.int x5), some (.int x6), some (.int x7), some (.long x8), none, some (.int x10), some (.int x11), u12] [.int y0] h 0 0 Q := by
  refine x_dr12 ?_
  refine x_istore12 194 dL_isUndone_192 rfl (by decide) rfl ?_
  refine x_iload11 196 dL_isUndone_194 rfl ?_
  exact x_if_eq 199 279 dL_isUndone_196 rfl (by decide) kt kf
set_option maxRecDepth 20000 in
theorem BL_isUndone_199 {ω : Om} {h : AH} {Q : Option Value → AH → Prop} {x0 : Nat} {x1 : Int32} {x2 : Int32} {x3 : Int32} {x4 : Int32} {x5 : Int32} {x6 : Int32} {x7 : Int32} {x8 : Int64} {x10 : Int32} {u11 : Option Value} {x12 : Int32} (hw : ω.2.2.2.1 = true) (s_x0 : gs h x0 = some (8, 8)) (kk : Ex ω M8_undo 0 [some (.ref x0)] [] h 0 0 (fun v h' => Ex ω ML_isUndone 203 [some (.ref x0), some (.int x1), some (.int x2), some (.int x3), some (.int x4), some (.int x5), some (.int x6), some (.int x7), some (.long x8), none, some (.int x10), none, some (.int x12)] (v.toList ++ []) h' 0 0 Q)) : Ex ω ML_isUndone 199 [some (.ref x0), some (.int x1), some (.int x2), some (.int x3), some (.int x4), some (.int x5), some (.int x6), some (.int x7), some (.long x8), none, some (.int x10), u11, some (.int x12)] [] h 0 0 Q := by
  refine x_dr11 ?_
  refine x_aload0 200 dL_isUndone_199 rfl ?_
  exact x_callV 203 x0 [] [] dL_isUndone_200 rfl lk_8_undo ⟨wd92, wd93, wd94⟩ ⟨by decide, by decide⟩ (recvO cf8 (fun _ => s_x0)) rfl rfl (Nat.le_of_ble_eq_true rfl) (Nat.le_of_ble_eq_true rfl) (by decide) (by decide) kk
set_option maxRecDepth 20000 in
theorem BL_isUndone_203 {ω : Om} {h : AH} {Q : Option Value → AH → Prop} {x0 : Nat} {x1 : Int32} {x2 : Int32} {x3 : Int32} {x4 : Int32} {x5 : Int32} {x6 : Int32} {x7 : Int32} {x8 : Int64} {x10 : Int32} {u11 : Option Value} {x12 : Int32} {y0 : Int32} (hw : ω.2.2.2.1 = true) (kt : y0 < 0 → Ex ω ML_isUndone 279 [some (.ref x0), some (.int x1), some (.int x2), some (.int x3), some (.int x4), some (.int x5), some (.int x6), some (.int x7), some (.long x8), none, some (.int x10), none, some (.int x12)] [] h 0 0 Q) (kf : ¬ y0 < 0 → Ex ω ML_isUndone 206 [some (.ref x0), some (.int x1), some (.int x2), some (.int x3), some (.int x4), some (.int x5), some (.int x6), some (.int x7), some (.long x8), none, some (.int x10), none, some (.int x12)] [] h 0 0 Q) : Ex ω ML_isUndone 203 [some (.ref x0), some (.int x1), some (.int x2), some (.int x3), some (.int x4), some (.int x5), some (.int x6), some (.int x7), some (.long x8), none, some (.int x10), u11, some (.int x12)] [.int y0] h 0 0 Q := by
  refine x_dr11 ?_
  exact x_if_lt 206 279 dL_isUndone_203 rfl (by decide) kt kf
set_option maxRecDepth 20000 in
theorem BL_isUndone_206 {ω : Om} {h : AH} {Q : Option Value → AH → Prop} {x0 : Nat} {x1 : Int32} {x2 : Int32} {x3 : Int32} {x4 : Int32} {x5 : Int32} {x6 : Int32} {x7 : Int32} {x8 : Int64} {x10 : Int32} {u11 : Option Value} {x12 : Int32} (hw : ω.2.2.2.1 = true) (s_x0 : gs h x0 = some (8, 8)) (kk : Ex ω M8_count 0 [some (.ref x0), some (.int (nI 1))] [] h 0 0 (fun v h' => Ex ω ML_isUndone 211 [some (.ref x0), some (.int x1), some (.int x2), some (.int x3), some (.int x4), some (.int x5), some (.int x6), some (.int x7), some (.long x8), none, some (.int x10), none, some (.int x12)] (v.toList ++ []) h' 0 0 Q)) : Ex ω ML_isUndone 206 [some (.ref x0), some (.int x1), some (.int x2), some (.int x3), some (.int x4), some (.int x5), some (.int x6), some (.int x7), some (.long x8), none, some (.int x10), u11, some (.int x12)] [] h 0 0 Q := by
  refine x_dr11 ?_
  refine x_aload0 207 dL_isUndone_206 rfl ?_
  refine x_iconst (nI 1) 208 dL_isUndone_207 rfl rfl ?_
  exact x_callV 211 x0 [.int (nI 1)] [] dL_isUndone_208 rfl lk_8_count ⟨wd282, wd283, wd284⟩ ⟨by decide, by decide⟩ (recvO cf8 (fun _ => s_x0)) rfl rfl (Nat.le_of_ble_eq_true rfl) (Nat.le_of_ble_eq_true rfl) (by decide) (by decide) kk
set_option maxRecDepth 20000 in
theorem BL_isUndone_211 {ω : Om} {h : AH} {Q : Option Value → AH → Prop} {x0 : Nat} {x1 : Int32} {x2 : Int32} {x3 : Int32} {x4 : Int32} {x5 : Int32} {x6 : Int32} {x7 : Int32} {x8 : Int64} {x10 : Int32} {u11 : Option Value} {x12 : Int32} {y0 : Int32} (hw : ω.2.2.2.1 = true) (kt : ¬ y0 = x1 → Ex ω ML_isUndone 279 [some (.ref x0), some (.int x1), some (.int x2), some (.int x3), some (.int x4), some (.int x5), some (.int x6), some (.int x7), some (.long x8), none, some (.int x10), none, some (.int x12)] [] h 0 0 Q) (kf : y0 = x1 → Ex ω ML_isUndone 215 [some (.ref x0), some (.int x1), some (.int x2), some (.int x3), some (.int x4), some (.int x5), some (.int x6), some (.int x7), some (.long x8), none, some (.int x10), none, some (.int x12)] [] h 0 0 Q) : Ex ω ML_isUndone 211 [some (.ref x0), some (.int x1), some (.int x2), some (.int x3), some (.int x4), some (.int x5), some (.int x6), some (.int x7), some (.long x8), none, some (.int x10), u11, some (.int x12)] [.int y0] h 0 0 Q := by
  refine x_dr11 ?_
  refine x_iload1 212 dL_isUndone_211 rfl ?_
  exact x_icmp_ne 215 279 dL_isUndone_212 rfl (by decide) kt kf
set_option maxRecDepth 20000 in
theorem BL_isUndone_215 {ω : Om} {h : AH} {Q : Option Value → AH → Prop} {x0 : Nat} {u1 : Option Value} {x2 : Int32} {x3 : Int32} {x4 : Int32} {x5 : Int32} {x6 : Int32} {x7 : Int32} {x8 : Int64} {x10 : Int32} {u11 : Option Value} {x12 : Int32} (hw : ω.2.2.2.1 = true) (s_x0 : gs h x0 = some (8, 8)) (kk : Ex ω M8_waiting 0 [some (.ref x0), some (.int (nI 0)), some (.int (nI 0))] [] h 0 0 (fun v h' => Ex ω ML_isUndone 221 [some (.ref x0), none, some (.int x2), some (.int x3), some (.int x4), some (.int x5), some (.int x6), some (.int x7), some (.long x8), none, some (.int x10), none, some (.int x12)] (v.toList ++ []) h' 0 0 Q)) : Ex ω ML_isUndone 215 [some (.ref x0), u1, some (.int x2), some (.int x3), some (.int x4), some (.int x5), some (.int x6), some (.int x7), some (.long x8), none, some (.int x10), u11, some (.int x12)] [] h 0 0 Q := by
  refine x_dr1 ?_
  refine x_dr11 ?_
  refine x_aload0 216 dL_isUndone_215 rfl ?_
  refine x_iconst (nI 0) 217 dL_isUndone_216 rfl rfl ?_
  refine x_iconst (nI 0) 218 dL_isUndone_217 rfl rfl ?_
  exact x_callV 221 x0 [.int (nI 0), .int (nI 0)] [] dL_isUndone_218 rfl lk_8_waiting ⟨wd393, wd394, wd395⟩ ⟨by decide, by decide⟩ (recvO cf8 (fun _ => s_x0)) rfl rfl (Nat.le_of_ble_eq_true rfl) (Nat.le_of_ble_eq_true rfl) (by decide) (by decide) kk
set_option maxRecDepth 20000 in
theorem BL_isUndone_221 {ω : Om} {h : AH} {Q : Option Value → AH → Prop} {x0 : Nat} {u1 : Option Value} {x2 : Int32} {x3 : Int32} {x4 : Int32} {x5 : Int32} {x6 : Int32} {x7 : Int32} {x8 : Int64} {x10 : Int32} {u11 : Option Value} {x12 : Int32} {y0 : Int32} (hw : ω.2.2.2.1 = true) (kt : ¬ y0 = x2 → Ex ω ML_isUndone 279 [some (.ref x0), none, some (.int x2), some (.int x3), some (.int x4), some (.int x5), some (.int x6), some (.int x7), some (.long x8), none, some (.int x10), none, some (.int x12)] [] h 0 0 Q) (kf : y0 = x2 → Ex ω ML_isUndone 225 [some (.ref x0), none, some (.int x2), some (.int x3), some (.int x4), some (.int x5), some (.int x6), some (.int x7), some (.long x8), none, some (.int x10), none, some (.int x12)] [] h 0 0 Q) : Ex ω ML_isUndone 221 [some (.ref x0), u1, some (.int x2), some (.int x3), some (.int x4), some (.int x5), some (.int x6), some (.int x7), some (.long x8), none, some (.int x10), u11, some (.int x12)] [.int y0] h 0 0 Q := by
  refine x_dr1 ?_
  refine x_dr11 ?_
  refine x_iload2 222 dL_isUndone_221 rfl ?_
  exact x_icmp_ne 225 279 dL_isUndone_222 rfl (by decide) kt kf
set_option maxRecDepth 20000 in
theorem BL_isUndone_225 {ω : Om} {h : AH} {Q : Option Value → AH → Prop} {x0 : Nat} {u1 : Option Value} {u2 : Option Value} {x3 : Int32} {x4 : Int32} {x5 : Int32} {x6 : Int32} {x7 : Int32} {x8 : Int64} {x10 : Int32} {u11 : Option Value} {x12 : Int32} (hw : ω.2.2.2.1 = true) (s_x0 : gs h x0 = some (8, 8)) (kk : Ex ω M8_count 0 [some (.ref x0), some (.int (nI 2))] [] h 0 0 (fun v h' => Ex ω ML_isUndone 230 [some (.ref x0), none, none, some (.int x3), some (.int x4), some (.int x5), some (.int x6), some (.int x7), some (.long x8), none, some (.int x10), none, some (.int x12)] (v.toList ++ []) h' 0 0 Q)) : Ex ω ML_isUndone 225 [some (.ref x0), u1, u2, some (.int x3), some (.int x4), some (.int x5), some (.int x6), some (.int x7), some (.long x8), none, some (.int x10), u11, some (.int x12)] [] h 0 0 Q := by
  refine x_dr1 ?_
  refine x_dr2 ?_
  refine x_dr11 ?_
  refine x_aload0 226 dL_isUndone_225 rfl ?_
  refine x_iconst (nI 2) 227 dL_isUndone_226 rfl rfl ?_
  exact x_callV 230 x0 [.int (nI 2)] [] dL_isUndone_227 rfl lk_8_count ⟨wd282, wd283, wd284⟩ ⟨by decide, by decide⟩ (recvO cf8 (fun _ => s_x0)) rfl rfl (Nat.le_of_ble_eq_true rfl) (Nat.le_of_ble_eq_true rfl) (by decide) (by decide) kk
set_option maxRecDepth 20000 in
theorem BL_isUndone_230 {ω : Om} {h : AH} {Q : Option Value → AH → Prop} {x0 : Nat} {u1 : Option Value} {u2 : Option Value} {x3 : Int32} {x4 : Int32} {x5 : Int32} {x6 : Int32} {x7 : Int32} {x8 : Int64} {x10 : Int32} {u11 : Option Value} {x12 : Int32} {y0 : Int32} (hw : ω.2.2.2.1 = true) (kt : ¬ y0 = x3 → Ex ω ML_isUndone 279 [some (.ref x0), none, none, some (.int x3), some (.int x4), some (.int x5), some (.int x6), some (.int x7), some (.long x8), none, some (.int x10), none, some (.int x12)] [] h 0 0 Q) (kf : y0 = x3 → Ex ω ML_isUndone 234 [some (.ref x0), none, none, some (.int x3), some (.int x4), some (.int x5), some (.int x6), some (.int x7), some (.long x8), none, some (.int x10), none, some (.int x12)] [] h 0 0 Q) : Ex ω ML_isUndone 230 [some (.ref x0), u1, u2, some (.int x3), some (.int x4), some (.int x5), some (.int x6), some (.int x7), some (.long x8), none, some (.int x10), u11, some (.int x12)] [.int y0] h 0 0 Q := by
  refine x_dr1 ?_
  refine x_dr2 ?_
  refine x_dr11 ?_
  refine x_iload3 231 dL_isUndone_230 rfl ?_
  exact x_icmp_ne 234 279 dL_isUndone_231 rfl (by decide) kt kf
set_option maxRecDepth 20000 in
theorem BL_isUndone_234 {ω : Om} {h : AH} {Q : Option Value → AH → Prop} {x0 : Nat} {u1 : Option Value} {u2 : Option Value} {u3 : Option Value} {x4 : Int32} {x5 : Int32} {x6 : Int32} {x7 : Int32} {x8 : Int64} {x10 : Int32} {u11 : Option Value} {x12 : Int32} (hw : ω.2.2.2.1 = true) (s_x0 : gs h x0 = some (8, 8)) (kk : Ex ω M8_count 0 [some (.ref x0), some (.int (nI 8))] [] h 0 0 (fun v h' => Ex ω ML_isUndone 240 [some (.ref x0), none, none, none, some (.int x4), some (.int x5), some (.int x6), some (.int x7), some (.long x8), none, some (.int x10), none, some (.int x12)] (v.toList ++ []) h' 0 0 Q)) : Ex ω ML_isUndone 234 [some (.ref x0), u1, u2, u3, some (.int x4), some (.int x5), some (.int x6), some (.int x7), some (.long x8), none, some (.int x10), u11, some (.int x12)] [] h 0 0 Q := by
  refine x_dr1 ?_
  refine x_dr2 ?_
  refine x_dr3 ?_
  refine x_dr11 ?_
  refine x_aload0 235 dL_isUndone_234 rfl ?_
  refine x_bipush (nI 8) 237 dL_isUndone_235 rfl rfl ?_
  exact x_callV 240 x0 [.int (nI 8)] [] dL_isUndone_237 rfl lk_8_count ⟨wd282, wd283, wd284⟩ ⟨by decide, by decide⟩ (recvO cf8 (fun _ => s_x0)) rfl rfl (Nat.le_of_ble_eq_true rfl) (Nat.le_of_ble_eq_true rfl) (by decide) (by decide) kk
set_option maxRecDepth 20000 in
theorem BL_isUndone_240 {ω : Om} {h : AH} {Q : Option Value → AH → Prop} {x0 : Nat} {u1 : Option Value} {u2 : Option Value} {u3 : Option Value} {x4 : Int32} {x5 : Int32} {x6 : Int32} {x7 : Int32} {x8 : Int64} {x10 : Int32} {u11 : Option Value} {x12 : Int32} {y0 : Int32} (hw : ω.2.2.2.1 = true) (kt : ¬ y0 = x4 → Ex ω ML_isUndone 279 [some (.ref x0), none, none, none, some (.int x4), some (.int x5), some (.int x6), some (.int x7), some (.long x8), none, some (.int x10), none, some (.int x12)] [] h 0 0 Q) (kf : y0 = x4 → Ex ω ML_isUndone 245 [some (.ref x0), none, none, none, some (.int x4), some (.int x5), some (.int x6), some (.int x7), some (.long x8), none, some (.int x10), none, some (.int x12)] [] h 0 0 Q) : Ex ω ML_isUndone 240 [some (.ref x0), u1, u2, u3, some (.int x4), some (.int x5), some (.int x6), some (.int x7), some (.long x8), none, some (.int x10), u11, some (.int x12)] [.int y0] h 0 0 Q := by
  refine x_dr1 ?_
  refine x_dr2 ?_
  refine x_dr3 ?_
  refine x_dr11 ?_
  refine x_iload4 242 dL_isUndone_240 rfl ?_
  exact x_icmp_ne 245 279 dL_isUndone_242 rfl (by decide) kt kf
set_option maxRecDepth 20000 in
theorem BL_isUndone_245 {ω : Om} {h : AH} {Q : Option Value → AH → Prop} {x0 : Nat} {u1 : Option Value} {u2 : Option Value} {u3 : Option Value} {u4 : Option Value} {x5 : Int32} {x6 : Int32} {x7 : Int32} {x8 : Int64} {x10 : Int32} {u11 : Option Value} {x12 : Int32} (hw : ω.2.2.2.1 = true) (s_x0 : gs h x0 = some (8, 8)) (kk : Ex ω M8_count 0 [some (.ref x0), some (.int (nI 0))] [] h 0 0 (fun v h' => Ex ω ML_isUndone 250 [some (.ref x0), none, none, none, none, some (.int x5), some (.int x6), some (.int x7), some (.long x8), none, some (.int x10), none, some (.int x12)] (v.toList ++ []) h' 0 0 Q)) : Ex ω ML_isUndone 245 [some (.ref x0), u1, u2, u3, u4, some (.int x5), some (.int x6), some (.int x7), some (.long x8), none, some (.int x10), u11, some (.int x12)] [] h 0 0 Q := by
  refine x_dr1 ?_
  refine x_dr2 ?_
  refine x_dr3 ?_
  refine x_dr4 ?_
  refine x_dr11 ?_
  refine x_aload0 246 dL_isUndone_245 rfl ?_
  refine x_iconst (nI 0) 247 dL_isUndone_246 rfl rfl ?_
  exact x_callV 250 x0 [.int (nI 0)] [] dL_isUndone_247 rfl lk_8_count ⟨wd282, wd283, wd284⟩ ⟨by decide, by decide⟩ (recvO cf8 (fun _ => s_x0)) rfl rfl (Nat.le_of_ble_eq_true rfl) (Nat.le_of_ble_eq_true rfl) (by decide) (by decide) kk
set_option maxRecDepth 20000 in
theorem BL_isUndone_250 {ω : Om} {h : AH} {Q : Option Value → AH → Prop} {x0 : Nat} {u1 : Option Value} {u2 : Option Value} {u3 : Option Value} {u4 : Option Value} {x5 : Int32} {x6 : Int32} {x7 : Int32} {x8 : Int64} {x10 : Int32} {u11 : Option Value} {x12 : Int32} {y0 : Int32} (hw : ω.2.2.2.1 = true) (kt : ¬ y0 = x5 → Ex ω ML_isUndone 279 [some (.ref x0), none, none, none, none, some (.int x5), some (.int x6), some (.int x7), some (.long x8), none, some (.int x10), none, some (.int x12)] [] h 0 0 Q) (kf : y0 = x5 → Ex ω ML_isUndone 255 [some (.ref x0), none, none, none, none, some (.int x5), some (.int x6), some (.int x7), some (.long x8), none, some (.int x10), none, some (.int x12)] [] h 0 0 Q) : Ex ω ML_isUndone 250 [some (.ref x0), u1, u2, u3, u4, some (.int x5), some (.int x6), some (.int x7), some (.long x8), none, some (.int x10), u11, some (.int x12)] [.int y0] h 0 0 Q := by
  refine x_dr1 ?_
  refine x_dr2 ?_
  refine x_dr3 ?_
  refine x_dr4 ?_
  refine x_dr11 ?_
  refine x_iload5 252 dL_isUndone_250 rfl ?_
  exact x_icmp_ne 255 279 dL_isUndone_252 rfl (by decide) kt kf
set_option maxRecDepth 20000 in
theorem BL_isUndone_255 {ω : Om} {h : AH} {Q : Option Value → AH → Prop} {x0 : Nat} {u1 : Option Value} {u2 : Option Value} {u3 : Option Value} {u4 : Option Value} {x5 : Int32} {x6 : Int32} {x7 : Int32} {x8 : Int64} {x10 : Int32} {u11 : Option Value} {x12 : Int32} (hw : ω.2.2.2.1 = true) (s_x0 : gs h x0 = some (8, 8)) (kk : Ex ω M8_total 0 [some (.ref x0), some (.int (nI 0))] [] h 0 0 (fun v h' => Ex ω ML_isUndone 260 [some (.ref x0), none, none, none, none, some (.int x5), some (.int x6), some (.int x7), some (.long x8), none, some (.int x10), none, some (.int x12)] (v.toList ++ []) h' 0 0 Q)) : Ex ω ML_isUndone 255 [some (.ref x0), u1, u2, u3, u4, some (.int x5), some (.int x6), some (.int x7), some (.long x8), none, some (.int x10), u11, some (.int x12)] [] h 0 0 Q := by
  refine x_dr1 ?_
  refine x_dr2 ?_
  refine x_dr3 ?_
  refine x_dr4 ?_
  refine x_dr11 ?_
  refine x_aload0 256 dL_isUndone_255 rfl ?_
  refine x_iconst (nI 0) 257 dL_isUndone_256 rfl rfl ?_
  exact x_callV 260 x0 [.int (nI 0)] [] dL_isUndone_257 rfl lk_8_total ⟨wd414, wd415, wd416⟩ ⟨by decide, by decide⟩ (recvO cf8 (fun _ => s_x0)) rfl rfl (Nat.le_of_ble_eq_true rfl) (Nat.le_of_ble_eq_true rfl) (by decide) (by decide) kk
set_option maxRecDepth 20000 in
theorem BL_isUndone_260 {ω : Om} {h : AH} {Q : Option Value → AH → Prop} {x0 : Nat} {u1 : Option Value} {u2 : Option Value} {u3 : Option Value} {u4 : Option Value} {x5 : Int32} {x6 : Int32} {x7 : Int32} {x8 : Int64} {x10 : Int32} {u11 : Option Value} {x12 : Int32} {y0 : Int32} (hw : ω.2.2.2.1 = true) (kt : ¬ y0 = x7 → Ex ω ML_isUndone 279 [some (.ref x0), none, none, none, none, some (.int x5), some (.int x6), some (.int x7), some (.long x8), none, some (.int x10), none, some (.int x12)] [] h 0 0 Q) (kf : y0 = x7 → Ex ω ML_isUndone 265 [some (.ref x0), none, none, none, none, some (.int x5), some (.int x6), some (.int x7), some (.long x8), none, some (.int x10), none, some (.int x12)] [] h 0 0 Q) : Ex ω ML_isUndone 260 [some (.ref x0), u1, u2, u3, u4, some (.int x5), some (.int x6), some (.int x7), some (.long x8), none, some (.int x10), u11, some (.int x12)] [.int y0] h 0 0 Q := by
  refine x_dr1 ?_
  refine x_dr2 ?_
  refine x_dr3 ?_
  refine x_dr4 ?_
  refine x_dr11 ?_
  refine x_iload7 262 dL_isUndone_260 rfl ?_
  exact x_icmp_ne 265 279 dL_isUndone_262 rfl (by decide) kt kf
set_option maxRecDepth 20000 in
theorem BL_isUndone_265 {ω : Om} {h : AH} {Q : Option Value → AH → Prop} {x0 : Nat} {u1 : Option Value} {u2 : Option Value} {u3 : Option Value} {u4 : Option Value} {x5 : Int32} {x6 : Int32} {u7 : Option Value} {x8 : Int64} {x10 : Int32} {u11 : Option Value} {x12 : Int32} (hw : ω.2.2.2.1 = true) (s_x0 : gs h x0 = some (8, 8)) (kk : Ex ω M8_weight 0 [some (.ref x0)] [] h 0 0 (fun v h' => Ex ω ML_isUndone 269 [some (.ref x0), none, none, none, none, some (.int x5), some (.int x6), none, some (.long x8), none, some (.int x10), none, some (.int x12)] (v.toList ++ []) h' 0 0 Q)) : Ex ω ML_isUndone 265 [some (.ref x0), u1, u2, u3, u4, some (.int x5), some (.int x6), u7, some (.long x8), none, some (.int x10), u11, some (.int x12)] [] h 0 0 Q := by
  refine x_dr1 ?_
  refine x_dr2 ?_
  refine x_dr3 ?_
  refine x_dr4 ?_
  refine x_dr7 ?_
  refine x_dr11 ?_
  refine x_aload0 266 dL_isUndone_265 rfl ?_
  exact x_callV 269 x0 [] [] dL_isUndone_266 rfl lk_8_weight ⟨wd422, wd423, wd424⟩ ⟨by decide, by decide⟩ (recvO cf8 (fun _ => s_x0)) rfl rfl (Nat.le_of_ble_eq_true rfl) (Nat.le_of_ble_eq_true rfl) (by decide) (by decide) kk
set_option maxRecDepth 20000 in
theorem BL_isUndone_269 {ω : Om} {h : AH} {Q : Option Value → AH → Prop} {x0 : Nat} {u1 : Option Value} {u2 : Option Value} {u3 : Option Value} {u4 : Option Value} {x5 : Int32} {x6 : Int32} {u7 : Option Value} {x8 : Int64} {x10 : Int32} {u11 : Option Value} {x12 : Int32} {y0 : Int64} (hw : ω.2.2.2.1 = true) (kt : ¬ (lg_cmp y0 x8) = 0 → Ex ω ML_isUndone 279 [some (.ref x0), none, none, none, none, some (.int x5), some (.int x6), none, some (.long x8), none, some (.int x10), none, some (.int x12)] [] h 0 0 Q) (kf : (lg_cmp y0 x8) = 0 → Ex ω ML_isUndone 275 [some (.ref x0), none, none, none, none, some (.int x5), some (.int x6), none, some (.long x8), none, some (.int x10), none, some (.int x12)] [] h 0 0 Q) : Ex ω ML_isUndone 269 [some (.ref x0), u1, u2, u3, u4, some (.int x5), some (.int x6), u7, some (.long x8), none, some (.int x10), u11, some (.int x12)] [.long y0] h 0 0 Q := by
  refine x_dr1 ?_
  refine x_dr2 ?_
  refine x_dr3 ?_
  refine x_dr4 ?_
  refine x_dr7 ?_
  refine x_dr11 ?_
  refine x_lload8 271 dL_isUndone_269 rfl ?_
  refine x_lcmp 272 dL_isUndone_271 rfl ?_
  exact x_if_ne 275 279 dL_isUndone_272 rfl (by decide) kt kf
set_option maxRecDepth 20000 in
theorem BL_isUndone_275 {ω : Om} {h : AH} {Q : Option Value → AH → Prop} {x0 : Nat} {u1 : Option Value} {u2 : Option Value} {u3 : Option Value} {u4 : Option Value} {x5 : Int32} {x6 : Int32} {u7 : Option Value} {u8 : Option Value} {u9 : Option Value} {x10 : Int32} {u11 : Option Value} {x12 : Int32} (hw : ω.2.2.2.1 = true) (kt : Ex ω ML_isUndone 280 [some (.ref x0), none, none, none, none, some (.int x5), some (.int x6), none, none, none, some (.int x10), none, some (.int x12)] [.int (nI 1)] h 0 0 Q) : Ex ω ML_isUndone 275 [some (.ref x0), u1, u2, u3, u4, some (.int x5), some (.int x6), u7, u8, u9, some (.int x10), u11, some (.int x12)] [] h 0 0 Q := by
  refine x_dr1 ?_
  refine x_dr2 ?_
  refine x_dr3 ?_
  refine x_dr4 ?_
  refine x_dr7 ?_
  refine x_dr8 ?_
  refine x_dr9 ?_
  refine x_dr11 ?_
  refine x_iconst (nI 1) 276 dL_isUndone_275 rfl rfl ?_
  exact x_goto 280 dL_isUndone_276 (by decide) kt
set_option maxRecDepth 20000 in
theorem BL_isUndone_279 {ω : Om} {h : AH} {Q : Option Value → AH → Prop} {x0 : Nat} {u1 : Option Value} {u2 : Option Value} {u3 : Option Value} {u4 : Option Value} {x5 : Int32} {x6 : Int32} {u7 : Option Value} {u8 : Option Value} {u9 : Option Value} {x10 : Int32} {u11 : Option Value} {x12 : Int32} (hw : ω.2.2.2.1 = true) (kf : Ex ω ML_isUndone 280 [some (.ref x0), none, none, none, none, some (.int x5), some (.int x6), none, none, none, some (.int x10), none, some (.int x12)] [.int (nI 0)] h 0 0 Q) : Ex ω ML_isUndone 279 [some (.ref x0), u1, u2, u3, u4, some (.int x5), some (.int x6), u7, u8, u9, some (.int x10), u11, some (.int x12)] [] h 0 0 Q := by
  refine x_dr1 ?_
  refine x_dr2 ?_
  refine x_dr3 ?_
  refine x_dr4 ?_
  refine x_dr7 ?_
  refine x_dr8 ?_
  refine x_dr9 ?_
  refine x_dr11 ?_
  refine x_iconst (nI 0) 280 dL_isUndone_279 rfl rfl ?_
  exact kf
set_option maxRecDepth 20000 in
theorem BL_isUndone_280 {ω : Om} {h : AH} {Q : Option Value → AH → Prop} {x0 : Nat} {u1 : Option Value} {u2 : Option Value} {u3 : Option Value} {u4 : Option Value} {x5 : Int32} {x6 : Int32} {u7 : Option Value} {u8 : Option Value} {u9 : Option Value} {x10 : Int32} {u11 : Option Value} {x12 : Int32} {y0 : Int32} (hw : ω.2.2.2.1 = true) (kt : y0 = 0 → Ex ω ML_isUndone 327 [some (.ref x0), none, none, none, none, some (.int x5), some (.int x6), none, none, none, some (.int x10), some (.int y0), some (.int x12)] [] h 0 0 Q) (kf : ¬ y0 = 0 → Ex ω ML_isUndone 287 [some (.ref x0), none, none, none, none, some (.int x5), some (.int x6), none, none, none, some (.int x10), some (.int y0), some (.int x12)] [] h 0 0 Q) : Ex ω ML_isUndone 280 [some (.ref x0), u1, u2, u3, u4, some (.int x5), some (.int x6), u7, u8, u9, some (.int x10), u11, some (.int x12)] [.int y0] h 0 0 Q := by
  refine x_dr1 ?_
  refine x_dr2 ?_
  refine x_dr3 ?_
  refine x_dr4 ?_
  refine x_dr7 ?_
  refine x_dr8 ?_
  refine x_dr9 ?_
  refine x_dr11 ?_
  refine x_istore11 282 dL_isUndone_280 rfl (by decide) rfl ?_
  refine x_iload11 284 dL_isUndone_282 rfl ?_
  exact x_if_eq 287 327 dL_isUndone_284 rfl (by decide) kt kf
set_option maxRecDepth 20000 in
theorem BL_isUndone_287 {ω : Om} {h : AH} {Q : Option Value → AH → Prop} {x0 : Nat} {u1 : Option Value} {u2 : Option Value} {u3 : Option Value} {u4 : Option Value} {x5 : Int32} {x6 : Int32} {u7 : Option Value} {u8 : Option Value} {u9 : Option Value} {x10 : Int32} {u11 : Option Value} {x12 : Int32} (hw : ω.2.2.2.1 = true) (kt : x5 = 0 → Ex ω ML_isUndone 303 [some (.ref x0), none, none, none, none, some (.int x5), some (.int x6), none, none, none, some (.int x10), none, some (.int x12)] [] h 0 0 Q) (kf : ¬ x5 = 0 → Ex ω ML_isUndone 292 [some (.ref x0), none, none, none, none, some (.int x5), some (.int x6), none, none, none, some (.int x10), none, some (.int x12)] [] h 0 0 Q) : Ex ω ML_isUndone 287 [some (.ref x0), u1, u2, u3, u4, some (.int x5), some (.int x6), u7, u8, u9, some (.int x10), u11, some (.int x12)] [] h 0 0 Q := by
  refine x_dr1 ?_
  refine x_dr2 ?_
  refine x_dr3 ?_
  refine x_dr4 ?_
  refine x_dr7 ?_
  refine x_dr8 ?_
  refine x_dr9 ?_
  refine x_dr11 ?_
  refine x_iload5 289 dL_isUndone_287 rfl ?_
  exact x_if_eq 292 303 dL_isUndone_289 rfl (by decide) kt kf
set_option maxRecDepth 20000 in
theorem BL_isUndone_292 {ω : Om} {h : AH} {Q : Option Value → AH → Prop} {x0 : Nat} {u1 : Option Value} {u2 : Option Value} {u3 : Option Value} {u4 : Option Value} {u5 : Option Value} {x6 : Int32} {u7 : Option Value} {u8 : Option Value} {u9 : Option Value} {x10 : Int32} {u11 : Option Value} {x12 : Int32} (hw : ω.2.2.2.1 = true) (s_x0 : gs h x0 = some (8, 8)) (kk : Ex ω M8_roll 0 [some (.ref x0), some (.int (nI 0)), some (.int (nI 2))] [] h 0 0 (fun v h' => Ex ω ML_isUndone 298 [some (.ref x0), none, none, none, none, none, some (.int x6), none, none, none, some (.int x10), none, some (.int x12)] (v.toList ++ []) h' 0 0 Q)) : Ex ω ML_isUndone 292 [some (.ref x0), u1, u2, u3, u4, u5, some (.int x6), u7, u8, u9, some (.int x10), u11, some (.int x12)] [] h 0 0 Q := by
  refine x_dr1 ?_
  refine x_dr2 ?_
  refine x_dr3 ?_
  refine x_dr4 ?_
  refine x_dr5 ?_
  refine x_dr7 ?_
  refine x_dr8 ?_
  refine x_dr9 ?_
  refine x_dr11 ?_
  refine x_aload0 293 dL_isUndone_292 rfl ?_
  refine x_iconst (nI 0) 294 dL_isUndone_293 rfl rfl ?_
  refine x_iconst (nI 2) 295 dL_isUndone_294 rfl rfl ?_
  exact x_callV 298 x0 [.int (nI 0), .int (nI 2)] [] dL_isUndone_295 rfl lk_8_roll ⟨wd402, wd403, wd404⟩ ⟨by decide, by decide⟩ (recvO cf8 (fun _ => s_x0)) rfl rfl (Nat.le_of_ble_eq_true rfl) (Nat.le_of_ble_eq_true rfl) (by decide) (by decide) kk
set_option maxRecDepth 20000 in
theorem BL_isUndone_298 {ω : Om} {h : AH} {Q : Option Value → AH → Prop} {x0 : Nat} {u1 : Option Value} {u2 : Option Value} {u3 : Option Value} {u4 : Option Value} {u5 : Option Value} {x6 : Int32} {u7 : Option Value} {u8 : Option Value} {u9 : Option Value} {x10 : Int32} {u11 : Option Value} {x12 : Int32} {y0 : Int32} (hw : ω.2.2.2.1 = true) (kt : ¬ y0 = x6 → Ex ω ML_isUndone 327 [some (.ref x0), none, none, none, none, none, some (.int x6), none, none, none, some (.int x10), none, some (.int x12)] [] h 0 0 Q) (kf : y0 = x6 → Ex ω ML_isUndone 303 [some (.ref x0), none, none, none, none, none, some (.int x6), none, none, none, some (.int x10), none, some (.int x12)] [] h 0 0 Q) : Ex ω ML_isUndone 298 [some (.ref x0), u1, u2, u3, u4, u5, some (.int x6), u7, u8, u9, some (.int x10), u11, some (.int x12)] [.int y0] h 0 0 Q := by
  refine x_dr1 ?_
  refine x_dr2 ?_
  refine x_dr3 ?_
  refine x_dr4 ?_
  refine x_dr5 ?_
  refine x_dr7 ?_
  refine x_dr8 ?_
  refine x_dr9 ?_
  refine x_dr11 ?_
  refine x_iload6 300 dL_isUndone_298 rfl ?_
  exact x_icmp_ne 303 327 dL_isUndone_300 rfl (by decide) kt kf
set_option maxRecDepth 20000 in
theorem BL_isUndone_303 {ω : Om} {h : AH} {Q : Option Value → AH → Prop} {x0 : Nat} {u1 : Option Value} {u2 : Option Value} {u3 : Option Value} {u4 : Option Value} {u5 : Option Value} {u6 : Option Value} {u7 : Option Value} {u8 : Option Value} {u9 : Option Value} {x10 : Int32} {u11 : Option Value} {x12 : Int32} (hw : ω.2.2.2.1 = true) (s_x0 : gs h x0 = some (8, 8)) (kk : Ex ω M8_wrap 0 [some (.ref x0)] [] h 0 0 (fun v h' => Ex ω ML_isUndone 307 [some (.ref x0), none, none, none, none, none, none, none, none, none, some (.int x10), none, some (.int x12)] (v.toList ++ []) h' 0 0 Q)) : Ex ω ML_isUndone 303 [some (.ref x0), u1, u2, u3, u4, u5, u6, u7, u8, u9, some (.int x10), u11, some (.int x12)] [] h 0 0 Q := by
  refine x_dr1 ?_
  refine x_dr2 ?_
  refine x_dr3 ?_
  refine x_dr4 ?_
  refine x_dr5 ?_
  refine x_dr6 ?_
  refine x_dr7 ?_
  refine x_dr8 ?_
  refine x_dr9 ?_
  refine x_dr11 ?_
  refine x_aload0 304 dL_isUndone_303 rfl ?_
  exact x_callV 307 x0 [] [] dL_isUndone_304 rfl lk_8_wrap ⟨wd427, wd428, wd429⟩ ⟨by decide, by decide⟩ (recvO cf8 (fun _ => s_x0)) rfl rfl (Nat.le_of_ble_eq_true rfl) (Nat.le_of_ble_eq_true rfl) (by decide) (by decide) kk
set_option maxRecDepth 20000 in
theorem BL_isUndone_307 {ω : Om} {h : AH} {Q : Option Value → AH → Prop} {x0 : Nat} {u1 : Option Value} {u2 : Option Value} {u3 : Option Value} {u4 : Option Value} {u5 : Option Value} {u6 : Option Value} {u7 : Option Value} {u8 : Option Value} {u9 : Option Value} {x10 : Int32} {u11 : Option Value} {x12 : Int32} {y0 : Int32} (hw : ω.2.2.2.1 = true) (kt : ¬ y0 = x10 → Ex ω ML_isUndone 327 [some (.ref x0), none, none, none, none, none, none, none, none, none, some (.int x10), none, some (.int x12)] [] h 0 0 Q) (kf : y0 = x10 → Ex ω ML_isUndone 312 [some (.ref x0), none, none, none, none, none, none, none, none, none, some (.int x10), none, some (.int x12)] [] h 0 0 Q) : Ex ω ML_isUndone 307 [some (.ref x0), u1, u2, u3, u4, u5, u6, u7, u8, u9, some (.int x10), u11, some (.int x12)] [.int y0] h 0 0 Q := by
  refine x_dr1 ?_
  refine x_dr2 ?_
  refine x_dr3 ?_
  refine x_dr4 ?_
  refine x_dr5 ?_
  refine x_dr6 ?_
  refine x_dr7 ?_
  refine x_dr8 ?_
  refine x_dr9 ?_
  refine x_dr11 ?_
  refine x_iload10 309 dL_isUndone_307 rfl ?_
  exact x_icmp_ne 312 327 dL_isUndone_309 rfl (by decide) kt kf
set_option maxRecDepth 20000 in
theorem BL_isUndone_312 {ω : Om} {h : AH} {Q : Option Value → AH → Prop} {x0 : Nat} {u1 : Option Value} {u2 : Option Value} {u3 : Option Value} {u4 : Option Value} {u5 : Option Value} {u6 : Option Value} {u7 : Option Value} {u8 : Option Value} {u9 : Option Value} {u10 : Option Value} {u11 : Option Value} {x12 : Int32} (hw : ω.2.2.2.1 = true) (s_x0 : gs h x0 = some (8, 8)) (kk : Ex ω M8_total 0 [some (.ref x0), some (.int (nI 7))] [] h 0 0 (fun v h' => Ex ω ML_isUndone 318 [some (.ref x0), none, none, none, none, none, none, none, none, none, none, none, some (.int x12)] (v.toList ++ []) h' 0 0 Q)) : Ex ω ML_isUndone 312 [some (.ref x0), u1, u2, u3, u4, u5, u6, u7, u8, u9, u10, u11, some (.int x12)] [] h 0 0 Q := by
  refine x_dr1 ?_
  refine x_dr2 ?_
  refine x_dr3 ?_
  refine x_dr4 ?_
  refine x_dr5 ?_
  refine x_dr6 ?_
  refine x_dr7 ?_
  refine x_dr8 ?_
  refine x_dr9 ?_
  refine x_dr10 ?_
  refine x_dr11 ?_
  refine x_aload0 313 dL_isUndone_312 rfl ?_
  refine x_bipush (nI 7) 315 dL_isUndone_313 rfl rfl ?_
  exact x_callV 318 x0 [.int (nI 7)] [] dL_isUndone_315 rfl lk_8_total ⟨wd414, wd415, wd416⟩ ⟨by decide, by decide⟩ (recvO cf8 (fun _ => s_x0)) rfl rfl (Nat.le_of_ble_eq_true rfl) (Nat.le_of_ble_eq_true rfl) (by decide) (by decide) kk
set_option maxRecDepth 20000 in
theorem BL_isUndone_318 {ω : Om} {h : AH} {Q : Option Value → AH → Prop} {u0 : Option Value} {u1 : Option Value} {u2 : Option Value} {u3 : Option Value} {u4 : Option Value} {u5 : Option Value} {u6 : Option Value} {u7 : Option Value} {u8 : Option Value} {u9 : Option Value} {u10 : Option Value} {u11 : Option Value} {x12 : Int32} {y0 : Int32} (hw : ω.2.2.2.1 = true) (kt : ¬ y0 = x12 → Ex ω ML_isUndone 327 [none, none, none, none, none, none, none, none, none, none, none, none, some (.int x12)] [] h 0 0 Q) (kf : y0 = x12 → Ex ω ML_isUndone 323 [none, none, none, none, none, none, none, none, none, none, none, none, some (.int x12)] [] h 0 0 Q) : Ex ω ML_isUndone 318 [u0, u1, u2, u3, u4, u5, u6, u7, u8, u9, u10, u11, some (.int x12)] [.int y0] h 0 0 Q := by
  refine x_dr0 ?_
  refine x_dr1 ?_
  refine x_dr2 ?_
  refine x_dr3 ?_
  refine x_dr4 ?_
  refine x_dr5 ?_
  refine x_dr6 ?_
  refine x_dr7 ?_
  refine x_dr8 ?_
  refine x_dr9 ?_
  refine x_dr10 ?_
  refine x_dr11 ?_
  refine x_iload12 320 dL_isUndone_318 rfl ?_
  exact x_icmp_ne 323 327 dL_isUndone_320 rfl (by decide) kt kf
set_option maxRecDepth 20000 in
theorem BL_isUndone_323 {ω : Om} {h : AH} {Q : Option Value → AH → Prop} {u0 : Option Value} {u1 : Option Value} {u2 : Option Value} {u3 : Option Value} {u4 : Option Value} {u5 : Option Value} {u6 : Option Value} {u7 : Option Value} {u8 : Option Value} {u9 : Option Value} {u10 : Option Value} {u11 : Option Value} {u12 : Option Value} (hw : ω.2.2.2.1 = true) (kt : Ex ω ML_isUndone 328 [none, none, none, none, none, none, none, none, none, none, none, none, none] [.int (nI 1)] h 0 0 Q) : Ex ω ML_isUndone 323 [u0, u1, u2, u3, u4, u5, u6, u7, u8, u9, u10, u11, u12] [] h 0 0 Q := by
  refine x_dr0 ?_
  refine x_dr1 ?_
  refine x_dr2 ?_
  refine x_dr3 ?_
  refine x_dr4 ?_
  refine x_dr5 ?_
  refine x_dr6 ?_
  refine x_dr7 ?_
  refine x_dr8 ?_
  refine x_dr9 ?_
  refine x_dr10 ?_
  refine x_dr11 ?_
  refine x_dr12 ?_
  refine x_iconst (nI 1) 324 dL_isUndone_323 rfl rfl ?_
  exact x_goto 328 dL_isUndone_324 (by decide) kt
set_option maxRecDepth 20000 in
theorem BL_isUndone_327 {ω : Om} {h : AH} {Q : Option Value → AH → Prop} {u0 : Option Value} {u1 : Option Value} {u2 : Option Value} {u3 : Option Value} {u4 : Option Value} {u5 : Option Value} {u6 : Option Value} {u7 : Option Value} {u8 : Option Value} {u9 : Option Value} {u10 : Option Value} {u11 : Option Value} {u12 : Option Value} (hw : ω.2.2.2.1 = true) (kf : Ex ω ML_isUndone 328 [none, none, none, none, none, none, none, none, none, none, none, none, none] [.int (nI 0)] h 0 0 Q) : Ex ω ML_isUndone 327 [u0, u1, u2, u3, u4, u5, u6, u7, u8, u9, u10, u11, u12] [] h 0 0 Q := by
  refine x_dr0 ?_
  refine x_dr1 ?_
  refine x_dr2 ?_
  refine x_dr3 ?_
  refine x_dr4 ?_
  refine x_dr5 ?_
  refine x_dr6 ?_
  refine x_dr7 ?_
  refine x_dr8 ?_
  refine x_dr9 ?_
  refine x_dr10 ?_
  refine x_dr11 ?_
  refine x_dr12 ?_
  refine x_iconst (nI 0) 328 dL_isUndone_327 rfl rfl ?_
  exact kf
set_option maxRecDepth 20000 in
theorem BL_isUndone_328 {ω : Om} {h : AH} {Q : Option Value → AH → Prop} {u0 : Option Value} {u1 : Option Value} {u2 : Option Value} {u3 : Option Value} {u4 : Option Value} {u5 : Option Value} {u6 : Option Value} {u7 : Option Value} {u8 : Option Value} {u9 : Option Value} {u10 : Option Value} {u11 : Option Value} {u12 : Option Value} {y0 : Int32} (hw : ω.2.2.2.1 = true) (hz : narrow .boolean (.int y0) = .int y0) (hq : Q (some (.int y0)) h) : Ex ω ML_isUndone 328 [u0, u1, u2, u3, u4, u5, u6, u7, u8, u9, u10, u11, u12] [.int y0] h 0 0 Q := by
  refine x_dr0 ?_
  refine x_dr1 ?_
  refine x_dr2 ?_
  refine x_dr3 ?_
  refine x_dr4 ?_
  refine x_dr5 ?_
  refine x_dr6 ?_
  refine x_dr7 ?_
  refine x_dr8 ?_
  refine x_dr9 ?_
  refine x_dr10 ?_
  refine x_dr11 ?_
  refine x_dr12 ?_
  refine x_istore11 330 dL_isUndone_328 rfl (by decide) rfl ?_
  refine x_iload11 332 dL_isUndone_330 rfl ?_
  exact x_zret dL_isUndone_332 rfl hz (Nat.zero_le _) (Nat.zero_le _) hq
set_option maxRecDepth 20000 in
theorem BL_law_12 {ω : Om} {h : AH} {Q : Option Value → AH → Prop} {x0 : Nat} {x1 : Nat} {u2 : Option Value} {u3 : Option Value} {u4 : Option Value} {u5 : Option Value} {u6 : Option Value} {u7 : Option Value} {u8 : Option Value} {u9 : Option Value} {u10 : Option Value} {u11 : Option Value} {u12 : Option Value} {y0 : Nat} (hw : ω.2.2.2.1 = true) (s_y0 : gs h y0 = some (8, 8)) (kk : Ex ω M8_undo 0 [some (.ref y0)] [] h 0 0 (fun v h' => Ex ω ML_law 19 [some (.ref x0), some (.ref x1), some (.ref y0), some (.int (nI 0)), none, none, none, none, none, none, none, none, none] (v.toList ++ []) h' 325 4064 Q)) : Ex ω ML_law 12 [some (.ref x0), some (.ref x1), u2, u3, u4, u5, u6, u7, u8, u9, u10, u11, u12] [.ref y0] h 325 4064 Q := by
  refine x_dr2 ?_
  refine x_dr3 ?_
  refine x_dr4 ?_
  refine x_dr5 ?_
  refine x_dr6 ?_
  refine x_dr7 ?_
  refine x_dr8 ?_
  refine x_dr9 ?_
  refine x_dr10 ?_
  refine x_dr11 ?_
  refine x_dr12 ?_
  refine x_astore2 13 dL_law_12 rfl (by decide) rfl ?_
  refine x_iconst (nI 0) 14 dL_law_13 rfl rfl ?_
  refine x_istore3 15 dL_law_14 rfl (by decide) rfl ?_
  refine x_aload2 16 dL_law_15 rfl ?_
  exact x_callV 19 y0 [] [] dL_law_16 rfl lk_8_undo ⟨wd92, wd93, wd94⟩ ⟨by decide, by decide⟩ (recvO cf8 (fun _ => s_y0)) rfl rfl (Nat.le_of_ble_eq_true rfl) (Nat.le_of_ble_eq_true rfl) (by decide) (by decide) kk
set_option maxRecDepth 20000 in
theorem BL_law_19 {ω : Om} {h : AH} {Q : Option Value → AH → Prop} {x0 : Nat} {x1 : Nat} {x2 : Nat} {x3 : Int32} {u4 : Option Value} {u5 : Option Value} {u6 : Option Value} {u7 : Option Value} {u8 : Option Value} {u9 : Option Value} {u10 : Option Value} {u11 : Option Value} {u12 : Option Value} {y0 : Int32} (hw : ω.2.2.2.1 = true) (kt : ¬ y0 = ((-2)) → Ex ω ML_law 67 [some (.ref x0), some (.ref x1), some (.ref x2), some (.int x3), none, none, none, none, none, none, none, none, none] [] h 325 4064 Q) (kf : y0 = ((-2)) → Ex ω ML_law 24 [some (.ref x0), some (.ref x1), some (.ref x2), some (.int x3), none, none, none, none, none, none, none, none, none] [] h 325 4064 Q) : Ex ω ML_law 19 [some (.ref x0), some (.ref x1), some (.ref x2), some (.int x3), u4, u5, u6, u7, u8, u9, u10, u11, u12] [.int y0] h 325 4064 Q := by
  refine x_dr4 ?_
  refine x_dr5 ?_
  refine x_dr6 ?_
  refine x_dr7 ?_
  refine x_dr8 ?_
  refine x_dr9 ?_
  refine x_dr10 ?_
  refine x_dr11 ?_
  refine x_dr12 ?_
  refine x_bipush ((-2)) 21 dL_law_19 rfl rfl ?_
  exact x_icmp_ne 24 67 dL_law_21 rfl (by decide) kt kf
set_option maxRecDepth 20000 in
theorem BL_law_24 {ω : Om} {h : AH} {Q : Option Value → AH → Prop} {x0 : Nat} {x1 : Nat} {x2 : Nat} {x3 : Int32} {u4 : Option Value} {u5 : Option Value} {u6 : Option Value} {u7 : Option Value} {u8 : Option Value} {u9 : Option Value} {u10 : Option Value} {u11 : Option Value} {u12 : Option Value} (hw : ω.2.2.2.1 = true) (s_x2 : gs h x2 = some (8, 8)) (kk : Ex ω M8_fault 0 [some (.ref x2), none] [] h 0 0 (fun v h' => Ex ω ML_law 28 [some (.ref x0), some (.ref x1), some (.ref x2), some (.int x3), none, none, none, none, none, none, none, none, none] (v.toList ++ []) h' 325 4064 Q)) : Ex ω ML_law 24 [some (.ref x0), some (.ref x1), some (.ref x2), some (.int x3), u4, u5, u6, u7, u8, u9, u10, u11, u12] [] h 325 4064 Q := by
  refine x_dr4 ?_
  refine x_dr5 ?_
  refine x_dr6 ?_
  refine x_dr7 ?_
  refine x_dr8 ?_
  refine x_dr9 ?_
  refine x_dr10 ?_
  refine x_dr11 ?_
  refine x_dr12 ?_
  refine x_aload2 25 dL_law_24 rfl ?_
  exact x_callV 28 x2 [] [] dL_law_25 rfl lk_8_fault ⟨wd164, wd165, wd166⟩ ⟨by decide, by decide⟩ (recvO cf8 (fun _ => s_x2)) rfl rfl (Nat.le_of_ble_eq_true rfl) (Nat.le_of_ble_eq_true rfl) (by decide) (by decide) kk
set_option maxRecDepth 20000 in
theorem BL_law_28 {ω : Om} {h : AH} {Q : Option Value → AH → Prop} {x0 : Nat} {x1 : Nat} {x2 : Nat} {x3 : Int32} {u4 : Option Value} {u5 : Option Value} {u6 : Option Value} {u7 : Option Value} {u8 : Option Value} {u9 : Option Value} {u10 : Option Value} {u11 : Option Value} {u12 : Option Value} {y0 : Int32} (hw : ω.2.2.2.1 = true) (kt : ¬ y0 = ((-4)) → Ex ω ML_law 67 [some (.ref x0), some (.ref x1), some (.ref x2), some (.int x3), none, none, none, none, none, none, none, none, none] [] h 325 4064 Q) (kf : y0 = ((-4)) → Ex ω ML_law 33 [some (.ref x0), some (.ref x1), some (.ref x2), some (.int x3), none, none, none, none, none, none, none, none, none] [] h 325 4064 Q) : Ex ω ML_law 28 [some (.ref x0), some (.ref x1), some (.ref x2), some (.int x3), u4, u5, u6, u7, u8, u9, u10, u11, u12] [.int y0] h 325 4064 Q := by
  refine x_dr4 ?_
  refine x_dr5 ?_
  refine x_dr6 ?_
  refine x_dr7 ?_
  refine x_dr8 ?_
  refine x_dr9 ?_
  refine x_dr10 ?_
  refine x_dr11 ?_
  refine x_dr12 ?_
  refine x_bipush ((-4)) 30 dL_law_28 rfl rfl ?_
  exact x_icmp_ne 33 67 dL_law_30 rfl (by decide) kt kf
set_option maxRecDepth 20000 in
theorem BL_law_33 {ω : Om} {h : AH} {Q : Option Value → AH → Prop} {x0 : Nat} {x1 : Nat} {x2 : Nat} {x3 : Int32} {u4 : Option Value} {u5 : Option Value} {u6 : Option Value} {u7 : Option Value} {u8 : Option Value} {u9 : Option Value} {u10 : Option Value} {u11 : Option Value} {u12 : Option Value} (hw : ω.2.2.2.1 = true) (s_x2 : gs h x2 = some (8, 8)) (kk : Ex ω M8_load 0 [some (.ref x2)] [] h 0 0 (fun v h' => Ex ω ML_law 37 [some (.ref x0), some (.ref x1), some (.ref x2), some (.int x3), none, none, none, none, none, none, none, none, none] (v.toList ++ []) h' 325 4064 Q)) : Ex ω ML_law 33 [some (.ref x0), some (.ref x1), some (.ref x2), some (.int x3), u4, u5, u6, u7, u8, u9, u10, u11, u12] [] h 325 4064 Q := by
  refine x_dr4 ?_
  refine x_dr5 ?_
  refine x_dr6 ?_
  refine x_dr7 ?_
  refine x_dr8 ?_
  refine x_dr9 ?_
  refine x_dr10 ?_
  refine x_dr11 ?_
  refine x_dr12 ?_
  refine x_aload2 34 dL_law_33 rfl ?_
  exact x_callV 37 x2 [] [] dL_law_34 rfl lk_8_load ⟨wd250, wd251, wd252⟩ ⟨by decide, by decide⟩ (recvO cf8 (fun _ => s_x2)) rfl rfl (Nat.le_of_ble_eq_true rfl) (Nat.le_of_ble_eq_true rfl) (by decide) (by decide) kk
set_option maxRecDepth 20000 in
theorem BL_law_37 {ω : Om} {h : AH} {Q : Option Value → AH → Prop} {x0 : Nat} {x1 : Nat} {x2 : Nat} {x3 : Int32} {u4 : Option Value} {u5 : Option Value} {u6 : Option Value} {u7 : Option Value} {u8 : Option Value} {u9 : Option Value} {u10 : Option Value} {u11 : Option Value} {u12 : Option Value} {y0 : Int32} (hw : ω.2.2.2.1 = true) (kt : ¬ y0 = 0 → Ex ω ML_law 67 [some (.ref x0), some (.ref x1), some (.ref x2), some (.int x3), none, none, none, none, none, none, none, none, none] [] h 325 4064 Q) (kf : y0 = 0 → Ex ω ML_law 40 [some (.ref x0), some (.ref x1), some (.ref x2), some (.int x3), none, none, none, none, none, none, none, none, none] [] h 325 4064 Q) : Ex ω ML_law 37 [some (.ref x0), some (.ref x1), some (.ref x2), some (.int x3), u4, u5, u6, u7, u8, u9, u10, u11, u12] [.int y0] h 325 4064 Q := by
  refine x_dr4 ?_
  refine x_dr5 ?_
  refine x_dr6 ?_
  refine x_dr7 ?_
  refine x_dr8 ?_
  refine x_dr9 ?_
  refine x_dr10 ?_
  refine x_dr11 ?_
  refine x_dr12 ?_
  exact x_if_ne 40 67 dL_law_37 rfl (by decide) kt kf
set_option maxRecDepth 20000 in
theorem BL_law_40 {ω : Om} {h : AH} {Q : Option Value → AH → Prop} {x0 : Nat} {x1 : Nat} {x2 : Nat} {x3 : Int32} {u4 : Option Value} {u5 : Option Value} {u6 : Option Value} {u7 : Option Value} {u8 : Option Value} {u9 : Option Value} {u10 : Option Value} {u11 : Option Value} {u12 : Option Value} (hw : ω.2.2.2.1 = true) (s_x2 : gs h x2 = some (8, 8)) (kk : Ex ω M8_addRoll 0 [some (.ref x2), some (.int (nI 99)), some (.int (nI 1))] [] h 0 0 (fun v h' => Ex ω ML_law 47 [some (.ref x0), some (.ref x1), some (.ref x2), some (.int x3), none, none, none, none, none, none, none, none, none] (v.toList ++ []) h' 325 4064 Q)) : Ex ω ML_law 40 [some (.ref x0), some (.ref x1), some (.ref x2), some (.int x3), u4, u5, u6, u7, u8, u9, u10, u11, u12] [] h 325 4064 Q := by
  refine x_dr4 ?_
  refine x_dr5 ?_
  refine x_dr6 ?_
  refine x_dr7 ?_
  refine x_dr8 ?_
  refine x_dr9 ?_
  refine x_dr10 ?_
  refine x_dr11 ?_
  refine x_dr12 ?_
  refine x_aload2 41 dL_law_40 rfl ?_
  refine x_bipush (nI 99) 43 dL_law_41 rfl rfl ?_
  refine x_iconst (nI 1) 44 dL_law_43 rfl rfl ?_
  exact x_callV 47 x2 [.int (nI 99), .int (nI 1)] [] dL_law_44 rfl lk_8_addRoll ⟨wd261, wd262, wd263⟩ ⟨by decide, by decide⟩ (recvO cf8 (fun _ => s_x2)) rfl rfl (Nat.le_of_ble_eq_true rfl) (Nat.le_of_ble_eq_true rfl) (by decide) (by decide) kk
set_option maxRecDepth 20000 in
theorem BL_law_47 {ω : Om} {h : AH} {Q : Option Value → AH → Prop} {x0 : Nat} {x1 : Nat} {x2 : Nat} {x3 : Int32} {u4 : Option Value} {u5 : Option Value} {u6 : Option Value} {u7 : Option Value} {u8 : Option Value} {u9 : Option Value} {u10 : Option Value} {u11 : Option Value} {u12 : Option Value} {y0 : Int32} (hw : ω.2.2.2.1 = true) (kt : ¬ y0 = ((-1)) → Ex ω ML_law 67 [some (.ref x0), some (.ref x1), some (.ref x2), some (.int x3), none, none, none, none, none, none, none, none, none] [] h 325 4064 Q) (kf : y0 = ((-1)) → Ex ω ML_law 51 [some (.ref x0), some (.ref x1), some (.ref x2), some (.int x3), none, none, none, none, none, none, none, none, none] [] h 325 4064 Q) : Ex ω ML_law 47 [some (.ref x0), some (.ref x1), some (.ref x2), some (.int x3), u4, u5, u6, u7, u8, u9, u10, u11, u12] [.int y0] h 325 4064 Q := by
  refine x_dr4 ?_
  refine x_dr5 ?_
  refine x_dr6 ?_
  refine x_dr7 ?_
  refine x_dr8 ?_
  refine x_dr9 ?_
  refine x_dr10 ?_
  refine x_dr11 ?_
  refine x_dr12 ?_
  refine x_iconst ((-1)) 48 dL_law_47 rfl rfl ?_
  exact x_icmp_ne 51 67 dL_law_48 rfl (by decide) kt kf
set_option maxRecDepth 20000 in
theorem BL_law_51 {ω : Om} {h : AH} {Q : Option Value → AH → Prop} {x0 : Nat} {x1 : Nat} {x2 : Nat} {x3 : Int32} {u4 : Option Value} {u5 : Option Value} {u6 : Option Value} {u7 : Option Value} {u8 : Option Value} {u9 : Option Value} {u10 : Option Value} {u11 : Option Value} {u12 : Option Value} (hw : ω.2.2.2.1 = true) (s_x2 : gs h x2 = some (8, 8)) (kk : Ex ω M8_addRoll 0 [some (.ref x2), some (.int (nI 100)), some (.int (nI 51))] [] h 0 0 (fun v h' => Ex ω ML_law 59 [some (.ref x0), some (.ref x1), some (.ref x2), some (.int x3), none, none, none, none, none, none, none, none, none] (v.toList ++ []) h' 325 4064 Q)) : Ex ω ML_law 51 [some (.ref x0), some (.ref x1), some (.ref x2), some (.int x3), u4, u5, u6, u7, u8, u9, u10, u11, u12] [] h 325 4064 Q := by
  refine x_dr4 ?_
  refine x_dr5 ?_
  refine x_dr6 ?_
  refine x_dr7 ?_
  refine x_dr8 ?_
  refine x_dr9 ?_
  refine x_dr10 ?_
  refine x_dr11 ?_
  refine x_dr12 ?_
  refine x_aload2 52 dL_law_51 rfl ?_
  refine x_bipush (nI 100) 54 dL_law_52 rfl rfl ?_
  refine x_bipush (nI 51) 56 dL_law_54 rfl rfl ?_
  exact x_callV 59 x2 [.int (nI 100), .int (nI 51)] [] dL_law_56 rfl lk_8_addRoll ⟨wd261, wd262, wd263⟩ ⟨by decide, by decide⟩ (recvO cf8 (fun _ => s_x2)) rfl rfl (Nat.le_of_ble_eq_true rfl) (Nat.le_of_ble_eq_true rfl) (by decide) (by decide) kk
set_option maxRecDepth 20000 in
theorem BL_law_59 {ω : Om} {h : AH} {Q : Option Value → AH → Prop} {x0 : Nat} {x1 : Nat} {x2 : Nat} {x3 : Int32} {u4 : Option Value} {u5 : Option Value} {u6 : Option Value} {u7 : Option Value} {u8 : Option Value} {u9 : Option Value} {u10 : Option Value} {u11 : Option Value} {u12 : Option Value} {y0 : Int32} (hw : ω.2.2.2.1 = true) (kt : ¬ y0 = ((-1)) → Ex ω ML_law 67 [some (.ref x0), some (.ref x1), some (.ref x2), some (.int x3), none, none, none, none, none, none, none, none, none] [] h 325 4064 Q) (kf : y0 = ((-1)) → Ex ω ML_law 63 [some (.ref x0), some (.ref x1), some (.ref x2), some (.int x3), none, none, none, none, none, none, none, none, none] [] h 325 4064 Q) : Ex ω ML_law 59 [some (.ref x0), some (.ref x1), some (.ref x2), some (.int x3), u4, u5, u6, u7, u8, u9, u10, u11, u12] [.int y0] h 325 4064 Q := by
  refine x_dr4 ?_
  refine x_dr5 ?_
  refine x_dr6 ?_
  refine x_dr7 ?_
  refine x_dr8 ?_
  refine x_dr9 ?_
  refine x_dr10 ?_
  refine x_dr11 ?_
  refine x_dr12 ?_
  refine x_iconst ((-1)) 60 dL_law_59 rfl rfl ?_
  exact x_icmp_ne 63 67 dL_law_60 rfl (by decide) kt kf
set_option maxRecDepth 20000 in
theorem BL_law_63 {ω : Om} {h : AH} {Q : Option Value → AH → Prop} {x0 : Nat} {x1 : Nat} {x2 : Nat} {x3 : Int32} {u4 : Option Value} {u5 : Option Value} {u6 : Option Value} {u7 : Option Value} {u8 : Option Value} {u9 : Option Value} {u10 : Option Value} {u11 : Option Value} {u12 : Option Value} (hw : ω.2.2.2.1 = true) (kt : Ex ω ML_law 68 [some (.ref x0), some (.ref x1), some (.ref x2), some (.int x3), none, none, none, none, none, none, none, none, none] [.int (nI 1)] h 325 4064 Q) : Ex ω ML_law 63 [some (.ref x0), some (.ref x1), some (.ref x2), some (.int x3), u4, u5, u6, u7, u8, u9, u10, u11, u12] [] h 325 4064 Q := by
  refine x_dr4 ?_
  refine x_dr5 ?_
  refine x_dr6 ?_
  refine x_dr7 ?_
  refine x_dr8 ?_
  refine x_dr9 ?_
  refine x_dr10 ?_
  refine x_dr11 ?_
  refine x_dr12 ?_
  refine x_iconst (nI 1) 64 dL_law_63 rfl rfl ?_
  exact x_goto 68 dL_law_64 (by decide) kt
set_option maxRecDepth 20000 in
theorem BL_law_67 {ω : Om} {h : AH} {Q : Option Value → AH → Prop} {x0 : Nat} {x1 : Nat} {x2 : Nat} {x3 : Int32} {u4 : Option Value} {u5 : Option Value} {u6 : Option Value} {u7 : Option Value} {u8 : Option Value} {u9 : Option Value} {u10 : Option Value} {u11 : Option Value} {u12 : Option Value} (hw : ω.2.2.2.1 = true) (kf : Ex ω ML_law 68 [some (.ref x0), some (.ref x1), some (.ref x2), some (.int x3), none, none, none, none, none, none, none, none, none] [.int (nI 0)] h 325 4064 Q) : Ex ω ML_law 67 [some (.ref x0), some (.ref x1), some (.ref x2), some (.int x3), u4, u5, u6, u7, u8, u9, u10, u11, u12] [] h 325 4064 Q := by
  refine x_dr4 ?_
  refine x_dr5 ?_
  refine x_dr6 ?_
  refine x_dr7 ?_
  refine x_dr8 ?_
  refine x_dr9 ?_
  refine x_dr10 ?_
  refine x_dr11 ?_
  refine x_dr12 ?_
  refine x_iconst (nI 0) 68 dL_law_67 rfl rfl ?_
  exact kf
set_option maxRecDepth 20000 in
theorem BL_law_68 {ω : Om} {h : AH} {Q : Option Value → AH → Prop} {x0 : Nat} {x1 : Nat} {x2 : Nat} {x3 : Int32} {u4 : Option Value} {u5 : Option Value} {u6 : Option Value} {u7 : Option Value} {u8 : Option Value} {u9 : Option Value} {u10 : Option Value} {u11 : Option Value} {u12 : Option Value} {y0 : Int32} (hw : ω.2.2.2.1 = true) (kf : Ex ω ML_law 73 [some (.ref x0), some (.ref x1), some (.ref x2), some (.int x3), some (.int y0), some (.int (nI 0)), none, none, none, none, none, none, none] [] h 325 4064 Q) : Ex ω ML_law 68 [some (.ref x0), some (.ref x1), some (.ref x2), some (.int x3), u4, u5, u6, u7, u8, u9, u10, u11, u12] [.int y0] h 325 4064 Q := by
  refine x_dr4 ?_
  refine x_dr5 ?_
  refine x_dr6 ?_
  refine x_dr7 ?_
  refine x_dr8 ?_
  refine x_dr9 ?_
  refine x_dr10 ?_
  refine x_dr11 ?_
  refine x_dr12 ?_
  refine x_istore4 70 dL_law_68 rfl (by decide) rfl ?_
  refine x_iconst (nI 0) 71 dL_law_70 rfl rfl ?_
  refine x_istore5 73 dL_law_71 rfl (by decide) rfl ?_
  exact kf
set_option maxRecDepth 20000 in
theorem BL_law_73 {ω : Om} {h : AH} {Q : Option Value → AH → Prop} {x0 : Nat} {x1 : Nat} {x2 : Nat} {x3 : Int32} {x4 : Int32} {x5 : Int32} {u6 : Option Value} {u7 : Option Value} {u8 : Option Value} {u9 : Option Value} {u10 : Option Value} {u11 : Option Value} {u12 : Option Value} (hw : ω.2.2.2.1 = true) (kt : (nI 10) ≤ x5 → Ex ω ML_law 423 [some (.ref x0), some (.ref x1), some (.ref x2), some (.int x3), some (.int x4), some (.int x5), none, none, none, none, none, none, none] [] h 325 4064 Q) (kf : ¬ (nI 10) ≤ x5 → Ex ω ML_law 80 [some (.ref x0), some (.ref x1), some (.ref x2), some (.int x3), some (.int x4), some (.int x5), none, none, none, none, none, none, none] [] h 325 4064 Q) : Ex ω ML_law 73 [some (.ref x0), some (.ref x1), some (.ref x2), some (.int x3), some (.int x4), some (.int x5), u6, u7, u8, u9, u10, u11, u12] [] h 325 4064 Q := by
  refine x_dr6 ?_
  refine x_dr7 ?_
  refine x_dr8 ?_
  refine x_dr9 ?_
  refine x_dr10 ?_
  refine x_dr11 ?_
  refine x_dr12 ?_
  refine x_iload5 75 dL_law_73 rfl ?_
  refine x_bipush (nI 10) 77 dL_law_75 rfl rfl ?_
  exact x_icmp_ge 80 423 dL_law_77 rfl (by decide) kt kf
set_option maxRecDepth 20000 in
theorem BL_law_80 {ω : Om} {h : AH} {Q : Option Value → AH → Prop} {x0 : Nat} {x1 : Nat} {x2 : Nat} {x3 : Int32} {x4 : Int32} {x5 : Int32} {u6 : Option Value} {u7 : Option Value} {u8 : Option Value} {u9 : Option Value} {u10 : Option Value} {u11 : Option Value} {u12 : Option Value} (hw : ω.2.2.2.1 = true) (kt : x4 = 0 → Ex ω ML_law 423 [some (.ref x0), some (.ref x1), some (.ref x2), some (.int x3), some (.int x4), some (.int x5), none, none, none, none, none, none, none] [] h 325 4064 Q) (kf : ¬ x4 = 0 → Ex ω ML_law 85 [some (.ref x0), some (.ref x1), some (.ref x2), some (.int x3), some (.int x4), some (.int x5), none, none, none, none, none, none, none] [] h 325 4064 Q) : Ex ω ML_law 80 [some (.ref x0), some (.ref x1), some (.ref x2), some (.int x3), some (.int x4), some (.int x5), u6, u7, u8, u9, u10, u11, u12] [] h 325 4064 Q := by
  refine x_dr6 ?_
  refine x_dr7 ?_
  refine x_dr8 ?_
  refine x_dr9 ?_
  refine x_dr10 ?_
  refine x_dr11 ?_
  refine x_dr12 ?_
  refine x_iload4 82 dL_law_80 rfl ?_
  exact x_if_eq 85 423 dL_law_82 rfl (by decide) kt kf
set_option maxRecDepth 20000 in
theorem BL_law_85 {ω : Om} {h : AH} {Q : Option Value → AH → Prop} {x0 : Nat} {x1 : Nat} {x2 : Nat} {x3 : Int32} {x4 : Int32} {x5 : Int32} {u6 : Option Value} {u7 : Option Value} {u8 : Option Value} {u9 : Option Value} {u10 : Option Value} {u11 : Option Value} {u12 : Option Value} (hw : ω.2.2.2.1 = true) (kk : Ex ω ML_cell 0 [some (.ref x0), some (.int ((nI 3) * x5))] [] h 0 0 (fun v h' => Ex ω ML_law 93 [some (.ref x0), some (.ref x1), some (.ref x2), some (.int x3), some (.int x4), some (.int x5), none, none, none, none, none, none, none] (v.toList ++ []) h' 325 4064 Q)) : Ex ω ML_law 85 [some (.ref x0), some (.ref x1), some (.ref x2), some (.int x3), some (.int x4), some (.int x5), u6, u7, u8, u9, u10, u11, u12] [] h 325 4064 Q := by
  refine x_dr6 ?_
  refine x_dr7 ?_
  refine x_dr8 ?_
  refine x_dr9 ?_
  refine x_dr10 ?_
  refine x_dr11 ?_
  refine x_dr12 ?_
  refine x_aload0 86 dL_law_85 rfl ?_
  refine x_iconst (nI 3) 87 dL_law_86 rfl rfl ?_
  refine x_iload5 89 dL_law_87 rfl ?_
  refine x_imul 90 dL_law_89 rfl ?_
  exact x_callS 93 [.ref x0, .int ((nI 3) * x5)] [] dL_law_90 rfl lk_L_cell ⟨wd276, wd277⟩ ⟨by decide, by decide⟩ rfl rfl (Nat.le_of_ble_eq_true rfl) (Nat.le_of_ble_eq_true rfl) (by decide) (by decide) kk
set_option maxRecDepth 20000 in
theorem BL_law_93 {ω : Om} {h : AH} {Q : Option Value → AH → Prop} {x0 : Nat} {x1 : Nat} {x2 : Nat} {x3 : Int32} {x4 : Int32} {x5 : Int32} {u6 : Option Value} {u7 : Option Value} {u8 : Option Value} {u9 : Option Value} {u10 : Option Value} {u11 : Option Value} {u12 : Option Value} {y0 : Int32} (hw : ω.2.2.2.1 = true) (kk : Ex ω ML_cell 0 [some (.ref x0), some (.int (((nI 3) * x5) + (nI 1)))] [] h 0 0 (fun v h' => Ex ω ML_law 105 [some (.ref x0), some (.ref x1), some (.ref x2), some (.int x3), some (.int x4), some (.int x5), some (.int y0), none, none, none, none, none, none] (v.toList ++ []) h' 325 4064 Q)) : Ex ω ML_law 93 [some (.ref x0), some (.ref x1), some (.ref x2), some (.int x3), some (.int x4), some (.int x5), u6, u7, u8, u9, u10, u11, u12] [.int y0] h 325 4064 Q := by
  refine x_dr6 ?_
  refine x_dr7 ?_
  refine x_dr8 ?_
  refine x_dr9 ?_
  refine x_dr10 ?_
  refine x_dr11 ?_
  refine x_dr12 ?_
  refine x_istore6 95 dL_law_93 rfl (by decide) rfl ?_
  refine x_aload0 96 dL_law_95 rfl ?_
  refine x_iconst (nI 3) 97 dL_law_96 rfl rfl ?_
  refine x_iload5 99 dL_law_97 rfl ?_
  refine x_imul 100 dL_law_99 rfl ?_
  refine x_iconst (nI 1) 101 dL_law_100 rfl rfl ?_
  refine x_iadd 102 dL_law_101 rfl ?_
  exact x_callS 105 [.ref x0, .int (((nI 3) * x5) + (nI 1))] [] dL_law_102 rfl lk_L_cell ⟨wd276, wd277⟩ ⟨by decide, by decide⟩ rfl rfl (Nat.le_of_ble_eq_true rfl) (Nat.le_of_ble_eq_true rfl) (by decide) (by decide) kk
set_option maxRecDepth 20000 in
theorem BL_law_105 {ω : Om} {h : AH} {Q : Option Value → AH → Prop} {x0 : Nat} {x1 : Nat} {x2 : Nat} {x3 : Int32} {x4 : Int32} {x5 : Int32} {x6 : Int32} {u7 : Option Value} {u8 : Option Value} {u9 : Option Value} {u10 : Option Value} {u11 : Option Value} {u12 : Option Value} {y0 : Int32} (hw : ω.2.2.2.1 = true) (s_x2 : gs h x2 = some (8, 8)) (kk : Ex ω M8_count 0 [some (.ref x2), some (.int (nI 0))] [] h 0 0 (fun v h' => Ex ω ML_law 112 [some (.ref x0), some (.ref x1), some (.ref x2), some (.int x3), some (.int x4), some (.int x5), some (.int x6), some (.int y0), none, none, none, none, none] (v.toList ++ []) h' 325 4064 Q)) : Ex ω ML_law 105 [some (.ref x0), some (.ref x1), some (.ref x2), some (.int x3), some (.int x4), some (.int x5), some (.int x6), u7, u8, u9, u10, u11, u12] [.int y0] h 325 4064 Q := by
  refine x_dr7 ?_
  refine x_dr8 ?_
  refine x_dr9 ?_
  refine x_dr10 ?_
  refine x_dr11 ?_
  refine x_dr12 ?_
  refine x_istore7 107 dL_law_105 rfl (by decide) rfl ?_
  refine x_aload2 108 dL_law_107 rfl ?_
  refine x_iconst (nI 0) 109 dL_law_108 rfl rfl ?_
  exact x_callV 112 x2 [.int (nI 0)] [] dL_law_109 rfl lk_8_count ⟨wd282, wd283, wd284⟩ ⟨by decide, by decide⟩ (recvO cf8 (fun _ => s_x2)) rfl rfl (Nat.le_of_ble_eq_true rfl) (Nat.le_of_ble_eq_true rfl) (by decide) (by decide) kk
set_option maxRecDepth 20000 in
theorem BL_law_112 {ω : Om} {h : AH} {Q : Option Value → AH → Prop} {x0 : Nat} {x1 : Nat} {x2 : Nat} {x3 : Int32} {x4 : Int32} {x5 : Int32} {x6 : Int32} {x7 : Int32} {u8 : Option Value} {u9 : Option Value} {u10 : Option Value} {u11 : Option Value} {u12 : Option Value} {y0 : Int32} (hw : ω.2.2.2.1 = true) (kt : (x6 - x6 / (nI 4) * (nI 4)) = (nI 3) → Ex ω ML_law 287 [some (.ref x0), some (.ref x1), some (.ref x2), some (.int x3), some (.int x4), some (.int x5), some (.int x6), some (.int x7), some (.int y0), none, none, none, none] [] h 325 4064 Q) (kf : ¬ (x6 - x6 / (nI 4) * (nI 4)) = (nI 3) → Ex ω ML_law 122 [some (.ref x0), some (.ref x1), some (.ref x2), some (.int x3), some (.int x4), some (.int x5), some (.int x6), some (.int x7), some (.int y0), none, none, none, none] [] h 325 4064 Q) : Ex ω ML_law 112 [some (.ref x0), some (.ref x1), some (.ref x2), some (.int x3), some (.int x4), some (.int x5), some (.int x6), some (.int x7), u8, u9, u10, u11, u12] [.int y0] h 325 4064 Q := by
  refine x_dr8 ?_
  refine x_dr9 ?_
  refine x_dr10 ?_
  refine x_dr11 ?_
  refine x_dr12 ?_
  refine x_istore8 114 dL_law_112 rfl (by decide) rfl ?_
  refine x_iload6 116 dL_law_114 rfl ?_
  refine x_iconst (nI 4) 117 dL_law_116 rfl rfl ?_
  refine x_irem 118 dL_law_117 rfl (by decide) ?_
  refine x_iconst (nI 3) 119 dL_law_118 rfl rfl ?_
  exact x_icmp_eq 122 287 dL_law_119 rfl (by decide) kt kf
set_option maxRecDepth 20000 in
theorem BL_law_122 {ω : Om} {h : AH} {Q : Option Value → AH → Prop} {x0 : Nat} {x1 : Nat} {x2 : Nat} {x3 : Int32} {u4 : Option Value} {x5 : Int32} {x6 : Int32} {x7 : Int32} {x8 : Int32} {u9 : Option Value} {u10 : Option Value} {u11 : Option Value} {u12 : Option Value} (hw : ω.2.2.2.1 = true) (s_x2 : gs h x2 = some (8, 8)) (kk : Ex ω M8_addRoll 0 [some (.ref x2), some (.int ((nI 100) + ((x6 >>> ((nI 4) &&& 31)) - (x6 >>> ((nI 4) &&& 31)) / (nI 30000) * (nI 30000)))), some (.int ((nI 1) + (x6 - x6 / (nI 50) * (nI 50))))] [] h 0 0 (fun v h' => Ex ω ML_law 148 [some (.ref x0), some (.ref x1), some (.ref x2), some (.int x3), none, some (.int x5), some (.int x6), some (.int x7), some (.int x8), some (.int ((nI 100) + ((x6 >>> ((nI 4) &&& 31)) - (x6 >>> ((nI 4) &&& 31)) / (nI 30000) * (nI 30000)))), none, none, none] (v.toList ++ []) h' 325 4064 Q)) : Ex ω ML_law 122 [some (.ref x0), some (.ref x1), some (.ref x2), some (.int x3), u4, some (.int x5), some (.int x6), some (.int x7), some (.int x8), u9, u10, u11, u12] [] h 325 4064 Q := by
  refine x_dr4 ?_
  refine x_dr9 ?_
  refine x_dr10 ?_
  refine x_dr11 ?_
  refine x_dr12 ?_
  refine x_bipush (nI 100) 124 dL_law_122 rfl rfl ?_
  refine x_iload6 126 dL_law_124 rfl ?_
  refine x_iconst (nI 4) 127 dL_law_126 rfl rfl ?_
  refine x_ishr 128 dL_law_127 rfl ?_
  refine x_sipush (nI 30000) 131 dL_law_128 rfl rfl ?_
  refine x_irem 132 dL_law_131 rfl (by decide) ?_
  refine x_iadd 133 dL_law_132 rfl ?_
  refine x_istore9 135 dL_law_133 rfl (by decide) rfl ?_
  refine x_aload2 136 dL_law_135 rfl ?_
  refine x_iload9 138 dL_law_136 rfl ?_
  refine x_iconst (nI 1) 139 dL_law_138 rfl rfl ?_
  refine x_iload6 141 dL_law_139 rfl ?_
  refine x_bipush (nI 50) 143 dL_law_141 rfl rfl ?_
  refine x_irem 144 dL_law_143 rfl (by decide) ?_
  refine x_iadd 145 dL_law_144 rfl ?_
  exact x_callV 148 x2 [.int ((nI 100) + ((x6 >>> ((nI 4) &&& 31)) - (x6 >>> ((nI 4) &&& 31)) / (nI 30000) * (nI 30000))), .int ((nI 1) + (x6 - x6 / (nI 50) * (nI 50)))] [] dL_law_145 rfl lk_8_addRoll ⟨wd261, wd262, wd263⟩ ⟨by decide, by decide⟩ (recvO cf8 (fun _ => s_x2)) rfl rfl (Nat.le_of_ble_eq_true rfl) (Nat.le_of_ble_eq_true rfl) (by decide) (by decide) kk
set_option maxRecDepth 20000 in
theorem BL_law_148 {ω : Om} {h : AH} {Q : Option Value → AH → Prop} {x0 : Nat} {x1 : Nat} {x2 : Nat} {x3 : Int32} {u4 : Option Value} {x5 : Int32} {x6 : Int32} {x7 : Int32} {x8 : Int32} {x9 : Int32} {u10 : Option Value} {u11 : Option Value} {u12 : Option Value} {y0 : Int32} (hw : ω.2.2.2.1 = true) (kt : ¬ x8 = (nI 6) → Ex ω ML_law 164 [some (.ref x0), some (.ref x1), some (.ref x2), some (.int x3), none, some (.int x5), some (.int x6), some (.int x7), some (.int x8), some (.int x9), some (.int y0), none, none] [.int y0] h 325 4064 Q) (kf : x8 = (nI 6) → Ex ω ML_law 159 [some (.ref x0), some (.ref x1), some (.ref x2), some (.int x3), none, some (.int x5), some (.int x6), some (.int x7), some (.int x8), some (.int x9), some (.int y0), none, none] [.int y0] h 325 4064 Q) : Ex ω ML_law 148 [some (.ref x0), some (.ref x1), some (.ref x2), some (.int x3), u4, some (.int x5), some (.int x6), some (.int x7), some (.int x8), some (.int x9), u10, u11, u12] [.int y0] h 325 4064 Q := by
  refine x_dr4 ?_
  refine x_dr10 ?_
  refine x_dr11 ?_
  refine x_dr12 ?_
  refine x_istore10 150 dL_law_148 rfl (by decide) rfl ?_
  refine x_iload10 152 dL_law_150 rfl ?_
  refine x_iload8 154 dL_law_152 rfl ?_
  refine x_bipush (nI 6) 156 dL_law_154 rfl rfl ?_
  exact x_icmp_ne 159 164 dL_law_156 rfl (by decide) kt kf
set_option maxRecDepth 20000 in
theorem BL_law_159 {ω : Om} {h : AH} {Q : Option Value → AH → Prop} {x0 : Nat} {x1 : Nat} {x2 : Nat} {x3 : Int32} {u4 : Option Value} {x5 : Int32} {x6 : Int32} {x7 : Int32} {x8 : Int32} {x9 : Int32} {u10 : Option Value} {u11 : Option Value} {u12 : Option Value} {y0 : Int32} (hw : ω.2.2.2.1 = true) (kt : Ex ω ML_law 168 [some (.ref x0), some (.ref x1), some (.ref x2), some (.int x3), none, some (.int x5), some (.int x6), some (.int x7), some (.int x8), some (.int x9), none, none, none] [.int ((-3)), .int y0] h 325 4064 Q) : Ex ω ML_law 159 [some (.ref x0), some (.ref x1), some (.ref x2), some (.int x3), u4, some (.int x5), some (.int x6), some (.int x7), some (.int x8), some (.int x9), u10, u11, u12] [.int y0] h 325 4064 Q := by
  refine x_dr4 ?_
  refine x_dr10 ?_
  refine x_dr11 ?_
  refine x_dr12 ?_
  refine x_bipush ((-3)) 161 dL_law_159 rfl rfl ?_
  exact x_goto 168 dL_law_161 (by decide) kt
set_option maxRecDepth 20000 in
theorem BL_law_164 {ω : Om} {h : AH} {Q : Option Value → AH → Prop} {x0 : Nat} {x1 : Nat} {x2 : Nat} {x3 : Int32} {u4 : Option Value} {x5 : Int32} {x6 : Int32} {x7 : Int32} {x8 : Int32} {x9 : Int32} {u10 : Option Value} {u11 : Option Value} {u12 : Option Value} {y0 : Int32} (hw : ω.2.2.2.1 = true) (kf : Ex ω ML_law 168 [some (.ref x0), some (.ref x1), some (.ref x2), some (.int x3), none, some (.int x5), some (.int x6), some (.int x7), some (.int x8), some (.int x9), none, none, none] [.int (x8 + (nI 1)), .int y0] h 325 4064 Q) : Ex ω ML_law 164 [some (.ref x0), some (.ref x1), some (.ref x2), some (.int x3), u4, some (.int x5), some (.int x6), some (.int x7), some (.int x8), some (.int x9), u10, u11, u12] [.int y0] h 325 4064 Q := by
  refine x_dr4 ?_
  refine x_dr10 ?_
  refine x_dr11 ?_
  refine x_dr12 ?_
  refine x_iload8 166 dL_law_164 rfl ?_
  refine x_iconst (nI 1) 167 dL_law_166 rfl rfl ?_
  refine x_iadd 168 dL_law_167 rfl ?_
  exact kf
set_option maxRecDepth 20000 in
theorem BL_law_168 {ω : Om} {h : AH} {Q : Option Value → AH → Prop} {x0 : Nat} {x1 : Nat} {x2 : Nat} {x3 : Int32} {u4 : Option Value} {x5 : Int32} {x6 : Int32} {x7 : Int32} {x8 : Int32} {x9 : Int32} {u10 : Option Value} {u11 : Option Value} {u12 : Option Value} {y0 : Int32} {y1 : Int32} (hw : ω.2.2.2.1 = true) (kt : ¬ y0 = y1 → Ex ω ML_law 175 [some (.ref x0), some (.ref x1), some (.ref x2), some (.int x3), none, some (.int x5), some (.int x6), some (.int x7), some (.int x8), some (.int x9), none, none, none] [] h 325 4064 Q) (kf : y0 = y1 → Ex ω ML_law 171 [some (.ref x0), some (.ref x1), some (.ref x2), some (.int x3), none, some (.int x5), some (.int x6), some (.int x7), some (.int x8), some (.int x9), none, none, none] [] h 325 4064 Q) : Ex ω ML_law 168 [some (.ref x0), some (.ref x1), some (.ref x2), some (.int x3), u4, some (.int x5), some (.int x6), some (.int x7), some (.int x8), some (.int x9), u10, u11, u12] [.int y1, .int y0] h 325 4064 Q := by
  refine x_dr4 ?_
  refine x_dr10 ?_
  refine x_dr11 ?_
  refine x_dr12 ?_
  exact x_icmp_ne 171 175 dL_law_168 rfl (by decide) kt kf
set_option maxRecDepth 20000 in
theorem BL_law_171 {ω : Om} {h : AH} {Q : Option Value → AH → Prop} {x0 : Nat} {x1 : Nat} {x2 : Nat} {x3 : Int32} {u4 : Option Value} {x5 : Int32} {x6 : Int32} {x7 : Int32} {x8 : Int32} {x9 : Int32} {u10 : Option Value} {u11 : Option Value} {u12 : Option Value} (hw : ω.2.2.2.1 = true) (kt : Ex ω ML_law 176 [some (.ref x0), some (.ref x1), some (.ref x2), some (.int x3), none, some (.int x5), some (.int x6), some (.int x7), some (.int x8), some (.int x9), none, none, none] [.int (nI 1)] h 325 4064 Q) : Ex ω ML_law 171 [some (.ref x0), some (.ref x1), some (.ref x2), some (.int x3), u4, some (.int x5), some (.int x6), some (.int x7), some (.int x8), some (.int x9), u10, u11, u12] [] h 325 4064 Q := by
  refine x_dr4 ?_
  refine x_dr10 ?_
  refine x_dr11 ?_
  refine x_dr12 ?_
  refine x_iconst (nI 1) 172 dL_law_171 rfl rfl ?_
  exact x_goto 176 dL_law_172 (by decide) kt
set_option maxRecDepth 20000 in
theorem BL_law_175 {ω : Om} {h : AH} {Q : Option Value → AH → Prop} {x0 : Nat} {x1 : Nat} {x2 : Nat} {x3 : Int32} {u4 : Option Value} {x5 : Int32} {x6 : Int32} {x7 : Int32} {x8 : Int32} {x9 : Int32} {u10 : Option Value} {u11 : Option Value} {u12 : Option Value} (hw : ω.2.2.2.1 = true) (kf : Ex ω ML_law 176 [some (.ref x0), some (.ref x1), some (.ref x2), some (.int x3), none, some (.int x5), some (.int x6), some (.int x7), some (.int x8), some (.int x9), none, none, none] [.int (nI 0)] h 325 4064 Q) : Ex ω ML_law 175 [some (.ref x0), some (.ref x1), some (.ref x2), some (.int x3), u4, some (.int x5), some (.int x6), some (.int x7), some (.int x8), some (.int x9), u10, u11, u12] [] h 325 4064 Q := by
  refine x_dr4 ?_
  refine x_dr10 ?_
  refine x_dr11 ?_
  refine x_dr12 ?_
  refine x_iconst (nI 0) 176 dL_law_175 rfl rfl ?_
  exact kf
set_option maxRecDepth 20000 in
theorem BL_law_176 {ω : Om} {h : AH} {Q : Option Value → AH → Prop} {x0 : Nat} {x1 : Nat} {x2 : Nat} {x3 : Int32} {u4 : Option Value} {x5 : Int32} {x6 : Int32} {x7 : Int32} {x8 : Int32} {x9 : Int32} {u10 : Option Value} {u11 : Option Value} {u12 : Option Value} {y0 : Int32} (hw : ω.2.2.2.1 = true) (kt : ¬ x8 = (nI 6) → Ex ω ML_law 190 [some (.ref x0), some (.ref x1), some (.ref x2), some (.int x3), some (.int y0), some (.int x5), some (.int x6), some (.int x7), some (.int x8), some (.int x9), none, none, none] [.int x3] h 325 4064 Q) (kf : x8 = (nI 6) → Ex ω ML_law 186 [some (.ref x0), some (.ref x1), some (.ref x2), some (.int x3), some (.int y0), some (.int x5), some (.int x6), some (.int x7), some (.int x8), some (.int x9), none, none, none] [.int x3] h 325 4064 Q) : Ex ω ML_law 176 [some (.ref x0), some (.ref x1), some (.ref x2), some (.int x3), u4, some (.int x5), some (.int x6), some (.int x7), some (.int x8), some (.int x9), u10, u11, u12] [.int y0] h 325 4064 Q := by
  refine x_dr4 ?_
  refine x_dr10 ?_
  refine x_dr11 ?_
  refine x_dr12 ?_
  refine x_istore4 178 dL_law_176 rfl (by decide) rfl ?_
  refine x_iload3 179 dL_law_178 rfl ?_
  refine x_iload8 181 dL_law_179 rfl ?_
  refine x_bipush (nI 6) 183 dL_law_181 rfl rfl ?_
  exact x_icmp_ne 186 190 dL_law_183 rfl (by decide) kt kf
set_option maxRecDepth 20000 in
theorem BL_law_186 {ω : Om} {h : AH} {Q : Option Value → AH → Prop} {x0 : Nat} {x1 : Nat} {x2 : Nat} {u3 : Option Value} {x4 : Int32} {x5 : Int32} {x6 : Int32} {x7 : Int32} {x8 : Int32} {u9 : Option Value} {u10 : Option Value} {u11 : Option Value} {u12 : Option Value} {y0 : Int32} (hw : ω.2.2.2.1 = true) (kt : Ex ω ML_law 192 [some (.ref x0), some (.ref x1), some (.ref x2), none, some (.int x4), some (.int x5), some (.int x6), some (.int x7), some (.int x8), none, none, none, none] [.int (nI 0), .int y0] h 325 4064 Q) : Ex ω ML_law 186 [some (.ref x0), some (.ref x1), some (.ref x2), u3, some (.int x4), some (.int x5), some (.int x6), some (.int x7), some (.int x8), u9, u10, u11, u12] [.int y0] h 325 4064 Q := by
  refine x_dr3 ?_
  refine x_dr9 ?_
  refine x_dr10 ?_
  refine x_dr11 ?_
  refine x_dr12 ?_
  refine x_iconst (nI 0) 187 dL_law_186 rfl rfl ?_
  exact x_goto 192 dL_law_187 (by decide) kt
set_option maxRecDepth 20000 in
theorem BL_law_190 {ω : Om} {h : AH} {Q : Option Value → AH → Prop} {x0 : Nat} {x1 : Nat} {x2 : Nat} {u3 : Option Value} {x4 : Int32} {x5 : Int32} {x6 : Int32} {x7 : Int32} {x8 : Int32} {x9 : Int32} {u10 : Option Value} {u11 : Option Value} {u12 : Option Value} {y0 : Int32} (hw : ω.2.2.2.1 = true) (kf : Ex ω ML_law 192 [some (.ref x0), some (.ref x1), some (.ref x2), none, some (.int x4), some (.int x5), some (.int x6), some (.int x7), some (.int x8), some (.int x9), none, none, none] [.int x9, .int y0] h 325 4064 Q) : Ex ω ML_law 190 [some (.ref x0), some (.ref x1), some (.ref x2), u3, some (.int x4), some (.int x5), some (.int x6), some (.int x7), some (.int x8), some (.int x9), u10, u11, u12] [.int y0] h 325 4064 Q := by
  refine x_dr3 ?_
  refine x_dr10 ?_
  refine x_dr11 ?_
  refine x_dr12 ?_
  refine x_iload9 192 dL_law_190 rfl ?_
  exact kf
set_option maxRecDepth 20000 in
theorem BL_law_192 {ω : Om} {h : AH} {Q : Option Value → AH → Prop} {x0 : Nat} {x1 : Nat} {x2 : Nat} {u3 : Option Value} {x4 : Int32} {x5 : Int32} {x6 : Int32} {x7 : Int32} {x8 : Int32} {u9 : Option Value} {u10 : Option Value} {u11 : Option Value} {u12 : Option Value} {y0 : Int32} {y1 : Int32} (hw : ω.2.2.2.1 = true) (kf : Ex ω ML_law 197 [some (.ref x0), some (.ref x1), some (.ref x2), some (.int (y0 + y1)), some (.int x4), some (.int x5), some (.int x6), some (.int x7), some (.int x8), none, none, some (.int (nI 0)), none] [] h 325 4064 Q) : Ex ω ML_law 192 [some (.ref x0), some (.ref x1), some (.ref x2), u3, some (.int x4), some (.int x5), some (.int x6), some (.int x7), some (.int x8), u9, u10, u11, u12] [.int y1, .int y0] h 325 4064 Q := by
  refine x_dr3 ?_
  refine x_dr9 ?_
  refine x_dr10 ?_
  refine x_dr11 ?_
  refine x_dr12 ?_
  refine x_iadd 193 dL_law_192 rfl ?_
  refine x_istore3 194 dL_law_193 rfl (by decide) rfl ?_
  refine x_iconst (nI 0) 195 dL_law_194 rfl rfl ?_
  refine x_istore11 197 dL_law_195 rfl (by decide) rfl ?_
  exact kf
set_option maxRecDepth 20000 in
theorem BL_law_197 {ω : Om} {h : AH} {Q : Option Value → AH → Prop} {x0 : Nat} {x1 : Nat} {x2 : Nat} {x3 : Int32} {x4 : Int32} {x5 : Int32} {x6 : Int32} {x7 : Int32} {x8 : Int32} {u9 : Option Value} {u10 : Option Value} {x11 : Int32} {u12 : Option Value} (hw : ω.2.2.2.1 = true) (kt : (nI 9) ≤ x11 → Ex ω ML_law 287 [some (.ref x0), some (.ref x1), some (.ref x2), some (.int x3), some (.int x4), some (.int x5), some (.int x6), some (.int x7), some (.int x8), none, none, some (.int x11), none] [] h 325 4064 Q) (kf : ¬ (nI 9) ≤ x11 → Ex ω ML_law 204 [some (.ref x0), some (.ref x1), some (.ref x2), some (.int x3), some (.int x4), some (.int x5), some (.int x6), some (.int x7), some (.int x8), none, none, some (.int x11), none] [] h 325 4064 Q) : Ex ω ML_law 197 [some (.ref x0), some (.ref x1), some (.ref x2), some (.int x3), some (.int x4), some (.int x5), some (.int x6), some (.int x7), some (.int x8), u9, u10, some (.int x11), u12] [] h 325 4064 Q := by
  refine x_dr9 ?_
  refine x_dr10 ?_
  refine x_dr12 ?_
  refine x_iload11 199 dL_law_197 rfl ?_
  refine x_bipush (nI 9) 201 dL_law_199 rfl rfl ?_
  exact x_icmp_ge 204 287 dL_law_201 rfl (by decide) kt kf
set_option maxRecDepth 20000 in
theorem BL_law_204 {ω : Om} {h : AH} {Q : Option Value → AH → Prop} {x0 : Nat} {x1 : Nat} {x2 : Nat} {x3 : Int32} {x4 : Int32} {x5 : Int32} {x6 : Int32} {x7 : Int32} {x8 : Int32} {u9 : Option Value} {u10 : Option Value} {x11 : Int32} {u12 : Option Value} (hw : ω.2.2.2.1 = true) (kt : (nI 6) ≤ x8 → Ex ω ML_law 287 [some (.ref x0), some (.ref x1), some (.ref x2), some (.int x3), some (.int x4), some (.int x5), some (.int x6), some (.int x7), some (.int x8), none, none, some (.int x11), none] [] h 325 4064 Q) (kf : ¬ (nI 6) ≤ x8 → Ex ω ML_law 211 [some (.ref x0), some (.ref x1), some (.ref x2), some (.int x3), some (.int x4), some (.int x5), some (.int x6), some (.int x7), some (.int x8), none, none, some (.int x11), none] [] h 325 4064 Q) : Ex ω ML_law 204 [some (.ref x0), some (.ref x1), some (.ref x2), some (.int x3), some (.int x4), some (.int x5), some (.int x6), some (.int x7), some (.int x8), u9, u10, some (.int x11), u12] [] h 325 4064 Q := by
  refine x_dr9 ?_
  refine x_dr10 ?_
  refine x_dr12 ?_
  refine x_iload8 206 dL_law_204 rfl ?_
  refine x_bipush (nI 6) 208 dL_law_206 rfl rfl ?_
  exact x_icmp_ge 211 287 dL_law_208 rfl (by decide) kt kf
set_option maxRecDepth 20000 in
theorem BL_law_211 {ω : Om} {h : AH} {Q : Option Value → AH → Prop} {x0 : Nat} {x1 : Nat} {x2 : Nat} {x3 : Int32} {x4 : Int32} {x5 : Int32} {x6 : Int32} {x7 : Int32} {x8 : Int32} {u9 : Option Value} {u10 : Option Value} {x11 : Int32} {u12 : Option Value} (hw : ω.2.2.2.1 = true) (kt : x4 = 0 → Ex ω ML_law 287 [some (.ref x0), some (.ref x1), some (.ref x2), some (.int x3), some (.int x4), some (.int x5), some (.int x6), some (.int x7), some (.int x8), none, none, some (.int x11), none] [] h 325 4064 Q) (kf : ¬ x4 = 0 → Ex ω ML_law 216 [some (.ref x0), some (.ref x1), some (.ref x2), some (.int x3), some (.int x4), some (.int x5), some (.int x6), some (.int x7), some (.int x8), none, none, some (.int x11), none] [] h 325 4064 Q) : Ex ω ML_law 211 [some (.ref x0), some (.ref x1), some (.ref x2), some (.int x3), some (.int x4), some (.int x5), some (.int x6), some (.int x7), some (.int x8), u9, u10, some (.int x11), u12] [] h 325 4064 Q := by
  refine x_dr9 ?_
  refine x_dr10 ?_
  refine x_dr12 ?_
  refine x_iload4 213 dL_law_211 rfl ?_
  exact x_if_eq 216 287 dL_law_213 rfl (by decide) kt kf
set_option maxRecDepth 20000 in
theorem BL_law_216 {ω : Om} {h : AH} {Q : Option Value → AH → Prop} {x0 : Nat} {x1 : Nat} {x2 : Nat} {x3 : Int32} {u4 : Option Value} {x5 : Int32} {x6 : Int32} {x7 : Int32} {x8 : Int32} {u9 : Option Value} {u10 : Option Value} {x11 : Int32} {u12 : Option Value} (hw : ω.2.2.2.1 = true) (s_x2 : gs h x2 = some (8, 8)) (kk : Ex ω M8_weaken 0 [some (.ref x2), some (.int x8), some (.int ((nI 1) + (x11 * (nI 7)))), some (.int ((x7 >>> (x11 &&& 31)) - (x7 >>> (x11 &&& 31)) / (nI 200) * (nI 200)))] [] h 0 0 (fun v h' => Ex ω ML_law 238 [some (.ref x0), some (.ref x1), some (.ref x2), some (.int x3), none, some (.int x5), some (.int x6), some (.int x7), some (.int x8), none, none, some (.int x11), none] (v.toList ++ []) h' 325 4064 Q)) : Ex ω ML_law 216 [some (.ref x0), some (.ref x1), some (.ref x2), some (.int x3), u4, some (.int x5), some (.int x6), some (.int x7), some (.int x8), u9, u10, some (.int x11), u12] [] h 325 4064 Q := by
  refine x_dr4 ?_
  refine x_dr9 ?_
  refine x_dr10 ?_
  refine x_dr12 ?_
  refine x_aload2 217 dL_law_216 rfl ?_
  refine x_iload8 219 dL_law_217 rfl ?_
  refine x_iconst (nI 1) 220 dL_law_219 rfl rfl ?_
  refine x_iload11 222 dL_law_220 rfl ?_
  refine x_bipush (nI 7) 224 dL_law_222 rfl rfl ?_
  refine x_imul 225 dL_law_224 rfl ?_
  refine x_iadd 226 dL_law_225 rfl ?_
  refine x_iload7 228 dL_law_226 rfl ?_
  refine x_iload11 230 dL_law_228 rfl ?_
  refine x_ishr 231 dL_law_230 rfl ?_
  refine x_sipush (nI 200) 234 dL_law_231 rfl rfl ?_
  refine x_irem 235 dL_law_234 rfl (by decide) ?_
  exact x_callV 238 x2 [.int x8, .int ((nI 1) + (x11 * (nI 7))), .int ((x7 >>> (x11 &&& 31)) - (x7 >>> (x11 &&& 31)) / (nI 200) * (nI 200))] [] dL_law_235 rfl lk_8_weaken ⟨wd293, wd294, wd295⟩ ⟨by decide, by decide⟩ (recvO cf8 (fun _ => s_x2)) rfl rfl (Nat.le_of_ble_eq_true rfl) (Nat.le_of_ble_eq_true rfl) (by decide) (by decide) kk
set_option maxRecDepth 20000 in
theorem BL_law_238 {ω : Om} {h : AH} {Q : Option Value → AH → Prop} {x0 : Nat} {x1 : Nat} {x2 : Nat} {x3 : Int32} {u4 : Option Value} {x5 : Int32} {x6 : Int32} {x7 : Int32} {x8 : Int32} {u9 : Option Value} {u10 : Option Value} {x11 : Int32} {u12 : Option Value} {y0 : Int32} (hw : ω.2.2.2.1 = true) (kt : ¬ x11 = (nI 8) → Ex ω ML_law 254 [some (.ref x0), some (.ref x1), some (.ref x2), some (.int x3), none, some (.int x5), some (.int x6), some (.int x7), some (.int x8), none, none, some (.int x11), some (.int y0)] [.int y0] h 325 4064 Q) (kf : x11 = (nI 8) → Ex ω ML_law 249 [some (.ref x0), some (.ref x1), some (.ref x2), some (.int x3), none, some (.int x5), some (.int x6), some (.int x7), some (.int x8), none, none, some (.int x11), some (.int y0)] [.int y0] h 325 4064 Q) : Ex ω ML_law 238 [some (.ref x0), some (.ref x1), some (.ref x2), some (.int x3), u4, some (.int x5), some (.int x6), some (.int x7), some (.int x8), u9, u10, some (.int x11), u12] [.int y0] h 325 4064 Q := by
  refine x_dr4 ?_
  refine x_dr9 ?_
  refine x_dr10 ?_
  refine x_dr12 ?_
  refine x_istore12 240 dL_law_238 rfl (by decide) rfl ?_
  refine x_iload12 242 dL_law_240 rfl ?_
  refine x_iload11 244 dL_law_242 rfl ?_
  refine x_bipush (nI 8) 246 dL_law_244 rfl rfl ?_
  exact x_icmp_ne 249 254 dL_law_246 rfl (by decide) kt kf
set_option maxRecDepth 20000 in
theorem BL_law_249 {ω : Om} {h : AH} {Q : Option Value → AH → Prop} {x0 : Nat} {x1 : Nat} {x2 : Nat} {x3 : Int32} {u4 : Option Value} {x5 : Int32} {x6 : Int32} {x7 : Int32} {x8 : Int32} {u9 : Option Value} {u10 : Option Value} {x11 : Int32} {u12 : Option Value} {y0 : Int32} (hw : ω.2.2.2.1 = true) (kt : Ex ω ML_law 258 [some (.ref x0), some (.ref x1), some (.ref x2), some (.int x3), none, some (.int x5), some (.int x6), some (.int x7), some (.int x8), none, none, some (.int x11), none] [.int ((-3)), .int y0] h 325 4064 Q) : Ex ω ML_law 249 [some (.ref x0), some (.ref x1), some (.ref x2), some (.int x3), u4, some (.int x5), some (.int x6), some (.int x7), some (.int x8), u9, u10, some (.int x11), u12] [.int y0] h 325 4064 Q := by
  refine x_dr4 ?_
  refine x_dr9 ?_
  refine x_dr10 ?_
  refine x_dr12 ?_
  refine x_bipush ((-3)) 251 dL_law_249 rfl rfl ?_
  exact x_goto 258 dL_law_251 (by decide) kt
set_option maxRecDepth 20000 in
theorem BL_law_254 {ω : Om} {h : AH} {Q : Option Value → AH → Prop} {x0 : Nat} {x1 : Nat} {x2 : Nat} {x3 : Int32} {u4 : Option Value} {x5 : Int32} {x6 : Int32} {x7 : Int32} {x8 : Int32} {u9 : Option Value} {u10 : Option Value} {x11 : Int32} {u12 : Option Value} {y0 : Int32} (hw : ω.2.2.2.1 = true) (kf : Ex ω ML_law 258 [some (.ref x0), some (.ref x1), some (.ref x2), some (.int x3), none, some (.int x5), some (.int x6), some (.int x7), some (.int x8), none, none, some (.int x11), none] [.int (x11 + (nI 1)), .int y0] h 325 4064 Q) : Ex ω ML_law 254 [some (.ref x0), some (.ref x1), some (.ref x2), some (.int x3), u4, some (.int x5), some (.int x6), some (.int x7), some (.int x8), u9, u10, some (.int x11), u12] [.int y0] h 325 4064 Q := by
  refine x_dr4 ?_
  refine x_dr9 ?_
  refine x_dr10 ?_
  refine x_dr12 ?_
  refine x_iload11 256 dL_law_254 rfl ?_
  refine x_iconst (nI 1) 257 dL_law_256 rfl rfl ?_
  refine x_iadd 258 dL_law_257 rfl ?_
  exact kf
set_option maxRecDepth 20000 in
theorem BL_law_258 {ω : Om} {h : AH} {Q : Option Value → AH → Prop} {x0 : Nat} {x1 : Nat} {x2 : Nat} {x3 : Int32} {u4 : Option Value} {x5 : Int32} {x6 : Int32} {x7 : Int32} {x8 : Int32} {u9 : Option Value} {u10 : Option Value} {x11 : Int32} {u12 : Option Value} {y0 : Int32} {y1 : Int32} (hw : ω.2.2.2.1 = true) (kt : ¬ y0 = y1 → Ex ω ML_law 278 [some (.ref x0), some (.ref x1), some (.ref x2), some (.int x3), none, some (.int x5), some (.int x6), some (.int x7), some (.int x8), none, none, some (.int x11), none] [] h 325 4064 Q) (kf : y0 = y1 → Ex ω ML_law 261 [some (.ref x0), some (.ref x1), some (.ref x2), some (.int x3), none, some (.int x5), some (.int x6), some (.int x7), some (.int x8), none, none, some (.int x11), none] [] h 325 4064 Q) : Ex ω ML_law 258 [some (.ref x0), some (.ref x1), some (.ref x2), some (.int x3), u4, some (.int x5), some (.int x6), some (.int x7), some (.int x8), u9, u10, some (.int x11), u12] [.int y1, .int y0] h 325 4064 Q := by
  refine x_dr4 ?_
  refine x_dr9 ?_
  refine x_dr10 ?_
  refine x_dr12 ?_
  exact x_icmp_ne 261 278 dL_law_258 rfl (by decide) kt kf
set_option maxRecDepth 20000 in
theorem BL_law_261 {ω : Om} {h : AH} {Q : Option Value → AH → Prop} {x0 : Nat} {x1 : Nat} {x2 : Nat} {x3 : Int32} {u4 : Option Value} {x5 : Int32} {x6 : Int32} {x7 : Int32} {x8 : Int32} {u9 : Option Value} {u10 : Option Value} {x11 : Int32} {u12 : Option Value} (hw : ω.2.2.2.1 = true) (s_x2 : gs h x2 = some (8, 8)) (kk : Ex ω M8_weaken 0 [some (.ref x2), some (.int x8), some (.int (nI 1)), some (.int (nI 5))] [] h 0 0 (fun v h' => Ex ω ML_law 269 [some (.ref x0), some (.ref x1), some (.ref x2), some (.int x3), none, some (.int x5), some (.int x6), some (.int x7), some (.int x8), none, none, some (.int x11), none] (v.toList ++ []) h' 325 4064 Q)) : Ex ω ML_law 261 [some (.ref x0), some (.ref x1), some (.ref x2), some (.int x3), u4, some (.int x5), some (.int x6), some (.int x7), some (.int x8), u9, u10, some (.int x11), u12] [] h 325 4064 Q := by
  refine x_dr4 ?_
  refine x_dr9 ?_
  refine x_dr10 ?_
  refine x_dr12 ?_
  refine x_aload2 262 dL_law_261 rfl ?_
  refine x_iload8 264 dL_law_262 rfl ?_
  refine x_iconst (nI 1) 265 dL_law_264 rfl rfl ?_
  refine x_iconst (nI 5) 266 dL_law_265 rfl rfl ?_
  exact x_callV 269 x2 [.int x8, .int (nI 1), .int (nI 5)] [] dL_law_266 rfl lk_8_weaken ⟨wd293, wd294, wd295⟩ ⟨by decide, by decide⟩ (recvO cf8 (fun _ => s_x2)) rfl rfl (Nat.le_of_ble_eq_true rfl) (Nat.le_of_ble_eq_true rfl) (by decide) (by decide) kk
set_option maxRecDepth 20000 in
theorem BL_law_269 {ω : Om} {h : AH} {Q : Option Value → AH → Prop} {x0 : Nat} {x1 : Nat} {x2 : Nat} {x3 : Int32} {u4 : Option Value} {x5 : Int32} {x6 : Int32} {x7 : Int32} {x8 : Int32} {u9 : Option Value} {u10 : Option Value} {x11 : Int32} {u12 : Option Value} {y0 : Int32} (hw : ω.2.2.2.1 = true) (kt : ¬ y0 = ((-2)) → Ex ω ML_law 278 [some (.ref x0), some (.ref x1), some (.ref x2), some (.int x3), none, some (.int x5), some (.int x6), some (.int x7), some (.int x8), none, none, some (.int x11), none] [] h 325 4064 Q) (kf : y0 = ((-2)) → Ex ω ML_law 274 [some (.ref x0), some (.ref x1), some (.ref x2), some (.int x3), none, some (.int x5), some (.int x6), some (.int x7), some (.int x8), none, none, some (.int x11), none] [] h 325 4064 Q) : Ex ω ML_law 269 [some (.ref x0), some (.ref x1), some (.ref x2), some (.int x3), u4, some (.int x5), some (.int x6), some (.int x7), some (.int x8), u9, u10, some (.int x11), u12] [.int y0] h 325 4064 Q := by
  refine x_dr4 ?_
  refine x_dr9 ?_
  refine x_dr10 ?_
  refine x_dr12 ?_
  refine x_bipush ((-2)) 271 dL_law_269 rfl rfl ?_
  exact x_icmp_ne 274 278 dL_law_271 rfl (by decide) kt kf
set_option maxRecDepth 20000 in
theorem BL_law_274 {ω : Om} {h : AH} {Q : Option Value → AH → Prop} {x0 : Nat} {x1 : Nat} {x2 : Nat} {x3 : Int32} {u4 : Option Value} {x5 : Int32} {x6 : Int32} {x7 : Int32} {x8 : Int32} {u9 : Option Value} {u10 : Option Value} {x11 : Int32} {u12 : Option Value} (hw : ω.2.2.2.1 = true) (kt : Ex ω ML_law 279 [some (.ref x0), some (.ref x1), some (.ref x2), some (.int x3), none, some (.int x5), some (.int x6), some (.int x7), some (.int x8), none, none, some (.int x11), none] [.int (nI 1)] h 325 4064 Q) : Ex ω ML_law 274 [some (.ref x0), some (.ref x1), some (.ref x2), some (.int x3), u4, some (.int x5), some (.int x6), some (.int x7), some (.int x8), u9, u10, some (.int x11), u12] [] h 325 4064 Q := by
  refine x_dr4 ?_
  refine x_dr9 ?_
  refine x_dr10 ?_
  refine x_dr12 ?_
  refine x_iconst (nI 1) 275 dL_law_274 rfl rfl ?_
  exact x_goto 279 dL_law_275 (by decide) kt
set_option maxRecDepth 20000 in
theorem BL_law_278 {ω : Om} {h : AH} {Q : Option Value → AH → Prop} {x0 : Nat} {x1 : Nat} {x2 : Nat} {x3 : Int32} {u4 : Option Value} {x5 : Int32} {x6 : Int32} {x7 : Int32} {x8 : Int32} {u9 : Option Value} {u10 : Option Value} {x11 : Int32} {u12 : Option Value} (hw : ω.2.2.2.1 = true) (kf : Ex ω ML_law 279 [some (.ref x0), some (.ref x1), some (.ref x2), some (.int x3), none, some (.int x5), some (.int x6), some (.int x7), some (.int x8), none, none, some (.int x11), none] [.int (nI 0)] h 325 4064 Q) : Ex ω ML_law 278 [some (.ref x0), some (.ref x1), some (.ref x2), some (.int x3), u4, some (.int x5), some (.int x6), some (.int x7), some (.int x8), u9, u10, some (.int x11), u12] [] h 325 4064 Q := by
  refine x_dr4 ?_
  refine x_dr9 ?_
  refine x_dr10 ?_
  refine x_dr12 ?_
  refine x_iconst (nI 0) 279 dL_law_278 rfl rfl ?_
  exact kf
set_option maxRecDepth 20000 in
theorem BL_law_279 {ω : Om} {h : AH} {Q : Option Value → AH → Prop} {x0 : Nat} {x1 : Nat} {x2 : Nat} {x3 : Int32} {u4 : Option Value} {x5 : Int32} {x6 : Int32} {x7 : Int32} {x8 : Int32} {u9 : Option Value} {u10 : Option Value} {x11 : Int32} {u12 : Option Value} {y0 : Int32} (hw : ω.2.2.2.1 = true) (kt : Ex ω ML_law 197 [some (.ref x0), some (.ref x1), some (.ref x2), some (.int x3), some (.int y0), some (.int x5), some (.int x6), some (.int x7), some (.int x8), none, none, some (.int (x11 + (nI 1))), none] [] h 325 4064 Q) : Ex ω ML_law 279 [some (.ref x0), some (.ref x1), some (.ref x2), some (.int x3), u4, some (.int x5), some (.int x6), some (.int x7), some (.int x8), u9, u10, some (.int x11), u12] [.int y0] h 325 4064 Q := by
  refine x_dr4 ?_
  refine x_dr9 ?_
  refine x_dr10 ?_
  refine x_dr12 ?_
  refine x_istore4 281 dL_law_279 rfl (by decide) rfl ?_
  refine x_iinc11 (x11 + (nI 1)) 284 dL_law_281 rfl (by decide) rfl rfl ?_
  exact x_goto 197 dL_law_284 (by decide) kt
set_option maxRecDepth 20000 in
theorem BL_law_287 {ω : Om} {h : AH} {Q : Option Value → AH → Prop} {x0 : Nat} {x1 : Nat} {x2 : Nat} {x3 : Int32} {x4 : Int32} {x5 : Int32} {x6 : Int32} {x7 : Int32} {u8 : Option Value} {u9 : Option Value} {u10 : Option Value} {u11 : Option Value} {u12 : Option Value} (hw : ω.2.2.2.1 = true) (kt : x4 = 0 → Ex ω ML_law 338 [some (.ref x0), some (.ref x1), some (.ref x2), some (.int x3), some (.int x4), some (.int x5), some (.int x6), some (.int x7), none, none, none, none, none] [] h 325 4064 Q) (kf : ¬ x4 = 0 → Ex ω ML_law 292 [some (.ref x0), some (.ref x1), some (.ref x2), some (.int x3), some (.int x4), some (.int x5), some (.int x6), some (.int x7), none, none, none, none, none] [] h 325 4064 Q) : Ex ω ML_law 287 [some (.ref x0), some (.ref x1), some (.ref x2), some (.int x3), some (.int x4), some (.int x5), some (.int x6), some (.int x7), u8, u9, u10, u11, u12] [] h 325 4064 Q := by
  refine x_dr8 ?_
  refine x_dr9 ?_
  refine x_dr10 ?_
  refine x_dr11 ?_
  refine x_dr12 ?_
  refine x_iload4 289 dL_law_287 rfl ?_
  exact x_if_eq 292 338 dL_law_289 rfl (by decide) kt kf
set_option maxRecDepth 20000 in
theorem BL_law_292 {ω : Om} {h : AH} {Q : Option Value → AH → Prop} {x0 : Nat} {x1 : Nat} {x2 : Nat} {x3 : Int32} {u4 : Option Value} {x5 : Int32} {x6 : Int32} {x7 : Int32} {u8 : Option Value} {u9 : Option Value} {u10 : Option Value} {u11 : Option Value} {u12 : Option Value} (hw : ω.2.2.2.1 = true) (kk : Ex ω ML_cell 0 [some (.ref x0), some (.int (((nI 3) * x5) + (nI 2)))] [] h 0 0 (fun v h' => Ex ω ML_law 303 [some (.ref x0), some (.ref x1), some (.ref x2), some (.int x3), none, some (.int x5), some (.int x6), some (.int x7), none, none, none, none, none] (v.toList ++ [.ref x2]) h' 325 4064 Q)) : Ex ω ML_law 292 [some (.ref x0), some (.ref x1), some (.ref x2), some (.int x3), u4, some (.int x5), some (.int x6), some (.int x7), u8, u9, u10, u11, u12] [] h 325 4064 Q := by
  refine x_dr4 ?_
  refine x_dr8 ?_
  refine x_dr9 ?_
  refine x_dr10 ?_
  refine x_dr11 ?_
  refine x_dr12 ?_
  refine x_aload2 293 dL_law_292 rfl ?_
  refine x_aload0 294 dL_law_293 rfl ?_
  refine x_iconst (nI 3) 295 dL_law_294 rfl rfl ?_
  refine x_iload5 297 dL_law_295 rfl ?_
  refine x_imul 298 dL_law_297 rfl ?_
  refine x_iconst (nI 2) 299 dL_law_298 rfl rfl ?_
  refine x_iadd 300 dL_law_299 rfl ?_
  exact x_callS 303 [.ref x0, .int (((nI 3) * x5) + (nI 2))] [.ref x2] dL_law_300 rfl lk_L_cell ⟨wd276, wd277⟩ ⟨by decide, by decide⟩ rfl rfl (Nat.le_of_ble_eq_true rfl) (Nat.le_of_ble_eq_true rfl) (by decide) (by decide) kk
set_option maxRecDepth 20000 in
theorem BL_law_303 {ω : Om} {h : AH} {Q : Option Value → AH → Prop} {x0 : Nat} {x1 : Nat} {x2 : Nat} {x3 : Int32} {u4 : Option Value} {x5 : Int32} {x6 : Int32} {x7 : Int32} {u8 : Option Value} {u9 : Option Value} {u10 : Option Value} {u11 : Option Value} {u12 : Option Value} {y0 : Nat} {y1 : Int32} (hw : ω.2.2.2.1 = true) (kk : Ex ω ML_programs 0 [some (.ref y0), some (.int y1), some (.int (nI 5)), none, none, none, none, none] [] h 0 0 (fun v h' => Ex ω ML_law 307 [some (.ref x0), some (.ref x1), some (.ref x2), some (.int x3), none, some (.int x5), some (.int x6), some (.int x7), none, none, none, none, none] (v.toList ++ []) h' 325 4064 Q)) : Ex ω ML_law 303 [some (.ref x0), some (.ref x1), some (.ref x2), some (.int x3), u4, some (.int x5), some (.int x6), some (.int x7), u8, u9, u10, u11, u12] [.int y1, .ref y0] h 325 4064 Q := by
  refine x_dr4 ?_
  refine x_dr8 ?_
  refine x_dr9 ?_
  refine x_dr10 ?_
  refine x_dr11 ?_
  refine x_dr12 ?_
  refine x_iconst (nI 5) 304 dL_law_303 rfl rfl ?_
  exact x_callS 307 [.ref y0, .int y1, .int (nI 5)] [] dL_law_304 rfl lk_L_programs ⟨wd309, wd310⟩ ⟨by decide, by decide⟩ rfl rfl (Nat.le_of_ble_eq_true rfl) (Nat.le_of_ble_eq_true rfl) (by decide) (by decide) kk
set_option maxRecDepth 20000 in
theorem BL_law_307 {ω : Om} {h : AH} {Q : Option Value → AH → Prop} {x0 : Nat} {x1 : Nat} {x2 : Nat} {x3 : Int32} {u4 : Option Value} {x5 : Int32} {x6 : Int32} {x7 : Int32} {u8 : Option Value} {u9 : Option Value} {u10 : Option Value} {u11 : Option Value} {u12 : Option Value} {y0 : Int32} (hw : ω.2.2.2.1 = true) (kt : y0 < (nI 1) → Ex ω ML_law 338 [some (.ref x0), some (.ref x1), some (.ref x2), some (.int x3), none, some (.int x5), some (.int x6), some (.int x7), none, none, none, none, none] [] h 325 4064 Q) (kf : ¬ y0 < (nI 1) → Ex ω ML_law 311 [some (.ref x0), some (.ref x1), some (.ref x2), some (.int x3), none, some (.int x5), some (.int x6), some (.int x7), none, none, none, none, none] [] h 325 4064 Q) : Ex ω ML_law 307 [some (.ref x0), some (.ref x1), some (.ref x2), some (.int x3), u4, some (.int x5), some (.int x6), some (.int x7), u8, u9, u10, u11, u12] [.int y0] h 325 4064 Q := by
  refine x_dr4 ?_
  refine x_dr8 ?_
  refine x_dr9 ?_
  refine x_dr10 ?_
  refine x_dr11 ?_
  refine x_dr12 ?_
  refine x_iconst (nI 1) 308 dL_law_307 rfl rfl ?_
  exact x_icmp_lt 311 338 dL_law_308 rfl (by decide) kt kf
set_option maxRecDepth 20000 in
theorem BL_law_311 {ω : Om} {h : AH} {Q : Option Value → AH → Prop} {x0 : Nat} {x1 : Nat} {x2 : Nat} {x3 : Int32} {u4 : Option Value} {x5 : Int32} {x6 : Int32} {x7 : Int32} {u8 : Option Value} {u9 : Option Value} {u10 : Option Value} {u11 : Option Value} {u12 : Option Value} (hw : ω.2.2.2.1 = true) (kk : Ex ω ML_isWritten 0 [some (.ref x2), some (.ref x1), some (.int x6), none, none, none, none] [] h 0 0 (fun v h' => Ex ω ML_law 318 [some (.ref x0), some (.ref x1), some (.ref x2), some (.int x3), none, some (.int x5), some (.int x6), some (.int x7), none, none, none, none, none] (v.toList ++ []) h' 325 4064 Q)) : Ex ω ML_law 311 [some (.ref x0), some (.ref x1), some (.ref x2), some (.int x3), u4, some (.int x5), some (.int x6), some (.int x7), u8, u9, u10, u11, u12] [] h 325 4064 Q := by
  refine x_dr4 ?_
  refine x_dr8 ?_
  refine x_dr9 ?_
  refine x_dr10 ?_
  refine x_dr11 ?_
  refine x_dr12 ?_
  refine x_aload2 312 dL_law_311 rfl ?_
  refine x_aload1 313 dL_law_312 rfl ?_
  refine x_iload6 315 dL_law_313 rfl ?_
  exact x_callS 318 [.ref x2, .ref x1, .int x6] [] dL_law_315 rfl lk_L_isWritten ⟨wd337, wd338⟩ ⟨by decide, by decide⟩ rfl rfl (Nat.le_of_ble_eq_true rfl) (Nat.le_of_ble_eq_true rfl) (by decide) (by decide) kk
set_option maxRecDepth 20000 in
theorem BL_law_318 {ω : Om} {h : AH} {Q : Option Value → AH → Prop} {x0 : Nat} {x1 : Nat} {x2 : Nat} {x3 : Int32} {u4 : Option Value} {x5 : Int32} {u6 : Option Value} {x7 : Int32} {u8 : Option Value} {u9 : Option Value} {u10 : Option Value} {u11 : Option Value} {u12 : Option Value} {y0 : Int32} (hw : ω.2.2.2.1 = true) (kt : y0 = 0 → Ex ω ML_law 338 [some (.ref x0), some (.ref x1), some (.ref x2), some (.int x3), none, some (.int x5), none, some (.int x7), none, none, none, none, none] [] h 325 4064 Q) (kf : ¬ y0 = 0 → Ex ω ML_law 321 [some (.ref x0), some (.ref x1), some (.ref x2), some (.int x3), none, some (.int x5), none, some (.int x7), none, none, none, none, none] [] h 325 4064 Q) : Ex ω ML_law 318 [some (.ref x0), some (.ref x1), some (.ref x2), some (.int x3), u4, some (.int x5), u6, some (.int x7), u8, u9, u10, u11, u12] [.int y0] h 325 4064 Q := by
  refine x_dr4 ?_
  refine x_dr6 ?_
  refine x_dr8 ?_
  refine x_dr9 ?_
  refine x_dr10 ?_
  refine x_dr11 ?_
  refine x_dr12 ?_
  exact x_if_eq 321 338 dL_law_318 rfl (by decide) kt kf
set_option maxRecDepth 20000 in
theorem BL_law_321 {ω : Om} {h : AH} {Q : Option Value → AH → Prop} {x0 : Nat} {x1 : Nat} {x2 : Nat} {x3 : Int32} {u4 : Option Value} {x5 : Int32} {u6 : Option Value} {x7 : Int32} {u8 : Option Value} {u9 : Option Value} {u10 : Option Value} {u11 : Option Value} {u12 : Option Value} (hw : ω.2.2.2.1 = true) (s_x2 : gs h x2 = some (8, 8)) (kk : Ex ω M8_set 0 [some (.ref x2), some (.int (nI 1)), some (.int (x7 - x7 / (nI 21) * (nI 21))), none] [] h 0 0 (fun v h' => Ex ω ML_law 331 [some (.ref x0), some (.ref x1), some (.ref x2), some (.int x3), none, some (.int x5), none, some (.int x7), none, none, none, none, none] (v.toList ++ []) h' 325 4064 Q)) : Ex ω ML_law 321 [some (.ref x0), some (.ref x1), some (.ref x2), some (.int x3), u4, some (.int x5), u6, some (.int x7), u8, u9, u10, u11, u12] [] h 325 4064 Q := by
  refine x_dr4 ?_
  refine x_dr6 ?_
  refine x_dr8 ?_
  refine x_dr9 ?_
  refine x_dr10 ?_
  refine x_dr11 ?_
  refine x_dr12 ?_
  refine x_aload2 322 dL_law_321 rfl ?_
  refine x_iconst (nI 1) 323 dL_law_322 rfl rfl ?_
  refine x_iload7 325 dL_law_323 rfl ?_
  refine x_bipush (nI 21) 327 dL_law_325 rfl rfl ?_
  refine x_irem 328 dL_law_327 rfl (by decide) ?_
  exact x_callV 331 x2 [.int (nI 1), .int (x7 - x7 / (nI 21) * (nI 21))] [] dL_law_328 rfl lk_8_set ⟨wd370, wd371, wd372⟩ ⟨by decide, by decide⟩ (recvO cf8 (fun _ => s_x2)) rfl rfl (Nat.le_of_ble_eq_true rfl) (Nat.le_of_ble_eq_true rfl) (by decide) (by decide) kk
set_option maxRecDepth 20000 in
theorem BL_law_331 {ω : Om} {h : AH} {Q : Option Value → AH → Prop} {x0 : Nat} {x1 : Nat} {x2 : Nat} {x3 : Int32} {u4 : Option Value} {x5 : Int32} {u6 : Option Value} {x7 : Int32} {u8 : Option Value} {u9 : Option Value} {u10 : Option Value} {u11 : Option Value} {u12 : Option Value} {y0 : Int32} (hw : ω.2.2.2.1 = true) (kt : y0 < 0 → Ex ω ML_law 338 [some (.ref x0), some (.ref x1), some (.ref x2), some (.int x3), none, some (.int x5), none, some (.int x7), none, none, none, none, none] [] h 325 4064 Q) (kf : ¬ y0 < 0 → Ex ω ML_law 334 [some (.ref x0), some (.ref x1), some (.ref x2), some (.int x3), none, some (.int x5), none, some (.int x7), none, none, none, none, none] [] h 325 4064 Q) : Ex ω ML_law 331 [some (.ref x0), some (.ref x1), some (.ref x2), some (.int x3), u4, some (.int x5), u6, some (.int x7), u8, u9, u10, u11, u12] [.int y0] h 325 4064 Q := by
  refine x_dr4 ?_
  refine x_dr6 ?_
  refine x_dr8 ?_
  refine x_dr9 ?_
  refine x_dr10 ?_
  refine x_dr11 ?_
  refine x_dr12 ?_
  exact x_if_lt 334 338 dL_law_331 rfl (by decide) kt kf
set_option maxRecDepth 20000 in
theorem BL_law_334 {ω : Om} {h : AH} {Q : Option Value → AH → Prop} {x0 : Nat} {x1 : Nat} {x2 : Nat} {x3 : Int32} {u4 : Option Value} {x5 : Int32} {u6 : Option Value} {x7 : Int32} {u8 : Option Value} {u9 : Option Value} {u10 : Option Value} {u11 : Option Value} {u12 : Option Value} (hw : ω.2.2.2.1 = true) (kt : Ex ω ML_law 339 [some (.ref x0), some (.ref x1), some (.ref x2), some (.int x3), none, some (.int x5), none, some (.int x7), none, none, none, none, none] [.int (nI 1)] h 325 4064 Q) : Ex ω ML_law 334 [some (.ref x0), some (.ref x1), some (.ref x2), some (.int x3), u4, some (.int x5), u6, some (.int x7), u8, u9, u10, u11, u12] [] h 325 4064 Q := by
  refine x_dr4 ?_
  refine x_dr6 ?_
  refine x_dr8 ?_
  refine x_dr9 ?_
  refine x_dr10 ?_
  refine x_dr11 ?_
  refine x_dr12 ?_
  refine x_iconst (nI 1) 335 dL_law_334 rfl rfl ?_
  exact x_goto 339 dL_law_335 (by decide) kt
set_option maxRecDepth 20000 in
theorem BL_law_338 {ω : Om} {h : AH} {Q : Option Value → AH → Prop} {x0 : Nat} {x1 : Nat} {x2 : Nat} {x3 : Int32} {u4 : Option Value} {x5 : Int32} {u6 : Option Value} {x7 : Int32} {u8 : Option Value} {u9 : Option Value} {u10 : Option Value} {u11 : Option Value} {u12 : Option Value} (hw : ω.2.2.2.1 = true) (kf : Ex ω ML_law 339 [some (.ref x0), some (.ref x1), some (.ref x2), some (.int x3), none, some (.int x5), none, some (.int x7), none, none, none, none, none] [.int (nI 0)] h 325 4064 Q) : Ex ω ML_law 338 [some (.ref x0), some (.ref x1), some (.ref x2), some (.int x3), u4, some (.int x5), u6, some (.int x7), u8, u9, u10, u11, u12] [] h 325 4064 Q := by
  refine x_dr4 ?_
  refine x_dr6 ?_
  refine x_dr8 ?_
  refine x_dr9 ?_
  refine x_dr10 ?_
  refine x_dr11 ?_
  refine x_dr12 ?_
  refine x_iconst (nI 0) 339 dL_law_338 rfl rfl ?_
  exact kf
set_option maxRecDepth 20000 in
theorem BL_law_339 {ω : Om} {h : AH} {Q : Option Value → AH → Prop} {x0 : Nat} {x1 : Nat} {x2 : Nat} {x3 : Int32} {u4 : Option Value} {x5 : Int32} {u6 : Option Value} {x7 : Int32} {u8 : Option Value} {u9 : Option Value} {u10 : Option Value} {u11 : Option Value} {u12 : Option Value} {y0 : Int32} (hw : ω.2.2.2.1 = true) (kt : y0 = 0 → Ex ω ML_law 414 [some (.ref x0), some (.ref x1), some (.ref x2), some (.int x3), some (.int y0), some (.int x5), none, some (.int x7), none, none, none, none, none] [] h 325 4064 Q) (kf : ¬ y0 = 0 → Ex ω ML_law 346 [some (.ref x0), some (.ref x1), some (.ref x2), some (.int x3), some (.int y0), some (.int x5), none, some (.int x7), none, none, none, none, none] [] h 325 4064 Q) : Ex ω ML_law 339 [some (.ref x0), some (.ref x1), some (.ref x2), some (.int x3), u4, some (.int x5), u6, some (.int x7), u8, u9, u10, u11, u12] [.int y0] h 325 4064 Q := by
  refine x_dr4 ?_
  refine x_dr6 ?_
  refine x_dr8 ?_
  refine x_dr9 ?_
  refine x_dr10 ?_
  refine x_dr11 ?_
  refine x_dr12 ?_
  refine x_istore4 341 dL_law_339 rfl (by decide) rfl ?_
  refine x_iload4 343 dL_law_341 rfl ?_
  exact x_if_eq 346 414 dL_law_343 rfl (by decide) kt kf
set_option maxRecDepth 20000 in
theorem BL_law_346 {ω : Om} {h : AH} {Q : Option Value → AH → Prop} {x0 : Nat} {x1 : Nat} {x2 : Nat} {x3 : Int32} {u4 : Option Value} {x5 : Int32} {u6 : Option Value} {x7 : Int32} {u8 : Option Value} {u9 : Option Value} {u10 : Option Value} {u11 : Option Value} {u12 : Option Value} (hw : ω.2.2.2.1 = true) (s_x2 : gs h x2 = some (8, 8)) (kk : Ex ω M8_addPallet 0 [some (.ref x2), some (.int ((nI 20) + (x7 - x7 / (nI 181) * (nI 181)))), some (.int ((nI 20) + ((x7 >>> ((nI 6) &&& 31)) - (x7 >>> ((nI 6) &&& 31)) / (nI 181) * (nI 181)))), some (.int ((nI 10) + ((x7 >>> ((nI 2) &&& 31)) - (x7 >>> ((nI 2) &&& 31)) / (nI 241) * (nI 241)))), some (.int ((x7 >>> ((nI 4) &&& 31)) - (x7 >>> ((nI 4) &&& 31)) / (nI 5001) * (nI 5001))), some (.int x5), none] [] h 0 0 (fun v h' => Ex ω ML_law 392 [some (.ref x0), some (.ref x1), some (.ref x2), some (.int x3), none, some (.int x5), none, some (.int x7), none, none, none, none, none] (v.toList ++ []) h' 325 4064 Q)) : Ex ω ML_law 346 [some (.ref x0), some (.ref x1), some (.ref x2), some (.int x3), u4, some (.int x5), u6, some (.int x7), u8, u9, u10, u11, u12] [] h 325 4064 Q := by
  refine x_dr4 ?_
  refine x_dr6 ?_
  refine x_dr8 ?_
  refine x_dr9 ?_
  refine x_dr10 ?_
  refine x_dr11 ?_
  refine x_dr12 ?_
  refine x_aload2 347 dL_law_346 rfl ?_
  refine x_bipush (nI 20) 349 dL_law_347 rfl rfl ?_
  refine x_iload7 351 dL_law_349 rfl ?_
  refine x_sipush (nI 181) 354 dL_law_351 rfl rfl ?_
  refine x_irem 355 dL_law_354 rfl (by decide) ?_
  refine x_iadd 356 dL_law_355 rfl ?_
  refine x_bipush (nI 20) 358 dL_law_356 rfl rfl ?_
  refine x_iload7 360 dL_law_358 rfl ?_
  refine x_bipush (nI 6) 362 dL_law_360 rfl rfl ?_
  refine x_ishr 363 dL_law_362 rfl ?_
  refine x_sipush (nI 181) 366 dL_law_363 rfl rfl ?_
  refine x_irem 367 dL_law_366 rfl (by decide) ?_
  refine x_iadd 368 dL_law_367 rfl ?_
  refine x_bipush (nI 10) 370 dL_law_368 rfl rfl ?_
  refine x_iload7 372 dL_law_370 rfl ?_
  refine x_iconst (nI 2) 373 dL_law_372 rfl rfl ?_
  refine x_ishr 374 dL_law_373 rfl ?_
  refine x_sipush (nI 241) 377 dL_law_374 rfl rfl ?_
  refine x_irem 378 dL_law_377 rfl (by decide) ?_
  refine x_iadd 379 dL_law_378 rfl ?_
  refine x_iload7 381 dL_law_379 rfl ?_
  refine x_iconst (nI 4) 382 dL_law_381 rfl rfl ?_
  refine x_ishr 383 dL_law_382 rfl ?_
  refine x_sipush (nI 5001) 386 dL_law_383 rfl rfl ?_
  refine x_irem 387 dL_law_386 rfl (by decide) ?_
  refine x_iload5 389 dL_law_387 rfl ?_
  exact x_callV 392 x2 [.int ((nI 20) + (x7 - x7 / (nI 181) * (nI 181))), .int ((nI 20) + ((x7 >>> ((nI 6) &&& 31)) - (x7 >>> ((nI 6) &&& 31)) / (nI 181) * (nI 181))), .int ((nI 10) + ((x7 >>> ((nI 2) &&& 31)) - (x7 >>> ((nI 2) &&& 31)) / (nI 241) * (nI 241))), .int ((x7 >>> ((nI 4) &&& 31)) - (x7 >>> ((nI 4) &&& 31)) / (nI 5001) * (nI 5001)), .int x5] [] dL_law_389 rfl lk_8_addPallet ⟨wd374, wd375, wd376⟩ ⟨by decide, by decide⟩ (recvO cf8 (fun _ => s_x2)) rfl rfl (Nat.le_of_ble_eq_true rfl) (Nat.le_of_ble_eq_true rfl) (by decide) (by decide) kk
set_option maxRecDepth 20000 in
theorem BL_law_392 {ω : Om} {h : AH} {Q : Option Value → AH → Prop} {x0 : Nat} {x1 : Nat} {x2 : Nat} {x3 : Int32} {u4 : Option Value} {x5 : Int32} {u6 : Option Value} {u7 : Option Value} {u8 : Option Value} {u9 : Option Value} {u10 : Option Value} {u11 : Option Value} {u12 : Option Value} {y0 : Int32} (hw : ω.2.2.2.1 = true) (kt : y0 < 0 → Ex ω ML_law 414 [some (.ref x0), some (.ref x1), some (.ref x2), some (.int x3), none, some (.int x5), none, none, none, none, none, none, none] [] h 325 4064 Q) (kf : ¬ y0 < 0 → Ex ω ML_law 395 [some (.ref x0), some (.ref x1), some (.ref x2), some (.int x3), none, some (.int x5), none, none, none, none, none, none, none] [] h 325 4064 Q) : Ex ω ML_law 392 [some (.ref x0), some (.ref x1), some (.ref x2), some (.int x3), u4, some (.int x5), u6, u7, u8, u9, u10, u11, u12] [.int y0] h 325 4064 Q := by
  refine x_dr4 ?_
  refine x_dr6 ?_
  refine x_dr7 ?_
  refine x_dr8 ?_
  refine x_dr9 ?_
  refine x_dr10 ?_
  refine x_dr11 ?_
  refine x_dr12 ?_
  exact x_if_lt 395 414 dL_law_392 rfl (by decide) kt kf
set_option maxRecDepth 20000 in
theorem BL_law_395 {ω : Om} {h : AH} {Q : Option Value → AH → Prop} {x0 : Nat} {x1 : Nat} {x2 : Nat} {x3 : Int32} {u4 : Option Value} {x5 : Int32} {u6 : Option Value} {u7 : Option Value} {u8 : Option Value} {u9 : Option Value} {u10 : Option Value} {u11 : Option Value} {u12 : Option Value} (hw : ω.2.2.2.1 = true) (kk : Ex ω ML_isUndone 0 [some (.ref x2), none, none, none, none, none, none, none, none, none, none, none, none] [] h 0 0 (fun v h' => Ex ω ML_law 399 [some (.ref x0), some (.ref x1), some (.ref x2), some (.int x3), none, some (.int x5), none, none, none, none, none, none, none] (v.toList ++ []) h' 325 4064 Q)) : Ex ω ML_law 395 [some (.ref x0), some (.ref x1), some (.ref x2), some (.int x3), u4, some (.int x5), u6, u7, u8, u9, u10, u11, u12] [] h 325 4064 Q := by
  refine x_dr4 ?_
  refine x_dr6 ?_
  refine x_dr7 ?_
  refine x_dr8 ?_
  refine x_dr9 ?_
  refine x_dr10 ?_
  refine x_dr11 ?_
  refine x_dr12 ?_
  refine x_aload2 396 dL_law_395 rfl ?_
  exact x_callS 399 [.ref x2] [] dL_law_396 rfl lk_L_isUndone ⟨wd390, wd391⟩ ⟨by decide, by decide⟩ rfl rfl (Nat.le_of_ble_eq_true rfl) (Nat.le_of_ble_eq_true rfl) (by decide) (by decide) kk
set_option maxRecDepth 20000 in
theorem BL_law_399 {ω : Om} {h : AH} {Q : Option Value → AH → Prop} {x0 : Nat} {x1 : Nat} {x2 : Nat} {x3 : Int32} {u4 : Option Value} {x5 : Int32} {u6 : Option Value} {u7 : Option Value} {u8 : Option Value} {u9 : Option Value} {u10 : Option Value} {u11 : Option Value} {u12 : Option Value} {y0 : Int32} (hw : ω.2.2.2.1 = true) (kt : y0 = 0 → Ex ω ML_law 414 [some (.ref x0), some (.ref x1), some (.ref x2), some (.int x3), none, some (.int x5), none, none, none, none, none, none, none] [] h 325 4064 Q) (kf : ¬ y0 = 0 → Ex ω ML_law 402 [some (.ref x0), some (.ref x1), some (.ref x2), some (.int x3), none, some (.int x5), none, none, none, none, none, none, none] [] h 325 4064 Q) : Ex ω ML_law 399 [some (.ref x0), some (.ref x1), some (.ref x2), some (.int x3), u4, some (.int x5), u6, u7, u8, u9, u10, u11, u12] [.int y0] h 325 4064 Q := by
  refine x_dr4 ?_
  refine x_dr6 ?_
  refine x_dr7 ?_
  refine x_dr8 ?_
  refine x_dr9 ?_
  refine x_dr10 ?_
  refine x_dr11 ?_
  refine x_dr12 ?_
  exact x_if_eq 402 414 dL_law_399 rfl (by decide) kt kf
set_option maxRecDepth 20000 in
theorem BL_law_402 {ω : Om} {h : AH} {Q : Option Value → AH → Prop} {x0 : Nat} {x1 : Nat} {x2 : Nat} {x3 : Int32} {u4 : Option Value} {x5 : Int32} {u6 : Option Value} {u7 : Option Value} {u8 : Option Value} {u9 : Option Value} {u10 : Option Value} {u11 : Option Value} {u12 : Option Value} (hw : ω.2.2.2.1 = true) (kk : Ex ω ML_isKept 0 [some (.ref x2), some (.int x3), none, none, none, none] [] h 0 0 (fun v h' => Ex ω ML_law 407 [some (.ref x0), some (.ref x1), some (.ref x2), some (.int x3), none, some (.int x5), none, none, none, none, none, none, none] (v.toList ++ []) h' 325 4064 Q)) : Ex ω ML_law 402 [some (.ref x0), some (.ref x1), some (.ref x2), some (.int x3), u4, some (.int x5), u6, u7, u8, u9, u10, u11, u12] [] h 325 4064 Q := by
  refine x_dr4 ?_
  refine x_dr6 ?_
  refine x_dr7 ?_
  refine x_dr8 ?_
  refine x_dr9 ?_
  refine x_dr10 ?_
  refine x_dr11 ?_
  refine x_dr12 ?_
  refine x_aload2 403 dL_law_402 rfl ?_
  refine x_iload3 404 dL_law_403 rfl ?_
  exact x_callS 407 [.ref x2, .int x3] [] dL_law_404 rfl lk_L_isKept ⟨wd586, wd587⟩ ⟨by decide, by decide⟩ rfl rfl (Nat.le_of_ble_eq_true rfl) (Nat.le_of_ble_eq_true rfl) (by decide) (by decide) kk
set_option maxRecDepth 20000 in
theorem BL_law_407 {ω : Om} {h : AH} {Q : Option Value → AH → Prop} {x0 : Nat} {x1 : Nat} {x2 : Nat} {x3 : Int32} {u4 : Option Value} {x5 : Int32} {u6 : Option Value} {u7 : Option Value} {u8 : Option Value} {u9 : Option Value} {u10 : Option Value} {u11 : Option Value} {u12 : Option Value} {y0 : Int32} (hw : ω.2.2.2.1 = true) (kt : y0 = 0 → Ex ω ML_law 414 [some (.ref x0), some (.ref x1), some (.ref x2), some (.int x3), none, some (.int x5), none, none, none, none, none, none, none] [] h 325 4064 Q) (kf : ¬ y0 = 0 → Ex ω ML_law 410 [some (.ref x0), some (.ref x1), some (.ref x2), some (.int x3), none, some (.int x5), none, none, none, none, none, none, none] [] h 325 4064 Q) : Ex ω ML_law 407 [some (.ref x0), some (.ref x1), some (.ref x2), some (.int x3), u4, some (.int x5), u6, u7, u8, u9, u10, u11, u12] [.int y0] h 325 4064 Q := by
  refine x_dr4 ?_
  refine x_dr6 ?_
  refine x_dr7 ?_
  refine x_dr8 ?_
  refine x_dr9 ?_
  refine x_dr10 ?_
  refine x_dr11 ?_
  refine x_dr12 ?_
  exact x_if_eq 410 414 dL_law_407 rfl (by decide) kt kf
set_option maxRecDepth 20000 in
theorem BL_law_410 {ω : Om} {h : AH} {Q : Option Value → AH → Prop} {x0 : Nat} {x1 : Nat} {x2 : Nat} {x3 : Int32} {u4 : Option Value} {x5 : Int32} {u6 : Option Value} {u7 : Option Value} {u8 : Option Value} {u9 : Option Value} {u10 : Option Value} {u11 : Option Value} {u12 : Option Value} (hw : ω.2.2.2.1 = true) (kt : Ex ω ML_law 415 [some (.ref x0), some (.ref x1), some (.ref x2), some (.int x3), none, some (.int x5), none, none, none, none, none, none, none] [.int (nI 1)] h 325 4064 Q) : Ex ω ML_law 410 [some (.ref x0), some (.ref x1), some (.ref x2), some (.int x3), u4, some (.int x5), u6, u7, u8, u9, u10, u11, u12] [] h 325 4064 Q := by
  refine x_dr4 ?_
  refine x_dr6 ?_
  refine x_dr7 ?_
  refine x_dr8 ?_
  refine x_dr9 ?_
  refine x_dr10 ?_
  refine x_dr11 ?_
  refine x_dr12 ?_
  refine x_iconst (nI 1) 411 dL_law_410 rfl rfl ?_
  exact x_goto 415 dL_law_411 (by decide) kt
set_option maxRecDepth 20000 in
theorem BL_law_414 {ω : Om} {h : AH} {Q : Option Value → AH → Prop} {x0 : Nat} {x1 : Nat} {x2 : Nat} {x3 : Int32} {u4 : Option Value} {x5 : Int32} {u6 : Option Value} {u7 : Option Value} {u8 : Option Value} {u9 : Option Value} {u10 : Option Value} {u11 : Option Value} {u12 : Option Value} (hw : ω.2.2.2.1 = true) (kf : Ex ω ML_law 415 [some (.ref x0), some (.ref x1), some (.ref x2), some (.int x3), none, some (.int x5), none, none, none, none, none, none, none] [.int (nI 0)] h 325 4064 Q) : Ex ω ML_law 414 [some (.ref x0), some (.ref x1), some (.ref x2), some (.int x3), u4, some (.int x5), u6, u7, u8, u9, u10, u11, u12] [] h 325 4064 Q := by
  refine x_dr4 ?_
  refine x_dr6 ?_
  refine x_dr7 ?_
  refine x_dr8 ?_
  refine x_dr9 ?_
  refine x_dr10 ?_
  refine x_dr11 ?_
  refine x_dr12 ?_
  refine x_iconst (nI 0) 415 dL_law_414 rfl rfl ?_
  exact kf
set_option maxRecDepth 20000 in
theorem BL_law_415 {ω : Om} {h : AH} {Q : Option Value → AH → Prop} {x0 : Nat} {x1 : Nat} {x2 : Nat} {x3 : Int32} {u4 : Option Value} {x5 : Int32} {u6 : Option Value} {u7 : Option Value} {u8 : Option Value} {u9 : Option Value} {u10 : Option Value} {u11 : Option Value} {u12 : Option Value} {y0 : Int32} (hw : ω.2.2.2.1 = true) (kt : Ex ω ML_law 73 [some (.ref x0), some (.ref x1), some (.ref x2), some (.int x3), some (.int y0), some (.int (x5 + (nI 1))), none, none, none, none, none, none, none] [] h 325 4064 Q) : Ex ω ML_law 415 [some (.ref x0), some (.ref x1), some (.ref x2), some (.int x3), u4, some (.int x5), u6, u7, u8, u9, u10, u11, u12] [.int y0] h 325 4064 Q := by
  refine x_dr4 ?_
  refine x_dr6 ?_
  refine x_dr7 ?_
  refine x_dr8 ?_
  refine x_dr9 ?_
  refine x_dr10 ?_
  refine x_dr11 ?_
  refine x_dr12 ?_
  refine x_istore4 417 dL_law_415 rfl (by decide) rfl ?_
  refine x_iinc5 (x5 + (nI 1)) 420 dL_law_417 rfl (by decide) rfl rfl ?_
  exact x_goto 73 dL_law_420 (by decide) kt
set_option maxRecDepth 20000 in
theorem BL_law_423 {ω : Om} {h : AH} {Q : Option Value → AH → Prop} {u0 : Option Value} {u1 : Option Value} {x2 : Nat} {u3 : Option Value} {x4 : Int32} {u5 : Option Value} {u6 : Option Value} {u7 : Option Value} {u8 : Option Value} {u9 : Option Value} {u10 : Option Value} {u11 : Option Value} {u12 : Option Value} (hw : ω.2.2.2.1 = true) (kt : x4 = 0 → Ex ω ML_law 485 [none, none, some (.ref x2), none, some (.int x4), none, none, none, none, none, none, none, none] [] h 325 4064 Q) (kf : ¬ x4 = 0 → Ex ω ML_law 428 [none, none, some (.ref x2), none, some (.int x4), none, none, none, none, none, none, none, none] [] h 325 4064 Q) : Ex ω ML_law 423 [u0, u1, some (.ref x2), u3, some (.int x4), u5, u6, u7, u8, u9, u10, u11, u12] [] h 325 4064 Q := by
  refine x_dr0 ?_
  refine x_dr1 ?_
  refine x_dr3 ?_
  refine x_dr5 ?_
  refine x_dr6 ?_
  refine x_dr7 ?_
  refine x_dr8 ?_
  refine x_dr9 ?_
  refine x_dr10 ?_
  refine x_dr11 ?_
  refine x_dr12 ?_
  refine x_iload4 425 dL_law_423 rfl ?_
  exact x_if_eq 428 485 dL_law_425 rfl (by decide) kt kf
set_option maxRecDepth 20000 in
theorem BL_law_428 {ω : Om} {h : AH} {Q : Option Value → AH → Prop} {u0 : Option Value} {u1 : Option Value} {x2 : Nat} {u3 : Option Value} {u4 : Option Value} {u5 : Option Value} {u6 : Option Value} {u7 : Option Value} {u8 : Option Value} {u9 : Option Value} {u10 : Option Value} {u11 : Option Value} {u12 : Option Value} (hw : ω.2.2.2.1 = true) (s_x2 : gs h x2 = some (8, 8)) (kk : Ex ω M8_weaken 0 [some (.ref x2), some (.int (nI 6)), some (.int (nI 1)), some (.int (nI 1))] [] h 0 0 (fun v h' => Ex ω ML_law 436 [none, none, some (.ref x2), none, none, none, none, none, none, none, none, none, none] (v.toList ++ []) h' 325 4064 Q)) : Ex ω ML_law 428 [u0, u1, some (.ref x2), u3, u4, u5, u6, u7, u8, u9, u10, u11, u12] [] h 325 4064 Q := by
  refine x_dr0 ?_
  refine x_dr1 ?_
  refine x_dr3 ?_
  refine x_dr4 ?_
  refine x_dr5 ?_
  refine x_dr6 ?_
  refine x_dr7 ?_
  refine x_dr8 ?_
  refine x_dr9 ?_
  refine x_dr10 ?_
  refine x_dr11 ?_
  refine x_dr12 ?_
  refine x_aload2 429 dL_law_428 rfl ?_
  refine x_bipush (nI 6) 431 dL_law_429 rfl rfl ?_
  refine x_iconst (nI 1) 432 dL_law_431 rfl rfl ?_
  refine x_iconst (nI 1) 433 dL_law_432 rfl rfl ?_
  exact x_callV 436 x2 [.int (nI 6), .int (nI 1), .int (nI 1)] [] dL_law_433 rfl lk_8_weaken ⟨wd293, wd294, wd295⟩ ⟨by decide, by decide⟩ (recvO cf8 (fun _ => s_x2)) rfl rfl (Nat.le_of_ble_eq_true rfl) (Nat.le_of_ble_eq_true rfl) (by decide) (by decide) kk
set_option maxRecDepth 20000 in
theorem BL_law_436 {ω : Om} {h : AH} {Q : Option Value → AH → Prop} {u0 : Option Value} {u1 : Option Value} {x2 : Nat} {u3 : Option Value} {u4 : Option Value} {u5 : Option Value} {u6 : Option Value} {u7 : Option Value} {u8 : Option Value} {u9 : Option Value} {u10 : Option Value} {u11 : Option Value} {u12 : Option Value} {y0 : Int32} (hw : ω.2.2.2.1 = true) (kt : ¬ y0 = ((-1)) → Ex ω ML_law 485 [none, none, some (.ref x2), none, none, none, none, none, none, none, none, none, none] [] h 325 4064 Q) (kf : y0 = ((-1)) → Ex ω ML_law 440 [none, none, some (.ref x2), none, none, none, none, none, none, none, none, none, none] [] h 325 4064 Q) : Ex ω ML_law 436 [u0, u1, some (.ref x2), u3, u4, u5, u6, u7, u8, u9, u10, u11, u12] [.int y0] h 325 4064 Q := by
  refine x_dr0 ?_
  refine x_dr1 ?_
  refine x_dr3 ?_
  refine x_dr4 ?_
  refine x_dr5 ?_
  refine x_dr6 ?_
  refine x_dr7 ?_
  refine x_dr8 ?_
  refine x_dr9 ?_
  refine x_dr10 ?_
  refine x_dr11 ?_
  refine x_dr12 ?_
  refine x_iconst ((-1)) 437 dL_law_436 rfl rfl ?_
  exact x_icmp_ne 440 485 dL_law_437 rfl (by decide) kt kf
set_option maxRecDepth 20000 in
theorem BL_law_440 {ω : Om} {h : AH} {Q : Option Value → AH → Prop} {u0 : Option Value} {u1 : Option Value} {x2 : Nat} {u3 : Option Value} {u4 : Option Value} {u5 : Option Value} {u6 : Option Value} {u7 : Option Value} {u8 : Option Value} {u9 : Option Value} {u10 : Option Value} {u11 : Option Value} {u12 : Option Value} (hw : ω.2.2.2.1 = true) (s_x2 : gs h x2 = some (8, 8)) (kk : Ex ω M8_set 0 [some (.ref x2), some (.int (nI 2)), some (.int (nI 0)), none] [] h 0 0 (fun v h' => Ex ω ML_law 446 [none, none, some (.ref x2), none, none, none, none, none, none, none, none, none, none] (v.toList ++ []) h' 325 4064 Q)) : Ex ω ML_law 440 [u0, u1, some (.ref x2), u3, u4, u5, u6, u7, u8, u9, u10, u11, u12] [] h 325 4064 Q := by
  refine x_dr0 ?_
  refine x_dr1 ?_
  refine x_dr3 ?_
  refine x_dr4 ?_
  refine x_dr5 ?_
  refine x_dr6 ?_
  refine x_dr7 ?_
  refine x_dr8 ?_
  refine x_dr9 ?_
  refine x_dr10 ?_
  refine x_dr11 ?_
  refine x_dr12 ?_
  refine x_aload2 441 dL_law_440 rfl ?_
  refine x_iconst (nI 2) 442 dL_law_441 rfl rfl ?_
  refine x_iconst (nI 0) 443 dL_law_442 rfl rfl ?_
  exact x_callV 446 x2 [.int (nI 2), .int (nI 0)] [] dL_law_443 rfl lk_8_set ⟨wd370, wd371, wd372⟩ ⟨by decide, by decide⟩ (recvO cf8 (fun _ => s_x2)) rfl rfl (Nat.le_of_ble_eq_true rfl) (Nat.le_of_ble_eq_true rfl) (by decide) (by decide) kk
set_option maxRecDepth 20000 in
theorem BL_law_446 {ω : Om} {h : AH} {Q : Option Value → AH → Prop} {u0 : Option Value} {u1 : Option Value} {x2 : Nat} {u3 : Option Value} {u4 : Option Value} {u5 : Option Value} {u6 : Option Value} {u7 : Option Value} {u8 : Option Value} {u9 : Option Value} {u10 : Option Value} {u11 : Option Value} {u12 : Option Value} {y0 : Int32} (hw : ω.2.2.2.1 = true) (kt : ¬ y0 = ((-1)) → Ex ω ML_law 485 [none, none, some (.ref x2), none, none, none, none, none, none, none, none, none, none] [] h 325 4064 Q) (kf : y0 = ((-1)) → Ex ω ML_law 450 [none, none, some (.ref x2), none, none, none, none, none, none, none, none, none, none] [] h 325 4064 Q) : Ex ω ML_law 446 [u0, u1, some (.ref x2), u3, u4, u5, u6, u7, u8, u9, u10, u11, u12] [.int y0] h 325 4064 Q := by
  refine x_dr0 ?_
  refine x_dr1 ?_
  refine x_dr3 ?_
  refine x_dr4 ?_
  refine x_dr5 ?_
  refine x_dr6 ?_
  refine x_dr7 ?_
  refine x_dr8 ?_
  refine x_dr9 ?_
  refine x_dr10 ?_
  refine x_dr11 ?_
  refine x_dr12 ?_
  refine x_iconst ((-1)) 447 dL_law_446 rfl rfl ?_
  exact x_icmp_ne 450 485 dL_law_447 rfl (by decide) kt kf
set_option maxRecDepth 20000 in
theorem BL_law_450 {ω : Om} {h : AH} {Q : Option Value → AH → Prop} {u0 : Option Value} {u1 : Option Value} {x2 : Nat} {u3 : Option Value} {u4 : Option Value} {u5 : Option Value} {u6 : Option Value} {u7 : Option Value} {u8 : Option Value} {u9 : Option Value} {u10 : Option Value} {u11 : Option Value} {u12 : Option Value} (hw : ω.2.2.2.1 = true) (s_x2 : gs h x2 = some (8, 8)) (kk : Ex ω M8_set 0 [some (.ref x2), some (.int (nI 1)), some (.int (nI 21)), none] [] h 0 0 (fun v h' => Ex ω ML_law 457 [none, none, some (.ref x2), none, none, none, none, none, none, none, none, none, none] (v.toList ++ []) h' 325 4064 Q)) : Ex ω ML_law 450 [u0, u1, some (.ref x2), u3, u4, u5, u6, u7, u8, u9, u10, u11, u12] [] h 325 4064 Q := by
  refine x_dr0 ?_
  refine x_dr1 ?_
  refine x_dr3 ?_
  refine x_dr4 ?_
  refine x_dr5 ?_
  refine x_dr6 ?_
  refine x_dr7 ?_
  refine x_dr8 ?_
  refine x_dr9 ?_
  refine x_dr10 ?_
  refine x_dr11 ?_
  refine x_dr12 ?_
  refine x_aload2 451 dL_law_450 rfl ?_
  refine x_iconst (nI 1) 452 dL_law_451 rfl rfl ?_
  refine x_bipush (nI 21) 454 dL_law_452 rfl rfl ?_
  exact x_callV 457 x2 [.int (nI 1), .int (nI 21)] [] dL_law_454 rfl lk_8_set ⟨wd370, wd371, wd372⟩ ⟨by decide, by decide⟩ (recvO cf8 (fun _ => s_x2)) rfl rfl (Nat.le_of_ble_eq_true rfl) (Nat.le_of_ble_eq_true rfl) (by decide) (by decide) kk
set_option maxRecDepth 20000 in
theorem BL_law_457 {ω : Om} {h : AH} {Q : Option Value → AH → Prop} {u0 : Option Value} {u1 : Option Value} {x2 : Nat} {u3 : Option Value} {u4 : Option Value} {u5 : Option Value} {u6 : Option Value} {u7 : Option Value} {u8 : Option Value} {u9 : Option Value} {u10 : Option Value} {u11 : Option Value} {u12 : Option Value} {y0 : Int32} (hw : ω.2.2.2.1 = true) (kt : ¬ y0 = ((-1)) → Ex ω ML_law 485 [none, none, some (.ref x2), none, none, none, none, none, none, none, none, none, none] [] h 325 4064 Q) (kf : y0 = ((-1)) → Ex ω ML_law 461 [none, none, some (.ref x2), none, none, none, none, none, none, none, none, none, none] [] h 325 4064 Q) : Ex ω ML_law 457 [u0, u1, some (.ref x2), u3, u4, u5, u6, u7, u8, u9, u10, u11, u12] [.int y0] h 325 4064 Q := by
  refine x_dr0 ?_
  refine x_dr1 ?_
  refine x_dr3 ?_
  refine x_dr4 ?_
  refine x_dr5 ?_
  refine x_dr6 ?_
  refine x_dr7 ?_
  refine x_dr8 ?_
  refine x_dr9 ?_
  refine x_dr10 ?_
  refine x_dr11 ?_
  refine x_dr12 ?_
  refine x_iconst ((-1)) 458 dL_law_457 rfl rfl ?_
  exact x_icmp_ne 461 485 dL_law_458 rfl (by decide) kt kf
set_option maxRecDepth 20000 in
theorem BL_law_461 {ω : Om} {h : AH} {Q : Option Value → AH → Prop} {u0 : Option Value} {u1 : Option Value} {x2 : Nat} {u3 : Option Value} {u4 : Option Value} {u5 : Option Value} {u6 : Option Value} {u7 : Option Value} {u8 : Option Value} {u9 : Option Value} {u10 : Option Value} {u11 : Option Value} {u12 : Option Value} (hw : ω.2.2.2.1 = true) (s_x2 : gs h x2 = some (8, 8)) (kk : Ex ω M8_count 0 [some (.ref x2), some (.int (nI 9))] [] h 0 0 (fun v h' => Ex ω ML_law 467 [none, none, some (.ref x2), none, none, none, none, none, none, none, none, none, none] (v.toList ++ []) h' 325 4064 Q)) : Ex ω ML_law 461 [u0, u1, some (.ref x2), u3, u4, u5, u6, u7, u8, u9, u10, u11, u12] [] h 325 4064 Q := by
  refine x_dr0 ?_
  refine x_dr1 ?_
  refine x_dr3 ?_
  refine x_dr4 ?_
  refine x_dr5 ?_
  refine x_dr6 ?_
  refine x_dr7 ?_
  refine x_dr8 ?_
  refine x_dr9 ?_
  refine x_dr10 ?_
  refine x_dr11 ?_
  refine x_dr12 ?_
  refine x_aload2 462 dL_law_461 rfl ?_
  refine x_bipush (nI 9) 464 dL_law_462 rfl rfl ?_
  exact x_callV 467 x2 [.int (nI 9)] [] dL_law_464 rfl lk_8_count ⟨wd282, wd283, wd284⟩ ⟨by decide, by decide⟩ (recvO cf8 (fun _ => s_x2)) rfl rfl (Nat.le_of_ble_eq_true rfl) (Nat.le_of_ble_eq_true rfl) (by decide) (by decide) kk
set_option maxRecDepth 20000 in
theorem BL_law_467 {ω : Om} {h : AH} {Q : Option Value → AH → Prop} {u0 : Option Value} {u1 : Option Value} {x2 : Nat} {u3 : Option Value} {u4 : Option Value} {u5 : Option Value} {u6 : Option Value} {u7 : Option Value} {u8 : Option Value} {u9 : Option Value} {u10 : Option Value} {u11 : Option Value} {u12 : Option Value} {y0 : Int32} (hw : ω.2.2.2.1 = true) (kt : ¬ y0 = ((-1)) → Ex ω ML_law 485 [none, none, some (.ref x2), none, none, none, none, none, none, none, none, none, none] [] h 325 4064 Q) (kf : y0 = ((-1)) → Ex ω ML_law 471 [none, none, some (.ref x2), none, none, none, none, none, none, none, none, none, none] [] h 325 4064 Q) : Ex ω ML_law 467 [u0, u1, some (.ref x2), u3, u4, u5, u6, u7, u8, u9, u10, u11, u12] [.int y0] h 325 4064 Q := by
  refine x_dr0 ?_
  refine x_dr1 ?_
  refine x_dr3 ?_
  refine x_dr4 ?_
  refine x_dr5 ?_
  refine x_dr6 ?_
  refine x_dr7 ?_
  refine x_dr8 ?_
  refine x_dr9 ?_
  refine x_dr10 ?_
  refine x_dr11 ?_
  refine x_dr12 ?_
  refine x_iconst ((-1)) 468 dL_law_467 rfl rfl ?_
  exact x_icmp_ne 471 485 dL_law_468 rfl (by decide) kt kf
set_option maxRecDepth 20000 in
theorem BL_law_471 {ω : Om} {h : AH} {Q : Option Value → AH → Prop} {u0 : Option Value} {u1 : Option Value} {x2 : Nat} {u3 : Option Value} {u4 : Option Value} {u5 : Option Value} {u6 : Option Value} {u7 : Option Value} {u8 : Option Value} {u9 : Option Value} {u10 : Option Value} {u11 : Option Value} {u12 : Option Value} (hw : ω.2.2.2.1 = true) (s_x2 : gs h x2 = some (8, 8)) (kk : Ex ω M8_type 0 [some (.ref x2), some (.int (nI 31))] [] h 0 0 (fun v h' => Ex ω ML_law 477 [none, none, some (.ref x2), none, none, none, none, none, none, none, none, none, none] (v.toList ++ []) h' 325 4064 Q)) : Ex ω ML_law 471 [u0, u1, some (.ref x2), u3, u4, u5, u6, u7, u8, u9, u10, u11, u12] [] h 325 4064 Q := by
  refine x_dr0 ?_
  refine x_dr1 ?_
  refine x_dr3 ?_
  refine x_dr4 ?_
  refine x_dr5 ?_
  refine x_dr6 ?_
  refine x_dr7 ?_
  refine x_dr8 ?_
  refine x_dr9 ?_
  refine x_dr10 ?_
  refine x_dr11 ?_
  refine x_dr12 ?_
  refine x_aload2 472 dL_law_471 rfl ?_
  refine x_bipush (nI 31) 474 dL_law_472 rfl rfl ?_
  exact x_callV 477 x2 [.int (nI 31)] [] dL_law_474 rfl lk_8_type ⟨wd317, wd318, wd319⟩ ⟨by decide, by decide⟩ (recvO cf8 (fun _ => s_x2)) rfl rfl (Nat.le_of_ble_eq_true rfl) (Nat.le_of_ble_eq_true rfl) (by decide) (by decide) kk
set_option maxRecDepth 20000 in
theorem BL_law_477 {ω : Om} {h : AH} {Q : Option Value → AH → Prop} {u0 : Option Value} {u1 : Option Value} {u2 : Option Value} {u3 : Option Value} {u4 : Option Value} {u5 : Option Value} {u6 : Option Value} {u7 : Option Value} {u8 : Option Value} {u9 : Option Value} {u10 : Option Value} {u11 : Option Value} {u12 : Option Value} {y0 : Int32} (hw : ω.2.2.2.1 = true) (kt : ¬ y0 = ((-1)) → Ex ω ML_law 485 [none, none, none, none, none, none, none, none, none, none, none, none, none] [] h 325 4064 Q) (kf : y0 = ((-1)) → Ex ω ML_law 481 [none, none, none, none, none, none, none, none, none, none, none, none, none] [] h 325 4064 Q) : Ex ω ML_law 477 [u0, u1, u2, u3, u4, u5, u6, u7, u8, u9, u10, u11, u12] [.int y0] h 325 4064 Q := by
  refine x_dr0 ?_
  refine x_dr1 ?_
  refine x_dr2 ?_
  refine x_dr3 ?_
  refine x_dr4 ?_
  refine x_dr5 ?_
  refine x_dr6 ?_
  refine x_dr7 ?_
  refine x_dr8 ?_
  refine x_dr9 ?_
  refine x_dr10 ?_
  refine x_dr11 ?_
  refine x_dr12 ?_
  refine x_iconst ((-1)) 478 dL_law_477 rfl rfl ?_
  exact x_icmp_ne 481 485 dL_law_478 rfl (by decide) kt kf
set_option maxRecDepth 20000 in
theorem BL_law_481 {ω : Om} {h : AH} {Q : Option Value → AH → Prop} {u0 : Option Value} {u1 : Option Value} {u2 : Option Value} {u3 : Option Value} {u4 : Option Value} {u5 : Option Value} {u6 : Option Value} {u7 : Option Value} {u8 : Option Value} {u9 : Option Value} {u10 : Option Value} {u11 : Option Value} {u12 : Option Value} (hw : ω.2.2.2.1 = true) (kt : Ex ω ML_law 486 [none, none, none, none, none, none, none, none, none, none, none, none, none] [.int (nI 1)] h 325 4064 Q) : Ex ω ML_law 481 [u0, u1, u2, u3, u4, u5, u6, u7, u8, u9, u10, u11, u12] [] h 325 4064 Q := by
  refine x_dr0 ?_
  refine x_dr1 ?_
  refine x_dr2 ?_
  refine x_dr3 ?_
  refine x_dr4 ?_
  refine x_dr5 ?_
  refine x_dr6 ?_
  refine x_dr7 ?_
  refine x_dr8 ?_
  refine x_dr9 ?_
  refine x_dr10 ?_
  refine x_dr11 ?_
  refine x_dr12 ?_
  refine x_iconst (nI 1) 482 dL_law_481 rfl rfl ?_
  exact x_goto 486 dL_law_482 (by decide) kt
set_option maxRecDepth 20000 in
theorem BL_law_485 {ω : Om} {h : AH} {Q : Option Value → AH → Prop} {u0 : Option Value} {u1 : Option Value} {u2 : Option Value} {u3 : Option Value} {u4 : Option Value} {u5 : Option Value} {u6 : Option Value} {u7 : Option Value} {u8 : Option Value} {u9 : Option Value} {u10 : Option Value} {u11 : Option Value} {u12 : Option Value} (hw : ω.2.2.2.1 = true) (kf : Ex ω ML_law 486 [none, none, none, none, none, none, none, none, none, none, none, none, none] [.int (nI 0)] h 325 4064 Q) : Ex ω ML_law 485 [u0, u1, u2, u3, u4, u5, u6, u7, u8, u9, u10, u11, u12] [] h 325 4064 Q := by
  refine x_dr0 ?_
  refine x_dr1 ?_
  refine x_dr2 ?_
  refine x_dr3 ?_
  refine x_dr4 ?_
  refine x_dr5 ?_
  refine x_dr6 ?_
  refine x_dr7 ?_
  refine x_dr8 ?_
  refine x_dr9 ?_
  refine x_dr10 ?_
  refine x_dr11 ?_
  refine x_dr12 ?_
  refine x_iconst (nI 0) 486 dL_law_485 rfl rfl ?_
  exact kf
set_option maxRecDepth 20000 in
theorem BL_law_486 {ω : Om} {h : AH} {Q : Option Value → AH → Prop} {u0 : Option Value} {u1 : Option Value} {u2 : Option Value} {u3 : Option Value} {u4 : Option Value} {u5 : Option Value} {u6 : Option Value} {u7 : Option Value} {u8 : Option Value} {u9 : Option Value} {u10 : Option Value} {u11 : Option Value} {u12 : Option Value} {y0 : Int32} (hw : ω.2.2.2.1 = true) (hz : narrow .boolean (.int y0) = .int y0) (hq : Q (some (.int y0)) h) : Ex ω ML_law 486 [u0, u1, u2, u3, u4, u5, u6, u7, u8, u9, u10, u11, u12] [.int y0] h 325 4064 Q := by
  refine x_dr0 ?_
  refine x_dr1 ?_
  refine x_dr2 ?_
  refine x_dr3 ?_
  refine x_dr4 ?_
  refine x_dr5 ?_
  refine x_dr6 ?_
  refine x_dr7 ?_
  refine x_dr8 ?_
  refine x_dr9 ?_
  refine x_dr10 ?_
  refine x_dr11 ?_
  refine x_dr12 ?_
  exact x_zret dL_law_486 rfl hz (Nat.le_of_ble_eq_true rfl) (Nat.le_of_ble_eq_true rfl) hq
