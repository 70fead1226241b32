/-! block laws (written by a program: wip/p29/gen_all.py) -/
set_option maxRecDepth 20000 in
theorem B5_copyFrom_0 {ω : Om} {h : AH} {Q : Option Value → AH → Prop} {x0 : Nat} {x1 : Nat} {u2 : Option Value} (hw : ω.2.2.2.1 = true) (s_x1 : gs h x1 = some (5, 11)) (s_x0 : gs h x0 = some (5, 11)) (kf : Ex ω M5_copyFrom 10 [some (.ref x0), some (.ref x1), some (.int (nI 0))] [] (si h x0 1 (gi h x1 1)) 0 0 Q) : Ex ω M5_copyFrom 0 [some (.ref x0), some (.ref x1), u2] [] h 0 0 Q := by
  refine x_dr2 ?_
  refine x_aload0 1 dX5_copyFrom_0 rfl ?_
  refine x_aload1 2 dX5_copyFrom_1 rfl ?_
  refine x_getI cf5 1 5 dX5_copyFrom_2 rfl wd100 (fun _ => s_x1) (by decide) rfl ?_
  refine x_putI cf5 1 8 dX5_copyFrom_5 rfl wd100 (fun _ => s_x0) (by decide) rfl rfl ?_
  refine x_iconst (nI 0) 9 dX5_copyFrom_8 rfl rfl ?_
  refine x_istore2 10 dX5_copyFrom_9 rfl (by decide) rfl ?_
  exact kf
set_option maxRecDepth 20000 in
theorem B5_copyFrom_10 {ω : Om} {h : AH} {Q : Option Value → AH → Prop} {x0 : Nat} {x1 : Nat} {x2 : Int32} (hw : ω.2.2.2.1 = true) (s_x0 : gs h x0 = some (5, 11)) (kt : (gi h x0 1) ≤ x2 → Ex ω M5_copyFrom 39 [some (.ref x0), some (.ref x1), some (.int x2)] [] h 0 0 Q) (kf : ¬ (gi h x0 1) ≤ x2 → Ex ω M5_copyFrom 18 [some (.ref x0), some (.ref x1), some (.int x2)] [] h 0 0 Q) : Ex ω M5_copyFrom 10 [some (.ref x0), some (.ref x1), some (.int x2)] [] h 0 0 Q := by
  refine x_iload2 11 dX5_copyFrom_10 rfl ?_
  refine x_aload0 12 dX5_copyFrom_11 rfl ?_
  refine x_getI cf5 1 15 dX5_copyFrom_12 rfl wd100 (fun _ => s_x0) (by decide) rfl ?_
  exact x_icmp_ge 18 39 dX5_copyFrom_15 rfl (by decide) kt kf
set_option maxRecDepth 20000 in
theorem B5_copyFrom_18 {ω : Om} {h : AH} {Q : Option Value → AH → Prop} {x0 : Nat} {x1 : Nat} {x2 : Int32} (hw : ω.2.2.2.1 = true) (s_x0 : gs h x0 = some (5, 11)) (s_x1 : gs h x1 = some (5, 11)) (i1 : vp_in x2 6) (i2 : vp_in x2 6) (kk : Ex ω M4_copyFrom 0 [some (.ref (gr h (gr h x0 0) (Int32.toNatClampNeg x2))), some (.ref (gr h (gr h x1 0) (Int32.toNatClampNeg x2))), none] [] h 0 0 (fun v h' => Ex ω M5_copyFrom 33 [some (.ref x0), some (.ref x1), some (.int x2)] (v.toList ++ []) h' 0 0 Q)) : Ex ω M5_copyFrom 18 [some (.ref x0), some (.ref x1), some (.int x2)] [] h 0 0 Q := by
  refine x_aload0 19 dX5_copyFrom_18 rfl ?_
  refine x_getR cf5 0 22 hw dX5_copyFrom_19 rfl wd35 (fun _ => s_x0) (by decide) (by decide) rfl ?_
  refine x_iload2 23 dX5_copyFrom_22 rfl ?_
  refine x_aald arK12 (Int32.toNatClampNeg x2) 24 hw dX5_copyFrom_23 rfl (SH.fld hw (fun _ => s_x0) 0 (Nat.le_of_ble_eq_true rfl) rfl rfl) i1 rfl ?_
  refine x_aload1 25 dX5_copyFrom_24 rfl ?_
  refine x_getR cf5 0 28 hw dX5_copyFrom_25 rfl wd35 (fun _ => s_x1) (by decide) (by decide) rfl ?_
  refine x_iload2 29 dX5_copyFrom_28 rfl ?_
  refine x_aald arK12 (Int32.toNatClampNeg x2) 30 hw dX5_copyFrom_29 rfl (SH.fld hw (fun _ => s_x1) 0 (Nat.le_of_ble_eq_true rfl) rfl rfl) i2 rfl ?_
  exact x_callV 33 (gr h (gr h x0 0) (Int32.toNatClampNeg x2)) [.ref (gr h (gr h x1 0) (Int32.toNatClampNeg x2))] [] dX5_copyFrom_30 rfl lk_4_copyFrom ⟨wd104, wd105, wd106⟩ ⟨by decide, by decide⟩ (recvO cf4 (SH.elt hw (SH.fld hw (fun _ => s_x0) 0 (Nat.le_of_ble_eq_true rfl) rfl rfl) i1 (fun _ => rfl) (fun _ => rfl))) rfl rfl (Nat.le_of_ble_eq_true rfl) (Nat.le_of_ble_eq_true rfl) (by decide) (by decide) kk
set_option maxRecDepth 20000 in
theorem B5_copyFrom_33 {ω : Om} {h : AH} {Q : Option Value → AH → Prop} {x0 : Nat} {x1 : Nat} {x2 : Int32} (hw : ω.2.2.2.1 = true) (kt : Ex ω M5_copyFrom 10 [some (.ref x0), some (.ref x1), some (.int (x2 + (nI 1)))] [] h 0 0 Q) : Ex ω M5_copyFrom 33 [some (.ref x0), some (.ref x1), some (.int x2)] [] h 0 0 Q := by
  refine x_iinc2 (x2 + (nI 1)) 36 dX5_copyFrom_33 rfl (by decide) rfl rfl ?_
  exact x_goto 10 dX5_copyFrom_36 (by decide) kt
set_option maxRecDepth 20000 in
theorem B5_copyFrom_39 {ω : Om} {h : AH} {Q : Option Value → AH → Prop} {x0 : Nat} {x1 : Nat} {u2 : Option Value} (hw : ω.2.2.2.1 = true) (s_x1 : gs h x1 = some (5, 11)) (s_x0 : gs h x0 = some (5, 11)) (kf : Ex ω M5_copyFrom 49 [some (.ref x0), some (.ref x1), some (.int (nI 0))] [] (si h x0 3 (gi h x1 3)) 0 0 Q) : Ex ω M5_copyFrom 39 [some (.ref x0), some (.ref x1), u2] [] h 0 0 Q := by
  refine x_dr2 ?_
  refine x_aload0 40 dX5_copyFrom_39 rfl ?_
  refine x_aload1 41 dX5_copyFrom_40 rfl ?_
  refine x_getI cf5 3 44 dX5_copyFrom_41 rfl wd101 (fun _ => s_x1) (by decide) rfl ?_
  refine x_putI cf5 3 47 dX5_copyFrom_44 rfl wd101 (fun _ => s_x0) (by decide) rfl rfl ?_
  refine x_iconst (nI 0) 48 dX5_copyFrom_47 rfl rfl ?_
  refine x_istore2 49 dX5_copyFrom_48 rfl (by decide) rfl ?_
  exact kf
set_option maxRecDepth 20000 in
theorem B5_copyFrom_49 {ω : Om} {h : AH} {Q : Option Value → AH → Prop} {x0 : Nat} {x1 : Nat} {x2 : Int32} (hw : ω.2.2.2.1 = true) (s_x0 : gs h x0 = some (5, 11)) (kt : (gi h x0 3) ≤ x2 → Ex ω M5_copyFrom 78 [some (.ref x0), some (.ref x1), some (.int x2)] [] h 0 0 Q) (kf : ¬ (gi h x0 3) ≤ x2 → Ex ω M5_copyFrom 57 [some (.ref x0), some (.ref x1), some (.int x2)] [] h 0 0 Q) : Ex ω M5_copyFrom 49 [some (.ref x0), some (.ref x1), some (.int x2)] [] h 0 0 Q := by
  refine x_iload2 50 dX5_copyFrom_49 rfl ?_
  refine x_aload0 51 dX5_copyFrom_50 rfl ?_
  refine x_getI cf5 3 54 dX5_copyFrom_51 rfl wd101 (fun _ => s_x0) (by decide) rfl ?_
  exact x_icmp_ge 57 78 dX5_copyFrom_54 rfl (by decide) kt kf
set_option maxRecDepth 20000 in
theorem B5_copyFrom_57 {ω : Om} {h : AH} {Q : Option Value → AH → Prop} {x0 : Nat} {x1 : Nat} {x2 : Int32} (hw : ω.2.2.2.1 = true) (s_x0 : gs h x0 = some (5, 11)) (s_x1 : gs h x1 = some (5, 11)) (i1 : vp_in x2 8) (i2 : vp_in x2 8) (kk : Ex ω M1_copyFrom 0 [some (.ref (gr h (gr h x0 2) (Int32.toNatClampNeg x2))), some (.ref (gr h (gr h x1 2) (Int32.toNatClampNeg x2)))] [] h 0 0 (fun v h' => Ex ω M5_copyFrom 72 [some (.ref x0), some (.ref x1), some (.int x2)] (v.toList ++ []) h' 0 0 Q)) : Ex ω M5_copyFrom 57 [some (.ref x0), some (.ref x1), some (.int x2)] [] h 0 0 Q := by
  refine x_aload0 58 dX5_copyFrom_57 rfl ?_
  refine x_getR cf5 2 61 hw dX5_copyFrom_58 rfl wd39 (fun _ => s_x0) (by decide) (by decide) rfl ?_
  refine x_iload2 62 dX5_copyFrom_61 rfl ?_
  refine x_aald arK13 (Int32.toNatClampNeg x2) 63 hw dX5_copyFrom_62 rfl (SH.fld hw (fun _ => s_x0) 2 (Nat.le_of_ble_eq_true rfl) rfl rfl) i1 rfl ?_
  refine x_aload1 64 dX5_copyFrom_63 rfl ?_
  refine x_getR cf5 2 67 hw dX5_copyFrom_64 rfl wd39 (fun _ => s_x1) (by decide) (by decide) rfl ?_
  refine x_iload2 68 dX5_copyFrom_67 rfl ?_
  refine x_aald arK13 (Int32.toNatClampNeg x2) 69 hw dX5_copyFrom_68 rfl (SH.fld hw (fun _ => s_x1) 2 (Nat.le_of_ble_eq_true rfl) rfl rfl) i2 rfl ?_
  exact x_callV 72 (gr h (gr h x0 2) (Int32.toNatClampNeg x2)) [.ref (gr h (gr h x1 2) (Int32.toNatClampNeg x2))] [] dX5_copyFrom_69 rfl lk_1_copyFrom ⟨wd112, wd113, wd114⟩ ⟨by decide, by decide⟩ (recvO cf1 (SH.elt hw (SH.fld hw (fun _ => s_x0) 2 (Nat.le_of_ble_eq_true rfl) rfl rfl) i1 (fun _ => rfl) (fun _ => rfl))) rfl rfl (Nat.le_of_ble_eq_true rfl) (Nat.le_of_ble_eq_true rfl) (by decide) (by decide) kk
set_option maxRecDepth 20000 in
theorem B5_copyFrom_72 {ω : Om} {h : AH} {Q : Option Value → AH → Prop} {x0 : Nat} {x1 : Nat} {x2 : Int32} (hw : ω.2.2.2.1 = true) (kt : Ex ω M5_copyFrom 49 [some (.ref x0), some (.ref x1), some (.int (x2 + (nI 1)))] [] h 0 0 Q) : Ex ω M5_copyFrom 72 [some (.ref x0), some (.ref x1), some (.int x2)] [] h 0 0 Q := by
  refine x_iinc2 (x2 + (nI 1)) 75 dX5_copyFrom_72 rfl (by decide) rfl rfl ?_
  exact x_goto 49 dX5_copyFrom_75 (by decide) kt
set_option maxRecDepth 20000 in
theorem B5_copyFrom_78 {ω : Om} {h : AH} {Q : Option Value → AH → Prop} {x0 : Nat} {x1 : Nat} {u2 : Option Value} (hw : ω.2.2.2.1 = true) (s_x1 : gs h x1 = some (5, 11)) (s_x0 : gs h x0 = some (5, 11)) (kf : Ex ω M5_copyFrom 96 [some (.ref x0), some (.ref x1), some (.int (nI 0))] [] (si (si h x0 4 (gi h x1 4)) x0 6 (gi (si h x0 4 (gi h x1 4)) x1 6)) 0 0 Q) : Ex ω M5_copyFrom 78 [some (.ref x0), some (.ref x1), u2] [] h 0 0 Q := by
  refine x_dr2 ?_
  refine x_aload0 79 dX5_copyFrom_78 rfl ?_
  refine x_aload1 80 dX5_copyFrom_79 rfl ?_
  refine x_getI cf5 4 83 dX5_copyFrom_80 rfl wd102 (fun _ => s_x1) (by decide) rfl ?_
  refine x_putI cf5 4 86 dX5_copyFrom_83 rfl wd102 (fun _ => s_x0) (by decide) rfl rfl ?_
  refine x_aload0 87 dX5_copyFrom_86 rfl ?_
  refine x_aload1 88 dX5_copyFrom_87 rfl ?_
  refine x_getI cf5 6 91 dX5_copyFrom_88 rfl wd103 (fun _ => s_x1) (by decide) rfl ?_
  refine x_putI cf5 6 94 dX5_copyFrom_91 rfl wd103 (fun _ => s_x0) (by decide) rfl rfl ?_
  refine x_iconst (nI 0) 95 dX5_copyFrom_94 rfl rfl ?_
  refine x_istore2 96 dX5_copyFrom_95 rfl (by decide) rfl ?_
  exact kf
set_option maxRecDepth 20000 in
theorem B5_copyFrom_96 {ω : Om} {h : AH} {Q : Option Value → AH → Prop} {x0 : Nat} {x1 : Nat} {x2 : Int32} (hw : ω.2.2.2.1 = true) (s_x0 : gs h x0 = some (5, 11)) (kt : (gi h x0 6) ≤ x2 → Ex ω M5_copyFrom 125 [some (.ref x0), some (.ref x1), some (.int x2)] [] h 0 0 Q) (kf : ¬ (gi h x0 6) ≤ x2 → Ex ω M5_copyFrom 104 [some (.ref x0), some (.ref x1), some (.int x2)] [] h 0 0 Q) : Ex ω M5_copyFrom 96 [some (.ref x0), some (.ref x1), some (.int x2)] [] h 0 0 Q := by
  refine x_iload2 97 dX5_copyFrom_96 rfl ?_
  refine x_aload0 98 dX5_copyFrom_97 rfl ?_
  refine x_getI cf5 6 101 dX5_copyFrom_98 rfl wd103 (fun _ => s_x0) (by decide) rfl ?_
  exact x_icmp_ge 104 125 dX5_copyFrom_101 rfl (by decide) kt kf
set_option maxRecDepth 20000 in
theorem B5_copyFrom_104 {ω : Om} {h : AH} {Q : Option Value → AH → Prop} {x0 : Nat} {x1 : Nat} {x2 : Int32} (hw : ω.2.2.2.1 = true) (s_x0 : gs h x0 = some (5, 11)) (s_x1 : gs h x1 = some (5, 11)) (i1 : vp_in x2 6) (i2 : vp_in x2 6) (kk : Ex ω M3_copyFrom 0 [some (.ref (gr h (gr h x0 5) (Int32.toNatClampNeg x2))), some (.ref (gr h (gr h x1 5) (Int32.toNatClampNeg x2))), none] [] h 0 0 (fun v h' => Ex ω M5_copyFrom 119 [some (.ref x0), some (.ref x1), some (.int x2)] (v.toList ++ []) h' 0 0 Q)) : Ex ω M5_copyFrom 104 [some (.ref x0), some (.ref x1), some (.int x2)] [] h 0 0 Q := by
  refine x_aload0 105 dX5_copyFrom_104 rfl ?_
  refine x_getR cf5 5 108 hw dX5_copyFrom_105 rfl wd43 (fun _ => s_x0) (by decide) (by decide) rfl ?_
  refine x_iload2 109 dX5_copyFrom_108 rfl ?_
  refine x_aald arK14 (Int32.toNatClampNeg x2) 110 hw dX5_copyFrom_109 rfl (SH.fld hw (fun _ => s_x0) 5 (Nat.le_of_ble_eq_true rfl) rfl rfl) i1 rfl ?_
  refine x_aload1 111 dX5_copyFrom_110 rfl ?_
  refine x_getR cf5 5 114 hw dX5_copyFrom_111 rfl wd43 (fun _ => s_x1) (by decide) (by decide) rfl ?_
  refine x_iload2 115 dX5_copyFrom_114 rfl ?_
  refine x_aald arK14 (Int32.toNatClampNeg x2) 116 hw dX5_copyFrom_115 rfl (SH.fld hw (fun _ => s_x1) 5 (Nat.le_of_ble_eq_true rfl) rfl rfl) i2 rfl ?_
  exact x_callV 119 (gr h (gr h x0 5) (Int32.toNatClampNeg x2)) [.ref (gr h (gr h x1 5) (Int32.toNatClampNeg x2))] [] dX5_copyFrom_116 rfl lk_3_copyFrom ⟨wd126, wd127, wd128⟩ ⟨by decide, by decide⟩ (recvO cf3 (SH.elt hw (SH.fld hw (fun _ => s_x0) 5 (Nat.le_of_ble_eq_true rfl) rfl rfl) i1 (fun _ => rfl) (fun _ => rfl))) rfl rfl (Nat.le_of_ble_eq_true rfl) (Nat.le_of_ble_eq_true rfl) (by decide) (by decide) kk
set_option maxRecDepth 20000 in
theorem B5_copyFrom_119 {ω : Om} {h : AH} {Q : Option Value → AH → Prop} {x0 : Nat} {x1 : Nat} {x2 : Int32} (hw : ω.2.2.2.1 = true) (kt : Ex ω M5_copyFrom 96 [some (.ref x0), some (.ref x1), some (.int (x2 + (nI 1)))] [] h 0 0 Q) : Ex ω M5_copyFrom 119 [some (.ref x0), some (.ref x1), some (.int x2)] [] h 0 0 Q := by
  refine x_iinc2 (x2 + (nI 1)) 122 dX5_copyFrom_119 rfl (by decide) rfl rfl ?_
  exact x_goto 96 dX5_copyFrom_122 (by decide) kt
set_option maxRecDepth 20000 in
theorem B5_copyFrom_125 {ω : Om} {h : AH} {Q : Option Value → AH → Prop} {x0 : Nat} {x1 : Nat} {u2 : Option Value} (hw : ω.2.2.2.1 = true) (s_x0 : gs h x0 = some (5, 11)) (s_x1 : gs h x1 = some (5, 11)) (kk : Ex ω M2_copyFrom 0 [some (.ref (gr h x0 7)), some (.ref (gr h x1 7)), none] [] h 0 0 (fun v h' => Ex ω M5_copyFrom 136 [some (.ref x0), some (.ref x1), none] (v.toList ++ []) h' 0 0 Q)) : Ex ω M5_copyFrom 125 [some (.ref x0), some (.ref x1), u2] [] h 0 0 Q := by
  refine x_dr2 ?_
  refine x_aload0 126 dX5_copyFrom_125 rfl ?_
  refine x_getR cf5 7 129 hw dX5_copyFrom_126 rfl wd47 (fun _ => s_x0) (by decide) (by decide) rfl ?_
  refine x_aload1 130 dX5_copyFrom_129 rfl ?_
  refine x_getR cf5 7 133 hw dX5_copyFrom_130 rfl wd47 (fun _ => s_x1) (by decide) (by decide) rfl ?_
  exact x_callV 136 (gr h x0 7) [.ref (gr h x1 7)] [] dX5_copyFrom_133 rfl lk_2_copyFrom ⟨wd143, wd144, wd145⟩ ⟨by decide, by decide⟩ (recvO cf2 (SH.fld hw (fun _ => s_x0) 7 (Nat.le_of_ble_eq_true rfl) rfl rfl)) rfl rfl (Nat.le_of_ble_eq_true rfl) (Nat.le_of_ble_eq_true rfl) (by decide) (by decide) kk
set_option maxRecDepth 20000 in
theorem B5_copyFrom_136 {ω : Om} {h : AH} {Q : Option Value → AH → Prop} {x0 : Nat} {x1 : Nat} {u2 : Option Value} (hw : ω.2.2.2.1 = true) (s_x0 : gs h x0 = some (5, 11)) (s_x1 : gs h x1 = some (5, 11)) (kk : Ex ω M6_copyFrom 0 [some (.ref (gr h x0 8)), some (.ref (gr h x1 8))] [] h 0 0 (fun v h' => Ex ω M5_copyFrom 147 [some (.ref x0), some (.ref x1), none] (v.toList ++ []) h' 0 0 Q)) : Ex ω M5_copyFrom 136 [some (.ref x0), some (.ref x1), u2] [] h 0 0 Q := by
  refine x_dr2 ?_
  refine x_aload0 137 dX5_copyFrom_136 rfl ?_
  refine x_getR cf5 8 140 hw dX5_copyFrom_137 rfl wd51 (fun _ => s_x0) (by decide) (by decide) rfl ?_
  refine x_aload1 141 dX5_copyFrom_140 rfl ?_
  refine x_getR cf5 8 144 hw dX5_copyFrom_141 rfl wd51 (fun _ => s_x1) (by decide) (by decide) rfl ?_
  exact x_callV 147 (gr h x0 8) [.ref (gr h x1 8)] [] dX5_copyFrom_144 rfl lk_6_copyFrom ⟨wd148, wd149, wd150⟩ ⟨by decide, by decide⟩ (recvO cf6 (SH.fld hw (fun _ => s_x0) 8 (Nat.le_of_ble_eq_true rfl) rfl rfl)) rfl rfl (Nat.le_of_ble_eq_true rfl) (Nat.le_of_ble_eq_true rfl) (by decide) (by decide) kk
set_option maxRecDepth 20000 in
theorem B5_copyFrom_147 {ω : Om} {h : AH} {Q : Option Value → AH → Prop} {x0 : Nat} {x1 : Nat} {u2 : Option Value} (hw : ω.2.2.2.1 = true) (s_x1 : gs h x1 = some (5, 11)) (s_x0 : gs h x0 = some (5, 11)) (hq : Q none (si (si h x0 9 (gi h x1 9)) x0 10 (gi (si h x0 9 (gi h x1 9)) x1 10))) : Ex ω M5_copyFrom 147 [some (.ref x0), some (.ref x1), u2] [] h 0 0 Q := by
  refine x_dr2 ?_
  refine x_aload0 148 dX5_copyFrom_147 rfl ?_
  refine x_aload1 149 dX5_copyFrom_148 rfl ?_
  refine x_getI cf5 9 152 dX5_copyFrom_149 rfl wd52 (fun _ => s_x1) (by decide) rfl ?_
  refine x_putI cf5 9 155 dX5_copyFrom_152 rfl wd52 (fun _ => s_x0) (by decide) rfl rfl ?_
  refine x_aload0 156 dX5_copyFrom_155 rfl ?_
  refine x_aload1 157 dX5_copyFrom_156 rfl ?_
  refine x_getI cf5 10 160 dX5_copyFrom_157 rfl wd53 (fun _ => s_x1) (by decide) rfl ?_
  refine x_putI cf5 10 163 dX5_copyFrom_160 rfl wd53 (fun _ => s_x0) (by decide) rfl rfl ?_
  exact x_vret dX5_copyFrom_163 rfl (Nat.zero_le _) (Nat.zero_le _) hq
set_option maxRecDepth 20000 in
theorem B5_appendRoll_0 {ω : Om} {h : AH} {Q : Option Value → AH → Prop} {x0 : Nat} {x1 : Int32} {x2 : Int32} (hw : ω.2.2.2.1 = true) (s_x0 : gs h x0 = some (5, 11)) (kt : (nI 6) ≤ (gi h x0 1) → Ex ω M5_appendRoll 33 [some (.ref x0), some (.int x1), some (.int x2)] [] h 0 0 Q) (kf : ¬ (nI 6) ≤ (gi h x0 1) → Ex ω M5_appendRoll 9 [some (.ref x0), some (.int x1), some (.int x2)] [] h 0 0 Q) : Ex ω M5_appendRoll 0 [some (.ref x0), some (.int x1), some (.int x2)] [] h 0 0 Q := by
  refine x_aload0 1 dX5_appendRoll_0 rfl ?_
  refine x_getI cf5 1 4 dX5_appendRoll_1 rfl wd100 (fun _ => s_x0) (by decide) rfl ?_
  refine x_bipush (nI 6) 6 dX5_appendRoll_4 rfl rfl ?_
  exact x_icmp_ge 9 33 dX5_appendRoll_6 rfl (by decide) kt kf
set_option maxRecDepth 20000 in
theorem B5_appendRoll_9 {ω : Om} {h : AH} {Q : Option Value → AH → Prop} {x0 : Nat} {x1 : Int32} {x2 : Int32} (hw : ω.2.2.2.1 = true) (s_x0 : gs h x0 = some (5, 11)) (i1 : vp_in (gi h x0 1) 6) (kk : Ex ω M4_begin 0 [some (.ref (gr h (gr h x0 0) (Int32.toNatClampNeg (gi h x0 1)))), some (.int x1), some (.int x2)] [] h 0 0 (fun v h' => Ex ω M5_appendRoll 23 [some (.ref x0), some (.int x1), some (.int x2)] (v.toList ++ []) h' 0 0 Q)) : Ex ω M5_appendRoll 9 [some (.ref x0), some (.int x1), some (.int x2)] [] h 0 0 Q := by
  refine x_aload0 10 dX5_appendRoll_9 rfl ?_
  refine x_getR cf5 0 13 hw dX5_appendRoll_10 rfl wd35 (fun _ => s_x0) (by decide) (by decide) rfl ?_
  refine x_aload0 14 dX5_appendRoll_13 rfl ?_
  refine x_getI cf5 1 17 dX5_appendRoll_14 rfl wd100 (fun _ => s_x0) (by decide) rfl ?_
  refine x_aald arK12 (Int32.toNatClampNeg (gi h x0 1)) 18 hw dX5_appendRoll_17 rfl (SH.fld hw (fun _ => s_x0) 0 (Nat.le_of_ble_eq_true rfl) rfl rfl) i1 rfl ?_
  refine x_iload1 19 dX5_appendRoll_18 rfl ?_
  refine x_iload2 20 dX5_appendRoll_19 rfl ?_
  exact x_callV 23 (gr h (gr h x0 0) (Int32.toNatClampNeg (gi h x0 1))) [.int x1, .int x2] [] dX5_appendRoll_20 rfl lk_4_begin ⟨wd272, wd273, wd274⟩ ⟨by decide, by decide⟩ (recvO cf4 (SH.elt hw (SH.fld hw (fun _ => s_x0) 0 (Nat.le_of_ble_eq_true rfl) rfl rfl) i1 (fun _ => rfl) (fun _ => rfl))) rfl rfl (Nat.le_of_ble_eq_true rfl) (Nat.le_of_ble_eq_true rfl) (by decide) (by decide) kk
set_option maxRecDepth 20000 in
theorem B5_appendRoll_23 {ω : Om} {h : AH} {Q : Option Value → AH → Prop} {x0 : Nat} {u1 : Option Value} {u2 : Option Value} (hw : ω.2.2.2.1 = true) (s_x0 : gs h x0 = some (5, 11)) (kf : Ex ω M5_appendRoll 33 [some (.ref x0), none, none] [] (si h x0 1 ((gi h x0 1) + (nI 1))) 0 0 Q) : Ex ω M5_appendRoll 23 [some (.ref x0), u1, u2] [] h 0 0 Q := by
  refine x_dr1 ?_
  refine x_dr2 ?_
  refine x_aload0 24 dX5_appendRoll_23 rfl ?_
  refine x_dup 25 dX5_appendRoll_24 rfl rfl ?_
  refine x_getI cf5 1 28 dX5_appendRoll_25 rfl wd100 (fun _ => s_x0) (by decide) rfl ?_
  refine x_iconst (nI 1) 29 dX5_appendRoll_28 rfl rfl ?_
  refine x_iadd 30 dX5_appendRoll_29 rfl ?_
  refine x_putI cf5 1 33 dX5_appendRoll_30 rfl wd100 (fun _ => s_x0) (by decide) rfl rfl ?_
  exact kf
set_option maxRecDepth 20000 in
theorem B5_appendRoll_33 {ω : Om} {h : AH} {Q : Option Value → AH → Prop} {u0 : Option Value} {u1 : Option Value} {u2 : Option Value} (hw : ω.2.2.2.1 = true) (hq : Q none h) : Ex ω M5_appendRoll 33 [u0, u1, u2] [] h 0 0 Q := by
  refine x_dr0 ?_
  refine x_dr1 ?_
  refine x_dr2 ?_
  exact x_vret dX5_appendRoll_33 rfl (Nat.zero_le _) (Nat.zero_le _) hq
set_option maxRecDepth 20000 in
theorem B5_removePresentRoll_0 {ω : Om} {h : AH} {Q : Option Value → AH → Prop} {x0 : Nat} {u1 : Option Value} {u2 : Option Value} (hw : ω.2.2.2.1 = true) (s_x0 : gs h x0 = some (5, 11)) (kf : Ex ω M5_removePresentRoll 9 [some (.ref x0), some (.ref (gr h (gr h x0 0) 0)), some (.int (nI 1))] [] h 0 0 Q) : Ex ω M5_removePresentRoll 0 [some (.ref x0), u1, u2] [] h 0 0 Q := by
  refine x_dr1 ?_
  refine x_dr2 ?_
  refine x_aload0 1 dX5_removePresentRoll_0 rfl ?_
  refine x_getR cf5 0 4 hw dX5_removePresentRoll_1 rfl wd35 (fun _ => s_x0) (by decide) (by decide) rfl ?_
  refine x_iconst (nI 0) 5 dX5_removePresentRoll_4 rfl rfl ?_
  refine x_aald arK12 0 6 hw dX5_removePresentRoll_5 rfl (SH.fld hw (fun _ => s_x0) 0 (Nat.le_of_ble_eq_true rfl) rfl rfl) (vp_c (by decide)) rfl ?_
  refine x_astore1 7 dX5_removePresentRoll_6 rfl (by decide) rfl ?_
  refine x_iconst (nI 1) 8 dX5_removePresentRoll_7 rfl rfl ?_
  refine x_istore2 9 dX5_removePresentRoll_8 rfl (by decide) rfl ?_
  exact kf
set_option maxRecDepth 20000 in
theorem B5_removePresentRoll_9 {ω : Om} {h : AH} {Q : Option Value → AH → Prop} {x0 : Nat} {x1 : Nat} {x2 : Int32} (hw : ω.2.2.2.1 = true) (s_x0 : gs h x0 = some (5, 11)) (kt : (gi h x0 1) ≤ x2 → Ex ω M5_removePresentRoll 37 [some (.ref x0), some (.ref x1), some (.int x2)] [] h 0 0 Q) (kf : ¬ (gi h x0 1) ≤ x2 → Ex ω M5_removePresentRoll 17 [some (.ref x0), some (.ref x1), some (.int x2)] [] h 0 0 Q) : Ex ω M5_removePresentRoll 9 [some (.ref x0), some (.ref x1), some (.int x2)] [] h 0 0 Q := by
  refine x_iload2 10 dX5_removePresentRoll_9 rfl ?_
  refine x_aload0 11 dX5_removePresentRoll_10 rfl ?_
  refine x_getI cf5 1 14 dX5_removePresentRoll_11 rfl wd100 (fun _ => s_x0) (by decide) rfl ?_
  exact x_icmp_ge 17 37 dX5_removePresentRoll_14 rfl (by decide) kt kf
set_option maxRecDepth 20000 in
theorem B5_removePresentRoll_17 {ω : Om} {h : AH} {Q : Option Value → AH → Prop} {x0 : Nat} {x1 : Nat} {x2 : Int32} (hw : ω.2.2.2.1 = true) (s_x0 : gs h x0 = some (5, 11)) (i1 : vp_in x2 6) (i2 : vp_in (x2 - (nI 1)) 6) (kt : Ex ω M5_removePresentRoll 9 [some (.ref x0), some (.ref x1), some (.int (x2 + (nI 1)))] [] (sr h (gr h x0 0) (Int32.toNatClampNeg (x2 - (nI 1))) (gr h (gr h x0 0) (Int32.toNatClampNeg x2))) 0 0 Q) : Ex ω M5_removePresentRoll 17 [some (.ref x0), some (.ref x1), some (.int x2)] [] h 0 0 Q := by
  refine x_aload0 18 dX5_removePresentRoll_17 rfl ?_
  refine x_getR cf5 0 21 hw dX5_removePresentRoll_18 rfl wd35 (fun _ => s_x0) (by decide) (by decide) rfl ?_
  refine x_iload2 22 dX5_removePresentRoll_21 rfl ?_
  refine x_iconst (nI 1) 23 dX5_removePresentRoll_22 rfl rfl ?_
  refine x_isub 24 dX5_removePresentRoll_23 rfl ?_
  refine x_aload0 25 dX5_removePresentRoll_24 rfl ?_
  refine x_getR cf5 0 28 hw dX5_removePresentRoll_25 rfl wd35 (fun _ => s_x0) (by decide) (by decide) rfl ?_
  refine x_iload2 29 dX5_removePresentRoll_28 rfl ?_
  refine x_aald arK12 (Int32.toNatClampNeg x2) 30 hw dX5_removePresentRoll_29 rfl (SH.fld hw (fun _ => s_x0) 0 (Nat.le_of_ble_eq_true rfl) rfl rfl) i1 rfl ?_
  refine x_aast arK12 (Int32.toNatClampNeg (x2 - (nI 1))) 31 dX5_removePresentRoll_30 rfl (SH.fld hw (fun _ => s_x0) 0 (Nat.le_of_ble_eq_true rfl) rfl rfl) i2 rfl (SH.elt hw (SH.fld hw (fun _ => s_x0) 0 (Nat.le_of_ble_eq_true rfl) rfl rfl) i1 (fun _ => rfl) (fun _ => rfl)) (fun _ => rfl) ?_
  refine x_iinc2 (x2 + (nI 1)) 34 dX5_removePresentRoll_31 rfl (by decide) rfl rfl ?_
  exact x_goto 9 dX5_removePresentRoll_34 (by decide) kt
set_option maxRecDepth 20000 in
theorem B5_removePresentRoll_37 {ω : Om} {h : AH} {Q : Option Value → AH → Prop} {x0 : Nat} {x1 : Nat} {u2 : Option Value} (hw : ω.2.2.2.1 = true) (s_x0 : gs h x0 = some (5, 11)) (s_x1 : gs h x1 = some (4, 6)) (i1 : vp_in (gi (si h x0 1 ((gi h x0 1) - (nI 1))) x0 1) 6) (hq : Q none (sr (si h x0 1 ((gi h x0 1) - (nI 1))) (gr h x0 0) (Int32.toNatClampNeg (gi (si h x0 1 ((gi h x0 1) - (nI 1))) x0 1)) x1)) : Ex ω M5_removePresentRoll 37 [some (.ref x0), some (.ref x1), u2] [] h 0 0 Q := by
  refine x_dr2 ?_
  refine x_aload0 38 dX5_removePresentRoll_37 rfl ?_
  refine x_dup 39 dX5_removePresentRoll_38 rfl rfl ?_
  refine x_getI cf5 1 42 dX5_removePresentRoll_39 rfl wd100 (fun _ => s_x0) (by decide) rfl ?_
  refine x_iconst (nI 1) 43 dX5_removePresentRoll_42 rfl rfl ?_
  refine x_isub 44 dX5_removePresentRoll_43 rfl ?_
  refine x_putI cf5 1 47 dX5_removePresentRoll_44 rfl wd100 (fun _ => s_x0) (by decide) rfl rfl ?_
  refine x_aload0 48 dX5_removePresentRoll_47 rfl ?_
  refine x_getR cf5 0 51 hw dX5_removePresentRoll_48 rfl wd35 (fun _ => s_x0) (by decide) (by decide) rfl ?_
  refine x_aload0 52 dX5_removePresentRoll_51 rfl ?_
  refine x_getI cf5 1 55 dX5_removePresentRoll_52 rfl wd100 (fun _ => s_x0) (by decide) rfl ?_
  refine x_aload1 56 dX5_removePresentRoll_55 rfl ?_
  refine x_aast arK12 (Int32.toNatClampNeg (gi (si h x0 1 ((gi h x0 1) - (nI 1))) x0 1)) 57 dX5_removePresentRoll_56 rfl (SH.fld hw (fun _ => s_x0) 0 (Nat.le_of_ble_eq_true rfl) rfl rfl) i1 rfl (fun _ => s_x1) (fun _ => rfl) ?_
  exact x_vret dX5_removePresentRoll_57 rfl (Nat.zero_le _) (Nat.zero_le _) hq
set_option maxRecDepth 20000 in
theorem B5_insertPallet_0 {ω : Om} {h : AH} {Q : Option Value → AH → Prop} {x0 : Nat} {x1 : Int32} {u2 : Option Value} {u3 : Option Value} (hw : ω.2.2.2.1 = true) (s_x0 : gs h x0 = some (5, 11)) (i1 : vp_in (if (nI 7) < (gi h x0 3) then (nI 7) else (gi h x0 3)) 8) (kf : Ex ω M5_insertPallet 17 [some (.ref x0), some (.int x1), some (.int (if (nI 7) < (gi h x0 3) then (nI 7) else (gi h x0 3))), some (.ref (gr h (gr h x0 2) (Int32.toNatClampNeg (if (nI 7) < (gi h x0 3) then (nI 7) else (gi h x0 3)))))] [] h 0 0 Q) : Ex ω M5_insertPallet 0 [some (.ref x0), some (.int x1), u2, u3] [] h 0 0 Q := by
  refine x_dr2 ?_
  refine x_dr3 ?_
  refine x_aload0 1 dX5_insertPallet_0 rfl ?_
  refine x_getI cf5 3 4 dX5_insertPallet_1 rfl wd101 (fun _ => s_x0) (by decide) rfl ?_
  refine x_bipush (nI 7) 6 dX5_insertPallet_4 rfl rfl ?_
  refine x_mmin 9 dX5_insertPallet_6 rfl mw_RX5_85 (by decide) (Nat.le_of_ble_eq_true rfl) (Nat.zero_le _) (Nat.zero_le _) ?_
  refine x_istore2 10 dX5_insertPallet_9 rfl (by decide) rfl ?_
  refine x_aload0 11 dX5_insertPallet_10 rfl ?_
  refine x_getR cf5 2 14 hw dX5_insertPallet_11 rfl wd39 (fun _ => s_x0) (by decide) (by decide) rfl ?_
  refine x_iload2 15 dX5_insertPallet_14 rfl ?_
  refine x_aald arK13 (Int32.toNatClampNeg (if (nI 7) < (gi h x0 3) then (nI 7) else (gi h x0 3))) 16 hw dX5_insertPallet_15 rfl (SH.fld hw (fun _ => s_x0) 2 (Nat.le_of_ble_eq_true rfl) rfl rfl) i1 rfl ?_
  refine x_astore3 17 dX5_insertPallet_16 rfl (by decide) rfl ?_
  exact kf
set_option maxRecDepth 20000 in
theorem B5_insertPallet_17 {ω : Om} {h : AH} {Q : Option Value → AH → Prop} {x0 : Nat} {x1 : Int32} {x2 : Int32} {x3 : Nat} (hw : ω.2.2.2.1 = true) (kt : x2 ≤ 0 → Ex ω M5_insertPallet 56 [some (.ref x0), some (.int x1), some (.int x2), some (.ref x3)] [] h 0 0 Q) (kf : ¬ x2 ≤ 0 → Ex ω M5_insertPallet 21 [some (.ref x0), some (.int x1), some (.int x2), some (.ref x3)] [] h 0 0 Q) : Ex ω M5_insertPallet 17 [some (.ref x0), some (.int x1), some (.int x2), some (.ref x3)] [] h 0 0 Q := by
  refine x_iload2 18 dX5_insertPallet_17 rfl ?_
  exact x_if_le 21 56 dX5_insertPallet_18 rfl (by decide) kt kf
set_option maxRecDepth 20000 in
theorem B5_insertPallet_21 {ω : Om} {h : AH} {Q : Option Value → AH → Prop} {x0 : Nat} {x1 : Int32} {x2 : Int32} {x3 : Nat} (hw : ω.2.2.2.1 = true) (s_x0 : gs h x0 = some (5, 11)) (i1 : vp_in (x2 - (nI 1)) 8) (kt : (gi h (gr h (gr h x0 2) (Int32.toNatClampNeg (x2 - (nI 1)))) 5) ≤ x1 → Ex ω M5_insertPallet 56 [some (.ref x0), some (.int x1), some (.int x2), some (.ref x3)] [] h 0 0 Q) (kf : ¬ (gi h (gr h (gr h x0 2) (Int32.toNatClampNeg (x2 - (nI 1)))) 5) ≤ x1 → Ex ω M5_insertPallet 36 [some (.ref x0), some (.int x1), some (.int x2), some (.ref x3)] [] h 0 0 Q) : Ex ω M5_insertPallet 21 [some (.ref x0), some (.int x1), some (.int x2), some (.ref x3)] [] h 0 0 Q := by
  refine x_aload0 22 dX5_insertPallet_21 rfl ?_
  refine x_getR cf5 2 25 hw dX5_insertPallet_22 rfl wd39 (fun _ => s_x0) (by decide) (by decide) rfl ?_
  refine x_iload2 26 dX5_insertPallet_25 rfl ?_
  refine x_iconst (nI 1) 27 dX5_insertPallet_26 rfl rfl ?_
  refine x_isub 28 dX5_insertPallet_27 rfl ?_
  refine x_aald arK13 (Int32.toNatClampNeg (x2 - (nI 1))) 29 hw dX5_insertPallet_28 rfl (SH.fld hw (fun _ => s_x0) 2 (Nat.le_of_ble_eq_true rfl) rfl rfl) i1 rfl ?_
  refine x_getI cf1 5 32 dX5_insertPallet_29 rfl wd387 (SH.elt hw (SH.fld hw (fun _ => s_x0) 2 (Nat.le_of_ble_eq_true rfl) rfl rfl) i1 (fun _ => rfl) (fun _ => rfl)) (by decide) rfl ?_
  refine x_iload1 33 dX5_insertPallet_32 rfl ?_
  exact x_icmp_le 36 56 dX5_insertPallet_33 rfl (by decide) kt kf
set_option maxRecDepth 20000 in
theorem B5_insertPallet_36 {ω : Om} {h : AH} {Q : Option Value → AH → Prop} {x0 : Nat} {x1 : Int32} {x2 : Int32} {x3 : Nat} (hw : ω.2.2.2.1 = true) (s_x0 : gs h x0 = some (5, 11)) (i1 : vp_in (x2 - (nI 1)) 8) (i2 : vp_in x2 8) (kt : Ex ω M5_insertPallet 17 [some (.ref x0), some (.int x1), some (.int (x2 + ((-1)))), some (.ref x3)] [] (sr h (gr h x0 2) (Int32.toNatClampNeg x2) (gr h (gr h x0 2) (Int32.toNatClampNeg (x2 - (nI 1))))) 0 0 Q) : Ex ω M5_insertPallet 36 [some (.ref x0), some (.int x1), some (.int x2), some (.ref x3)] [] h 0 0 Q := by
  refine x_aload0 37 dX5_insertPallet_36 rfl ?_
  refine x_getR cf5 2 40 hw dX5_insertPallet_37 rfl wd39 (fun _ => s_x0) (by decide) (by decide) rfl ?_
  refine x_iload2 41 dX5_insertPallet_40 rfl ?_
  refine x_aload0 42 dX5_insertPallet_41 rfl ?_
  refine x_getR cf5 2 45 hw dX5_insertPallet_42 rfl wd39 (fun _ => s_x0) (by decide) (by decide) rfl ?_
  refine x_iload2 46 dX5_insertPallet_45 rfl ?_
  refine x_iconst (nI 1) 47 dX5_insertPallet_46 rfl rfl ?_
  refine x_isub 48 dX5_insertPallet_47 rfl ?_
  refine x_aald arK13 (Int32.toNatClampNeg (x2 - (nI 1))) 49 hw dX5_insertPallet_48 rfl (SH.fld hw (fun _ => s_x0) 2 (Nat.le_of_ble_eq_true rfl) rfl rfl) i1 rfl ?_
  refine x_aast arK13 (Int32.toNatClampNeg x2) 50 dX5_insertPallet_49 rfl (SH.fld hw (fun _ => s_x0) 2 (Nat.le_of_ble_eq_true rfl) rfl rfl) i2 rfl (SH.elt hw (SH.fld hw (fun _ => s_x0) 2 (Nat.le_of_ble_eq_true rfl) rfl rfl) i1 (fun _ => rfl) (fun _ => rfl)) (fun _ => rfl) ?_
  refine x_iinc2 (x2 + ((-1))) 53 dX5_insertPallet_50 rfl (by decide) rfl rfl ?_
  exact x_goto 17 dX5_insertPallet_53 (by decide) kt
set_option maxRecDepth 20000 in
theorem B5_insertPallet_56 {ω : Om} {h : AH} {Q : Option Value → AH → Prop} {x0 : Nat} {x1 : Int32} {x2 : Int32} {x3 : Nat} (hw : ω.2.2.2.1 = true) (s_x0 : gs h x0 = some (5, 11)) (s_x3 : gs h x3 = some (1, 6)) (i1 : vp_in x2 8) (kf : Ex ω M5_insertPallet 78 [some (.ref x0), some (.int x1), some (.int x2), some (.ref x3)] [] (si (sr h (gr h x0 2) (Int32.toNatClampNeg x2) x3) x0 3 (if (nI 8) < ((gi (sr h (gr h x0 2) (Int32.toNatClampNeg x2) x3) x0 3) + (nI 1)) then (nI 8) else ((gi (sr h (gr h x0 2) (Int32.toNatClampNeg x2) x3) x0 3) + (nI 1)))) 0 0 Q) : Ex ω M5_insertPallet 56 [some (.ref x0), some (.int x1), some (.int x2), some (.ref x3)] [] h 0 0 Q := by
  refine x_aload0 57 dX5_insertPallet_56 rfl ?_
  refine x_getR cf5 2 60 hw dX5_insertPallet_57 rfl wd39 (fun _ => s_x0) (by decide) (by decide) rfl ?_
  refine x_iload2 61 dX5_insertPallet_60 rfl ?_
  refine x_aload3 62 dX5_insertPallet_61 rfl ?_
  refine x_aast arK13 (Int32.toNatClampNeg x2) 63 dX5_insertPallet_62 rfl (SH.fld hw (fun _ => s_x0) 2 (Nat.le_of_ble_eq_true rfl) rfl rfl) i1 rfl (fun _ => s_x3) (fun _ => rfl) ?_
  refine x_aload0 64 dX5_insertPallet_63 rfl ?_
  refine x_aload0 65 dX5_insertPallet_64 rfl ?_
  refine x_getI cf5 3 68 dX5_insertPallet_65 rfl wd101 (fun _ => s_x0) (by decide) rfl ?_
  refine x_iconst (nI 1) 69 dX5_insertPallet_68 rfl rfl ?_
  refine x_iadd 70 dX5_insertPallet_69 rfl ?_
  refine x_bipush (nI 8) 72 dX5_insertPallet_70 rfl rfl ?_
  refine x_mmin 75 dX5_insertPallet_72 rfl mw_RX5_85 (by decide) (Nat.le_of_ble_eq_true rfl) (Nat.zero_le _) (Nat.zero_le _) ?_
  refine x_putI cf5 3 78 dX5_insertPallet_75 rfl wd101 (fun _ => s_x0) (by decide) rfl rfl ?_
  exact kf
set_option maxRecDepth 20000 in
theorem B5_insertPallet_78 {ω : Om} {h : AH} {Q : Option Value → AH → Prop} {x0 : Nat} {x1 : Int32} {u2 : Option Value} {x3 : Nat} (hw : ω.2.2.2.1 = true) (s_x0 : gs h x0 = some (5, 11)) (s_x3 : gs h x3 = some (1, 6)) (hq : Q (some (.ref x3)) (si (si (si h x3 0 (gi h x0 4)) x3 5 x1) x0 4 ((gi (si (si h x3 0 (gi h x0 4)) x3 5 x1) x0 4) + (nI 1)))) : Ex ω M5_insertPallet 78 [some (.ref x0), some (.int x1), u2, some (.ref x3)] [] h 0 0 Q := by
  refine x_dr2 ?_
  refine x_aload3 79 dX5_insertPallet_78 rfl ?_
  refine x_aload0 80 dX5_insertPallet_79 rfl ?_
  refine x_getI cf5 4 83 dX5_insertPallet_80 rfl wd102 (fun _ => s_x0) (by decide) rfl ?_
  refine x_putI cf1 0 86 dX5_insertPallet_83 rfl wd388 (fun _ => s_x3) (by decide) rfl rfl ?_
  refine x_aload3 87 dX5_insertPallet_86 rfl ?_
  refine x_iload1 88 dX5_insertPallet_87 rfl ?_
  refine x_putI cf1 5 91 dX5_insertPallet_88 rfl wd387 (fun _ => s_x3) (by decide) rfl rfl ?_
  refine x_aload0 92 dX5_insertPallet_91 rfl ?_
  refine x_dup 93 dX5_insertPallet_92 rfl rfl ?_
  refine x_getI cf5 4 96 dX5_insertPallet_93 rfl wd102 (fun _ => s_x0) (by decide) rfl ?_
  refine x_iconst (nI 1) 97 dX5_insertPallet_96 rfl rfl ?_
  refine x_iadd 98 dX5_insertPallet_97 rfl ?_
  refine x_putI cf5 4 101 dX5_insertPallet_98 rfl wd102 (fun _ => s_x0) (by decide) rfl rfl ?_
  refine x_aload3 102 dX5_insertPallet_101 rfl ?_
  exact x_aret dX5_insertPallet_102 rfl (Nat.zero_le _) (Nat.zero_le _) hq
set_option maxRecDepth 20000 in
theorem B5_removePallet_0 {ω : Om} {h : AH} {Q : Option Value → AH → Prop} {x0 : Nat} {x1 : Int32} {u2 : Option Value} {u3 : Option Value} (hw : ω.2.2.2.1 = true) (s_x0 : gs h x0 = some (5, 11)) (i1 : vp_in x1 8) (kf : Ex ω M5_removePallet 11 [some (.ref x0), some (.int x1), some (.ref (gr h (gr h x0 2) (Int32.toNatClampNeg x1))), some (.int (x1 + (nI 1)))] [] h 0 0 Q) : Ex ω M5_removePallet 0 [some (.ref x0), some (.int x1), u2, u3] [] h 0 0 Q := by
  refine x_dr2 ?_
  refine x_dr3 ?_
  refine x_aload0 1 dX5_removePallet_0 rfl ?_
  refine x_getR cf5 2 4 hw dX5_removePallet_1 rfl wd39 (fun _ => s_x0) (by decide) (by decide) rfl ?_
  refine x_iload1 5 dX5_removePallet_4 rfl ?_
  refine x_aald arK13 (Int32.toNatClampNeg x1) 6 hw dX5_removePallet_5 rfl (SH.fld hw (fun _ => s_x0) 2 (Nat.le_of_ble_eq_true rfl) rfl rfl) i1 rfl ?_
  refine x_astore2 7 dX5_removePallet_6 rfl (by decide) rfl ?_
  refine x_iload1 8 dX5_removePallet_7 rfl ?_
  refine x_iconst (nI 1) 9 dX5_removePallet_8 rfl rfl ?_
  refine x_iadd 10 dX5_removePallet_9 rfl ?_
  refine x_istore3 11 dX5_removePallet_10 rfl (by decide) rfl ?_
  exact kf
set_option maxRecDepth 20000 in
theorem B5_removePallet_11 {ω : Om} {h : AH} {Q : Option Value → AH → Prop} {x0 : Nat} {u1 : Option Value} {x2 : Nat} {x3 : Int32} (hw : ω.2.2.2.1 = true) (s_x0 : gs h x0 = some (5, 11)) (kt : (gi h x0 3) ≤ x3 → Ex ω M5_removePallet 39 [some (.ref x0), none, some (.ref x2), some (.int x3)] [] h 0 0 Q) (kf : ¬ (gi h x0 3) ≤ x3 → Ex ω M5_removePallet 19 [some (.ref x0), none, some (.ref x2), some (.int x3)] [] h 0 0 Q) : Ex ω M5_removePallet 11 [some (.ref x0), u1, some (.ref x2), some (.int x3)] [] h 0 0 Q := by
  refine x_dr1 ?_
  refine x_iload3 12 dX5_removePallet_11 rfl ?_
  refine x_aload0 13 dX5_removePallet_12 rfl ?_
  refine x_getI cf5 3 16 dX5_removePallet_13 rfl wd101 (fun _ => s_x0) (by decide) rfl ?_
  exact x_icmp_ge 19 39 dX5_removePallet_16 rfl (by decide) kt kf
set_option maxRecDepth 20000 in
theorem B5_removePallet_19 {ω : Om} {h : AH} {Q : Option Value → AH → Prop} {x0 : Nat} {u1 : Option Value} {x2 : Nat} {x3 : Int32} (hw : ω.2.2.2.1 = true) (s_x0 : gs h x0 = some (5, 11)) (i1 : vp_in x3 8) (i2 : vp_in (x3 - (nI 1)) 8) (kt : Ex ω M5_removePallet 11 [some (.ref x0), none, some (.ref x2), some (.int (x3 + (nI 1)))] [] (sr h (gr h x0 2) (Int32.toNatClampNeg (x3 - (nI 1))) (gr h (gr h x0 2) (Int32.toNatClampNeg x3))) 0 0 Q) : Ex ω M5_removePallet 19 [some (.ref x0), u1, some (.ref x2), some (.int x3)] [] h 0 0 Q := by
  refine x_dr1 ?_
  refine x_aload0 20 dX5_removePallet_19 rfl ?_
  refine x_getR cf5 2 23 hw dX5_removePallet_20 rfl wd39 (fun _ => s_x0) (by decide) (by decide) rfl ?_
  refine x_iload3 24 dX5_removePallet_23 rfl ?_
  refine x_iconst (nI 1) 25 dX5_removePallet_24 rfl rfl ?_
  refine x_isub 26 dX5_removePallet_25 rfl ?_
  refine x_aload0 27 dX5_removePallet_26 rfl ?_
  refine x_getR cf5 2 30 hw dX5_removePallet_27 rfl wd39 (fun _ => s_x0) (by decide) (by decide) rfl ?_
  refine x_iload3 31 dX5_removePallet_30 rfl ?_
  refine x_aald arK13 (Int32.toNatClampNeg x3) 32 hw dX5_removePallet_31 rfl (SH.fld hw (fun _ => s_x0) 2 (Nat.le_of_ble_eq_true rfl) rfl rfl) i1 rfl ?_
  refine x_aast arK13 (Int32.toNatClampNeg (x3 - (nI 1))) 33 dX5_removePallet_32 rfl (SH.fld hw (fun _ => s_x0) 2 (Nat.le_of_ble_eq_true rfl) rfl rfl) i2 rfl (SH.elt hw (SH.fld hw (fun _ => s_x0) 2 (Nat.le_of_ble_eq_true rfl) rfl rfl) i1 (fun _ => rfl) (fun _ => rfl)) (fun _ => rfl) ?_
  refine x_iinc3 (x3 + (nI 1)) 36 dX5_removePallet_33 rfl (by decide) rfl rfl ?_
  exact x_goto 11 dX5_removePallet_36 (by decide) kt
set_option maxRecDepth 20000 in
theorem B5_removePallet_39 {ω : Om} {h : AH} {Q : Option Value → AH → Prop} {x0 : Nat} {u1 : Option Value} {x2 : Nat} {u3 : Option Value} (hw : ω.2.2.2.1 = true) (s_x0 : gs h x0 = some (5, 11)) (s_x2 : gs h x2 = some (1, 6)) (i1 : vp_in (gi (si h x0 3 ((gi h x0 3) - (nI 1))) x0 3) 8) (hq : Q none (sr (si h x0 3 ((gi h x0 3) - (nI 1))) (gr h x0 2) (Int32.toNatClampNeg (gi (si h x0 3 ((gi h x0 3) - (nI 1))) x0 3)) x2)) : Ex ω M5_removePallet 39 [some (.ref x0), u1, some (.ref x2), u3] [] h 0 0 Q := by
  refine x_dr1 ?_
  refine x_dr3 ?_
  refine x_aload0 40 dX5_removePallet_39 rfl ?_
  refine x_dup 41 dX5_removePallet_40 rfl rfl ?_
  refine x_getI cf5 3 44 dX5_removePallet_41 rfl wd101 (fun _ => s_x0) (by decide) rfl ?_
  refine x_iconst (nI 1) 45 dX5_removePallet_44 rfl rfl ?_
  refine x_isub 46 dX5_removePallet_45 rfl ?_
  refine x_putI cf5 3 49 dX5_removePallet_46 rfl wd101 (fun _ => s_x0) (by decide) rfl rfl ?_
  refine x_aload0 50 dX5_removePallet_49 rfl ?_
  refine x_getR cf5 2 53 hw dX5_removePallet_50 rfl wd39 (fun _ => s_x0) (by decide) (by decide) rfl ?_
  refine x_aload0 54 dX5_removePallet_53 rfl ?_
  refine x_getI cf5 3 57 dX5_removePallet_54 rfl wd101 (fun _ => s_x0) (by decide) rfl ?_
  refine x_aload2 58 dX5_removePallet_57 rfl ?_
  refine x_aast arK13 (Int32.toNatClampNeg (gi (si h x0 3 ((gi h x0 3) - (nI 1))) x0 3)) 59 dX5_removePallet_58 rfl (SH.fld hw (fun _ => s_x0) 2 (Nat.le_of_ble_eq_true rfl) rfl rfl) i1 rfl (fun _ => s_x2) (fun _ => rfl) ?_
  exact x_vret dX5_removePallet_59 rfl (Nat.zero_le _) (Nat.zero_le _) hq
set_option maxRecDepth 20000 in
theorem B5_keepNewResult_0 {ω : Om} {h : AH} {Q : Option Value → AH → Prop} {x0 : Nat} {u1 : Option Value} {u2 : Option Value} (hw : ω.2.2.2.1 = true) (s_x0 : gs h x0 = some (5, 11)) (kf : Ex ω M5_keepNewResult 9 [some (.ref x0), some (.ref (gr h (gr h x0 5) 5)), some (.int (nI 5))] [] h 0 0 Q) : Ex ω M5_keepNewResult 0 [some (.ref x0), u1, u2] [] h 0 0 Q := by
  refine x_dr1 ?_
  refine x_dr2 ?_
  refine x_aload0 1 dX5_keepNewResult_0 rfl ?_
  refine x_getR cf5 5 4 hw dX5_keepNewResult_1 rfl wd43 (fun _ => s_x0) (by decide) (by decide) rfl ?_
  refine x_iconst (nI 5) 5 dX5_keepNewResult_4 rfl rfl ?_
  refine x_aald arK14 5 6 hw dX5_keepNewResult_5 rfl (SH.fld hw (fun _ => s_x0) 5 (Nat.le_of_ble_eq_true rfl) rfl rfl) (vp_c (by decide)) rfl ?_
  refine x_astore1 7 dX5_keepNewResult_6 rfl (by decide) rfl ?_
  refine x_iconst (nI 5) 8 dX5_keepNewResult_7 rfl rfl ?_
  refine x_istore2 9 dX5_keepNewResult_8 rfl (by decide) rfl ?_
  exact kf
set_option maxRecDepth 20000 in
theorem B5_keepNewResult_9 {ω : Om} {h : AH} {Q : Option Value → AH → Prop} {x0 : Nat} {x1 : Nat} {x2 : Int32} (hw : ω.2.2.2.1 = true) (kt : x2 ≤ 0 → Ex ω M5_keepNewResult 33 [some (.ref x0), some (.ref x1), some (.int x2)] [] h 0 0 Q) (kf : ¬ x2 ≤ 0 → Ex ω M5_keepNewResult 13 [some (.ref x0), some (.ref x1), some (.int x2)] [] h 0 0 Q) : Ex ω M5_keepNewResult 9 [some (.ref x0), some (.ref x1), some (.int x2)] [] h 0 0 Q := by
  refine x_iload2 10 dX5_keepNewResult_9 rfl ?_
  exact x_if_le 13 33 dX5_keepNewResult_10 rfl (by decide) kt kf
set_option maxRecDepth 20000 in
theorem B5_keepNewResult_13 {ω : Om} {h : AH} {Q : Option Value → AH → Prop} {x0 : Nat} {x1 : Nat} {x2 : Int32} (hw : ω.2.2.2.1 = true) (s_x0 : gs h x0 = some (5, 11)) (i1 : vp_in (x2 - (nI 1)) 6) (i2 : vp_in x2 6) (kt : Ex ω M5_keepNewResult 9 [some (.ref x0), some (.ref x1), some (.int (x2 + ((-1))))] [] (sr h (gr h x0 5) (Int32.toNatClampNeg x2) (gr h (gr h x0 5) (Int32.toNatClampNeg (x2 - (nI 1))))) 0 0 Q) : Ex ω M5_keepNewResult 13 [some (.ref x0), some (.ref x1), some (.int x2)] [] h 0 0 Q := by
  refine x_aload0 14 dX5_keepNewResult_13 rfl ?_
  refine x_getR cf5 5 17 hw dX5_keepNewResult_14 rfl wd43 (fun _ => s_x0) (by decide) (by decide) rfl ?_
  refine x_iload2 18 dX5_keepNewResult_17 rfl ?_
  refine x_aload0 19 dX5_keepNewResult_18 rfl ?_
  refine x_getR cf5 5 22 hw dX5_keepNewResult_19 rfl wd43 (fun _ => s_x0) (by decide) (by decide) rfl ?_
  refine x_iload2 23 dX5_keepNewResult_22 rfl ?_
  refine x_iconst (nI 1) 24 dX5_keepNewResult_23 rfl rfl ?_
  refine x_isub 25 dX5_keepNewResult_24 rfl ?_
  refine x_aald arK14 (Int32.toNatClampNeg (x2 - (nI 1))) 26 hw dX5_keepNewResult_25 rfl (SH.fld hw (fun _ => s_x0) 5 (Nat.le_of_ble_eq_true rfl) rfl rfl) i1 rfl ?_
  refine x_aast arK14 (Int32.toNatClampNeg x2) 27 dX5_keepNewResult_26 rfl (SH.fld hw (fun _ => s_x0) 5 (Nat.le_of_ble_eq_true rfl) rfl rfl) i2 rfl (SH.elt hw (SH.fld hw (fun _ => s_x0) 5 (Nat.le_of_ble_eq_true rfl) rfl rfl) i1 (fun _ => rfl) (fun _ => rfl)) (fun _ => rfl) ?_
  refine x_iinc2 (x2 + ((-1))) 30 dX5_keepNewResult_27 rfl (by decide) rfl rfl ?_
  exact x_goto 9 dX5_keepNewResult_30 (by decide) kt
set_option maxRecDepth 20000 in
theorem B5_keepNewResult_33 {ω : Om} {h : AH} {Q : Option Value → AH → Prop} {x0 : Nat} {x1 : Nat} {u2 : Option Value} (hw : ω.2.2.2.1 = true) (s_x0 : gs h x0 = some (5, 11)) (s_x1 : gs h x1 = some (3, 15)) (kf : Ex ω M5_keepNewResult 55 [some (.ref x0), some (.ref x1), none] [] (si (sr h (gr h x0 5) 0 x1) x0 6 (if (nI 6) < ((gi (sr h (gr h x0 5) 0 x1) x0 6) + (nI 1)) then (nI 6) else ((gi (sr h (gr h x0 5) 0 x1) x0 6) + (nI 1)))) 0 0 Q) : Ex ω M5_keepNewResult 33 [some (.ref x0), some (.ref x1), u2] [] h 0 0 Q := by
  refine x_dr2 ?_
  refine x_aload0 34 dX5_keepNewResult_33 rfl ?_
  refine x_getR cf5 5 37 hw dX5_keepNewResult_34 rfl wd43 (fun _ => s_x0) (by decide) (by decide) rfl ?_
  refine x_iconst (nI 0) 38 dX5_keepNewResult_37 rfl rfl ?_
  refine x_aload1 39 dX5_keepNewResult_38 rfl ?_
  refine x_aast arK14 0 40 dX5_keepNewResult_39 rfl (SH.fld hw (fun _ => s_x0) 5 (Nat.le_of_ble_eq_true rfl) rfl rfl) (vp_c (by decide)) rfl (fun _ => s_x1) (fun _ => rfl) ?_
  refine x_aload0 41 dX5_keepNewResult_40 rfl ?_
  refine x_aload0 42 dX5_keepNewResult_41 rfl ?_
  refine x_getI cf5 6 45 dX5_keepNewResult_42 rfl wd103 (fun _ => s_x0) (by decide) rfl ?_
  refine x_iconst (nI 1) 46 dX5_keepNewResult_45 rfl rfl ?_
  refine x_iadd 47 dX5_keepNewResult_46 rfl ?_
  refine x_bipush (nI 6) 49 dX5_keepNewResult_47 rfl rfl ?_
  refine x_mmin 52 dX5_keepNewResult_49 rfl mw_RX5_85 (by decide) (Nat.le_of_ble_eq_true rfl) (Nat.zero_le _) (Nat.zero_le _) ?_
  refine x_putI cf5 6 55 dX5_keepNewResult_52 rfl wd103 (fun _ => s_x0) (by decide) rfl rfl ?_
  exact kf
set_option maxRecDepth 20000 in
theorem B5_keepNewResult_55 {ω : Om} {h : AH} {Q : Option Value → AH → Prop} {u0 : Option Value} {x1 : Nat} {u2 : Option Value} (hw : ω.2.2.2.1 = true) (hq : Q (some (.ref x1)) h) : Ex ω M5_keepNewResult 55 [u0, some (.ref x1), u2] [] h 0 0 Q := by
  refine x_dr0 ?_
  refine x_dr2 ?_
  refine x_aload1 56 dX5_keepNewResult_55 rfl ?_
  exact x_aret dX5_keepNewResult_56 rfl (Nat.zero_le _) (Nat.zero_le _) hq
set_option maxRecDepth 20000 in
theorem B5_wrapNext_0 {ω : Om} {h : AH} {Q : Option Value → AH → Prop} {x0 : Nat} {x1 : Nat} {u2 : Option Value} {u3 : Option Value} {u4 : Option Value} (hw : ω.2.2.2.1 = true) (s_x0 : gs h x0 = some (5, 11)) (kk : Ex ω M5_keepNewResult 0 [some (.ref x0), none, none] [] h 0 0 (fun v h' => Ex ω M5_wrapNext 11 [some (.ref x0), some (.ref x1), some (.ref (gr h (gr h x0 2) 0)), none, none] (v.toList ++ []) h' 0 0 Q)) : Ex ω M5_wrapNext 0 [some (.ref x0), some (.ref x1), u2, u3, u4] [] h 0 0 Q := by
  refine x_dr2 ?_
  refine x_dr3 ?_
  refine x_dr4 ?_
  refine x_aload0 1 dX5_wrapNext_0 rfl ?_
  refine x_getR cf5 2 4 hw dX5_wrapNext_1 rfl wd39 (fun _ => s_x0) (by decide) (by decide) rfl ?_
  refine x_iconst (nI 0) 5 dX5_wrapNext_4 rfl rfl ?_
  refine x_aald arK13 0 6 hw dX5_wrapNext_5 rfl (SH.fld hw (fun _ => s_x0) 2 (Nat.le_of_ble_eq_true rfl) rfl rfl) (vp_c (by decide)) rfl ?_
  refine x_astore2 7 dX5_wrapNext_6 rfl (by decide) rfl ?_
  refine x_aload0 8 dX5_wrapNext_7 rfl ?_
  exact x_callV 11 x0 [] [] dX5_wrapNext_8 rfl lk_5_keepNewResult ⟨wd437, wd438, wd439⟩ ⟨by decide, by decide⟩ (recvO cf5 (fun _ => s_x0)) rfl rfl (Nat.le_of_ble_eq_true rfl) (Nat.le_of_ble_eq_true rfl) (by decide) (by decide) kk
set_option maxRecDepth 20000 in
theorem B5_wrapNext_11 {ω : Om} {h : AH} {Q : Option Value → AH → Prop} {x0 : Nat} {x1 : Nat} {x2 : Nat} {u3 : Option Value} {u4 : Option Value} {y0 : Nat} (hw : ω.2.2.2.1 = true) (s_y0 : gs h y0 = some (3, 15)) (kk : Ex ω M3_begin 0 [some (.ref y0), some (.ref x2), none] [] h 0 0 (fun v h' => Ex ω M5_wrapNext 17 [some (.ref x0), some (.ref x1), some (.ref x2), some (.ref y0), none] (v.toList ++ []) h' 0 0 Q)) : Ex ω M5_wrapNext 11 [some (.ref x0), some (.ref x1), some (.ref x2), u3, u4] [.ref y0] h 0 0 Q := by
  refine x_dr3 ?_
  refine x_dr4 ?_
  refine x_astore3 12 dX5_wrapNext_11 rfl (by decide) rfl ?_
  refine x_aload3 13 dX5_wrapNext_12 rfl ?_
  refine x_aload2 14 dX5_wrapNext_13 rfl ?_
  exact x_callV 17 y0 [.ref x2] [] dX5_wrapNext_14 rfl lk_3_begin ⟨wd441, wd442, wd443⟩ ⟨by decide, by decide⟩ (recvO cf3 (fun _ => s_y0)) rfl rfl (Nat.le_of_ble_eq_true rfl) (Nat.le_of_ble_eq_true rfl) (by decide) (by decide) kk
set_option maxRecDepth 20000 in
theorem B5_wrapNext_17 {ω : Om} {h : AH} {Q : Option Value → AH → Prop} {x0 : Nat} {x1 : Nat} {x2 : Nat} {x3 : Nat} {u4 : Option Value} (hw : ω.2.2.2.1 = true) (s_x0 : gs h x0 = some (5, 11)) (s_x2 : gs h x2 = some (1, 6)) (kk : Ex ω M1_top 0 [some (.ref x2)] [] h 0 0 (fun v h' => Ex ω M5_wrapNext 26 [some (.ref x0), some (.ref x1), some (.ref x2), some (.ref x3), none] (v.toList ++ [.ref (gr h x0 7), .ref x1]) h' 0 0 Q)) : Ex ω M5_wrapNext 17 [some (.ref x0), some (.ref x1), some (.ref x2), some (.ref x3), u4] [] h 0 0 Q := by
  refine x_dr4 ?_
  refine x_aload1 18 dX5_wrapNext_17 rfl ?_
  refine x_aload0 19 dX5_wrapNext_18 rfl ?_
  refine x_getR cf5 7 22 hw dX5_wrapNext_19 rfl wd47 (fun _ => s_x0) (by decide) (by decide) rfl ?_
  refine x_aload2 23 dX5_wrapNext_22 rfl ?_
  exact x_callV 26 x2 [] [.ref (gr h x0 7), .ref x1] dX5_wrapNext_23 rfl lk_1_top ⟨wd452, wd453, wd454⟩ ⟨by decide, by decide⟩ (recvO cf1 (fun _ => s_x2)) rfl rfl (Nat.le_of_ble_eq_true rfl) (Nat.le_of_ble_eq_true rfl) (by decide) (by decide) kk
set_option maxRecDepth 20000 in
theorem B5_wrapNext_26 {ω : Om} {h : AH} {Q : Option Value → AH → Prop} {x0 : Nat} {x1 : Nat} {x2 : Nat} {x3 : Nat} {u4 : Option Value} {y0 : Nat} {y1 : Nat} {y2 : Int32} (hw : ω.2.2.2.1 = true) (s_y0 : gs h y0 = some (0, 7)) (kk : Ex ω M0_begin 0 [some (.ref y0), some (.ref y1), some (.int y2)] [] h 0 0 (fun v h' => Ex ω M5_wrapNext 29 [some (.ref x0), some (.ref x1), some (.ref x2), some (.ref x3), none] (v.toList ++ []) h' 0 0 Q)) : Ex ω M5_wrapNext 26 [some (.ref x0), some (.ref x1), some (.ref x2), some (.ref x3), u4] [.int y2, .ref y1, .ref y0] h 0 0 Q := by
  refine x_dr4 ?_
  exact x_callV 29 y0 [.ref y1, .int y2] [] dX5_wrapNext_26 rfl lk_0_begin ⟨wd459, wd460, wd461⟩ ⟨by decide, by decide⟩ (recvO cf0 (fun _ => s_y0)) rfl rfl (Nat.le_of_ble_eq_true rfl) (Nat.le_of_ble_eq_true rfl) (by decide) (by decide) kk
set_option maxRecDepth 20000 in
theorem B5_wrapNext_29 {ω : Om} {h : AH} {Q : Option Value → AH → Prop} {x0 : Nat} {x1 : Nat} {x2 : Nat} {x3 : Nat} {u4 : Option Value} (hw : ω.2.2.2.1 = true) (kf : Ex ω M5_wrapNext 32 [some (.ref x0), some (.ref x1), some (.ref x2), some (.ref x3), some (.int (nI 0))] [] h 0 0 Q) : Ex ω M5_wrapNext 29 [some (.ref x0), some (.ref x1), some (.ref x2), some (.ref x3), u4] [] h 0 0 Q := by
  refine x_dr4 ?_
  refine x_iconst (nI 0) 30 dX5_wrapNext_29 rfl rfl ?_
  refine x_istore4 32 dX5_wrapNext_30 rfl (by decide) rfl ?_
  exact kf
set_option maxRecDepth 20000 in
theorem B5_wrapNext_32 {ω : Om} {h : AH} {Q : Option Value → AH → Prop} {x0 : Nat} {x1 : Nat} {x2 : Nat} {x3 : Nat} {x4 : Int32} (hw : ω.2.2.2.1 = true) (kt : (nI 1000000) ≤ x4 → Ex ω M5_wrapNext 66 [some (.ref x0), some (.ref x1), some (.ref x2), some (.ref x3), some (.int x4)] [] h 0 0 Q) (kf : ¬ (nI 1000000) ≤ x4 → Ex ω M5_wrapNext 39 [some (.ref x0), some (.ref x1), some (.ref x2), some (.ref x3), some (.int x4)] [] h 0 0 Q) : Ex ω M5_wrapNext 32 [some (.ref x0), some (.ref x1), some (.ref x2), some (.ref x3), some (.int x4)] [] h 0 0 Q := by
  refine x_iload4 34 dX5_wrapNext_32 rfl ?_
  refine x_ldc (nI 1000000) 36 dX5_wrapNext_34 rfl wd435 ?_
  exact x_icmp_ge 39 66 dX5_wrapNext_36 rfl (by decide) kt kf
set_option maxRecDepth 20000 in
theorem B5_wrapNext_39 {ω : Om} {h : AH} {Q : Option Value → AH → Prop} {x0 : Nat} {x1 : Nat} {x2 : Nat} {x3 : Nat} {x4 : Int32} (hw : ω.2.2.2.1 = true) (s_x3 : gs h x3 = some (3, 15)) (kt : ¬ (gi h x3 2) = 0 → Ex ω M5_wrapNext 66 [some (.ref x0), some (.ref x1), some (.ref x2), some (.ref x3), some (.int x4)] [] h 0 0 Q) (kf : (gi h x3 2) = 0 → Ex ω M5_wrapNext 46 [some (.ref x0), some (.ref x1), some (.ref x2), some (.ref x3), some (.int x4)] [] h 0 0 Q) : Ex ω M5_wrapNext 39 [some (.ref x0), some (.ref x1), some (.ref x2), some (.ref x3), some (.int x4)] [] h 0 0 Q := by
  refine x_aload3 40 dX5_wrapNext_39 rfl ?_
  refine x_getI cf3 2 43 dX5_wrapNext_40 rfl wd436 (fun _ => s_x3) (by decide) rfl ?_
  exact x_if_ne 46 66 dX5_wrapNext_43 rfl (by decide) kt kf
set_option maxRecDepth 20000 in
theorem B5_wrapNext_46 {ω : Om} {h : AH} {Q : Option Value → AH → Prop} {x0 : Nat} {x1 : Nat} {x2 : Nat} {x3 : Nat} {x4 : Int32} (hw : ω.2.2.2.1 = true) (s_x1 : gs h x1 = some (0, 7)) (kk : Ex ω M0_advance 0 [some (.ref x1)] [] h 0 0 (fun v h' => Ex ω M5_wrapNext 50 [some (.ref x0), some (.ref x1), some (.ref x2), some (.ref x3), some (.int x4)] (v.toList ++ []) h' 0 0 Q)) : Ex ω M5_wrapNext 46 [some (.ref x0), some (.ref x1), some (.ref x2), some (.ref x3), some (.int x4)] [] h 0 0 Q := by
  refine x_aload1 47 dX5_wrapNext_46 rfl ?_
  exact x_callV 50 x1 [] [] dX5_wrapNext_47 rfl lk_0_advance ⟨wd469, wd470, wd471⟩ ⟨by decide, by decide⟩ (recvO cf0 (fun _ => s_x1)) rfl rfl (Nat.le_of_ble_eq_true rfl) (Nat.le_of_ble_eq_true rfl) (by decide) (by decide) kk
set_option maxRecDepth 20000 in
theorem B5_wrapNext_50 {ω : Om} {h : AH} {Q : Option Value → AH → Prop} {x0 : Nat} {x1 : Nat} {x2 : Nat} {x3 : Nat} {x4 : Int32} {y0 : Int32} (hw : ω.2.2.2.1 = true) (kt : y0 = 0 → Ex ω M5_wrapNext 66 [some (.ref x0), some (.ref x1), some (.ref x2), some (.ref x3), some (.int x4)] [] h 0 0 Q) (kf : ¬ y0 = 0 → Ex ω M5_wrapNext 53 [some (.ref x0), some (.ref x1), some (.ref x2), some (.ref x3), some (.int x4)] [] h 0 0 Q) : Ex ω M5_wrapNext 50 [some (.ref x0), some (.ref x1), some (.ref x2), some (.ref x3), some (.int x4)] [.int y0] h 0 0 Q := by
  exact x_if_eq 53 66 dX5_wrapNext_50 rfl (by decide) kt kf
set_option maxRecDepth 20000 in
theorem B5_wrapNext_53 {ω : Om} {h : AH} {Q : Option Value → AH → Prop} {x0 : Nat} {x1 : Nat} {x2 : Nat} {x3 : Nat} {x4 : Int32} (hw : ω.2.2.2.1 = true) (s_x0 : gs h x0 = some (5, 11)) (kk : Ex ω M5_turnOnce 0 [some (.ref x0), some (.ref x2), some (.ref x1), some (.ref x3), none, none, none] [] h 0 0 (fun v h' => Ex ω M5_wrapNext 60 [some (.ref x0), some (.ref x1), some (.ref x2), some (.ref x3), some (.int x4)] (v.toList ++ []) h' 0 0 Q)) : Ex ω M5_wrapNext 53 [some (.ref x0), some (.ref x1), some (.ref x2), some (.ref x3), some (.int x4)] [] h 0 0 Q := by
  refine x_aload0 54 dX5_wrapNext_53 rfl ?_
  refine x_aload2 55 dX5_wrapNext_54 rfl ?_
  refine x_aload1 56 dX5_wrapNext_55 rfl ?_
  refine x_aload3 57 dX5_wrapNext_56 rfl ?_
  exact x_callV 60 x0 [.ref x2, .ref x1, .ref x3] [] dX5_wrapNext_57 rfl lk_5_turnOnce ⟨wd482, wd483, wd484⟩ ⟨by decide, by decide⟩ (recvO cf5 (fun _ => s_x0)) rfl rfl (Nat.le_of_ble_eq_true rfl) (Nat.le_of_ble_eq_true rfl) (by decide) (by decide) kk
set_option maxRecDepth 20000 in
theorem B5_wrapNext_60 {ω : Om} {h : AH} {Q : Option Value → AH → Prop} {x0 : Nat} {x1 : Nat} {x2 : Nat} {x3 : Nat} {x4 : Int32} (hw : ω.2.2.2.1 = true) (kt : Ex ω M5_wrapNext 32 [some (.ref x0), some (.ref x1), some (.ref x2), some (.ref x3), some (.int (x4 + (nI 1)))] [] h 0 0 Q) : Ex ω M5_wrapNext 60 [some (.ref x0), some (.ref x1), some (.ref x2), some (.ref x3), some (.int x4)] [] h 0 0 Q := by
  refine x_iinc4 (x4 + (nI 1)) 63 dX5_wrapNext_60 rfl (by decide) rfl rfl ?_
  exact x_goto 32 dX5_wrapNext_63 (by decide) kt
set_option maxRecDepth 20000 in
theorem B5_wrapNext_66 {ω : Om} {h : AH} {Q : Option Value → AH → Prop} {x0 : Nat} {u1 : Option Value} {u2 : Option Value} {x3 : Nat} {u4 : Option Value} (hw : ω.2.2.2.1 = true) (s_x0 : gs h x0 = some (5, 11)) (kk : Ex ω M5_removePallet 0 [some (.ref x0), some (.int (nI 0)), none, none] [] h 0 0 (fun v h' => Ex ω M5_wrapNext 71 [some (.ref x0), none, none, some (.ref x3), none] (v.toList ++ []) h' 0 0 Q)) : Ex ω M5_wrapNext 66 [some (.ref x0), u1, u2, some (.ref x3), u4] [] h 0 0 Q := by
  refine x_dr1 ?_
  refine x_dr2 ?_
  refine x_dr4 ?_
  refine x_aload0 67 dX5_wrapNext_66 rfl ?_
  refine x_iconst (nI 0) 68 dX5_wrapNext_67 rfl rfl ?_
  exact x_callV 71 x0 [.int (nI 0)] [] dX5_wrapNext_68 rfl lk_5_removePallet ⟨wd554, wd555, wd556⟩ ⟨by decide, by decide⟩ (recvO cf5 (fun _ => s_x0)) rfl rfl (Nat.le_of_ble_eq_true rfl) (Nat.le_of_ble_eq_true rfl) (by decide) (by decide) kk
set_option maxRecDepth 20000 in
theorem B5_wrapNext_71 {ω : Om} {h : AH} {Q : Option Value → AH → Prop} {x0 : Nat} {u1 : Option Value} {u2 : Option Value} {x3 : Nat} {u4 : Option Value} (hw : ω.2.2.2.1 = true) (s_x0 : gs h x0 = some (5, 11)) (kk : Ex ω M6_add 0 [some (.ref (gr h x0 8)), some (.ref x3)] [] h 0 0 (fun v h' => Ex ω M5_wrapNext 79 [some (.ref x0), none, none, some (.ref x3), none] (v.toList ++ []) h' 0 0 Q)) : Ex ω M5_wrapNext 71 [some (.ref x0), u1, u2, some (.ref x3), u4] [] h 0 0 Q := by
  refine x_dr1 ?_
  refine x_dr2 ?_
  refine x_dr4 ?_
  refine x_aload0 72 dX5_wrapNext_71 rfl ?_
  refine x_getR cf5 8 75 hw dX5_wrapNext_72 rfl wd51 (fun _ => s_x0) (by decide) (by decide) rfl ?_
  refine x_aload3 76 dX5_wrapNext_75 rfl ?_
  exact x_callV 79 (gr h x0 8) [.ref x3] [] dX5_wrapNext_76 rfl lk_6_add ⟨wd558, wd559, wd560⟩ ⟨by decide, by decide⟩ (recvO cf6 (SH.fld hw (fun _ => s_x0) 8 (Nat.le_of_ble_eq_true rfl) rfl rfl)) rfl rfl (Nat.le_of_ble_eq_true rfl) (Nat.le_of_ble_eq_true rfl) (by decide) (by decide) kk
set_option maxRecDepth 20000 in
theorem B5_wrapNext_79 {ω : Om} {h : AH} {Q : Option Value → AH → Prop} {u0 : Option Value} {u1 : Option Value} {u2 : Option Value} {x3 : Nat} {u4 : Option Value} (hw : ω.2.2.2.1 = true) (s_x3 : gs h x3 = some (3, 15)) (hq : Q (some (.int (gi h x3 2))) h) : Ex ω M5_wrapNext 79 [u0, u1, u2, some (.ref x3), u4] [] h 0 0 Q := by
  refine x_dr0 ?_
  refine x_dr1 ?_
  refine x_dr2 ?_
  refine x_dr4 ?_
  refine x_aload3 80 dX5_wrapNext_79 rfl ?_
  refine x_getI cf3 2 83 dX5_wrapNext_80 rfl wd436 (fun _ => s_x3) (by decide) rfl ?_
  exact x_iret dX5_wrapNext_83 rfl (Nat.zero_le _) (Nat.zero_le _) hq
set_option maxRecDepth 20000 in
theorem B5_turnOnce_0 {ω : Om} {h : AH} {Q : Option Value → AH → Prop} {x0 : Nat} {x1 : Nat} {x2 : Nat} {x3 : Nat} {u4 : Option Value} {u5 : Option Value} {u6 : Option Value} (hw : ω.2.2.2.1 = true) (s_x2 : gs h x2 = some (0, 7)) (s_x3 : gs h x3 = some (3, 15)) (kk : Ex ω M8_zonesEnd 0 [some (.int (gi h x2 4)), some (.int (gi h x3 1))] [] h 0 0 (fun v h' => Ex ω M5_turnOnce 11 [some (.ref x0), some (.ref x1), some (.ref x2), some (.ref x3), none, none, none] (v.toList ++ []) h' 0 0 Q)) : Ex ω M5_turnOnce 0 [some (.ref x0), some (.ref x1), some (.ref x2), some (.ref x3), u4, u5, u6] [] h 0 0 Q := by
  refine x_dr4 ?_
  refine x_dr5 ?_
  refine x_dr6 ?_
  refine x_aload2 1 dX5_turnOnce_0 rfl ?_
  refine x_getI cf0 4 4 dX5_turnOnce_1 rfl wd486 (fun _ => s_x2) (by decide) rfl ?_
  refine x_aload3 5 dX5_turnOnce_4 rfl ?_
  refine x_getI cf3 1 8 dX5_turnOnce_5 rfl wd487 (fun _ => s_x3) (by decide) rfl ?_
  exact x_callSN (host := "PalletWrapper") 11 [.int (gi h x2 4), .int (gi h x3 1)] [] dX5_turnOnce_8 rfl lk_8_zonesEnd ⟨by decide +kernel, wd494⟩ ⟨by decide, by decide⟩ rfl rfl (Nat.le_of_ble_eq_true rfl) (Nat.le_of_ble_eq_true rfl) (by decide) (by decide) kk
set_option maxRecDepth 20000 in
theorem B5_turnOnce_11 {ω : Om} {h : AH} {Q : Option Value → AH → Prop} {x0 : Nat} {x1 : Nat} {x2 : Nat} {x3 : Nat} {u4 : Option Value} {u5 : Option Value} {u6 : Option Value} {y0 : Int32} (hw : ω.2.2.2.1 = true) (s_x1 : gs h x1 = some (1, 6)) (s_x2 : gs h x2 = some (0, 7)) (kk : Ex ω M8_firstZone 0 [some (.int (gi h x2 4))] [] h 0 0 (fun v h' => Ex ω M5_turnOnce 25 [some (.ref x0), some (.ref x1), some (.ref x2), some (.ref x3), some (.int y0), none, none] (v.toList ++ [.ref x3, .int (gi h x1 4)]) h' 0 0 Q)) : Ex ω M5_turnOnce 11 [some (.ref x0), some (.ref x1), some (.ref x2), some (.ref x3), u4, u5, u6] [.int y0] h 0 0 Q := by
  refine x_dr4 ?_
  refine x_dr5 ?_
  refine x_dr6 ?_
  refine x_istore4 13 dX5_turnOnce_11 rfl (by decide) rfl ?_
  refine x_aload1 14 dX5_turnOnce_13 rfl ?_
  refine x_getI cf1 4 17 dX5_turnOnce_14 rfl wd488 (fun _ => s_x1) (by decide) rfl ?_
  refine x_aload3 18 dX5_turnOnce_17 rfl ?_
  refine x_aload2 19 dX5_turnOnce_18 rfl ?_
  refine x_getI cf0 4 22 dX5_turnOnce_19 rfl wd486 (fun _ => s_x2) (by decide) rfl ?_
  exact x_callSN (host := "PalletWrapper") 25 [.int (gi h x2 4)] [.ref x3, .int (gi h x1 4)] dX5_turnOnce_22 rfl lk_8_firstZone ⟨by decide +kernel, wd498⟩ ⟨by decide, by decide⟩ rfl rfl (Nat.le_of_ble_eq_true rfl) (Nat.le_of_ble_eq_true rfl) (by decide) (by decide) kk
set_option maxRecDepth 20000 in
theorem B5_turnOnce_25 {ω : Om} {h : AH} {Q : Option Value → AH → Prop} {x0 : Nat} {x1 : Nat} {x2 : Nat} {x3 : Nat} {x4 : Int32} {u5 : Option Value} {u6 : Option Value} {y0 : Int32} {y1 : Nat} {y2 : Int32} (hw : ω.2.2.2.1 = true) (s_y1 : gs h y1 = some (3, 15)) (kk : Ex ω M3_greatestForce 0 [some (.ref y1), some (.int y2), some (.int x4), none, none] [] h 0 0 (fun v h' => Ex ω M5_turnOnce 30 [some (.ref x0), some (.ref x1), some (.ref x2), some (.ref x3), some (.int x4), none, none] (v.toList ++ [.int y0]) h' 0 0 Q)) : Ex ω M5_turnOnce 25 [some (.ref x0), some (.ref x1), some (.ref x2), some (.ref x3), some (.int x4), u5, u6] [.int y2, .ref y1, .int y0] h 0 0 Q := by
  refine x_dr5 ?_
  refine x_dr6 ?_
  refine x_iload4 27 dX5_turnOnce_25 rfl ?_
  exact x_callV 30 y1 [.int y2, .int x4] [.int y0] dX5_turnOnce_27 rfl lk_3_greatestForce ⟨wd500, wd501, wd502⟩ ⟨by decide, by decide⟩ (recvO cf3 (fun _ => s_y1)) rfl rfl (Nat.le_of_ble_eq_true rfl) (Nat.le_of_ble_eq_true rfl) (by decide) (by decide) kk
set_option maxRecDepth 20000 in
theorem B5_turnOnce_30 {ω : Om} {h : AH} {Q : Option Value → AH → Prop} {x0 : Nat} {x1 : Nat} {x2 : Nat} {x3 : Nat} {u4 : Option Value} {u5 : Option Value} {u6 : Option Value} {y0 : Int32} {y1 : Int32} (hw : ω.2.2.2.1 = true) (s_x2 : gs h x2 = some (0, 7)) (kk : Ex ω M8_greatestTension 0 [some (.int (gi h x2 5)), some (.int (y0 - y1))] [] h 0 0 (fun v h' => Ex ω M5_turnOnce 42 [some (.ref x0), some (.ref x1), some (.ref x2), some (.ref x3), none, some (.int (y0 - y1)), none] (v.toList ++ []) h' 0 0 Q)) : Ex ω M5_turnOnce 30 [some (.ref x0), some (.ref x1), some (.ref x2), some (.ref x3), u4, u5, u6] [.int y1, .int y0] h 0 0 Q := by
  refine x_dr4 ?_
  refine x_dr5 ?_
  refine x_dr6 ?_
  refine x_isub 31 dX5_turnOnce_30 rfl ?_
  refine x_istore5 33 dX5_turnOnce_31 rfl (by decide) rfl ?_
  refine x_aload2 34 dX5_turnOnce_33 rfl ?_
  refine x_getI cf0 5 37 dX5_turnOnce_34 rfl wd489 (fun _ => s_x2) (by decide) rfl ?_
  refine x_iload5 39 dX5_turnOnce_37 rfl ?_
  exact x_callSN (host := "PalletWrapper") 42 [.int (gi h x2 5), .int (y0 - y1)] [] dX5_turnOnce_39 rfl lk_8_greatestTension ⟨by decide +kernel, wd505⟩ ⟨by decide, by decide⟩ rfl rfl (Nat.le_of_ble_eq_true rfl) (Nat.le_of_ble_eq_true rfl) (by decide) (by decide) kk
set_option maxRecDepth 20000 in
theorem B5_turnOnce_42 {ω : Om} {h : AH} {Q : Option Value → AH → Prop} {x0 : Nat} {x1 : Nat} {x2 : Nat} {x3 : Nat} {u4 : Option Value} {u5 : Option Value} {u6 : Option Value} {y0 : Int32} (hw : ω.2.2.2.1 = true) (kt : ¬ y0 = 0 → Ex ω M5_turnOnce 67 [some (.ref x0), some (.ref x1), some (.ref x2), some (.ref x3), none, none, some (.int y0)] [] h 0 0 Q) (kf : y0 = 0 → Ex ω M5_turnOnce 49 [some (.ref x0), some (.ref x1), some (.ref x2), some (.ref x3), none, none, some (.int y0)] [] h 0 0 Q) : Ex ω M5_turnOnce 42 [some (.ref x0), some (.ref x1), some (.ref x2), some (.ref x3), u4, u5, u6] [.int y0] h 0 0 Q := by
  refine x_dr4 ?_
  refine x_dr5 ?_
  refine x_dr6 ?_
  refine x_istore6 44 dX5_turnOnce_42 rfl (by decide) rfl ?_
  refine x_iload6 46 dX5_turnOnce_44 rfl ?_
  exact x_if_ne 49 67 dX5_turnOnce_46 rfl (by decide) kt kf
set_option maxRecDepth 20000 in
theorem B5_turnOnce_49 {ω : Om} {h : AH} {Q : Option Value → AH → Prop} {x0 : Nat} {x1 : Nat} {x2 : Nat} {x3 : Nat} {u4 : Option Value} {u5 : Option Value} {x6 : Int32} (hw : ω.2.2.2.1 = true) (s_x2 : gs h x2 = some (0, 7)) (kt : (gi h x2 5) = 0 → Ex ω M5_turnOnce 67 [some (.ref x0), some (.ref x1), some (.ref x2), some (.ref x3), none, none, some (.int x6)] [] h 0 0 Q) (kf : ¬ (gi h x2 5) = 0 → Ex ω M5_turnOnce 56 [some (.ref x0), some (.ref x1), some (.ref x2), some (.ref x3), none, none, some (.int x6)] [] h 0 0 Q) : Ex ω M5_turnOnce 49 [some (.ref x0), some (.ref x1), some (.ref x2), some (.ref x3), u4, u5, some (.int x6)] [] h 0 0 Q := by
  refine x_dr4 ?_
  refine x_dr5 ?_
  refine x_aload2 50 dX5_turnOnce_49 rfl ?_
  refine x_getI cf0 5 53 dX5_turnOnce_50 rfl wd489 (fun _ => s_x2) (by decide) rfl ?_
  exact x_if_eq 56 67 dX5_turnOnce_53 rfl (by decide) kt kf
set_option maxRecDepth 20000 in
theorem B5_turnOnce_56 {ω : Om} {h : AH} {Q : Option Value → AH → Prop} {u0 : Option Value} {u1 : Option Value} {u2 : Option Value} {x3 : Nat} {u4 : Option Value} {u5 : Option Value} {u6 : Option Value} (hw : ω.2.2.2.1 = true) (s_x3 : gs h x3 = some (3, 15)) (hq : Q none (si h x3 4 ((gi h x3 4) + (nI 1)))) : Ex ω M5_turnOnce 56 [u0, u1, u2, some (.ref x3), u4, u5, u6] [] h 0 0 Q := by
  refine x_dr0 ?_
  refine x_dr1 ?_
  refine x_dr2 ?_
  refine x_dr4 ?_
  refine x_dr5 ?_
  refine x_dr6 ?_
  refine x_aload3 57 dX5_turnOnce_56 rfl ?_
  refine x_dup 58 dX5_turnOnce_57 rfl rfl ?_
  refine x_getI cf3 4 61 dX5_turnOnce_58 rfl wd490 (fun _ => s_x3) (by decide) rfl ?_
  refine x_iconst (nI 1) 62 dX5_turnOnce_61 rfl rfl ?_
  refine x_iadd 63 dX5_turnOnce_62 rfl ?_
  refine x_putI cf3 4 66 dX5_turnOnce_63 rfl wd490 (fun _ => s_x3) (by decide) rfl rfl ?_
  exact x_vret dX5_turnOnce_66 rfl (Nat.zero_le _) (Nat.zero_le _) hq
set_option maxRecDepth 20000 in
theorem B5_turnOnce_67 {ω : Om} {h : AH} {Q : Option Value → AH → Prop} {x0 : Nat} {x1 : Nat} {x2 : Nat} {x3 : Nat} {u4 : Option Value} {u5 : Option Value} {x6 : Int32} (hw : ω.2.2.2.1 = true) (s_x2 : gs h x2 = some (0, 7)) (s_x1 : gs h x1 = some (1, 6)) (kk : Ex ω M1_lengthOfTurn 0 [some (.ref x1), some (.int (gi h x2 6))] [] h 0 0 (fun v h' => Ex ω M5_turnOnce 77 [some (.ref x0), some (.ref x1), some (.ref x2), some (.ref x3), none, none, some (.int x6)] (v.toList ++ [.ref x0, .ref x3]) h' 0 0 Q)) : Ex ω M5_turnOnce 67 [some (.ref x0), some (.ref x1), some (.ref x2), some (.ref x3), u4, u5, some (.int x6)] [] h 0 0 Q := by
  refine x_dr4 ?_
  refine x_dr5 ?_
  refine x_aload3 68 dX5_turnOnce_67 rfl ?_
  refine x_aload0 69 dX5_turnOnce_68 rfl ?_
  refine x_aload1 70 dX5_turnOnce_69 rfl ?_
  refine x_aload2 71 dX5_turnOnce_70 rfl ?_
  refine x_getI cf0 6 74 dX5_turnOnce_71 rfl wd491 (fun _ => s_x2) (by decide) rfl ?_
  exact x_callV 77 x1 [.int (gi h x2 6)] [.ref x0, .ref x3] dX5_turnOnce_74 rfl lk_1_lengthOfTurn ⟨wd507, wd508, wd509⟩ ⟨by decide, by decide⟩ (recvO cf1 (fun _ => s_x1)) rfl rfl (Nat.le_of_ble_eq_true rfl) (Nat.le_of_ble_eq_true rfl) (by decide) (by decide) kk
set_option maxRecDepth 20000 in
theorem B5_turnOnce_77 {ω : Om} {h : AH} {Q : Option Value → AH → Prop} {u0 : Option Value} {x1 : Nat} {x2 : Nat} {x3 : Nat} {u4 : Option Value} {u5 : Option Value} {x6 : Int32} {y0 : Nat} {y1 : Nat} {y2 : Int32} (hw : ω.2.2.2.1 = true) (s_y1 : gs h y1 = some (5, 11)) (kk : Ex ω M5_fetchFilm 0 [some (.ref y1), some (.int y2), some (.int x6), some (.ref x3), none, none] [] h 0 0 (fun v h' => Ex ω M5_turnOnce 83 [none, some (.ref x1), some (.ref x2), some (.ref x3), none, none, some (.int x6)] (v.toList ++ [.ref y0]) h' 0 0 Q)) : Ex ω M5_turnOnce 77 [u0, some (.ref x1), some (.ref x2), some (.ref x3), u4, u5, some (.int x6)] [.int y2, .ref y1, .ref y0] h 0 0 Q := by
  refine x_dr0 ?_
  refine x_dr4 ?_
  refine x_dr5 ?_
  refine x_iload6 79 dX5_turnOnce_77 rfl ?_
  refine x_aload3 80 dX5_turnOnce_79 rfl ?_
  exact x_callV 83 y1 [.int y2, .int x6, .ref x3] [.ref y0] dX5_turnOnce_80 rfl lk_5_fetchFilm ⟨wd511, wd512, wd513⟩ ⟨by decide, by decide⟩ (recvO cf5 (fun _ => s_y1)) rfl rfl (Nat.le_of_ble_eq_true rfl) (Nat.le_of_ble_eq_true rfl) (by decide) (by decide) kk
set_option maxRecDepth 20000 in
theorem B5_turnOnce_83 {ω : Om} {h : AH} {Q : Option Value → AH → Prop} {u0 : Option Value} {x1 : Nat} {x2 : Nat} {x3 : Nat} {u4 : Option Value} {u5 : Option Value} {x6 : Int32} {y0 : Nat} {y1 : Int32} (hw : ω.2.2.2.1 = true) (s_y0 : gs h y0 = some (3, 15)) (s_x3 : gs h x3 = some (3, 15)) (kt : ¬ (gi (si h y0 2 y1) x3 2) = 0 → Ex ω M5_turnOnce 129 [none, some (.ref x1), some (.ref x2), some (.ref x3), none, none, some (.int x6)] [] (si h y0 2 y1) 0 0 Q) (kf : (gi (si h y0 2 y1) x3 2) = 0 → Ex ω M5_turnOnce 93 [none, some (.ref x1), some (.ref x2), some (.ref x3), none, none, some (.int x6)] [] (si h y0 2 y1) 0 0 Q) : Ex ω M5_turnOnce 83 [u0, some (.ref x1), some (.ref x2), some (.ref x3), u4, u5, some (.int x6)] [.int y1, .ref y0] h 0 0 Q := by
  refine x_dr0 ?_
  refine x_dr4 ?_
  refine x_dr5 ?_
  refine x_putI cf3 2 86 dX5_turnOnce_83 rfl wd436 (fun _ => s_y0) (by decide) rfl rfl ?_
  refine x_aload3 87 dX5_turnOnce_86 rfl ?_
  refine x_getI cf3 2 90 dX5_turnOnce_87 rfl wd436 (fun _ => s_x3) (by decide) rfl ?_
  exact x_if_ne 93 129 dX5_turnOnce_90 rfl (by decide) kt kf
set_option maxRecDepth 20000 in
theorem B5_turnOnce_93 {ω : Om} {h : AH} {Q : Option Value → AH → Prop} {u0 : Option Value} {x1 : Nat} {x2 : Nat} {x3 : Nat} {u4 : Option Value} {u5 : Option Value} {x6 : Int32} (hw : ω.2.2.2.1 = true) (s_x3 : gs h x3 = some (3, 15)) (s_x1 : gs h x1 = some (1, 6)) (kk : Ex ω M1_timeOfTurn 0 [some (.ref x1)] [] (si h x3 3 ((gi h x3 3) + (nI 1))) 0 0 (fun v h' => Ex ω M5_turnOnce 112 [none, some (.ref x1), some (.ref x2), some (.ref x3), none, none, some (.int x6)] (v.toList ++ [.int (gi (si h x3 3 ((gi h x3 3) + (nI 1))) x3 11), .ref x3]) h' 0 0 Q)) : Ex ω M5_turnOnce 93 [u0, some (.ref x1), some (.ref x2), some (.ref x3), u4, u5, some (.int x6)] [] h 0 0 Q := by
  refine x_dr0 ?_
  refine x_dr4 ?_
  refine x_dr5 ?_
  refine x_aload3 94 dX5_turnOnce_93 rfl ?_
  refine x_dup 95 dX5_turnOnce_94 rfl rfl ?_
  refine x_getI cf3 3 98 dX5_turnOnce_95 rfl wd492 (fun _ => s_x3) (by decide) rfl ?_
  refine x_iconst (nI 1) 99 dX5_turnOnce_98 rfl rfl ?_
  refine x_iadd 100 dX5_turnOnce_99 rfl ?_
  refine x_putI cf3 3 103 dX5_turnOnce_100 rfl wd492 (fun _ => s_x3) (by decide) rfl rfl ?_
  refine x_aload3 104 dX5_turnOnce_103 rfl ?_
  refine x_dup 105 dX5_turnOnce_104 rfl rfl ?_
  refine x_getI cf3 11 108 dX5_turnOnce_105 rfl wd493 (fun _ => s_x3) (by decide) rfl ?_
  refine x_aload1 109 dX5_turnOnce_108 rfl ?_
  exact x_callV 112 x1 [] [.int (gi (si h x3 3 ((gi h x3 3) + (nI 1))) x3 11), .ref x3] dX5_turnOnce_109 rfl lk_1_timeOfTurn ⟨wd544, wd545, wd546⟩ ⟨by decide, by decide⟩ (recvO cf1 (fun _ => s_x1)) rfl rfl (Nat.le_of_ble_eq_true rfl) (Nat.le_of_ble_eq_true rfl) (by decide) (by decide) kk
set_option maxRecDepth 20000 in
theorem B5_turnOnce_112 {ω : Om} {h : AH} {Q : Option Value → AH → Prop} {u0 : Option Value} {u1 : Option Value} {x2 : Nat} {x3 : Nat} {u4 : Option Value} {u5 : Option Value} {x6 : Int32} {y0 : Nat} {y1 : Int32} {y2 : Int32} (hw : ω.2.2.2.1 = true) (s_y0 : gs h y0 = some (3, 15)) (s_x2 : gs h x2 = some (0, 7)) (kk : Ex ω M8_forceOf 0 [some (.int x6)] [] (si h y0 11 (y1 + y2)) 0 0 (fun v h' => Ex ω M5_turnOnce 126 [none, none, some (.ref x2), some (.ref x3), none, none, some (.int x6)] (v.toList ++ [.int (gi (si h y0 11 (y1 + y2)) x2 4), .ref x3]) h' 0 0 Q)) : Ex ω M5_turnOnce 112 [u0, u1, some (.ref x2), some (.ref x3), u4, u5, some (.int x6)] [.int y2, .int y1, .ref y0] h 0 0 Q := by
  refine x_dr0 ?_
  refine x_dr1 ?_
  refine x_dr4 ?_
  refine x_dr5 ?_
  refine x_iadd 113 dX5_turnOnce_112 rfl ?_
  refine x_putI cf3 11 116 dX5_turnOnce_113 rfl wd493 (fun _ => s_y0) (by decide) rfl rfl ?_
  refine x_aload3 117 dX5_turnOnce_116 rfl ?_
  refine x_aload2 118 dX5_turnOnce_117 rfl ?_
  refine x_getI cf0 4 121 dX5_turnOnce_118 rfl wd486 (fun _ => s_x2) (by decide) rfl ?_
  refine x_iload6 123 dX5_turnOnce_121 rfl ?_
  exact x_callSN (host := "PalletWrapper") 126 [.int x6] [.int (gi (si h y0 11 (y1 + y2)) x2 4), .ref x3] dX5_turnOnce_123 rfl lk_8_forceOf ⟨by decide +kernel, wd548⟩ ⟨by decide, by decide⟩ rfl rfl (Nat.le_of_ble_eq_true rfl) (Nat.le_of_ble_eq_true rfl) (by decide) (by decide) kk
set_option maxRecDepth 20000 in
theorem B5_turnOnce_126 {ω : Om} {h : AH} {Q : Option Value → AH → Prop} {u0 : Option Value} {u1 : Option Value} {u2 : Option Value} {u3 : Option Value} {u4 : Option Value} {u5 : Option Value} {u6 : Option Value} {y0 : Nat} {y1 : Int32} {y2 : Int32} (hw : ω.2.2.2.1 = true) (s_y0 : gs h y0 = some (3, 15)) (kk : Ex ω M3_addLayer 0 [some (.ref y0), some (.int y1), some (.int y2), none, none] [] h 0 0 (fun v h' => Ex ω M5_turnOnce 129 [none, none, none, none, none, none, none] (v.toList ++ []) h' 0 0 Q)) : Ex ω M5_turnOnce 126 [u0, u1, u2, u3, u4, u5, u6] [.int y2, .int y1, .ref y0] h 0 0 Q := by
  refine x_dr0 ?_
  refine x_dr1 ?_
  refine x_dr2 ?_
  refine x_dr3 ?_
  refine x_dr4 ?_
  refine x_dr5 ?_
  refine x_dr6 ?_
  exact x_callV 129 y0 [.int y1, .int y2] [] dX5_turnOnce_126 rfl lk_3_addLayer ⟨wd550, wd551, wd552⟩ ⟨by decide, by decide⟩ (recvO cf3 (fun _ => s_y0)) rfl rfl (Nat.le_of_ble_eq_true rfl) (Nat.le_of_ble_eq_true rfl) (by decide) (by decide) kk
set_option maxRecDepth 20000 in
theorem B5_turnOnce_129 {ω : Om} {h : AH} {Q : Option Value → AH → Prop} {u0 : Option Value} {u1 : Option Value} {u2 : Option Value} {u3 : Option Value} {u4 : Option Value} {u5 : Option Value} {u6 : Option Value} (hw : ω.2.2.2.1 = true) (hq : Q none h) : Ex ω M5_turnOnce 129 [u0, u1, u2, u3, u4, u5, u6] [] h 0 0 Q := by
  refine x_dr0 ?_
  refine x_dr1 ?_
  refine x_dr2 ?_
  refine x_dr3 ?_
  refine x_dr4 ?_
  refine x_dr5 ?_
  refine x_dr6 ?_
  exact x_vret dX5_turnOnce_129 rfl (Nat.zero_le _) (Nat.zero_le _) hq
set_option maxRecDepth 20000 in
theorem B5_fetchFilm_0 {ω : Om} {h : AH} {Q : Option Value → AH → Prop} {x0 : Nat} {x1 : Int32} {x2 : Int32} {x3 : Nat} {u4 : Option Value} {u5 : Option Value} (hw : ω.2.2.2.1 = true) (kf : Ex ω M5_fetchFilm 3 [some (.ref x0), some (.int x1), some (.int x2), some (.ref x3), some (.int (nI 0)), none] [] h 0 0 Q) : Ex ω M5_fetchFilm 0 [some (.ref x0), some (.int x1), some (.int x2), some (.ref x3), u4, u5] [] h 0 0 Q := by
  refine x_dr4 ?_
  refine x_dr5 ?_
  refine x_iconst (nI 0) 1 dX5_fetchFilm_0 rfl rfl ?_
  refine x_istore4 3 dX5_fetchFilm_1 rfl (by decide) rfl ?_
  exact kf
set_option maxRecDepth 20000 in
theorem B5_fetchFilm_3 {ω : Om} {h : AH} {Q : Option Value → AH → Prop} {x0 : Nat} {x1 : Int32} {x2 : Int32} {x3 : Nat} {x4 : Int32} {u5 : Option Value} (hw : ω.2.2.2.1 = true) (kt : (nI 1000000) ≤ x4 → Ex ω M5_fetchFilm 130 [some (.ref x0), some (.int x1), some (.int x2), some (.ref x3), some (.int x4), none] [] h 0 0 Q) (kf : ¬ (nI 1000000) ≤ x4 → Ex ω M5_fetchFilm 10 [some (.ref x0), some (.int x1), some (.int x2), some (.ref x3), some (.int x4), none] [] h 0 0 Q) : Ex ω M5_fetchFilm 3 [some (.ref x0), some (.int x1), some (.int x2), some (.ref x3), some (.int x4), u5] [] h 0 0 Q := by
  refine x_dr5 ?_
  refine x_iload4 5 dX5_fetchFilm_3 rfl ?_
  refine x_ldc (nI 1000000) 7 dX5_fetchFilm_5 rfl wd435 ?_
  exact x_icmp_ge 10 130 dX5_fetchFilm_7 rfl (by decide) kt kf
set_option maxRecDepth 20000 in
theorem B5_fetchFilm_10 {ω : Om} {h : AH} {Q : Option Value → AH → Prop} {x0 : Nat} {x1 : Int32} {x2 : Int32} {x3 : Nat} {x4 : Int32} {u5 : Option Value} (hw : ω.2.2.2.1 = true) (s_x0 : gs h x0 = some (5, 11)) (kt : (gi h x0 1) ≤ 0 → Ex ω M5_fetchFilm 130 [some (.ref x0), some (.int x1), some (.int x2), some (.ref x3), some (.int x4), none] [] h 0 0 Q) (kf : ¬ (gi h x0 1) ≤ 0 → Ex ω M5_fetchFilm 17 [some (.ref x0), some (.int x1), some (.int x2), some (.ref x3), some (.int x4), none] [] h 0 0 Q) : Ex ω M5_fetchFilm 10 [some (.ref x0), some (.int x1), some (.int x2), some (.ref x3), some (.int x4), u5] [] h 0 0 Q := by
  refine x_dr5 ?_
  refine x_aload0 11 dX5_fetchFilm_10 rfl ?_
  refine x_getI cf5 1 14 dX5_fetchFilm_11 rfl wd100 (fun _ => s_x0) (by decide) rfl ?_
  exact x_if_le 17 130 dX5_fetchFilm_14 rfl (by decide) kt kf
set_option maxRecDepth 20000 in
theorem B5_fetchFilm_17 {ω : Om} {h : AH} {Q : Option Value → AH → Prop} {x0 : Nat} {x1 : Int32} {x2 : Int32} {x3 : Nat} {x4 : Int32} {u5 : Option Value} (hw : ω.2.2.2.1 = true) (s_x0 : gs h x0 = some (5, 11)) (kk : Ex ω M4_rest 0 [some (.ref (gr h (gr h x0 0) 0))] [] h 0 0 (fun v h' => Ex ω M5_fetchFilm 26 [some (.ref x0), some (.int x1), some (.int x2), some (.ref x3), some (.int x4), none] (v.toList ++ []) h' 0 0 Q)) : Ex ω M5_fetchFilm 17 [some (.ref x0), some (.int x1), some (.int x2), some (.ref x3), some (.int x4), u5] [] h 0 0 Q := by
  refine x_dr5 ?_
  refine x_aload0 18 dX5_fetchFilm_17 rfl ?_
  refine x_getR cf5 0 21 hw dX5_fetchFilm_18 rfl wd35 (fun _ => s_x0) (by decide) (by decide) rfl ?_
  refine x_iconst (nI 0) 22 dX5_fetchFilm_21 rfl rfl ?_
  refine x_aald arK12 0 23 hw dX5_fetchFilm_22 rfl (SH.fld hw (fun _ => s_x0) 0 (Nat.le_of_ble_eq_true rfl) rfl rfl) (vp_c (by decide)) rfl ?_
  exact x_callV 26 (gr h (gr h x0 0) 0) [] [] dX5_fetchFilm_23 rfl lk_4_rest ⟨wd520, wd521, wd522⟩ ⟨by decide, by decide⟩ (recvO cf4 (SH.elt hw (SH.fld hw (fun _ => s_x0) 0 (Nat.le_of_ble_eq_true rfl) rfl rfl) (vp_c (i := nI 0) (by decide)) (fun _ => rfl) (fun _ => rfl))) rfl rfl (Nat.le_of_ble_eq_true rfl) (Nat.le_of_ble_eq_true rfl) (by decide) (by decide) kk
set_option maxRecDepth 20000 in
theorem B5_fetchFilm_26 {ω : Om} {h : AH} {Q : Option Value → AH → Prop} {x0 : Nat} {x1 : Int32} {x2 : Int32} {x3 : Nat} {x4 : Int32} {u5 : Option Value} {y0 : Int32} (hw : ω.2.2.2.1 = true) (kt : x1 ≤ y0 → Ex ω M5_fetchFilm 38 [some (.ref x0), some (.int x1), some (.int x2), some (.ref x3), some (.int x4), none] [] h 0 0 Q) (kf : ¬ x1 ≤ y0 → Ex ω M5_fetchFilm 30 [some (.ref x0), some (.int x1), some (.int x2), some (.ref x3), some (.int x4), none] [] h 0 0 Q) : Ex ω M5_fetchFilm 26 [some (.ref x0), some (.int x1), some (.int x2), some (.ref x3), some (.int x4), u5] [.int y0] h 0 0 Q := by
  refine x_dr5 ?_
  refine x_iload1 27 dX5_fetchFilm_26 rfl ?_
  exact x_icmp_ge 30 38 dX5_fetchFilm_27 rfl (by decide) kt kf
set_option maxRecDepth 20000 in
theorem B5_fetchFilm_30 {ω : Om} {h : AH} {Q : Option Value → AH → Prop} {x0 : Nat} {x1 : Int32} {x2 : Int32} {x3 : Nat} {x4 : Int32} {u5 : Option Value} (hw : ω.2.2.2.1 = true) (s_x0 : gs h x0 = some (5, 11)) (kk : Ex ω M5_changeRoll 0 [some (.ref x0), some (.ref x3)] [] h 0 0 (fun v h' => Ex ω M5_fetchFilm 35 [some (.ref x0), some (.int x1), some (.int x2), some (.ref x3), some (.int x4), none] (v.toList ++ []) h' 0 0 Q)) : Ex ω M5_fetchFilm 30 [some (.ref x0), some (.int x1), some (.int x2), some (.ref x3), some (.int x4), u5] [] h 0 0 Q := by
  refine x_dr5 ?_
  refine x_aload0 31 dX5_fetchFilm_30 rfl ?_
  refine x_aload3 32 dX5_fetchFilm_31 rfl ?_
  exact x_callV 35 x0 [.ref x3] [] dX5_fetchFilm_32 rfl lk_5_changeRoll ⟨wd524, wd525, wd526⟩ ⟨by decide, by decide⟩ (recvO cf5 (fun _ => s_x0)) rfl rfl (Nat.le_of_ble_eq_true rfl) (Nat.le_of_ble_eq_true rfl) (by decide) (by decide) kk
set_option maxRecDepth 20000 in
theorem B5_fetchFilm_35 {ω : Om} {h : AH} {Q : Option Value → AH → Prop} {x0 : Nat} {x1 : Int32} {x2 : Int32} {x3 : Nat} {x4 : Int32} {u5 : Option Value} (hw : ω.2.2.2.1 = true) (kt : Ex ω M5_fetchFilm 124 [some (.ref x0), some (.int x1), some (.int x2), some (.ref x3), some (.int x4), none] [] h 0 0 Q) : Ex ω M5_fetchFilm 35 [some (.ref x0), some (.int x1), some (.int x2), some (.ref x3), some (.int x4), u5] [] h 0 0 Q := by
  refine x_dr5 ?_
  exact x_goto 124 dX5_fetchFilm_35 (by decide) kt
set_option maxRecDepth 20000 in
theorem B5_fetchFilm_38 {ω : Om} {h : AH} {Q : Option Value → AH → Prop} {x0 : Nat} {x1 : Int32} {x2 : Int32} {x3 : Nat} {x4 : Int32} {u5 : Option Value} (hw : ω.2.2.2.1 = true) (s_x0 : gs h x0 = some (5, 11)) (kk : Ex ω M4_breakingPlace 0 [some (.ref (gr h (gr h x0 0) 0)), some (.int x1), some (.int x2), none] [] h 0 0 (fun v h' => Ex ω M5_fetchFilm 49 [some (.ref x0), some (.int x1), some (.int x2), some (.ref x3), some (.int x4), none] (v.toList ++ []) h' 0 0 Q)) : Ex ω M5_fetchFilm 38 [some (.ref x0), some (.int x1), some (.int x2), some (.ref x3), some (.int x4), u5] [] h 0 0 Q := by
  refine x_dr5 ?_
  refine x_aload0 39 dX5_fetchFilm_38 rfl ?_
  refine x_getR cf5 0 42 hw dX5_fetchFilm_39 rfl wd35 (fun _ => s_x0) (by decide) (by decide) rfl ?_
  refine x_iconst (nI 0) 43 dX5_fetchFilm_42 rfl rfl ?_
  refine x_aald arK12 0 44 hw dX5_fetchFilm_43 rfl (SH.fld hw (fun _ => s_x0) 0 (Nat.le_of_ble_eq_true rfl) rfl rfl) (vp_c (by decide)) rfl ?_
  refine x_iload1 45 dX5_fetchFilm_44 rfl ?_
  refine x_iload2 46 dX5_fetchFilm_45 rfl ?_
  exact x_callV 49 (gr h (gr h x0 0) 0) [.int x1, .int x2] [] dX5_fetchFilm_46 rfl lk_4_breakingPlace ⟨wd534, wd535, wd536⟩ ⟨by decide, by decide⟩ (recvO cf4 (SH.elt hw (SH.fld hw (fun _ => s_x0) 0 (Nat.le_of_ble_eq_true rfl) rfl rfl) (vp_c (i := nI 0) (by decide)) (fun _ => rfl) (fun _ => rfl))) rfl rfl (Nat.le_of_ble_eq_true rfl) (Nat.le_of_ble_eq_true rfl) (by decide) (by decide) kk
set_option maxRecDepth 20000 in
theorem B5_fetchFilm_49 {ω : Om} {h : AH} {Q : Option Value → AH → Prop} {x0 : Nat} {x1 : Int32} {x2 : Int32} {x3 : Nat} {x4 : Int32} {u5 : Option Value} {y0 : Int32} (hw : ω.2.2.2.1 = true) (kt : ¬ y0 = ((-1)) → Ex ω M5_fetchFilm 104 [some (.ref x0), some (.int x1), some (.int x2), some (.ref x3), some (.int x4), some (.int y0)] [] h 0 0 Q) (kf : y0 = ((-1)) → Ex ω M5_fetchFilm 57 [some (.ref x0), some (.int x1), some (.int x2), some (.ref x3), some (.int x4), some (.int y0)] [] h 0 0 Q) : Ex ω M5_fetchFilm 49 [some (.ref x0), some (.int x1), some (.int x2), some (.ref x3), some (.int x4), u5] [.int y0] h 0 0 Q := by
  refine x_dr5 ?_
  refine x_istore5 51 dX5_fetchFilm_49 rfl (by decide) rfl ?_
  refine x_iload5 53 dX5_fetchFilm_51 rfl ?_
  refine x_iconst ((-1)) 54 dX5_fetchFilm_53 rfl rfl ?_
  exact x_icmp_ne 57 104 dX5_fetchFilm_54 rfl (by decide) kt kf
set_option maxRecDepth 20000 in
theorem B5_fetchFilm_57 {ω : Om} {h : AH} {Q : Option Value → AH → Prop} {x0 : Nat} {x1 : Int32} {u2 : Option Value} {x3 : Nat} {u4 : Option Value} {u5 : Option Value} (hw : ω.2.2.2.1 = true) (s_x0 : gs h x0 = some (5, 11)) (s_x3 : gs h x3 = some (3, 15)) (kf : Ex ω M5_fetchFilm 82 [some (.ref x0), some (.int x1), none, some (.ref x3), none, none] [] (si (si h (gr h (gr h x0 0) 0) 2 ((gi h (gr h (gr h x0 0) 0) 2) + x1)) x3 5 ((gi (si h (gr h (gr h x0 0) 0) 2 ((gi h (gr h (gr h x0 0) 0) 2) + x1)) x3 5) + x1)) 0 0 Q) : Ex ω M5_fetchFilm 57 [some (.ref x0), some (.int x1), u2, some (.ref x3), u4, u5] [] h 0 0 Q := by
  refine x_dr2 ?_
  refine x_dr4 ?_
  refine x_dr5 ?_
  refine x_aload0 58 dX5_fetchFilm_57 rfl ?_
  refine x_getR cf5 0 61 hw dX5_fetchFilm_58 rfl wd35 (fun _ => s_x0) (by decide) (by decide) rfl ?_
  refine x_iconst (nI 0) 62 dX5_fetchFilm_61 rfl rfl ?_
  refine x_aald arK12 0 63 hw dX5_fetchFilm_62 rfl (SH.fld hw (fun _ => s_x0) 0 (Nat.le_of_ble_eq_true rfl) rfl rfl) (vp_c (by decide)) rfl ?_
  refine x_dup 64 dX5_fetchFilm_63 rfl rfl ?_
  refine x_getI cf4 2 67 dX5_fetchFilm_64 rfl wd515 (SH.elt hw (SH.fld hw (fun _ => s_x0) 0 (Nat.le_of_ble_eq_true rfl) rfl rfl) (vp_c (i := nI 0) (by decide)) (fun _ => rfl) (fun _ => rfl)) (by decide) rfl ?_
  refine x_iload1 68 dX5_fetchFilm_67 rfl ?_
  refine x_iadd 69 dX5_fetchFilm_68 rfl ?_
  refine x_putI cf4 2 72 dX5_fetchFilm_69 rfl wd515 (SH.elt hw (SH.fld hw (fun _ => s_x0) 0 (Nat.le_of_ble_eq_true rfl) rfl rfl) (vp_c (i := nI 0) (by decide)) (fun _ => rfl) (fun _ => rfl)) (by decide) rfl rfl ?_
  refine x_aload3 73 dX5_fetchFilm_72 rfl ?_
  refine x_dup 74 dX5_fetchFilm_73 rfl rfl ?_
  refine x_getI cf3 5 77 dX5_fetchFilm_74 rfl wd516 (fun _ => s_x3) (by decide) rfl ?_
  refine x_iload1 78 dX5_fetchFilm_77 rfl ?_
  refine x_iadd 79 dX5_fetchFilm_78 rfl ?_
  refine x_putI cf3 5 82 dX5_fetchFilm_79 rfl wd516 (fun _ => s_x3) (by decide) rfl rfl ?_
  exact kf
set_option maxRecDepth 20000 in
theorem B5_fetchFilm_82 {ω : Om} {h : AH} {Q : Option Value → AH → Prop} {x0 : Nat} {x1 : Int32} {u2 : Option Value} {x3 : Nat} {u4 : Option Value} {u5 : Option Value} (hw : ω.2.2.2.1 = true) (s_x3 : gs h x3 = some (3, 15)) (s_x0 : gs h x0 = some (5, 11)) (hq : Q (some (.int (nI 0))) (si h x3 12 ((gi h x3 12) + (x1 * (gi h (gr h (gr h x0 0) 0) 1))))) : Ex ω M5_fetchFilm 82 [some (.ref x0), some (.int x1), u2, some (.ref x3), u4, u5] [] h 0 0 Q := by
  refine x_dr2 ?_
  refine x_dr4 ?_
  refine x_dr5 ?_
  refine x_aload3 83 dX5_fetchFilm_82 rfl ?_
  refine x_dup 84 dX5_fetchFilm_83 rfl rfl ?_
  refine x_getI cf3 12 87 dX5_fetchFilm_84 rfl wd517 (fun _ => s_x3) (by decide) rfl ?_
  refine x_iload1 88 dX5_fetchFilm_87 rfl ?_
  refine x_aload0 89 dX5_fetchFilm_88 rfl ?_
  refine x_getR cf5 0 92 hw dX5_fetchFilm_89 rfl wd35 (fun _ => s_x0) (by decide) (by decide) rfl ?_
  refine x_iconst (nI 0) 93 dX5_fetchFilm_92 rfl rfl ?_
  refine x_aald arK12 0 94 hw dX5_fetchFilm_93 rfl (SH.fld hw (fun _ => s_x0) 0 (Nat.le_of_ble_eq_true rfl) rfl rfl) (vp_c (by decide)) rfl ?_
  refine x_getI cf4 1 97 dX5_fetchFilm_94 rfl wd518 (SH.elt hw (SH.fld hw (fun _ => s_x0) 0 (Nat.le_of_ble_eq_true rfl) rfl rfl) (vp_c (i := nI 0) (by decide)) (fun _ => rfl) (fun _ => rfl)) (by decide) rfl ?_
  refine x_imul 98 dX5_fetchFilm_97 rfl ?_
  refine x_iadd 99 dX5_fetchFilm_98 rfl ?_
  refine x_putI cf3 12 102 dX5_fetchFilm_99 rfl wd517 (fun _ => s_x3) (by decide) rfl rfl ?_
  refine x_iconst (nI 0) 103 dX5_fetchFilm_102 rfl rfl ?_
  exact x_iret dX5_fetchFilm_103 rfl (Nat.zero_le _) (Nat.zero_le _) hq
set_option maxRecDepth 20000 in
theorem B5_fetchFilm_104 {ω : Om} {h : AH} {Q : Option Value → AH → Prop} {x0 : Nat} {x1 : Int32} {x2 : Int32} {x3 : Nat} {x4 : Int32} {x5 : Int32} (hw : ω.2.2.2.1 = true) (s_x0 : gs h x0 = some (5, 11)) (kk : Ex ω M5_breakFilm 0 [some (.ref x0), some (.int x5), some (.ref x3), none, none] [] h 0 0 (fun v h' => Ex ω M5_fetchFilm 111 [some (.ref x0), some (.int x1), some (.int x2), some (.ref x3), some (.int x4), some (.int x5)] (v.toList ++ []) h' 0 0 Q)) : Ex ω M5_fetchFilm 104 [some (.ref x0), some (.int x1), some (.int x2), some (.ref x3), some (.int x4), some (.int x5)] [] h 0 0 Q := by
  refine x_aload0 105 dX5_fetchFilm_104 rfl ?_
  refine x_iload5 107 dX5_fetchFilm_105 rfl ?_
  refine x_aload3 108 dX5_fetchFilm_107 rfl ?_
  exact x_callV 111 x0 [.int x5, .ref x3] [] dX5_fetchFilm_108 rfl lk_5_breakFilm ⟨wd538, wd539, wd540⟩ ⟨by decide, by decide⟩ (recvO cf5 (fun _ => s_x0)) rfl rfl (Nat.le_of_ble_eq_true rfl) (Nat.le_of_ble_eq_true rfl) (by decide) (by decide) kk
set_option maxRecDepth 20000 in
theorem B5_fetchFilm_111 {ω : Om} {h : AH} {Q : Option Value → AH → Prop} {x0 : Nat} {x1 : Int32} {x2 : Int32} {x3 : Nat} {x4 : Int32} {u5 : Option Value} (hw : ω.2.2.2.1 = true) (s_x3 : gs h x3 = some (3, 15)) (s_x0 : gs h x0 = some (5, 11)) (kt : (gi h x3 9) ≤ (gi h x0 10) → Ex ω M5_fetchFilm 124 [some (.ref x0), some (.int x1), some (.int x2), some (.ref x3), some (.int x4), none] [] h 0 0 Q) (kf : ¬ (gi h x3 9) ≤ (gi h x0 10) → Ex ω M5_fetchFilm 122 [some (.ref x0), some (.int x1), some (.int x2), some (.ref x3), some (.int x4), none] [] h 0 0 Q) : Ex ω M5_fetchFilm 111 [some (.ref x0), some (.int x1), some (.int x2), some (.ref x3), some (.int x4), u5] [] h 0 0 Q := by
  refine x_dr5 ?_
  refine x_aload3 112 dX5_fetchFilm_111 rfl ?_
  refine x_getI cf3 9 115 dX5_fetchFilm_112 rfl wd519 (fun _ => s_x3) (by decide) rfl ?_
  refine x_aload0 116 dX5_fetchFilm_115 rfl ?_
  refine x_getI cf5 10 119 dX5_fetchFilm_116 rfl wd53 (fun _ => s_x0) (by decide) rfl ?_
  exact x_icmp_le 122 124 dX5_fetchFilm_119 rfl (by decide) kt kf
set_option maxRecDepth 20000 in
theorem B5_fetchFilm_122 {ω : Om} {h : AH} {Q : Option Value → AH → Prop} {u0 : Option Value} {u1 : Option Value} {u2 : Option Value} {u3 : Option Value} {u4 : Option Value} {u5 : Option Value} (hw : ω.2.2.2.1 = true) (hq : Q (some (.int (nI 2))) h) : Ex ω M5_fetchFilm 122 [u0, u1, u2, u3, u4, u5] [] h 0 0 Q := by
  refine x_dr0 ?_
  refine x_dr1 ?_
  refine x_dr2 ?_
  refine x_dr3 ?_
  refine x_dr4 ?_
  refine x_dr5 ?_
  refine x_iconst (nI 2) 123 dX5_fetchFilm_122 rfl rfl ?_
  exact x_iret dX5_fetchFilm_123 rfl (Nat.zero_le _) (Nat.zero_le _) hq
set_option maxRecDepth 20000 in
theorem B5_fetchFilm_124 {ω : Om} {h : AH} {Q : Option Value → AH → Prop} {x0 : Nat} {x1 : Int32} {x2 : Int32} {x3 : Nat} {x4 : Int32} {u5 : Option Value} (hw : ω.2.2.2.1 = true) (kt : Ex ω M5_fetchFilm 3 [some (.ref x0), some (.int x1), some (.int x2), some (.ref x3), some (.int (x4 + (nI 1))), none] [] h 0 0 Q) : Ex ω M5_fetchFilm 124 [some (.ref x0), some (.int x1), some (.int x2), some (.ref x3), some (.int x4), u5] [] h 0 0 Q := by
  refine x_dr5 ?_
  refine x_iinc4 (x4 + (nI 1)) 127 dX5_fetchFilm_124 rfl (by decide) rfl rfl ?_
  exact x_goto 3 dX5_fetchFilm_127 (by decide) kt
set_option maxRecDepth 20000 in
theorem B5_fetchFilm_130 {ω : Om} {h : AH} {Q : Option Value → AH → Prop} {u0 : Option Value} {u1 : Option Value} {u2 : Option Value} {u3 : Option Value} {u4 : Option Value} {u5 : Option Value} (hw : ω.2.2.2.1 = true) (hq : Q (some (.int (nI 1))) h) : Ex ω M5_fetchFilm 130 [u0, u1, u2, u3, u4, u5] [] h 0 0 Q := by
  refine x_dr0 ?_
  refine x_dr1 ?_
  refine x_dr2 ?_
  refine x_dr3 ?_
  refine x_dr4 ?_
  refine x_dr5 ?_
  refine x_iconst (nI 1) 131 dX5_fetchFilm_130 rfl rfl ?_
  exact x_iret dX5_fetchFilm_131 rfl (Nat.zero_le _) (Nat.zero_le _) hq
set_option maxRecDepth 20000 in
theorem B5_changeRoll_0 {ω : Om} {h : AH} {Q : Option Value → AH → Prop} {x0 : Nat} {x1 : Nat} (hw : ω.2.2.2.1 = true) (s_x1 : gs h x1 = some (3, 15)) (s_x0 : gs h x0 = some (5, 11)) (kk : Ex ω M4_rest 0 [some (.ref (gr h (gr h x0 0) 0))] [] h 0 0 (fun v h' => Ex ω M5_changeRoll 14 [some (.ref x0), some (.ref x1)] (v.toList ++ [.int (gi h x1 6), .ref x1]) h' 0 0 Q)) : Ex ω M5_changeRoll 0 [some (.ref x0), some (.ref x1)] [] h 0 0 Q := by
  refine x_aload1 1 dX5_changeRoll_0 rfl ?_
  refine x_dup 2 dX5_changeRoll_1 rfl rfl ?_
  refine x_getI cf3 6 5 dX5_changeRoll_2 rfl wd528 (fun _ => s_x1) (by decide) rfl ?_
  refine x_aload0 6 dX5_changeRoll_5 rfl ?_
  refine x_getR cf5 0 9 hw dX5_changeRoll_6 rfl wd35 (fun _ => s_x0) (by decide) (by decide) rfl ?_
  refine x_iconst (nI 0) 10 dX5_changeRoll_9 rfl rfl ?_
  refine x_aald arK12 0 11 hw dX5_changeRoll_10 rfl (SH.fld hw (fun _ => s_x0) 0 (Nat.le_of_ble_eq_true rfl) rfl rfl) (vp_c (by decide)) rfl ?_
  exact x_callV 14 (gr h (gr h x0 0) 0) [] [.int (gi h x1 6), .ref x1] dX5_changeRoll_11 rfl lk_4_rest ⟨wd520, wd521, wd522⟩ ⟨by decide, by decide⟩ (recvO cf4 (SH.elt hw (SH.fld hw (fun _ => s_x0) 0 (Nat.le_of_ble_eq_true rfl) rfl rfl) (vp_c (i := nI 0) (by decide)) (fun _ => rfl) (fun _ => rfl))) rfl rfl (Nat.le_of_ble_eq_true rfl) (Nat.le_of_ble_eq_true rfl) (by decide) (by decide) kk
set_option maxRecDepth 20000 in
theorem B5_changeRoll_14 {ω : Om} {h : AH} {Q : Option Value → AH → Prop} {x0 : Nat} {x1 : Nat} {y0 : Nat} {y1 : Int32} {y2 : Int32} (hw : ω.2.2.2.1 = true) (s_y0 : gs h y0 = some (3, 15)) (s_x1 : gs h x1 = some (3, 15)) (kf : Ex ω M5_changeRoll 39 [some (.ref x0), some (.ref x1)] [] (si (si (si h y0 6 (y1 + y2)) x1 10 ((gi (si h y0 6 (y1 + y2)) x1 10) + (nI 1))) x1 11 ((gi (si (si h y0 6 (y1 + y2)) x1 10 ((gi (si h y0 6 (y1 + y2)) x1 10) + (nI 1))) x1 11) + (nI 60))) 0 0 Q) : Ex ω M5_changeRoll 14 [some (.ref x0), some (.ref x1)] [.int y2, .int y1, .ref y0] h 0 0 Q := by
  refine x_iadd 15 dX5_changeRoll_14 rfl ?_
  refine x_putI cf3 6 18 dX5_changeRoll_15 rfl wd528 (fun _ => s_y0) (by decide) rfl rfl ?_
  refine x_aload1 19 dX5_changeRoll_18 rfl ?_
  refine x_dup 20 dX5_changeRoll_19 rfl rfl ?_
  refine x_getI cf3 10 23 dX5_changeRoll_20 rfl wd529 (fun _ => s_x1) (by decide) rfl ?_
  refine x_iconst (nI 1) 24 dX5_changeRoll_23 rfl rfl ?_
  refine x_iadd 25 dX5_changeRoll_24 rfl ?_
  refine x_putI cf3 10 28 dX5_changeRoll_25 rfl wd529 (fun _ => s_x1) (by decide) rfl rfl ?_
  refine x_aload1 29 dX5_changeRoll_28 rfl ?_
  refine x_dup 30 dX5_changeRoll_29 rfl rfl ?_
  refine x_getI cf3 11 33 dX5_changeRoll_30 rfl wd493 (fun _ => s_x1) (by decide) rfl ?_
  refine x_bipush (nI 60) 35 dX5_changeRoll_33 rfl rfl ?_
  refine x_iadd 36 dX5_changeRoll_35 rfl ?_
  refine x_putI cf3 11 39 dX5_changeRoll_36 rfl wd493 (fun _ => s_x1) (by decide) rfl rfl ?_
  exact kf
set_option maxRecDepth 20000 in
theorem B5_changeRoll_39 {ω : Om} {h : AH} {Q : Option Value → AH → Prop} {x0 : Nat} {u1 : Option Value} (hw : ω.2.2.2.1 = true) (s_x0 : gs h x0 = some (5, 11)) (kk : Ex ω M5_removePresentRoll 0 [some (.ref x0), none, none] [] h 0 0 (fun v h' => Ex ω M5_changeRoll 43 [some (.ref x0), none] (v.toList ++ []) h' 0 0 Q)) : Ex ω M5_changeRoll 39 [some (.ref x0), u1] [] h 0 0 Q := by
  refine x_dr1 ?_
  refine x_aload0 40 dX5_changeRoll_39 rfl ?_
  exact x_callV 43 x0 [] [] dX5_changeRoll_40 rfl lk_5_removePresentRoll ⟨wd530, wd531, wd532⟩ ⟨by decide, by decide⟩ (recvO cf5 (fun _ => s_x0)) rfl rfl (Nat.le_of_ble_eq_true rfl) (Nat.le_of_ble_eq_true rfl) (by decide) (by decide) kk
set_option maxRecDepth 20000 in
theorem B5_changeRoll_43 {ω : Om} {h : AH} {Q : Option Value → AH → Prop} {u0 : Option Value} {u1 : Option Value} (hw : ω.2.2.2.1 = true) (hq : Q none h) : Ex ω M5_changeRoll 43 [u0, u1] [] h 0 0 Q := by
  refine x_dr0 ?_
  refine x_dr1 ?_
  exact x_vret dX5_changeRoll_43 rfl (Nat.zero_le _) (Nat.zero_le _) hq
set_option maxRecDepth 20000 in
theorem B5_breakFilm_0 {ω : Om} {h : AH} {Q : Option Value → AH → Prop} {x0 : Nat} {x1 : Int32} {x2 : Nat} {u3 : Option Value} {u4 : Option Value} (hw : ω.2.2.2.1 = true) (s_x0 : gs h x0 = some (5, 11)) (s_x2 : gs h x2 = some (3, 15)) (kk : Ex ω M4_rest 0 [some (.ref (gr h (gr h x0 0) 0))] [] (si (si h x2 7 ((gi h x2 7) + (x1 - (gi h (gr h (gr h x0 0) 0) 2)))) (gr h (gr h x0 0) 0) 2 x1) 0 0 (fun v h' => Ex ω M5_breakFilm 35 [some (.ref x0), some (.int x1), some (.ref x2), some (.ref (gr h (gr h x0 0) 0)), none] (v.toList ++ [.int (gi (si (si h x2 7 ((gi h x2 7) + (x1 - (gi h (gr h (gr h x0 0) 0) 2)))) (gr h (gr h x0 0) 0) 2 x1) x0 9)]) h' 0 0 Q)) : Ex ω M5_breakFilm 0 [some (.ref x0), some (.int x1), some (.ref x2), u3, u4] [] h 0 0 Q := by
  refine x_dr3 ?_
  refine x_dr4 ?_
  refine x_aload0 1 dX5_breakFilm_0 rfl ?_
  refine x_getR cf5 0 4 hw dX5_breakFilm_1 rfl wd35 (fun _ => s_x0) (by decide) (by decide) rfl ?_
  refine x_iconst (nI 0) 5 dX5_breakFilm_4 rfl rfl ?_
  refine x_aald arK12 0 6 hw dX5_breakFilm_5 rfl (SH.fld hw (fun _ => s_x0) 0 (Nat.le_of_ble_eq_true rfl) rfl rfl) (vp_c (by decide)) rfl ?_
  refine x_astore3 7 dX5_breakFilm_6 rfl (by decide) rfl ?_
  refine x_aload2 8 dX5_breakFilm_7 rfl ?_
  refine x_dup 9 dX5_breakFilm_8 rfl rfl ?_
  refine x_getI cf3 7 12 dX5_breakFilm_9 rfl wd542 (fun _ => s_x2) (by decide) rfl ?_
  refine x_iload1 13 dX5_breakFilm_12 rfl ?_
  refine x_aload3 14 dX5_breakFilm_13 rfl ?_
  refine x_getI cf4 2 17 dX5_breakFilm_14 rfl wd515 (SH.elt hw (SH.fld hw (fun _ => s_x0) 0 (Nat.le_of_ble_eq_true rfl) rfl rfl) (vp_c (i := nI 0) (by decide)) (fun _ => rfl) (fun _ => rfl)) (by decide) rfl ?_
  refine x_isub 18 dX5_breakFilm_17 rfl ?_
  refine x_iadd 19 dX5_breakFilm_18 rfl ?_
  refine x_putI cf3 7 22 dX5_breakFilm_19 rfl wd542 (fun _ => s_x2) (by decide) rfl rfl ?_
  refine x_aload3 23 dX5_breakFilm_22 rfl ?_
  refine x_iload1 24 dX5_breakFilm_23 rfl ?_
  refine x_putI cf4 2 27 dX5_breakFilm_24 rfl wd515 (SH.elt hw (SH.fld hw (fun _ => s_x0) 0 (Nat.le_of_ble_eq_true rfl) rfl rfl) (vp_c (i := nI 0) (by decide)) (fun _ => rfl) (fun _ => rfl)) (by decide) rfl rfl ?_
  refine x_aload0 28 dX5_breakFilm_27 rfl ?_
  refine x_getI cf5 9 31 dX5_breakFilm_28 rfl wd52 (fun _ => s_x0) (by decide) rfl ?_
  refine x_aload3 32 dX5_breakFilm_31 rfl ?_
  exact x_callV 35 (gr h (gr h x0 0) 0) [] [.int (gi (si (si h x2 7 ((gi h x2 7) + (x1 - (gi h (gr h (gr h x0 0) 0) 2)))) (gr h (gr h x0 0) 0) 2 x1) x0 9)] dX5_breakFilm_32 rfl lk_4_rest ⟨wd520, wd521, wd522⟩ ⟨by decide, by decide⟩ (recvO cf4 (SH.elt hw (SH.fld hw (fun _ => s_x0) 0 (Nat.le_of_ble_eq_true rfl) rfl rfl) (vp_c (i := nI 0) (by decide)) (fun _ => rfl) (fun _ => rfl))) rfl rfl (Nat.le_of_ble_eq_true rfl) (Nat.le_of_ble_eq_true rfl) (by decide) (by decide) kk
set_option maxRecDepth 20000 in
theorem B5_breakFilm_35 {ω : Om} {h : AH} {Q : Option Value → AH → Prop} {u0 : Option Value} {u1 : Option Value} {x2 : Nat} {x3 : Nat} {u4 : Option Value} {y0 : Int32} {y1 : Int32} (hw : ω.2.2.2.1 = true) (s_x2 : gs h x2 = some (3, 15)) (s_x3 : gs h x3 = some (4, 6)) (kf : Ex ω M5_breakFilm 62 [none, none, some (.ref x2), some (.ref x3), some (.int (if y1 < y0 then y1 else y0))] [] (si (si h x2 8 ((gi h x2 8) + (if y1 < y0 then y1 else y0))) x3 2 ((gi (si h x2 8 ((gi h x2 8) + (if y1 < y0 then y1 else y0))) x3 2) + (if y1 < y0 then y1 else y0))) 0 0 Q) : Ex ω M5_breakFilm 35 [u0, u1, some (.ref x2), some (.ref x3), u4] [.int y1, .int y0] h 0 0 Q := by
  refine x_dr0 ?_
  refine x_dr1 ?_
  refine x_dr4 ?_
  refine x_mmin 38 dX5_breakFilm_35 rfl mw_RX5_85 (by decide) (Nat.le_of_ble_eq_true rfl) (Nat.zero_le _) (Nat.zero_le _) ?_
  refine x_istore4 40 dX5_breakFilm_38 rfl (by decide) rfl ?_
  refine x_aload2 41 dX5_breakFilm_40 rfl ?_
  refine x_dup 42 dX5_breakFilm_41 rfl rfl ?_
  refine x_getI cf3 8 45 dX5_breakFilm_42 rfl wd543 (fun _ => s_x2) (by decide) rfl ?_
  refine x_iload4 47 dX5_breakFilm_45 rfl ?_
  refine x_iadd 48 dX5_breakFilm_47 rfl ?_
  refine x_putI cf3 8 51 dX5_breakFilm_48 rfl wd543 (fun _ => s_x2) (by decide) rfl rfl ?_
  refine x_aload3 52 dX5_breakFilm_51 rfl ?_
  refine x_dup 53 dX5_breakFilm_52 rfl rfl ?_
  refine x_getI cf4 2 56 dX5_breakFilm_53 rfl wd515 (fun _ => s_x3) (by decide) rfl ?_
  refine x_iload4 58 dX5_breakFilm_56 rfl ?_
  refine x_iadd 59 dX5_breakFilm_58 rfl ?_
  refine x_putI cf4 2 62 dX5_breakFilm_59 rfl wd515 (fun _ => s_x3) (by decide) rfl rfl ?_
  exact kf
set_option maxRecDepth 20000 in
theorem B5_breakFilm_62 {ω : Om} {h : AH} {Q : Option Value → AH → Prop} {u0 : Option Value} {u1 : Option Value} {x2 : Nat} {u3 : Option Value} {u4 : Option Value} (hw : ω.2.2.2.1 = true) (s_x2 : gs h x2 = some (3, 15)) (hq : Q none (si (si h x2 9 ((gi h x2 9) + (nI 1))) x2 11 ((gi (si h x2 9 ((gi h x2 9) + (nI 1))) x2 11) + (nI 40)))) : Ex ω M5_breakFilm 62 [u0, u1, some (.ref x2), u3, u4] [] h 0 0 Q := by
  refine x_dr0 ?_
  refine x_dr1 ?_
  refine x_dr3 ?_
  refine x_dr4 ?_
  refine x_aload2 63 dX5_breakFilm_62 rfl ?_
  refine x_dup 64 dX5_breakFilm_63 rfl rfl ?_
  refine x_getI cf3 9 67 dX5_breakFilm_64 rfl wd519 (fun _ => s_x2) (by decide) rfl ?_
  refine x_iconst (nI 1) 68 dX5_breakFilm_67 rfl rfl ?_
  refine x_iadd 69 dX5_breakFilm_68 rfl ?_
  refine x_putI cf3 9 72 dX5_breakFilm_69 rfl wd519 (fun _ => s_x2) (by decide) rfl rfl ?_
  refine x_aload2 73 dX5_breakFilm_72 rfl ?_
  refine x_dup 74 dX5_breakFilm_73 rfl rfl ?_
  refine x_getI cf3 11 77 dX5_breakFilm_74 rfl wd493 (fun _ => s_x2) (by decide) rfl ?_
  refine x_bipush (nI 40) 79 dX5_breakFilm_77 rfl rfl ?_
  refine x_iadd 80 dX5_breakFilm_79 rfl ?_
  refine x_putI cf3 11 83 dX5_breakFilm_80 rfl wd493 (fun _ => s_x2) (by decide) rfl rfl ?_
  exact x_vret dX5_breakFilm_83 rfl (Nat.zero_le _) (Nat.zero_le _) hq
set_option maxRecDepth 20000 in
theorem B7_append_0 {ω : Om} {h : AH} {Q : Option Value → AH → Prop} {x0 : Nat} {x1 : Int32} (hw : ω.2.2.2.1 = true) (s_x0 : gs h x0 = some (7, 2)) (kt : (nI 100) ≤ (gi h x0 1) → Ex ω M7_append 29 [some (.ref x0), some (.int x1)] [] h 0 0 Q) (kf : ¬ (nI 100) ≤ (gi h x0 1) → Ex ω M7_append 9 [some (.ref x0), some (.int x1)] [] h 0 0 Q) : Ex ω M7_append 0 [some (.ref x0), some (.int x1)] [] h 0 0 Q := by
  refine x_aload0 1 dX7_append_0 rfl ?_
  refine x_getI cf7 1 4 dX7_append_1 rfl wd173 (fun _ => s_x0) (by decide) rfl ?_
  refine x_bipush (nI 100) 6 dX7_append_4 rfl rfl ?_
  exact x_icmp_ge 9 29 dX7_append_6 rfl (by decide) kt kf
set_option maxRecDepth 20000 in
theorem B7_append_9 {ω : Om} {h : AH} {Q : Option Value → AH → Prop} {x0 : Nat} {x1 : Int32} (hw : ω.2.2.2.1 = true) (s_x0 : gs h x0 = some (7, 2)) (i1 : vp_in (gi h x0 1) 100) (kf : Ex ω M7_append 29 [some (.ref x0), some (.int x1)] [] (si (si h (gr h x0 0) (Int32.toNatClampNeg (gi h x0 1)) (vp_nar .char x1)) x0 1 ((gi (si h (gr h x0 0) (Int32.toNatClampNeg (gi h x0 1)) (vp_nar .char x1)) x0 1) + (nI 1))) 0 0 Q) : Ex ω M7_append 9 [some (.ref x0), some (.int x1)] [] h 0 0 Q := by
  refine x_aload0 10 dX7_append_9 rfl ?_
  refine x_getR cf7 0 13 hw dX7_append_10 rfl wd83 (fun _ => s_x0) (by decide) (by decide) rfl ?_
  refine x_aload0 14 dX7_append_13 rfl ?_
  refine x_getI cf7 1 17 dX7_append_14 rfl wd173 (fun _ => s_x0) (by decide) rfl ?_
  refine x_iload1 18 dX7_append_17 rfl ?_
  refine x_cast (Int32.toNatClampNeg (gi h x0 1)) 19 dX7_append_18 rfl (SH.fld hw (fun _ => s_x0) 0 (Nat.le_of_ble_eq_true rfl) rfl rfl) i1 rfl ?_
  refine x_aload0 20 dX7_append_19 rfl ?_
  refine x_dup 21 dX7_append_20 rfl rfl ?_
  refine x_getI cf7 1 24 dX7_append_21 rfl wd173 (fun _ => s_x0) (by decide) rfl ?_
  refine x_iconst (nI 1) 25 dX7_append_24 rfl rfl ?_
  refine x_iadd 26 dX7_append_25 rfl ?_
  refine x_putI cf7 1 29 dX7_append_26 rfl wd173 (fun _ => s_x0) (by decide) rfl rfl ?_
  exact kf
set_option maxRecDepth 20000 in
theorem B7_append_29 {ω : Om} {h : AH} {Q : Option Value → AH → Prop} {u0 : Option Value} {u1 : Option Value} (hw : ω.2.2.2.1 = true) (hq : Q none h) : Ex ω M7_append 29 [u0, u1] [] h 0 0 Q := by
  refine x_dr0 ?_
  refine x_dr1 ?_
  exact x_vret dX7_append_29 rfl (Nat.zero_le _) (Nat.zero_le _) hq
set_option maxRecDepth 20000 in
theorem B7_appendName_0 {ω : Om} {h : AH} {Q : Option Value → AH → Prop} {x0 : Nat} {x1 : Int32} {u2 : Option Value} {u3 : Option Value} (hw : ω.2.2.2.1 = true) (kk : Ex ω M8_nameOf 0 [some (.int x1)] [] h 0 0 (fun v h' => Ex ω M7_appendName 4 [some (.ref x0), some (.int x1), none, none] (v.toList ++ []) h' 0 0 Q)) : Ex ω M7_appendName 0 [some (.ref x0), some (.int x1), u2, u3] [] h 0 0 Q := by
  refine x_dr2 ?_
  refine x_dr3 ?_
  refine x_iload1 1 dX7_appendName_0 rfl ?_
  exact x_callSN (host := "PalletWrapper") 4 [.int x1] [] dX7_appendName_1 rfl lk_8_nameOf ⟨by decide +kernel, wd182⟩ ⟨by decide, by decide⟩ rfl rfl (Nat.le_of_ble_eq_true rfl) (Nat.le_of_ble_eq_true rfl) (by decide) (by decide) kk
set_option maxRecDepth 20000 in
theorem B7_appendName_4 {ω : Om} {h : AH} {Q : Option Value → AH → Prop} {x0 : Nat} {u1 : Option Value} {u2 : Option Value} {u3 : Option Value} {y0 : Nat} (hw : ω.2.2.2.1 = true) (kf : Ex ω M7_appendName 7 [some (.ref x0), none, some (.ref y0), some (.int (nI 0))] [] h 0 0 Q) : Ex ω M7_appendName 4 [some (.ref x0), u1, u2, u3] [.ref y0] h 0 0 Q := by
  refine x_dr1 ?_
  refine x_dr2 ?_
  refine x_dr3 ?_
  refine x_astore2 5 dX7_appendName_4 rfl (by decide) rfl ?_
  refine x_iconst (nI 0) 6 dX7_appendName_5 rfl rfl ?_
  refine x_istore3 7 dX7_appendName_6 rfl (by decide) rfl ?_
  exact kf
set_option maxRecDepth 20000 in
theorem B7_appendName_7 {ω : Om} {h : AH} {Q : Option Value → AH → Prop} {x0 : Nat} {u1 : Option Value} {x2 : Nat} {x3 : Int32} (hw : ω.2.2.2.1 = true) (r_x2 : Recv ω h "java/lang/String" x2) (kk : Ex ω MJ_length 0 [some (.ref x2)] [] h 0 0 (fun v h' => Ex ω M7_appendName 12 [some (.ref x0), none, some (.ref x2), some (.int x3)] (v.toList ++ [.int x3]) h' 0 0 Q)) : Ex ω M7_appendName 7 [some (.ref x0), u1, some (.ref x2), some (.int x3)] [] h 0 0 Q := by
  refine x_dr1 ?_
  refine x_iload3 8 dX7_appendName_7 rfl ?_
  refine x_aload2 9 dX7_appendName_8 rfl ?_
  exact x_callV 12 x2 [] [.int x3] dX7_appendName_9 rfl lk_J_length ⟨wd184, wd185, wd186⟩ ⟨by decide, by decide⟩ r_x2 rfl rfl (Nat.le_of_ble_eq_true rfl) (Nat.le_of_ble_eq_true rfl) (by decide) (by decide) kk
set_option maxRecDepth 20000 in
theorem B7_appendName_12 {ω : Om} {h : AH} {Q : Option Value → AH → Prop} {x0 : Nat} {u1 : Option Value} {x2 : Nat} {x3 : Int32} {y0 : Int32} {y1 : Int32} (hw : ω.2.2.2.1 = true) (kt : y1 ≤ y0 → Ex ω M7_appendName 30 [some (.ref x0), none, some (.ref x2), some (.int x3)] [] h 0 0 Q) (kf : ¬ y1 ≤ y0 → Ex ω M7_appendName 15 [some (.ref x0), none, some (.ref x2), some (.int x3)] [] h 0 0 Q) : Ex ω M7_appendName 12 [some (.ref x0), u1, some (.ref x2), some (.int x3)] [.int y1, .int y0] h 0 0 Q := by
  refine x_dr1 ?_
  exact x_icmp_ge 15 30 dX7_appendName_12 rfl (by decide) kt kf
set_option maxRecDepth 20000 in
theorem B7_appendName_15 {ω : Om} {h : AH} {Q : Option Value → AH → Prop} {x0 : Nat} {u1 : Option Value} {x2 : Nat} {x3 : Int32} (hw : ω.2.2.2.1 = true) (r_x2 : Recv ω h "java/lang/String" x2) (kk : Ex ω MJ_charAt 0 [some (.ref x2), some (.int x3)] [] h 0 0 (fun v h' => Ex ω M7_appendName 21 [some (.ref x0), none, some (.ref x2), some (.int x3)] (v.toList ++ [.ref x0]) h' 0 0 Q)) : Ex ω M7_appendName 15 [some (.ref x0), u1, some (.ref x2), some (.int x3)] [] h 0 0 Q := by
  refine x_dr1 ?_
  refine x_aload0 16 dX7_appendName_15 rfl ?_
  refine x_aload2 17 dX7_appendName_16 rfl ?_
  refine x_iload3 18 dX7_appendName_17 rfl ?_
  exact x_callV 21 x2 [.int x3] [.ref x0] dX7_appendName_18 rfl lk_J_charAt ⟨wd196, wd197, wd198⟩ ⟨by decide, by decide⟩ r_x2 rfl rfl (Nat.le_of_ble_eq_true rfl) (Nat.le_of_ble_eq_true rfl) (by decide) (by decide) kk
set_option maxRecDepth 20000 in
theorem B7_appendName_21 {ω : Om} {h : AH} {Q : Option Value → AH → Prop} {x0 : Nat} {u1 : Option Value} {x2 : Nat} {x3 : Int32} {y0 : Nat} {y1 : Int32} (hw : ω.2.2.2.1 = true) (s_y0 : gs h y0 = some (7, 2)) (kk : Ex ω M7_append 0 [some (.ref y0), some (.int y1)] [] h 0 0 (fun v h' => Ex ω M7_appendName 24 [some (.ref x0), none, some (.ref x2), some (.int x3)] (v.toList ++ []) h' 0 0 Q)) : Ex ω M7_appendName 21 [some (.ref x0), u1, some (.ref x2), some (.int x3)] [.int y1, .ref y0] h 0 0 Q := by
  refine x_dr1 ?_
  exact x_callV 24 y0 [.int y1] [] dX7_appendName_21 rfl lk_7_append ⟨wd356, wd322, wd323⟩ ⟨by decide, by decide⟩ (recvO cf7 (fun _ => s_y0)) rfl rfl (Nat.le_of_ble_eq_true rfl) (Nat.le_of_ble_eq_true rfl) (by decide) (by decide) kk
set_option maxRecDepth 20000 in
theorem B7_appendName_24 {ω : Om} {h : AH} {Q : Option Value → AH → Prop} {x0 : Nat} {u1 : Option Value} {x2 : Nat} {x3 : Int32} (hw : ω.2.2.2.1 = true) (kt : Ex ω M7_appendName 7 [some (.ref x0), none, some (.ref x2), some (.int (x3 + (nI 1)))] [] h 0 0 Q) : Ex ω M7_appendName 24 [some (.ref x0), u1, some (.ref x2), some (.int x3)] [] h 0 0 Q := by
  refine x_dr1 ?_
  refine x_iinc3 (x3 + (nI 1)) 27 dX7_appendName_24 rfl (by decide) rfl rfl ?_
  exact x_goto 7 dX7_appendName_27 (by decide) kt
set_option maxRecDepth 20000 in
theorem B7_appendName_30 {ω : Om} {h : AH} {Q : Option Value → AH → Prop} {u0 : Option Value} {u1 : Option Value} {u2 : Option Value} {u3 : Option Value} (hw : ω.2.2.2.1 = true) (hq : Q none h) : Ex ω M7_appendName 30 [u0, u1, u2, u3] [] h 0 0 Q := by
  refine x_dr0 ?_
  refine x_dr1 ?_
  refine x_dr2 ?_
  refine x_dr3 ?_
  exact x_vret dX7_appendName_30 rfl (Nat.zero_le _) (Nat.zero_le _) hq
set_option maxRecDepth 20000 in
theorem B7_appendAmount_0 {ω : Om} {h : AH} {Q : Option Value → AH → Prop} {x0 : Nat} {x1 : Int32} (hw : ω.2.2.2.1 = true) (kt : x1 < (nI 100) → Ex ω M7_appendAmount 21 [some (.ref x0), some (.int x1)] [] h 0 0 Q) (kf : ¬ x1 < (nI 100) → Ex ω M7_appendAmount 6 [some (.ref x0), some (.int x1)] [] h 0 0 Q) : Ex ω M7_appendAmount 0 [some (.ref x0), some (.int x1)] [] h 0 0 Q := by
  refine x_iload1 1 dX7_appendAmount_0 rfl ?_
  refine x_bipush (nI 100) 3 dX7_appendAmount_1 rfl rfl ?_
  exact x_icmp_lt 6 21 dX7_appendAmount_3 rfl (by decide) kt kf
set_option maxRecDepth 20000 in
theorem B7_appendAmount_6 {ω : Om} {h : AH} {Q : Option Value → AH → Prop} {x0 : Nat} {x1 : Int32} (hw : ω.2.2.2.1 = true) (s_x0 : gs h x0 = some (7, 2)) (kk : Ex ω M7_append 0 [some (.ref x0), some (.int (UInt32.toInt32 (Int32.toUInt32 ((nI 48) + ((x1 / (nI 100)) - (x1 / (nI 100)) / (nI 10) * (nI 10))) % 65536)))] [] h 0 0 (fun v h' => Ex ω M7_appendAmount 21 [some (.ref x0), some (.int x1)] (v.toList ++ []) h' 0 0 Q)) : Ex ω M7_appendAmount 6 [some (.ref x0), some (.int x1)] [] h 0 0 Q := by
  refine x_aload0 7 dX7_appendAmount_6 rfl ?_
  refine x_bipush (nI 48) 9 dX7_appendAmount_7 rfl rfl ?_
  refine x_iload1 10 dX7_appendAmount_9 rfl ?_
  refine x_bipush (nI 100) 12 dX7_appendAmount_10 rfl rfl ?_
  refine x_idiv 13 dX7_appendAmount_12 rfl (by decide) ?_
  refine x_bipush (nI 10) 15 dX7_appendAmount_13 rfl rfl ?_
  refine x_irem 16 dX7_appendAmount_15 rfl (by decide) ?_
  refine x_iadd 17 dX7_appendAmount_16 rfl ?_
  refine x_i2c 18 dX7_appendAmount_17 rfl ?_
  exact x_callV 21 x0 [.int (UInt32.toInt32 (Int32.toUInt32 ((nI 48) + ((x1 / (nI 100)) - (x1 / (nI 100)) / (nI 10) * (nI 10))) % 65536))] [] dX7_appendAmount_18 rfl lk_7_append ⟨wd356, wd322, wd323⟩ ⟨by decide, by decide⟩ (recvO cf7 (fun _ => s_x0)) rfl rfl (Nat.le_of_ble_eq_true rfl) (Nat.le_of_ble_eq_true rfl) (by decide) (by decide) kk
set_option maxRecDepth 20000 in
theorem B7_appendAmount_21 {ω : Om} {h : AH} {Q : Option Value → AH → Prop} {x0 : Nat} {x1 : Int32} (hw : ω.2.2.2.1 = true) (kt : x1 < (nI 10) → Ex ω M7_appendAmount 42 [some (.ref x0), some (.int x1)] [] h 0 0 Q) (kf : ¬ x1 < (nI 10) → Ex ω M7_appendAmount 27 [some (.ref x0), some (.int x1)] [] h 0 0 Q) : Ex ω M7_appendAmount 21 [some (.ref x0), some (.int x1)] [] h 0 0 Q := by
  refine x_iload1 22 dX7_appendAmount_21 rfl ?_
  refine x_bipush (nI 10) 24 dX7_appendAmount_22 rfl rfl ?_
  exact x_icmp_lt 27 42 dX7_appendAmount_24 rfl (by decide) kt kf
set_option maxRecDepth 20000 in
theorem B7_appendAmount_27 {ω : Om} {h : AH} {Q : Option Value → AH → Prop} {x0 : Nat} {x1 : Int32} (hw : ω.2.2.2.1 = true) (s_x0 : gs h x0 = some (7, 2)) (kk : Ex ω M7_append 0 [some (.ref x0), some (.int (UInt32.toInt32 (Int32.toUInt32 ((nI 48) + ((x1 / (nI 10)) - (x1 / (nI 10)) / (nI 10) * (nI 10))) % 65536)))] [] h 0 0 (fun v h' => Ex ω M7_appendAmount 42 [some (.ref x0), some (.int x1)] (v.toList ++ []) h' 0 0 Q)) : Ex ω M7_appendAmount 27 [some (.ref x0), some (.int x1)] [] h 0 0 Q := by
  refine x_aload0 28 dX7_appendAmount_27 rfl ?_
  refine x_bipush (nI 48) 30 dX7_appendAmount_28 rfl rfl ?_
  refine x_iload1 31 dX7_appendAmount_30 rfl ?_
  refine x_bipush (nI 10) 33 dX7_appendAmount_31 rfl rfl ?_
  refine x_idiv 34 dX7_appendAmount_33 rfl (by decide) ?_
  refine x_bipush (nI 10) 36 dX7_appendAmount_34 rfl rfl ?_
  refine x_irem 37 dX7_appendAmount_36 rfl (by decide) ?_
  refine x_iadd 38 dX7_appendAmount_37 rfl ?_
  refine x_i2c 39 dX7_appendAmount_38 rfl ?_
  exact x_callV 42 x0 [.int (UInt32.toInt32 (Int32.toUInt32 ((nI 48) + ((x1 / (nI 10)) - (x1 / (nI 10)) / (nI 10) * (nI 10))) % 65536))] [] dX7_appendAmount_39 rfl lk_7_append ⟨wd356, wd322, wd323⟩ ⟨by decide, by decide⟩ (recvO cf7 (fun _ => s_x0)) rfl rfl (Nat.le_of_ble_eq_true rfl) (Nat.le_of_ble_eq_true rfl) (by decide) (by decide) kk
set_option maxRecDepth 20000 in
theorem B7_appendAmount_42 {ω : Om} {h : AH} {Q : Option Value → AH → Prop} {x0 : Nat} {x1 : Int32} (hw : ω.2.2.2.1 = true) (s_x0 : gs h x0 = some (7, 2)) (kk : Ex ω M7_append 0 [some (.ref x0), some (.int (UInt32.toInt32 (Int32.toUInt32 ((nI 48) + (x1 - x1 / (nI 10) * (nI 10))) % 65536)))] [] h 0 0 (fun v h' => Ex ω M7_appendAmount 54 [some (.ref x0), some (.int x1)] (v.toList ++ []) h' 0 0 Q)) : Ex ω M7_appendAmount 42 [some (.ref x0), some (.int x1)] [] h 0 0 Q := by
  refine x_aload0 43 dX7_appendAmount_42 rfl ?_
  refine x_bipush (nI 48) 45 dX7_appendAmount_43 rfl rfl ?_
  refine x_iload1 46 dX7_appendAmount_45 rfl ?_
  refine x_bipush (nI 10) 48 dX7_appendAmount_46 rfl rfl ?_
  refine x_irem 49 dX7_appendAmount_48 rfl (by decide) ?_
  refine x_iadd 50 dX7_appendAmount_49 rfl ?_
  refine x_i2c 51 dX7_appendAmount_50 rfl ?_
  exact x_callV 54 x0 [.int (UInt32.toInt32 (Int32.toUInt32 ((nI 48) + (x1 - x1 / (nI 10) * (nI 10))) % 65536))] [] dX7_appendAmount_51 rfl lk_7_append ⟨wd356, wd322, wd323⟩ ⟨by decide, by decide⟩ (recvO cf7 (fun _ => s_x0)) rfl rfl (Nat.le_of_ble_eq_true rfl) (Nat.le_of_ble_eq_true rfl) (by decide) (by decide) kk
set_option maxRecDepth 20000 in
theorem B7_appendAmount_54 {ω : Om} {h : AH} {Q : Option Value → AH → Prop} {u0 : Option Value} {u1 : Option Value} (hw : ω.2.2.2.1 = true) (hq : Q none h) : Ex ω M7_appendAmount 54 [u0, u1] [] h 0 0 Q := by
  refine x_dr0 ?_
  refine x_dr1 ?_
  exact x_vret dX7_appendAmount_54 rfl (Nat.zero_le _) (Nat.zero_le _) hq
set_option maxRecDepth 20000 in
theorem B7_showProgram_0 {ω : Om} {h : AH} {Q : Option Value → AH → Prop} {x0 : Nat} {x1 : Nat} {u2 : Option Value} (hw : ω.2.2.2.1 = true) (s_x0 : gs h x0 = some (7, 2)) (kf : Ex ω M7_showProgram 7 [some (.ref x0), some (.ref x1), some (.int (nI 0))] [] (si h x0 1 (nI 0)) 0 0 Q) : Ex ω M7_showProgram 0 [some (.ref x0), some (.ref x1), u2] [] h 0 0 Q := by
  refine x_dr2 ?_
  refine x_aload0 1 dX7_showProgram_0 rfl ?_
  refine x_iconst (nI 0) 2 dX7_showProgram_1 rfl rfl ?_
  refine x_putI cf7 1 5 dX7_showProgram_2 rfl wd173 (fun _ => s_x0) (by decide) rfl rfl ?_
  refine x_iconst (nI 0) 6 dX7_showProgram_5 rfl rfl ?_
  refine x_istore2 7 dX7_showProgram_6 rfl (by decide) rfl ?_
  exact kf
set_option maxRecDepth 20000 in
theorem B7_showProgram_7 {ω : Om} {h : AH} {Q : Option Value → AH → Prop} {x0 : Nat} {x1 : Nat} {x2 : Int32} (hw : ω.2.2.2.1 = true) (s_x1 : gs h x1 = some (2, 3)) (kt : (gi h x1 0) ≤ x2 → Ex ω M7_showProgram 63 [some (.ref x0), some (.ref x1), some (.int x2)] [] h 0 0 Q) (kf : ¬ (gi h x1 0) ≤ x2 → Ex ω M7_showProgram 15 [some (.ref x0), some (.ref x1), some (.int x2)] [] h 0 0 Q) : Ex ω M7_showProgram 7 [some (.ref x0), some (.ref x1), some (.int x2)] [] h 0 0 Q := by
  refine x_iload2 8 dX7_showProgram_7 rfl ?_
  refine x_aload1 9 dX7_showProgram_8 rfl ?_
  refine x_getI cf2 0 12 dX7_showProgram_9 rfl wd172 (fun _ => s_x1) (by decide) rfl ?_
  exact x_icmp_ge 15 63 dX7_showProgram_12 rfl (by decide) kt kf
set_option maxRecDepth 20000 in
theorem B7_showProgram_15 {ω : Om} {h : AH} {Q : Option Value → AH → Prop} {x0 : Nat} {x1 : Nat} {x2 : Int32} (hw : ω.2.2.2.1 = true) (kt : x2 ≤ 0 → Ex ω M7_showProgram 31 [some (.ref x0), some (.ref x1), some (.int x2)] [] h 0 0 Q) (kf : ¬ x2 ≤ 0 → Ex ω M7_showProgram 19 [some (.ref x0), some (.ref x1), some (.int x2)] [] h 0 0 Q) : Ex ω M7_showProgram 15 [some (.ref x0), some (.ref x1), some (.int x2)] [] h 0 0 Q := by
  refine x_iload2 16 dX7_showProgram_15 rfl ?_
  exact x_if_le 19 31 dX7_showProgram_16 rfl (by decide) kt kf
set_option maxRecDepth 20000 in
theorem B7_showProgram_19 {ω : Om} {h : AH} {Q : Option Value → AH → Prop} {x0 : Nat} {x1 : Nat} {x2 : Int32} (hw : ω.2.2.2.1 = true) (s_x0 : gs h x0 = some (7, 2)) (kk : Ex ω M7_append 0 [some (.ref x0), some (.int (nI 44))] [] h 0 0 (fun v h' => Ex ω M7_showProgram 25 [some (.ref x0), some (.ref x1), some (.int x2)] (v.toList ++ []) h' 0 0 Q)) : Ex ω M7_showProgram 19 [some (.ref x0), some (.ref x1), some (.int x2)] [] h 0 0 Q := by
  refine x_aload0 20 dX7_showProgram_19 rfl ?_
  refine x_bipush (nI 44) 22 dX7_showProgram_20 rfl rfl ?_
  exact x_callV 25 x0 [.int (nI 44)] [] dX7_showProgram_22 rfl lk_7_append ⟨wd356, wd322, wd323⟩ ⟨by decide, by decide⟩ (recvO cf7 (fun _ => s_x0)) rfl rfl (Nat.le_of_ble_eq_true rfl) (Nat.le_of_ble_eq_true rfl) (by decide) (by decide) kk
set_option maxRecDepth 20000 in
theorem B7_showProgram_25 {ω : Om} {h : AH} {Q : Option Value → AH → Prop} {x0 : Nat} {x1 : Nat} {x2 : Int32} (hw : ω.2.2.2.1 = true) (s_x0 : gs h x0 = some (7, 2)) (kk : Ex ω M7_append 0 [some (.ref x0), some (.int (nI 32))] [] h 0 0 (fun v h' => Ex ω M7_showProgram 31 [some (.ref x0), some (.ref x1), some (.int x2)] (v.toList ++ []) h' 0 0 Q)) : Ex ω M7_showProgram 25 [some (.ref x0), some (.ref x1), some (.int x2)] [] h 0 0 Q := by
  refine x_aload0 26 dX7_showProgram_25 rfl ?_
  refine x_bipush (nI 32) 28 dX7_showProgram_26 rfl rfl ?_
  exact x_callV 31 x0 [.int (nI 32)] [] dX7_showProgram_28 rfl lk_7_append ⟨wd356, wd322, wd323⟩ ⟨by decide, by decide⟩ (recvO cf7 (fun _ => s_x0)) rfl rfl (Nat.le_of_ble_eq_true rfl) (Nat.le_of_ble_eq_true rfl) (by decide) (by decide) kk
set_option maxRecDepth 20000 in
theorem B7_showProgram_31 {ω : Om} {h : AH} {Q : Option Value → AH → Prop} {x0 : Nat} {x1 : Nat} {x2 : Int32} (hw : ω.2.2.2.1 = true) (s_x1 : gs h x1 = some (2, 3)) (s_x0 : gs h x0 = some (7, 2)) (i1 : vp_in x2 12) (kk : Ex ω M7_appendName 0 [some (.ref x0), some (.int (gi h (gr h x1 1) (Int32.toNatClampNeg x2))), none, none] [] h 0 0 (fun v h' => Ex ω M7_showProgram 41 [some (.ref x0), some (.ref x1), some (.int x2)] (v.toList ++ []) h' 0 0 Q)) : Ex ω M7_showProgram 31 [some (.ref x0), some (.ref x1), some (.int x2)] [] h 0 0 Q := by
  refine x_aload0 32 dX7_showProgram_31 rfl ?_
  refine x_aload1 33 dX7_showProgram_32 rfl ?_
  refine x_getR cf2 1 36 hw dX7_showProgram_33 rfl wd354 (fun _ => s_x1) (by decide) (by decide) rfl ?_
  refine x_iload2 37 dX7_showProgram_36 rfl ?_
  refine x_iald (Int32.toNatClampNeg x2) 38 dX7_showProgram_37 rfl (SH.fld hw (fun _ => s_x1) 1 (Nat.le_of_ble_eq_true rfl) rfl rfl) i1 rfl ?_
  exact x_callV 41 x0 [.int (gi h (gr h x1 1) (Int32.toNatClampNeg x2))] [] dX7_showProgram_38 rfl lk_7_appendName ⟨wd357, wd358, wd359⟩ ⟨by decide, by decide⟩ (recvO cf7 (fun _ => s_x0)) rfl rfl (Nat.le_of_ble_eq_true rfl) (Nat.le_of_ble_eq_true rfl) (by decide) (by decide) kk
set_option maxRecDepth 20000 in
theorem B7_showProgram_41 {ω : Om} {h : AH} {Q : Option Value → AH → Prop} {x0 : Nat} {x1 : Nat} {x2 : Int32} (hw : ω.2.2.2.1 = true) (s_x0 : gs h x0 = some (7, 2)) (kk : Ex ω M7_append 0 [some (.ref x0), some (.int (nI 32))] [] h 0 0 (fun v h' => Ex ω M7_showProgram 47 [some (.ref x0), some (.ref x1), some (.int x2)] (v.toList ++ []) h' 0 0 Q)) : Ex ω M7_showProgram 41 [some (.ref x0), some (.ref x1), some (.int x2)] [] h 0 0 Q := by
  refine x_aload0 42 dX7_showProgram_41 rfl ?_
  refine x_bipush (nI 32) 44 dX7_showProgram_42 rfl rfl ?_
  exact x_callV 47 x0 [.int (nI 32)] [] dX7_showProgram_44 rfl lk_7_append ⟨wd356, wd322, wd323⟩ ⟨by decide, by decide⟩ (recvO cf7 (fun _ => s_x0)) rfl rfl (Nat.le_of_ble_eq_true rfl) (Nat.le_of_ble_eq_true rfl) (by decide) (by decide) kk
set_option maxRecDepth 20000 in
theorem B7_showProgram_47 {ω : Om} {h : AH} {Q : Option Value → AH → Prop} {x0 : Nat} {x1 : Nat} {x2 : Int32} (hw : ω.2.2.2.1 = true) (s_x1 : gs h x1 = some (2, 3)) (s_x0 : gs h x0 = some (7, 2)) (i1 : vp_in x2 12) (kk : Ex ω M7_appendAmount 0 [some (.ref x0), some (.int (gi h (gr h x1 2) (Int32.toNatClampNeg x2)))] [] h 0 0 (fun v h' => Ex ω M7_showProgram 57 [some (.ref x0), some (.ref x1), some (.int x2)] (v.toList ++ []) h' 0 0 Q)) : Ex ω M7_showProgram 47 [some (.ref x0), some (.ref x1), some (.int x2)] [] h 0 0 Q := by
  refine x_aload0 48 dX7_showProgram_47 rfl ?_
  refine x_aload1 49 dX7_showProgram_48 rfl ?_
  refine x_getR cf2 2 52 hw dX7_showProgram_49 rfl wd355 (fun _ => s_x1) (by decide) (by decide) rfl ?_
  refine x_iload2 53 dX7_showProgram_52 rfl ?_
  refine x_iald (Int32.toNatClampNeg x2) 54 dX7_showProgram_53 rfl (SH.fld hw (fun _ => s_x1) 2 (Nat.le_of_ble_eq_true rfl) rfl rfl) i1 rfl ?_
  exact x_callV 57 x0 [.int (gi h (gr h x1 2) (Int32.toNatClampNeg x2))] [] dX7_showProgram_54 rfl lk_7_appendAmount ⟨wd361, wd362, wd363⟩ ⟨by decide, by decide⟩ (recvO cf7 (fun _ => s_x0)) rfl rfl (Nat.le_of_ble_eq_true rfl) (Nat.le_of_ble_eq_true rfl) (by decide) (by decide) kk
set_option maxRecDepth 20000 in
theorem B7_showProgram_57 {ω : Om} {h : AH} {Q : Option Value → AH → Prop} {x0 : Nat} {x1 : Nat} {x2 : Int32} (hw : ω.2.2.2.1 = true) (kt : Ex ω M7_showProgram 7 [some (.ref x0), some (.ref x1), some (.int (x2 + (nI 1)))] [] h 0 0 Q) : Ex ω M7_showProgram 57 [some (.ref x0), some (.ref x1), some (.int x2)] [] h 0 0 Q := by
  refine x_iinc2 (x2 + (nI 1)) 60 dX7_showProgram_57 rfl (by decide) rfl rfl ?_
  exact x_goto 7 dX7_showProgram_60 (by decide) kt
set_option maxRecDepth 20000 in
theorem B7_showProgram_63 {ω : Om} {h : AH} {Q : Option Value → AH → Prop} {u0 : Option Value} {u1 : Option Value} {u2 : Option Value} (hw : ω.2.2.2.1 = true) (hq : Q none h) : Ex ω M7_showProgram 63 [u0, u1, u2] [] h 0 0 Q := by
  refine x_dr0 ?_
  refine x_dr1 ?_
  refine x_dr2 ?_
  exact x_vret dX7_showProgram_63 rfl (Nat.zero_le _) (Nat.zero_le _) hq
set_option maxRecDepth 20000 in
theorem B7_readInto_0 {ω : Om} {h : AH} {Q : Option Value → AH → Prop} {x0 : Nat} {x1 : Nat} {u2 : Option Value} {u3 : Option Value} {u4 : Option Value} (hw : ω.2.2.2.1 = true) (s_x1 : gs h x1 = some (2, 3)) (s_x0 : gs h x0 = some (7, 2)) (kt : ¬ (gi (si h x1 0 (nI 0)) x0 1) = 0 → Ex ω M7_readInto 14 [some (.ref x0), some (.ref x1), none, none, none] [] (si h x1 0 (nI 0)) 0 0 Q) (kf : (gi (si h x1 0 (nI 0)) x0 1) = 0 → Ex ω M7_readInto 12 [some (.ref x0), some (.ref x1), none, none, none] [] (si h x1 0 (nI 0)) 0 0 Q) : Ex ω M7_readInto 0 [some (.ref x0), some (.ref x1), u2, u3, u4] [] h 0 0 Q := by
  refine x_dr2 ?_
  refine x_dr3 ?_
  refine x_dr4 ?_
  refine x_aload1 1 dX7_readInto_0 rfl ?_
  refine x_iconst (nI 0) 2 dX7_readInto_1 rfl rfl ?_
  refine x_putI cf2 0 5 dX7_readInto_2 rfl wd172 (fun _ => s_x1) (by decide) rfl rfl ?_
  refine x_aload0 6 dX7_readInto_5 rfl ?_
  refine x_getI cf7 1 9 dX7_readInto_6 rfl wd173 (fun _ => s_x0) (by decide) rfl ?_
  exact x_if_ne 12 14 dX7_readInto_9 rfl (by decide) kt kf
set_option maxRecDepth 20000 in
theorem B7_readInto_12 {ω : Om} {h : AH} {Q : Option Value → AH → Prop} {u0 : Option Value} {u1 : Option Value} {u2 : Option Value} {u3 : Option Value} {u4 : Option Value} (hw : ω.2.2.2.1 = true) (hq : Q (some (.int ((-1)))) h) : Ex ω M7_readInto 12 [u0, u1, u2, u3, u4] [] h 0 0 Q := by
  refine x_dr0 ?_
  refine x_dr1 ?_
  refine x_dr2 ?_
  refine x_dr3 ?_
  refine x_dr4 ?_
  refine x_iconst ((-1)) 13 dX7_readInto_12 rfl rfl ?_
  exact x_iret dX7_readInto_13 rfl (Nat.zero_le _) (Nat.zero_le _) hq
set_option maxRecDepth 20000 in
theorem B7_readInto_14 {ω : Om} {h : AH} {Q : Option Value → AH → Prop} {x0 : Nat} {x1 : Nat} {u2 : Option Value} {u3 : Option Value} {u4 : Option Value} (hw : ω.2.2.2.1 = true) (kf : Ex ω M7_readInto 18 [some (.ref x0), some (.ref x1), some (.int (nI 0)), some (.int (nI 0)), none] [] h 0 0 Q) : Ex ω M7_readInto 14 [some (.ref x0), some (.ref x1), u2, u3, u4] [] h 0 0 Q := by
  refine x_dr2 ?_
  refine x_dr3 ?_
  refine x_dr4 ?_
  refine x_iconst (nI 0) 15 dX7_readInto_14 rfl rfl ?_
  refine x_istore2 16 dX7_readInto_15 rfl (by decide) rfl ?_
  refine x_iconst (nI 0) 17 dX7_readInto_16 rfl rfl ?_
  refine x_istore3 18 dX7_readInto_17 rfl (by decide) rfl ?_
  exact kf
set_option maxRecDepth 20000 in
theorem B7_readInto_18 {ω : Om} {h : AH} {Q : Option Value → AH → Prop} {x0 : Nat} {x1 : Nat} {x2 : Int32} {x3 : Int32} {u4 : Option Value} (hw : ω.2.2.2.1 = true) (kt : (nI 12) ≤ x3 → Ex ω M7_readInto 71 [some (.ref x0), some (.ref x1), some (.int x2), some (.int x3), none] [] h 0 0 Q) (kf : ¬ (nI 12) ≤ x3 → Ex ω M7_readInto 24 [some (.ref x0), some (.ref x1), some (.int x2), some (.int x3), none] [] h 0 0 Q) : Ex ω M7_readInto 18 [some (.ref x0), some (.ref x1), some (.int x2), some (.int x3), u4] [] h 0 0 Q := by
  refine x_dr4 ?_
  refine x_iload3 19 dX7_readInto_18 rfl ?_
  refine x_bipush (nI 12) 21 dX7_readInto_19 rfl rfl ?_
  exact x_icmp_ge 24 71 dX7_readInto_21 rfl (by decide) kt kf
set_option maxRecDepth 20000 in
theorem B7_readInto_24 {ω : Om} {h : AH} {Q : Option Value → AH → Prop} {x0 : Nat} {x1 : Nat} {x2 : Int32} {x3 : Int32} {u4 : Option Value} (hw : ω.2.2.2.1 = true) (s_x0 : gs h x0 = some (7, 2)) (kk : Ex ω M7_readStep 0 [some (.ref x0), some (.int x2), some (.ref x1), none, none] [] h 0 0 (fun v h' => Ex ω M7_readInto 30 [some (.ref x0), some (.ref x1), some (.int x2), some (.int x3), none] (v.toList ++ []) h' 0 0 Q)) : Ex ω M7_readInto 24 [some (.ref x0), some (.ref x1), some (.int x2), some (.int x3), u4] [] h 0 0 Q := by
  refine x_dr4 ?_
  refine x_aload0 25 dX7_readInto_24 rfl ?_
  refine x_iload2 26 dX7_readInto_25 rfl ?_
  refine x_aload1 27 dX7_readInto_26 rfl ?_
  exact x_callV 30 x0 [.int x2, .ref x1] [] dX7_readInto_27 rfl lk_7_readStep ⟨wd174, wd175, wd176⟩ ⟨by decide, by decide⟩ (recvO cf7 (fun _ => s_x0)) rfl rfl (Nat.le_of_ble_eq_true rfl) (Nat.le_of_ble_eq_true rfl) (by decide) (by decide) kk
set_option maxRecDepth 20000 in
theorem B7_readInto_30 {ω : Om} {h : AH} {Q : Option Value → AH → Prop} {x0 : Nat} {x1 : Nat} {x2 : Int32} {x3 : Int32} {u4 : Option Value} {y0 : Int32} (hw : ω.2.2.2.1 = true) (s_x0 : gs h x0 = some (7, 2)) (kt : ¬ y0 = (gi h x0 1) → Ex ω M7_readInto 43 [some (.ref x0), some (.ref x1), some (.int x2), some (.int x3), some (.int y0)] [] h 0 0 Q) (kf : y0 = (gi h x0 1) → Ex ω M7_readInto 41 [some (.ref x0), some (.ref x1), some (.int x2), some (.int x3), some (.int y0)] [] h 0 0 Q) : Ex ω M7_readInto 30 [some (.ref x0), some (.ref x1), some (.int x2), some (.int x3), u4] [.int y0] h 0 0 Q := by
  refine x_dr4 ?_
  refine x_istore4 32 dX7_readInto_30 rfl (by decide) rfl ?_
  refine x_iload4 34 dX7_readInto_32 rfl ?_
  refine x_aload0 35 dX7_readInto_34 rfl ?_
  refine x_getI cf7 1 38 dX7_readInto_35 rfl wd173 (fun _ => s_x0) (by decide) rfl ?_
  exact x_icmp_ne 41 43 dX7_readInto_38 rfl (by decide) kt kf
set_option maxRecDepth 20000 in
theorem B7_readInto_41 {ω : Om} {h : AH} {Q : Option Value → AH → Prop} {u0 : Option Value} {u1 : Option Value} {u2 : Option Value} {u3 : Option Value} {u4 : Option Value} (hw : ω.2.2.2.1 = true) (hq : Q (some (.int ((-1)))) h) : Ex ω M7_readInto 41 [u0, u1, u2, u3, u4] [] h 0 0 Q := by
  refine x_dr0 ?_
  refine x_dr1 ?_
  refine x_dr2 ?_
  refine x_dr3 ?_
  refine x_dr4 ?_
  refine x_iconst ((-1)) 42 dX7_readInto_41 rfl rfl ?_
  exact x_iret dX7_readInto_42 rfl (Nat.zero_le _) (Nat.zero_le _) hq
set_option maxRecDepth 20000 in
theorem B7_readInto_43 {ω : Om} {h : AH} {Q : Option Value → AH → Prop} {x0 : Nat} {x1 : Nat} {x2 : Int32} {x3 : Int32} {x4 : Int32} (hw : ω.2.2.2.1 = true) (kt : x4 = ((-1)) → Ex ω M7_readInto 58 [some (.ref x0), some (.ref x1), some (.int x2), some (.int x3), some (.int x4)] [] h 0 0 Q) (kf : ¬ x4 = ((-1)) → Ex ω M7_readInto 49 [some (.ref x0), some (.ref x1), some (.int x2), some (.int x3), some (.int x4)] [] h 0 0 Q) : Ex ω M7_readInto 43 [some (.ref x0), some (.ref x1), some (.int x2), some (.int x3), some (.int x4)] [] h 0 0 Q := by
  refine x_iload4 45 dX7_readInto_43 rfl ?_
  refine x_iconst ((-1)) 46 dX7_readInto_45 rfl rfl ?_
  exact x_icmp_eq 49 58 dX7_readInto_46 rfl (by decide) kt kf
set_option maxRecDepth 20000 in
theorem B7_readInto_49 {ω : Om} {h : AH} {Q : Option Value → AH → Prop} {x0 : Nat} {x1 : Nat} {x2 : Int32} {x3 : Int32} {x4 : Int32} (hw : ω.2.2.2.1 = true) (s_x0 : gs h x0 = some (7, 2)) (kk : Ex ω M7_isFollowedByStep 0 [some (.ref x0), some (.int x4)] [] h 0 0 (fun v h' => Ex ω M7_readInto 55 [some (.ref x0), some (.ref x1), some (.int x2), some (.int x3), some (.int x4)] (v.toList ++ []) h' 0 0 Q)) : Ex ω M7_readInto 49 [some (.ref x0), some (.ref x1), some (.int x2), some (.int x3), some (.int x4)] [] h 0 0 Q := by
  refine x_aload0 50 dX7_readInto_49 rfl ?_
  refine x_iload4 52 dX7_readInto_50 rfl ?_
  exact x_callV 55 x0 [.int x4] [] dX7_readInto_52 rfl lk_7_isFollowedByStep ⟨wd246, wd247, wd248⟩ ⟨by decide, by decide⟩ (recvO cf7 (fun _ => s_x0)) rfl rfl (Nat.le_of_ble_eq_true rfl) (Nat.le_of_ble_eq_true rfl) (by decide) (by decide) kk
set_option maxRecDepth 20000 in
theorem B7_readInto_55 {ω : Om} {h : AH} {Q : Option Value → AH → Prop} {x0 : Nat} {x1 : Nat} {x2 : Int32} {x3 : Int32} {x4 : Int32} {y0 : Int32} (hw : ω.2.2.2.1 = true) (kt : ¬ y0 = 0 → Ex ω M7_readInto 60 [some (.ref x0), some (.ref x1), some (.int x2), some (.int x3), some (.int x4)] [] h 0 0 Q) (kf : y0 = 0 → Ex ω M7_readInto 58 [some (.ref x0), some (.ref x1), some (.int x2), some (.int x3), some (.int x4)] [] h 0 0 Q) : Ex ω M7_readInto 55 [some (.ref x0), some (.ref x1), some (.int x2), some (.int x3), some (.int x4)] [.int y0] h 0 0 Q := by
  exact x_if_ne 58 60 dX7_readInto_55 rfl (by decide) kt kf
set_option maxRecDepth 20000 in
theorem B7_readInto_58 {ω : Om} {h : AH} {Q : Option Value → AH → Prop} {u0 : Option Value} {u1 : Option Value} {x2 : Int32} {u3 : Option Value} {u4 : Option Value} (hw : ω.2.2.2.1 = true) (hq : Q (some (.int x2)) h) : Ex ω M7_readInto 58 [u0, u1, some (.int x2), u3, u4] [] h 0 0 Q := by
  refine x_dr0 ?_
  refine x_dr1 ?_
  refine x_dr3 ?_
  refine x_dr4 ?_
  refine x_iload2 59 dX7_readInto_58 rfl ?_
  exact x_iret dX7_readInto_59 rfl (Nat.zero_le _) (Nat.zero_le _) hq
set_option maxRecDepth 20000 in
theorem B7_readInto_60 {ω : Om} {h : AH} {Q : Option Value → AH → Prop} {x0 : Nat} {x1 : Nat} {u2 : Option Value} {x3 : Int32} {x4 : Int32} (hw : ω.2.2.2.1 = true) (kt : Ex ω M7_readInto 18 [some (.ref x0), some (.ref x1), some (.int (x4 + (nI 2))), some (.int (x3 + (nI 1))), some (.int x4)] [] h 0 0 Q) : Ex ω M7_readInto 60 [some (.ref x0), some (.ref x1), u2, some (.int x3), some (.int x4)] [] h 0 0 Q := by
  refine x_dr2 ?_
  refine x_iload4 62 dX7_readInto_60 rfl ?_
  refine x_iconst (nI 2) 63 dX7_readInto_62 rfl rfl ?_
  refine x_iadd 64 dX7_readInto_63 rfl ?_
  refine x_istore2 65 dX7_readInto_64 rfl (by decide) rfl ?_
  refine x_iinc3 (x3 + (nI 1)) 68 dX7_readInto_65 rfl (by decide) rfl rfl ?_
  exact x_goto 18 dX7_readInto_68 (by decide) kt
set_option maxRecDepth 20000 in
theorem B7_readInto_71 {ω : Om} {h : AH} {Q : Option Value → AH → Prop} {u0 : Option Value} {u1 : Option Value} {x2 : Int32} {u3 : Option Value} {u4 : Option Value} (hw : ω.2.2.2.1 = true) (hq : Q (some (.int x2)) h) : Ex ω M7_readInto 71 [u0, u1, some (.int x2), u3, u4] [] h 0 0 Q := by
  refine x_dr0 ?_
  refine x_dr1 ?_
  refine x_dr3 ?_
  refine x_dr4 ?_
  refine x_iload2 72 dX7_readInto_71 rfl ?_
  exact x_iret dX7_readInto_72 rfl (Nat.zero_le _) (Nat.zero_le _) hq
set_option maxRecDepth 20000 in
theorem B7_isFollowedByStep_0 {ω : Om} {h : AH} {Q : Option Value → AH → Prop} {x0 : Nat} {x1 : Int32} (hw : ω.2.2.2.1 = true) (s_x0 : gs h x0 = some (7, 2)) (kt : (gi h x0 1) ≤ (x1 + (nI 2)) → Ex ω M7_isFollowedByStep 38 [some (.ref x0), some (.int x1)] [] h 0 0 Q) (kf : ¬ (gi h x0 1) ≤ (x1 + (nI 2)) → Ex ω M7_isFollowedByStep 10 [some (.ref x0), some (.int x1)] [] h 0 0 Q) : Ex ω M7_isFollowedByStep 0 [some (.ref x0), some (.int x1)] [] h 0 0 Q := by
  refine x_iload1 1 dX7_isFollowedByStep_0 rfl ?_
  refine x_iconst (nI 2) 2 dX7_isFollowedByStep_1 rfl rfl ?_
  refine x_iadd 3 dX7_isFollowedByStep_2 rfl ?_
  refine x_aload0 4 dX7_isFollowedByStep_3 rfl ?_
  refine x_getI cf7 1 7 dX7_isFollowedByStep_4 rfl wd173 (fun _ => s_x0) (by decide) rfl ?_
  exact x_icmp_ge 10 38 dX7_isFollowedByStep_7 rfl (by decide) kt kf
set_option maxRecDepth 20000 in
theorem B7_isFollowedByStep_10 {ω : Om} {h : AH} {Q : Option Value → AH → Prop} {x0 : Nat} {x1 : Int32} (hw : ω.2.2.2.1 = true) (s_x0 : gs h x0 = some (7, 2)) (i1 : vp_in x1 100) (kt : ¬ (gi h (gr h x0 0) (Int32.toNatClampNeg x1)) = (nI 44) → Ex ω M7_isFollowedByStep 38 [some (.ref x0), some (.int x1)] [] h 0 0 Q) (kf : (gi h (gr h x0 0) (Int32.toNatClampNeg x1)) = (nI 44) → Ex ω M7_isFollowedByStep 21 [some (.ref x0), some (.int x1)] [] h 0 0 Q) : Ex ω M7_isFollowedByStep 10 [some (.ref x0), some (.int x1)] [] h 0 0 Q := by
  refine x_aload0 11 dX7_isFollowedByStep_10 rfl ?_
  refine x_getR cf7 0 14 hw dX7_isFollowedByStep_11 rfl wd83 (fun _ => s_x0) (by decide) (by decide) rfl ?_
  refine x_iload1 15 dX7_isFollowedByStep_14 rfl ?_
  refine x_cald (Int32.toNatClampNeg x1) 16 dX7_isFollowedByStep_15 rfl (SH.fld hw (fun _ => s_x0) 0 (Nat.le_of_ble_eq_true rfl) rfl rfl) i1 rfl ?_
  refine x_bipush (nI 44) 18 dX7_isFollowedByStep_16 rfl rfl ?_
  exact x_icmp_ne 21 38 dX7_isFollowedByStep_18 rfl (by decide) kt kf
set_option maxRecDepth 20000 in
theorem B7_isFollowedByStep_21 {ω : Om} {h : AH} {Q : Option Value → AH → Prop} {x0 : Nat} {x1 : Int32} (hw : ω.2.2.2.1 = true) (s_x0 : gs h x0 = some (7, 2)) (i1 : vp_in (x1 + (nI 1)) 100) (kt : ¬ (gi h (gr h x0 0) (Int32.toNatClampNeg (x1 + (nI 1)))) = (nI 32) → Ex ω M7_isFollowedByStep 38 [some (.ref x0), some (.int x1)] [] h 0 0 Q) (kf : (gi h (gr h x0 0) (Int32.toNatClampNeg (x1 + (nI 1)))) = (nI 32) → Ex ω M7_isFollowedByStep 34 [some (.ref x0), some (.int x1)] [] h 0 0 Q) : Ex ω M7_isFollowedByStep 21 [some (.ref x0), some (.int x1)] [] h 0 0 Q := by
  refine x_aload0 22 dX7_isFollowedByStep_21 rfl ?_
  refine x_getR cf7 0 25 hw dX7_isFollowedByStep_22 rfl wd83 (fun _ => s_x0) (by decide) (by decide) rfl ?_
  refine x_iload1 26 dX7_isFollowedByStep_25 rfl ?_
  refine x_iconst (nI 1) 27 dX7_isFollowedByStep_26 rfl rfl ?_
  refine x_iadd 28 dX7_isFollowedByStep_27 rfl ?_
  refine x_cald (Int32.toNatClampNeg (x1 + (nI 1))) 29 dX7_isFollowedByStep_28 rfl (SH.fld hw (fun _ => s_x0) 0 (Nat.le_of_ble_eq_true rfl) rfl rfl) i1 rfl ?_
  refine x_bipush (nI 32) 31 dX7_isFollowedByStep_29 rfl rfl ?_
  exact x_icmp_ne 34 38 dX7_isFollowedByStep_31 rfl (by decide) kt kf
set_option maxRecDepth 20000 in
theorem B7_isFollowedByStep_34 {ω : Om} {h : AH} {Q : Option Value → AH → Prop} {u0 : Option Value} {u1 : Option Value} (hw : ω.2.2.2.1 = true) (kt : Ex ω M7_isFollowedByStep 39 [none, none] [.int (nI 1)] h 0 0 Q) : Ex ω M7_isFollowedByStep 34 [u0, u1] [] h 0 0 Q := by
  refine x_dr0 ?_
  refine x_dr1 ?_
  refine x_iconst (nI 1) 35 dX7_isFollowedByStep_34 rfl rfl ?_
  exact x_goto 39 dX7_isFollowedByStep_35 (by decide) kt
set_option maxRecDepth 20000 in
theorem B7_isFollowedByStep_38 {ω : Om} {h : AH} {Q : Option Value → AH → Prop} {u0 : Option Value} {u1 : Option Value} (hw : ω.2.2.2.1 = true) (kf : Ex ω M7_isFollowedByStep 39 [none, none] [.int (nI 0)] h 0 0 Q) : Ex ω M7_isFollowedByStep 38 [u0, u1] [] h 0 0 Q := by
  refine x_dr0 ?_
  refine x_dr1 ?_
  refine x_iconst (nI 0) 39 dX7_isFollowedByStep_38 rfl rfl ?_
  exact kf
set_option maxRecDepth 20000 in
theorem B7_isFollowedByStep_39 {ω : Om} {h : AH} {Q : Option Value → AH → Prop} {u0 : Option Value} {u1 : Option Value} {y0 : Int32} (hw : ω.2.2.2.1 = true) (hz : narrow .boolean (.int y0) = .int y0) (hq : Q (some (.int y0)) h) : Ex ω M7_isFollowedByStep 39 [u0, u1] [.int y0] h 0 0 Q := by
  refine x_dr0 ?_
  refine x_dr1 ?_
  exact x_zret dX7_isFollowedByStep_39 rfl hz (Nat.zero_le _) (Nat.zero_le _) hq
set_option maxRecDepth 20000 in
theorem B7_readStep_0 {ω : Om} {h : AH} {Q : Option Value → AH → Prop} {x0 : Nat} {x1 : Int32} {x2 : Nat} {u3 : Option Value} {u4 : Option Value} (hw : ω.2.2.2.1 = true) (kf : Ex ω M7_readStep 2 [some (.ref x0), some (.int x1), some (.ref x2), some (.int (nI 0)), none] [] h 0 0 Q) : Ex ω M7_readStep 0 [some (.ref x0), some (.int x1), some (.ref x2), u3, u4] [] h 0 0 Q := by
  refine x_dr3 ?_
  refine x_dr4 ?_
  refine x_iconst (nI 0) 1 dX7_readStep_0 rfl rfl ?_
  refine x_istore3 2 dX7_readStep_1 rfl (by decide) rfl ?_
  exact kf
set_option maxRecDepth 20000 in
theorem B7_readStep_2 {ω : Om} {h : AH} {Q : Option Value → AH → Prop} {x0 : Nat} {x1 : Int32} {x2 : Nat} {x3 : Int32} {u4 : Option Value} (hw : ω.2.2.2.1 = true) (kt : (nI 5) ≤ x3 → Ex ω M7_readStep 36 [some (.ref x0), some (.int x1), some (.ref x2), some (.int x3), none] [] h 0 0 Q) (kf : ¬ (nI 5) ≤ x3 → Ex ω M7_readStep 7 [some (.ref x0), some (.int x1), some (.ref x2), some (.int x3), none] [] h 0 0 Q) : Ex ω M7_readStep 2 [some (.ref x0), some (.int x1), some (.ref x2), some (.int x3), u4] [] h 0 0 Q := by
  refine x_dr4 ?_
  refine x_iload3 3 dX7_readStep_2 rfl ?_
  refine x_iconst (nI 5) 4 dX7_readStep_3 rfl rfl ?_
  exact x_icmp_ge 7 36 dX7_readStep_4 rfl (by decide) kt kf
set_option maxRecDepth 20000 in
theorem B7_readStep_7 {ω : Om} {h : AH} {Q : Option Value → AH → Prop} {x0 : Nat} {x1 : Int32} {x2 : Nat} {x3 : Int32} {u4 : Option Value} (hw : ω.2.2.2.1 = true) (s_x0 : gs h x0 = some (7, 2)) (kk : Ex ω M7_behindName 0 [some (.ref x0), some (.int x3), some (.int x1), none, none, none] [] h 0 0 (fun v h' => Ex ω M7_readStep 13 [some (.ref x0), some (.int x1), some (.ref x2), some (.int x3), none] (v.toList ++ []) h' 0 0 Q)) : Ex ω M7_readStep 7 [some (.ref x0), some (.int x1), some (.ref x2), some (.int x3), u4] [] h 0 0 Q := by
  refine x_dr4 ?_
  refine x_aload0 8 dX7_readStep_7 rfl ?_
  refine x_iload3 9 dX7_readStep_8 rfl ?_
  refine x_iload1 10 dX7_readStep_9 rfl ?_
  exact x_callV 13 x0 [.int x3, .int x1] [] dX7_readStep_10 rfl lk_7_behindName ⟨wd178, wd179, wd180⟩ ⟨by decide, by decide⟩ (recvO cf7 (fun _ => s_x0)) rfl rfl (Nat.le_of_ble_eq_true rfl) (Nat.le_of_ble_eq_true rfl) (by decide) (by decide) kk
set_option maxRecDepth 20000 in
theorem B7_readStep_13 {ω : Om} {h : AH} {Q : Option Value → AH → Prop} {x0 : Nat} {x1 : Int32} {x2 : Nat} {x3 : Int32} {u4 : Option Value} {y0 : Int32} (hw : ω.2.2.2.1 = true) (kt : y0 = ((-1)) → Ex ω M7_readStep 30 [some (.ref x0), some (.int x1), some (.ref x2), some (.int x3), some (.int y0)] [] h 0 0 Q) (kf : ¬ y0 = ((-1)) → Ex ω M7_readStep 21 [some (.ref x0), some (.int x1), some (.ref x2), some (.int x3), some (.int y0)] [] h 0 0 Q) : Ex ω M7_readStep 13 [some (.ref x0), some (.int x1), some (.ref x2), some (.int x3), u4] [.int y0] h 0 0 Q := by
  refine x_dr4 ?_
  refine x_istore4 15 dX7_readStep_13 rfl (by decide) rfl ?_
  refine x_iload4 17 dX7_readStep_15 rfl ?_
  refine x_iconst ((-1)) 18 dX7_readStep_17 rfl rfl ?_
  exact x_icmp_eq 21 30 dX7_readStep_18 rfl (by decide) kt kf
set_option maxRecDepth 20000 in
theorem B7_readStep_21 {ω : Om} {h : AH} {Q : Option Value → AH → Prop} {x0 : Nat} {u1 : Option Value} {x2 : Nat} {x3 : Int32} {x4 : Int32} (hw : ω.2.2.2.1 = true) (s_x0 : gs h x0 = some (7, 2)) (kk : Ex ω M7_readAmount 0 [some (.ref x0), some (.int x3), some (.int x4), some (.ref x2), none, none] [] h 0 0 (fun v h' => Ex ω M7_readStep 29 [some (.ref x0), none, some (.ref x2), some (.int x3), some (.int x4)] (v.toList ++ []) h' 0 0 Q)) : Ex ω M7_readStep 21 [some (.ref x0), u1, some (.ref x2), some (.int x3), some (.int x4)] [] h 0 0 Q := by
  refine x_dr1 ?_
  refine x_aload0 22 dX7_readStep_21 rfl ?_
  refine x_iload3 23 dX7_readStep_22 rfl ?_
  refine x_iload4 25 dX7_readStep_23 rfl ?_
  refine x_aload2 26 dX7_readStep_25 rfl ?_
  exact x_callV 29 x0 [.int x3, .int x4, .ref x2] [] dX7_readStep_26 rfl lk_7_readAmount ⟨wd233, wd234, wd235⟩ ⟨by decide, by decide⟩ (recvO cf7 (fun _ => s_x0)) rfl rfl (Nat.le_of_ble_eq_true rfl) (Nat.le_of_ble_eq_true rfl) (by decide) (by decide) kk
set_option maxRecDepth 20000 in
theorem B7_readStep_29 {ω : Om} {h : AH} {Q : Option Value → AH → Prop} {u0 : Option Value} {u1 : Option Value} {u2 : Option Value} {u3 : Option Value} {u4 : Option Value} {y0 : Int32} (hw : ω.2.2.2.1 = true) (hq : Q (some (.int y0)) h) : Ex ω M7_readStep 29 [u0, u1, u2, u3, u4] [.int y0] h 0 0 Q := by
  refine x_dr0 ?_
  refine x_dr1 ?_
  refine x_dr2 ?_
  refine x_dr3 ?_
  refine x_dr4 ?_
  exact x_iret dX7_readStep_29 rfl (Nat.zero_le _) (Nat.zero_le _) hq
set_option maxRecDepth 20000 in
theorem B7_readStep_30 {ω : Om} {h : AH} {Q : Option Value → AH → Prop} {x0 : Nat} {x1 : Int32} {x2 : Nat} {x3 : Int32} {u4 : Option Value} (hw : ω.2.2.2.1 = true) (kt : Ex ω M7_readStep 2 [some (.ref x0), some (.int x1), some (.ref x2), some (.int (x3 + (nI 1))), none] [] h 0 0 Q) : Ex ω M7_readStep 30 [some (.ref x0), some (.int x1), some (.ref x2), some (.int x3), u4] [] h 0 0 Q := by
  refine x_dr4 ?_
  refine x_iinc3 (x3 + (nI 1)) 33 dX7_readStep_30 rfl (by decide) rfl rfl ?_
  exact x_goto 2 dX7_readStep_33 (by decide) kt
set_option maxRecDepth 20000 in
theorem B7_readStep_36 {ω : Om} {h : AH} {Q : Option Value → AH → Prop} {u0 : Option Value} {u1 : Option Value} {u2 : Option Value} {u3 : Option Value} {u4 : Option Value} (hw : ω.2.2.2.1 = true) (hq : Q (some (.int ((-1)))) h) : Ex ω M7_readStep 36 [u0, u1, u2, u3, u4] [] h 0 0 Q := by
  refine x_dr0 ?_
  refine x_dr1 ?_
  refine x_dr2 ?_
  refine x_dr3 ?_
  refine x_dr4 ?_
  refine x_iconst ((-1)) 37 dX7_readStep_36 rfl rfl ?_
  exact x_iret dX7_readStep_37 rfl (Nat.zero_le _) (Nat.zero_le _) hq
set_option maxRecDepth 20000 in
theorem B7_behindName_0 {ω : Om} {h : AH} {Q : Option Value → AH → Prop} {x0 : Nat} {x1 : Int32} {x2 : Int32} {u3 : Option Value} {u4 : Option Value} {u5 : Option Value} (hw : ω.2.2.2.1 = true) (kk : Ex ω M8_nameOf 0 [some (.int x1)] [] h 0 0 (fun v h' => Ex ω M7_behindName 4 [some (.ref x0), some (.int x1), some (.int x2), none, none, none] (v.toList ++ []) h' 0 0 Q)) : Ex ω M7_behindName 0 [some (.ref x0), some (.int x1), some (.int x2), u3, u4, u5] [] h 0 0 Q := by
  refine x_dr3 ?_
  refine x_dr4 ?_
  refine x_dr5 ?_
  refine x_iload1 1 dX7_behindName_0 rfl ?_
  exact x_callSN (host := "PalletWrapper") 4 [.int x1] [] dX7_behindName_1 rfl lk_8_nameOf ⟨by decide +kernel, wd182⟩ ⟨by decide, by decide⟩ rfl rfl (Nat.le_of_ble_eq_true rfl) (Nat.le_of_ble_eq_true rfl) (by decide) (by decide) kk
set_option maxRecDepth 20000 in
theorem B7_behindName_4 {ω : Om} {h : AH} {Q : Option Value → AH → Prop} {x0 : Nat} {u1 : Option Value} {x2 : Int32} {u3 : Option Value} {u4 : Option Value} {u5 : Option Value} {y0 : Nat} (hw : ω.2.2.2.1 = true) (r_y0 : Recv ω h "java/lang/String" y0) (kk : Ex ω MJ_length 0 [some (.ref y0)] [] h 0 0 (fun v h' => Ex ω M7_behindName 10 [some (.ref x0), none, some (.int x2), some (.ref y0), none, none] (v.toList ++ [.int x2]) h' 0 0 Q)) : Ex ω M7_behindName 4 [some (.ref x0), u1, some (.int x2), u3, u4, u5] [.ref y0] h 0 0 Q := by
  refine x_dr1 ?_
  refine x_dr3 ?_
  refine x_dr4 ?_
  refine x_dr5 ?_
  refine x_astore3 5 dX7_behindName_4 rfl (by decide) rfl ?_
  refine x_iload2 6 dX7_behindName_5 rfl ?_
  refine x_aload3 7 dX7_behindName_6 rfl ?_
  exact x_callV 10 y0 [] [.int x2] dX7_behindName_7 rfl lk_J_length ⟨wd184, wd185, wd186⟩ ⟨by decide, by decide⟩ r_y0 rfl rfl (Nat.le_of_ble_eq_true rfl) (Nat.le_of_ble_eq_true rfl) (by decide) (by decide) kk
set_option maxRecDepth 20000 in
theorem B7_behindName_10 {ω : Om} {h : AH} {Q : Option Value → AH → Prop} {x0 : Nat} {u1 : Option Value} {x2 : Int32} {x3 : Nat} {u4 : Option Value} {u5 : Option Value} {y0 : Int32} {y1 : Int32} (hw : ω.2.2.2.1 = true) (s_x0 : gs h x0 = some (7, 2)) (kt : (gi h x0 1) ≤ (y0 + y1) → Ex ω M7_behindName 34 [some (.ref x0), none, some (.int x2), some (.ref x3), some (.int (y0 + y1)), none] [] h 0 0 Q) (kf : ¬ (gi h x0 1) ≤ (y0 + y1) → Ex ω M7_behindName 22 [some (.ref x0), none, some (.int x2), some (.ref x3), some (.int (y0 + y1)), none] [] h 0 0 Q) : Ex ω M7_behindName 10 [some (.ref x0), u1, some (.int x2), some (.ref x3), u4, u5] [.int y1, .int y0] h 0 0 Q := by
  refine x_dr1 ?_
  refine x_dr4 ?_
  refine x_dr5 ?_
  refine x_iadd 11 dX7_behindName_10 rfl ?_
  refine x_istore4 13 dX7_behindName_11 rfl (by decide) rfl ?_
  refine x_iload4 15 dX7_behindName_13 rfl ?_
  refine x_aload0 16 dX7_behindName_15 rfl ?_
  refine x_getI cf7 1 19 dX7_behindName_16 rfl wd173 (fun _ => s_x0) (by decide) rfl ?_
  exact x_icmp_ge 22 34 dX7_behindName_19 rfl (by decide) kt kf
set_option maxRecDepth 20000 in
theorem B7_behindName_22 {ω : Om} {h : AH} {Q : Option Value → AH → Prop} {x0 : Nat} {u1 : Option Value} {x2 : Int32} {x3 : Nat} {x4 : Int32} {u5 : Option Value} (hw : ω.2.2.2.1 = true) (s_x0 : gs h x0 = some (7, 2)) (i1 : vp_in x4 100) (kt : (gi h (gr h x0 0) (Int32.toNatClampNeg x4)) = (nI 32) → Ex ω M7_behindName 36 [some (.ref x0), none, some (.int x2), some (.ref x3), some (.int x4), none] [] h 0 0 Q) (kf : ¬ (gi h (gr h x0 0) (Int32.toNatClampNeg x4)) = (nI 32) → Ex ω M7_behindName 34 [some (.ref x0), none, some (.int x2), some (.ref x3), some (.int x4), none] [] h 0 0 Q) : Ex ω M7_behindName 22 [some (.ref x0), u1, some (.int x2), some (.ref x3), some (.int x4), u5] [] h 0 0 Q := by
  refine x_dr1 ?_
  refine x_dr5 ?_
  refine x_aload0 23 dX7_behindName_22 rfl ?_
  refine x_getR cf7 0 26 hw dX7_behindName_23 rfl wd83 (fun _ => s_x0) (by decide) (by decide) rfl ?_
  refine x_iload4 28 dX7_behindName_26 rfl ?_
  refine x_cald (Int32.toNatClampNeg x4) 29 dX7_behindName_28 rfl (SH.fld hw (fun _ => s_x0) 0 (Nat.le_of_ble_eq_true rfl) rfl rfl) i1 rfl ?_
  refine x_bipush (nI 32) 31 dX7_behindName_29 rfl rfl ?_
  exact x_icmp_eq 34 36 dX7_behindName_31 rfl (by decide) kt kf
set_option maxRecDepth 20000 in
theorem B7_behindName_34 {ω : Om} {h : AH} {Q : Option Value → AH → Prop} {u0 : Option Value} {u1 : Option Value} {u2 : Option Value} {u3 : Option Value} {u4 : Option Value} {u5 : Option Value} (hw : ω.2.2.2.1 = true) (hq : Q (some (.int ((-1)))) h) : Ex ω M7_behindName 34 [u0, u1, u2, u3, u4, u5] [] h 0 0 Q := by
  refine x_dr0 ?_
  refine x_dr1 ?_
  refine x_dr2 ?_
  refine x_dr3 ?_
  refine x_dr4 ?_
  refine x_dr5 ?_
  refine x_iconst ((-1)) 35 dX7_behindName_34 rfl rfl ?_
  exact x_iret dX7_behindName_35 rfl (Nat.zero_le _) (Nat.zero_le _) hq
set_option maxRecDepth 20000 in
theorem B7_behindName_36 {ω : Om} {h : AH} {Q : Option Value → AH → Prop} {x0 : Nat} {u1 : Option Value} {x2 : Int32} {x3 : Nat} {x4 : Int32} {u5 : Option Value} (hw : ω.2.2.2.1 = true) (kf : Ex ω M7_behindName 39 [some (.ref x0), none, some (.int x2), some (.ref x3), some (.int x4), some (.int (nI 0))] [] h 0 0 Q) : Ex ω M7_behindName 36 [some (.ref x0), u1, some (.int x2), some (.ref x3), some (.int x4), u5] [] h 0 0 Q := by
  refine x_dr1 ?_
  refine x_dr5 ?_
  refine x_iconst (nI 0) 37 dX7_behindName_36 rfl rfl ?_
  refine x_istore5 39 dX7_behindName_37 rfl (by decide) rfl ?_
  exact kf
set_option maxRecDepth 20000 in
theorem B7_behindName_39 {ω : Om} {h : AH} {Q : Option Value → AH → Prop} {x0 : Nat} {u1 : Option Value} {x2 : Int32} {x3 : Nat} {x4 : Int32} {x5 : Int32} (hw : ω.2.2.2.1 = true) (r_x3 : Recv ω h "java/lang/String" x3) (kk : Ex ω MJ_length 0 [some (.ref x3)] [] h 0 0 (fun v h' => Ex ω M7_behindName 45 [some (.ref x0), none, some (.int x2), some (.ref x3), some (.int x4), some (.int x5)] (v.toList ++ [.int x5]) h' 0 0 Q)) : Ex ω M7_behindName 39 [some (.ref x0), u1, some (.int x2), some (.ref x3), some (.int x4), some (.int x5)] [] h 0 0 Q := by
  refine x_dr1 ?_
  refine x_iload5 41 dX7_behindName_39 rfl ?_
  refine x_aload3 42 dX7_behindName_41 rfl ?_
  exact x_callV 45 x3 [] [.int x5] dX7_behindName_42 rfl lk_J_length ⟨wd184, wd185, wd186⟩ ⟨by decide, by decide⟩ r_x3 rfl rfl (Nat.le_of_ble_eq_true rfl) (Nat.le_of_ble_eq_true rfl) (by decide) (by decide) kk
set_option maxRecDepth 20000 in
theorem B7_behindName_45 {ω : Om} {h : AH} {Q : Option Value → AH → Prop} {x0 : Nat} {u1 : Option Value} {x2 : Int32} {x3 : Nat} {x4 : Int32} {x5 : Int32} {y0 : Int32} {y1 : Int32} (hw : ω.2.2.2.1 = true) (kt : y1 ≤ y0 → Ex ω M7_behindName 74 [some (.ref x0), none, some (.int x2), some (.ref x3), some (.int x4), some (.int x5)] [] h 0 0 Q) (kf : ¬ y1 ≤ y0 → Ex ω M7_behindName 48 [some (.ref x0), none, some (.int x2), some (.ref x3), some (.int x4), some (.int x5)] [] h 0 0 Q) : Ex ω M7_behindName 45 [some (.ref x0), u1, some (.int x2), some (.ref x3), some (.int x4), some (.int x5)] [.int y1, .int y0] h 0 0 Q := by
  refine x_dr1 ?_
  exact x_icmp_ge 48 74 dX7_behindName_45 rfl (by decide) kt kf
set_option maxRecDepth 20000 in
theorem B7_behindName_48 {ω : Om} {h : AH} {Q : Option Value → AH → Prop} {x0 : Nat} {u1 : Option Value} {x2 : Int32} {x3 : Nat} {x4 : Int32} {x5 : Int32} (hw : ω.2.2.2.1 = true) (s_x0 : gs h x0 = some (7, 2)) (i1 : vp_in (x2 + x5) 100) (r_x3 : Recv ω h "java/lang/String" x3) (kk : Ex ω MJ_charAt 0 [some (.ref x3), some (.int x5)] [] h 0 0 (fun v h' => Ex ω M7_behindName 63 [some (.ref x0), none, some (.int x2), some (.ref x3), some (.int x4), some (.int x5)] (v.toList ++ [.int (gi h (gr h x0 0) (Int32.toNatClampNeg (x2 + x5)))]) h' 0 0 Q)) : Ex ω M7_behindName 48 [some (.ref x0), u1, some (.int x2), some (.ref x3), some (.int x4), some (.int x5)] [] h 0 0 Q := by
  refine x_dr1 ?_
  refine x_aload0 49 dX7_behindName_48 rfl ?_
  refine x_getR cf7 0 52 hw dX7_behindName_49 rfl wd83 (fun _ => s_x0) (by decide) (by decide) rfl ?_
  refine x_iload2 53 dX7_behindName_52 rfl ?_
  refine x_iload5 55 dX7_behindName_53 rfl ?_
  refine x_iadd 56 dX7_behindName_55 rfl ?_
  refine x_cald (Int32.toNatClampNeg (x2 + x5)) 57 dX7_behindName_56 rfl (SH.fld hw (fun _ => s_x0) 0 (Nat.le_of_ble_eq_true rfl) rfl rfl) i1 rfl ?_
  refine x_aload3 58 dX7_behindName_57 rfl ?_
  refine x_iload5 60 dX7_behindName_58 rfl ?_
  exact x_callV 63 x3 [.int x5] [.int (gi h (gr h x0 0) (Int32.toNatClampNeg (x2 + x5)))] dX7_behindName_60 rfl lk_J_charAt ⟨wd196, wd197, wd198⟩ ⟨by decide, by decide⟩ r_x3 rfl rfl (Nat.le_of_ble_eq_true rfl) (Nat.le_of_ble_eq_true rfl) (by decide) (by decide) kk
set_option maxRecDepth 20000 in
theorem B7_behindName_63 {ω : Om} {h : AH} {Q : Option Value → AH → Prop} {x0 : Nat} {u1 : Option Value} {x2 : Int32} {x3 : Nat} {x4 : Int32} {x5 : Int32} {y0 : Int32} {y1 : Int32} (hw : ω.2.2.2.1 = true) (kt : y0 = y1 → Ex ω M7_behindName 68 [some (.ref x0), none, some (.int x2), some (.ref x3), some (.int x4), some (.int x5)] [] h 0 0 Q) (kf : ¬ y0 = y1 → Ex ω M7_behindName 66 [some (.ref x0), none, some (.int x2), some (.ref x3), some (.int x4), some (.int x5)] [] h 0 0 Q) : Ex ω M7_behindName 63 [some (.ref x0), u1, some (.int x2), some (.ref x3), some (.int x4), some (.int x5)] [.int y1, .int y0] h 0 0 Q := by
  refine x_dr1 ?_
  exact x_icmp_eq 66 68 dX7_behindName_63 rfl (by decide) kt kf
set_option maxRecDepth 20000 in
theorem B7_behindName_66 {ω : Om} {h : AH} {Q : Option Value → AH → Prop} {u0 : Option Value} {u1 : Option Value} {u2 : Option Value} {u3 : Option Value} {u4 : Option Value} {u5 : Option Value} (hw : ω.2.2.2.1 = true) (hq : Q (some (.int ((-1)))) h) : Ex ω M7_behindName 66 [u0, u1, u2, u3, u4, u5] [] h 0 0 Q := by
  refine x_dr0 ?_
  refine x_dr1 ?_
  refine x_dr2 ?_
  refine x_dr3 ?_
  refine x_dr4 ?_
  refine x_dr5 ?_
  refine x_iconst ((-1)) 67 dX7_behindName_66 rfl rfl ?_
  exact x_iret dX7_behindName_67 rfl (Nat.zero_le _) (Nat.zero_le _) hq
set_option maxRecDepth 20000 in
theorem B7_behindName_68 {ω : Om} {h : AH} {Q : Option Value → AH → Prop} {x0 : Nat} {u1 : Option Value} {x2 : Int32} {x3 : Nat} {x4 : Int32} {x5 : Int32} (hw : ω.2.2.2.1 = true) (kt : Ex ω M7_behindName 39 [some (.ref x0), none, some (.int x2), some (.ref x3), some (.int x4), some (.int (x5 + (nI 1)))] [] h 0 0 Q) : Ex ω M7_behindName 68 [some (.ref x0), u1, some (.int x2), some (.ref x3), some (.int x4), some (.int x5)] [] h 0 0 Q := by
  refine x_dr1 ?_
  refine x_iinc5 (x5 + (nI 1)) 71 dX7_behindName_68 rfl (by decide) rfl rfl ?_
  exact x_goto 39 dX7_behindName_71 (by decide) kt
set_option maxRecDepth 20000 in
theorem B7_behindName_74 {ω : Om} {h : AH} {Q : Option Value → AH → Prop} {u0 : Option Value} {u1 : Option Value} {u2 : Option Value} {u3 : Option Value} {x4 : Int32} {u5 : Option Value} (hw : ω.2.2.2.1 = true) (hq : Q (some (.int (x4 + (nI 1)))) h) : Ex ω M7_behindName 74 [u0, u1, u2, u3, some (.int x4), u5] [] h 0 0 Q := by
  refine x_dr0 ?_
  refine x_dr1 ?_
  refine x_dr2 ?_
  refine x_dr3 ?_
  refine x_dr5 ?_
  refine x_iload4 76 dX7_behindName_74 rfl ?_
  refine x_iconst (nI 1) 77 dX7_behindName_76 rfl rfl ?_
  refine x_iadd 78 dX7_behindName_77 rfl ?_
  exact x_iret dX7_behindName_78 rfl (Nat.zero_le _) (Nat.zero_le _) hq
set_option maxRecDepth 20000 in
theorem B7_readAmount_0 {ω : Om} {h : AH} {Q : Option Value → AH → Prop} {x0 : Nat} {x1 : Int32} {x2 : Int32} {x3 : Nat} {u4 : Option Value} {u5 : Option Value} (hw : ω.2.2.2.1 = true) (kf : Ex ω M7_readAmount 6 [some (.ref x0), some (.int x1), some (.int x2), some (.ref x3), some (.int (nI 0)), some (.int x2)] [] h 0 0 Q) : Ex ω M7_readAmount 0 [some (.ref x0), some (.int x1), some (.int x2), some (.ref x3), u4, u5] [] h 0 0 Q := by
  refine x_dr4 ?_
  refine x_dr5 ?_
  refine x_iconst (nI 0) 1 dX7_readAmount_0 rfl rfl ?_
  refine x_istore4 3 dX7_readAmount_1 rfl (by decide) rfl ?_
  refine x_iload2 4 dX7_readAmount_3 rfl ?_
  refine x_istore5 6 dX7_readAmount_4 rfl (by decide) rfl ?_
  exact kf
set_option maxRecDepth 20000 in
theorem B7_readAmount_6 {ω : Om} {h : AH} {Q : Option Value → AH → Prop} {x0 : Nat} {x1 : Int32} {x2 : Int32} {x3 : Nat} {x4 : Int32} {x5 : Int32} (hw : ω.2.2.2.1 = true) (s_x0 : gs h x0 = some (7, 2)) (kt : (gi h x0 1) ≤ x5 → Ex ω M7_readAmount 60 [some (.ref x0), some (.int x1), some (.int x2), some (.ref x3), some (.int x4), some (.int x5)] [] h 0 0 Q) (kf : ¬ (gi h x0 1) ≤ x5 → Ex ω M7_readAmount 15 [some (.ref x0), some (.int x1), some (.int x2), some (.ref x3), some (.int x4), some (.int x5)] [] h 0 0 Q) : Ex ω M7_readAmount 6 [some (.ref x0), some (.int x1), some (.int x2), some (.ref x3), some (.int x4), some (.int x5)] [] h 0 0 Q := by
  refine x_iload5 8 dX7_readAmount_6 rfl ?_
  refine x_aload0 9 dX7_readAmount_8 rfl ?_
  refine x_getI cf7 1 12 dX7_readAmount_9 rfl wd173 (fun _ => s_x0) (by decide) rfl ?_
  exact x_icmp_ge 15 60 dX7_readAmount_12 rfl (by decide) kt kf
set_option maxRecDepth 20000 in
theorem B7_readAmount_15 {ω : Om} {h : AH} {Q : Option Value → AH → Prop} {x0 : Nat} {x1 : Int32} {x2 : Int32} {x3 : Nat} {x4 : Int32} {x5 : Int32} (hw : ω.2.2.2.1 = true) (kt : (x2 + (nI 3)) ≤ x5 → Ex ω M7_readAmount 60 [some (.ref x0), some (.int x1), some (.int x2), some (.ref x3), some (.int x4), some (.int x5)] [] h 0 0 Q) (kf : ¬ (x2 + (nI 3)) ≤ x5 → Ex ω M7_readAmount 23 [some (.ref x0), some (.int x1), some (.int x2), some (.ref x3), some (.int x4), some (.int x5)] [] h 0 0 Q) : Ex ω M7_readAmount 15 [some (.ref x0), some (.int x1), some (.int x2), some (.ref x3), some (.int x4), some (.int x5)] [] h 0 0 Q := by
  refine x_iload5 17 dX7_readAmount_15 rfl ?_
  refine x_iload2 18 dX7_readAmount_17 rfl ?_
  refine x_iconst (nI 3) 19 dX7_readAmount_18 rfl rfl ?_
  refine x_iadd 20 dX7_readAmount_19 rfl ?_
  exact x_icmp_ge 23 60 dX7_readAmount_20 rfl (by decide) kt kf
set_option maxRecDepth 20000 in
theorem B7_readAmount_23 {ω : Om} {h : AH} {Q : Option Value → AH → Prop} {x0 : Nat} {x1 : Int32} {x2 : Int32} {x3 : Nat} {x4 : Int32} {x5 : Int32} (hw : ω.2.2.2.1 = true) (s_x0 : gs h x0 = some (7, 2)) (i1 : vp_in x5 100) (kk : Ex ω M7_isDigit 0 [some (.int (gi h (gr h x0 0) (Int32.toNatClampNeg x5)))] [] h 0 0 (fun v h' => Ex ω M7_readAmount 33 [some (.ref x0), some (.int x1), some (.int x2), some (.ref x3), some (.int x4), some (.int x5)] (v.toList ++ []) h' 0 0 Q)) : Ex ω M7_readAmount 23 [some (.ref x0), some (.int x1), some (.int x2), some (.ref x3), some (.int x4), some (.int x5)] [] h 0 0 Q := by
  refine x_aload0 24 dX7_readAmount_23 rfl ?_
  refine x_getR cf7 0 27 hw dX7_readAmount_24 rfl wd83 (fun _ => s_x0) (by decide) (by decide) rfl ?_
  refine x_iload5 29 dX7_readAmount_27 rfl ?_
  refine x_cald (Int32.toNatClampNeg x5) 30 dX7_readAmount_29 rfl (SH.fld hw (fun _ => s_x0) 0 (Nat.le_of_ble_eq_true rfl) rfl rfl) i1 rfl ?_
  exact x_callS 33 [.int (gi h (gr h x0 0) (Int32.toNatClampNeg x5))] [] dX7_readAmount_30 rfl lk_7_isDigit ⟨wd237, wd238⟩ ⟨by decide, by decide⟩ rfl rfl (Nat.le_of_ble_eq_true rfl) (Nat.le_of_ble_eq_true rfl) (by decide) (by decide) kk
set_option maxRecDepth 20000 in
theorem B7_readAmount_33 {ω : Om} {h : AH} {Q : Option Value → AH → Prop} {x0 : Nat} {x1 : Int32} {x2 : Int32} {x3 : Nat} {x4 : Int32} {x5 : Int32} {y0 : Int32} (hw : ω.2.2.2.1 = true) (kt : y0 = 0 → Ex ω M7_readAmount 60 [some (.ref x0), some (.int x1), some (.int x2), some (.ref x3), some (.int x4), some (.int x5)] [] h 0 0 Q) (kf : ¬ y0 = 0 → Ex ω M7_readAmount 36 [some (.ref x0), some (.int x1), some (.int x2), some (.ref x3), some (.int x4), some (.int x5)] [] h 0 0 Q) : Ex ω M7_readAmount 33 [some (.ref x0), some (.int x1), some (.int x2), some (.ref x3), some (.int x4), some (.int x5)] [.int y0] h 0 0 Q := by
  exact x_if_eq 36 60 dX7_readAmount_33 rfl (by decide) kt kf
set_option maxRecDepth 20000 in
theorem B7_readAmount_36 {ω : Om} {h : AH} {Q : Option Value → AH → Prop} {x0 : Nat} {x1 : Int32} {x2 : Int32} {x3 : Nat} {x4 : Int32} {x5 : Int32} (hw : ω.2.2.2.1 = true) (s_x0 : gs h x0 = some (7, 2)) (i1 : vp_in x5 100) (kt : Ex ω M7_readAmount 6 [some (.ref x0), some (.int x1), some (.int x2), some (.ref x3), some (.int ((x4 * (nI 10)) + ((gi h (gr h x0 0) (Int32.toNatClampNeg x5)) - (nI 48)))), some (.int (x5 + (nI 1)))] [] h 0 0 Q) : Ex ω M7_readAmount 36 [some (.ref x0), some (.int x1), some (.int x2), some (.ref x3), some (.int x4), some (.int x5)] [] h 0 0 Q := by
  refine x_iload4 38 dX7_readAmount_36 rfl ?_
  refine x_bipush (nI 10) 40 dX7_readAmount_38 rfl rfl ?_
  refine x_imul 41 dX7_readAmount_40 rfl ?_
  refine x_aload0 42 dX7_readAmount_41 rfl ?_
  refine x_getR cf7 0 45 hw dX7_readAmount_42 rfl wd83 (fun _ => s_x0) (by decide) (by decide) rfl ?_
  refine x_iload5 47 dX7_readAmount_45 rfl ?_
  refine x_cald (Int32.toNatClampNeg x5) 48 dX7_readAmount_47 rfl (SH.fld hw (fun _ => s_x0) 0 (Nat.le_of_ble_eq_true rfl) rfl rfl) i1 rfl ?_
  refine x_bipush (nI 48) 50 dX7_readAmount_48 rfl rfl ?_
  refine x_isub 51 dX7_readAmount_50 rfl ?_
  refine x_iadd 52 dX7_readAmount_51 rfl ?_
  refine x_istore4 54 dX7_readAmount_52 rfl (by decide) rfl ?_
  refine x_iinc5 (x5 + (nI 1)) 57 dX7_readAmount_54 rfl (by decide) rfl rfl ?_
  exact x_goto 6 dX7_readAmount_57 (by decide) kt
set_option maxRecDepth 20000 in
theorem B7_readAmount_60 {ω : Om} {h : AH} {Q : Option Value → AH → Prop} {u0 : Option Value} {x1 : Int32} {x2 : Int32} {x3 : Nat} {x4 : Int32} {x5 : Int32} (hw : ω.2.2.2.1 = true) (kt : x5 = x2 → Ex ω M7_readAmount 84 [none, some (.int x1), some (.int x2), some (.ref x3), some (.int x4), some (.int x5)] [] h 0 0 Q) (kf : ¬ x5 = x2 → Ex ω M7_readAmount 66 [none, some (.int x1), some (.int x2), some (.ref x3), some (.int x4), some (.int x5)] [] h 0 0 Q) : Ex ω M7_readAmount 60 [u0, some (.int x1), some (.int x2), some (.ref x3), some (.int x4), some (.int x5)] [] h 0 0 Q := by
  refine x_dr0 ?_
  refine x_iload5 62 dX7_readAmount_60 rfl ?_
  refine x_iload2 63 dX7_readAmount_62 rfl ?_
  exact x_icmp_eq 66 84 dX7_readAmount_63 rfl (by decide) kt kf
set_option maxRecDepth 20000 in
theorem B7_readAmount_66 {ω : Om} {h : AH} {Q : Option Value → AH → Prop} {u0 : Option Value} {x1 : Int32} {u2 : Option Value} {x3 : Nat} {x4 : Int32} {x5 : Int32} (hw : ω.2.2.2.1 = true) (i1 : vp_in x1 5) (i2 : vp_in x1 5) (kk : Ex ω M8_outside 0 [some (.int x4), some (.int (leastF (Int32.toNatClampNeg x1))), some (.int (mostF (Int32.toNatClampNeg x1)))] [] h 0 0 (fun v h' => Ex ω M7_readAmount 81 [none, some (.int x1), none, some (.ref x3), some (.int x4), some (.int x5)] (v.toList ++ []) h' 0 0 Q)) : Ex ω M7_readAmount 66 [u0, some (.int x1), u2, some (.ref x3), some (.int x4), some (.int x5)] [] h 0 0 Q := by
  refine x_dr0 ?_
  refine x_dr2 ?_
  refine x_iload4 68 dX7_readAmount_66 rfl ?_
  refine x_getsT5 71 dX7_readAmount_68 rfl ⟨rfl, rfl⟩ ?_
  refine x_iload1 72 dX7_readAmount_71 rfl ?_
  refine x_ialT5 (Int32.toNatClampNeg x1) 73 dX7_readAmount_72 rfl i1 rfl ?_
  refine x_getsT6 76 dX7_readAmount_73 rfl ⟨rfl, rfl⟩ ?_
  refine x_iload1 77 dX7_readAmount_76 rfl ?_
  refine x_ialT6 (Int32.toNatClampNeg x1) 78 dX7_readAmount_77 rfl i2 rfl ?_
  exact x_callSN (host := "PalletWrapper") 81 [.int x4, .int (leastF (Int32.toNatClampNeg x1)), .int (mostF (Int32.toNatClampNeg x1))] [] dX7_readAmount_78 rfl lk_8_outside ⟨by decide +kernel, wd240⟩ ⟨by decide, by decide⟩ rfl rfl (Nat.le_of_ble_eq_true rfl) (Nat.le_of_ble_eq_true rfl) (by decide) (by decide) kk
set_option maxRecDepth 20000 in
theorem B7_readAmount_81 {ω : Om} {h : AH} {Q : Option Value → AH → Prop} {u0 : Option Value} {x1 : Int32} {u2 : Option Value} {x3 : Nat} {x4 : Int32} {x5 : Int32} {y0 : Int32} (hw : ω.2.2.2.1 = true) (kt : y0 = 0 → Ex ω M7_readAmount 86 [none, some (.int x1), none, some (.ref x3), some (.int x4), some (.int x5)] [] h 0 0 Q) (kf : ¬ y0 = 0 → Ex ω M7_readAmount 84 [none, some (.int x1), none, some (.ref x3), some (.int x4), some (.int x5)] [] h 0 0 Q) : Ex ω M7_readAmount 81 [u0, some (.int x1), u2, some (.ref x3), some (.int x4), some (.int x5)] [.int y0] h 0 0 Q := by
  refine x_dr0 ?_
  refine x_dr2 ?_
  exact x_if_eq 84 86 dX7_readAmount_81 rfl (by decide) kt kf
set_option maxRecDepth 20000 in
theorem B7_readAmount_84 {ω : Om} {h : AH} {Q : Option Value → AH → Prop} {u0 : Option Value} {u1 : Option Value} {u2 : Option Value} {u3 : Option Value} {u4 : Option Value} {u5 : Option Value} (hw : ω.2.2.2.1 = true) (hq : Q (some (.int ((-1)))) h) : Ex ω M7_readAmount 84 [u0, u1, u2, u3, u4, u5] [] h 0 0 Q := by
  refine x_dr0 ?_
  refine x_dr1 ?_
  refine x_dr2 ?_
  refine x_dr3 ?_
  refine x_dr4 ?_
  refine x_dr5 ?_
  refine x_iconst ((-1)) 85 dX7_readAmount_84 rfl rfl ?_
  exact x_iret dX7_readAmount_85 rfl (Nat.zero_le _) (Nat.zero_le _) hq
set_option maxRecDepth 20000 in
theorem B7_readAmount_86 {ω : Om} {h : AH} {Q : Option Value → AH → Prop} {u0 : Option Value} {x1 : Int32} {u2 : Option Value} {x3 : Nat} {x4 : Int32} {x5 : Int32} (hw : ω.2.2.2.1 = true) (s_x3 : gs h x3 = some (2, 3)) (kk : Ex ω M2_append 0 [some (.ref x3), some (.int x1), some (.int x4)] [] h 0 0 (fun v h' => Ex ω M7_readAmount 93 [none, some (.int x1), none, some (.ref x3), some (.int x4), some (.int x5)] (v.toList ++ []) h' 0 0 Q)) : Ex ω M7_readAmount 86 [u0, some (.int x1), u2, some (.ref x3), some (.int x4), some (.int x5)] [] h 0 0 Q := by
  refine x_dr0 ?_
  refine x_dr2 ?_
  refine x_aload3 87 dX7_readAmount_86 rfl ?_
  refine x_iload1 88 dX7_readAmount_87 rfl ?_
  refine x_iload4 90 dX7_readAmount_88 rfl ?_
  exact x_callV 93 x3 [.int x1, .int x4] [] dX7_readAmount_90 rfl lk_2_append ⟨wd242, wd243, wd244⟩ ⟨by decide, by decide⟩ (recvO cf2 (fun _ => s_x3)) rfl rfl (Nat.le_of_ble_eq_true rfl) (Nat.le_of_ble_eq_true rfl) (by decide) (by decide) kk
set_option maxRecDepth 20000 in
theorem B7_readAmount_93 {ω : Om} {h : AH} {Q : Option Value → AH → Prop} {u0 : Option Value} {u1 : Option Value} {u2 : Option Value} {u3 : Option Value} {u4 : Option Value} {x5 : Int32} (hw : ω.2.2.2.1 = true) (hq : Q (some (.int x5)) h) : Ex ω M7_readAmount 93 [u0, u1, u2, u3, u4, some (.int x5)] [] h 0 0 Q := by
  refine x_dr0 ?_
  refine x_dr1 ?_
  refine x_dr2 ?_
  refine x_dr3 ?_
  refine x_dr4 ?_
  refine x_iload5 95 dX7_readAmount_93 rfl ?_
  exact x_iret dX7_readAmount_95 rfl (Nat.zero_le _) (Nat.zero_le _) hq
set_option maxRecDepth 20000 in
theorem B7_isDigit_0 {ω : Om} {h : AH} {Q : Option Value → AH → Prop} {x0 : Int32} (hw : ω.2.2.2.1 = true) (kt : x0 < (nI 48) → Ex ω M7_isDigit 16 [some (.int x0)] [] h 0 0 Q) (kf : ¬ x0 < (nI 48) → Ex ω M7_isDigit 6 [some (.int x0)] [] h 0 0 Q) : Ex ω M7_isDigit 0 [some (.int x0)] [] h 0 0 Q := by
  refine x_iload0 1 dX7_isDigit_0 rfl ?_
  refine x_bipush (nI 48) 3 dX7_isDigit_1 rfl rfl ?_
  exact x_icmp_lt 6 16 dX7_isDigit_3 rfl (by decide) kt kf
set_option maxRecDepth 20000 in
theorem B7_isDigit_6 {ω : Om} {h : AH} {Q : Option Value → AH → Prop} {x0 : Int32} (hw : ω.2.2.2.1 = true) (kt : (nI 57) < x0 → Ex ω M7_isDigit 16 [some (.int x0)] [] h 0 0 Q) (kf : ¬ (nI 57) < x0 → Ex ω M7_isDigit 12 [some (.int x0)] [] h 0 0 Q) : Ex ω M7_isDigit 6 [some (.int x0)] [] h 0 0 Q := by
  refine x_iload0 7 dX7_isDigit_6 rfl ?_
  refine x_bipush (nI 57) 9 dX7_isDigit_7 rfl rfl ?_
  exact x_icmp_gt 12 16 dX7_isDigit_9 rfl (by decide) kt kf
set_option maxRecDepth 20000 in
theorem B7_isDigit_12 {ω : Om} {h : AH} {Q : Option Value → AH → Prop} {u0 : Option Value} (hw : ω.2.2.2.1 = true) (kt : Ex ω M7_isDigit 17 [none] [.int (nI 1)] h 0 0 Q) : Ex ω M7_isDigit 12 [u0] [] h 0 0 Q := by
  refine x_dr0 ?_
  refine x_iconst (nI 1) 13 dX7_isDigit_12 rfl rfl ?_
  exact x_goto 17 dX7_isDigit_13 (by decide) kt
set_option maxRecDepth 20000 in
theorem B7_isDigit_16 {ω : Om} {h : AH} {Q : Option Value → AH → Prop} {u0 : Option Value} (hw : ω.2.2.2.1 = true) (kf : Ex ω M7_isDigit 17 [none] [.int (nI 0)] h 0 0 Q) : Ex ω M7_isDigit 16 [u0] [] h 0 0 Q := by
  refine x_dr0 ?_
  refine x_iconst (nI 0) 17 dX7_isDigit_16 rfl rfl ?_
  exact kf
set_option maxRecDepth 20000 in
theorem B7_isDigit_17 {ω : Om} {h : AH} {Q : Option Value → AH → Prop} {u0 : Option Value} {y0 : Int32} (hw : ω.2.2.2.1 = true) (hz : narrow .boolean (.int y0) = .int y0) (hq : Q (some (.int y0)) h) : Ex ω M7_isDigit 17 [u0] [.int y0] h 0 0 Q := by
  refine x_dr0 ?_
  exact x_zret dX7_isDigit_17 rfl hz (Nat.zero_le _) (Nat.zero_le _) hq
