/-! the law's programs: a program is typed and loaded -/
theorem t_programs {ω : Om} {Q : Option Value → AH → Prop} {h : AH} {B K : Nat} {N : Nat → Int32} {H : List (Nat → Int32)} {T : Nat → Int32} {len : Nat} (hw : ω.2.2.2.1 = true) {c : Nat} (hc : c < 2 ^ 31) (cw : CW h B N H T len K) (hq : ∀ (acc : List (Nat × Nat)) (T' : Nat → Int32) (len' : Nat) (h' : AH), 1 ≤ acc.length → acc.length ≤ 5 → Frm B (B + 324) h h' → CW h' B (loadN N acc) (pushH H N) T' len' K → Q (some (.int (nI acc.length))) h') : Ex ω ML_programs 0 [some (.ref B), some (.int (nI c)), some (.int (nI 5)), none, none, none, none, none] [] h 0 0 Q := by
  refine BL_programs_0 hw cw.o8 (by decide) ?_
  rw [pk_rem hc (by omega) (by omega), nI_add]
  have n5 : 1 ≤ 1 + c % 5 ∧ 1 + c % 5 ≤ 5 := by omega
  generalize 1 + c % 5 = n at n5 ⊢
  refine t8_clearText hw cw (fun g0 f0 c0 => ?_)
  refine BL_programs_13 hw ?_
  have loop : ∀ (d i v : Nat) (acc : List (Nat × Nat)) (g : AH), i + d = n → v < 2 ^ 31 → acc.length = i → StepsOk acc → Frm B (B + 324) h g → CP g B N H (putL (progC true acc) (T, 0)) K → Ex ω ML_programs 17 [some (.ref B), none, none, some (.int (nI v)), some (.int (nI n)), some (.int (nI i)), none, none] [] g 0 0 Q := by
    intro d
    induction d with
    | zero =>
      intro i v acc g hi hv ha ok f cc
      obtain ⟨x1, x2, x3, x4, x5⟩ := text_ok (T := T) (acc := acc) (fun e => by rw [e] at ha; simp at ha; omega) (by omega) ok
      refine BL_programs_17 hw (fun _ => ?_) (fun z => absurd (nI_le (by omega) (by omega)) z)
      refine BL_programs_143 hw cc.o8 ?_
      refine t8_load hw cc (fun g2 ne _ _ => absurd (by rw [x5]) ne) (fun g2 _ _ _ f2 c2 => ?_)
      rw [x5] at c2 ⊢
      exact BL_programs_147 hw (hq acc _ _ g2 (by omega) (by omega) (f.trans f2) c2)
    | succ d ih =>
      intro i v acc g hi hv ha ok f cc
      have pl := (progC_len acc).2
      have p2 : (putL (progC true acc) (T, 0)).2 = (progC true acc).length := (putL_at (progC true acc) (T, 0) (by show 0 + (progC true acc).length ≤ 100; omega)).1.trans (Nat.zero_add _)
      -- behind the sign between two steps
      have s125 : ∀ (kd am v' : Nat) (g2 : AH) (p3 : (Nat → Int32) × Nat), kd < 5 → amtLo kd ≤ am → am ≤ amtHi kd → v' < 2 ^ 31 → Frm B (B + 324) h g2 → CP g2 B N H p3 K → p3.2 + 11 ≤ 100 → putL (stepC (kd, am)) p3 = putL (progC true (acc ++ [(kd, am)])) (T, 0) → Ex ω ML_programs 125 [some (.ref B), none, none, some (.int (nI v')), some (.int (nI n)), some (.int (nI i)), some (.int (nI kd)), some (.int (nI am))] [] g2 0 0 Q := fun kd am v' g2 p3 hk a1 a2 hv' f2 c2 pl3 e => by
        have am300 : am ≤ 300 := amt300 (q := (kd, am)) hk a2
        refine BL_programs_125 hw ?_
        refine t_name hw hk c2 (by omega) (fun g3 f3 c3 => ?_)
        refine BL_programs_131 hw ?_
        have nl : (nameC kd 0 (lenS.getD kd 0) ++ [nI 32]).length ≤ 8 := by
          rw [List.length_append, nameC_len]
          have := lenS_le kd
          show lenS.getD kd 0 + 1 ≤ 8
          omega
        have pl4 := (putL_at (nameC kd 0 (lenS.getD kd 0) ++ [nI 32]) p3 (by omega)).1
        refine t_number hw (by omega) c3 (by omega) (fun g4 f4 c4 => ?_)
        refine BL_programs_137 hw ?_
        rw [nI_add]
        refine ih (i + 1) v' (acc ++ [(kd, am)]) g4 (by omega) hv' (by rw [List.length_append, ha]; rfl) (fun x hx => ?_) ((f2.trans f3).trans f4) ?_
        · rcases List.mem_append.mp hx with hx | hx
          · exact ok x hx
          · rw [List.mem_singleton.mp hx]; exact ⟨hk, a1, a2⟩
        · rw [← e]
          rw [← putL_app, List.append_assoc] at c4
          exact c4
      have s104 : ∀ (kd am v' : Nat), kd < 5 → amtLo kd ≤ am → am ≤ amtHi kd → v' < 2 ^ 31 → Ex ω ML_programs 104 [some (.ref B), none, none, some (.int (nI v')), some (.int (nI n)), some (.int (nI i)), some (.int (nI kd)), none] [.int (nI am)] g 0 0 Q := fun kd am v' hk a1 a2 hv' => by
        refine BL_programs_104 hw (fun z => ?_) (fun z => ?_)
        · have i0 : i = 0 := Nat.eq_zero_of_not_pos (fun q => nI_nle q (by omega) z)
          have a0 : acc = [] := List.eq_nil_of_length_eq_zero (by omega)
          refine s125 kd am v' g _ hk a1 a2 hv' f cc (by omega) ?_
          rw [a0]
          show putL (stepC (kd, am)) (T, 0) = putL (progC true [(kd, am)]) (T, 0)
          rw [progC_one]
        · refine BL_programs_111 hw cc.o8 ?_
          refine w_type hw cc (by omega) (by omega) (by omega) (fun g2 f2 c2 => ?_)
          refine BL_programs_117 hw c2.o8 ?_
          have q1 := putC_2 (p := putL (progC true acc) (T, 0)) (c := nI 44) (by omega)
          refine w_type hw c2 (by omega) (by omega) (by omega) (fun g3 f3 c3 => ?_)
          refine BL_programs_124 hw ?_
          refine s125 kd am v' g3 _ hk a1 a2 hv' ((f.trans f2).trans f3) c3 ?_ ?_
          · rw [putC_2 (by omega), q1]; omega
          · cases acc with
            | nil => exact absurd (show nI i ≤ 0 from by rw [← ha]; decide) z
            | cons q0 r => rw [progC_snocT, putL_app]; rfl
      refine BL_programs_17 hw (fun z => absurd z (nI_ge (by omega) (by omega))) (fun _ => ?_)
      obtain ⟨v', hv', ev⟩ := pk_andE (nI v * nI 1103515245 + nI 12345) (m := nI 2147483647) 31 (by decide)
      have e8 : nI v' >>> (nI 8 &&& 31) = nI (v' / 2 ^ 8) := pk_shrN hv' _ 8 (by decide)
      have e12 : nI v' >>> (nI 12 &&& 31) = nI (v' / 2 ^ 12) := pk_shrN hv' _ 12 (by decide)
      have b8 : v' / 2 ^ 8 < 2 ^ 31 := Nat.lt_of_le_of_lt (Nat.div_le_self _ _) hv'
      have b12 : v' / 2 ^ 12 < 2 ^ 31 := Nat.lt_of_le_of_lt (Nat.div_le_self _ _) hv'
      have k5 : v' / 2 ^ 8 % 5 < 5 := Nat.mod_lt _ (by omega)
      have am := amt_drawn (v := v' / 2 ^ 12) (v' / 2 ^ 8 % 5) k5
      refine BL_programs_24 hw (fun z => ?_) (fun z => ?_)
      · rw [ev, e8, pk_rem b8 (by omega) (by omega)] at z ⊢
        generalize v' / 2 ^ 8 % 5 = kd at *
        have kd0 : kd ≠ 0 := fun e => z (by rw [e]; rfl)
        rw [if_neg kd0] at am
        refine BL_programs_61 hw (fun z => ?_) (fun z => ?_)
        · rw [nI_leI (by omega) (by omega)] at z
          rw [if_neg (by omega)] at am
          refine BL_programs_79 hw (fun z2 => ?_) (fun z2 => ?_)
          · have kd3 : kd ≠ 3 := fun e => z2 (by rw [e])
            rw [if_neg kd3] at am
            refine BL_programs_96 hw ?_
            rw [e12, pk_rem b12 (by omega) (by omega)]
            exact s104 kd _ v' k5 am.1 am.2 hv'
          · have kd3 : kd = 3 := (nI_eq (by omega) (by omega)).mp z2
            rw [if_pos kd3] at am
            refine BL_programs_85 hw ?_
            rw [e12, pk_rem b12 (by omega) (by omega)]
            exact s104 kd _ v' k5 am.1 am.2 hv'
        · rw [nI_leI (by omega) (by omega)] at z
          rw [if_pos (by omega)] at am
          refine BL_programs_67 hw ?_
          rw [e12, pk_rem b12 (by omega) (by omega), nI_add]
          exact s104 kd _ v' k5 am.1 am.2 hv'
      · rw [ev, e8, pk_rem b8 (by omega) (by omega)] at z ⊢
        generalize v' / 2 ^ 8 % 5 = kd at *
        have kd0 : kd = 0 := (nI_eq (by omega) (by omega)).mp (z.trans nI_0.symm)
        rw [if_pos kd0] at am
        refine BL_programs_49 hw ?_
        rw [e12, pk_rem b12 (by omega) (by omega), nI_add]
        exact s104 kd _ v' k5 am.1 am.2 hv'
  exact loop n 0 c [] g0 (by omega) hc rfl (fun x hx => by cases hx) f0 c0
