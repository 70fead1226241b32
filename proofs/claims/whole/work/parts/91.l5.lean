/-! the law's loop, and its start -/
theorem law_loop {ω : Om} (hw : ω.2.2.2.1 = true) {b0 Ln B : Nat} {xs : Nat → Int32} (hl : Ln ≤ 3072) : ∀ (d q : Nat) (h : AH), Ln ≤ 6 * q + d → 6 * q ≤ Ln + 6 → LI B q h → EL ω b0 Ln xs 18 [some (.ref b0), some (.ref B), some (.ref (B + 324)), some (.int (nI (6 * q)))] [] h 330 7757 := by
  intro d
  have exit : ∀ (q : Nat) (h : AH), EL ω b0 Ln xs 817 [some (.ref b0), some (.ref B), some (.ref (B + 324)), some (.int (nI (6 * q)))] [] h 330 7757 := fun q h =>
    e_iconst 1 818 dL_law_817 rfl rfl (e_ret dL_law_818 (by omega) (by omega))
  have e1 : (nI Ln - nI 6).toInt = (Ln : Int) - 6 := pk_sub_toInt (by omega) (by omega)
  have cond : ∀ q : Nat, 6 * q ≤ Ln + 6 → (nI Ln - nI 6 < nI (6 * q) ↔ Ln < 6 * q + 6) := fun q hq => by
    rw [Int32.lt_iff_toInt_lt, e1, nI_toInt (by omega)]
    omega
  induction d with
  | zero =>
    intro q h hd hq2 li
    refine e_iload3 19 dL_law_18 rfl (e_aload0 20 dL_law_19 rfl (e_slen 21 dL_law_20 rfl (e_bipush (nI 6) 23 dL_law_21 rfl rfl (e_isub 24 dL_law_23 rfl ?_))))
    exact e_icmp_gt 27 817 dL_law_24 rfl (by decide) (fun _ => exit q h) (fun c => absurd ((cond q hq2).mpr (by omega)) c)
  | succ d ih =>
    intro q h hd hq2 li
    refine e_iload3 19 dL_law_18 rfl (e_aload0 20 dL_law_19 rfl (e_slen 21 dL_law_20 rfl (e_bipush (nI 6) 23 dL_law_21 rfl rfl (e_isub 24 dL_law_23 rfl ?_))))
    refine e_icmp_gt 27 817 dL_law_24 rfl (by decide) (fun _ => exit q h) (fun c => ?_)
    have hc : 6 * q + 6 ≤ Ln := Nat.le_of_not_lt (fun z => c ((cond q hq2).mpr z))
    have fin : ∀ h2 : AH, LI B (q + 1) h2 → EL ω b0 Ln xs 811 [some (.ref b0), some (.ref B), some (.ref (B + 324)), some (.int (nI (6 * q)))] [] h2 330 7757 := fun h2 li2 =>
      e_iinc3 (nI (6 * (q + 1))) 814 dL_law_811 rfl (by decide) rfl (nI_add (6 * q) 6) (e_goto 18 dL_law_814 (by decide) (ih (q + 1) h2 (by omega) (by omega) li2))
    have hq20 : q < 2 ^ 20 := by omega
    have hi : 6 * q + 5 < Ln := by omega
    have s8 : gs h B = some (8, 8) := by
      obtain ⟨_, _, _, st, len, _, _, _, cw⟩ := li
      exact cw.1.1.1
    refine e_aload0 28 dL_law_27 rfl (e_iload3 29 dL_law_28 rfl (e_sld (6 * q) 30 dL_law_29 rfl rfl (by omega) hl (e_bipush (nI 31) 32 dL_law_30 rfl rfl (e_iand 33 dL_law_32 rfl ?_))))
    refine e_tsw 25 [152, 185, 228, 261, 324, 347, 380, 413, 426, 449, 472, 485, 498, 511, 544, 557, 580, 593, 616, 649, 692, 715, 729, 752, 775, 798] 811 dL_law_33 rfl (by decide) rfl rfl (by decide) (fun _ => fin h ?_) (fun j hj _ => ?_)
    · obtain ⟨a1, a2, a3, st, len, a4, a5, a6, cw⟩ := li
      exact ⟨a1, a2, a3, st, len, a4, a5, a6, cw.mono (Nat.le_succ q)⟩
    · match j, hj with
      | 0, _ => exact lc_addRoll hl hi s8 (sem_addRoll hw li) fin
      | 1, _ => exact lc_weaken hl hi s8 (sem_weaken hw li) fin
      | 2, _ => exact lc_roll hl hi s8 (sem_roll hw li) fin
      | 3, _ => exact lc_addPallet hl hi s8 (sem_addPallet hw li hq20) fin
      | 4, _ => exact lc_drop hl hi s8 (sem_drop hw li) fin
      | 5, _ => exact lc_waiting hl hi s8 (sem_waiting hw li) fin
      | 6, _ => exact lc_set hl hi s8 (sem_set hw li) fin
      | 7, _ => exact lc_undo hl hi s8 (sem_undo hw li) fin
      | 8, _ => exact lc_count hl hi s8 (sem_count hw li) fin
      | 9, _ => exact lc_type hl hi s8 (sem_type hw li) fin
      | 10, _ => exact lc_clearText hl hi s8 (sem_clearText hw li) fin
      | 11, _ => exact lc_fault hl hi s8 (sem_fault hw li) fin
      | 12, _ => exact lc_load hl hi s8 (sem_load hw li) fin
      | 13, _ => exact lc_step hl hi s8 (sem_step hw li) fin
      | 14, _ => exact lc_write hl hi s8 (sem_write hw li) fin
      | 15, _ => exact lc_textAt hl hi s8 (sem_textAt hw li) fin
      | 16, _ => exact lc_wrap hl hi s8 (sem_wrap hw li hq20) fin
      | 17, _ => exact lc_ifWrap hl hi s8 (sem_ifWrap hw li hq20) fin
      | 18, _ => exact lc_done hl hi s8 (sem_done hw li hq20) fin
      | 19, _ => exact lc_zone hl hi s8 (sem_zone hw li hq20) fin
      | 20, _ => exact lc_total hl hi s8 (sem_total hw li) fin
      | 21, _ => exact lc_weight hl hi s8 (sem_weight hw li) fin
      | 22, _ => exact lc_planned hl hi s8 (sem_planned hw li) fin
      | 23, _ => exact lc_riseFor hl hi s8 (sem_riseFor hw li) fin
      | 24, _ => exact lc_tensionFor hl hi s8 (sem_tensionFor hw li) fin
      | 25, _ => exact lc_supply hl hi s8 (sem_supply hw li hq20) fin
      | j + 26, hj => exact absurd hj (by simp)
