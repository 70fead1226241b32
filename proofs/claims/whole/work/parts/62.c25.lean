theorem t8_zone {ω : Om} {h : AH} {Q : Option Value → AH → Prop} (hw : ω.2.2.2.1 = true) {B : Nat} {N : Nat → Int32} {H : List (Nat → Int32)} {T : Nat → Int32} {len K : Nat} {x z y : Int32} (cw : CW h B N H T len K) (hK : K < 2 ^ 28) (q1 : ¬ (¬ x < 0 ∧ ¬ z < 0 ∧ (0 ≤ y ∧ y ≤ nI 1)) → Q (some (.int (-1))) h) (q2 : ∀ dn i : Nat, N 7 = nI dn → dn < 2 ^ 30 → x = nI i → i < 2 ^ 31 → ¬ z < 0 → (0 ≤ y ∧ y ≤ nI 1) → ¬ (i < dn ∧ i < 6 ∧ z < N (keptB dn i + 12)) → Q (some (.int (-4))) h) (q3 : ∀ dn i k j : Nat, N 7 = nI dn → dn < 2 ^ 30 → x = nI i → z = nI k → y = nI j → i < dn → i < 6 → z < N (keptB dn i + 12) → k < 25 → j ≤ 1 → Q (some (.int (N (keptB dn i + (if j = 0 then 13 else 38) + k)))) h) : Ex ω M8_zone 0 [some (.ref B), some (.int x), some (.int z), some (.int y)] [] h 0 0 Q := by
  obtain ⟨c, w, d, nx, lo, hi, acc, vs, iv⟩ := cw.2.1
  have lw := cw.1
  have ls := lw.2.2.2.2.1
  have n7 := iv.2.2.2.2.2.1.1
  obtain ⟨k1, k2⟩ := vs.2.2.2.1
  refine B8_zone_0 hw (fun c => B8_zone_17 hw (q1 (fun o => o.1 c))) (fun cx => ?_)
  refine B8_zone_4 hw (fun c => B8_zone_17 hw (q1 (fun o => o.2.1 c))) (fun cz => ?_)
  refine B8_zone_8 hw (t8_outside hw (fun a1 a2 => ?_) (fun zz => ?_))
  rotate_left
  · exact B8_zone_14 hw (fun c => absurd c (by decide)) (fun _ => B8_zone_17 hw (q1 (fun o => zz o.2.2)))
  refine B8_zone_14 hw (fun _ => ?_) (fun c => absurd rfl c)
  obtain ⟨i, hi', rfl⟩ := nI_of cx
  obtain ⟨k, hk', rfl⟩ := nI_of cz
  obtain ⟨j, rfl, _, hj⟩ := bd_of (lo := 0) (hi := 1) (by omega) (by omega) a1 a2
  refine B8_zone_19 hw lw.1.1 (fun c => ?_) (fun c => ?_)
  · rw [lw.2.1.1, k1, nI_leI (by omega) (by omega)] at c
    exact B8_zone_46 hw (q2 d i n7 (by have := iv.2.2.2.2.2.1.2; omega) rfl hi' cz ⟨a1, a2⟩ (by omega))
  · rw [lw.2.1.1, k1, nI_leI (by omega) (by omega)] at c
    have hid : i < min d 6 := by omega
    obtain ⟨jj, hjj, ej, oj⟩ := ls.res (i := i) (by omega)
    have kv := k2 i hid
    have v1 := kv.2.1
    obtain ⟨zn, z1, z2, z3, z4, _⟩ := kv.2.2.2.2.2.2.2.2.2.2.2
    have iv6 : vp_in (nI i) 6 := vp_in_nI (by omega) (by omega)
    refine B8_zone_30 hw lw.1.1 iv6 (fun c2 => ?_) (fun c2 => ?_)
    · rw [lw.2.1.1, ls.2.1.2.2.1, nI_clamp (by omega), show gr h (B + 1 + 29) i = kA h (B + 1) i from rfl, v1] at c2
      have c3 := c2
      rw [z1, nI_ltI (by omega) (by omega)] at c3
      have q3' := q3 d i k j n7 (by have := iv.2.2.2.2.2.1.2; omega) rfl rfl rfl (by omega) (by omega) c2 (by omega) hj
      have ivk : vp_in (nI k) 25 := vp_in_nI (by omega) (by omega)
      by_cases zj : j = 0
      · subst zj
        refine B8_zone_49 hw (fun c => absurd rfl c) (fun _ => ?_)
        refine B8_zone_53 hw lw.1.1 iv6 ivk (B8_zone_84 hw ?_)
        rw [lw.2.1.1, ls.2.1.2.2.1, nI_clamp (by omega), nI_clamp (by omega), show gr h (B + 1 + 29) i = kA h (B + 1) i from rfl, oj.2.2.2.1, (z4 k c3).1]
        exact q3'
      · have zj1 : j = 1 := by omega
        subst zj1
        refine B8_zone_49 hw (fun _ => ?_) (fun c => absurd c (by decide))
        refine B8_zone_70 hw lw.1.1 iv6 ivk (B8_zone_84 hw ?_)
        rw [lw.2.1.1, ls.2.1.2.2.1, nI_clamp (by omega), nI_clamp (by omega), show gr h (B + 1 + 29) i = kA h (B + 1) i from rfl, oj.2.2.2.2, (z4 k c3).2]
        exact q3'
    · rw [lw.2.1.1, ls.2.1.2.2.1, nI_clamp (by omega), show gr h (B + 1 + 29) i = kA h (B + 1) i from rfl, v1] at c2
      exact B8_zone_46 hw (q2 d i n7 (by have := iv.2.2.2.2.2.1.2; omega) rfl hi' cz ⟨a1, a2⟩ (fun q => c2 q.2.2))
