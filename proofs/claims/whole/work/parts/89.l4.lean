/-! each call on both, the wrapping and the plans -/
section SEM2
variable {ω : Om} {h : AH} {B q : Nat}
theorem front_of (N : Nat → Int32) (w : Nat) : ∃ k, 1 ≤ w → frontK N w k := by
  by_cases z : 1 ≤ w
  · obtain ⟨k, hk⟩ := front_k N z
    exact ⟨k, fun _ => hk⟩
  · exact ⟨0, fun y => absurd y z⟩
theorem sem_wrap (hw : ω.2.2.2.1 = true) (li : LI B q h) (hq : q < 2 ^ 20) : Ex ω M8_wrap 0 [some (.ref B)] [] h 0 0 (Q9 ω M9_wrap [some (.ref (B + 324))] B q) := by
  obtain ⟨ml, hs, zA, st, len, hst, f2, f5, cw⟩ := li
  obtain ⟨c0, w, d0, nx, lo, hi, acc, vs, iv⟩ := cw.2.1
  obtain ⟨k, fk⟩ := front_of (gi h (B + 324 + 1)) w
  have cwm := cw.mono (Nat.le_succ q)
  refine t8_wrap hw cw vs iv (by omega) fk (fu := 600007) (Nat.le_refl _) (by omega) (fun w0 => Q9_mk ml (Frm.refl _ _ _) (fun ml1 => ?_)) (fun w1 h1 f cw1 => Q9_mk ml f (fun ml1 => ?_))
  · exact t9_wrap hw ml1 hs iv (by omega) fk (fu := 600007) (Nat.le_refl _) hst f2 (fun _ => ⟨rfl, LI_mk ml1 hs zA hst f2 f5 cwm⟩) (fun w1 => by omega)
  · exact t9_wrap hw ml1 (by rw [f.1]; exact hs) iv (by omega) fk (fu := 600007) (Nat.le_refl _) hst f2 (fun w0 => by omega) (fun _ F' S' st' hst' hm g2 g5 => ⟨rfl, LI_mk ml1 (by rw [f.1]; exact hs) zA hst' g2 (g5.trans f5) (by rw [hm]; exact cw1)⟩)
theorem sem_ifWrap (hw : ω.2.2.2.1 = true) (li : LI B q h) (hq : q < 2 ^ 20) {x : Int32} : Ex ω M8_ifWrap 0 [some (.ref B), some (.int x)] [] h 0 0 (Q9 ω M9_ifWrap [some (.ref (B + 324)), some (.int x), none] B q) := by
  obtain ⟨ml, hs, zA, st, len, hst, f2, f5, cw⟩ := li
  obtain ⟨c0, w, d0, nx, lo, hi, acc, vs, iv⟩ := cw.2.1
  have zN := iv.2.2.2.2.2.2.2.2.2.2
  obtain ⟨k, fk⟩ := front_of (gi h (B + 324 + 1)) w
  have cwm := cw.mono (Nat.le_succ q)
  have ar : ∀ j : Nat, j ≤ 9 → x = nI j → (0 ≤ x ∧ x ≤ nI 9) := fun j a e => by
    rw [e, show (0 : Int32) = nI 0 from rfl, nI_leI (by omega) (by omega), nI_leI (by omega) (by omega)]; omega
  refine t8_ifWrap hw cw vs iv (by omega) fk (fu := 600007) (Nat.le_refl _) (by omega) (fun n1 => Q9_mk ml (Frm.refl _ _ _) (fun ml1 => ?_)) (fun ok w0 => Q9_mk ml (Frm.refl _ _ _) (fun ml1 => ?_)) (fun w1 j ej hj h1 f cw1 => Q9_mk ml f (fun ml1 => ?_))
  · exact t9_ifWrap hw ml1 hs zA iv (by omega) fk (fu := 600007) (Nat.le_refl _) (fun _ => ⟨rfl, LI_mk ml1 hs zA hst f2 f5 cwm⟩) (fun ok _ => absurd ok n1) (fun _ j e hj _ _ _ => absurd (ar j hj e) n1)
  · exact t9_ifWrap hw ml1 hs zA iv (by omega) fk (fu := 600007) (Nat.le_refl _) (fun n1 => absurd ok n1) (fun _ _ => ⟨rfl, LI_mk ml1 hs zA hst f2 f5 cwm⟩) (fun w1 => by omega)
  · refine t9_ifWrap hw ml1 (by rw [f.1]; exact hs) zA iv (by omega) fk (fu := 600007) (Nat.le_refl _) (fun n1 => absurd (ar j hj ej) n1) (fun _ w0 => by omega) (fun _ j2 e2 hj2 F' g2 g5 => ?_)
    obtain rfl : j2 = j := (nI_eq (by omega) (by omega)).mp (e2.symm.trans ej)
    exact ⟨rfl, LI_mk ml1 (by rw [f.1]; exact hs) zN hst (g2.trans f2) (g5.trans f5) (cw1.mono (Nat.le_succ q))⟩
theorem sem_done (hw : ω.2.2.2.1 = true) (li : LI B q h) (hq : q < 2 ^ 20) {x y : Int32} : Ex ω M8_done 0 [some (.ref B), some (.int x), some (.int y)] [] h 0 0 (Q9 ω M9_done [some (.ref (B + 324)), some (.int x), some (.int y), none] B q) := by
  obtain ⟨ml, hs, zA, st, len, hst, f2, f5, cw⟩ := li
  obtain ⟨c0, w, d0, nx, lo, hi, acc, vs, iv⟩ := cw.2.1
  have cwm := cw.mono (Nat.le_succ q)
  have n7 := iv.2.2.2.2.2.1.1
  have b7 := iv.2.2.2.2.2.1.2
  have ec : ∀ c1 : Nat, gi h (B + 324 + 1) 7 = nI c1 → c1 < 2 ^ 30 → c1 = d0 := fun c1 n0 b => (nI_eq (by omega) (by omega)).mp (n0.symm.trans n7)
  have ar : ∀ i j : Nat, i < 2 ^ 31 → j ≤ 12 → x = nI i → y = nI j → (¬ x < 0 ∧ (0 ≤ y ∧ y ≤ nI 12)) := fun i j a b e1 e2 => ⟨by rw [e1]; exact nI_pos a, by rw [e2, show (0 : Int32) = nI 0 from rfl, nI_leI (by omega) (by omega), nI_leI (by omega) (by omega)]; omega⟩
  refine t8_done hw cw (by omega) (fun n1 => Q9_mk ml (Frm.refl _ _ _) (fun ml1 => ?_)) (fun dn i e1 b1 ex hi' ok no => Q9_mk ml (Frm.refl _ _ _) (fun ml1 => ?_)) (fun dn i j e1 b1 ex ey hi' h6 hj => Q9_mk ml (Frm.refl _ _ _) (fun ml1 => ?_))
  · refine t9_done hw ml1 n7 (by omega) (fun _ => ⟨rfl, LI_mk ml1 hs zA hst f2 f5 cwm⟩) (fun i e a ok _ => absurd ⟨by rw [e]; exact nI_pos a, ok⟩ n1) (fun i j e e2 a b c => absurd (ar i j (by omega) c e e2) n1)
  · obtain rfl := ec dn e1 b1
    refine t9_done hw ml1 n7 b1 (fun n1 => absurd ⟨by rw [ex]; exact nI_pos hi', ok⟩ n1) (fun _ _ _ _ _ => ⟨rfl, LI_mk ml1 hs zA hst f2 f5 cwm⟩) (fun i2 j e e2 a b c => ?_)
    obtain rfl : i2 = i := (nI_eq (by omega) (by omega)).mp (e.symm.trans ex)
    exact absurd ⟨a, b⟩ no
  · obtain rfl := ec dn e1 b1
    refine t9_done hw ml1 n7 b1 (fun n1 => absurd (ar i j (by omega) hj ex ey) n1) (fun i2 e a ok no => ?_) (fun i2 j2 e e2 a b c => ?_)
    · obtain rfl : i2 = i := (nI_eq (by omega) (by omega)).mp (e.symm.trans ex)
      exact absurd ⟨hi', h6⟩ no
    · obtain rfl : i2 = i := (nI_eq (by omega) (by omega)).mp (e.symm.trans ex)
      obtain rfl : j2 = j := (nI_eq (by omega) (by omega)).mp (e2.symm.trans ey)
      exact ⟨rfl, LI_mk ml1 hs zA hst f2 f5 cwm⟩
theorem sem_zone (hw : ω.2.2.2.1 = true) (li : LI B q h) (hq : q < 2 ^ 20) {x z y : Int32} : Ex ω M8_zone 0 [some (.ref B), some (.int x), some (.int z), some (.int y)] [] h 0 0 (Q9 ω M9_zone [some (.ref (B + 324)), some (.int x), some (.int z), some (.int y), none] B q) := by
  obtain ⟨ml, hs, zA, st, len, hst, f2, f5, cw⟩ := li
  obtain ⟨c0, w, d0, nx, lo, hi, acc, vs, iv⟩ := cw.2.1
  have cwm := cw.mono (Nat.le_succ q)
  have n7 := iv.2.2.2.2.2.1.1
  have b7 := iv.2.2.2.2.2.1.2
  have zo := iv.2.2.2.2.2.2.2.2.2.1
  have hz : ∀ i, i < d0 → i < 6 → ∃ zn, gi h (B + 324 + 1) (keptB d0 i + 12) = nI zn ∧ zn ≤ 25 := fun i a b => by
    obtain ⟨zn, z1, z2⟩ := zo ((d0 - 1 - i) % 6) (by omega)
    exact ⟨zn, z2, z1⟩
  have ec : ∀ c1 : Nat, gi h (B + 324 + 1) 7 = nI c1 → c1 < 2 ^ 30 → c1 = d0 := fun c1 n0 b => (nI_eq (by omega) (by omega)).mp (n0.symm.trans n7)
  have ar : ∀ i k j : Nat, i < 2 ^ 31 → k < 2 ^ 31 → j ≤ 1 → x = nI i → z = nI k → y = nI j → (¬ x < 0 ∧ ¬ z < 0 ∧ (0 ≤ y ∧ y ≤ nI 1)) := fun i k j a a2 b e1 e3 e2 => ⟨by rw [e1]; exact nI_pos a, by rw [e3]; exact nI_pos a2, by rw [e2, show (0 : Int32) = nI 0 from rfl, nI_leI (by omega) (by omega), nI_leI (by omega) (by omega)]; omega⟩
  refine t8_zone hw cw (by omega) (fun n1 => Q9_mk ml (Frm.refl _ _ _) (fun ml1 => ?_)) (fun dn i e1 b1 ex hi' cz ok no => Q9_mk ml (Frm.refl _ _ _) (fun ml1 => ?_)) (fun dn i k j e1 b1 ex ez ey hi' h6 lt hk hj => Q9_mk ml (Frm.refl _ _ _) (fun ml1 => ?_))
  · refine t9_zone hw ml1 hs n7 (by omega) hz (fun _ => ⟨rfl, LI_mk ml1 hs zA hst f2 f5 cwm⟩) (fun i e a cz ok _ => absurd ⟨by rw [e]; exact nI_pos a, cz, ok⟩ n1) (fun i k j e e3 e2 a b c d f => absurd (ar i k j (by omega) (by omega) f e e3 e2) n1)
  · obtain rfl := ec dn e1 b1
    refine t9_zone hw ml1 hs n7 b1 hz (fun n1 => absurd ⟨by rw [ex]; exact nI_pos hi', cz, ok⟩ n1) (fun _ _ _ _ _ _ => ⟨rfl, LI_mk ml1 hs zA hst f2 f5 cwm⟩) (fun i2 k j e e3 e2 a b c d f => ?_)
    obtain rfl : i2 = i := (nI_eq (by omega) (by omega)).mp (e.symm.trans ex)
    exact absurd ⟨a, b, c⟩ no
  · obtain rfl := ec dn e1 b1
    refine t9_zone hw ml1 hs n7 b1 hz (fun n1 => absurd (ar i k j (by omega) (by omega) hj ex ez ey) n1) (fun i2 e a cz ok no => ?_) (fun i2 k2 j2 e e3 e2 a b c d f => ?_)
    · obtain rfl : i2 = i := (nI_eq (by omega) (by omega)).mp (e.symm.trans ex)
      exact absurd ⟨hi', h6, lt⟩ no
    · obtain rfl : i2 = i := (nI_eq (by omega) (by omega)).mp (e.symm.trans ex)
      obtain rfl : k2 = k := (nI_eq (by omega) (by omega)).mp (e3.symm.trans ez)
      obtain rfl : j2 = j := (nI_eq (by omega) (by omega)).mp (e2.symm.trans ey)
      exact ⟨rfl, LI_mk ml1 hs zA hst f2 f5 cwm⟩
theorem sem_total (hw : ω.2.2.2.1 = true) (li : LI B q h) {x : Int32} : Ex ω M8_total 0 [some (.ref B), some (.int x)] [] h 0 0 (Q9 ω M9_total [some (.ref (B + 324)), some (.int x)] B q) := by
  obtain ⟨ml, hs, zA, st, len, hst, f2, f5, cw⟩ := li
  have cwm := cw.mono (Nat.le_succ q)
  have ar : ∀ j : Nat, j < 10 → x = nI j → (0 ≤ x ∧ x ≤ nI 9) := fun j a e => by
    rw [e, show (0 : Int32) = nI 0 from rfl, nI_leI (by omega) (by omega), nI_leI (by omega) (by omega)]; omega
  refine t8_total hw cw (fun n1 => Q9_mk ml (Frm.refl _ _ _) (fun ml1 => ?_)) (fun j ej hj => Q9_mk ml (Frm.refl _ _ _) (fun ml1 => ?_))
  · exact t9_total hw ml1 (fun _ => ⟨rfl, LI_mk ml1 hs zA hst f2 f5 cwm⟩) (fun j e hj => absurd (ar j hj e) n1)
  · refine t9_total hw ml1 (fun n1 => absurd (ar j hj ej) n1) (fun j2 e hj2 => ?_)
    obtain rfl : j2 = j := (nI_eq (by omega) (by omega)).mp (e.symm.trans ej)
    exact ⟨rfl, LI_mk ml1 hs zA hst f2 f5 cwm⟩
theorem sem_weight (hw : ω.2.2.2.1 = true) (li : LI B q h) : Ex ω M8_weight 0 [some (.ref B)] [] h 0 0 (fun v h1 => ∃ y : Int64, v = some (.long y) ∧ gs h1 (B + 324) = some (9, 17) ∧ Ex ω M9_weight 0 [some (.ref (B + 324))] [] h1 0 0 (fun v2 h2 => v2 = some (.long y) ∧ LI B (q + 1) h2)) := by
  obtain ⟨ml, hs, zA, st, len, hst, f2, f5, cw⟩ := li
  have cwm := cw.mono (Nat.le_succ q)
  refine t8_weight hw cw ⟨_, rfl, ml.1, ?_⟩
  have e := mid_eq (Frm.refl B (B + 324) h)
  rw [e]
  rw [← e]
  have k : Ex ω M9_weight 0 [some (.ref (B + 324))] [] (hM h (B + 324) (gi h (B + 324)) (gi h (B + 324 + 1)) (gi h (B + 324 + 2)) (gi h (B + 324 + 3)) (gi h (B + 324 + 4)) (gi h (B + 324 + 5))) 0 0 (fun v2 h2 => v2 = some (.long (weightR (gi h (B + 324 + 1)))) ∧ LI B (q + 1) h2) := t9_weight hw ml ⟨rfl, LI_mk ml hs zA hst f2 f5 cwm⟩
  rwa [← e] at k
theorem sem_planned (hw : ω.2.2.2.1 = true) (li : LI B q h) {x : Int32} : Ex ω M8_planned 0 [some (.ref B), some (.int x)] [] h 0 0 (Q9 ω M9_planned [some (.ref (B + 324)), some (.int x), none, none] B q) := by
  obtain ⟨ml, hs, zA, st, len, hst, f2, f5, cw⟩ := li
  obtain ⟨c0, w, d0, nx, lo, hi, acc, vs, iv⟩ := cw.2.1
  obtain ⟨k, fk⟩ := front_of (gi h (B + 324 + 1)) w
  have cwm := cw.mono (Nat.le_succ q)
  have ex0 : ∀ i : Nat, i < 2 ^ 31 → x = nI i → ¬ x < 0 := fun i a e => by rw [e]; exact nI_pos a
  have zb : 1 ≤ w → (palV (gi h (B + 324 + 1)) k 3 + 9) / 10 ≤ 1000 := fun w1 => by
    obtain ⟨P, hh, lim, _, _, _, _, _, _, b, _, _, e3, _⟩ := front_pal cw.1.2.2.2.2.1 vs iv (fk w1)
    omega
  refine t8_planned hw cw vs iv fk (fun n1 => Q9_mk ml (Frm.refl _ _ _) (fun ml1 => ?_)) (fun nx0 w0 => Q9_mk ml (Frm.refl _ _ _) (fun ml1 => ?_)) (fun w1 i ei hi' le => Q9_mk ml (Frm.refl _ _ _) (fun ml1 => ?_)) (fun w1 i ei lt h1 f cw1 => Q9_mk ml f (fun ml1 => ?_))
  · exact t9_planned hw ml1 iv fk (fun _ => ⟨rfl, LI_mk ml1 hs zA hst f2 f5 cwm⟩) (fun n2 _ => absurd n1 n2) (fun _ i e a _ _ _ _ => absurd n1 (ex0 i a e)) (fun w1 i e a _ _ _ => absurd n1 (ex0 i (by have := zb w1; omega) e))
  · exact t9_planned hw ml1 iv fk (fun n1 => absurd n1 nx0) (fun _ _ => ⟨rfl, LI_mk ml1 hs zA hst f2 f5 cwm⟩) (fun w1 => by omega) (fun w1 => by omega)
  · refine t9_planned hw ml1 iv fk (fun n1 => absurd n1 (ex0 i hi' ei)) (fun _ w0 => by omega) (fun _ i2 e a b F' g2 g5 => ⟨rfl, LI_mk ml1 hs zA hst (g2.trans f2) (g5.trans f5) cwm⟩) (fun w1 i2 e a F' g2 g5 => ?_)
    obtain rfl : i2 = i := (nI_eq (by have := zb w1; omega) (by omega)).mp (e.symm.trans ei)
    omega
  · have z1 := zb w1
    refine t9_planned hw ml1 iv fk (fun n1 => absurd n1 (ex0 i (by omega) ei)) (fun _ w0 => by omega) (fun _ i2 e a b F' g2 g5 => ?_) (fun w1 i2 e a F' g2 g5 => ?_)
    · obtain rfl : i2 = i := (nI_eq (by omega) (by omega)).mp (e.symm.trans ei)
      omega
    · obtain rfl : i2 = i := (nI_eq (by omega) (by omega)).mp (e.symm.trans ei)
      exact ⟨rfl, LI_mk ml1 (by rw [f.1]; exact hs) zA hst (g2.trans f2) (g5.trans f5) (cw1.mono (Nat.le_succ q))⟩
theorem sem_riseFor (hw : ω.2.2.2.1 = true) (li : LI B q h) {x : Int32} : Ex ω M8_riseFor 0 [some (.ref B), some (.int x), none] [] h 0 0 (Q9 ω M9_riseFor [some (.ref (B + 324)), some (.int x), none, none, none] B q) := by
  obtain ⟨ml, hs, zA, st, len, hst, f2, f5, cw⟩ := li
  obtain ⟨c0, w, d0, nx, lo, hi, acc, vs, iv⟩ := cw.2.1
  obtain ⟨k, fk⟩ := front_of (gi h (B + 324 + 1)) w
  have cwm := cw.mono (Nat.le_succ q)
  have ar : ∀ n : Nat, 1 ≤ n → n ≤ 50 → x = nI n → (nI 1 ≤ x ∧ x ≤ nI 50) := fun n a b e => by
    rw [e, nI_leI (by omega) (by omega), nI_leI (by omega) (by omega)]; omega
  refine t8_riseFor hw cw vs iv fk (fun n1 => Q9_mk ml (Frm.refl _ _ _) (fun ml1 => ?_)) (fun ok w0 => Q9_mk ml (Frm.refl _ _ _) (fun ml1 => ?_)) (fun w1 n e a b h1 f cw1 => Q9_mk ml f (fun ml1 => ?_))
  · exact t9_riseFor hw ml1 iv fk (fun _ => ⟨rfl, LI_mk ml1 hs zA hst f2 f5 cwm⟩) (fun ok _ => absurd ok n1) (fun _ n e a b _ _ _ => absurd (ar n a b e) n1)
  · exact t9_riseFor hw ml1 iv fk (fun n1 => absurd ok n1) (fun _ _ => ⟨rfl, LI_mk ml1 hs zA hst f2 f5 cwm⟩) (fun w1 => by omega)
  · refine t9_riseFor hw ml1 iv fk (fun n1 => absurd (ar n a b e) n1) (fun _ w0 => by omega) (fun _ n2 e2 a2 b2 F' g2 g5 => ?_)
    obtain rfl : n2 = n := (nI_eq (by omega) (by omega)).mp (e2.symm.trans e)
    exact ⟨rfl, LI_mk ml1 (by rw [f.1]; exact hs) zA hst (g2.trans f2) (g5.trans f5) (cw1.mono (Nat.le_succ q))⟩
theorem sem_tensionFor (hw : ω.2.2.2.1 = true) (li : LI B q h) {x : Int32} : Ex ω M8_tensionFor 0 [some (.ref B), some (.int x)] [] h 0 0 (Q9 ω M9_tensionFor [some (.ref (B + 324)), some (.int x), none] B q) := by
  obtain ⟨ml, hs, zA, st, len, hst, f2, f5, cw⟩ := li
  obtain ⟨c0, w, d0, nx, lo, hi, acc, vs, iv⟩ := cw.2.1
  obtain ⟨k, fk⟩ := front_of (gi h (B + 324 + 1)) w
  have cwm := cw.mono (Nat.le_succ q)
  have ar : ∀ n : Nat, 1 ≤ n → n ≤ 500 → x = nI n → (nI 1 ≤ x ∧ x ≤ nI 500) := fun n a b e => by
    rw [e, nI_leI (by omega) (by omega), nI_leI (by omega) (by omega)]; omega
  refine t8_tensionFor hw cw vs iv fk (fun n1 => Q9_mk ml (Frm.refl _ _ _) (fun ml1 => ?_)) (fun ok w0 => Q9_mk ml (Frm.refl _ _ _) (fun ml1 => ?_)) (fun w1 n e a b => Q9_mk ml (Frm.refl _ _ _) (fun ml1 => ?_))
  · exact t9_tensionFor hw ml1 iv fk (fun _ => ⟨rfl, LI_mk ml1 hs zA hst f2 f5 cwm⟩) (fun ok _ => absurd ok n1) (fun _ n e a b _ _ _ => absurd (ar n a b e) n1)
  · exact t9_tensionFor hw ml1 iv fk (fun n1 => absurd ok n1) (fun _ _ => ⟨rfl, LI_mk ml1 hs zA hst f2 f5 cwm⟩) (fun w1 => by omega)
  · refine t9_tensionFor hw ml1 iv fk (fun n1 => absurd (ar n a b e) n1) (fun _ w0 => by omega) (fun _ n2 e2 a2 b2 F' g2 g5 => ?_)
    obtain rfl : n2 = n := (nI_eq (by omega) (by omega)).mp (e2.symm.trans e)
    exact ⟨rfl, LI_mk ml1 hs zA hst (g2.trans f2) (g5.trans f5) cwm⟩
theorem sem_supply (hw : ω.2.2.2.1 = true) (li : LI B q h) (hq : q < 2 ^ 20) : Ex ω M8_supply 0 [some (.ref B), none, none] [] h 0 0 (Q9 ω M9_supply [some (.ref (B + 324)), none, none] B q) := by
  obtain ⟨ml, hs, zA, st, len, hst, f2, f5, cw⟩ := li
  obtain ⟨c0, w, d0, nx, lo, hi, acc, vs, iv⟩ := cw.2.1
  have zN := iv.2.2.2.2.2.2.2.2.2.2
  refine t8_supply hw cw vs iv (by omega) (fu := 600007) (Nat.le_refl _) (by omega) (fun h1 f cw1 => Q9_mk ml f (fun ml1 => ?_))
  exact t9_supply hw ml1 (by rw [f.1]; exact hs) zA iv (by omega) (fu := 600007) (Nat.le_refl _) (fun F' g2 g5 => ⟨rfl, LI_mk ml1 (by rw [f.1]; exact hs) zN hst (g2.trans f2) (g5.trans f5) (cw1.mono (Nat.le_succ q))⟩)
end SEM2
