/-! the class: a turn -/
theorem wi_w3 (h : AH) (a : Nat) (f : Nat → Int32) : wi h a f = w3 h a f (gi h (a + 1)) (gi h (a + 2)) := by
  unfold wi w3
  refine Prod.ext rfl (Prod.ext (funext fun b => ?_) rfl)
  show (if b = a then f else h.2.1 b) = if b = a then f else if b = a + 1 then gi h (a + 1) else if b = a + 2 then gi h (a + 2) else h.2.1 b
  by_cases z : b = a
  · rw [if_pos z, if_pos z]
  · rw [if_neg z, if_neg z]
    by_cases z1 : b = a + 1
    · rw [if_pos z1, z1]; rfl
    · rw [if_neg z1]
      by_cases z2 : b = a + 2
      · rw [if_pos z2, z2]; rfl
      · rw [if_neg z2]
theorem mostW_gmxF {N f : Nat → Int32} {e y z lim : Nat} (hl : lim ≤ 5000) (fo : FoOk N e z lim) (hf : ∀ k, k < z → f k = N (e + 38 + k)) : gmxF f (y / 10) (min z ((y + 59) / 10) - y / 10) = nI (mostW N e y z) := by
  have low : ∀ n, n ≤ y / 10 → mostW N e y n = 0 := by
    intro n
    induction n with
    | zero => intro _; rfl
    | succ n ih =>
      intro h
      show (if covP y n ∧ mostW N e y n < nn (N (e + 38 + n)) then nn (N (e + 38 + n)) else mostW N e y n) = 0
      rw [if_neg (fun q => by have := q.1.2; omega)]
      exact ih (by omega)
  have mid : ∀ i, y / 10 + i ≤ min z ((y + 59) / 10) → gmxF f (y / 10) i = nI (mostW N e y (y / 10 + i)) := by
    intro i
    induction i with
    | zero => intro _; rw [Nat.add_zero, low _ (Nat.le_refl _)]; rfl
    | succ i ih =>
      intro h
      show (if gmxF f (y / 10) i < f (y / 10 + i) then f (y / 10 + i) else gmxF f (y / 10) i) = nI (if covP y (y / 10 + i) ∧ mostW N e y (y / 10 + i) < nn (N (e + 38 + (y / 10 + i))) then nn (N (e + 38 + (y / 10 + i))) else mostW N e y (y / 10 + i))
      obtain ⟨v, hv, hv2⟩ := fo (y / 10 + i) (by omega)
      have mw := mostW_le (y := y) hl fo (y / 10 + i) (by omega)
      rw [ih (by omega), hf _ (by omega), hv, nn_nI (by omega)]
      have cv : covP y (y / 10 + i) := ⟨by omega, by omega⟩
      by_cases q : mostW N e y (y / 10 + i) < v
      · rw [if_pos ((nI_ltI (by omega) (by omega)).mpr q), if_pos ⟨cv, q⟩]
      · rw [if_neg (fun p => q ((nI_ltI (by omega) (by omega)).mp p)), if_neg (fun p => q p.2)]
  have hi : ∀ n, min z ((y + 59) / 10) ≤ n → n ≤ z → mostW N e y n = mostW N e y (min z ((y + 59) / 10)) := by
    intro n
    induction n with
    | zero => intro h _; rw [show min z ((y + 59) / 10) = 0 from by omega]
    | succ n ih =>
      intro h h2
      by_cases q : min z ((y + 59) / 10) = n + 1
      · rw [q]
      · show (if covP y n ∧ mostW N e y n < nn (N (e + 38 + n)) then nn (N (e + 38 + n)) else mostW N e y n) = _
        rw [if_neg (fun p => by have := p.1.1; omega)]
        exact ih (by omega) (by omega)
  by_cases q : y / 10 ≤ min z ((y + 59) / 10)
  · rw [mid _ (by omega), show y / 10 + (min z ((y + 59) / 10) - y / 10) = min z ((y + 59) / 10) from by omega, hi z (by omega) (Nat.le_refl _)]
  · rw [show min z ((y + 59) / 10) - y / 10 = 0 from by omega, low z (by omega)]
    rfl
theorem t3_addLayer {ω : Om} {h : AH} {Q : Option Value → AH → Prop} (hw : ω.2.2.2.1 = true) {r z y : Nat} {fo : Int32} {f p s : Nat → Int32} (o : ResO h r) (hz : f 1 = nI z) (z25 : z ≤ 25) (hy : y ≤ 1000) (hq : ∀ p' s' : Nat → Int32, (∀ k, k < z → p' k = (if covP y k then p k + nI 1 else p k) ∧ s' k = (if covP y k then s k + fo else s k)) → Q none (w3 h r f p' s')) : Ex ω M3_addLayer 0 [some (.ref r), some (.int (nI y)), some (.int fo), none, none] [] (w3 h r f p s) 0 0 Q := by
  refine B3_addLayer_0 hw o.1 ?_
  simp (disch := omega) only [gs_w3, gr_w3, gl_w3, w3_0, w3_1, w3_2, w3_ne, si_w3_0, si_w3_1, si_w3_2, pk_mul, nI_add, nI_clamp, upd_eq, upd_ne, hz]
  refine t8_zonesEnd hw hy (by omega) (B3_addLayer_8 hw (t8_firstZone hw hy ?_))
  have fin : ∀ (k : Nat) (p' s' : Nat → Int32), (k = min z ((y + 59) / 10) ∨ (k = y / 10 ∧ min z ((y + 59) / 10) ≤ k)) → (∀ j, p' j = (if y / 10 ≤ j ∧ j < k then p j + nI 1 else p j) ∧ s' j = (if y / 10 ≤ j ∧ j < k then s j + fo else s j)) → Ex ω M3_addLayer 15 [some (.ref r), none, some (.int fo), some (.int (nI (min z ((y + 59) / 10)))), some (.int (nI k))] [] (w3 h r f p' s') 0 0 Q := by
    intro k p' s' hk hp
    refine B3_addLayer_15 hw (fun _ => B3_addLayer_49 hw (hq p' s' (fun j hj => ?_))) (fun c => absurd (nI_le (by omega) (by omega)) c)
    rw [(hp j).1, (hp j).2]
    by_cases q : covP y j
    · have q2 : y / 10 ≤ j ∧ j < k := ⟨by have := q.2; omega, by have := q.1; omega⟩
      rw [if_pos q, if_pos q, if_pos q2, if_pos q2]; exact ⟨rfl, rfl⟩
    · have q2 : ¬ (y / 10 ≤ j ∧ j < k) := fun q2 => q ⟨by omega, by omega⟩
      rw [if_neg q, if_neg q, if_neg q2, if_neg q2]; exact ⟨rfl, rfl⟩
  have lp : ∀ (d k : Nat) (p' s' : Nat → Int32), k + d = min z ((y + 59) / 10) → y / 10 ≤ k → (∀ j, p' j = (if y / 10 ≤ j ∧ j < k then p j + nI 1 else p j) ∧ s' j = (if y / 10 ≤ j ∧ j < k then s j + fo else s j)) → Ex ω M3_addLayer 15 [some (.ref r), none, some (.int fo), some (.int (nI (min z ((y + 59) / 10)))), some (.int (nI k))] [] (w3 h r f p' s') 0 0 Q := by
    intro d
    induction d with
    | zero => intro k p' s' hk hk1 hp; exact fin k p' s' (Or.inl (by omega)) hp
    | succ d ih =>
      intro k p' s' hk hk1 hp
      refine B3_addLayer_15 hw (fun c => absurd c (nI_ge (by omega) (by omega))) (fun _ => ?_)
      have iv : vp_in (nI k) 25 := vp_in_nI (by omega) (by omega)
      refine B3_addLayer_21 hw o.1 iv iv iv iv ?_
      simp (disch := omega) only [gs_w3, gr_w3, gl_w3, w3_0, w3_1, w3_2, w3_ne, si_w3_0, si_w3_1, si_w3_2, pk_mul, nI_add, nI_clamp, upd_eq, upd_ne, o.2.2.2.1, o.2.2.2.2]
      refine B3_addLayer_43 hw ?_
      rw [nI_add]
      refine ih (k + 1) _ _ (by omega) (by omega) (fun j => ?_)
      by_cases q : j = k
      · subst q
        have n1 : ¬ (y / 10 ≤ j ∧ j < j) := fun q => by omega
        have n2 : y / 10 ≤ j ∧ j < j + 1 := ⟨hk1, by omega⟩
        rw [upd_eq, upd_eq, (hp j).1, (hp j).2, if_neg n1, if_neg n1, if_pos n2, if_pos n2]; exact ⟨rfl, rfl⟩
      · rw [upd_ne _ _ q, upd_ne _ _ q, (hp j).1, (hp j).2]
        by_cases q2 : y / 10 ≤ j ∧ j < k
        · have n2 : y / 10 ≤ j ∧ j < k + 1 := ⟨q2.1, by omega⟩
          rw [if_pos q2, if_pos q2, if_pos n2, if_pos n2]; exact ⟨rfl, rfl⟩
        · have n2 : ¬ (y / 10 ≤ j ∧ j < k + 1) := fun q3 => q2 ⟨q3.1, by omega⟩
          rw [if_neg q2, if_neg q2, if_neg n2, if_neg n2]; exact ⟨rfl, rfl⟩
  have i0 : ∀ j, p j = (if y / 10 ≤ j ∧ j < y / 10 then p j + nI 1 else p j) ∧ s j = (if y / 10 ≤ j ∧ j < y / 10 then s j + fo else s j) := fun j => by
    have n1 : ¬ (y / 10 ≤ j ∧ j < y / 10) := fun q => by omega
    rw [if_neg n1, if_neg n1]; exact ⟨rfl, rfl⟩
  refine B3_addLayer_13 hw ?_
  by_cases q : y / 10 ≤ min z ((y + 59) / 10)
  · exact lp (min z ((y + 59) / 10) - y / 10) (y / 10) p s (by omega) (Nat.le_refl _) i0
  · exact fin (y / 10) p s (Or.inr ⟨rfl, by omega⟩) i0

