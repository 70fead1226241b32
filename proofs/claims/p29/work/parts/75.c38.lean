/-! the class: the state after a wrapping -/
theorem leastL_gmn (N : Nat → Int32) (e : Nat) : ∀ z, leastL N e z = gmn (fun i => N (e + 13 + i)) z := by
  intro z
  induction z with
  | zero => rfl
  | succ z ih =>
    show lesser (leastL N e z) (N (e + 13 + z)) = lesser (gmn (fun i => N (e + 13 + i)) z) (N (e + 13 + z))
    rw [ih]
theorem mostL_gmx {N : Nat → Int32} {e : Nat} (h0 : N (e + 9) = 0) : ∀ z, mostL N e z = gmx (fun i => N (e + 38 + i)) z := by
  intro z
  induction z with
  | zero => exact h0
  | succ z ih =>
    show (if mostL N e z < N (e + 38 + z) then N (e + 38 + z) else mostL N e z) = if gmx (fun i => N (e + 38 + i)) z < N (e + 38 + z) then N (e + 38 + z) else gmx (fun i => N (e + 38 + i)) z
    rw [ih]
theorem weight_add {lo hi wv : Nat} : (1000000000 : Int64) * lN hi + lN lo + lN wv = (1000000000 : Int64) * lN (hi + (lo + wv) / 1000000000) + lN ((lo + wv) % 1000000000) := by
  rw [show (1000000000 : Int64) = lN 1000000000 from rfl, lN_mul, lN_mul, lN_add, lN_add, lN_add]
  congr 1
  have := Nat.div_add_mod (lo + wv) 1000000000
  omega
theorem ValS_wrapped {h h6 : AH} {x C R c w k d nx lo hi K c' z g th : Nat} {N N1 : Nat → Int32} {acc : List (Nat × Nat)} (l : LayS h x) (vs : ValS h x N c w d acc) (iv : INV N K c w d nx lo hi acc) (hK : K < 2 ^ 28) (hk : k < w) (hP : ∀ q, q < 6 → gi h (pA h x 0) q = palG N k q) (bC : C < x ∨ x + 52 ≤ C) (hR : R = kA h x 5) (hz1 : 1 ≤ z) (hz : z ≤ 25) (hg : g ≤ 2)
    (tf : TFr (entE d) (startN N w k (entE d) z) N1) (ti : RI N1 c') (wb : ∃ wv : Nat, N1 (entE d + 11) = nI wv ∧ wv ≤ 30000300)
    (gsE : gs h6 = gs h) (gr1 : ∀ b, b ≠ x + 1 → b ≠ x + 20 → b ≠ x + 29 → b ≠ C → gr h6 b = gr h b) (rp : ∀ j, j < 8 → gr h6 (x + 20) j = rotR (gr h (x + 20)) 0 w j) (rk : ∀ j, j < 6 → gr h6 (x + 29) j = shR (gr h (x + 29)) j)
    (gi1 : ∀ b, (b < x ∨ x + 20 ≤ b) → (b < R ∨ R + 3 ≤ b) → b ≠ C → b ≠ x + 51 → gi h6 b = gi h b) (gx : ∀ q, q ≠ 1 → q ≠ 3 → q ≠ 6 → gi h6 x q = gi h x q) (gx3 : gi h6 x 3 = nI (w - 1)) (gx6 : gi h6 x 6 = nI (min (d + 1) 6)) (rr : RunR h6 x c' N1)
    (rv : runV (gi h6 R) (gi h6 (R + 1)) (gi h6 (R + 2)) N N1 (entE d) z) (r2 : gi h6 R 2 = nI g)
    (s0 : gi h6 (x + 51) 0 = gi h (x + 51) 0 + nI 1) (s1 : gi h6 (x + 51) 1 = gi h (x + 51) 1 + nI (if g = 0 then 0 else 1)) (s2 : ∀ q, 2 ≤ q → q ≤ 10 → gi h6 (x + 51) q = gi h (x + 51) q + gi h6 R (q + 1)) (s3 : gl h6 (x + 51) 11 = gl h (x + 51) 11 + Int32.toInt64 (gi h6 R 12)) :
    LayS h6 x ∧ ValS h6 x (finN N1 (entE d) z g) c' (w - 1) (d + 1) acc := by
  obtain ⟨⟨v1, v2, v3⟩, ⟨w1, w2, w3⟩, n1, ⟨k1, k2⟩, p1, sm, t1, t2⟩ := vs
  obtain ⟨he1, he2⟩ := entE_b d
  have eE : entE d = 212 + 64 * (d % 6) := rfl
  have h18 := iv.2.2.2.2.2.2.2.2.1
  have h7 := iv.2.2.2.2.2.1
  obtain ⟨jR, hjR, ejR, oR⟩ := l.res (i := 5) (by omega)
  rw [← hR] at ejR oR
  have keep0 : ∀ j, (j = 0 ∨ (20 ≤ j ∧ j < 140)) → finN N1 (entE d) z g j = N1 j := fun j hj => finN_ne (by omega) (by omega) (by omega) (by omega) (by omega) (by omega) (by omega)
  have keep : ∀ j, ((1 < j ∧ j ≤ 5) ∨ (188 ≤ j ∧ j < entE d) ∨ entE d + 64 ≤ j) → finN N1 (entE d) z g j = N j := fun j hj => by
    rw [finN_ne (by omega) (by omega) (by omega) (by omega) (by omega) (by omega) (by omega), tf j (by omega), startN_lo he1 w2 (by omega) (by omega)]
  have pal : ∀ i, i < w - 1 → ∀ f, f < 6 → palG (finN N1 (entE d) z g) i f = palG N (skp k i) f := fun i hi f hf => by
    rw [← startN_pal (z := z) he1 w2 hk hi hf]
    unfold palG
    rw [finN_ne (by omega) (by omega) (by omega) (by omega) (by omega) (by omega) (by omega), tf _ (by omega)]
  generalize entE d = e at *
  have lay : LayS h6 x := ⟨LSs_frm l.1 gsE, LSf_frm l.2.1 gsE (fun b hb => gr1 b (by omega) (by omega) (by omega) (by omega)), rr.2.1, rotR_P l.2.2.2.1 (by omega) w2 rp, shR_P l.2.2.2.2 rk⟩
  refine ⟨lay, ⟨rr.1, ti.2.1, fun i hi => ?_⟩, ⟨gx3, by omega, ?_⟩, ?_, ⟨gx6, fun i hi => ?_⟩, ?_, ?_, ?_, ?_⟩
  · exact rollV_G (rr.2.2 i hi) (fun q hq => keep0 _ (by have := ti.2.1; omega))
  · refine palsR_drop w3 (i := 0) (by omega) hk hP (fun j hj q hq => ?_) (fun j hj q hq => pal j hj q hq)
    have e2 : pA h6 x j = pA h x (skp 0 j) := by
      unfold pA
      rw [rp j (by omega)]
      unfold rotR skp
      rw [if_pos ⟨by omega, by omega⟩, if_neg (by omega)]
    have sl : skp 0 j < 8 := by unfold skp; split <;> omega
    obtain ⟨jj, hjj, ej, _⟩ := l.pal (i := skp 0 j) sl
    show gi h6 (pA h6 x j) q = gi h (pA h x (skp 0 j)) q
    rw [e2, gi1 _ (by omega) (by omega) (by omega) (by omega)]
  · rw [gx 4 (by omega) (by omega) (by omega), keep 2 (by omega)]; exact n1
  · by_cases z0 : i = 0
    · subst z0
      have ek : kA h6 x 0 = R := by
        rw [hR]
        show gr h6 (x + 29) 0 = gr h (x + 29) 5
        rw [rk 0 (by omega)]; rfl
      have eb : keptB (d + 1) 0 = e := by unfold keptB; omega
      rw [ek, eb]
      obtain ⟨⟨a0, a1, a2, a3, a4, a5, a6, a7, a8, a9⟩, _, ad⟩ := rv
      have f : ∀ q, q ≠ 1 → q ≠ 8 → q ≠ 9 → finN N1 e z g (e + q) = N1 (e + q) := fun q q1 q2 q3 => finN_ne (by omega) (by omega) (by omega) (by omega) (by omega) (by omega) (by omega)
      have n12 : N1 (e + 12) = nI z := by rw [tf _ (by omega), startN_12 he1 w2]
      have n9 : N1 (e + 9) = 0 := by rw [tf _ (by omega), startN_e he1 w2 (by omega) (by omega) (by omega)]
      have f0 : finN N1 e z g e = N1 e := f 0 (by omega) (by omega) (by omega)
      refine ⟨by rw [f0]; exact a0, by rw [f 12 (by omega) (by omega) (by omega), n12]; exact a1, by rw [finN_1 he1]; exact r2, by rw [f 2 (by omega) (by omega) (by omega)]; exact a2, by rw [f 3 (by omega) (by omega) (by omega)]; exact a3, by rw [f 4 (by omega) (by omega) (by omega)]; exact a4, by rw [f 5 (by omega) (by omega) (by omega)]; exact a5, by rw [f 6 (by omega) (by omega) (by omega)]; exact a6, by rw [f 7 (by omega) (by omega) (by omega)]; exact a7, by rw [f 10 (by omega) (by omega) (by omega)]; exact a8, by rw [f 11 (by omega) (by omega) (by omega)]; exact a9, z, by rw [f 12 (by omega) (by omega) (by omega), n12], hz1, hz, fun i hi => ?_, ?_, ?_⟩
      · rw [show e + 13 + i = e + (13 + i) from by omega, show e + 38 + i = e + (38 + i) from by omega, f (13 + i) (by omega) (by omega) (by omega), f (38 + i) (by omega) (by omega) (by omega), ← Nat.add_assoc, ← Nat.add_assoc]
        exact ad i hi
      · rw [finN_8 he1, leastL_gmn]
        refine (gmn_congr z (fun i hi => ?_)).symm
        exact finN_ne (by omega) (by omega) (by omega) (by omega) (by omega) (by omega) (by omega)
      · rw [finN_9 he1, mostL_gmx n9]
        refine (gmx_congr z (fun i hi => ?_)).symm
        exact finN_ne (by omega) (by omega) (by omega) (by omega) (by omega) (by omega) (by omega)
    · have ek : kA h6 x i = kA h x (i - 1) := by
        show gr h6 (x + 29) i = gr h (x + 29) (i - 1)
        rw [rk i (by omega)]
        exact if_neg z0
      have eb : keptB (d + 1) i = keptB d (i - 1) := by unfold keptB; omega
      have nb : keptB d (i - 1) + 64 ≤ e ∨ e + 64 ≤ keptB d (i - 1) := by unfold keptB; omega
      have kb := keptB_b d (i - 1)
      have kn := l.kne (i := i - 1) (k := 5) (by omega) (by omega) (by omega)
      rw [← hR] at kn
      obtain ⟨j2, hj2, ej2, _⟩ := l.res (i := i - 1) (by omega)
      rw [ek, eb, gi1 _ (by omega) (by omega) (by omega) (by omega), gi1 _ (by omega) (by omega) (by omega) (by omega), gi1 _ (by omega) (by omega) (by omega) (by omega)]
      exact keptV_N (k2 (i - 1) (by omega)) (fun q h1 h2 => keep q (by omega))
  · rw [gi1 _ (by omega) (by omega) (by omega) (by omega), gi1 _ (by omega) (by omega) (by omega) (by omega), gi1 _ (by omega) (by omega) (by omega) (by omega)]; exact p1
  · obtain ⟨a, b, c3⟩ := rv
    obtain ⟨b0, b1, b2, b3, b4, b5, b6, b7, b8, b9⟩ := b
    obtain ⟨m0, m1, m2, m3, m4, m5, m6, m7, m8, m9, m10, m11, m12⟩ := sm
    have f : ∀ q, q < 17 → q ≠ 7 → finN N1 e z g q = N1 q := fun q q1 q2 => finN_ne (by omega) (by omega) (by omega) (by omega) (by omega) (by omega) (by omega)
    have n7 : N1 7 = N 7 := by rw [tf 7 (by omega), startN_lo he1 w2 (by omega) (by omega)]
    have n17 : N1 17 = N 17 := by rw [tf 17 (by omega), startN_lo he1 w2 (by omega) (by omega)]
    have n18 : N1 18 = N 18 := by rw [tf 18 (by omega), startN_lo he1 w2 (by omega) (by omega)]
    have n19 : N1 19 = N 19 := by rw [tf 19 (by omega), startN_lo he1 w2 (by omega) (by omega)]
    refine ⟨?_, ?_, ?_, ?_, ?_, ?_, ?_, ?_, ?_, ?_, ?_, ?_, ?_⟩
    · rw [s0, m0, finN_7 he1, n7]
    · rw [s1, m1, finN_17 he1, n17]
    · rw [s2 2 (by omega) (by omega), f 15 (by omega) (by omega), m2, b6]
    · rw [s2 3 (by omega) (by omega), f 16 (by omega) (by omega), m3, b7]
    · rw [s2 4 (by omega) (by omega), f 9 (by omega) (by omega), m4, b0]
    · rw [s2 5 (by omega) (by omega), f 10 (by omega) (by omega), m5, b1]
    · rw [s2 6 (by omega) (by omega), f 11 (by omega) (by omega), m6, b2]
    · rw [s2 7 (by omega) (by omega), f 12 (by omega) (by omega), m7, b3]
    · rw [s2 8 (by omega) (by omega), f 13 (by omega) (by omega), m8, b4]
    · rw [s2 9 (by omega) (by omega), f 14 (by omega) (by omega), m9, b5]
    · rw [s2 10 (by omega) (by omega), f 6 (by omega) (by omega), m10, b8]
    · rw [f 8 (by omega) (by omega), f 9 (by omega) (by omega), f 10 (by omega) (by omega), f 11 (by omega) (by omega), f 12 (by omega) (by omega), b9]
    · obtain ⟨wv, hwv, hwb⟩ := wb
      obtain ⟨h18, hlo, h19, hhi⟩ := h18
      rw [s3, a.2.2.2.2.2.2.2.2.2, hwv, m12]
      unfold weightR
      rw [finN_18, finN_19, n18, n19, h18, h19, hwv, nI_add, pk_rem (by omega) (by omega) (by omega), pk_div (by omega) (by omega) (by omega), nI_add, nI_l (by omega), nI_l (by omega), nI_l (by omega), nI_l (by omega), nI_l (by omega)]
      exact weight_add
  · rw [gx 9 (by omega) (by omega) (by omega), keep 4 (by omega)]; exact t1
  · rw [gx 10 (by omega) (by omega) (by omega), keep 5 (by omega)]; exact t2

