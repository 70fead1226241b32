/-! a state is copied -/
theorem LayS.ry {h : AH} {x y : Nat} (lx : LayS h x) (ly : LayS h y) (dj : y + 52 ≤ x ∨ x + 52 ≤ y) {i k : Nat} (hi : i < 6) (hk : k < 6) : rA h y k + 3 ≤ rA h x i ∨ rA h x i + 3 ≤ rA h y k := by
  obtain ⟨j, hj, e, _⟩ := lx.roll hi
  obtain ⟨j2, hj2, e2, _⟩ := ly.roll hk
  omega
theorem t5_copyR {ω : Om} {h : AH} {Q : Option Value → AH → Prop} (hw : ω.2.2.2.1 = true) {x y c : Nat} {G : Nat → Nat → Int32} (hq : ∀ h' : AH, Frm (x + 2) (x + 20) h h' → gr h' = gr h → (∀ i, i < c → rollV (gi h' (rA h x i)) (gi h' (rA h x i + 1)) (gi h' (rA h x i + 2)) (G i)) → Ex ω M5_copyFrom 39 [some (.ref x), some (.ref y), none] [] h' 0 0 Q) (lx : LayS h x) (ly : LayS h y) (dj : y + 52 ≤ x ∨ x + 52 ≤ y) (hc : gi h x 1 = nI c) (c6 : c ≤ 6) (hv : ∀ i, i < c → rollV (gi h (rA h y i)) (gi h (rA h y i + 1)) (gi h (rA h y i + 2)) (G i)) : Ex ω M5_copyFrom 10 [some (.ref x), some (.ref y), some (.int (nI 0))] [] h 0 0 Q := by
  have lp : ∀ (d i : Nat) (h1 : AH), i + d = c → Frm (x + 2) (x + 20) h h1 → gr h1 = gr h → (∀ k, k < i → rollV (gi h1 (rA h x k)) (gi h1 (rA h x k + 1)) (gi h1 (rA h x k + 2)) (G k)) → Ex ω M5_copyFrom 10 [some (.ref x), some (.ref y), some (.int (nI i))] [] h1 0 0 Q := by
    intro d
    induction d with
    | zero =>
      intro i h1 hi f er hd
      have s1 : gs h1 x = some (5, 11) := by rw [f.1]; exact lx.1.1
      refine B5_copyFrom_10 hw s1 (fun _ => x_dr2 (hq h1 f er (fun k hk => hd k (by omega)))) (fun q => ?_)
      rw [(f.2 x (by omega)).1, hc] at q
      exact absurd (nI_le (by omega) (by omega)) q
    | succ d ih =>
      intro i h1 hi f er hd
      have s1 : gs h1 x = some (5, 11) := by rw [f.1]; exact lx.1.1
      have s2 : gs h1 y = some (5, 11) := by rw [f.1]; exact ly.1.1
      refine B5_copyFrom_10 hw s1 (fun q => ?_) (fun _ => ?_)
      · rw [(f.2 x (by omega)).1, hc] at q
        exact absurd q (nI_ge (by omega) (by omega))
      have iv := vp_in_nI (n := i) (N := 6) (by omega) (by omega)
      refine B5_copyFrom_18 hw s1 s2 iv iv ?_
      rw [er, lx.2.1.1, ly.2.1.1, nI_clamp (by omega)]
      obtain ⟨j, hj, ea, oa⟩ := lx.roll (i := i) (by omega)
      obtain ⟨j2, hj2, ea2, oa2⟩ := ly.roll (i := i) (by omega)
      have vi := hv i (by omega)
      obtain ⟨v4, wk, vw, vk, vr⟩ := vi
      show Ex ω M4_copyFrom 0 [some (.ref (rA h x i)), some (.ref (rA h y i)), none] [] h1 0 0 _
      have oa' : RollO h1 (rA h x i) := O3_frm oa f.1 (by rw [er])
      have oa2' : RollO h1 (rA h y i) := O3_frm oa2 f.1 (by rw [er])
      have ey : ∀ b, rA h y i ≤ b → b < rA h y i + 3 → gi h1 b = gi h b := fun b hb1 hb2 => (f.2 b (by omega)).1
      rw [← w3_self h1 (rA h x i)]
      refine t4_copyFrom hw oa' oa2' (lx.ry ly dj (by omega) (by omega)) (n := wk) ?_ vk (fun f' p' s' g1 g2 => ?_)
      · rw [ey _ (by omega) (by omega), v4 3 (by omega)]; exact vw
      · refine B5_copyFrom_33 hw ?_
        rw [nI_add]
        refine ih (i + 1) _ (by omega) (f.trans (Frm.w3 _ _ _ _ _ _ (by omega) (by omega))) er (fun k hk => ?_)
        by_cases z : k = i
        · subst z
          rw [w3_0, w3_1, w3_2]
          refine ⟨fun q hq => ?_, wk, vw, vk, weakR_congr vr (fun q hq => ?_) (fun _ _ => ⟨rfl, rfl⟩)⟩
          · rw [g1 q hq, ey _ (by omega) (by omega)]; exact v4 q hq
          · rw [(g2 q hq).1, (g2 q hq).2, ey _ (by omega) (by omega), ey _ (by omega) (by omega)]; exact ⟨rfl, rfl⟩
        · have := lx.rne (i := i) (k := k) (by omega) (by omega) (by omega)
          rw [w3_ne _ _ _ _ _ (by omega), w3_ne _ _ _ _ _ (by omega), w3_ne _ _ _ _ _ (by omega)]
          exact hd k (by omega)
  exact lp c 0 h (by omega) (Frm.refl _ _ _) rfl (fun k hk => by omega)
theorem t5_copyP {ω : Om} {h : AH} {Q : Option Value → AH → Prop} (hw : ω.2.2.2.1 = true) {x y w : Nat} (hq : ∀ h' : AH, Frm (x + 21) (x + 29) h h' → gr h' = gr h → (∀ i, i < w → ∀ k, k < 6 → gi h' (pA h x i) k = gi h (pA h y i) k) → Ex ω M5_copyFrom 78 [some (.ref x), some (.ref y), none] [] h' 0 0 Q) (lx : LayS h x) (ly : LayS h y) (dj : y + 52 ≤ x ∨ x + 52 ≤ y) (hc : gi h x 3 = nI w) (c6 : w ≤ 8) : Ex ω M5_copyFrom 49 [some (.ref x), some (.ref y), some (.int (nI 0))] [] h 0 0 Q := by
  have lp : ∀ (d i : Nat) (h1 : AH), i + d = w → Frm (x + 21) (x + 29) h h1 → gr h1 = gr h → (∀ k, k < i → ∀ q, q < 6 → gi h1 (pA h x k) q = gi h (pA h y k) q) → Ex ω M5_copyFrom 49 [some (.ref x), some (.ref y), some (.int (nI i))] [] h1 0 0 Q := by
    intro d
    induction d with
    | zero =>
      intro i h1 hi f er hd
      have s1 : gs h1 x = some (5, 11) := by rw [f.1]; exact lx.1.1
      refine B5_copyFrom_49 hw s1 (fun _ => x_dr2 (hq h1 f er (fun k hk => hd k (by omega)))) (fun q => ?_)
      rw [(f.2 x (by omega)).1, hc] at q
      exact absurd (nI_le (by omega) (by omega)) q
    | succ d ih =>
      intro i h1 hi f er hd
      have s1 : gs h1 x = some (5, 11) := by rw [f.1]; exact lx.1.1
      have s2 : gs h1 y = some (5, 11) := by rw [f.1]; exact ly.1.1
      refine B5_copyFrom_49 hw s1 (fun q => ?_) (fun _ => ?_)
      · rw [(f.2 x (by omega)).1, hc] at q
        exact absurd q (nI_ge (by omega) (by omega))
      have iv := vp_in_nI (n := i) (N := 8) (by omega) (by omega)
      refine B5_copyFrom_57 hw s1 s2 iv iv ?_
      rw [er, lx.2.1.2.1, ly.2.1.2.1, nI_clamp (by omega)]
      obtain ⟨j, hj, ea, oa⟩ := lx.pal (i := i) (by omega)
      obtain ⟨j2, hj2, ea2, oa2⟩ := ly.pal (i := i) (by omega)
      show Ex ω M1_copyFrom 0 [some (.ref (pA h x i)), some (.ref (pA h y i))] [] h1 0 0 _
      refine t1_copyFrom hw (by rw [f.1]; exact oa) (by rw [f.1]; exact oa2) (by omega) (fun f' g1 => ?_)
      refine B5_copyFrom_72 hw ?_
      rw [nI_add]
      refine ih (i + 1) _ (by omega) (f.trans (Frm.wi _ _ _ _ (by omega) (by omega))) er (fun k hk q hq => ?_)
      by_cases z : k = i
      · subst z
        rw [gi_wi, g1 q hq, (f.2 _ (by omega)).1]
      · have := lx.pne (i := k) (k := i) (by omega) (by omega) z
        rw [gi_wi_ne _ _ _ this]
        exact hd k (by omega) q hq
  exact lp w 0 h (by omega) (Frm.refl _ _ _) rfl (fun k hk => by omega)
theorem t5_copyK {ω : Om} {h : AH} {Q : Option Value → AH → Prop} (hw : ω.2.2.2.1 = true) {x y n : Nat} {N : Nat → Int32} {E : Nat → Nat} (hq : ∀ h' : AH, Frm (x + 30) (x + 48) h h' → gr h' = gr h → (∀ i, i < n → keptV (gi h' (kA h x i)) (gi h' (kA h x i + 1)) (gi h' (kA h x i + 2)) N (E i)) → Ex ω M5_copyFrom 125 [some (.ref x), some (.ref y), none] [] h' 0 0 Q) (lx : LayS h x) (ly : LayS h y) (dj : y + 52 ≤ x ∨ x + 52 ≤ y) (hc : gi h x 6 = nI n) (c6 : n ≤ 6) (hv : ∀ i, i < n → keptV (gi h (kA h y i)) (gi h (kA h y i + 1)) (gi h (kA h y i + 2)) N (E i)) : Ex ω M5_copyFrom 96 [some (.ref x), some (.ref y), some (.int (nI 0))] [] h 0 0 Q := by
  have lp : ∀ (d i : Nat) (h1 : AH), i + d = n → Frm (x + 30) (x + 48) h h1 → gr h1 = gr h → (∀ k, k < i → keptV (gi h1 (kA h x k)) (gi h1 (kA h x k + 1)) (gi h1 (kA h x k + 2)) N (E k)) → Ex ω M5_copyFrom 96 [some (.ref x), some (.ref y), some (.int (nI i))] [] h1 0 0 Q := by
    intro d
    induction d with
    | zero =>
      intro i h1 hi f er hd
      have s1 : gs h1 x = some (5, 11) := by rw [f.1]; exact lx.1.1
      refine B5_copyFrom_96 hw s1 (fun _ => x_dr2 (hq h1 f er (fun k hk => hd k (by omega)))) (fun q => ?_)
      rw [(f.2 x (by omega)).1, hc] at q
      exact absurd (nI_le (by omega) (by omega)) q
    | succ d ih =>
      intro i h1 hi f er hd
      have s1 : gs h1 x = some (5, 11) := by rw [f.1]; exact lx.1.1
      have s2 : gs h1 y = some (5, 11) := by rw [f.1]; exact ly.1.1
      refine B5_copyFrom_96 hw s1 (fun q => ?_) (fun _ => ?_)
      · rw [(f.2 x (by omega)).1, hc] at q
        exact absurd q (nI_ge (by omega) (by omega))
      have iv := vp_in_nI (n := i) (N := 6) (by omega) (by omega)
      refine B5_copyFrom_104 hw s1 s2 iv iv ?_
      rw [er, lx.2.1.2.2.1, ly.2.1.2.2.1, nI_clamp (by omega)]
      obtain ⟨j, hj, ea, oa⟩ := lx.res (i := i) (by omega)
      obtain ⟨j2, hj2, ea2, oa2⟩ := ly.res (i := i) (by omega)
      have vi := hv i (by omega)
      have v1 := vi.2.1
      obtain ⟨z, zz, zz1, zz2, _⟩ := vi.2.2.2.2.2.2.2.2.2.2.2
      show Ex ω M3_copyFrom 0 [some (.ref (kA h x i)), some (.ref (kA h y i)), none] [] h1 0 0 _
      have oa' : ResO h1 (kA h x i) := O3_frm oa f.1 (by rw [er])
      have oa2' : ResO h1 (kA h y i) := O3_frm oa2 f.1 (by rw [er])
      have ey : ∀ b, kA h y i ≤ b → b < kA h y i + 3 → gi h1 b = gi h b := fun b hb1 hb2 => (f.2 b (by omega)).1
      rw [← w3_self h1 (kA h x i)]
      refine t3_copyFrom hw oa' oa2' (by omega) (n := z) ?_ zz2 (fun f' p' s' g1 g2 => ?_)
      · rw [ey _ (by omega) (by omega), v1]; exact zz
      · refine B5_copyFrom_119 hw ?_
        rw [nI_add]
        refine ih (i + 1) _ (by omega) (f.trans (Frm.w3 _ _ _ _ _ _ (by omega) (by omega))) er (fun k hk => ?_)
        by_cases z1 : k = i
        · subst z1
          rw [w3_0, w3_1, w3_2]
          refine keptV_congr vi (fun q hq => ?_) (fun z' hz' hz25 q hq => ?_)
          · rw [g1 q hq, ey _ (by omega) (by omega)]
          · have : z' = z := by rw [zz] at hz'; exact ((nI_eq (by omega) (by omega)).mp hz').symm
            rw [(g2 q (by omega)).1, (g2 q (by omega)).2, ey _ (by omega) (by omega), ey _ (by omega) (by omega)]; exact ⟨rfl, rfl⟩
        · have := lx.kne (i := i) (k := k) (by omega) (by omega) (by omega)
          rw [w3_ne _ _ _ _ _ (by omega), w3_ne _ _ _ _ _ (by omega), w3_ne _ _ _ _ _ (by omega)]
          exact hd k (by omega)
  exact lp n 0 h (by omega) (Frm.refl _ _ _) rfl (fun k hk => by omega)

