/-! the whole of the class's object; record and undo -/
def LayW (h : AH) (B : Nat) : Prop := (gs h B = some (8, 8) ∧ gs h (B + 105) = some (15, 4) ∧ gs h (B + 314) = some (7, 2) ∧ gs h (B + 315) = some (11, 100) ∧ gs h (B + 319) = some (0, 7) ∧ gs h (B + 323) = some (10, 25)) ∧ (gr h B 0 = B + 1 ∧ gr h B 1 = B + 53 ∧ gr h B 2 = B + 105 ∧ gr h B 4 = B + 314 ∧ gr h B 5 = B + 316 ∧ gr h B 6 = B + 319 ∧ gr h B 7 = B + 323) ∧ gr h (B + 314) 0 = B + 315 ∧ ProgO h (B + 316) ∧ LayS h (B + 1) ∧ LayS h (B + 53) ∧ (∀ j, j < 4 → LayS h (B + 106 + 52 * j)) ∧ RowP (gr h (B + 105)) 4 (B + 106) 52
/-- the frame of what lies in a state x -/
theorem LayW_frm {h h' : AH} {B lo hi : Nat} (l : LayW h B) (f : Frm lo hi h h') (h1 : (B + 1 ≤ lo ∧ hi ≤ B + 53 ∧ LayS h' (B + 1)) ∨ (B + 53 ≤ lo ∧ hi ≤ B + 105 ∧ LayS h' (B + 53)) ∨ (B + 319 ≤ lo)) : LayW h' B := by
  obtain ⟨⟨s1, s2, s3, s4, s5, s6⟩, r, t, p, a, b, c, d⟩ := l
  have eB : gr h' B = gr h B := (f.2 B (by omega)).2.1
  refine ⟨⟨by rw [f.1]; exact s1, by rw [f.1]; exact s2, by rw [f.1]; exact s3, by rw [f.1]; exact s4, by rw [f.1]; exact s5, by rw [f.1]; exact s6⟩, by rw [eB]; exact r, by rw [(f.2 _ (by omega)).2.1]; exact t, O3_frm p f.1 (f.2 _ (by omega)).2.1, ?_, ?_, fun j hj => LayS_frm (c j hj) f (by omega), by rw [(f.2 _ (by omega)).2.1]; exact d⟩
  · rcases h1 with ⟨_, _, q⟩ | ⟨q, _, _⟩ | q
    · exact q
    · exact LayS_frm a f (by omega)
    · exact LayS_frm a f (by omega)
  · rcases h1 with ⟨_, q, _⟩ | ⟨_, _, q⟩ | q
    · exact LayS_frm b f (by omega)
    · exact q
    · exact LayS_frm b f (by omega)
theorem INV_mono {N : Nat → Int32} {K K' c w d nx lo hi : Nat} {acc : List (Nat × Nat)} (h : INV N K c w d nx lo hi acc) (k : K ≤ K') : INV N K' c w d nx lo hi acc := by
  obtain ⟨a1, a2, a3, a4, a5, ⟨a6, a6'⟩, ⟨a7, a7'⟩, a8, ⟨a9, a10, a11, a12⟩, a13⟩ := h
  exact ⟨a1, a2, a3, a4, a5, ⟨a6, by omega⟩, ⟨a7, by omega⟩, a8, ⟨a9, a10, a11, by omega⟩, a13⟩
def OkS (h : AH) (x : Nat) (N : Nat → Int32) (K : Nat) : Prop := ∃ (c w d nx lo hi : Nat) (acc : List (Nat × Nat)), ValS h x N c w d acc ∧ INV N K c w d nx lo hi acc
theorem OkS.frm {h h' : AH} {x lo hi K : Nat} {N : Nat → Int32} (o : OkS h x N K) (l : LayS h x) (f : Frm lo hi h h') (dj : hi ≤ x ∨ x + 52 ≤ lo) : OkS h' x N K := by
  obtain ⟨c, w, d, nx, l2, h2, acc, v, i⟩ := o
  exact ⟨c, w, d, nx, l2, h2, acc, ValS_frm l v f dj, i⟩
theorem OkS.mono {h : AH} {x K K' : Nat} {N : Nat → Int32} (o : OkS h x N K) (k : K ≤ K') : OkS h x N K' := by
  obtain ⟨c, w, d, nx, l2, h2, acc, v, i⟩ := o
  exact ⟨c, w, d, nx, l2, h2, acc, v, INV_mono i k⟩
def HistW (h : AH) (B : Nat) (H : List (Nat → Int32)) (K : Nat) : Prop := gi h B 3 = nI H.length ∧ H.length ≤ 4 ∧ ∀ (i : Nat) (N : Nat → Int32), H[i]? = some N → OkS h (gr h (B + 105) i) N K
theorem HistW.mono {h : AH} {B K K' : Nat} {H : List (Nat → Int32)} (o : HistW h B H K) (k : K ≤ K') : HistW h B H K' := ⟨o.1, o.2.1, fun i N hi => (o.2.2 i N hi).mono k⟩
theorem LayW.st {h : AH} {B : Nat} (l : LayW h B) {i : Nat} (hi : i < 4) : ∃ j, j < 4 ∧ gr h (B + 105) i = B + 106 + 52 * j ∧ LayS h (gr h (B + 105) i) := by
  obtain ⟨j, hj, e⟩ := l.2.2.2.2.2.2.2.1 i hi
  exact ⟨j, hj, e, by rw [e]; exact l.2.2.2.2.2.2.1 j hj⟩
theorem HistW.frm {h h' : AH} {B lo hi K : Nat} {H : List (Nat → Int32)} (o : HistW h B H K) (l : LayW h B) (f : Frm lo hi h h') (dj : (B + 1 ≤ lo ∧ hi ≤ B + 105) ∨ B + 314 ≤ lo) : HistW h' B H K := by
  obtain ⟨a, b, c⟩ := o
  refine ⟨by rw [(f.2 B (by omega)).1]; exact a, b, fun i N hi => ?_⟩
  have il := (List.getElem?_eq_some_iff.mp hi).1
  obtain ⟨j, hj, e, ls⟩ := l.st (i := i) (by omega)
  rw [(f.2 (B + 105) (by omega)).2.1]
  exact (c i N hi).frm ls f (by omega)
/-- what a change of history leaves -/
def FrmR (B : Nat) (h h' : AH) : Prop := gs h' = gs h ∧ (∀ b, (b < B ∨ (B + 1 ≤ b ∧ b < B + 105) ∨ B + 314 ≤ b) → gi h' b = gi h b ∧ gr h' b = gr h b ∧ gl h' b = gl h b)
theorem ValS_at {h h' : AH} {x : Nat} {N : Nat → Int32} {c w d : Nat} {acc : List (Nat × Nat)} (l : LayS h x) (v : ValS h x N c w d acc) (e : ∀ b, x ≤ b → b < x + 52 → gi h' b = gi h b ∧ gr h' b = gr h b ∧ gl h' b = gl h b) : ValS h' x N c w d acc := by
  have ei : ∀ b, x ≤ b → b < x + 52 → gi h' b = gi h b := fun b h1 h2 => (e b h1 h2).1
  have er : ∀ b, x ≤ b → b < x + 52 → gr h' b = gr h b := fun b h1 h2 => (e b h1 h2).2.1
  have e1 : ∀ i, rA h' x i = rA h x i := fun i => by unfold rA; rw [er _ (by omega) (by omega)]
  have e2 : ∀ i, pA h' x i = pA h x i := fun i => by unfold pA; rw [er _ (by omega) (by omega)]
  have e3 : ∀ i, kA h' x i = kA h x i := fun i => by unfold kA; rw [er _ (by omega) (by omega)]
  obtain ⟨⟨v1, v2, v3⟩, ⟨w1, w2, w3⟩, n1, ⟨k1, k2⟩, p1, s1, t1, t2⟩ := v
  have ex := ei x (by omega) (by omega)
  refine ⟨⟨by rw [ex]; exact v1, v2, fun i hi => ?_⟩, ⟨by rw [ex]; exact w1, w2, ?_⟩, by rw [ex]; exact n1, ⟨by rw [ex]; exact k1, fun i hi => ?_⟩, ?_, ?_, by rw [ex]; exact t1, by rw [ex]; exact t2⟩
  · obtain ⟨j, hj, e, _⟩ := l.roll (i := i) (by omega)
    rw [e1, ei _ (by omega) (by omega), ei _ (by omega) (by omega), ei _ (by omega) (by omega)]
    exact v3 i hi
  · refine palsR_congr w3 (fun i hi k _ => ?_) (fun _ _ _ _ => rfl)
    obtain ⟨j, hj, e, _⟩ := l.pal (i := i) (by omega)
    show gi h' (pA h' x i) k = gi h (pA h x i) k
    rw [e2, ei _ (by omega) (by omega)]
  · obtain ⟨j, hj, e, _⟩ := l.res (i := i) (by omega)
    rw [e3, ei _ (by omega) (by omega), ei _ (by omega) (by omega), ei _ (by omega) (by omega)]
    exact k2 i hi
  · rw [ei _ (by omega) (by omega), ei _ (by omega) (by omega), ei _ (by omega) (by omega)]; exact p1
  · rw [ei _ (by omega) (by omega), (e _ (by omega) (by omega)).2.2]; exact s1
theorem OkS.at {h h' : AH} {x K : Nat} {N : Nat → Int32} (o : OkS h x N K) (l : LayS h x) (e : ∀ b, x ≤ b → b < x + 52 → gi h' b = gi h b ∧ gr h' b = gr h b ∧ gl h' b = gl h b) : OkS h' x N K := by
  obtain ⟨c, w, d, nx, l2, h2, acc, v, i⟩ := o
  exact ⟨c, w, d, nx, l2, h2, acc, ValS_at l v e, i⟩
/-- the second half of record -/
theorem t8_recordB {ω : Om} {h : AH} {Q : Option Value → AH → Prop} (hw : ω.2.2.2.1 = true) {B K : Nat} {N : Nat → Int32} {H : List (Nat → Int32)} {u v : Option Value} (l : LayW h B) (o : OkS h (B + 1) N K) (hh : HistW h B H K) (h3 : H.length ≤ 3) (hq : ∀ h' : AH, FrmR B h h' → gr h' B = gr h B → LayW h' B → HistW h' B (H ++ [N]) K → Q none h') : Ex ω M8_record 59 [some (.ref B), u, v] [] h 0 0 Q := by
  obtain ⟨c, w, d, nx, lo0, hi0, acc, vs, iv⟩ := o
  obtain ⟨h1, _, hO⟩ := hh
  obtain ⟨j, hj, ej, lj⟩ := l.st (i := H.length) (by omega)
  refine B8_record_59 hw l.1.1 (by rw [h1]; exact vp_in_nI (by omega) (by omega)) ?_
  rw [l.2.1.2.2.1, l.2.1.1, h1, nI_clamp (by omega)]
  refine t5_copyFrom hw lj l.2.2.2.2.1 (by omega) vs (fun h' f l' v' => ?_)
  refine B8_record_75 hw (by rw [f.1]; exact l.1.1) ?_
  have eB : gi h' B 3 = nI H.length := by rw [(f.2 B (by omega)).1]; exact h1
  simp (disch := omega) only [si_wi, sr_wr, sl_wl, gi_wi, gi_wi_ne, gr_wi, gs_wi, gl_wi, gi_wr, gr_wr, gr_wr_ne, gs_wr, gl_wr, gi_wl, gr_wl, gs_wl, gl_wl, gl_wl_ne, wi_wi, wr_wr, updN_eq, updN_ne, pk_mul, nI_add, nI_clamp, upd_eq, upd_ne, eB]
  have f2 := Frm.wi B (B + 1) h' (upd (gi h' B) 3 (nI (H.length + 1))) (Nat.le_refl _) (by omega)
  have e2 : gi (wi h' B (upd (gi h' B) 3 (nI (H.length + 1)))) B 3 = nI (H.length + 1) := by rw [gi_wi, upd_eq]
  have r2 : gr (wi h' B (upd (gi h' B) 3 (nI (H.length + 1)))) = gr h' := rfl
  generalize wi h' B (upd (gi h' B) 3 (nI (H.length + 1))) = h2 at *
  have gs2 : gs h2 = gs h := by rw [f2.1, f.1]
  have gr2 : ∀ b, (b < B + 106 + 52 * j ∨ B + 106 + 52 * j + 52 ≤ b) → gr h2 b = gr h b := fun b hb => by rw [r2, (f.2 b (by omega)).2.1]
  have laO : ∀ i, i < 4 → LayS h2 (B + 106 + 52 * i) := by
    intro i hi
    by_cases z : i = j
    · subst z
      rw [ej] at l'
      exact LayS_gr l' f2.1 (fun b _ _ => by rw [r2])
    · exact LayS_gr (l.2.2.2.2.2.2.1 i hi) gs2 (fun b _ _ => gr2 b (by omega))
  refine hq h2 ⟨gs2, fun b hb => ?_⟩ (gr2 _ (by omega)) ?_ ⟨?_, ?_, fun i N' hi => ?_⟩
  · obtain ⟨a1, a2, a3⟩ := f.2 b (by omega)
    obtain ⟨b1, b2, b3⟩ := f2.2 b (by omega)
    exact ⟨b1.trans a1, b2.trans a2, b3.trans a3⟩
  · obtain ⟨⟨s1, s2, s3, s4, s5, s6⟩, r, t, p, a, b, c, dd⟩ := l
    refine ⟨⟨by rw [gs2]; exact s1, by rw [gs2]; exact s2, by rw [gs2]; exact s3, by rw [gs2]; exact s4, by rw [gs2]; exact s5, by rw [gs2]; exact s6⟩, by rw [gr2 _ (by omega)]; exact r, by rw [gr2 _ (by omega)]; exact t, O3_frm p gs2 (gr2 _ (by omega)), LayS_gr a gs2 (fun b _ _ => gr2 b (by omega)), LayS_gr b gs2 (fun b _ _ => gr2 b (by omega)), laO, by rw [gr2 _ (by omega)]; exact dd⟩
  · rw [e2, List.length_append]; rfl
  · rw [List.length_append]; show H.length + 1 ≤ 4; omega
  · rw [gr2 _ (by omega)]
    by_cases z : i < H.length
    · rw [List.getElem?_append_left z] at hi
      obtain ⟨j2, hj2, ej2, lj2⟩ := l.st (i := i) (by omega)
      have ne : gr h (B + 105) i ≠ gr h (B + 105) H.length := l.2.2.2.2.2.2.2.2 i H.length z (by omega)
      exact (hO i N' hi).at lj2 (fun b hb1 hb2 => by
        obtain ⟨a1, a2, a3⟩ := f.2 b (by omega)
        obtain ⟨b1, b2, b3⟩ := f2.2 b (by omega)
        exact ⟨b1.trans a1, b2.trans a2, b3.trans a3⟩)
    · have il := (List.getElem?_eq_some_iff.mp hi).1
      rw [List.length_append] at il
      have il2 : i < H.length + 1 := il
      have ie : i = H.length := by omega
      subst ie
      rw [List.getElem?_append_right (Nat.le_refl _), Nat.sub_self] at hi
      have : N = N' := Option.some.inj hi
      subst this
      exact ⟨c, w, d, nx, lo0, hi0, acc, ValS_frm l' v' f2 (by omega), iv⟩

theorem RowP_of {r r' : Nat → Nat} {n base step : Nat} (p : RowP r n base step) (t : Nat → Nat) (e : ∀ i, i < n → r' i = r (t i)) (tb : ∀ i, i < n → t i < n) (ti : ∀ i j, i < j → j < n → t i ≠ t j) : RowP r' n base step := by
  refine ⟨fun i hi => ?_, fun i j h1 h2 => ?_⟩
  · rw [e i hi]; exact p.1 _ (tb i hi)
  · rw [e i (by omega), e j h2]
    rcases Nat.lt_or_gt_of_ne (ti i j h1 h2) with q | q
    · exact p.2 _ _ q (tb j h2)
    · exact (p.2 _ _ q (tb i (by omega))).symm
theorem t8_record {ω : Om} {h : AH} {Q : Option Value → AH → Prop} (hw : ω.2.2.2.1 = true) {B K : Nat} {N : Nat → Int32} {H : List (Nat → Int32)} (l : LayW h B) (o : OkS h (B + 1) N K) (hh : HistW h B H K) (hq : ∀ h' : AH, FrmR B h h' → gr h' B = gr h B → LayW h' B → HistW h' B (pushH H N) K → Q none h') : Ex ω M8_record 0 [some (.ref B), none, none] [] h 0 0 Q := by
  have h1 := hh.1
  have h4 := hh.2.1
  refine B8_record_0 hw l.1.1 (fun c => ?_) (fun c => ?_)
  · rw [h1, nI_eq (by omega) (by omega)] at c
    have ep : pushH H N = H ++ [N] := by unfold pushH; rw [if_neg c]
    rw [ep] at hq
    exact t8_recordB hw l o hh (by omega) hq
  · rw [h1, nI_eq (by omega) (by omega)] at c
    have ep : pushH H N = H.tail ++ [N] := by unfold pushH; rw [if_pos c]
    rw [ep] at hq
    refine B8_record_8 hw l.1.1 ?_
    rw [l.2.1.2.2.1]
    obtain ⟨j0, hj0, ej0, lj0⟩ := l.st (i := 0) (by omega)
    have iv : ∀ k : Nat, 1 ≤ k → k < 4 → vp_in (nI k) 4 ∧ vp_in (nI k - nI 1) 4 := fun k h1 h2 => ⟨vp_in_nI h2 (by omega), by rw [pk_sub h1]; exact vp_in_nI (by omega) (by omega)⟩
    refine B8_record_17 hw (fun c => absurd c (by decide)) (fun _ => B8_record_22 hw l.1.1 (iv 1 (by omega) (by omega)).1 (iv 1 (by omega) (by omega)).2 ?_)
    rw [pk_sub (by omega)]
    simp (disch := omega) only [si_wi, sr_wr, sl_wl, gi_wi, gi_wi_ne, gr_wi, gs_wi, gl_wi, gi_wr, gr_wr, gr_wr_ne, gs_wr, gl_wr, gi_wl, gr_wl, gs_wl, gl_wl, gl_wl_ne, wi_wi, wr_wr, updN_eq, updN_ne, pk_mul, nI_add, nI_clamp, upd_eq, upd_ne, l.2.1.2.2.1]
    refine B8_record_17 hw (fun c => absurd c (by decide)) (fun _ => B8_record_22 hw (by exact l.1.1) (iv 2 (by omega) (by omega)).1 (iv 2 (by omega) (by omega)).2 ?_)
    rw [pk_sub (by omega)]
    simp (disch := omega) only [si_wi, sr_wr, sl_wl, gi_wi, gi_wi_ne, gr_wi, gs_wi, gl_wi, gi_wr, gr_wr, gr_wr_ne, gs_wr, gl_wr, gi_wl, gr_wl, gs_wl, gl_wl, gl_wl_ne, wi_wi, wr_wr, updN_eq, updN_ne, pk_mul, nI_add, nI_clamp, upd_eq, upd_ne, l.2.1.2.2.1]
    refine B8_record_17 hw (fun c => absurd c (by decide)) (fun _ => B8_record_22 hw (by exact l.1.1) (iv 3 (by omega) (by omega)).1 (iv 3 (by omega) (by omega)).2 ?_)
    rw [pk_sub (by omega)]
    simp (disch := omega) only [si_wi, sr_wr, sl_wl, gi_wi, gi_wi_ne, gr_wi, gs_wi, gl_wi, gi_wr, gr_wr, gr_wr_ne, gs_wr, gl_wr, gi_wl, gr_wl, gs_wl, gl_wl, gl_wl_ne, wi_wi, wr_wr, updN_eq, updN_ne, pk_mul, nI_add, nI_clamp, upd_eq, upd_ne, l.2.1.2.2.1]
    refine B8_record_17 hw (fun _ => ?_) (fun c => absurd (by decide) c)
    refine B8_record_42 hw (by exact l.1.1) (by rw [gs_wr]; exact lj0.1.1) ?_
    simp (disch := omega) only [si_wi, sr_wr, sl_wl, gi_wi, gi_wi_ne, gr_wi, gs_wi, gl_wi, gi_wr, gr_wr, gr_wr_ne, gs_wr, gl_wr, gi_wl, gr_wl, gs_wl, gl_wl, gl_wl_ne, wi_wi, wr_wr, updN_eq, updN_ne, pk_mul, nI_add, nI_clamp, upd_eq, upd_ne, l.2.1.2.2.1, h1, c]
    rw [pk_sub (by omega)]
    have q0 : ∀ i, i < 4 → updN (updN (updN (updN (gr h (B + 105)) 0 (gr h (B + 105) 1)) 1 (gr h (B + 105) 2)) 2 (gr h (B + 105) 3)) 3 (gr h (B + 105) 0) i = gr h (B + 105) ((i + 1) % 4) := by
      intro i hi
      have : i = 0 ∨ i = 1 ∨ i = 2 ∨ i = 3 := by omega
      rcases this with rfl | rfl | rfl | rfl <;> rfl
    generalize updN (updN (updN (updN (gr h (B + 105)) 0 (gr h (B + 105) 1)) 1 (gr h (B + 105) 2)) 2 (gr h (B + 105) 3)) 3 (gr h (B + 105) 0) = r' at *
    have g2 : ∀ b, b ≠ B + 105 → gr (wi (wr h (B + 105) r') B (upd (gi h B) 3 (nI (4 - 1)))) b = gr h b := fun b hb => gr_wr_ne _ _ _ hb
    have g1 : gr (wi (wr h (B + 105) r') B (upd (gi h B) 3 (nI (4 - 1)))) (B + 105) = r' := gr_wr _ _ _
    have g3 : ∀ b, b ≠ B → gi (wi (wr h (B + 105) r') B (upd (gi h B) 3 (nI (4 - 1)))) b = gi h b := fun b hb => gi_wi_ne _ _ _ hb
    have g4 : gi (wi (wr h (B + 105) r') B (upd (gi h B) 3 (nI (4 - 1)))) B 3 = nI 3 := by rw [gi_wi, upd_eq]
    have g5 : gl (wi (wr h (B + 105) r') B (upd (gi h B) 3 (nI (4 - 1)))) = gl h := rfl
    have g6 : gs (wi (wr h (B + 105) r') B (upd (gi h B) 3 (nI (4 - 1)))) = gs h := rfl
    generalize wi (wr h (B + 105) r') B (upd (gi h B) 3 (nI (4 - 1))) = ha at *
    have la : ∀ x, (x + 52 ≤ B + 105 ∨ B + 105 < x) → LayS h x → LayS ha x := fun x hx lx => LayS_gr lx g6 (fun b _ _ => g2 b (by omega))
    have lw : LayW ha B := by
      obtain ⟨⟨s1, s2, s3, s4, s5, s6⟩, r, t, p, a, b, c, dd⟩ := l
      refine ⟨⟨by rw [g6]; exact s1, by rw [g6]; exact s2, by rw [g6]; exact s3, by rw [g6]; exact s4, by rw [g6]; exact s5, by rw [g6]; exact s6⟩, by rw [g2 _ (by omega)]; exact r, by rw [g2 _ (by omega)]; exact t, O3_frm p g6 (g2 _ (by omega)), la _ (by omega) a, la _ (by omega) b, fun j hj => la _ (by omega) (c j hj), ?_⟩
      rw [g1]
      exact RowP_of dd (fun i => (i + 1) % 4) q0 (fun i hi => Nat.mod_lt _ (by omega)) (fun i j h1 h2 => by show (i + 1) % 4 ≠ (j + 1) % 4; omega)
    have at_ : ∀ b, b ≠ B → b ≠ B + 105 → gi ha b = gi h b ∧ gr ha b = gr h b ∧ gl ha b = gl h b := fun b n1 n2 => ⟨g3 b n1, g2 b n2, by rw [g5]⟩
    have htl : H.tail.length = 3 := by rw [List.length_tail, c]
    refine x_dr1 (t8_recordB hw lw (o.at l.2.2.2.2.1 (fun b hb1 hb2 => at_ b (by omega) (by omega))) (H := H.tail) ⟨by rw [htl]; exact g4, by omega, fun i N' hi => ?_⟩ (by omega) (fun h' f er l' hh' => ?_))
    · have il := (List.getElem?_eq_some_iff.mp hi).1
      rw [g1, q0 i (by omega), show (i + 1) % 4 = i + 1 from by omega]
      rw [List.getElem?_tail] at hi
      obtain ⟨j, hj, ej, lj⟩ := l.st (i := i + 1) (by omega)
      exact (hh.2.2 (i + 1) N' hi).at lj (fun b hb1 hb2 => at_ b (by omega) (by omega))
    · refine hq h' ⟨f.1.trans g6, fun b hb => ?_⟩ (er.trans (g2 B (by omega))) l' hh'
      obtain ⟨a1, a2, a3⟩ := f.2 b hb
      obtain ⟨b1, b2, b3⟩ := at_ b (by omega) (by omega)
      exact ⟨a1.trans b1, a2.trans b2, a3.trans b3⟩

