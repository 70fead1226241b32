/-! the law's isWritten: what is written is loaded as the same; with a sign more it is wrong -/
theorem CW.far2 {h h' : AH} {B len K : Nat} {N : Nat → Int32} {H : List (Nat → Int32)} {T : Nat → Int32} (c : CW h B N H T len K) (g : gs h' = gs h) (e : ∀ b, B ≤ b → b < B + 324 → gi h' b = gi h b ∧ gr h' b = gr h b ∧ gl h' b = gl h b) : CW h' B N H T len K := by
  obtain ⟨⟨⟨s1, s2, s3, s4, s5, s6⟩, rr, t, p, a, b, cc, dd⟩, b2, d, tx⟩ := c
  refine ⟨⟨⟨by rw [g]; exact s1, by rw [g]; exact s2, by rw [g]; exact s3, by rw [g]; exact s4, by rw [g]; exact s5, by rw [g]; exact s6⟩, by rw [(e B (by omega) (by omega)).2.1]; exact rr, by rw [(e _ (by omega) (by omega)).2.1]; exact t, O3_frm p g (e _ (by omega) (by omega)).2.1, LayS_gr a g (fun q h1 h2 => (e q (by omega) (by omega)).2.1), LayS_gr b g (fun q h1 h2 => (e q (by omega) (by omega)).2.1), fun j hj => LayS_gr (cc j hj) g (fun q h1 h2 => (e q (by omega) (by omega)).2.1), by rw [(e _ (by omega) (by omega)).2.1]; exact dd⟩, b2.at a (fun q h1 h2 => e q (by omega) (by omega)), ⟨by rw [(e B (by omega) (by omega)).1]; exact d.1, d.2.1, fun i N2 hi => ?_⟩, tx.at (e _ (by omega) (by omega)).1 (e _ (by omega) (by omega)).1⟩
  have il := (List.getElem?_eq_some_iff.mp hi).1
  have h4 := d.2.1
  obtain ⟨j, hj, ej⟩ := dd.1 i (by omega)
  rw [(e (B + 105) (by omega) (by omega)).2.1]
  refine (d.2.2 i N2 hi).at (x := gr h (B + 105) i) (h' := h') ?_ (fun q h1 h2 => e q (by omega) (by omega))
  rw [ej]
  exact cc j hj
theorem CW.si {h : AH} {B len K t k : Nat} {v : Int32} {N : Nat → Int32} {H : List (Nat → Int32)} {T : Nat → Int32} (c : CW h B N H T len K) (ht : t < B) : CW (si h t k v) B N H T len K :=
  c.far2 rfl (fun b h1 _ => ⟨up2_ne1 _ k v (by omega), rfl, rfl⟩)
theorem gi_si_at {h : AH} {t k j : Nat} {v : Int32} : gi (si h t k v) t j = if j = k then v else gi h t j := by
  show up2 (gi h) t k v t j = _
  unfold up2
  by_cases z : j = k
  · rw [if_pos ⟨rfl, z⟩, if_pos z]
  · rw [if_neg (fun q => z q.2), if_neg z]
section CNT
variable {N : Nat → Int32} {st len : Nat}
theorem countR_0 : countR N st len (nI 0) = N 0 := if_pos rfl
theorem countR_1 : countR N st len (nI 1) = N 1 := by unfold countR; rw [if_neg (by decide), if_pos rfl]
theorem countR_2 : countR N st len (nI 2) = N 7 := by unfold countR; rw [if_neg (by decide), if_neg (by decide), if_pos rfl]
theorem countR_3 : countR N st len (nI 3) = N 3 := by unfold countR; rw [if_neg (by decide), if_neg (by decide), if_neg (by decide), if_pos rfl]
theorem countR_5 : countR N st len (nI 5) = N 5 := by unfold countR; rw [if_neg (by decide), if_neg (by decide), if_neg (by decide), if_neg (by decide), if_neg (by decide), if_pos rfl]
theorem countR_7 : countR N st len (nI 7) = nI len := by unfold countR; rw [if_neg (by decide), if_neg (by decide), if_neg (by decide), if_neg (by decide), if_neg (by decide), if_neg (by decide), if_neg (by decide), if_pos rfl]
theorem countR_8 : countR N st len (nI 8) = N 6 := by unfold countR; rw [if_neg (by decide), if_neg (by decide), if_neg (by decide), if_neg (by decide), if_neg (by decide), if_neg (by decide), if_neg (by decide), if_neg (by decide), if_pos rfl]
theorem countR_9 : countR N st len (nI 9) = -1 := by unfold countR; rw [if_neg (by decide), if_neg (by decide), if_neg (by decide), if_neg (by decide), if_neg (by decide), if_neg (by decide), if_neg (by decide), if_neg (by decide), if_neg (by decide)]
end CNT
section LWR
variable {ω : Om} {Q : Option Value → AH → Prop} {h : AH} {B K : Nat} {N : Nat → Int32} {H : List (Nat → Int32)} {T : Nat → Int32} {len : Nat}
/-- a step that there is -/
theorem w_step (hw : ω.2.2.2.1 = true) (cw : CW h B N H T len K) {n i j : Nat} (hn : N 3 = nI n) (n12 : n ≤ 12) (hi : i < n) (hj : j < 2) (hq : Q (some (.int (N (188 + 2 * i + j)))) h) : Ex ω M8_step 0 [some (.ref B), some (.int (nI i)), some (.int (nI j))] [] h 0 0 Q := by
  have ok : ¬ nI i < 0 ∧ (0 ≤ nI j ∧ nI j ≤ nI 1) := ⟨nI_pos (by omega), nI_pos' (by omega), nI_le (by omega) (by omega)⟩
  refine t8_step hw cw (fun z => absurd ok z) (fun sn e s12 _ z => ?_) (fun sn i2 j2 e s12 e1 e2 b1 b2 => ?_)
  · have : sn = n := (nI_eq (by omega) (by omega)).mp (e.symm.trans hn)
    rw [nI_leI (by omega) (by omega)] at z
    omega
  · have sne : sn = n := (nI_eq (by omega) (by omega)).mp (e.symm.trans hn)
    have ie : i = i2 := (nI_eq (by omega) (by omega)).mp e1
    have je : j = j2 := (nI_eq (by omega) (by omega)).mp e2
    rw [← ie, ← je]
    exact hq
theorem w_textAt (hw : ω.2.2.2.1 = true) (cw : CW h B N H T len K) (l100 : len ≤ 100) {i : Nat} (hi : i < len) (hq : Q (some (.int (T i))) h) : Ex ω M8_textAt 0 [some (.ref B), some (.int (nI i))] [] h 0 0 Q := by
  refine t8_textAt hw cw (fun z => absurd z (nI_pos (by omega))) (fun _ z => ?_) (fun j hj e => ?_)
  · rw [nI_leI (by omega) (by omega)] at z; omega
  · have ie : i = j := (nI_eq (by omega) (by omega)).mp e
    rw [← ie]
    exact hq
theorem w_count (hw : ω.2.2.2.1 = true) (cw : CW h B N H T len K) {x v : Int32} (e : countR N H.length len x = v) (hq : Q (some (.int v)) h) : Ex ω M8_count 0 [some (.ref B), some (.int x)] [] h 0 0 Q :=
  t8_count hw cw (by rw [e]; exact hq)
/-- the scan for the last step's begin: from place l down -/
theorem wr_scan (hw : ω.2.2.2.1 = true) {n x : Nat} {x2 x4 : Int32} {g : AH} (cw : CW g B N H T len K) (l100 : len ≤ 100) (xl : x ≤ len) (no44 : ∀ j, x ≤ j → j < len → T j ≠ nI 44) (x0 : x = 0 ∨ (2 ≤ x ∧ T (x - 2) = nI 44 ∧ T (x - 1) = nI 32)) (k : Ex ω ML_isWritten 255 [some (.ref B), none, some (.int x2), some (.int (nI n)), some (.int x4), some (.int (nI 1)), some (.int (nI x))] [] g 0 0 Q) : ∀ (d l : Nat), l = x - 1 + d → l ≤ len → Ex ω ML_isWritten 211 [some (.ref B), none, some (.int x2), some (.int (nI n)), some (.int x4), some (.int (nI 1)), some (.int (nI l))] [] g 0 0 Q := by
  have fin : ∀ l : Nat, l = x - 1 → Ex ω ML_isWritten 235 [some (.ref B), none, some (.int x2), some (.int (nI n)), some (.int x4), some (.int (nI 1)), some (.int (nI l))] [] g 0 0 Q := fun l hl => by
    refine BL_isWritten_235 hw (fun z => ?_) (fun z => ?_)
    · refine BL_isWritten_246 hw (BL_isWritten_247 hw (fun c => absurd c (by decide)) (fun _ => ?_))
      have l0 : l = 0 := Nat.eq_zero_of_not_pos (fun q => nI_nle q (by omega) z)
      rw [nI_add, show l + 0 = x by omega]
      exact k
    · refine BL_isWritten_242 hw (BL_isWritten_247 hw (fun c => absurd c (by decide)) (fun _ => ?_))
      have l1 : 1 ≤ l := Nat.pos_of_ne_zero (fun q => z (by rw [q]; decide))
      rw [nI_add, show l + 1 = x by omega]
      exact k
  intro d
  induction d with
  | zero =>
    intro l hl hl2
    refine BL_isWritten_211 hw (fun _ => fin l (by omega)) (fun z => ?_)
    have l1 : 1 ≤ l := Nat.pos_of_ne_zero (fun q => z (by rw [q]; decide))
    have x2' : 2 ≤ x ∧ T (x - 2) = nI 44 ∧ T (x - 1) = nI 32 := x0.resolve_left (by omega)
    refine BL_isWritten_216 hw cw.o8 ?_
    rw [pk_sub l1]
    refine w_textAt hw cw l100 (by omega) ?_
    refine BL_isWritten_224 hw (fun _ => fin l (by omega)) (fun c => absurd ?_ c)
    rw [show l - 1 = x - 2 by omega]
    exact x2'.2.1
  | succ d ih =>
    intro l hl hl2
    refine BL_isWritten_211 hw (fun z => absurd z (nI_nle (by omega) (by omega))) (fun _ => ?_)
    refine BL_isWritten_216 hw cw.o8 ?_
    rw [pk_sub (by omega)]
    refine w_textAt hw cw l100 (by omega) ?_
    refine BL_isWritten_224 hw (fun c => absurd c ?_) (fun _ => ?_)
    · by_cases z : x ≤ l - 1
      · exact no44 (l - 1) z (by omega)
      · have x2' : 2 ≤ x ∧ T (x - 2) = nI 44 ∧ T (x - 1) = nI 32 := x0.resolve_left (by omega)
        rw [show l - 1 = x - 1 by omega, x2'.2.2]
        decide
    · refine BL_isWritten_229 hw ?_
      have e : nI l + (-1) = nI (l - 1) := by
        obtain ⟨m, rfl⟩ : ∃ m, l = m + 1 := ⟨l - 1, by omega⟩
        exact pk_m1 m
      rw [e]
      exact ih (l - 1) (by omega) (by omega)
/-- from the sign that is put behind on -/
theorem wr_end (hw : ω.2.2.2.1 = true) {n sg x : Nat} {T2 : Nat → Int32} {g : AH} (cw : CW g B N H T len K) (hl : len < 100) (s1 : 32 ≤ sg) (s2 : sg ≤ 126) (hn : N 3 = nI n) (xl : x ≤ len) (eT : T2 = upd T len (nI sg)) (px : (parsT T2 (len + 1)).1 = some x) (hq : ∀ h' : AH, Frm B (B + 324) g h' → CW h' B N H T2 (len + 1) K → Q (some (.int (nI 1))) h') : Ex ω ML_isWritten 269 [some (.ref B), none, none, some (.int (nI n)), some (.int (nI len)), none, some (.int (nI x))] [.int (nI sg), .ref B] g 0 0 Q := by
  refine BL_isWritten_269 hw cw.o8 ?_
  refine w_type (p := (T, len)) hw cw s1 s2 hl (fun g1 f1 c1 => ?_)
  have c1' : CW g1 B N H T2 (len + 1) K := by
    rw [putC_lt (p := (T, len)) hl] at c1
    rw [eT]
    exact c1
  refine BL_isWritten_272 hw (fun z => absurd (nI_add len 1).symm z) (fun _ => ?_)
  refine BL_isWritten_279 hw c1'.o8 ?_
  refine t8_fault hw c1' (fun y g2 ey _ f2 c2 => ?_) (fun g2 e _ _ => by rw [px] at e; cases e)
  have exy : x = y := Option.some.inj (px.symm.trans ey)
  rw [← exy]
  refine BL_isWritten_283 hw (fun z => absurd rfl z) (fun _ => ?_)
  refine BL_isWritten_288 hw c2.o8 ?_
  refine t8_load hw c2 (fun g3 _ f3 c3 => ?_) (fun g3 e _ _ _ _ => by rw [px] at e; cases e)
  refine BL_isWritten_292 hw (fun z => absurd rfl z) (fun _ => ?_)
  refine BL_isWritten_297 hw c3.o8 (w_count hw c3 (countR_3.trans hn) ?_)
  refine BL_isWritten_302 hw (fun z => absurd rfl z) (fun _ => ?_)
  exact BL_isWritten_306 hw (BL_isWritten_311 hw (BL_isWritten_313 hw rfl (hq g3 ((f1.trans f2).trans f3) c3)))
end LWR
