/-! the class's object as a whole, and its first methods -/
def TxtW (h : AH) (B : Nat) (T : Nat → Int32) (len : Nat) : Prop := gi h (B + 314) 1 = nI len ∧ len ≤ 100 ∧ ∀ i, i < len → gi h (B + 315) i = T i
def CW (h : AH) (B : Nat) (N : Nat → Int32) (H : List (Nat → Int32)) (T : Nat → Int32) (len K : Nat) : Prop := LayW h B ∧ OkS h (B + 1) N K ∧ HistW h B H K ∧ TxtW h B T len
theorem CW.mono {h : AH} {B : Nat} {N : Nat → Int32} {H : List (Nat → Int32)} {T : Nat → Int32} {len K K' : Nat} (c : CW h B N H T len K) (k : K ≤ K') : CW h B N H T len K' := ⟨c.1, c.2.1.mono k, c.2.2.1.mono k, c.2.2.2⟩
theorem TxtW.at {h h' : AH} {B len : Nat} {T : Nat → Int32} (t : TxtW h B T len) (e1 : gi h' (B + 314) = gi h (B + 314)) (e2 : gi h' (B + 315) = gi h (B + 315)) : TxtW h' B T len := by
  unfold TxtW at *
  rw [e1, e2]; exact t
theorem CW.pres {h h' : AH} {B : Nat} {N N' : Nat → Int32} {H : List (Nat → Int32)} {T : Nat → Int32} {len K : Nat} (c : CW h B N H T len K) (f : Frm (B + 1) (B + 53) h h') (l : LayS h' (B + 1)) (o : OkS h' (B + 1) N' K) : CW h' B N' H T len K := by
  obtain ⟨a, b, d, t⟩ := c
  exact ⟨LayW_frm a f (Or.inl ⟨Nat.le_refl _, Nat.le_refl _, l⟩), o, d.frm a f (by omega), t.at (f.2 _ (by omega)).1 (f.2 _ (by omega)).1⟩
theorem t8_recordC {ω : Om} {h : AH} {Q : Option Value → AH → Prop} (hw : ω.2.2.2.1 = true) {B : Nat} {N : Nat → Int32} {H : List (Nat → Int32)} {T : Nat → Int32} {len K : Nat} (c : CW h B N H T len K) (hq : ∀ h' : AH, Frm B (B + 324) h h' → gr h' B = gr h B → CW h' B N (pushH H N) T len K → (∀ b, B + 1 ≤ b → b < B + 53 → gi h' b = gi h b ∧ gr h' b = gr h b ∧ gl h' b = gl h b) → Q none h') : Ex ω M8_record 0 [some (.ref B), none, none] [] h 0 0 Q := by
  obtain ⟨a, b, d, t⟩ := c
  refine t8_record hw a b d (fun h' f er l' hh' => hq h' ⟨f.1, fun b hb => f.2 b (by omega)⟩ er ⟨l', b.at a.2.2.2.2.1 (fun b h1 h2 => f.2 b (by omega)), hh', t.at (f.2 _ (by omega)).1 (f.2 _ (by omega)).1⟩ (fun b h1 h2 => f.2 b (by omega)))
theorem t8_undo {ω : Om} {h : AH} {Q : Option Value → AH → Prop} (hw : ω.2.2.2.1 = true) {B : Nat} {N : Nat → Int32} {H : List (Nat → Int32)} {T : Nat → Int32} {len K : Nat} (c : CW h B N H T len K) (q0 : H = [] → Q (some (.int (-2))) h) (q1 : ∀ (H' : List (Nat → Int32)) (N' : Nat → Int32), H = H' ++ [N'] → ∀ h' : AH, Frm B (B + 324) h h' → CW h' B N' H' T len K → Q (some (.int (nI H'.length))) h') : Ex ω M8_undo 0 [some (.ref B)] [] h 0 0 Q := by
  obtain ⟨a, b, d, t⟩ := c
  have h1 := d.1
  have h4 := d.2.1
  refine B8_undo_0 hw a.1.1 (fun z => ?_) (fun z => ?_)
  · rw [h1, show (0 : Int32) = nI 0 from rfl, nI_eq (by omega) (by omega)] at z
    obtain ⟨H', N', rfl⟩ : ∃ H' N', H = H' ++ [N'] := ⟨H.dropLast, H.getLast (fun e => z (by rw [e]; rfl)), (List.dropLast_concat_getLast _).symm⟩
    have hl : (H' ++ [N']).length = H'.length + 1 := by rw [List.length_append]; rfl
    rw [hl] at h1 h4
    have e0 : gi (si h B 3 (gi h B 3 - nI 1)) B 3 = nI H'.length := by simp (disch := omega) only [si_wi, sr_wr, sl_wl, gi_wi, gi_wi_ne, gr_wi, gs_wi, gl_wi, gi_wr, gr_wr, gr_wr_ne, gs_wr, gl_wr, gi_wl, gr_wl, gs_wl, gl_wl, gl_wl_ne, wi_wi, wr_wr, updN_eq, updN_ne, pk_mul, nI_add, nI_clamp, upd_eq, upd_ne, h1]; rw [pk_sub (by omega)]; rfl
    refine B8_undo_10 hw a.1.1 (by rw [e0]; exact vp_in_nI (by omega) (by omega)) ?_
    rw [e0, nI_clamp (by omega)]
    simp (disch := omega) only [si_wi, sr_wr, sl_wl, gi_wi, gi_wi_ne, gr_wi, gs_wi, gl_wi, gi_wr, gr_wr, gr_wr_ne, gs_wr, gl_wr, gi_wl, gr_wl, gs_wl, gl_wl, gl_wl_ne, wi_wi, wr_wr, updN_eq, updN_ne, pk_mul, nI_add, nI_clamp, upd_eq, upd_ne, h1, a.2.1.1, a.2.1.2.2.1]
    rw [pk_sub (by omega), show H'.length + 1 - 1 = H'.length from rfl]
    have f1 := Frm.wi B (B + 1) h (upd (gi h B) 3 (nI H'.length)) (Nat.le_refl _) (by omega)
    have r1 : gr (wi h B (upd (gi h B) 3 (nI H'.length))) = gr h := rfl
    have g1 : gi (wi h B (upd (gi h B) 3 (nI H'.length))) B 3 = nI H'.length := by rw [gi_wi, upd_eq]
    generalize wi h B (upd (gi h B) 3 (nI H'.length)) = ha at *
    obtain ⟨j, hj, ej, lj⟩ := a.st (i := H'.length) (by omega)
    obtain ⟨c0, w0, d0, nx0, lo0, hi0, acc0, v0, i0⟩ := d.2.2 H'.length N' (by rw [List.getElem?_append_right (Nat.le_refl _), Nat.sub_self]; rfl)
    refine t5_copyFrom hw (LayS_gr a.2.2.2.2.1 f1.1 (fun b _ _ => by rw [r1])) (LayS_gr lj f1.1 (fun b _ _ => by rw [r1])) (by omega) (ValS_frm lj v0 f1 (by omega)) (fun h' f l' v' => ?_)
    refine B8_undo_36 hw (by rw [f.1, f1.1]; exact a.1.1) ?_
    rw [(f.2 B (by omega)).1, g1]
    have at_ : ∀ b, b ≠ B → (b < B + 1 ∨ B + 53 ≤ b) → gi h' b = gi h b ∧ gr h' b = gr h b ∧ gl h' b = gl h b := fun b n1 n2 => by
      obtain ⟨a1, a2, a3⟩ := f.2 b (by omega)
      obtain ⟨b1, b2, b3⟩ := f1.2 b (by omega)
      exact ⟨a1.trans b1, a2.trans b2, a3.trans b3⟩
    have rB : gr h' B = gr h B := by rw [(f.2 B (by omega)).2.1, r1]
    have gs' : gs h' = gs h := f.1.trans f1.1
    refine q1 H' N' rfl h' ⟨gs', fun b hb => at_ b (by omega) (by omega)⟩ ⟨?_, ⟨c0, w0, d0, nx0, lo0, hi0, acc0, v', i0⟩, ⟨?_, by omega, fun i N2 hi => ?_⟩, t.at (at_ _ (by omega) (by omega)).1 (at_ _ (by omega) (by omega)).1⟩
    · obtain ⟨⟨s1, s2, s3, s4, s5, s6⟩, r, t, p, a, b, c, dd⟩ := a
      refine ⟨⟨by rw [gs']; exact s1, by rw [gs']; exact s2, by rw [gs']; exact s3, by rw [gs']; exact s4, by rw [gs']; exact s5, by rw [gs']; exact s6⟩, by rw [rB]; exact r, by rw [(at_ _ (by omega) (by omega)).2.1]; exact t, O3_frm p gs' (at_ _ (by omega) (by omega)).2.1, l', LayS_gr b gs' (fun b _ _ => (at_ b (by omega) (by omega)).2.1), fun j hj => LayS_gr (c j hj) gs' (fun b _ _ => (at_ b (by omega) (by omega)).2.1), by rw [(at_ _ (by omega) (by omega)).2.1]; exact dd⟩
    · rw [(f.2 B (by omega)).1]; exact g1
    · have il := (List.getElem?_eq_some_iff.mp hi).1
      rw [(at_ _ (by omega) (by omega)).2.1]
      obtain ⟨j2, hj2, ej2, lj2⟩ := a.st (i := i) (by omega)
      exact (d.2.2 i N2 (by rw [List.getElem?_append_left il]; exact hi)).at lj2 (fun b hb1 hb2 => at_ b (by omega) (by omega))
  · rw [h1, show (0 : Int32) = nI 0 from rfl, nI_eq (by omega) (by omega)] at z
    exact B8_undo_7 hw (q0 (List.length_eq_zero_iff.mp z))

