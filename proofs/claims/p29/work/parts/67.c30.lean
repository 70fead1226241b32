/-! the class: the course of a program -/
theorem upL_fuel {top a ten st : Nat} (ha : 1 ≤ a) : ∀ f g h : Nat, top ≤ h + f → top ≤ h + g → upL top a ten st f h = upL top a ten st g h := by
  intro f
  induction f with
  | zero =>
    intro g h h1 h2
    cases g with
    | zero => rfl
    | succ g => exact (if_neg (by omega)).symm
  | succ f ih =>
    intro g h h1 h2
    cases g with
    | zero => exact if_neg (by omega)
    | succ g =>
      show (if h < top then _ else _) = (if h < top then _ else _)
      by_cases c : h < top
      · rw [if_pos c, if_pos c, ih g (min (h + a) top) (by omega) (by omega)]
      · rw [if_neg c, if_neg c]
theorem dnL_fuel {a ten st : Nat} (ha : 1 ≤ a) : ∀ f g h : Nat, h ≤ f → h ≤ g → dnL a ten st f h = dnL a ten st g h := by
  intro f
  induction f with
  | zero =>
    intro g h h1 h2
    cases g with
    | zero => rfl
    | succ g => exact (if_neg (by omega)).symm
  | succ f ih =>
    intro g h h1 h2
    cases g with
    | zero => exact if_neg (by omega)
    | succ g =>
      show (if 0 < h then _ else _) = (if 0 < h then _ else _)
      by_cases c : 0 < h
      · rw [if_pos c, if_pos c, ih g (h - a) (by omega) (by omega)]
      · rw [if_neg c, if_neg c]
/-- the turns that are left, when a step has been stayed at sd times -/
def curL (top : Nat) : List (Nat × Nat) → Nat → Nat × Nat × Nat → List (Nat × Nat × Nat)
  | [], _, _ => []
  | q :: r, sd, s => (if q.1 = 0 then List.replicate (q.2 - sd) s else stL top q s) ++ crsL top r (stE top q s)
theorem curL_0 (top : Nat) (l : List (Nat × Nat)) (s : Nat × Nat × Nat) : curL top l 0 s = crsL top l s := by
  cases l with
  | nil => rfl
  | cons q r =>
    show (if q.1 = 0 then List.replicate (q.2 - 0) s else stL top q s) ++ _ = stL top q s ++ _
    by_cases z : q.1 = 0
    · rw [if_pos z]; unfold stL; rw [if_pos z]; rfl
    · rw [if_neg z]
def CrsV (f : Nat → Int32) (top i sd : Nat) (s : Nat × Nat × Nat) : Prop := f 1 = nI top ∧ f 2 = nI i ∧ f 3 = nI sd ∧ f 4 = nI s.1 ∧ f 5 = nI s.2.1 ∧ f 6 = nI s.2.2
def TLb (s : Nat × Nat × Nat) : Prop := s.1 ≤ 1000 ∧ s.2.1 ≤ 1000 ∧ s.2.2 ≤ 1000
theorem t0_advance {ω : Om} {h : AH} {Q : Option Value → AH → Prop} (hw : ω.2.2.2.1 = true) {C pr top : Nat} {acc : List (Nat × Nat)} (sC : gs h C = some (0, 7)) (rC : gr h C 0 = pr) (po : ProgO h pr) (ne : C < pr ∨ pr + 3 ≤ C) (pv : progV (gi h pr) (gi h (pr + 1)) (gi h (pr + 2)) acc) (ok : StepsOk acc) (ht : top ≤ 1000) :
    ∀ (n i sd : Nat) (f : Nat → Int32) (s : Nat × Nat × Nat), i + n = acc.length → CrsV f top i sd s → sd ≤ 1000 → TLb s → (curL top (acc.drop i) sd s = [] → ∀ f' : Nat → Int32, Q (some (.int (nI 0))) (wi h C f')) → (∀ (t : Nat × Nat × Nat) (l : List (Nat × Nat × Nat)) (f' : Nat → Int32) (i' sd' : Nat), curL top (acc.drop i) sd s = t :: l → i' ≤ acc.length → sd' ≤ 1000 → TLb t → CrsV f' top i' sd' t → curL top (acc.drop i') sd' t = l → Q (some (.int (nI 1))) (wi h C f')) → Ex ω M0_advance 0 [some (.ref C)] [] (wi h C f) 0 0 Q := by
  obtain ⟨p1, p2, p3⟩ := pv
  have gp : ∀ (f : Nat → Int32) b, (b = pr ∨ b = pr + 1 ∨ b = pr + 2) → gi (wi h C f) b = gi h b := fun f b hb => gi_wi_ne _ _ _ (by omega)
  have rC' : ∀ f : Nat → Int32, gr (wi h C f) C 0 = pr := fun f => rC
  intro n
  induction n with
  | zero =>
    intro i sd f s hi cv hsd hs q0 q1
    refine B0_advance_0 hw (by exact sC) (fun _ => B0_advance_65 hw (q0 ?_ f)) (fun c => ?_)
    · rw [List.drop_of_length_le (by omega)]; rfl
    · rw [rC', gp f _ (Or.inl rfl), p1, gi_wi, cv.2.1] at c
      exact absurd (nI_le (by omega) (by omega)) c
  | succ n ih =>
    intro i sd f s hi cv hsd hs q0 q1
    have hil : i < acc.length := by omega
    obtain ⟨r1, r2⟩ := p3 i acc[i] (List.getElem?_eq_getElem hil)
    obtain ⟨o1, o2, o3⟩ := ok acc[i] (List.getElem_mem hil)
    have a300 := amt300 o1 o3
    have a1 := amt1 o2
    rw [List.drop_eq_getElem_cons hil] at q0 q1
    have ed := List.drop_eq_getElem_cons hil
    obtain ⟨c1, c2, c3, c4, c5, c6⟩ := cv
    generalize acc[i] = q at *
    obtain ⟨k, a⟩ := q
    dsimp only at r1 r2 o1 o2 o3 a300 a1
    refine B0_advance_0 hw (by exact sC) (fun c => ?_) (fun _ => ?_)
    · rw [rC', gp f _ (Or.inl rfl), p1, gi_wi, c2] at c
      exact absurd c (nI_ge (by omega) (by omega))
    have iv : vp_in (gi (wi h C f) C 2) 12 := by rw [gi_wi, c2]; exact vp_in_nI (by omega) (by omega)
    refine B0_advance_14 hw (by exact sC) iv iv ?_
    rw [rC', gi_wi, c2, nI_clamp (by omega), show gr (wi h C f) pr 1 = gr h pr 1 from rfl, show gr (wi h C f) pr 2 = gr h pr 2 from rfl, po.2.2.2.1, po.2.2.2.2, gp f _ (Or.inr (Or.inl rfl)), gp f _ (Or.inr (Or.inr rfl)), r1, r2]
    have skip : ∀ (f1 : Nat → Int32) (sd1 : Nat) (s1 : Nat × Nat × Nat), CrsV f1 top i sd1 s1 → TLb s1 → curL top ((k, a) :: acc.drop (i + 1)) sd s = crsL top (acc.drop (i + 1)) s1 → Ex ω M0_advance 42 [some (.ref C)] [.int (nI 0)] (wi h C f1) 0 0 Q := by
      intro f1 sd1 s1 cv1 hs1 e
      refine B0_advance_42 hw (fun _ => B0_advance_47 hw (by exact sC) ?_) (fun c => absurd rfl c)
      simp (disch := omega) only [si_wi, sr_wr, sl_wl, gi_wi, gi_wi_ne, gr_wi, gs_wi, gl_wi, gi_wr, gr_wr, gr_wr_ne, gs_wr, gl_wr, gi_wl, gr_wl, gs_wl, gl_wl, gl_wl_ne, wi_wi, wr_wr, updN_eq, updN_ne, pk_mul, nI_add, nI_clamp, upd_eq, upd_ne, cv1.2.1]
      rw [← curL_0] at e
      refine ih (i + 1) 0 _ s1 (by omega) ⟨?_, ?_, ?_, ?_, ?_, ?_⟩ (by omega) hs1 (fun z => q0 (e.trans z)) (fun t l f' i' sd' z => q1 t l f' i' sd' (e.trans z))
      · rw [upd_ne _ _ (by omega), upd_ne _ _ (by omega)]; exact cv1.1
      · rw [upd_ne _ _ (by omega), upd_eq]
      · rw [upd_eq]
      · rw [upd_ne _ _ (by omega), upd_ne _ _ (by omega)]; exact cv1.2.2.2.1
      · rw [upd_ne _ _ (by omega), upd_ne _ _ (by omega)]; exact cv1.2.2.2.2.1
      · rw [upd_ne _ _ (by omega), upd_ne _ _ (by omega)]; exact cv1.2.2.2.2.2
    have take : ∀ (f1 : Nat → Int32) (sd1 : Nat) (t : Nat × Nat × Nat), CrsV f1 top i sd1 t → sd1 ≤ 1000 → TLb t → curL top ((k, a) :: acc.drop (i + 1)) sd s = t :: curL top ((k, a) :: acc.drop (i + 1)) sd1 t → Ex ω M0_advance 42 [some (.ref C)] [.int (nI 1)] (wi h C f1) 0 0 Q := by
      intro f1 sd1 t cv1 hsd1 ht1 e
      refine B0_advance_42 hw (fun c => absurd c (by decide)) (fun _ => B0_advance_45 hw ?_)
      exact q1 t _ f1 i sd1 e (by omega) hsd1 ht1 cv1 (by rw [ed])
    obtain ⟨y, ten, st⟩ := s
    obtain ⟨b1, b2, b3⟩ := hs
    dsimp only at c4 c5 c6 b1 b2 b3
    refine B0_takesTurn_0 hw (fun c0 => ?_) (fun c0 => ?_) (fun c0 => ?_) (fun c0 => ?_) (fun c0 => ?_)
    · rw [nI_eq (by omega) (by omega)] at c0
      subst c0
      have cu : ∀ sd s', curL top ((0, a) :: acc.drop (i + 1)) sd s' = List.replicate (a - sd) s' ++ crsL top (acc.drop (i + 1)) s' := fun sd s' => rfl
      have cvx : CrsV (upd f 3 (nI (sd + 1))) top i (sd + 1) (y, ten, st) := ⟨by rw [upd_ne _ _ (by omega)]; exact c1, by rw [upd_ne _ _ (by omega)]; exact c2, upd_eq _ _ _, by rw [upd_ne _ _ (by omega)]; exact c4, by rw [upd_ne _ _ (by omega)]; exact c5, by rw [upd_ne _ _ (by omega)]; exact c6⟩
      refine B0_takesTurn_32 hw (by exact sC) (fun c => ?_) (fun c => ?_)
      · simp (disch := omega) only [si_wi, sr_wr, sl_wl, gi_wi, gi_wi_ne, gr_wi, gs_wi, gl_wi, gi_wr, gr_wr, gr_wr_ne, gs_wr, gl_wr, gi_wl, gr_wl, gs_wl, gl_wl, gl_wl_ne, wi_wi, wr_wr, updN_eq, updN_ne, pk_mul, nI_add, nI_clamp, upd_eq, upd_ne, c3] at c
        rw [nI_ltI (by omega) (by omega)] at c
        simp (disch := omega) only [si_wi, sr_wr, sl_wl, gi_wi, gi_wi_ne, gr_wi, gs_wi, gl_wi, gi_wr, gr_wr, gr_wr_ne, gs_wr, gl_wr, gi_wl, gr_wl, gs_wl, gl_wl, gl_wl_ne, wi_wi, wr_wr, updN_eq, updN_ne, pk_mul, nI_add, nI_clamp, upd_eq, upd_ne, c3]
        refine B0_takesTurn_54 hw (B0_takesTurn_55 hw rfl (skip _ (sd + 1) _ cvx ⟨b1, b2, b3⟩ ?_))
        rw [cu, show a - sd = 0 from by omega]; rfl
      · simp (disch := omega) only [si_wi, sr_wr, sl_wl, gi_wi, gi_wi_ne, gr_wi, gs_wi, gl_wi, gi_wr, gr_wr, gr_wr_ne, gs_wr, gl_wr, gi_wl, gr_wl, gs_wl, gl_wl, gl_wl_ne, wi_wi, wr_wr, updN_eq, updN_ne, pk_mul, nI_add, nI_clamp, upd_eq, upd_ne, c3] at c
        rw [nI_ltI (by omega) (by omega)] at c
        simp (disch := omega) only [si_wi, sr_wr, sl_wl, gi_wi, gi_wi_ne, gr_wi, gs_wi, gl_wi, gi_wr, gr_wr, gr_wr_ne, gs_wr, gl_wr, gi_wl, gr_wl, gs_wl, gl_wl, gl_wl_ne, wi_wi, wr_wr, updN_eq, updN_ne, pk_mul, nI_add, nI_clamp, upd_eq, upd_ne, c3]
        refine B0_takesTurn_50 hw (B0_takesTurn_55 hw rfl (take _ (sd + 1) _ cvx (by omega) ⟨b1, b2, b3⟩ ?_))
        rw [cu, cu, show a - sd = (a - (sd + 1)) + 1 from by omega, List.replicate_succ]; rfl
    · rw [nI_eq (by omega) (by omega)] at c0
      subst c0
      have cu : ∀ sd y', curL top ((1, a) :: acc.drop (i + 1)) sd (y', ten, st) = upL top a ten st top y' ++ crsL top (acc.drop (i + 1)) (max y' top, ten, st) := fun sd s' => rfl
      refine B0_takesTurn_56 hw (by exact sC) (fun c => ?_) (fun c => ?_)
      · rw [gi_wi, c4, c1, nI_ltI (by omega) (by omega)] at c
        refine B0_takesTurn_69 hw (by exact sC) ?_
        simp (disch := omega) only [si_wi, sr_wr, sl_wl, gi_wi, gi_wi_ne, gr_wi, gs_wi, gl_wi, gi_wr, gr_wr, gr_wr_ne, gs_wr, gl_wr, gi_wl, gr_wl, gs_wl, gl_wl, gl_wl_ne, wi_wi, wr_wr, updN_eq, updN_ne, pk_mul, nI_add, nI_clamp, upd_eq, upd_ne, c1, c4]
        have em : (if nI top < nI (y + a) then nI top else nI (y + a)) = nI (min (y + a) top) := by
          by_cases z : top < y + a
          · rw [if_pos ((nI_ltI (by omega) (by omega)).mpr z), Nat.min_eq_right (by omega)]
          · rw [if_neg (fun q => z ((nI_ltI (by omega) (by omega)).mp q)), Nat.min_eq_left (by omega)]
        rw [em]
        refine take _ sd (min (y + a) top, ten, st) ⟨by rw [upd_ne _ _ (by omega)]; exact c1, by rw [upd_ne _ _ (by omega)]; exact c2, by rw [upd_ne _ _ (by omega)]; exact c3, upd_eq _ _ _, by rw [upd_ne _ _ (by omega)]; exact c5, by rw [upd_ne _ _ (by omega)]; exact c6⟩ hsd ⟨by show min (y + a) top ≤ 1000; omega, b2, b3⟩ ?_
        have a1' := a1 (by omega)
        obtain ⟨tp, htp⟩ : ∃ tp, top = tp + 1 := ⟨top - 1, by omega⟩
        have ef : ∀ tt, tt = tp + 1 → upL top a ten st tt y = (min (y + a) top, ten, st) :: upL top a ten st tp (min (y + a) top) := fun tt htt => by
          rw [htt]; exact if_pos c
        have ef := ef top htp
        rw [cu, cu, ef, upL_fuel a1' tp top _ (by omega) (by omega), show max (min (y + a) top) top = max y top from by omega]
        rfl
      · rw [gi_wi, c4, c1, nI_ltI (by omega) (by omega)] at c
        refine B0_takesTurn_67 hw (skip f sd (y, ten, st) ⟨c1, c2, c3, c4, c5, c6⟩ ⟨b1, b2, b3⟩ ?_)
        rw [cu, upL_fuel (a1 (by omega)) top 0 y (by omega) (by omega), show max y top = y from by omega]; rfl
    · rw [nI_eq (by omega) (by omega)] at c0
      subst c0
      have cu : ∀ sd y', curL top ((2, a) :: acc.drop (i + 1)) sd (y', ten, st) = dnL a ten st y' y' ++ crsL top (acc.drop (i + 1)) (0, ten, st) := fun sd s' => rfl
      refine B0_takesTurn_88 hw (by exact sC) (fun c => ?_) (fun c => ?_)
      · rw [gi_wi, c4, show (0 : Int32) = nI 0 from rfl, nI_ltI (by omega) (by omega)] at c
        refine B0_takesTurn_97 hw (by exact sC) ?_
        simp (disch := omega) only [si_wi, sr_wr, sl_wl, gi_wi, gi_wi_ne, gr_wi, gs_wi, gl_wi, gi_wr, gr_wr, gr_wr_ne, gs_wr, gl_wr, gi_wl, gr_wl, gs_wl, gl_wl, gl_wl_ne, wi_wi, wr_wr, updN_eq, updN_ne, pk_mul, nI_add, nI_clamp, upd_eq, upd_ne, c4]
        have em : (if nI y - nI a < nI 0 then nI 0 else nI y - nI a) = nI (y - a) := by
          have e1 : (nI y - nI a).toInt = (y : Int) - a := pk_sub_toInt (by omega) (by omega)
          by_cases z : a ≤ y
          · rw [pk_sub z, if_neg (fun q => by rw [nI_ltI (by omega) (by omega)] at q; omega)]
          · rw [if_pos (by rw [Int32.lt_iff_toInt_lt, e1, nI_toInt (by omega)]; omega), show y - a = 0 from by omega]
        rw [em]
        refine take _ sd (y - a, ten, st) ⟨by rw [upd_ne _ _ (by omega)]; exact c1, by rw [upd_ne _ _ (by omega)]; exact c2, by rw [upd_ne _ _ (by omega)]; exact c3, upd_eq _ _ _, by rw [upd_ne _ _ (by omega)]; exact c5, by rw [upd_ne _ _ (by omega)]; exact c6⟩ hsd ⟨by show y - a ≤ 1000; omega, b2, b3⟩ ?_
        have a1' := a1 (by omega)
        obtain ⟨yp, hyp⟩ : ∃ yp, y = yp + 1 := ⟨y - 1, by omega⟩
        have ef : dnL a ten st y y = (y - a, ten, st) :: dnL a ten st yp (y - a) := by
          conv => lhs; arg 4; rw [hyp]
          exact if_pos c
        rw [cu, cu, ef, dnL_fuel a1' yp (y - a) _ (by omega) (by omega)]
        rfl
      · rw [gi_wi, c4, show (0 : Int32) = nI 0 from rfl, nI_ltI (by omega) (by omega)] at c
        obtain rfl : y = 0 := by omega
        refine B0_takesTurn_95 hw (skip f sd (0, ten, st) ⟨c1, c2, c3, c4, c5, c6⟩ ⟨b1, b2, b3⟩ ?_)
        rw [cu]; rfl
    · rw [nI_eq (by omega) (by omega)] at c0
      subst c0
      refine B0_takesTurn_113 hw (by exact sC) ?_
      simp (disch := omega) only [si_wi, sr_wr, sl_wl, gi_wi, gi_wi_ne, gr_wi, gs_wi, gl_wi, gi_wr, gr_wr, gr_wr_ne, gs_wr, gl_wr, gi_wl, gr_wl, gs_wl, gl_wl, gl_wl_ne, wi_wi, wr_wr, updN_eq, updN_ne, pk_mul, nI_add, nI_clamp, upd_eq, upd_ne]
      exact skip _ sd (y, a, st) ⟨by rw [upd_ne _ _ (by omega)]; exact c1, by rw [upd_ne _ _ (by omega)]; exact c2, by rw [upd_ne _ _ (by omega)]; exact c3, by rw [upd_ne _ _ (by omega)]; exact c4, upd_eq _ _ _, by rw [upd_ne _ _ (by omega)]; exact c6⟩ ⟨b1, by show a ≤ 1000; omega, b3⟩ rfl
    · rw [show (0 : Int32) = nI 0 from rfl, nI_leI (by omega) (by omega), nI_leI (by omega) (by omega)] at c0
      obtain rfl : k = 4 := by omega
      refine B0_takesTurn_120 hw (by exact sC) ?_
      simp (disch := omega) only [si_wi, sr_wr, sl_wl, gi_wi, gi_wi_ne, gr_wi, gs_wi, gl_wi, gi_wr, gr_wr, gr_wr_ne, gs_wr, gl_wr, gi_wl, gr_wl, gs_wl, gl_wl, gl_wl_ne, wi_wi, wr_wr, updN_eq, updN_ne, pk_mul, nI_add, nI_clamp, upd_eq, upd_ne]
      exact skip _ sd (y, ten, a) ⟨by rw [upd_ne _ _ (by omega)]; exact c1, by rw [upd_ne _ _ (by omega)]; exact c2, by rw [upd_ne _ _ (by omega)]; exact c3, by rw [upd_ne _ _ (by omega)]; exact c4, by rw [upd_ne _ _ (by omega)]; exact c5, upd_eq _ _ _⟩ ⟨b1, b2, by show a ≤ 1000; omega⟩ rfl

