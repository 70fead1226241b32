/-! the course of a program, and a step of the model -/
def upL (top a ten st : Nat) : Nat → Nat → List (Nat × Nat × Nat)
  | 0, _ => []
  | f + 1, h => if h < top then (min (h + a) top, ten, st) :: upL top a ten st f (min (h + a) top) else []
def dnL (a ten st : Nat) : Nat → Nat → List (Nat × Nat × Nat)
  | 0, _ => []
  | f + 1, h => if 0 < h then (h - a, ten, st) :: dnL a ten st f (h - a) else []
def stL (top : Nat) (q : Nat × Nat) (s : Nat × Nat × Nat) : List (Nat × Nat × Nat) := if q.1 = 0 then List.replicate q.2 s else if q.1 = 1 then upL top q.2 s.2.1 s.2.2 top s.1 else if q.1 = 2 then dnL q.2 s.2.1 s.2.2 s.1 s.1 else []
def stE (top : Nat) (q : Nat × Nat) (s : Nat × Nat × Nat) : Nat × Nat × Nat := if q.1 = 0 then s else if q.1 = 1 then (max s.1 top, s.2) else if q.1 = 2 then (0, s.2) else if q.1 = 3 then (s.1, q.2, s.2.2) else (s.1, s.2.1, q.2)
def crsL (top : Nat) : List (Nat × Nat) → Nat × Nat × Nat → List (Nat × Nat × Nat)
  | [], _ => []
  | q :: r, s => stL top q s ++ crsL top r (stE top q s)
def runT (fu e lim rnd z : Nat) : List (Nat × Nat × Nat) → (Nat → Int32) → Nat × (Nat → Int32)
  | [], N => (0, N)
  | q :: l, N => if (turnN fu e lim rnd z q N).1 = 0 then runT fu e lim rnd z l (turnN fu e lim rnd z q N).2 else turnN fu e lim rnd z q N
theorem runT_cons (fu e lim rnd z : Nat) (q : Nat × Nat × Nat) (l : List (Nat × Nat × Nat)) (N : Nat → Int32) : runT fu e lim rnd z (q :: l) N = if (turnN fu e lim rnd z q N).1 = 0 then runT fu e lim rnd z l (turnN fu e lim rnd z q N).2 else turnN fu e lim rnd z q N := rfl
theorem runT_app (fu e lim rnd z : Nat) (l1 l2 : List (Nat × Nat × Nat)) : ∀ N, runT fu e lim rnd z (l1 ++ l2) N = if (runT fu e lim rnd z l1 N).1 = 0 then runT fu e lim rnd z l2 (runT fu e lim rnd z l1 N).2 else runT fu e lim rnd z l1 N := by
  induction l1 with
  | nil => intro N; exact (if_pos rfl).symm
  | cons q l ih =>
    intro N
    rw [List.cons_append, runT_cons, runT_cons]
    by_cases c : (turnN fu e lim rnd z q N).1 = 0
    · rw [if_pos c, if_pos c, ih]
    · rw [if_neg c, if_neg c, if_neg c]
def TLe (l : List (Nat × Nat × Nat)) : Prop := ∀ q ∈ l, q.1 ≤ 1000 ∧ q.2.1 ≤ 1000 ∧ q.2.2 ≤ 1000
theorem run_inv {fu e z lim rnd th : Nat} (he1 : 212 ≤ e) (he2 : e ≤ 532) (hz : z ≤ 25) (hl : lim ≤ 5000) (hr : rnd ≤ 1000) : ∀ (l : List (Nat × Nat × Nat)) (N : Nat → Int32) (c : Nat), TLe l → TI N e z lim c th → meas N c < fu → ∃ c', TI (runT fu e lim rnd z l N).2 e z lim c' th ∧ TFr e N (runT fu e lim rnd z l N).2 ∧ meas (runT fu e lim rnd z l N).2 c' ≤ meas N c ∧ (runT fu e lim rnd z l N).1 ≤ 2 := by
  intro l
  induction l with
  | nil => intro N c _ ti _; exact ⟨c, ti, TFr.refl _ _, Nat.le_refl _, (by decide : 0 ≤ 2)⟩
  | cons q l ih =>
    intro N c tl ti hm
    rw [runT_cons]
    have q1 := tl q (List.mem_cons_self ..)
    obtain ⟨c2, a1, a2, a3, a4⟩ := turn_inv (fu := fu) (q := q) he1 he2 hz hl hr q1.2.1 q1.2.2 ti hm
    by_cases g : (turnN fu e lim rnd z q N).1 = 0
    · rw [if_pos g]
      obtain ⟨c3, b1, b2, b3, b4⟩ := ih _ c2 (fun x hx => tl x (List.mem_cons_of_mem _ hx)) a1 (by omega)
      exact ⟨c3, b1, a2.trans b2, by omega, b4⟩
    · rw [if_neg g]; exact ⟨c2, a1, a2, a3, a4⟩
/-- the numbers of the pallet at hand -/
def RG (F : Nat → Int32) (e z rnd lim top : Nat) : Prop := F 9 = nI e ∧ F 12 = nI z ∧ F 10 = nI rnd ∧ F 11 = nI lim ∧ F 13 = nI top
def RGb (e z rnd lim top : Nat) : Prop := 212 ≤ e ∧ e ≤ 532 ∧ z ≤ 25 ∧ rnd ≤ 1000 ∧ lim ≤ 5000 ∧ top ≤ 1000
def RS (F : Nat → Int32) (s : Nat × Nat × Nat) : Prop := F 14 = nI s.1 ∧ F 15 = nI s.2.1 ∧ F 16 = nI s.2.2
theorem t9_turnsT {ω : Om} {h : AH} {m : Nat} {F N S A T R : Nat → Int32} {Q : Option Value → AH → Prop} (hw : ω.2.2.2.1 = true) (ml : ML h m) (hs1 : gs h (m + 1) = some (10, 596)) {fu e z rnd lim top th c : Nat} {s : Nat × Nat × Nat} (rg : RG F e z rnd lim top) (rb : RGb e z rnd lim top) (rs : RS F s) (sl : s.1 ≤ 1000 ∧ s.2.1 ≤ 1000 ∧ s.2.2 ≤ 1000) (ti : TI N e z lim c th) (hm : meas N c < fu) (hq : Q (some (.int (nI (turnN fu e lim rnd z s N).1))) (hM h m F (turnN fu e lim rnd z s N).2 S A T R)) : Ex ω M9_turns 0 [some (.ref m), none, none, none, none] [] (hM h m F N S A T R) 0 0 Q :=
  t9_turns hw ml hs1 rg.1 rb.1 rb.2.1 rg.2.1 rb.2.2.1 rs.1 sl.1 rg.2.2.1 rb.2.2.2.1 rg.2.2.2.1 rb.2.2.2.2.1 rs.2.1 sl.2.1 rs.2.2 sl.2.2 ti.2.2.1 ti.2.2.2.1 ti.1 ti.2.1 hm hq
def DQ (h : AH) (m : Nat) (F S A T R : Nat → Int32) (Q : Option Value → AH → Prop) (s' : Nat × Nat × Nat) (r : Nat × (Nat → Int32)) : Prop := ∀ F' : Nat → Int32, (r.1 = 0 → RS F' s') → (∀ j, j ≠ 14 → j ≠ 15 → j ≠ 16 → F' j = F j) → Q (some (.int (nI r.1))) (hM h m F' r.2 S A T R)
theorem t9_does {ω : Om} {h : AH} {m : Nat} {F N S A T R : Nat → Int32} {Q : Option Value → AH → Prop} (hw : ω.2.2.2.1 = true) (ml : ML h m) (hs1 : gs h (m + 1) = some (10, 596)) {fu e z rnd lim top th c : Nat} {s : Nat × Nat × Nat} {q : Nat × Nat} (rg : RG F e z rnd lim top) (rb : RGb e z rnd lim top) (rs : RS F s) (sl : s.1 ≤ 1000 ∧ s.2.1 ≤ 1000 ∧ s.2.2 ≤ 1000) (q5 : q.1 < 5) (qa : q.2 ≤ 300) (qp : q.1 < 3 → 1 ≤ q.2) (ti : TI N e z lim c th) (hm : meas N c < fu) (hq : DQ h m F S A T R Q (stE top q s) (runT fu e lim rnd z (stL top q s) N)) : Ex ω M9_does 0 [some (.ref m), some (.int (nI q.1)), some (.int (nI q.2)), none, none] [] (hM h m F N S A T R) 0 0 Q := by
  obtain ⟨k, a⟩ := q
  obtain ⟨y, ten, st⟩ := s
  obtain ⟨r14, r15, r16⟩ := rs
  dsimp only at q5 qa qp sl r14 r15 r16 ⊢
  refine B9_does_0 hw (fun c0 => ?_) (fun c0 => ?_) (fun c0 => ?_) (fun c0 => ?_) (fun c0 => ?_)
  · rw [nI_eq (by omega) (by omega)] at c0
    subst c0
    replace hq : DQ h m F S A T R Q (y, ten, st) (runT fu e lim rnd z (List.replicate a (y, ten, st)) N) := hq
    refine B9_does_32 hw ?_
    have lp : ∀ (d i : Nat) (N : Nat → Int32) (c : Nat), i + d = a → TI N e z lim c th → meas N c < fu → DQ h m F S A T R Q (y, ten, st) (runT fu e lim rnd z (List.replicate d (y, ten, st)) N) → Ex ω M9_does 35 [some (.ref m), none, some (.int (nI a)), some (.int (nI 0)), some (.int (nI i))] [] (hM h m F N S A T R) 0 0 Q := by
      intro d
      induction d with
      | zero =>
        intro i N c hi ti hm hq
        refine B9_does_35 hw (fun _ => ?_) (fun c => absurd (nI_le (by omega) (by omega)) c)
        exact B9_does_56 hw (B9_does_153 hw (hq F (fun _ => ⟨r14, r15, r16⟩) (fun _ _ _ _ => rfl)))
      | succ d ih =>
        intro i N c hi ti hm hq
        rw [List.replicate_succ, runT_cons] at hq
        obtain ⟨c2, a1, a2, a3, a4⟩ := turn_inv (fu := fu) (q := (y, ten, st)) rb.1 rb.2.1 rb.2.2.1 rb.2.2.2.2.1 rb.2.2.2.1 sl.2.1 sl.2.2 ti hm
        refine B9_does_35 hw (fun c => absurd c (nI_ge (by omega) (by omega))) (fun _ => ?_)
        refine B9_does_41 hw (fun c => absurd rfl c) (fun _ => ?_)
        refine B9_does_45 hw ml.1 (t9_turnsT hw ml hs1 (s := (y, ten, st)) rg rb ⟨r14, r15, r16⟩ sl ti hm ?_)
        refine B9_does_49 hw ?_
        rw [nI_add]
        by_cases g : (turnN fu e lim rnd z (y, ten, st) N).1 = 0
        · rw [if_pos g] at hq
          rw [g]
          exact ih (i + 1) _ c2 (by omega) a1 (by omega) hq
        · rw [if_neg g] at hq
          have fin : Ex ω M9_does 56 [some (.ref m), none, some (.int (nI a)), some (.int (nI (turnN fu e lim rnd z (y, ten, st) N).1)), some (.int (nI (i + 1)))] [] (hM h m F (turnN fu e lim rnd z (y, ten, st) N).2 S A T R) 0 0 Q := B9_does_56 hw (B9_does_153 hw (hq F (fun g2 => absurd g2 g) (fun _ _ _ _ => rfl)))
          refine B9_does_35 hw (fun _ => fin) (fun _ => ?_)
          refine B9_does_41 hw (fun _ => fin) (fun c => ?_)
          rw [show (0 : Int32) = nI 0 from rfl, nI_eq (by omega) (by omega)] at c
          exact absurd c g
    exact lp a 0 N c (by omega) ti hm hq
  · rw [nI_eq (by omega) (by omega)] at c0
    subst c0
    replace hq : DQ h m F S A T R Q (max y top, ten, st) (runT fu e lim rnd z (upL top a ten st top y) N) := hq
    have qp' : 1 ≤ a := qp (by omega)
    have lp : ∀ (f y : Nat) (F' N : Nat → Int32) (c : Nat), RS F' (y, ten, st) → y ≤ 1000 → (∀ j, j ≠ 14 → j ≠ 15 → j ≠ 16 → F' j = F j) → top - y ≤ f → TI N e z lim c th → meas N c < fu → DQ h m F S A T R Q (max y top, ten, st) (runT fu e lim rnd z (upL top a ten st f y) N) → Ex ω M9_does 59 [some (.ref m), none, some (.int (nI a)), some (.int (nI 0)), none] [] (hM h m F' N S A T R) 0 0 Q := by
      intro f
      induction f with
      | zero =>
        intro y F' N c rs hy hF hf ti hm hq
        refine B9_does_59 hw ml.1 (fun _ => B9_does_153 hw (hq F' (fun _ => ?_) hF)) (fun c => ?_)
        · rw [Nat.max_eq_left (by omega)]; exact rs
        · simp (disch := omega) only [gr_hM, gs_hM, ml.2.1, ml.2.2.1, ml.2.2.2.1, ml.2.2.2.2.1, ml.2.2.2.2.2, hM_F, hM_N, hM_S, hM_A, hM_T, hM_R, hM_sF, hM_sN, hM_sS, hM_sA, hM_sT, hM_sR, pk_mul, nI_add, nI_clamp, upd_eq, upd_ne] at c
          rw [rs.1, hF 13 (by omega) (by omega) (by omega), rg.2.2.2.2] at c
          have := rb.2.2.2.2.2
          exact absurd (nI_le (by omega) (by omega)) c
      | succ f ih =>
        intro y F' N c rs hy hF hf ti hm hq
        have tb := rb.2.2.2.2.2
        have e13 : F' 13 = nI top := (hF 13 (by omega) (by omega) (by omega)).trans rg.2.2.2.2
        replace hq : DQ h m F S A T R Q (max y top, ten, st) (runT fu e lim rnd z (if y < top then (min (y + a) top, ten, st) :: upL top a ten st f (min (y + a) top) else []) N) := hq
        refine B9_does_59 hw ml.1 (fun c1 => ?_) (fun c1 => ?_)
        · simp (disch := omega) only [gr_hM, gs_hM, ml.2.1, ml.2.2.1, ml.2.2.2.1, ml.2.2.2.2.1, ml.2.2.2.2.2, hM_F, hM_N, hM_S, hM_A, hM_T, hM_R, hM_sF, hM_sN, hM_sS, hM_sA, hM_sT, hM_sR, pk_mul, nI_add, nI_clamp, upd_eq, upd_ne] at c1
          rw [rs.1, e13, nI_leI (by omega) (by omega)] at c1
          dsimp only at c1
          rw [if_neg (by omega)] at hq
          refine B9_does_153 hw (hq F' (fun _ => ?_) hF)
          rw [Nat.max_eq_left (by omega)]; exact rs
        · simp (disch := omega) only [gr_hM, gs_hM, ml.2.1, ml.2.2.1, ml.2.2.2.1, ml.2.2.2.2.1, ml.2.2.2.2.2, hM_F, hM_N, hM_S, hM_A, hM_T, hM_R, hM_sF, hM_sN, hM_sS, hM_sA, hM_sT, hM_sR, pk_mul, nI_add, nI_clamp, upd_eq, upd_ne] at c1
          rw [rs.1, e13, nI_leI (by omega) (by omega)] at c1
          dsimp only at c1
          rw [if_pos (by omega), runT_cons] at hq
          refine B9_does_70 hw (fun c => absurd rfl c) (fun _ => ?_)
          refine B9_does_74 hw ml.1 ?_
          simp (disch := omega) only [gr_hM, gs_hM, ml.2.1, ml.2.2.1, ml.2.2.2.1, ml.2.2.2.2.1, ml.2.2.2.2.2, hM_F, hM_N, hM_S, hM_A, hM_T, hM_R, hM_sF, hM_sN, hM_sS, hM_sA, hM_sT, hM_sR, pk_mul, nI_add, nI_clamp, upd_eq, upd_ne, rs.1, e13]
          refine t9_lesser hw ?_
          rw [lesser_nI (by omega) (by omega)]
          refine B9_does_88 hw ml.1 ml.1 ?_
          simp (disch := omega) only [gr_hM, gs_hM, ml.2.1, ml.2.2.1, ml.2.2.2.1, ml.2.2.2.2.1, ml.2.2.2.2.2, hM_F, hM_N, hM_S, hM_A, hM_T, hM_R, hM_sF, hM_sN, hM_sS, hM_sA, hM_sT, hM_sR, pk_mul, nI_add, nI_clamp, upd_eq, upd_ne]
          have rs' : RS (upd F' 14 (nI (min (y + a) top))) (min (y + a) top, ten, st) := ⟨upd_eq _ _ _, (upd_ne _ _ (by omega)).trans rs.2.1, (upd_ne _ _ (by omega)).trans rs.2.2⟩
          have hF' : ∀ j, j ≠ 14 → j ≠ 15 → j ≠ 16 → upd F' 14 (nI (min (y + a) top)) j = F j := fun j j1 j2 j3 => (upd_ne _ _ j1).trans (hF j j1 j2 j3)
          have rg' : RG (upd F' 14 (nI (min (y + a) top))) e z rnd lim top := ⟨(hF' 9 (by omega) (by omega) (by omega)).trans rg.1, (hF' 12 (by omega) (by omega) (by omega)).trans rg.2.1, (hF' 10 (by omega) (by omega) (by omega)).trans rg.2.2.1, (hF' 11 (by omega) (by omega) (by omega)).trans rg.2.2.2.1, (hF' 13 (by omega) (by omega) (by omega)).trans rg.2.2.2.2⟩
          have sl' : min (y + a) top ≤ 1000 ∧ ten ≤ 1000 ∧ st ≤ 1000 := ⟨by omega, sl.2.1, sl.2.2⟩
          obtain ⟨c2, a1, a2, a3, a4⟩ := turn_inv (fu := fu) (q := (min (y + a) top, ten, st)) rb.1 rb.2.1 rb.2.2.1 rb.2.2.2.2.1 rb.2.2.2.1 sl.2.1 sl.2.2 ti hm
          refine t9_turnsT hw ml hs1 rg' rb rs' sl' ti hm ?_
          refine B9_does_95 hw ?_
          by_cases g : (turnN fu e lim rnd z (min (y + a) top, ten, st) N).1 = 0
          · rw [if_pos g] at hq
            rw [g]
            refine ih _ _ _ c2 rs' (by omega) hF' (by omega) a1 (by omega) ?_
            rw [show max (min (y + a) top) top = max y top from by omega]
            exact hq
          · rw [if_neg g] at hq
            have fin : Ex ω M9_does 153 [some (.ref m), none, some (.int (nI a)), some (.int (nI (turnN fu e lim rnd z (min (y + a) top, ten, st) N).1)), none] [] (hM h m (upd F' 14 (nI (min (y + a) top))) (turnN fu e lim rnd z (min (y + a) top, ten, st) N).2 S A T R) 0 0 Q := B9_does_153 hw (hq _ (fun g2 => absurd g2 g) hF')
            refine B9_does_59 hw ml.1 (fun _ => fin) (fun _ => ?_)
            refine B9_does_70 hw (fun _ => fin) (fun c => ?_)
            rw [show (0 : Int32) = nI 0 from rfl, nI_eq (by omega) (by omega)] at c
            exact absurd c g
    exact x_dr1 (lp top y F N c ⟨r14, r15, r16⟩ sl.1 (fun _ _ _ _ => rfl) (by omega) ti hm hq)
  · rw [nI_eq (by omega) (by omega)] at c0
    subst c0
    replace hq : DQ h m F S A T R Q (0, ten, st) (runT fu e lim rnd z (dnL a ten st y y) N) := hq
    have qp' : 1 ≤ a := qp (by omega)
    have lp : ∀ (f y : Nat) (F' N : Nat → Int32) (c : Nat), RS F' (y, ten, st) → y ≤ 1000 → (∀ j, j ≠ 14 → j ≠ 15 → j ≠ 16 → F' j = F j) → y ≤ f → TI N e z lim c th → meas N c < fu → DQ h m F S A T R Q (0, ten, st) (runT fu e lim rnd z (dnL a ten st f y) N) → Ex ω M9_does 99 [some (.ref m), none, some (.int (nI a)), some (.int (nI 0)), none] [] (hM h m F' N S A T R) 0 0 Q := by
      intro f
      induction f with
      | zero =>
        intro y F' N c rs hy hF hf ti hm hq
        have y0 : y = 0 := by omega
        subst y0
        refine B9_does_99 hw ml.1 (fun _ => B9_does_153 hw (hq F' (fun _ => rs) hF)) (fun c => ?_)
        simp (disch := omega) only [gr_hM, gs_hM, ml.2.1, ml.2.2.1, ml.2.2.2.1, ml.2.2.2.2.1, ml.2.2.2.2.2, hM_F, hM_N, hM_S, hM_A, hM_T, hM_R, hM_sF, hM_sN, hM_sS, hM_sA, hM_sT, hM_sR, pk_mul, nI_add, nI_clamp, upd_eq, upd_ne] at c
        rw [rs.1] at c
        exact absurd (show nI 0 ≤ 0 from by decide) c
      | succ f ih =>
        intro y F' N c rs hy hF hf ti hm hq
        replace hq : DQ h m F S A T R Q (0, ten, st) (runT fu e lim rnd z (if 0 < y then (y - a, ten, st) :: dnL a ten st f (y - a) else []) N) := hq
        refine B9_does_99 hw ml.1 (fun c1 => ?_) (fun c1 => ?_)
        · simp (disch := omega) only [gr_hM, gs_hM, ml.2.1, ml.2.2.1, ml.2.2.2.1, ml.2.2.2.2.1, ml.2.2.2.2.2, hM_F, hM_N, hM_S, hM_A, hM_T, hM_R, hM_sF, hM_sN, hM_sS, hM_sA, hM_sT, hM_sR, pk_mul, nI_add, nI_clamp, upd_eq, upd_ne] at c1
          rw [rs.1, show (0 : Int32) = nI 0 from rfl, nI_leI (by omega) (by omega)] at c1
          dsimp only at c1
          rw [if_neg (by omega)] at hq
          have y0 : y = 0 := by omega
          subst y0
          exact B9_does_153 hw (hq F' (fun _ => rs) hF)
        · simp (disch := omega) only [gr_hM, gs_hM, ml.2.1, ml.2.2.1, ml.2.2.2.1, ml.2.2.2.2.1, ml.2.2.2.2.2, hM_F, hM_N, hM_S, hM_A, hM_T, hM_R, hM_sF, hM_sN, hM_sS, hM_sA, hM_sT, hM_sR, pk_mul, nI_add, nI_clamp, upd_eq, upd_ne] at c1
          rw [rs.1, show (0 : Int32) = nI 0 from rfl, nI_leI (by omega) (by omega)] at c1
          dsimp only at c1
          rw [if_pos (by omega), runT_cons] at hq
          refine B9_does_106 hw (fun c => absurd rfl c) (fun _ => ?_)
          have rs' : RS (upd F' 14 (nI (y - a))) (y - a, ten, st) := ⟨upd_eq _ _ _, (upd_ne _ _ (by omega)).trans rs.2.1, (upd_ne _ _ (by omega)).trans rs.2.2⟩
          have hF' : ∀ j, j ≠ 14 → j ≠ 15 → j ≠ 16 → upd F' 14 (nI (y - a)) j = F j := fun j j1 j2 j3 => (upd_ne _ _ j1).trans (hF j j1 j2 j3)
          have rg' : RG (upd F' 14 (nI (y - a))) e z rnd lim top := ⟨(hF' 9 (by omega) (by omega) (by omega)).trans rg.1, (hF' 12 (by omega) (by omega) (by omega)).trans rg.2.1, (hF' 10 (by omega) (by omega) (by omega)).trans rg.2.2.1, (hF' 11 (by omega) (by omega) (by omega)).trans rg.2.2.2.1, (hF' 13 (by omega) (by omega) (by omega)).trans rg.2.2.2.2⟩
          have sl' : y - a ≤ 1000 ∧ ten ≤ 1000 ∧ st ≤ 1000 := ⟨by omega, sl.2.1, sl.2.2⟩
          obtain ⟨c2, a1, a2, a3, a4⟩ := turn_inv (fu := fu) (q := (y - a, ten, st)) rb.1 rb.2.1 rb.2.2.1 rb.2.2.2.2.1 rb.2.2.2.1 sl.2.1 sl.2.2 ti hm
          have go : Ex ω M9_does 129 [some (.ref m), none, some (.int (nI a)), none, none] [.int (nI (y - a)), .ref m] (hM h m F' N S A T R) 0 0 Q := by
            refine B9_does_129 hw ml.1 ml.1 ?_
            simp (disch := omega) only [gr_hM, gs_hM, ml.2.1, ml.2.2.1, ml.2.2.2.1, ml.2.2.2.2.1, ml.2.2.2.2.2, hM_F, hM_N, hM_S, hM_A, hM_T, hM_R, hM_sF, hM_sN, hM_sS, hM_sA, hM_sT, hM_sR, pk_mul, nI_add, nI_clamp, upd_eq, upd_ne]
            refine t9_turnsT hw ml hs1 rg' rb rs' sl' ti hm ?_
            refine B9_does_136 hw ?_
            by_cases g : (turnN fu e lim rnd z (y - a, ten, st) N).1 = 0
            · rw [if_pos g] at hq
              rw [g]
              exact ih _ _ _ c2 rs' (by omega) hF' (by omega) a1 (by omega) hq
            · rw [if_neg g] at hq
              have fin : Ex ω M9_does 153 [some (.ref m), none, some (.int (nI a)), some (.int (nI (turnN fu e lim rnd z (y - a, ten, st) N).1)), none] [] (hM h m (upd F' 14 (nI (y - a))) (turnN fu e lim rnd z (y - a, ten, st) N).2 S A T R) 0 0 Q := B9_does_153 hw (hq _ (fun g2 => absurd g2 g) hF')
              refine B9_does_99 hw ml.1 (fun _ => fin) (fun _ => ?_)
              refine B9_does_106 hw (fun _ => fin) (fun c => ?_)
              rw [show (0 : Int32) = nI 0 from rfl, nI_eq (by omega) (by omega)] at c
              exact absurd c g
          refine B9_does_110 hw ml.1 (fun c3 => ?_) (fun c3 => ?_)
          · simp (disch := omega) only [gr_hM, gs_hM, ml.2.1, ml.2.2.1, ml.2.2.2.1, ml.2.2.2.2.1, ml.2.2.2.2.2, hM_F, hM_N, hM_S, hM_A, hM_T, hM_R, hM_sF, hM_sN, hM_sS, hM_sA, hM_sT, hM_sR, pk_mul, nI_add, nI_clamp, upd_eq, upd_ne, rs.1] at c3
            rw [nI_leI (by omega) (by omega)] at c3
            rw [show y - a = 0 from by omega] at go
            exact B9_does_128 hw go
          · simp (disch := omega) only [gr_hM, gs_hM, ml.2.1, ml.2.2.1, ml.2.2.2.1, ml.2.2.2.2.1, ml.2.2.2.2.2, hM_F, hM_N, hM_S, hM_A, hM_T, hM_R, hM_sF, hM_sN, hM_sS, hM_sA, hM_sT, hM_sR, pk_mul, nI_add, nI_clamp, upd_eq, upd_ne, rs.1] at c3
            rw [nI_leI (by omega) (by omega)] at c3
            refine B9_does_119 hw ml.1 ?_
            simp (disch := omega) only [gr_hM, gs_hM, ml.2.1, ml.2.2.1, ml.2.2.2.1, ml.2.2.2.2.1, ml.2.2.2.2.2, hM_F, hM_N, hM_S, hM_A, hM_T, hM_R, hM_sF, hM_sN, hM_sS, hM_sA, hM_sT, hM_sR, pk_mul, nI_add, nI_clamp, upd_eq, upd_ne, rs.1]
            rw [pk_sub (by omega)]
            exact go
    exact x_dr1 (lp y y F N c ⟨r14, r15, r16⟩ sl.1 (fun _ _ _ _ => rfl) (by omega) ti hm hq)
  · rw [nI_eq (by omega) (by omega)] at c0
    subst c0
    replace hq : DQ h m F S A T R Q (y, a, st) (0, N) := hq
    refine B9_does_140 hw ml.1 ?_
    simp (disch := omega) only [gr_hM, gs_hM, ml.2.1, ml.2.2.1, ml.2.2.2.1, ml.2.2.2.2.1, ml.2.2.2.2.2, hM_F, hM_N, hM_S, hM_A, hM_T, hM_R, hM_sF, hM_sN, hM_sS, hM_sA, hM_sT, hM_sR, pk_mul, nI_add, nI_clamp, upd_eq, upd_ne]
    exact B9_does_153 hw (hq _ (fun _ => ⟨(upd_ne _ _ (by omega)).trans r14, upd_eq _ _ _, (upd_ne _ _ (by omega)).trans r16⟩) (fun j j1 j2 j3 => upd_ne _ _ j2))
  · have c4 : k = 4 := by
      by_cases c5 : k ≤ 3
      · exact absurd ⟨by rw [show (0 : Int32) = nI 0 from rfl, nI_leI (by omega) (by omega)]; omega, by rw [nI_leI (by omega) (by omega)]; omega⟩ c0
      · omega
    subst c4
    replace hq : DQ h m F S A T R Q (y, ten, a) (0, N) := hq
    refine B9_does_148 hw ml.1 ?_
    simp (disch := omega) only [gr_hM, gs_hM, ml.2.1, ml.2.2.1, ml.2.2.2.1, ml.2.2.2.2.1, ml.2.2.2.2.2, hM_F, hM_N, hM_S, hM_A, hM_T, hM_R, hM_sF, hM_sN, hM_sS, hM_sA, hM_sT, hM_sR, pk_mul, nI_add, nI_clamp, upd_eq, upd_ne]
    exact B9_does_153 hw (hq _ (fun _ => ⟨(upd_ne _ _ (by omega)).trans r14, (upd_ne _ _ (by omega)).trans r15, upd_eq _ _ _⟩) (fun j j1 j2 j3 => upd_ne _ _ j3))
