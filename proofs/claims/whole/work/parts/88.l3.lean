/-! each call on both: the same answer, and the two still stand for the same -/
theorem CW.far {h h' : AH} {B len K : Nat} {N : Nat → Int32} {H : List (Nat → Int32)} {T : Nat → Int32} (c : CW h B N H T len K) (g : gs h' = gs h) (e : ∀ b, b < B + 324 → gi h' b = gi h b ∧ gr h' b = gr h b ∧ gl h' b = gl h b) : CW h' B N H T len K := by
  obtain ⟨⟨⟨s1, s2, s3, s4, s5, s6⟩, rr, t, p, a, b, cc, dd⟩, b2, d, tx⟩ := c
  refine ⟨⟨⟨by rw [g]; exact s1, by rw [g]; exact s2, by rw [g]; exact s3, by rw [g]; exact s4, by rw [g]; exact s5, by rw [g]; exact s6⟩, by rw [(e B (by omega)).2.1]; exact rr, by rw [(e _ (by omega)).2.1]; exact t, O3_frm p g (e _ (by omega)).2.1, LayS_gr a g (fun q h1 h2 => (e q (by omega)).2.1), LayS_gr b g (fun q h1 h2 => (e q (by omega)).2.1), fun j hj => LayS_gr (cc j hj) g (fun q h1 h2 => (e q (by omega)).2.1), by rw [(e _ (by omega)).2.1]; exact dd⟩, b2.at a (fun q h1 h2 => e q (by omega)), ⟨by rw [(e B (by omega)).1]; exact d.1, d.2.1, fun i N2 hi => ?_⟩, tx.at (e _ (by omega)).1 (e _ (by omega)).1⟩
  have il := (List.getElem?_eq_some_iff.mp hi).1
  have h4 := d.2.1
  obtain ⟨j, hj, ej⟩ := dd.1 i (by omega)
  rw [(e (B + 105) (by omega)).2.1]
  refine (d.2.2 i N2 hi).at (x := gr h (B + 105) i) (h' := h') ?_ (fun q h1 h2 => e q (by omega))
  rw [ej]
  exact cc j hj
def LI (B q : Nat) (h : AH) : Prop := ML h (B + 324) ∧ gs h (B + 324 + 1) = some (10, 596) ∧ Z596 (gi h (B + 324 + 3)) ∧ ∃ st len : Nat, st ≤ 4 ∧ gi h (B + 324) 2 = nI st ∧ gi h (B + 324) 5 = nI len ∧ CW h B (gi h (B + 324 + 1)) (MH (gi h (B + 324 + 2)) st) (gi h (B + 324 + 4)) len q
theorem LI_mk {h1 : AH} {B q st len : Nat} {F N S A T R : Nat → Int32} (ml : ML h1 (B + 324)) (hs : gs h1 (B + 324 + 1) = some (10, 596)) (zA : Z596 A) (hst : st ≤ 4) (f2 : F 2 = nI st) (f5 : F 5 = nI len) (cw : CW h1 B N (MH S st) T len q) : LI B q (hM h1 (B + 324) F N S A T R) := by
  refine ⟨ml, hs, by rw [hM_A]; exact zA, st, len, hst, by rw [hM_F]; exact f2, by rw [hM_F]; exact f5, ?_⟩
  rw [hM_N, hM_S, hM_T]
  exact cw.far rfl (fun b hb => ⟨hM_o _ _ _ _ _ _ _ _ (by omega), rfl, rfl⟩)
/-- after the class's call: the model's comes to the same answer -/
def Q9 (ω : Om) (μ : MR) (L9 : List (Option Value)) (B q : Nat) : Option Value → AH → Prop := fun v h1 => ∃ y : Int32, v = some (.int y) ∧ gs h1 (B + 324) = some (9, 17) ∧ Ex ω μ 0 L9 [] h1 0 0 (fun v2 h2 => v2 = some (.int y) ∧ LI B (q + 1) h2)
theorem mid_eq {h h1 : AH} {B : Nat} (f : Frm B (B + 324) h h1) : h1 = hM h1 (B + 324) (gi h (B + 324)) (gi h (B + 324 + 1)) (gi h (B + 324 + 2)) (gi h (B + 324 + 3)) (gi h (B + 324 + 4)) (gi h (B + 324 + 5)) := by
  rw [← (f.2 (B + 324) (by omega)).1, ← (f.2 (B + 324 + 1) (by omega)).1, ← (f.2 (B + 324 + 2) (by omega)).1, ← (f.2 (B + 324 + 3) (by omega)).1, ← (f.2 (B + 324 + 4) (by omega)).1, ← (f.2 (B + 324 + 5) (by omega)).1, hM_self]
theorem ML_frm {h h1 : AH} {B : Nat} (ml : ML h (B + 324)) (f : Frm B (B + 324) h h1) : ML h1 (B + 324) := by
  obtain ⟨a, b⟩ := ml
  exact ⟨by rw [f.1]; exact a, by rw [(f.2 (B + 324) (by omega)).2.1]; exact b⟩
theorem Q9_mk {ω : Om} {μ : MR} {L9 : List (Option Value)} {B q : Nat} {h h1 : AH} {y : Int32} (ml : ML h (B + 324)) (f : Frm B (B + 324) h h1) (k : ML h1 (B + 324) → Ex ω μ 0 L9 [] (hM h1 (B + 324) (gi h (B + 324)) (gi h (B + 324 + 1)) (gi h (B + 324 + 2)) (gi h (B + 324 + 3)) (gi h (B + 324 + 4)) (gi h (B + 324 + 5))) 0 0 (fun v2 h2 => v2 = some (.int y) ∧ LI B (q + 1) h2)) : Q9 ω μ L9 B q (some (.int y)) h1 := by
  have ml1 := ML_frm ml f
  refine ⟨y, rfl, ml1.1, ?_⟩
  have e := mid_eq f
  rw [e]
  exact k ml1
section SEM
variable {ω : Om} {h : AH} {B q : Nat}
theorem sem_addRoll (hw : ω.2.2.2.1 = true) (li : LI B q h) {a b : Int32} : Ex ω M8_addRoll 0 [some (.ref B), some (.int a), some (.int b)] [] h 0 0 (Q9 ω M9_addRoll [some (.ref (B + 324)), some (.int a), some (.int b), none, none] B q) := by
  obtain ⟨ml, hs, zA, st, len, hst, f2, f5, cw⟩ := li
  obtain ⟨c, w, d, nx, lo, hi, acc, vs, iv⟩ := cw.2.1
  have zN := iv.2.2.2.2.2.2.2.2.2.2
  have c6 := iv.1.2.1
  have cwm := cw.mono (Nat.le_succ q)
  refine t8_addRoll hw cw (fun n1 => Q9_mk ml (Frm.refl _ _ _) (fun ml1 => ?_)) (fun c1 n0 ok e6 => Q9_mk ml (Frm.refl _ _ _) (fun ml1 => ?_)) (fun c1 n0 ok l6 h1 f cw1 => Q9_mk ml f (fun ml1 => ?_))
  · exact t9_addRoll hw ml1 iv.1.1 c6 hst f2 zN (fun _ => ⟨rfl, LI_mk ml1 hs zA hst f2 f5 cwm⟩) (fun ok => absurd ok n1) (fun ok => absurd ok n1)
  · have ec : c1 = c := (nI_eq (by omega) (by omega)).mp (n0.symm.trans iv.1.1)
    exact t9_addRoll hw ml1 iv.1.1 c6 hst f2 zN (fun n1 => absurd ok n1) (fun _ _ => ⟨rfl, LI_mk ml1 hs zA hst f2 f5 cwm⟩) (fun _ l => by omega)
  · have ec : c1 = c := (nI_eq (by omega) (by omega)).mp (n0.symm.trans iv.1.1)
    subst ec
    exact t9_addRoll hw ml1 iv.1.1 c6 hst f2 zN (fun n1 => absurd ok n1) (fun _ e => by omega) (fun _ _ S' st' hst' hm => ⟨rfl, LI_mk ml1 (by rw [f.1]; exact hs) zA hst' (upd_eq _ _ _) (by rw [upd_ne _ _ (by omega)]; exact f5) (by rw [hm]; exact cw1.mono (Nat.le_succ q))⟩)
theorem rolls_wk {N : Nat → Int32} {c : Nat} (ri : RI N c) : ∀ i, i < c → ∃ wk, N (20 + 20 * i + 3) = nI wk ∧ wk ≤ 8 := fun i hi => by
  obtain ⟨len, wt, pos, wk, h0, hl, hl2, h1, hw1, hw2, h2, hp, h3, hk, _⟩ := ri.2.2 i hi
  exact ⟨wk, h3, hk⟩
theorem sem_weaken (hw : ω.2.2.2.1 = true) (li : LI B q h) {r p s : Int32} : Ex ω M8_weaken 0 [some (.ref B), some (.int r), some (.int p), some (.int s)] [] h 0 0 (Q9 ω M9_weaken [some (.ref (B + 324)), some (.int r), some (.int p), some (.int s), none, none] B q) := by
  obtain ⟨ml, hs, zA, st, len, hst, f2, f5, cw⟩ := li
  obtain ⟨c, w, d, nx, lo, hi, acc, vs, iv⟩ := cw.2.1
  have zN := iv.2.2.2.2.2.2.2.2.2.2
  have c6 := iv.1.2.1
  have cwm := cw.mono (Nat.le_succ q)
  have hwk := rolls_wk iv.1
  have ec : ∀ c1 : Nat, gi h (B + 324 + 1) 0 = nI c1 → c1 ≤ 6 → c1 = c := fun c1 n0 b => (nI_eq (by omega) (by omega)).mp (n0.symm.trans iv.1.1)
  have ei : ∀ i1 i2 : Nat, i1 < c → i2 < c → r = nI i1 → r = nI i2 → i2 = i1 := fun i1 i2 a b e1 e2 => (nI_eq (by omega) (by omega)).mp (e2.symm.trans e1)
  have ew : ∀ (i wk wk2 : Nat), i < c → gi h (B + 324 + 1) (20 + 20 * i + 3) = nI wk → gi h (B + 324 + 1) (20 + 20 * i + 3) = nI wk2 → wk ≤ 8 → wk2 ≤ 8 → wk2 = wk := fun i wk wk2 _ e1 e2 b1 b2 => (nI_eq (by omega) (by omega)).mp (e2.symm.trans e1)
  have w8 : ∀ (i wk : Nat), i < c → gi h (B + 324 + 1) (20 + 20 * i + 3) = nI wk → ∃ wk2, wk2 ≤ 8 ∧ nI wk2 = nI wk := fun i wk hi e => by
    obtain ⟨wk2, e2, b2⟩ := hwk i hi
    exact ⟨wk2, b2, e2.symm.trans e⟩
  refine t8_weaken hw cw (fun c1 n0 b1 na => Q9_mk ml (Frm.refl _ _ _) (fun ml1 => ?_)) (fun c1 i wk n0 b1 hi' er ek hk8 ar ha => Q9_mk ml (Frm.refl _ _ _) (fun ml1 => ?_)) (fun c1 i wk n0 b1 hi' er ek ar nh e8 => Q9_mk ml (Frm.refl _ _ _) (fun ml1 => ?_)) (fun c1 i wk n0 b1 hi' er ek ar nh l8 h1 f cw1 => Q9_mk ml f (fun ml1 => ?_))
  · obtain rfl := ec c1 n0 b1
    exact t9_weaken hw ml1 iv.1.1 c6 hst f2 zN hwk (fun _ => ⟨rfl, LI_mk ml1 hs zA hst f2 f5 cwm⟩) (fun i wk _ _ _ _ ar _ => absurd ar na) (fun i wk _ _ _ ar _ _ => absurd ar na) (fun i wk _ _ _ ar _ _ => absurd ar na)
  · obtain rfl := ec c1 n0 b1
    refine t9_weaken hw ml1 iv.1.1 c6 hst f2 zN hwk (fun na => absurd ar na) (fun _ _ _ _ _ _ _ _ => ⟨rfl, LI_mk ml1 hs zA hst f2 f5 cwm⟩) (fun i2 wk2 hi2 er2 ek2 _ nh2 e8 => ?_) (fun i2 wk2 hi2 er2 ek2 _ nh2 l8 => ?_)
    · obtain rfl := ei i i2 hi' hi2 er er2
      obtain rfl := ew i2 wk wk2 hi2 ek ek2 hk8 (by omega)
      exact absurd ha nh2
    · obtain rfl := ei i i2 hi' hi2 er er2
      obtain rfl := ew i2 wk wk2 hi2 ek ek2 hk8 (by omega)
      exact absurd ha nh2
  · obtain rfl := ec c1 n0 b1
    refine t9_weaken hw ml1 iv.1.1 c6 hst f2 zN hwk (fun na => absurd ar na) (fun i2 wk2 hi2 er2 ek2 b2 _ ha => ?_) (fun _ _ _ _ _ _ _ _ => ⟨rfl, LI_mk ml1 hs zA hst f2 f5 cwm⟩) (fun i2 wk2 hi2 er2 ek2 _ nh2 l8 => ?_)
    · obtain rfl := ei i i2 hi' hi2 er er2
      obtain rfl := ew i2 wk wk2 hi2 ek ek2 (by omega) b2
      exact absurd ha nh
    · obtain rfl := ei i i2 hi' hi2 er er2
      obtain rfl := ew i2 wk wk2 hi2 ek ek2 (by omega) (by omega)
      omega
  · obtain rfl := ec c1 n0 b1
    refine t9_weaken hw ml1 iv.1.1 c6 hst f2 zN hwk (fun na => absurd ar na) (fun i2 wk2 hi2 er2 ek2 b2 _ ha => ?_) (fun i2 wk2 hi2 er2 ek2 _ nh2 e8 => ?_) (fun i2 wk2 hi2 er2 ek2 _ nh2 l82 S' st' hst' hm => ?_)
    · obtain rfl := ei i i2 hi' hi2 er er2
      obtain rfl := ew i2 wk wk2 hi2 ek ek2 (by omega) b2
      exact absurd ha nh
    · obtain rfl := ei i i2 hi' hi2 er er2
      obtain rfl := ew i2 wk wk2 hi2 ek ek2 (by omega) (by omega)
      omega
    · obtain rfl := ei i i2 hi' hi2 er er2
      obtain rfl := ew i2 wk wk2 hi2 ek ek2 (by omega) (by omega)
      exact ⟨rfl, LI_mk ml1 (by rw [f.1]; exact hs) zA hst' (upd_eq _ _ _) (by rw [upd_ne _ _ (by omega)]; exact f5) (by rw [hm]; exact cw1.mono (Nat.le_succ q))⟩
theorem sem_roll (hw : ω.2.2.2.1 = true) (li : LI B q h) {r w : Int32} : Ex ω M8_roll 0 [some (.ref B), some (.int r), some (.int w)] [] h 0 0 (Q9 ω M9_roll [some (.ref (B + 324)), some (.int r), some (.int w), none, none] B q) := by
  obtain ⟨ml, hs, zA, st, len, hst, f2, f5, cw⟩ := li
  obtain ⟨c, w0, d, nx, lo, hi, acc, vs, iv⟩ := cw.2.1
  have c6 := iv.1.2.1
  have cwm := cw.mono (Nat.le_succ q)
  have hwk := rolls_wk iv.1
  have ec : ∀ c1 : Nat, gi h (B + 324 + 1) 0 = nI c1 → c1 ≤ 6 → c1 = c := fun c1 n0 b => (nI_eq (by omega) (by omega)).mp (n0.symm.trans iv.1.1)
  have ei : ∀ i1 i2 : Nat, i1 < c → i2 < c → r = nI i1 → r = nI i2 → i2 = i1 := fun i1 i2 a b e1 e2 => (nI_eq (by omega) (by omega)).mp (e2.symm.trans e1)
  have ej : ∀ j1 j2 : Nat, j1 ≤ 5 → j2 ≤ 5 → w = nI j1 → w = nI j2 → j2 = j1 := fun i1 i2 a b e1 e2 => (nI_eq (by omega) (by omega)).mp (e2.symm.trans e1)
  have ew : ∀ (i wk wk2 : Nat), gi h (B + 324 + 1) (20 + 20 * i + 3) = nI wk → gi h (B + 324 + 1) (20 + 20 * i + 3) = nI wk2 → wk ≤ 8 → wk2 ≤ 8 → wk2 = wk := fun i wk wk2 e1 e2 b1 b2 => (nI_eq (by omega) (by omega)).mp (e2.symm.trans e1)
  have arg : ∀ i j : Nat, i < c → r = nI i → w = nI j → j ≤ 5 → ((0 ≤ r ∧ r < nI c) ∧ (0 ≤ w ∧ w ≤ nI 5)) := fun i j a e1 e2 b => by
    rw [e1, e2, show (0 : Int32) = nI 0 from rfl, nI_leI (by omega) (by omega), nI_ltI (by omega) (by omega), nI_leI (by omega) (by omega), nI_leI (by omega) (by omega)]
    omega
  refine t8_roll hw cw (fun c1 n0 b1 na => Q9_mk ml (Frm.refl _ _ _) (fun ml1 => ?_)) (fun c1 i j n0 b1 hi' er e2 j3 => Q9_mk ml (Frm.refl _ _ _) (fun ml1 => ?_)) (fun c1 i wk n0 b1 hi' er e2 ek k8 => Q9_mk ml (Frm.refl _ _ _) (fun ml1 => ?_)) (fun c1 i j wk v n0 b1 hi' er e2 j45 ek k8 hv => Q9_mk ml (Frm.refl _ _ _) (fun ml1 => ?_))
  · obtain rfl := ec c1 n0 b1
    exact t9_roll hw ml1 iv.1.1 c6 hwk (fun _ => ⟨rfl, LI_mk ml1 hs zA hst f2 f5 cwm⟩) (fun i j a b e l => absurd (arg i j a b e (by omega)) na) (fun i wk a b e _ _ => absurd (arg i 3 a b e (by omega)) na) (fun i j wk b1 a b e l _ _ _ => absurd (arg i j a b e (by omega)) na)
  · obtain rfl := ec c1 n0 b1
    refine t9_roll hw ml1 iv.1.1 c6 hwk (fun na => absurd (arg i j hi' er e2 (by omega)) na) (fun i2 j2 a b e l => ?_) (fun i2 wk a b e _ _ => ?_) (fun i2 j2 wk b1 a b e l _ _ _ => ?_)
    · obtain rfl := ei i i2 hi' a er b
      obtain rfl := ej j j2 (by omega) (by omega) e2 e
      exact ⟨rfl, LI_mk ml1 hs zA hst f2 f5 cwm⟩
    · have := ej j 3 (by omega) (by omega) e2 e
      omega
    · have := ej j j2 (by omega) (by omega) e2 e
      omega
  · obtain rfl := ec c1 n0 b1
    refine t9_roll hw ml1 iv.1.1 c6 hwk (fun na => absurd (arg i 3 hi' er e2 (by omega)) na) (fun i2 j2 a b e l => ?_) (fun i2 wk2 a b e ek2 b2 => ?_) (fun i2 j2 wk b1 a b e l _ _ _ => ?_)
    · have := ej 3 j2 (by omega) (by omega) e2 e
      omega
    · obtain rfl := ei i i2 hi' a er b
      obtain rfl := ew i2 wk wk2 ek ek2 k8 b2
      exact ⟨rfl, LI_mk ml1 hs zA hst f2 f5 cwm⟩
    · have := ej 3 j2 (by omega) (by omega) e2 e
      omega
  · obtain rfl := ec c1 n0 b1
    refine t9_roll hw ml1 iv.1.1 c6 hwk (fun na => absurd (arg i j hi' er e2 (by omega)) na) (fun i2 j2 a b e l => ?_) (fun i2 wk2 a b e ek2 b2 => ?_) (fun i2 j2 wk2 bb a b e l ek2 b2 hb => ?_)
    · have := ej j j2 (by omega) (by omega) e2 e
      omega
    · have := ej j 3 (by omega) (by omega) e2 e
      omega
    · obtain rfl := ei i i2 hi' a er b
      obtain rfl := ej j j2 (by omega) (by omega) e2 e
      obtain rfl := ew i2 wk wk2 ek ek2 k8 b2
      exact ⟨congrArg (fun z => some (Value.int z)) (hv bb hb).symm, LI_mk ml1 hs zA hst f2 f5 cwm⟩
theorem sem_addPallet (hw : ω.2.2.2.1 = true) (li : LI B q h) (hq : q < 2 ^ 20) {a b c d e : Int32} : Ex ω M8_addPallet 0 [some (.ref B), some (.int a), some (.int b), some (.int c), some (.int d), some (.int e), none] [] h 0 0 (Q9 ω M9_addPallet [some (.ref (B + 324)), some (.int a), some (.int b), some (.int c), some (.int d), some (.int e), none] B q) := by
  obtain ⟨ml, hs, zA, st, len, hst, f2, f5, cw⟩ := li
  obtain ⟨c0, w, d0, nx, lo, hi, acc, vs, iv⟩ := cw.2.1
  have zN := iv.2.2.2.2.2.2.2.2.2.2
  have w8 := iv.2.1.2.1
  have cwm := cw.mono (Nat.le_succ q)
  refine t8_addPallet hw cw (by omega) (fun n1 => Q9_mk ml (Frm.refl _ _ _) (fun ml1 => ?_)) (fun w1 n0 ok e6 => Q9_mk ml (Frm.refl _ _ _) (fun ml1 => ?_)) (fun w1 n0 ok l6 h1 f cw1 => Q9_mk ml f (fun ml1 => ?_))
  · exact t9_addPallet hw ml1 iv.2.1.1 w8 hst f2 zN (fun _ => ⟨rfl, LI_mk ml1 hs zA hst f2 f5 cwm⟩) (fun ok => absurd ok n1) (fun ok => absurd ok n1)
  · have ec : w1 = w := (nI_eq (by omega) (by omega)).mp (n0.symm.trans iv.2.1.1)
    exact t9_addPallet hw ml1 iv.2.1.1 w8 hst f2 zN (fun n1 => absurd ok n1) (fun _ _ => ⟨rfl, LI_mk ml1 hs zA hst f2 f5 cwm⟩) (fun _ l => by omega)
  · have ec : w1 = w := (nI_eq (by omega) (by omega)).mp (n0.symm.trans iv.2.1.1)
    subst ec
    exact t9_addPallet hw ml1 iv.2.1.1 w8 hst f2 zN (fun n1 => absurd ok n1) (fun _ e => by omega) (fun _ _ S' st' hst' hm => ⟨rfl, LI_mk ml1 (by rw [f.1]; exact hs) zA hst' (upd_eq _ _ _) (by rw [upd_ne _ _ (by omega)]; exact f5) (by rw [hm]; exact cw1)⟩)
theorem sem_drop (hw : ω.2.2.2.1 = true) (li : LI B q h) {p : Int32} : Ex ω M8_drop 0 [some (.ref B), some (.int p), none] [] h 0 0 (Q9 ω M9_drop [some (.ref (B + 324)), some (.int p), none] B q) := by
  obtain ⟨ml, hs, zA, st, len, hst, f2, f5, cw⟩ := li
  obtain ⟨c0, w, d0, nx, lo, hi, acc, vs, iv⟩ := cw.2.1
  have zN := iv.2.2.2.2.2.2.2.2.2.2
  have w8 := iv.2.1.2.1
  have cwm := cw.mono (Nat.le_succ q)
  have ec : ∀ c1 : Nat, gi h (B + 324 + 1) 1 = nI c1 → c1 ≤ 8 → c1 = w := fun c1 n0 b => (nI_eq (by omega) (by omega)).mp (n0.symm.trans iv.2.1.1)
  refine t8_drop hw cw (fun n1 => Q9_mk ml (Frm.refl _ _ _) (fun ml1 => ?_)) (fun w1 n0 b1 np no => Q9_mk ml (Frm.refl _ _ _) (fun ml1 => ?_)) (fun w1 k n0 b1 np hk e h1 f cw1 => Q9_mk ml f (fun ml1 => ?_))
  · exact t9_drop hw ml1 iv.2.1.1 w8 hst f2 zN (fun _ => ⟨rfl, LI_mk ml1 hs zA hst f2 f5 cwm⟩) (fun np => absurd n1 np) (fun np => absurd n1 np)
  · obtain rfl := ec w1 n0 b1
    exact t9_drop hw ml1 iv.2.1.1 w8 hst f2 zN (fun n1 => absurd n1 np) (fun _ _ => ⟨rfl, LI_mk ml1 hs zA hst f2 f5 cwm⟩) (fun _ k hk e => absurd e (no k hk))
  · obtain rfl := ec w1 n0 b1
    refine t9_drop hw ml1 iv.2.1.1 w8 hst f2 zN (fun n1 => absurd n1 np) (fun _ no => absurd e (no k hk)) (fun _ k2 hk2 e2 S' st' hst' hm => ?_)
    have ek : k2 = k := by
      refine Classical.byContradiction fun ne => ?_
      rcases Nat.lt_or_gt_of_ne ne with z | z
      · exact iv.2.1.2.2.2 k2 k z hk (e2.trans e.symm)
      · exact iv.2.1.2.2.2 k k2 z hk2 (e.trans e2.symm)
    subst ek
    exact ⟨rfl, LI_mk ml1 (by rw [f.1]; exact hs) zA hst' (upd_eq _ _ _) (by rw [upd_ne _ _ (by omega)]; exact f5) (by rw [hm]; exact cw1.mono (Nat.le_succ q))⟩
theorem sem_waiting (hw : ω.2.2.2.1 = true) (li : LI B q h) {x y : Int32} : Ex ω M8_waiting 0 [some (.ref B), some (.int x), some (.int y)] [] h 0 0 (Q9 ω M9_waiting [some (.ref (B + 324)), some (.int x), some (.int y), none] B q) := by
  obtain ⟨ml, hs, zA, st, len, hst, f2, f5, cw⟩ := li
  obtain ⟨c0, w, d0, nx, lo, hi, acc, vs, iv⟩ := cw.2.1
  have w8 := iv.2.1.2.1
  have cwm := cw.mono (Nat.le_succ q)
  have ec : ∀ c1 : Nat, gi h (B + 324 + 1) 1 = nI c1 → c1 ≤ 8 → c1 = w := fun c1 n0 b => (nI_eq (by omega) (by omega)).mp (n0.symm.trans iv.2.1.1)
  have al8 : ∀ k, k < w → aheadC (gi h (B + 324 + 1)) k w < 2 ^ 31 := fun k hk => by
    obtain ⟨i, hi, e, _⟩ := vs.2.1.2.2.bwd hk
    omega
  refine t8_waiting hw cw (fun n1 => Q9_mk ml (Frm.refl _ _ _) (fun ml1 => ?_)) (fun w1 n0 b1 ar no => Q9_mk ml (Frm.refl _ _ _) (fun ml1 => ?_)) (fun w1 i j n0 b1 ex ey hi' hj v hv => Q9_mk ml (Frm.refl _ _ _) (fun ml1 => ?_))
  · refine t9_waiting hw ml1 iv.2.1.1 w8 (fun _ => ⟨rfl, LI_mk ml1 hs zA hst f2 f5 cwm⟩) (fun ar _ => absurd ar n1) (fun j k e2 hj hk ex => ?_)
    refine absurd ⟨?_, ?_⟩ n1
    · rw [← ex]; exact nI_pos (al8 k hk)
    · rw [e2, show (0 : Int32) = nI 0 from rfl, nI_leI (by omega) (by omega), nI_leI (by omega) (by omega)]; omega
  · obtain rfl := ec w1 n0 b1
    exact t9_waiting hw ml1 iv.2.1.1 w8 (fun n1 => absurd ar n1) (fun _ _ => ⟨rfl, LI_mk ml1 hs zA hst f2 f5 cwm⟩) (fun j k e2 hj hk ex => absurd ex (no k hk))
  · obtain rfl := ec w1 n0 b1
    have ar : ¬ x < 0 ∧ (0 ≤ y ∧ y ≤ nI 5) := ⟨by rw [ex]; exact nI_pos (by omega), by rw [ey, show (0 : Int32) = nI 0 from rfl, nI_leI (by omega) (by omega), nI_leI (by omega) (by omega)]; omega⟩
    refine t9_waiting hw ml1 iv.2.1.1 w8 (fun n1 => absurd ar n1) (fun _ no => ?_) (fun j2 k e2 hj2 hk ex2 => ?_)
    · obtain ⟨k, hk, ek, _⟩ := vs.2.1.2.2.fwd hi'
      exact absurd (by rw [ek, ex]) (no k hk)
    · obtain rfl : j2 = j := (nI_eq (by omega) (by omega)).mp (e2.symm.trans ey)
      have ea : aheadC (gi h (B + 324 + 1)) k w1 = i := (nI_eq (al8 k hk) (by omega)).mp (ex2.trans ex)
      exact ⟨congrArg (fun z => some (Value.int z)) (hv k hk ea).symm, LI_mk ml1 hs zA hst f2 f5 cwm⟩
theorem sem_set (hw : ω.2.2.2.1 = true) (li : LI B q h) {x y : Int32} : Ex ω M8_set 0 [some (.ref B), some (.int x), some (.int y), none] [] h 0 0 (Q9 ω M9_set [some (.ref (B + 324)), some (.int x), some (.int y), none] B q) := by
  obtain ⟨ml, hs, zA, st, len, hst, f2, f5, cw⟩ := li
  obtain ⟨c0, w, d0, nx, lo, hi, acc, vs, iv⟩ := cw.2.1
  have zN := iv.2.2.2.2.2.2.2.2.2.2
  have cwm := cw.mono (Nat.le_succ q)
  refine t8_set hw cw (fun n1 => Q9_mk ml (Frm.refl _ _ _) (fun ml1 => ?_)) (fun j ex hj ok h1 f cw1 => Q9_mk ml f (fun ml1 => ?_))
  · exact t9_set hw ml1 hst f2 zN (fun _ => ⟨rfl, LI_mk ml1 hs zA hst f2 f5 cwm⟩) (fun j _ _ ok => absurd ok n1)
  · refine t9_set hw ml1 hst f2 zN (fun n1 => absurd ok n1) (fun j2 ex2 hj2 _ S' st' hst' hm => ?_)
    obtain rfl : j2 = j := (nI_eq (by omega) (by omega)).mp (ex2.symm.trans ex)
    exact ⟨rfl, LI_mk ml1 (by rw [f.1]; exact hs) zA hst' (upd_eq _ _ _) (by rw [upd_ne _ _ (by omega)]; exact f5) (by rw [hm]; exact cw1.mono (Nat.le_succ q))⟩
theorem sem_undo (hw : ω.2.2.2.1 = true) (li : LI B q h) : Ex ω M8_undo 0 [some (.ref B)] [] h 0 0 (Q9 ω M9_undo [some (.ref (B + 324)), none] B q) := by
  obtain ⟨ml, hs, zA, st, len, hst, f2, f5, cw⟩ := li
  obtain ⟨c0, w, d0, nx, lo, hi, acc, vs, iv⟩ := cw.2.1
  have zN := iv.2.2.2.2.2.2.2.2.2.2
  have cwm := cw.mono (Nat.le_succ q)
  refine t8_undo hw cw (fun n1 => Q9_mk ml (Frm.refl _ _ _) (fun ml1 => ?_)) (fun H' N' eH h1 f cw1 => Q9_mk ml f (fun ml1 => ?_))
  · have s0 : st = 0 := by rw [← MH_len (gi h (B + 324 + 2)) st, n1]; rfl
    exact t9_undo hw ml1 hst f2 zN (fun _ => ⟨rfl, LI_mk ml1 hs zA hst f2 f5 cwm⟩) (fun st' e => by omega)
  · have e1 : st = H'.length + 1 := by rw [← MH_len (gi h (B + 324 + 2)) st, eH, List.length_append]; rfl
    refine t9_undo hw ml1 hst f2 zN (fun s0 => by omega) (fun st' e => ?_)
    have e2 : st' = H'.length := by omega
    rw [e, MH_succ] at eH
    obtain ⟨a1, a2⟩ := List.append_inj' eH rfl
    have a2 : rowS (gi h (B + 324 + 2)) st' = N' := (List.cons.inj a2).1
    refine ⟨by rw [e2], LI_mk ml1 (by rw [f.1]; exact hs) zA (by omega) (upd_eq _ _ _) (by rw [upd_ne _ _ (by omega)]; exact f5) ?_⟩
    rw [a1, a2]
    exact cw1.mono (Nat.le_succ q)
theorem sem_count (hw : ω.2.2.2.1 = true) (li : LI B q h) {x : Int32} : Ex ω M8_count 0 [some (.ref B), some (.int x)] [] h 0 0 (Q9 ω M9_count [some (.ref (B + 324)), some (.int x)] B q) := by
  obtain ⟨ml, hs, zA, st, len, hst, f2, f5, cw⟩ := li
  have cwm := cw.mono (Nat.le_succ q)
  refine t8_count hw cw (Q9_mk ml (Frm.refl _ _ _) (fun ml1 => t9_count hw ml1 f2 f5 ⟨by rw [MH_len], LI_mk ml1 hs zA hst f2 f5 cwm⟩))
theorem sem_type (hw : ω.2.2.2.1 = true) (li : LI B q h) {x : Int32} : Ex ω M8_type 0 [some (.ref B), some (.int x)] [] h 0 0 (Q9 ω M9_type [some (.ref (B + 324)), some (.int x)] B q) := by
  obtain ⟨ml, hs, zA, st, len, hst, f2, f5, cw⟩ := li
  have cwm := cw.mono (Nat.le_succ q)
  have hl := cw.2.2.2.2.1
  refine t8_type hw cw (fun n1 => Q9_mk ml (Frm.refl _ _ _) (fun ml1 => ?_)) (fun ok e1 => Q9_mk ml (Frm.refl _ _ _) (fun ml1 => ?_)) (fun ok l1 h1 f cw1 => Q9_mk ml f (fun ml1 => ?_))
  · exact t9_type hw ml1 f5 hl (fun _ => ⟨rfl, LI_mk ml1 hs zA hst f2 f5 cwm⟩) (fun ok => absurd ok n1) (fun ok => absurd ok n1)
  · exact t9_type hw ml1 f5 hl (fun n1 => absurd ok n1) (fun _ _ => ⟨rfl, LI_mk ml1 hs zA hst f2 f5 cwm⟩) (fun _ l => by omega)
  · exact t9_type hw ml1 f5 hl (fun n1 => absurd ok n1) (fun _ e => by omega) (fun _ _ => ⟨rfl, LI_mk ml1 (by rw [f.1]; exact hs) zA hst (by rw [upd_ne _ _ (by omega)]; exact f2) (upd_eq _ _ _) (cw1.mono (Nat.le_succ q))⟩)
theorem sem_clearText (hw : ω.2.2.2.1 = true) (li : LI B q h) : Ex ω M8_clearText 0 [some (.ref B), none] [] h 0 0 (Q9 ω M9_clearText [some (.ref (B + 324)), none] B q) := by
  obtain ⟨ml, hs, zA, st, len, hst, f2, f5, cw⟩ := li
  exact t8_clearText hw cw (fun h1 f cw1 => Q9_mk ml f (fun ml1 => t9_clearText hw ml1 f5 ⟨rfl, LI_mk ml1 (by rw [f.1]; exact hs) zA hst (by rw [upd_ne _ _ (by omega)]; exact f2) (upd_eq _ _ _) (cw1.mono (Nat.le_succ q))⟩))
theorem sem_fault (hw : ω.2.2.2.1 = true) (li : LI B q h) : Ex ω M8_fault 0 [some (.ref B), none] [] h 0 0 (Q9 ω M9_fault [some (.ref (B + 324))] B q) := by
  obtain ⟨ml, hs, zA, st, len, hst, f2, f5, cw⟩ := li
  have hl := cw.2.2.2.2.1
  refine t8_fault hw cw (fun x h1 e hx f cw1 => Q9_mk ml f (fun ml1 => ?_)) (fun h1 e f cw1 => Q9_mk ml f (fun ml1 => ?_))
  · refine t9_fault hw ml1 hl f5 (fun x2 F' R' fk e2 hx2 => ?_) (fun F' R' fk e2 => by rw [e] at e2; cases e2)
    rw [e] at e2
    obtain rfl : x = x2 := Option.some.inj e2
    exact ⟨rfl, LI_mk ml1 (by rw [f.1]; exact hs) zA hst (fk.1.trans f2) (fk.2.trans f5) (cw1.mono (Nat.le_succ q))⟩
  · exact t9_fault hw ml1 hl f5 (fun x2 F' R' fk e2 hx2 => by rw [e] at e2; cases e2) (fun F' R' fk e2 => ⟨rfl, LI_mk ml1 (by rw [f.1]; exact hs) zA hst (fk.1.trans f2) (fk.2.trans f5) (cw1.mono (Nat.le_succ q))⟩)
theorem sem_load (hw : ω.2.2.2.1 = true) (li : LI B q h) : Ex ω M8_load 0 [some (.ref B)] [] h 0 0 (Q9 ω M9_load [some (.ref (B + 324)), none] B q) := by
  obtain ⟨ml, hs, zA, st, len, hst, f2, f5, cw⟩ := li
  obtain ⟨c0, w, d0, nx, lo, hi, acc, vs, iv⟩ := cw.2.1
  have zN := iv.2.2.2.2.2.2.2.2.2.2
  have hl := cw.2.2.2.2.1
  refine t8_load hw cw (fun h1 e f cw1 => Q9_mk ml f (fun ml1 => ?_)) (fun h1 e _ _ f cw1 => Q9_mk ml f (fun ml1 => ?_))
  · exact t9_load hw ml1 hl f5 hst f2 zN (fun F' R' fk e2 => ⟨rfl, LI_mk ml1 (by rw [f.1]; exact hs) zA hst (fk.1.trans f2) (fk.2.trans f5) (cw1.mono (Nat.le_succ q))⟩) (fun F' R' S' st' e2 _ _ _ _ _ _ => absurd e2 e)
  · exact t9_load hw ml1 hl f5 hst f2 zN (fun F' R' fk e2 => absurd e e2) (fun F' R' S' st' _ _ _ hst' hm g2 g5 => ⟨rfl, LI_mk ml1 (by rw [f.1]; exact hs) zA hst' g2 (g5.trans f5) (by rw [hm]; exact cw1.mono (Nat.le_succ q))⟩)
theorem sem_step (hw : ω.2.2.2.1 = true) (li : LI B q h) {x y : Int32} : Ex ω M8_step 0 [some (.ref B), some (.int x), some (.int y)] [] h 0 0 (Q9 ω M9_step [some (.ref (B + 324)), some (.int x), some (.int y)] B q) := by
  obtain ⟨ml, hs, zA, st, len, hst, f2, f5, cw⟩ := li
  obtain ⟨c0, w, d0, nx, lo, hi, acc, vs, iv⟩ := cw.2.1
  have cwm := cw.mono (Nat.le_succ q)
  have n3 := iv.2.2.1.1
  have s12 := iv.2.2.1.2.1
  have ec : ∀ c1 : Nat, gi h (B + 324 + 1) 3 = nI c1 → c1 ≤ 12 → c1 = acc.length := fun c1 n0 b => (nI_eq (by omega) (by omega)).mp (n0.symm.trans n3)
  have ar : ∀ i j : Nat, i < 100 → j < 2 → x = nI i → y = nI j → (¬ x < 0 ∧ (0 ≤ y ∧ y ≤ nI 1)) := fun i j a b e1 e2 => ⟨by rw [e1]; exact nI_pos (by omega), by rw [e2, show (0 : Int32) = nI 0 from rfl, nI_leI (by omega) (by omega), nI_leI (by omega) (by omega)]; omega⟩
  refine t8_step hw cw (fun n1 => Q9_mk ml (Frm.refl _ _ _) (fun ml1 => ?_)) (fun sn e1 b1 ok le => Q9_mk ml (Frm.refl _ _ _) (fun ml1 => ?_)) (fun sn i j e1 b1 ex ey hi' hj => Q9_mk ml (Frm.refl _ _ _) (fun ml1 => ?_))
  · exact t9_step hw ml1 n3 s12 (fun _ => ⟨rfl, LI_mk ml1 hs zA hst f2 f5 cwm⟩) (fun ok _ => absurd ok n1) (fun i j e2 e3 a b => absurd (ar i j (by omega) b e2 e3) n1)
  · obtain rfl := ec sn e1 b1
    refine t9_step hw ml1 n3 s12 (fun n1 => absurd ok n1) (fun _ _ => ⟨rfl, LI_mk ml1 hs zA hst f2 f5 cwm⟩) (fun i j e2 e3 a b => ?_)
    rw [e2, nI_leI (by omega) (by omega)] at le
    omega
  · obtain rfl := ec sn e1 b1
    refine t9_step hw ml1 n3 s12 (fun n1 => absurd (ar i j (by omega) hj ex ey) n1) (fun _ le => ?_) (fun i2 j2 e2 e3 a b => ?_)
    · rw [ex, nI_leI (by omega) (by omega)] at le
      omega
    · obtain rfl : i2 = i := (nI_eq (by omega) (by omega)).mp (e2.symm.trans ex)
      obtain rfl : j2 = j := (nI_eq (by omega) (by omega)).mp (e3.symm.trans ey)
      exact ⟨rfl, LI_mk ml1 hs zA hst f2 f5 cwm⟩
theorem SI_uni {N : Nat → Int32} {a b : List (Nat × Nat)} (p : SI N a) (r : SI N b) : a = b := by
  have hl : a.length = b.length := (nI_eq (by have := p.2.1; omega) (by have := r.2.1; omega)).mp (p.1.symm.trans r.1)
  refine List.ext_getElem hl (fun i h1 h2 => ?_)
  obtain ⟨x1, x2, x3, x4, x5⟩ := SI_get p h1
  obtain ⟨y1, y2, y3, y4, y5⟩ := SI_get r h2
  have z1 := (nI_eq (by omega) (by omega)).mp (x1.symm.trans y1)
  have b1 := amt300 x3 x5
  have b2 := amt300 y3 y5
  have z2 := (nI_eq (by omega) (by omega)).mp (x2.symm.trans y2)
  exact Prod.ext z1 z2
theorem sem_write (hw : ω.2.2.2.1 = true) (li : LI B q h) : Ex ω M8_write 0 [some (.ref B)] [] h 0 0 (Q9 ω M9_write [some (.ref (B + 324)), none, none, none, none] B q) := by
  obtain ⟨ml, hs, zA, st, len, hst, f2, f5, cw⟩ := li
  refine t8_write hw cw (fun acc si h1 f cw1 => Q9_mk ml f (fun ml1 => t9_write hw ml1 si (fun F' g5 g2 _ => ⟨rfl, LI_mk ml1 (by rw [f.1]; exact hs) zA hst (g2.trans f2) g5 (cw1.mono (Nat.le_succ q))⟩)))
theorem sem_textAt (hw : ω.2.2.2.1 = true) (li : LI B q h) {x : Int32} : Ex ω M8_textAt 0 [some (.ref B), some (.int x)] [] h 0 0 (Q9 ω M9_textAt [some (.ref (B + 324)), some (.int x)] B q) := by
  obtain ⟨ml, hs, zA, st, len, hst, f2, f5, cw⟩ := li
  have cwm := cw.mono (Nat.le_succ q)
  have hl := cw.2.2.2.2.1
  refine t8_textAt hw cw (fun n1 => Q9_mk ml (Frm.refl _ _ _) (fun ml1 => ?_)) (fun n1 le => Q9_mk ml (Frm.refl _ _ _) (fun ml1 => ?_)) (fun j hj e1 => Q9_mk ml (Frm.refl _ _ _) (fun ml1 => ?_))
  · refine t9_textAt hw ml1 f5 hl (fun _ => ⟨rfl, LI_mk ml1 hs zA hst f2 f5 cwm⟩) (fun n2 => absurd n1 n2) (fun j hj e => ?_)
    rw [e] at n1
    exact absurd n1 (nI_pos (by omega))
  · refine t9_textAt hw ml1 f5 hl (fun n2 => absurd n2 n1) (fun _ _ => ⟨rfl, LI_mk ml1 hs zA hst f2 f5 cwm⟩) (fun j hj e => ?_)
    rw [e, nI_leI (by omega) (by omega)] at le
    omega
  · refine t9_textAt hw ml1 f5 hl (fun n2 => ?_) (fun _ le => ?_) (fun j2 hj2 e => ?_)
    · rw [e1] at n2
      exact absurd n2 (nI_pos (by omega))
    · rw [e1, nI_leI (by omega) (by omega)] at le
      omega
    · obtain rfl : j2 = j := (nI_eq (by omega) (by omega)).mp (e.symm.trans e1)
      exact ⟨rfl, LI_mk ml1 hs zA hst f2 f5 cwm⟩
end SEM
