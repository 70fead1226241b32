/-! the class: what is kept -/
theorem lesser_max (a b : Int32) : (if b < a then b else a) = lesser a b := by
  unfold lesser
  by_cases c : a < b
  · rw [if_pos c, if_neg (fun q => Int32.lt_irrefl (Int32.lt_trans c q))]
  · rw [if_neg c]
    by_cases d : b < a
    · rw [if_pos d]
    · rw [if_neg d]
      exact Int32.le_antisymm (Int32.not_lt.mp d) (Int32.not_lt.mp c)
theorem lesser_self (a : Int32) : lesser a a = a := by unfold lesser; split <;> rfl
theorem t8_least {ω : Om} {h : AH} {Q : Option Value → AH → Prop} (hw : ω.2.2.2.1 = true) {a z : Nat} (s : gs h a = some (10, 25)) (h1 : 1 ≤ z) (h2 : z ≤ 25) (hq : Q (some (.int (gmn (gi h a) z))) h) : Ex ω M8_least 0 [some (.ref a), some (.int (nI z)), none, none] [] h 0 0 Q := by
  refine B8_least_0 hw (nx0 := 25) s (fun c => absurd c (by decide)) (fun _ => ?_)
  refine B8_least_5 hw (nx0 := 25) s (vp_in_nI (by omega) (by omega)) (B8_least_12 hw ?_)
  rw [nI_clamp (by omega)]
  have lp : ∀ d i : Nat, i + d = z → 1 ≤ i → Ex ω M8_least 15 [some (.ref a), some (.int (nI z)), some (.int (gmn (gi h a) i)), some (.int (nI i))] [] h 0 0 Q := by
    intro d
    induction d with
    | zero =>
      intro i hi _
      refine B8_least_15 hw (fun _ => B8_least_40 hw ?_) (fun c => absurd (nI_le (by omega) (by omega)) c)
      rw [show i = z from by omega]; exact hq
    | succ d ih =>
      intro i hi h1
      refine B8_least_15 hw (fun c => absurd c (nI_ge (by omega) (by omega))) (fun _ => ?_)
      refine B8_least_20 hw (nx0 := 25) s (fun c => absurd c (nI_ge (by omega) (by omega))) (fun _ => ?_)
      refine B8_least_26 hw (nx0 := 25) s (vp_in_nI (by omega) (by omega)) ?_
      rw [nI_clamp (by omega), lesser_max, nI_add]
      exact ih (i + 1) (by omega) (by omega)
  have e1 : gmn (gi h a) 1 = gi h a 0 := lesser_self _
  have := lp (z - 1) 1 (by omega) (by omega)
  rw [e1] at this
  exact this
/-- the greatest force from one zone to another -/
def gmxF (f : Nat → Int32) (a : Nat) : Nat → Int32
  | 0 => 0
  | i + 1 => if gmxF f a i < f (a + i) then f (a + i) else gmxF f a i
theorem gmxF_0 (f : Nat → Int32) : ∀ z, gmxF f 0 z = gmx f z := by
  intro z
  induction z with
  | zero => rfl
  | succ z ih =>
    show (if gmxF f 0 z < f (0 + z) then f (0 + z) else gmxF f 0 z) = if gmx f z < f z then f z else gmx f z
    rw [ih, Nat.zero_add]
theorem t3_greatestForce {ω : Om} {h : AH} {Q : Option Value → AH → Prop} (hw : ω.2.2.2.1 = true) {r a e : Nat} (o : ResO h r) (h1 : e ≤ 25) (h2 : a ≤ 1000) (hq : Q (some (.int (gmxF (gi h (r + 2)) a (e - a)))) h) : Ex ω M3_greatestForce 0 [some (.ref r), some (.int (nI a)), some (.int (nI e)), none, none] [] h 0 0 Q := by
  refine B3_greatestForce_0 hw ?_
  have lp : ∀ d i : Nat, i + d = e - a → Ex ω M3_greatestForce 5 [some (.ref r), none, some (.int (nI e)), some (.int (gmxF (gi h (r + 2)) a i)), some (.int (nI (a + i)))] [] h 0 0 Q := by
    intro d
    induction d with
    | zero =>
      intro i hi
      refine B3_greatestForce_5 hw (fun _ => B3_greatestForce_29 hw ?_) (fun c => absurd (nI_le (by omega) (by omega)) c)
      rw [show i = e - a from by omega]; exact hq
    | succ d ih =>
      intro i hi
      refine B3_greatestForce_5 hw (fun c => absurd c (nI_ge (by omega) (by omega))) (fun _ => ?_)
      refine B3_greatestForce_11 hw o.1 (vp_in_nI (by omega) (by omega)) ?_
      rw [nI_clamp (by omega), o.2.2.2.2, nI_add]
      exact ih (i + 1) (by omega)
  exact x_dr1 (lp (e - a) 0 (by omega))
theorem t3_property {ω : Om} {h : AH} {Q : Option Value → AH → Prop} (hw : ω.2.2.2.1 = true) {r e j : Nat} {N : Nat → Int32} (o : ResO h r) (v : keptV (gi h r) (gi h (r + 1)) (gi h (r + 2)) N e) (hj : j ≤ 12) (hq : Q (some (.int (N (e + j)))) h) : Ex ω M3_property 0 [some (.ref r), some (.int (nI j))] [] h 0 0 Q := by
  obtain ⟨a0, a1, a2, a3, a4, a5, a6, a7, a8, a9, a10, z, b1, b2, b3, b4, b5, b6⟩ := v
  refine B3_property_0 hw (fun c => ?_) (fun c => ?_) (fun c => ?_) (fun c => ?_) (fun c => ?_) (fun c => ?_) (fun c => ?_) (fun c => ?_) (fun c => ?_) (fun c => ?_) (fun c => ?_) (fun c => ?_) (fun c => ?_)
  · rw [nI_eq (by omega) (by omega)] at c; subst c; refine B3_property_64 hw o.1 ?_; rw [a0]; exact hq
  · rw [nI_eq (by omega) (by omega)] at c; subst c; refine B3_property_69 hw o.1 ?_; rw [a2]; exact hq
  · rw [nI_eq (by omega) (by omega)] at c; subst c; refine B3_property_74 hw o.1 ?_; rw [a3]; exact hq
  · rw [nI_eq (by omega) (by omega)] at c; subst c; refine B3_property_79 hw o.1 ?_; rw [a4]; exact hq
  · rw [nI_eq (by omega) (by omega)] at c; subst c; refine B3_property_84 hw o.1 ?_; rw [a5]; exact hq
  · rw [nI_eq (by omega) (by omega)] at c; subst c; refine B3_property_89 hw o.1 ?_; rw [a6]; exact hq
  · rw [nI_eq (by omega) (by omega)] at c; subst c; refine B3_property_104 hw o.1 ?_; rw [a7]; exact hq
  · rw [nI_eq (by omega) (by omega)] at c; subst c; refine B3_property_109 hw o.1 ?_; rw [a8]; exact hq
  · rw [nI_eq (by omega) (by omega)] at c; subst c
    refine B3_property_114 hw o.1 ?_
    rw [o.2.2.2.1, a1, b1]
    refine t8_least hw o.2.1 b2 b3 (B3_property_125 hw ?_)
    have : gmn (gi h (r + 1)) z = N (e + 8) := by
      rw [b5]
      obtain ⟨z', rfl⟩ : ∃ z', z = z' + 1 := ⟨z - 1, by omega⟩
      show lesser (gmn (gi h (r + 1)) z') (gi h (r + 1) z') = lesser (gmn (fun i => N (e + 13 + i)) z') (N (e + 13 + z'))
      rw [(b4 z' (by omega)).1, gmn_congr z' (fun i hi => ((b4 i (by omega)).1))]
    rw [this]; exact hq
  · rw [nI_eq (by omega) (by omega)] at c; subst c
    refine B3_property_126 hw o.1 ?_
    rw [a1, b1]
    refine t3_greatestForce hw o b3 (by omega) (B3_property_135 hw ?_)
    rw [Nat.sub_zero, gmxF_0]
    have : gmx (gi h (r + 2)) z = N (e + 9) := by rw [b6]; exact gmx_congr z (fun i hi => (b4 i hi).2)
    rw [this]; exact hq
  · rw [nI_eq (by omega) (by omega)] at c; subst c; refine B3_property_136 hw o.1 ?_; rw [a9]; exact hq
  · rw [nI_eq (by omega) (by omega)] at c; subst c; refine B3_property_141 hw o.1 ?_; rw [a10]; exact hq
  · rw [show (0 : Int32) = nI 0 from rfl, nI_leI (by omega) (by omega), nI_leI (by omega) (by omega)] at c
    obtain rfl : j = 12 := by omega
    refine B3_property_146 hw o.1 ?_; rw [a1]; exact hq
theorem t8_done {ω : Om} {h : AH} {Q : Option Value → AH → Prop} (hw : ω.2.2.2.1 = true) {B : Nat} {N : Nat → Int32} {H : List (Nat → Int32)} {T : Nat → Int32} {len K : Nat} {x y : Int32} (cw : CW h B N H T len K) (hK : K < 2 ^ 28) (q1 : ¬ (¬ x < 0 ∧ (0 ≤ y ∧ y ≤ nI 12)) → Q (some (.int (-1))) h) (q2 : ∀ dn i : Nat, N 7 = nI dn → dn < 2 ^ 30 → x = nI i → i < 2 ^ 31 → (0 ≤ y ∧ y ≤ nI 12) → ¬ (i < dn ∧ i < 6) → Q (some (.int (-4))) h) (q3 : ∀ dn i j : Nat, N 7 = nI dn → dn < 2 ^ 30 → x = nI i → y = nI j → i < dn → i < 6 → j ≤ 12 → Q (some (.int (N (keptB dn i + j)))) h) : Ex ω M8_done 0 [some (.ref B), some (.int x), some (.int y)] [] h 0 0 Q := by
  obtain ⟨c, w, d, nx, lo, hi, acc, vs, iv⟩ := cw.2.1
  have lw := cw.1
  have ls := lw.2.2.2.2.1
  have n7 := iv.2.2.2.2.2.1.1
  obtain ⟨k1, k2⟩ := vs.2.2.2.1
  refine B8_done_0 hw (fun c => B8_done_14 hw (q1 (fun o => o.1 c))) (fun cx => ?_)
  refine B8_done_4 hw (t8_outside hw (fun a1 a2 => ?_) (fun z => ?_))
  rotate_left
  · exact B8_done_11 hw (fun c => absurd c (by decide)) (fun _ => B8_done_14 hw (q1 (fun o => z o.2)))
  refine B8_done_11 hw (fun _ => ?_) (fun c => absurd rfl c)
  obtain ⟨i, hi', rfl⟩ := nI_of cx
  refine B8_done_16 hw lw.1.1 (fun c => ?_) (fun c => ?_)
  · rw [lw.2.1.1, k1, nI_ltI (by omega) (by omega)] at c
    obtain ⟨j, rfl, _, hj⟩ := bd_of (lo := 0) (hi := 12) (by omega) (by omega) a1 a2
    obtain ⟨jj, hjj, ej, oj⟩ := ls.res (i := i) (by omega)
    refine B8_done_30 hw lw.1.1 (vp_in_nI (by omega) (by omega)) ?_
    rw [lw.2.1.1, ls.2.1.2.2.1, nI_clamp (by omega), show gr h (B + 1 + 29) i = kA h (B + 1) i from rfl]
    exact t3_property hw oj (k2 i c) hj (B8_done_43 hw (q3 d i j n7 (by have := iv.2.2.2.2.2.1.2; omega) rfl rfl (by omega) (by omega) hj))
  · rw [lw.2.1.1, k1, nI_ltI (by omega) (by omega)] at c
    exact B8_done_27 hw (q2 d i n7 (by have := iv.2.2.2.2.2.1.2; omega) rfl hi' ⟨a1, a2⟩ (by omega))

