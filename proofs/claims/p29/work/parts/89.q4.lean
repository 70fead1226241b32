/-! the law's number, name, programs: they type a program -/
theorem CW.o8 {h : AH} {B : Nat} {N : Nat → Int32} {H : List (Nat → Int32)} {T : Nat → Int32} {len K : Nat} (c : CW h B N H T len K) : gs h B = some (8, 8) := c.1.1.1
abbrev CP (h : AH) (B : Nat) (N : Nat → Int32) (H : List (Nat → Int32)) (p : (Nat → Int32) × Nat) (K : Nat) : Prop := CW h B N H p.1 p.2 K
section LTY
variable {ω : Om} {Q : Option Value → AH → Prop} {h : AH} {B K : Nat} {N : Nat → Int32} {H : List (Nat → Int32)} {p : (Nat → Int32) × Nat}
theorem w_type (hw : ω.2.2.2.1 = true) (cw : CP h B N H p K) {a : Nat} (h1 : 32 ≤ a) (h2 : a ≤ 126) (hl : p.2 < 100) (hq : ∀ h' : AH, Frm B (B + 324) h h' → CP h' B N H (putC p (nI a)) K → Q (some (.int (nI (p.2 + 1)))) h') : Ex ω M8_type 0 [some (.ref B), some (.int (nI a))] [] h 0 0 Q := by
  have ok : nI 32 ≤ nI a ∧ nI a ≤ nI 126 := ⟨(nI_leI (by omega) (by omega)).mpr h1, (nI_leI (by omega) (by omega)).mpr h2⟩
  refine t8_type hw cw (fun z => absurd ok z) (fun _ e => by omega) (fun _ _ h' f cw' => hq h' f ?_)
  rw [putC_lt hl]
  exact cw'
theorem putC_2 {c : Int32} (hl : p.2 < 100) : (putC p c).2 = p.2 + 1 := by rw [putC_lt hl]
theorem t_number (hw : ω.2.2.2.1 = true) {a : Nat} (ha : a ≤ 999) (cw : CP h B N H p K) (hl : p.2 + 3 ≤ 100) (hq : ∀ h' : AH, Frm B (B + 324) h h' → CP h' B N H (putL (digC a) p) K → Q none h') : Ex ω ML_number 0 [some (.ref B), some (.int (nI a)), none] [] h 0 0 Q := by
  generalize hfin : putL (digC a) p = fin at hq
  have d0 : ∀ (g : AH) (q : (Nat → Int32) × Nat), Frm B (B + 324) h g → CP g B N H q K → q = fin → Ex ω ML_number 24 [some (.ref B), some (.int (nI a)), some (.int (nI 0))] [] g 0 0 Q := fun g q f c e => by
    subst e
    exact BL_number_24 hw (fun _ => BL_number_50 hw (hq g f c)) (fun z => absurd (by decide) z)
  have go : ∀ (u : Nat) (g : AH) (q : (Nat → Int32) × Nat), 1 ≤ u → u ≤ 100 → Frm B (B + 324) h g → CP g B N H q K → q.2 < 100 → (∀ g2 : AH, Frm B (B + 324) h g2 → CP g2 B N H (putC q (nI (48 + a / u % 10))) K → Ex ω ML_number 24 [some (.ref B), some (.int (nI a)), some (.int (nI (u / 10)))] [] g2 0 0 Q) → Ex ω ML_number 24 [some (.ref B), some (.int (nI a)), some (.int (nI u))] [] g 0 0 Q := fun u g q u1 u2 f c ql k => by
    refine BL_number_24 hw (fun z => absurd z (nI_nle (by omega) (by omega))) (fun _ => ?_)
    refine BL_number_28 hw c.o8 (nI_ne0 (by omega) (by omega)) ?_
    have au : a / u ≤ a := Nat.div_le_self _ _
    rw [pk_div (by omega) (by omega) (by omega), pk_rem (by omega) (by omega) (by omega), nI_add]
    have m10 : a / u % 10 < 10 := Nat.mod_lt _ (by omega)
    refine w_type hw c (by omega) (by omega) ql (fun g2 f2 c2 => ?_)
    refine BL_number_41 hw ?_
    rw [pk_div (by omega) (by omega) (by omega)]
    exact k g2 (f.trans f2) c2
  have d1 : ∀ (g : AH) (q : (Nat → Int32) × Nat), Frm B (B + 324) h g → CP g B N H q K → q.2 < 100 → putC q (nI (48 + a % 10)) = fin → Ex ω ML_number 24 [some (.ref B), some (.int (nI a)), some (.int (nI 1))] [] g 0 0 Q := fun g q f c ql e => by
    refine go 1 g q (by omega) (by omega) f c ql (fun g2 f2 c2 => ?_)
    rw [Nat.div_one] at c2
    exact d0 g2 _ f2 c2 e
  have d10 : ∀ (g : AH) (q : (Nat → Int32) × Nat), Frm B (B + 324) h g → CP g B N H q K → q.2 + 1 < 100 → putC (putC q (nI (48 + a / 10 % 10))) (nI (48 + a % 10)) = fin → Ex ω ML_number 24 [some (.ref B), some (.int (nI a)), some (.int (nI 10))] [] g 0 0 Q := fun g q f c ql e =>
    go 10 g q (by omega) (by omega) f c (by omega) (fun g2 f2 c2 => d1 g2 _ f2 c2 (by rw [putC_2 (by omega)]; exact ql) e)
  have d100 : ∀ (g : AH) (q : (Nat → Int32) × Nat), Frm B (B + 324) h g → CP g B N H q K → q.2 + 2 < 100 → putC (putC (putC q (nI (48 + a / 100 % 10))) (nI (48 + a / 10 % 10))) (nI (48 + a % 10)) = fin → Ex ω ML_number 24 [some (.ref B), some (.int (nI a)), some (.int (nI 100))] [] g 0 0 Q := fun g q f c ql e =>
    go 100 g q (by omega) (by omega) f c (by omega) (fun g2 f2 c2 => d10 g2 _ f2 c2 (by rw [putC_2 (by omega)]; omega) e)
  refine BL_number_0 hw (fun c => ?_) (fun c => ?_)
  · rw [nI_leI (by omega) (by omega)] at c
    refine BL_number_11 hw (fun c2 => ?_) (fun c2 => ?_)
    · rw [nI_leI (by omega) (by omega)] at c2
      rw [digC_1 c2] at hfin
      exact BL_number_22 hw (BL_number_23 hw (d1 h p (Frm.refl _ _ _) cw (by omega) hfin))
    · rw [nI_leI (by omega) (by omega)] at c2
      rw [digC_2 (by omega) c] at hfin
      exact BL_number_17 hw (BL_number_23 hw (d10 h p (Frm.refl _ _ _) cw (by omega) hfin))
  · rw [nI_leI (by omega) (by omega)] at c
    rw [digC_3 (by omega)] at hfin
    exact BL_number_6 hw (BL_number_23 hw (d100 h p (Frm.refl _ _ _) cw (by omega) hfin))
/-- letter j of a word -/
def ltr (x : Int64) (j : Nat) : Int32 := Int64.toInt32 ((x >>> (Int32.toInt64 (nI (8 * j)) &&& 63)) &&& (255 : Int64))
def ltrs (x : Int64) : Nat → List Int32
  | 0 => []
  | j + 1 => if ltr x j ≤ 0 then ltrs x j else ltr x j :: ltrs x j
def lettersOk (x : Int64) : Bool := (List.range 7).all (fun j => decide (ltr x j ≤ 0) || (decide (32 ≤ nn (ltr x j)) && decide (nn (ltr x j) ≤ 126) && decide (ltr x j = nI (nn (ltr x j)))))
theorem lettersOk_at {x : Int64} (h : lettersOk x = true) {j : Nat} (hj : j < 7) (h0 : ¬ ltr x j ≤ 0) : ∃ a : Nat, 32 ≤ a ∧ a ≤ 126 ∧ ltr x j = nI a := by
  have := List.all_eq_true.mp h j (List.mem_range.mpr hj)
  simp only [Bool.or_eq_true, Bool.and_eq_true, decide_eq_true_eq] at this
  rcases this with z | ⟨⟨z1, z2⟩, z3⟩
  · exact absurd z h0
  · exact ⟨_, z1, z2, z3⟩
theorem ltrs_len (x : Int64) : ∀ j, (ltrs x j).length ≤ j := by
  intro j
  induction j with
  | zero => exact Nat.le_refl _
  | succ j ih =>
    show (if ltr x j ≤ 0 then ltrs x j else ltr x j :: ltrs x j).length ≤ j + 1
    split
    · omega
    · show (ltrs x j).length + 1 ≤ j + 1; omega
theorem name_loop (hw : ω.2.2.2.1 = true) {x : Int64} (ok : lettersOk x = true) {fin : (Nat → Int32) × Nat} {h0 : AH} (hq : ∀ h' : AH, Frm B (B + 324) h0 h' → CP h' B N H fin K → Q none h') : ∀ (j : Nat) (g : AH) (q : (Nat → Int32) × Nat), j ≤ 7 → Frm B (B + 324) h0 g → CP g B N H q K → q.2 + j < 100 → putL (ltrs x j ++ [nI 32]) q = fin → Ex ω ML_name 51 [some (.ref B), none, some (.long x), none, some (.int (nI (8 * j) + (-8))), none] [] g 0 0 Q := by
  intro j
  induction j with
  | zero =>
    intro g q _ f c ql e
    refine BL_name_51 hw (fun _ => ?_) (fun z => absurd (by decide) z)
    refine BL_name_85 hw c.o8 ?_
    refine w_type hw c (by omega) (by omega) (by omega) (fun g2 f2 c2 => ?_)
    refine BL_name_91 hw (hq g2 (f.trans f2) ?_)
    rw [← e]
    exact c2
  | succ j ih =>
    intro g q hj f c ql e
    have e8 : nI (8 * (j + 1)) + (-8) = nI (8 * j) := by
      have : (-8 : Int32) = 0 - nI 8 := by decide
      rw [this, show 8 * (j + 1) = 8 * j + 8 by omega, ← nI_add]
      grind
    rw [e8]
    refine BL_name_51 hw (fun z => absurd z (nI_pos (by omega))) (fun _ => ?_)
    refine BL_name_56 hw (fun z => ?_) (fun z => ?_)
    · refine BL_name_79 hw ?_
      refine ih g q (by omega) f c (by omega) ?_
      have z' : ltr x j ≤ 0 := z
      have er : ltrs x (j + 1) = ltrs x j := if_pos z'
      rw [er] at e
      exact e
    · have z' : ¬ ltr x j ≤ 0 := z
      have er : ltrs x (j + 1) = ltr x j :: ltrs x j := if_neg z'
      rw [er] at e
      obtain ⟨a, a1, a2, ea⟩ := lettersOk_at ok (by omega) z'
      rw [ea] at e
      show Ex ω ML_name 72 [some (.ref B), none, some (.long x), none, some (.int (nI (8 * j))), some (.int (ltr x j))] [] g 0 0 Q
      rw [ea]
      refine BL_name_72 hw c.o8 ?_
      refine w_type hw c a1 a2 (by omega) (fun g2 f2 c2 => ?_)
      refine BL_name_78 hw (BL_name_79 hw ?_)
      exact ih g2 _ (by omega) (f.trans f2) c2 (by rw [putC_2 (by omega)]; omega) e
def wordL (k : Nat) : Int64 := if k = 0 then 1937006969 else if k = 1 then 30064 else if k = 2 then 1685026670 else if k = 3 then 32762622355533678 else 32497656998945640
theorem wordL_ok : ∀ k, k < 5 → lettersOk (wordL k) = true ∧ ltrs (wordL k) 7 = nameC k 0 (lenS.getD k 0) := by
  intro k hk
  match k, hk with
  | 0, _ => exact ⟨by decide +kernel, by decide +kernel⟩
  | 1, _ => exact ⟨by decide +kernel, by decide +kernel⟩
  | 2, _ => exact ⟨by decide +kernel, by decide +kernel⟩
  | 3, _ => exact ⟨by decide +kernel, by decide +kernel⟩
  | 4, _ => exact ⟨by decide +kernel, by decide +kernel⟩
  | k + 5, hk => omega
theorem t_name_start (hw : ω.2.2.2.1 = true) {k : Nat} (hk : k < 5) (cw : CP h B N H p K) (hl : p.2 + 8 ≤ 100) (hq : ∀ h' : AH, Frm B (B + 324) h h' → CP h' B N H (putL (nameC k 0 (lenS.getD k 0) ++ [nI 32]) p) K → Q none h') : Ex ω ML_name 46 [some (.ref B), none, none, none, none, none] [.long (wordL k)] h 0 0 Q := by
  obtain ⟨ok, el⟩ := wordL_ok k hk
  have e48 : nI 48 = nI (8 * 7) + (-8) := by decide
  refine BL_name_46 hw ?_
  rw [e48]
  refine name_loop hw ok hq 7 h p (Nat.le_refl _) (Frm.refl _ _ _) cw (by omega) ?_
  rw [el]
theorem t_name (hw : ω.2.2.2.1 = true) {k : Nat} (hk : k < 5) (cw : CP h B N H p K) (hl : p.2 + 8 ≤ 100) (hq : ∀ h' : AH, Frm B (B + 324) h h' → CP h' B N H (putL (nameC k 0 (lenS.getD k 0) ++ [nI 32]) p) K → Q none h') : Ex ω ML_name 0 [some (.ref B), some (.int (nI k)), none, none, none, none] [] h 0 0 Q := by
  have start := t_name_start hw hk cw hl hq
  clear hq
  rcases (show k = 0 ∨ k = 1 ∨ k = 2 ∨ k = 3 ∨ k = 4 by omega) with e | e | e | e | e
  · rw [e] at start
    rw [e]
    rw [show wordL 0 = (1937006969 : Int64) from if_pos rfl] at start
    exact BL_name_0 hw (fun c => absurd rfl c) (fun _ => BL_name_4 hw start)
  · rw [e] at start
    rw [e]
    rw [show wordL 1 = (30064 : Int64) from (if_neg (by decide)).trans (if_pos rfl)] at start
    exact BL_name_0 hw (fun _ => BL_name_10 hw (fun c => absurd rfl c) (fun _ => BL_name_15 hw start)) (fun c => absurd c (by decide))
  · rw [e] at start
    rw [e]
    rw [show wordL 2 = (1685026670 : Int64) from (if_neg (by decide)).trans ((if_neg (by decide)).trans (if_pos rfl))] at start
    exact BL_name_0 hw (fun _ => BL_name_10 hw (fun _ => BL_name_21 hw (fun c => absurd rfl c) (fun _ => BL_name_26 hw start)) (fun c => absurd c (by decide))) (fun c => absurd c (by decide))
  · rw [e] at start
    rw [e]
    rw [show wordL 3 = (32762622355533678 : Int64) from (if_neg (by decide)).trans ((if_neg (by decide)).trans ((if_neg (by decide)).trans (if_pos rfl)))] at start
    exact BL_name_0 hw (fun _ => BL_name_10 hw (fun _ => BL_name_21 hw (fun _ => BL_name_32 hw (fun c => absurd rfl c) (fun _ => BL_name_37 hw start)) (fun c => absurd c (by decide))) (fun c => absurd c (by decide))) (fun c => absurd c (by decide))
  · rw [e] at start
    rw [e]
    rw [show wordL 4 = (32497656998945640 : Int64) from (if_neg (by decide)).trans ((if_neg (by decide)).trans ((if_neg (by decide)).trans (if_neg (by decide))))] at start
    exact BL_name_0 hw (fun _ => BL_name_10 hw (fun _ => BL_name_21 hw (fun _ => BL_name_32 hw (fun _ => BL_name_43 hw start) (fun c => absurd c (by decide))) (fun c => absurd c (by decide))) (fun c => absurd c (by decide))) (fun c => absurd c (by decide))
end LTY
/-- the amounts that programs draws -/
theorem amt_drawn {v : Nat} : ∀ kd : Nat, kd < 5 → amtLo kd ≤ (if kd = 0 then 1 + v % 6 else if kd < 3 then 5 + v % 60 else if kd = 3 then v % 200 else v % 301) ∧ (if kd = 0 then 1 + v % 6 else if kd < 3 then 5 + v % 60 else if kd = 3 then v % 200 else v % 301) ≤ amtHi kd := by
  intro kd hk
  unfold amtLo amtHi
  match kd, hk with
  | 0, _ => simp; omega
  | 1, _ => simp; omega
  | 2, _ => simp; omega
  | 3, _ => simp; omega
  | 4, _ => simp; omega
  | k + 5, hk => omega
