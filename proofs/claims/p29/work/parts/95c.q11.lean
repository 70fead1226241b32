/-! the law's loop -/
section LLP
variable {ω : Om} {B : Nat}
def LQ : Option Value → AH → Prop := fun v _ => v = some (.int 1)
/-- what holds between the rounds -/
def LV (h : AH) (B K c : Nat) (g : Int32) : Prop := ∃ (N : Nat → Int32) (H : List (Nat → Int32)) (T : Nat → Int32) (len : Nat), CW h B N H T len K ∧ N 1 = nI 0 ∧ N 0 = nI c ∧ c ≤ 6 ∧ rs N c + N 8 = g
/-- behind the loop -/
theorem law_end (hw : ω.2.2.2.1 = true) {g : AH} {K c : Nat} {gv : Int32} (lv : LV g B K c gv) {u0 u1 u3 u5 u6 u7 u8 u9 u10 u11 u12 : Option Value} : Ex ω ML_law 423 [u0, u1, some (.ref B), u3, some (.int (nI 1)), u5, u6, u7, u8, u9, u10, u11, u12] [] g 325 4064 LQ := by
  obtain ⟨N, H, T, len, cw, n1, n0, c6, hS⟩ := lv
  refine BL_law_423 hw (fun z => absurd z (by decide)) (fun _ => ?_)
  have na : ∀ c2 : Nat, c2 ≤ 6 → ¬ wkArg N c2 (nI 6) (nI 1) (nI 1) := fun c2 b z => by
    have := z.1.2
    rw [nI_ltI (by omega) (by omega)] at this
    omega
  refine BL_law_428 hw cw.o8 ?_
  refine t8_weaken hw cw (fun c2 e b _ => ?_) (fun c2 i wk e b bi e1 ek b8 ar z => absurd ar (na c2 b)) (fun c2 i wk e b bi e1 ek ar z w8 => absurd ar (na c2 b)) (fun c2 i wk e b bi e1 ek ar z l8 _ _ _ => absurd ar (na c2 b))
  refine BL_law_436 hw (fun z => absurd rfl z) (fun _ => ?_)
  have ns1 : ¬ okSet (nI 2) (nI 0) := fun z => absurd z.1.2 (by decide)
  have ns2 : ¬ okSet (nI 1) (nI 21) := fun z => by
    have := z.2.2
    rw [if_neg (by decide)] at this
    exact absurd this (by decide)
  refine BL_law_440 hw cw.o8 ?_
  refine t8_set hw cw (fun _ => ?_) (fun j _ _ ok => absurd ok ns1)
  refine BL_law_446 hw (fun z => absurd rfl z) (fun _ => ?_)
  refine BL_law_450 hw cw.o8 ?_
  refine t8_set hw cw (fun _ => ?_) (fun j _ _ ok => absurd ok ns2)
  refine BL_law_457 hw (fun z => absurd rfl z) (fun _ => ?_)
  refine BL_law_461 hw cw.o8 (w_count hw cw countR_9 ?_)
  refine BL_law_467 hw (fun z => absurd rfl z) (fun _ => ?_)
  refine BL_law_471 hw cw.o8 ?_
  have nt : ¬ (nI 32 ≤ nI 31 ∧ nI 31 ≤ nI 126) := fun z => absurd z.1 (by decide)
  refine t8_type hw cw (fun _ => ?_) (fun ok _ => absurd ok nt) (fun ok _ _ _ _ => absurd ok nt)
  refine BL_law_477 hw (fun z => absurd rfl z) (fun _ => ?_)
  refine BL_law_481 hw (BL_law_486 hw rfl ?_)
  show some (Value.int (nI 1)) = some (Value.int 1)
  exact congrArg (fun q => some (Value.int q)) (by decide)
/-- a round from the program on -/
theorem law_second (hw : ω.2.2.2.1 = true) {t i cc dd K c : Nat} {g : AH} {gv : Int32} (ht : t < B) (st : gs g t = some (10, 24)) (hi : i < 10) (hc : cc < 2 ^ 31) (hd : dd < 2 ^ 31) (hK : K + 3 < 2 ^ 28) (lv : LV g B K c gv) (cont : ∀ (g2 : AH) (c2 : Nat), gs g2 = gs g → LV g2 B (K + 3) c2 gv → Ex ω ML_law 73 [some (.ref (ω.2.2.2.2.1 7)), some (.ref t), some (.ref B), some (.int gv), some (.int (nI 1)), some (.int (nI (i + 1))), none, none, none, none, none, none, none] [] g2 325 4064 LQ) {u8 u9 u10 u11 u12 : Option Value} : Ex ω ML_law 287 [some (.ref (ω.2.2.2.2.1 7)), some (.ref t), some (.ref B), some (.int gv), some (.int (nI 1)), some (.int (nI i)), some (.int (nI cc)), some (.int (nI dd)), u8, u9, u10, u11, u12] [] g 325 4064 LQ := by
  obtain ⟨N, H, T, len, cw, n1, n0, c6, hS⟩ := lv
  refine BL_law_287 hw (fun z => absurd z (by decide)) (fun _ => ?_)
  refine BL_law_292 hw ?_
  rw [pk_mul, nI_add]
  refine t_cell (by omega) (fun pv hpv => ?_)
  refine BL_law_303 hw ?_
  refine t_programs hw hpv cw (fun acc T1 len1 g1 a1 a5 f1 c1 => ?_)
  refine BL_law_307 hw (fun z => absurd ((nI_ltI (by omega) (by omega)).mp z) (by omega)) (fun _ => ?_)
  refine BL_law_311 hw ?_
  have ld : ∀ j, j ≠ 3 → j < 188 → loadN N acc j = N j := fun j a b => by
    unfold loadN
    rw [if_neg a, if_neg (by omega)]
  have l3 : loadN N acc 3 = nI acc.length := by unfold loadN; rw [if_pos rfl]
  refine t_isWritten hw ht (by rw [f1.1]; exact st) c1 l3 a1 a5 (fun T2 len2 g2 gs2 c2 => ?_)
  refine BL_law_318 hw (fun z => absurd z (by decide)) (fun _ => ?_)
  refine BL_law_321 hw c2.o8 ?_
  have m21 : dd % 21 < 21 := Nat.mod_lt _ (by omega)
  rw [pk_rem hd (by omega) (by omega)]
  have oks : okSet (nI 1) (nI (dd % 21)) := ⟨⟨by decide, by decide⟩, nI_pos' (by omega), by rw [if_neg (by decide)]; exact nI_le (by omega) (by omega)⟩
  refine t8_set hw c2 (fun z => absurd oks z) (fun j ej j2 _ g3 f3 c3 => ?_)
  have j1 : 1 = j := (nI_eq (by omega) (by omega)).mp ej
  subst j1
  have pos5 : ∃ pa : Nat, loadN N acc (4 + 1) = nI pa ∧ pa ≤ 20 := by
    obtain ⟨_, _, _, _, _, _, _, _, iv⟩ := c2.2.1
    exact iv.2.2.2.2.1
  obtain ⟨pa, ep, pa20⟩ := pos5
  rw [ep]
  refine BL_law_331 hw (fun z => absurd z (nI_pos (by omega))) (fun _ => ?_)
  refine BL_law_334 hw (BL_law_339 hw (fun z => absurd z (by decide)) (fun _ => ?_))
  refine BL_law_346 hw c3.o8 ?_
  have e6 : nI dd >>> (nI 6 &&& 31) = nI (dd / 2 ^ 6) := pk_shrN hd _ 6 (by decide)
  have e2 : nI dd >>> (nI 2 &&& 31) = nI (dd / 2 ^ 2) := pk_shrN hd _ 2 (by decide)
  have e4 : nI dd >>> (nI 4 &&& 31) = nI (dd / 2 ^ 4) := pk_shrN hd _ 4 (by decide)
  have b6 : dd / 2 ^ 6 < 2 ^ 31 := Nat.lt_of_le_of_lt (Nat.div_le_self _ _) hd
  have b2 : dd / 2 ^ 2 < 2 ^ 31 := Nat.lt_of_le_of_lt (Nat.div_le_self _ _) hd
  have b4 : dd / 2 ^ 4 < 2 ^ 31 := Nat.lt_of_le_of_lt (Nat.div_le_self _ _) hd
  rw [e6, e2, e4, pk_rem hd (by omega) (by omega), pk_rem b6 (by omega) (by omega), pk_rem b2 (by omega) (by omega), pk_rem b4 (by omega) (by omega), nI_add, nI_add, nI_add]
  have p1 : dd % 181 < 181 := Nat.mod_lt _ (by omega)
  have p2 : dd / 2 ^ 6 % 181 < 181 := Nat.mod_lt _ (by omega)
  have p3 : dd / 2 ^ 2 % 241 < 241 := Nat.mod_lt _ (by omega)
  have p4 : dd / 2 ^ 4 % 5001 < 5001 := Nat.mod_lt _ (by omega)
  generalize dd % 181 = q1 at p1 ⊢
  generalize dd / 2 ^ 6 % 181 = q2 at p2 ⊢
  generalize dd / 2 ^ 2 % 241 = q3 at p3 ⊢
  generalize dd / 2 ^ 4 % 5001 = q4 at p4 ⊢
  have okp : okPal (nI (20 + q1)) (nI (20 + q2)) (nI (10 + q3)) (nI q4) (nI i) := ⟨⟨nI_le (by omega) (by omega), nI_le (by omega) (by omega)⟩, ⟨nI_le (by omega) (by omega), nI_le (by omega) (by omega)⟩, ⟨nI_le (by omega) (by omega), nI_le (by omega) (by omega)⟩, ⟨nI_pos' (by omega), nI_le (by omega) (by omega)⟩, nI_pos' (by omega), nI_le (by omega) (by omega)⟩
  have up : ∀ j, j ≠ 5 → j ≠ 3 → j < 188 → upd (loadN N acc) (4 + 1) (nI (dd % 21)) j = N j := fun j a b c => (upd_ne _ _ (by omega)).trans (ld j b c)
  have u1 : upd (loadN N acc) (4 + 1) (nI (dd % 21)) 1 = nI 0 := (up 1 (by omega) (by omega) (by omega)).trans n1
  have wz : ∀ w : Nat, upd (loadN N acc) (4 + 1) (nI (dd % 21)) 1 = nI w → w < 2 ^ 31 → w = 0 := fun w e b => (nI_eq b (by omega)).mp (e.symm.trans u1)
  have nx : ∃ nx : Nat, upd (loadN N acc) (4 + 1) (nI (dd % 21)) 2 = nI nx ∧ nx ≤ K := by
    obtain ⟨_, _, _, x, _, _, _, _, iv⟩ := c3.2.1
    exact ⟨x, iv.2.2.2.2.2.2.1⟩
  obtain ⟨nx, en, nxK⟩ := nx
  refine t8_addPallet hw c3 (by omega) (fun z => absurd okp z) (fun w e _ w8 => by have := wz w e (by omega); omega) (fun w e _ w8 g4 f4 c4 => ?_)
  have w0 : w = 0 := wz w e (by omega)
  subst w0
  rw [en]
  refine BL_law_392 hw (fun z => absurd z (nI_pos (by omega))) (fun _ => ?_)
  refine BL_law_395 hw ?_
  have ap : ∀ j, j ≠ 1 → j ≠ 2 → j < 140 → ∀ F : Nat → Int32, addPalletN F 0 (nI (20 + q1)) (nI (20 + q2)) (nI (10 + q3)) (nI q4) (nI i) j = F j := fun j a b c F => by
    unfold addPalletN
    rw [if_neg a, if_neg b, if_neg (by omega), if_neg (by omega), if_neg (by omega), if_neg (by omega), if_neg (by omega), if_neg (by omega)]
  have a1' : ∀ F : Nat → Int32, addPalletN F 0 (nI (20 + q1)) (nI (20 + q2)) (nI (10 + q3)) (nI q4) (nI i) 1 = nI 1 := fun F => by
    unfold addPalletN
    rw [if_pos rfl]
  have all : ∀ j, j ≠ 1 → j ≠ 2 → j ≠ 3 → j ≠ 5 → j < 140 → addPalletN (upd (loadN N acc) (4 + 1) (nI (dd % 21))) 0 (nI (20 + q1)) (nI (20 + q2)) (nI (10 + q3)) (nI q4) (nI i) j = N j := fun j h1 h2 h3 h5 hj => (ap j h1 h2 hj _).trans (up j h5 h3 (by omega))
  refine t_isUndone (c := c) hw c4 (a1' _) (by omega) ((all 0 (by omega) (by omega) (by omega) (by omega) (by omega)).trans n0) c6 (fun N5 H5 c5 g5 f5 cw5 n51 n50 c56 film => ?_)
  refine BL_law_399 hw (fun z => absurd z (by decide)) (fun _ => ?_)
  refine BL_law_402 hw ?_
  have hS5 : rs N5 c5 + N5 8 = gv := by
    rw [film, rs_congr c (fun j j1 j2 => all j (by omega) (by omega) (by omega) (by omega) (by omega)), all 8 (by omega) (by omega) (by omega) (by omega) (by omega)]
    exact hS
  refine t_isKept hw cw5 n50 c56 hS5 ?_
  refine BL_law_407 hw (fun z => absurd z (by decide)) (fun _ => ?_)
  refine BL_law_410 hw (BL_law_415 hw ?_)
  rw [nI_add]
  exact cont g5 c5 (by rw [f5.1, f4.1, f3.1, gs2, f1.1]) ⟨N5, H5, T2, len2, cw5, n51, n50, c56, hS5⟩
/-- a round -/
theorem law_round (hw : ω.2.2.2.1 = true) {t i K c : Nat} {g : AH} {gv : Int32} (ht : t < B) (st : gs g t = some (10, 24)) (hi : i < 10) (hK : K + 3 < 2 ^ 28) (lv : LV g B K c gv) (cont : ∀ (g2 : AH) (c2 : Nat) (gv2 : Int32), gs g2 = gs g → LV g2 B (K + 3) c2 gv2 → Ex ω ML_law 73 [some (.ref (ω.2.2.2.2.1 7)), some (.ref t), some (.ref B), some (.int gv2), some (.int (nI 1)), some (.int (nI (i + 1))), none, none, none, none, none, none, none] [] g2 325 4064 LQ) : Ex ω ML_law 73 [some (.ref (ω.2.2.2.2.1 7)), some (.ref t), some (.ref B), some (.int gv), some (.int (nI 1)), some (.int (nI i)), none, none, none, none, none, none, none] [] g 325 4064 LQ := by
  refine BL_law_73 hw (fun z => absurd z (nI_ge hi (by omega))) (fun _ => ?_)
  refine BL_law_80 hw (fun z => absurd z (by decide)) (fun _ => ?_)
  refine BL_law_85 hw ?_
  rw [pk_mul]
  refine t_cell (by omega) (fun cc hcc => ?_)
  refine BL_law_93 hw ?_
  rw [pk_mul, nI_add]
  refine t_cell (by omega) (fun dd hdd => ?_)
  obtain ⟨N, H, T, len, cw, n1, n0, c6, hS⟩ := id lv
  refine BL_law_105 hw cw.o8 (w_count hw cw (countR_0.trans n0) ?_)
  refine BL_law_112 hw (fun _ => law_second hw ht st hi hcc hdd hK lv (fun g2 c2 => cont g2 c2 gv)) (fun _ => ?_)
  refine BL_law_122 hw cw.o8 ?_
  have e4 : nI cc >>> (nI 4 &&& 31) = nI (cc / 2 ^ 4) := pk_shrN hcc _ 4 (by decide)
  have b4 : cc / 2 ^ 4 < 2 ^ 31 := Nat.lt_of_le_of_lt (Nat.div_le_self _ _) hcc
  rw [e4, pk_rem b4 (by omega) (by omega), pk_rem hcc (by omega) (by omega), nI_add, nI_add]
  have p1 : cc / 2 ^ 4 % 30000 < 30000 := Nat.mod_lt _ (by omega)
  have p2 : cc % 50 < 50 := Nat.mod_lt _ (by omega)
  generalize cc / 2 ^ 4 % 30000 = q1 at p1 ⊢
  generalize cc % 50 = q2 at p2 ⊢
  have okr : okRoll (nI (100 + q1)) (nI (1 + q2)) := ⟨⟨nI_le (by omega) (by omega), nI_le (by omega) (by omega)⟩, nI_le (by omega) (by omega), nI_le (by omega) (by omega)⟩
  have ce : ∀ c2 : Nat, N 0 = nI c2 → c2 ≤ 6 → c2 = c := fun c2 e b => (nI_eq (by omega) (by omega)).mp (e.symm.trans n0)
  refine t8_addRoll hw cw (fun z => absurd okr z) (fun c2 e _ e6 => ?_) (fun c2 e _ l6 g1 f1 c1 => ?_)
  · have ec := ce c2 e (by omega)
    have ec6 : c = 6 := by omega
    subst ec6
    refine BL_law_148 hw (fun z => absurd rfl z) (fun _ => ?_)
    refine BL_law_159 hw (BL_law_168 hw (fun z => absurd rfl z) (fun _ => ?_))
    refine BL_law_171 hw (BL_law_176 hw (fun z => absurd rfl z) (fun _ => ?_))
    refine BL_law_186 hw (BL_law_192 hw ?_)
    rw [show gv + nI 0 = gv from Int32.add_zero gv]
    refine BL_law_197 hw (fun z => absurd z (by decide)) (fun _ => ?_)
    exact BL_law_204 hw (fun _ => law_second hw ht st hi hcc hdd hK lv (fun g2 c2 => cont g2 c2 gv)) (fun z => absurd (nI_le (Nat.le_refl _) (by omega)) z)
  · have ec := ce c2 e (by omega)
    subst ec
    refine BL_law_148 hw (fun _ => ?_) (fun z => absurd ((nI_eq (by omega) (by omega)).mp z) (by omega))
    refine BL_law_164 hw (BL_law_168 hw (fun z => absurd (nI_add c2 1).symm z) (fun _ => ?_))
    refine BL_law_171 hw (BL_law_176 hw (fun _ => ?_) (fun z => absurd ((nI_eq (by omega) (by omega)).mp z) (by omega)))
    refine BL_law_190 hw (BL_law_192 hw ?_)
    have ad : ∀ j, 1 ≤ j → j < 20 + 20 * c2 → addRollN N c2 (nI (100 + q1)) (nI (1 + q2)) j = N j := fun j a b => by
      unfold addRollN
      rw [if_neg (by omega), if_neg (by omega), if_neg (by omega), if_neg (by omega)]
    have a0 : addRollN N c2 (nI (100 + q1)) (nI (1 + q2)) 0 = nI (c2 + 1) := by
      unfold addRollN
      rw [if_pos rfl]
    have al : addRollN N c2 (nI (100 + q1)) (nI (1 + q2)) (20 + 20 * c2) = nI (100 + q1) := by
      unfold addRollN
      rw [if_neg (by omega), if_pos rfl]
    have az : ∀ o, 2 ≤ o → o < 20 → addRollN N c2 (nI (100 + q1)) (nI (1 + q2)) (20 + 20 * c2 + o) = nI 0 := fun o a b => by
      unfold addRollN
      rw [if_neg (by omega), if_neg (by omega), if_neg (by omega), if_pos (by omega)]
      decide
    have wi : WI (addRollN N c2 (nI (100 + q1)) (nI (1 + q2))) c2 0 := ⟨a0, ⟨100 + q1, by omega, by omega, al⟩, az 2 (by omega) (by omega), az 3 (by omega) (by omega), fun j hj => by omega⟩
    have hS1 : rs (addRollN N c2 (nI (100 + q1)) (nI (1 + q2))) (c2 + 1) + addRollN N c2 (nI (100 + q1)) (nI (1 + q2)) 8 = gv + nI (100 + q1) := by
      show rs (addRollN N c2 (nI (100 + q1)) (nI (1 + q2))) c2 + (addRollN N c2 (nI (100 + q1)) (nI (1 + q2)) (20 + 20 * c2) - addRollN N c2 (nI (100 + q1)) (nI (1 + q2)) (20 + 20 * c2 + 2)) + addRollN N c2 (nI (100 + q1)) (nI (1 + q2)) 8 = _
      rw [rs_congr c2 (fun j j1 j2 => ad j (by omega) j2), al, az 2 (by omega) (by omega), ad 8 (by omega) (by omega), show nI 0 = (0 : Int32) from by decide, Int32.sub_zero, i_comm3, hS]
    refine law_weak (h0 := g) hw l6 hdd (fun u11 g2 N2 H2 gs2 cw2 n21 n20 hS2 => ?_) 9 0 g1 _ _ (by omega) f1.1 c1 wi ((ad 1 (by omega) (by omega)).trans n1) hS1
    exact law_second hw ht (by rw [gs2]; exact st) hi hcc hdd hK ⟨N2, H2, T, len, cw2, n21, n20, by omega, hS2⟩ (fun g3 c3 gs3 => cont g3 c3 _ (gs3.trans gs2))
theorem law_loop (hw : ω.2.2.2.1 = true) {t : Nat} (ht : t < B) : ∀ (m i c : Nat) (g : AH) (gv : Int32), i + m = 10 → gs g t = some (10, 24) → LV g B (3 * i) c gv → Ex ω ML_law 73 [some (.ref (ω.2.2.2.2.1 7)), some (.ref t), some (.ref B), some (.int gv), some (.int (nI 1)), some (.int (nI i)), none, none, none, none, none, none, none] [] g 325 4064 LQ := by
  intro m
  induction m with
  | zero =>
    intro i c g gv hi st lv
    have e : i = 10 := by omega
    rw [e]
    exact BL_law_73 hw (fun _ => law_end hw lv) (fun z => absurd (nI_le (Nat.le_refl _) (by omega)) z)
  | succ m ih =>
    intro i c g gv hi st lv
    refine law_round hw ht st (by omega) (by omega) lv (fun g2 c2 gv2 gs2 lv2 => ?_)
    exact ih (i + 1) c2 g2 gv2 (by omega) (by rw [gs2]; exact st) lv2
end LLP
