/-! the law's weak places: eight are given to a new roll, a ninth is refused -/
theorem rs_congr2 {N N' : Nat → Int32} : ∀ c : Nat, (∀ i, i < c → N' (20 + 20 * i) = N (20 + 20 * i) ∧ N' (20 + 20 * i + 2) = N (20 + 20 * i + 2)) → rs N' c = rs N c := by
  intro c
  induction c with
  | zero => intro _; rfl
  | succ c ih =>
    intro e
    show rs N' c + (N' (20 + 20 * c) - N' (20 + 20 * c + 2)) = rs N c + (N (20 + 20 * c) - N (20 + 20 * c + 2))
    rw [ih (fun i hi => e i (by omega)), (e c (by omega)).1, (e c (by omega)).2]
/-- a roll that has got k of its weak places -/
def WI (N : Nat → Int32) (r k : Nat) : Prop := N 0 = nI (r + 1) ∧ (∃ L : Nat, 100 ≤ L ∧ L ≤ 100000 ∧ N (20 + 20 * r) = nI L) ∧ N (20 + 20 * r + 2) = nI 0 ∧ N (20 + 20 * r + 3) = nI (min k 8) ∧ ∀ j, j < min k 8 → N (20 + 20 * r + (4 + j)) = nI (1 + 7 * j)
section LWK
variable {ω : Om} {Q : Option Value → AH → Prop} {h : AH} {B K : Nat} {N : Nat → Int32} {H : List (Nat → Int32)} {T : Nat → Int32} {len : Nat}
theorem wi_arg {r k p s : Nat} (wi : WI N r k) (r6 : r < 6) (p1 : 1 ≤ p) (p2 : p ≤ 99) (s2 : s ≤ 199) : wkArg N (r + 1) (nI r) (nI p) (nI s) := by
  obtain ⟨_, ⟨L, l1, l2, e0⟩, _, _, _⟩ := wi
  refine ⟨⟨nI_pos' (by omega), nI_lt (by omega) (by omega)⟩, ⟨nI_le p1 (by omega), ?_⟩, nI_pos' (by omega), nI_le s2 (by omega)⟩
  rw [nn_nI (by omega), Nat.add_zero, e0, pk_sub (by omega)]
  exact nI_le (by omega) (by omega)
theorem wi_same {r k i wk : Nat} (wi : WI N r k) (r6 : r < 6) (e1 : nI r = nI i) (hi : i < 7) (ek : N (20 + 20 * i + 3) = nI wk) (b8 : wk ≤ 8) : i = r ∧ wk = min k 8 := by
  have ie : r = i := (nI_eq (by omega) (by omega)).mp e1
  rw [← ie] at ek
  exact ⟨ie.symm, (nI_eq (by omega) (by omega)).mp (ek.symm.trans wi.2.2.2.1)⟩
theorem wi_c {r k c2 : Nat} (wi : WI N r k) (r6 : r < 6) (e : N 0 = nI c2) (b : c2 ≤ 6) : c2 = r + 1 := (nI_eq (by omega) (by omega)).mp (e.symm.trans wi.1)
theorem w_weaken2 (hw : ω.2.2.2.1 = true) (cw : CW h B N H T len K) {r k : Nat} (wi : WI N r k) (k1 : 1 ≤ k) (r6 : r < 6) (hq : Q (some (.int (-2))) h) : Ex ω M8_weaken 0 [some (.ref B), some (.int (nI r)), some (.int (nI 1)), some (.int (nI 5))] [] h 0 0 Q := by
  have ar := wi_arg (p := 1) (s := 5) wi r6 (by omega) (by omega) (by omega)
  have has : wkHas N r (min k 8) (nI 1) := Or.inr ⟨0, by omega, wi.2.2.2.2 0 (by omega)⟩
  refine t8_weaken hw cw (fun c2 e b z => ?_) (fun c2 i wk e b bi e1 ek b8 _ _ => hq) (fun c2 i wk e b bi e1 ek _ z w8 => ?_) (fun c2 i wk e b bi e1 ek _ z l8 => ?_)
  · rw [wi_c wi r6 e b] at z
    exact absurd ar z
  · obtain ⟨ie, we⟩ := wi_same wi r6 e1 (by omega) ek (by omega)
    rw [ie, we] at z
    exact absurd has z
  · obtain ⟨ie, we⟩ := wi_same wi r6 e1 (by omega) ek (by omega)
    rw [ie, we] at z
    exact absurd has z
theorem wi_new {r k : Nat} (wi : WI N r k) (k8 : k ≤ 8) : ¬ wkHas N r (min k 8) (nI (1 + k * 7)) := by
  rintro (z | ⟨j, hj, z⟩)
  · rw [show N (20 + 20 * r + 2) = nI 0 from wi.2.2.1, nI_leI (by omega) (by omega)] at z
    omega
  · rw [wi.2.2.2.2 j hj] at z
    have := (nI_eq (by omega) (by omega)).mp z
    omega
theorem wi_step {r k s : Nat} (wi : WI N r k) (k8 : k < 8) : WI (weakenN N r k (nI (1 + k * 7)) (nI s)) r (k + 1) := by
  obtain ⟨e0, ⟨L, l1, l2, el⟩, ep, ek, ew⟩ := wi
  have ne : ∀ j, j ≠ 20 + 20 * r + 3 → j ≠ 20 + 20 * r + (4 + k) → j ≠ 20 + 20 * r + (12 + k) → weakenN N r k (nI (1 + k * 7)) (nI s) j = N j := fun j a b c => by
    unfold weakenN
    rw [if_neg a, if_neg b, if_neg c]
  refine ⟨(ne 0 (by omega) (by omega) (by omega)).trans e0, ⟨L, l1, l2, (ne _ (by omega) (by omega) (by omega)).trans el⟩, (ne _ (by omega) (by omega) (by omega)).trans ep, ?_, fun j hj => ?_⟩
  · unfold weakenN
    rw [if_pos rfl, show min (k + 1) 8 = k + 1 by omega]
  · by_cases z : j = k
    · rw [z]
      unfold weakenN
      rw [if_neg (by omega), if_pos rfl, Nat.mul_comm]
    · rw [ne _ (by omega) (by omega) (by omega)]
      exact ew j (by omega)
theorem wi_last {r : Nat} (wi : WI N r 8) : WI N r 9 := wi
theorem shr_k : ∀ k, k < 9 → ((nI k &&& 31).toBitVec.smod 32).toNat = k := by decide
/-- the loop over the weak places of a new roll -/
theorem law_weak (hw : ω.2.2.2.1 = true) {b t r dd : Nat} {x3 x5 x6 : Int32} {h0 : AH} {gv : Int32} (r6 : r < 6) (hd : dd < 2 ^ 31) (cont : ∀ (u11 : Option Value) (g2 : AH) (N2 : Nat → Int32) (H2 : List (Nat → Int32)), gs g2 = gs h0 → CW g2 B N2 H2 T len K → N2 1 = nI 0 → N2 0 = nI (r + 1) → rs N2 (r + 1) + N2 8 = gv → Ex ω ML_law 287 [some (.ref b), some (.ref t), some (.ref B), some (.int x3), some (.int (nI 1)), some (.int x5), some (.int x6), some (.int (nI dd)), some (.int (nI r)), none, none, u11, none] [] g2 325 4064 Q) : ∀ (m k : Nat) (g : AH) (N : Nat → Int32) (H : List (Nat → Int32)), k + m = 9 → gs g = gs h0 → CW g B N H T len K → WI N r k → N 1 = nI 0 → rs N (r + 1) + N 8 = gv → Ex ω ML_law 197 [some (.ref b), some (.ref t), some (.ref B), some (.int x3), some (.int (nI 1)), some (.int x5), some (.int x6), some (.int (nI dd)), some (.int (nI r)), none, none, some (.int (nI k)), none] [] g 325 4064 Q := by
  intro m
  induction m with
  | zero =>
    intro k g N H hk gsg c wi n1 hS
    have k9 : k = 9 := by omega
    rw [k9]
    exact BL_law_197 hw (fun _ => cont _ g N H gsg c n1 wi.1 hS) (fun z => absurd (nI_le (Nat.le_refl _) (by omega)) z)
  | succ m ih =>
    intro k g N H hk gsg c wi n1 hS
    have k9 : k < 9 := by omega
    refine BL_law_197 hw (fun z => absurd z (nI_ge k9 (by omega))) (fun _ => ?_)
    refine BL_law_204 hw (fun z => absurd z (nI_ge r6 (by omega))) (fun _ => ?_)
    refine BL_law_211 hw (fun z => absurd z (by decide)) (fun _ => ?_)
    refine BL_law_216 hw c.o8 ?_
    have dk : dd / 2 ^ k < 2 ^ 31 := Nat.lt_of_le_of_lt (Nat.div_le_self _ _) hd
    have m200 : dd / 2 ^ k % 200 < 200 := Nat.mod_lt _ (by omega)
    rw [pk_mul, nI_add, pk_shrN hd _ k (shr_k k k9), pk_rem dk (by omega) (by omega)]
    generalize dd / 2 ^ k % 200 = s at m200 ⊢
    have ar := wi_arg (p := 1 + k * 7) (s := s) wi r6 (by omega) (by omega) (by omega)
    -- the second call, and on
    have nxt : ∀ (g2 : AH) (N2 : Nat → Int32) (H2 : List (Nat → Int32)), gs g2 = gs h0 → CW g2 B N2 H2 T len K → WI N2 r (k + 1) → N2 1 = nI 0 → rs N2 (r + 1) + N2 8 = gv → Ex ω ML_law 261 [some (.ref b), some (.ref t), some (.ref B), some (.int x3), none, some (.int x5), some (.int x6), some (.int (nI dd)), some (.int (nI r)), none, none, some (.int (nI k)), none] [] g2 325 4064 Q := fun g2 N2 H2 gs2 c2 wi2 n12 hS2 => by
      refine BL_law_261 hw c2.o8 (w_weaken2 hw c2 wi2 (by omega) r6 ?_)
      refine BL_law_269 hw (fun z => absurd rfl z) (fun _ => ?_)
      refine BL_law_274 hw (BL_law_279 hw ?_)
      rw [nI_add]
      exact ih (k + 1) g2 N2 H2 (by omega) gs2 c2 wi2 n12 hS2
    refine t8_weaken hw c (fun c2 e b z => ?_) (fun c2 i wk e b bi e1 ek b8 _ z => ?_) (fun c2 i wk e b bi e1 ek _ z w8 => ?_) (fun c2 i wk e b bi e1 ek _ z l8 g2 f2 c2' => ?_)
    · rw [wi_c wi r6 e b] at z
      exact absurd ar z
    · obtain ⟨ie, we⟩ := wi_same wi r6 e1 (by omega) ek (by omega)
      rw [ie, we] at z
      exact absurd z (wi_new wi (by omega))
    · obtain ⟨ie, we⟩ := wi_same wi r6 e1 (by omega) ek (by omega)
      have k8 : k = 8 := by omega
      subst k8
      refine BL_law_238 hw (fun z => absurd rfl z) (fun _ => ?_)
      refine BL_law_249 hw (BL_law_258 hw (fun z => absurd rfl z) (fun _ => ?_))
      exact nxt g N H gsg c (wi_last wi) n1 hS
    · obtain ⟨ie, we⟩ := wi_same wi r6 e1 (by omega) ek (by omega)
      have k8 : k < 8 := by omega
      have wk : wk = k := by omega
      rw [ie, wk] at c2'
      rw [wk]
      refine BL_law_238 hw (fun _ => ?_) (fun z => absurd ((nI_eq (by omega) (by omega)).mp z) (by omega))
      refine BL_law_254 hw (BL_law_258 hw (fun z => absurd (nI_add k 1).symm z) (fun _ => ?_))
      have ne : ∀ j, j ≠ 20 + 20 * r + 3 → j ≠ 20 + 20 * r + (4 + k) → j ≠ 20 + 20 * r + (12 + k) → weakenN N r k (nI (1 + k * 7)) (nI s) j = N j := fun j a b c => by
        unfold weakenN
        rw [if_neg a, if_neg b, if_neg c]
      refine nxt g2 _ _ (by rw [f2.1]; exact gsg) c2' (wi_step wi k8) ((ne 1 (by omega) (by omega) (by omega)).trans n1) ?_
      rw [rs_congr2 (r + 1) (fun i hi => ⟨ne _ (by omega) (by omega) (by omega), ne _ (by omega) (by omega) (by omega)⟩), ne 8 (by omega) (by omega) (by omega)]
      exact hS
end LWK
