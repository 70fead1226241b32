/-! the model's constructor; all references point where they should -/
/-- what a points to -/
def RF (g : AH) (a : Nat) : Prop := ∀ t n, gs g a = some (t, n) → ∀ k, k < n → kd t k = 1 → gs g (gr g a k) = some (tgt t k)
theorem RF_of {g : AH} {a t n : Nat} (s : gs g a = some (t, n)) (e : ∀ k, k < n → kd t k = 1 → gs g (gr g a k) = some (tgt t k)) : RF g a := fun t' n' q k hk hkd => by
  rw [s] at q
  obtain ⟨rfl, rfl⟩ := Prod.mk.inj (Option.some.inj q)
  exact e k hk hkd
theorem RF_no {g : AH} {a t n : Nat} (s : gs g a = some (t, n)) (e : ∀ k, k < n → kd t k ≠ 1) : RF g a := RF_of s (fun k hk hkd => absurd hkd (e k hk))
theorem RF_10 {g : AH} {a n : Nat} (s : gs g a = some (10, n)) : RF g a := RF_no s (fun k _ => by show (0 : Nat) ≠ 1; omega)
theorem RF_11 {g : AH} {a n : Nat} (s : gs g a = some (11, n)) : RF g a := RF_no s (fun k _ => by show (0 : Nat) ≠ 1; omega)
theorem RF_1 {g : AH} {a : Nat} (s : gs g a = some (1, 6)) : RF g a := RF_no s (by decide)
theorem RF_6 {g : AH} {a : Nat} (s : gs g a = some (6, 12)) : RF g a := RF_no s (by decide)
theorem RF_O3 {g : AH} {t n r i j a : Nat} (o : O3 g t n r i j a) (e : ∀ k, k < n → kd t k = 1 → (k = i ∨ k = j) ∧ tgt t k = (10, r)) : RF g a ∧ RF g (a + 1) ∧ RF g (a + 2) := by
  obtain ⟨a1, a2, a3, a4, a5⟩ := o
  refine ⟨RF_of a1 (fun k hk hkd => ?_), RF_10 a2, RF_10 a3⟩
  obtain ⟨e1, e2⟩ := e k hk hkd
  rw [e2]
  rcases e1 with rfl | rfl
  · rw [a4]; exact a2
  · rw [a5]; exact a3
theorem kd4 : ∀ k, k < 6 → kd 4 k = 1 → (k = 4 ∨ k = 5) ∧ tgt 4 k = (10, 8) := by decide
theorem kd3 : ∀ k, k < 15 → kd 3 k = 1 → (k = 13 ∨ k = 14) ∧ tgt 3 k = (10, 25) := by decide
theorem kd2 : ∀ k, k < 3 → kd 2 k = 1 → (k = 1 ∨ k = 2) ∧ tgt 2 k = (10, 12) := by decide
theorem kd5 : ∀ k, k < 11 → kd 5 k = 1 → k = 0 ∨ k = 2 ∨ k = 5 ∨ k = 7 ∨ k = 8 := by decide
theorem kd8 : ∀ k, k < 8 → kd 8 k = 1 → k = 0 ∨ k = 1 ∨ k = 2 ∨ k = 4 ∨ k = 5 ∨ k = 6 ∨ k = 7 := by decide
theorem kd0 : ∀ k, k < 7 → kd 0 k = 1 → k = 0 := by decide
theorem kd7 : ∀ k, k < 2 → kd 7 k = 1 → k = 0 := by decide
theorem RF_S {g : AH} {x : Nat} (l : LayS g x) : ∀ b, x ≤ b → b < x + 52 → RF g b := by
  obtain ⟨⟨s1, s2, s3, s4, s5, s6⟩, ⟨f0, f1, f2, f3, f4, f5, f6, f7⟩, c, d, f⟩ := l
  have rolls : ∀ i, i < 6 → RF g (x + 2 + 3 * i) ∧ RF g (x + 2 + 3 * i + 1) ∧ RF g (x + 2 + 3 * i + 2) := fun i hi => RF_O3 (f6 i hi) kd4
  have ress : ∀ i, i < 6 → RF g (x + 30 + 3 * i) ∧ RF g (x + 30 + 3 * i + 1) ∧ RF g (x + 30 + 3 * i + 2) := fun i hi => RF_O3 (f7 i hi) kd3
  have prog := RF_O3 f5 kd2
  intro b h1 h2
  by_cases c0 : b = x
  · subst c0
    refine RF_of s1 (fun k hk hkd => ?_)
    rcases kd5 k hk hkd with rfl | rfl | rfl | rfl | rfl
    · rw [f0]; exact s2
    · rw [f1]; exact s3
    · rw [f2]; exact s4
    · rw [f3]; exact f5.1
    · rw [f4]; exact s5
  by_cases c1 : b = x + 1
  · subst c1
    refine RF_of s2 (fun k hk _ => ?_)
    obtain ⟨j, hj, e⟩ := c.1 k hk
    rw [e]; exact (f6 j hj).1
  by_cases c2 : b < x + 20
  · obtain ⟨r0, r1, r2⟩ := rolls ((b - (x + 2)) / 3) (by omega)
    have : b = x + 2 + 3 * ((b - (x + 2)) / 3) ∨ b = x + 2 + 3 * ((b - (x + 2)) / 3) + 1 ∨ b = x + 2 + 3 * ((b - (x + 2)) / 3) + 2 := by omega
    rcases this with q | q | q <;> rw [q] <;> assumption
  by_cases c3 : b = x + 20
  · subst c3
    refine RF_of s3 (fun k hk _ => ?_)
    obtain ⟨j, hj, e⟩ := d.1 k hk
    rw [e]; exact s6 j hj
  by_cases c4 : b < x + 29
  · have := s6 (b - (x + 21)) (by omega)
    rw [show x + 21 + 1 * (b - (x + 21)) = b from by omega] at this
    exact RF_1 this
  by_cases c5 : b = x + 29
  · subst c5
    refine RF_of s4 (fun k hk _ => ?_)
    obtain ⟨j, hj, e⟩ := f.1 k hk
    rw [e]; exact (f7 j hj).1
  by_cases c6 : b < x + 48
  · obtain ⟨r0, r1, r2⟩ := ress ((b - (x + 30)) / 3) (by omega)
    have : b = x + 30 + 3 * ((b - (x + 30)) / 3) ∨ b = x + 30 + 3 * ((b - (x + 30)) / 3) + 1 ∨ b = x + 30 + 3 * ((b - (x + 30)) / 3) + 2 := by omega
    rcases this with q | q | q <;> rw [q] <;> assumption
  by_cases c7 : b = x + 48
  · rw [c7]; exact prog.1
  by_cases c8 : b = x + 49
  · rw [c8]; exact prog.2.1
  by_cases c9 : b = x + 50
  · rw [c9]; exact prog.2.2
  · rw [show b = x + 51 from by omega]; exact RF_6 s5
theorem RF_W {g : AH} {B : Nat} (n : NewW g B) : ∀ b, B ≤ b → b < B + 324 → RF g b := by
  obtain ⟨⟨⟨s1, s2, s3, s4, s5, s6⟩, ⟨r0, r1, r2, r3, r4, r5, r6⟩, t, p, l1, l2, l3, hh⟩, _, _, _, o, c⟩ := n
  have pr := RF_O3 p kd2
  have po := RF_O3 o kd2
  intro b h1 h2
  by_cases c0 : b = B
  · subst c0
    refine RF_of s1 (fun k hk hkd => ?_)
    rcases kd8 k hk hkd with rfl | rfl | rfl | rfl | rfl | rfl | rfl
    · rw [r0]; exact l1.1.1
    · rw [r1]; exact l2.1.1
    · rw [r2]; exact s2
    · rw [r3]; exact s3
    · rw [r4]; exact p.1
    · rw [r5]; exact s5
    · rw [r6]; exact s6
  by_cases c1 : b < B + 53
  · exact RF_S l1 b (by omega) (by omega)
  by_cases c2 : b < B + 105
  · exact RF_S l2 b (by omega) (by omega)
  by_cases c3 : b = B + 105
  · subst c3
    refine RF_of s2 (fun k hk _ => ?_)
    obtain ⟨j, hj, e⟩ := hh.1 k hk
    rw [e]; exact (l3 j hj).1.1
  by_cases c4 : b < B + 314
  · exact RF_S (l3 ((b - (B + 106)) / 52) (by omega)) b (by omega) (by omega)
  by_cases c5 : b = B + 314
  · subst c5
    refine RF_of s3 (fun k hk hkd => ?_)
    rw [kd7 k hk hkd, t]; exact s4
  by_cases c6 : b = B + 315
  · rw [c6]; exact RF_11 s4
  by_cases c7 : b = B + 316
  · rw [c7]; exact pr.1
  by_cases c8 : b = B + 317
  · rw [c8]; exact pr.2.1
  by_cases c9 : b = B + 318
  · rw [c9]; exact pr.2.2
  by_cases d0 : b = B + 319
  · subst d0
    refine RF_of s5 (fun k hk hkd => ?_)
    rw [kd0 k hk hkd, c]; exact o.1
  by_cases d1 : b = B + 320
  · rw [d1]; exact po.1
  by_cases d2 : b = B + 321
  · rw [d2]; exact po.2.1
  by_cases d3 : b = B + 322
  · rw [d3]; exact po.2.2
  · rw [show b = B + 323 from by omega]; exact RF_10 s6
/-- the row at the start -/
def N00 : Nat → Int32 := upd (upd (fun _ => 0) 4 (nI 30)) 5 (nI 3)
theorem INV_0 : INV N00 0 0 0 0 0 0 0 [] := by
  have z : ∀ j, j ≠ 4 → j ≠ 5 → N00 j = 0 := fun j h1 h2 => by unfold N00; rw [upd_ne _ _ h2, upd_ne _ _ h1]
  have so : StepsOk [] := fun q hq => absurd hq List.not_mem_nil
  have ra : RowA (fun j => N00 (188 + j)) [] := fun i q hq => absurd hq (by simp)
  have si : SI N00 [] := And.intro (z 3 (by omega) (by omega)) (And.intro (Nat.zero_le _) (And.intro so ra))
  refine ⟨⟨z 0 (by omega) (by omega), by omega, fun i hi => by omega⟩, ⟨z 1 (by omega) (by omega), by omega, fun i hi => by omega, fun i j h1 h2 => by omega⟩, si, ⟨30, by unfold N00; rw [upd_ne _ _ (by omega), upd_eq], by omega⟩, ⟨3, by unfold N00; rw [upd_eq], by omega⟩, ⟨z 7 (by omega) (by omega), Nat.le_refl _⟩, ⟨z 2 (by omega) (by omega), Nat.le_refl _⟩, fun i hi => by omega, ⟨z 18 (by omega) (by omega), by omega, z 19 (by omega) (by omega), Nat.le_refl _⟩, fun i hi => ⟨0, by omega, z _ (by omega) (by omega)⟩, fun j hj => z j (by omega) (by omega)⟩
theorem ValS_0 {g : AH} {x : Nat} (n : NewSt g x) : ValS g x N00 0 0 0 [] := by
  obtain ⟨l, e, zz⟩ := n
  have z : ∀ j, j ≠ 4 → j ≠ 5 → N00 j = 0 := fun j h1 h2 => by unfold N00; rw [upd_ne _ _ h2, upd_ne _ _ h1]
  have g0 : ∀ k, k ≠ 9 → k ≠ 10 → gi g x k = nI 0 := fun k h1 h2 => by rw [e, upd_ne _ _ h2, upd_ne _ _ h1]; rfl
  have y : ∀ b, x < b → b < x + 52 → ∀ k, gi g b k = 0 := fun b h1 h2 k => by rw [(zz b h1 h2).1]
  refine ⟨⟨g0 1 (by omega) (by omega), by omega, fun i hi => by omega⟩, ⟨g0 3 (by omega) (by omega), by omega, ⟨List.Perm.refl _, fun i j h1 h2 => by omega⟩⟩, by rw [g0 4 (by omega) (by omega), z 2 (by omega) (by omega)]; rfl, ⟨g0 6 (by omega) (by omega), fun i hi => by omega⟩, ⟨y _ (by omega) (by omega) 0, by decide, fun i q hq => by simp at hq⟩, ?_, ?_, ?_⟩
  · have s := y (x + 51) (by omega) (by omega)
    refine ⟨?_, ?_, ?_, ?_, ?_, ?_, ?_, ?_, ?_, ?_, ?_, ?_, ?_⟩
    all_goals first
      | (rw [s, z _ (by omega) (by omega)]; done)
      | skip
    · rw [z 8 (by omega) (by omega), z 9 (by omega) (by omega), z 10 (by omega) (by omega), z 11 (by omega) (by omega), z 12 (by omega) (by omega)]; rfl
    · rw [(zz (x + 51) (by omega) (by omega)).2]
      unfold weightR
      rw [z 18 (by omega) (by omega), z 19 (by omega) (by omega)]; rfl
  · rw [e, upd_ne _ _ (by omega), upd_eq]; unfold N00; rw [upd_ne _ _ (by omega), upd_eq]
  · rw [e, upd_eq]; unfold N00; rw [upd_eq]
theorem CW_0 {g : AH} {B : Nat} (n : NewW g B) : CW g B N00 [] (fun _ => 0) 0 0 := by
  obtain ⟨l, s, b, t, _, _⟩ := n
  refine ⟨l, ⟨0, 0, 0, 0, 0, 0, [], ValS_0 s, INV_0⟩, ⟨by rw [b]; rfl, by show (0 : Nat) ≤ 4; omega, fun i N hi => by simp at hi⟩, ⟨by rw [t]; rfl, by omega, fun i hi => by omega⟩⟩

