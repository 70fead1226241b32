/-! texts: what is written is read again; with a sign more its last step is wrong -/
theorem putC_lt {p : (Nat → Int32) × Nat} (hp : p.2 < 100) (c : Int32) : putC p c = (upd p.1 p.2 c, p.2 + 1) := if_pos hp
/-- l stands at s -/
def Tx (T : Nat → Int32) (s : Nat) (l : List Int32) : Prop := ∀ (i : Nat) (c : Int32), l[i]? = some c → T (s + i) = c
theorem Tx.left {T : Nat → Int32} {s : Nat} {a b : List Int32} (h : Tx T s (a ++ b)) : Tx T s a := fun i c hi => h i c (by rw [List.getElem?_append_left (List.getElem?_eq_some_iff.mp hi).1]; exact hi)
theorem Tx.right {T : Nat → Int32} {s : Nat} {a b : List Int32} (h : Tx T s (a ++ b)) : Tx T (s + a.length) b := fun i c hi => by
  have := h (a.length + i) c (by rw [List.getElem?_append_right (by omega), Nat.add_sub_cancel_left]; exact hi)
  rw [Nat.add_assoc]; exact this
theorem Tx.head {T : Nat → Int32} {s : Nat} {c : Int32} {l : List Int32} (h : Tx T s (c :: l)) : T s = c := h 0 c rfl
theorem Tx.tail {T : Nat → Int32} {s : Nat} {c : Int32} {l : List Int32} (h : Tx T s (c :: l)) : Tx T (s + 1) l := fun i c' hi => by
  have := h (i + 1) c' hi
  rw [show s + 1 + i = s + (i + 1) by omega]; exact this
theorem putL_at : ∀ (l : List Int32) (p : (Nat → Int32) × Nat), p.2 + l.length ≤ 100 → (putL l p).2 = p.2 + l.length ∧ Tx (putL l p).1 p.2 l ∧ ∀ j, j < p.2 → (putL l p).1 j = p.1 j := by
  intro l
  induction l with
  | nil => intro p _; exact ⟨rfl, fun i c h => by simp at h, fun _ _ => rfl⟩
  | cons c l ih =>
    intro p hp
    have hl : (c :: l).length = l.length + 1 := rfl
    rw [hl] at hp
    have e : putL (c :: l) p = putL l (upd p.1 p.2 c, p.2 + 1) := by
      show putL l (putC p c) = _
      rw [putC_lt (by omega)]
    obtain ⟨h1, h2, h3⟩ := ih (upd p.1 p.2 c, p.2 + 1) (by show p.2 + 1 + l.length ≤ 100; omega)
    rw [e]
    refine ⟨by rw [h1, hl]; show p.2 + 1 + l.length = _; omega, fun i x hi => ?_, fun j hj => ?_⟩
    · cases i with
      | zero =>
        have hx : c = x := Option.some.inj hi
        rw [← hx]
        exact (h3 p.2 (Nat.lt_succ_self _)).trans (upd_eq _ _ _)
      | succ i =>
        have := h2 i x hi
        rw [show p.2 + (i + 1) = p.2 + 1 + i by omega]; exact this
    · exact (h3 j (by show j < p.2 + 1; omega)).trans (upd_ne _ _ (by omega))
theorem nameC_len (k : Nat) : ∀ d j, (nameC k j d).length = d := by
  intro d
  induction d with
  | zero => intro j; rfl
  | succ d ih => intro j; show (nameC k (j + 1) d).length + 1 = d + 1; rw [ih]
theorem nameC_get (k : Nat) : ∀ d j i, i < d → (nameC k j d)[i]? = some (chS k (j + i)) := by
  intro d
  induction d with
  | zero => intro j i h; omega
  | succ d ih =>
    intro j i h
    cases i with
    | zero => rfl
    | succ i =>
      show (nameC k (j + 1) d)[i]? = _
      rw [ih (j + 1) i (by omega), show j + 1 + i = j + (i + 1) by omega]
theorem digC_1 {a : Nat} (h : a ≤ 9) : digC a = [nI (48 + a % 10)] := by
  unfold digC; rw [if_neg (by omega), if_neg (by omega)]; rfl
theorem digC_2 {a : Nat} (h : 9 < a) (h2 : a ≤ 99) : digC a = [nI (48 + a / 10 % 10), nI (48 + a % 10)] := by
  unfold digC; rw [if_neg (by omega), if_pos h]; rfl
theorem digC_3 {a : Nat} (h : 99 < a) : digC a = [nI (48 + a / 100 % 10), nI (48 + a / 10 % 10), nI (48 + a % 10)] := by
  unfold digC; rw [if_pos h, if_pos (by omega)]; rfl
theorem digC_len (a : Nat) : 1 ≤ (digC a).length ∧ (digC a).length ≤ 3 := by
  rcases Nat.lt_or_ge 99 a with h | h
  · rw [digC_3 h]; exact ⟨(by decide : 1 ≤ 3), (by decide : 3 ≤ 3)⟩
  · rcases Nat.lt_or_ge 9 a with h2 | h2
    · rw [digC_2 h2 h]; exact ⟨(by decide : 1 ≤ 2), (by decide : 2 ≤ 3)⟩
    · rw [digC_1 h2]; exact ⟨(by decide : 1 ≤ 1), (by decide : 1 ≤ 3)⟩
theorem stepC_len (q : Nat × Nat) : (stepC q).length = lenS.getD q.1 0 + 1 + (digC q.2).length := by
  unfold stepC
  rw [List.length_append, nameC_len]
  show lenS.getD q.1 0 + ((digC q.2).length + 1) = _
  omega
theorem stepC_len2 (q : Nat × Nat) : 2 ≤ (stepC q).length ∧ (stepC q).length ≤ 11 := by
  have h1 := stepC_len q
  have h2 := digC_len q.2
  have h3 := lenS_le q.1
  omega
abbrev isDg (x : Int32) : Prop := nI 48 ≤ x ∧ x ≤ nI 57
theorem digF_go {T : Nat → Int32} {len f p x d : Nat} (hp : p < len) (hT : T p = nI (48 + d)) (hd : d ≤ 9) : digF T len (f + 1) p x = digF T len f (p + 1) (10 * x + d) := by
  show (if p < len ∧ (nI 48 ≤ T p ∧ T p ≤ nI 57) then digF T len f (p + 1) (10 * x + (nn (T p) - 48)) else (p, x)) = _
  rw [hT, if_pos ⟨hp, (nI_leI (by omega) (by omega)).mpr (by omega), (nI_leI (by omega) (by omega)).mpr (by omega)⟩, nn_nI (by omega), Nat.add_sub_cancel_left]
theorem digF_stop {T : Nat → Int32} {len p x : Nat} (h : p = len ∨ ¬ isDg (T p)) : ∀ f : Nat, digF T len f p x = (p, x) := by
  intro f
  cases f with
  | zero => rfl
  | succ f =>
    show (if p < len ∧ (nI 48 ≤ T p ∧ T p ≤ nI 57) then _ else (p, x)) = _
    refine if_neg (fun z => ?_)
    rcases h with h | h
    · omega
    · exact h z.2
theorem digF_at {T : Nat → Int32} {len p a : Nat} (ha : a ≤ 999) (t : Tx T p (digC a)) (hl : p + (digC a).length ≤ len) (stop : p + (digC a).length = len ∨ ¬ isDg (T (p + (digC a).length))) : digF T len 3 p 0 = (p + (digC a).length, a) := by
  rcases Nat.lt_or_ge 99 a with h | h
  · have e := digC_3 h
    rw [e] at t hl stop ⊢
    replace hl : p + 3 ≤ len := hl
    replace stop : p + 3 = len ∨ ¬ isDg (T (p + 3)) := stop
    rw [digF_go (d := a / 100 % 10) (by omega) t.head (by omega), digF_go (d := a / 10 % 10) (by omega) t.tail.head (by omega), digF_go (d := a % 10) (by omega) t.tail.tail.head (by omega)]
    show (p + 3, 10 * (10 * (10 * 0 + a / 100 % 10) + a / 10 % 10) + a % 10) = (p + 3, a)
    rw [show 10 * (10 * (10 * 0 + a / 100 % 10) + a / 10 % 10) + a % 10 = a by omega]
  · rcases Nat.lt_or_ge 9 a with h2 | h2
    · have e := digC_2 h2 h
      rw [e] at t hl stop ⊢
      replace hl : p + 2 ≤ len := hl
      replace stop : p + 2 = len ∨ ¬ isDg (T (p + 2)) := stop
      rw [digF_go (d := a / 10 % 10) (by omega) t.head (by omega), digF_go (d := a % 10) (by omega) t.tail.head (by omega), digF_stop stop]
      show (p + 2, 10 * (10 * 0 + a / 10 % 10) + a % 10) = (p + 2, a)
      rw [show 10 * (10 * 0 + a / 10 % 10) + a % 10 = a by omega]
    · have e := digC_1 h2
      rw [e] at t hl stop ⊢
      replace hl : p + 1 ≤ len := hl
      replace stop : p + 1 = len ∨ ¬ isDg (T (p + 1)) := stop
      rw [digF_go (d := a % 10) (by omega) t.head (by omega), digF_stop stop]
      show (p + 1, 10 * 0 + a % 10) = (p + 1, a)
      rw [show 10 * 0 + a % 10 = a by omega]
theorem name_ne : ∀ k, k < 5 → ∀ j, j < k → ∃ i, i < lenS.getD j 0 ∧ i < lenS.getD k 0 ∧ chS j i ≠ chS k i := by
  intro k hk j hj
  match k, hk, j, hj with
  | 1, _, 0, _ => exact ⟨0, by decide⟩
  | 2, _, 0, _ => exact ⟨0, by decide⟩
  | 2, _, 1, _ => exact ⟨0, by decide⟩
  | 3, _, 0, _ => exact ⟨0, by decide⟩
  | 3, _, 1, _ => exact ⟨0, by decide⟩
  | 3, _, 2, _ => exact ⟨0, by decide⟩
  | 4, _, 0, _ => exact ⟨2, by decide⟩
  | 4, _, 1, _ => exact ⟨0, by decide⟩
  | 4, _, 2, _ => exact ⟨0, by decide⟩
  | 4, _, 3, _ => exact ⟨0, by decide⟩
  | 0, _, j, hj => omega
  | 1, _, j + 1, hj => omega
  | 2, _, j + 2, hj => omega
  | 3, _, j + 3, hj => omega
  | 4, _, j + 4, hj => omega
  | k + 5, hk, _, _ => omega
/-- a step that stands there is read -/
theorem stepP_at {T : Nat → Int32} {len s k a : Nat} (hk : k < 5) (h1 : amtLo k ≤ a) (h2 : a ≤ amtHi k) (t : Tx T s (stepC (k, a))) (hl : s + (stepC (k, a)).length ≤ len) (stop : s + (stepC (k, a)).length = len ∨ ¬ isDg (T (s + (stepC (k, a)).length))) : stepP T len s = some (k, a, s + (stepC (k, a)).length) := by
  have ln := stepC_len (k, a)
  have d3 := digC_len a
  have a300 : a ≤ 300 := amt300 (q := (k, a)) hk h2
  have tn : Tx T s (nameC k 0 (lenS.getD k 0)) := t.left
  have tr : Tx T (s + lenS.getD k 0) (nI 32 :: digC a) := by
    have := t.right (a := nameC k 0 (lenS.getD k 0)) (b := nI 32 :: digC a)
    rw [nameC_len] at this
    exact this
  have nm : nameSt T len s k := fun j hj => ⟨by dsimp only at ln; omega, by
    have := tn j _ (nameC_get k _ 0 j hj)
    rw [this, Nat.zero_add]⟩
  have eN : nameF T len s = k := nameF_some hk nm (fun j hj z => by
    obtain ⟨i, i1, i2, ne⟩ := name_ne k hk j hj
    exact ne ((z i i1).2.symm.trans (nm i i2).2))
  dsimp only at ln
  have eL : s + (stepC (k, a)).length = s + lenS.getD k 0 + 1 + (digC a).length := by rw [ln]; omega
  have eD := digF_at (T := T) (len := len) (p := s + lenS.getD k 0 + 1) (a := a) (by omega) tr.tail (by omega) (by rw [← eL]; exact stop)
  unfold stepP
  rw [eN, eD, if_neg (by omega), if_neg (fun z => z ⟨by omega, tr.head⟩), if_neg (by
    rintro (z | z)
    · dsimp only at z; omega
    · exact z ⟨h1, h2⟩), eL]
theorem parsP_succ (T : Nat → Int32) (len n s : Nat) (acc : List (Nat × Nat)) {k a e : Nat} (h : stepP T len s = some (k, a, e)) : parsP T len (n + 1) s acc = if e = len then (none, acc ++ [(k, a)]) else if e + 2 < len ∧ T e = nI 44 ∧ T (e + 1) = nI 32 then parsP T len n (e + 2) (acc ++ [(k, a)]) else (some s, acc) := by
  show (match stepP T len s with
    | none => (some s, acc)
    | some (k, a, e) => if e = len then (none, acc ++ [(k, a)]) else if e + 2 < len ∧ T e = nI 44 ∧ T (e + 1) = nI 32 then parsP T len n (e + 2) (acc ++ [(k, a)]) else (some s, acc)) = _
  rw [h]
theorem progC_one (q : Nat × Nat) : progC true [q] = stepC q := List.append_nil _
theorem progC_two (q q2 : Nat × Nat) (r : List (Nat × Nat)) : progC true (q :: q2 :: r) = stepC q ++ (nI 44 :: nI 32 :: progC true (q2 :: r)) := rfl
theorem progC_pos (q : Nat × Nat) (r : List (Nat × Nat)) : 2 ≤ (progC true (q :: r)).length := by
  have h : progC true (q :: r) = stepC q ++ progC false r := rfl
  have := (stepC_len2 q).1
  rw [h, List.length_append]
  omega
theorem n44 : ¬ isDg (nI 44) := by decide
theorem n35 : ¬ isDg (nI 35) := by decide
theorem parsP_at {T : Nat → Int32} {len : Nat} : ∀ (r : List (Nat × Nat)) (n s : Nat) (acc : List (Nat × Nat)), r ≠ [] → r.length ≤ n → StepsOk r → Tx T s (progC true r) → s + (progC true r).length = len → parsP T len n s acc = (none, acc ++ r) := by
  intro r
  induction r with
  | nil => intro n s acc h; exact absurd rfl h
  | cons q r ih =>
    intro n s acc _ hn ok t hl
    obtain ⟨k, a⟩ := q
    obtain ⟨o1, o2, o3⟩ := ok (k, a) List.mem_cons_self
    cases n with
    | zero => exact absurd hn (by show ¬ (r.length + 1 ≤ 0); omega)
    | succ n =>
      cases r with
      | nil =>
        rw [progC_one] at t hl
        rw [parsP_succ _ _ _ _ _ (stepP_at (k := k) (a := a) o1 o2 o3 t (by omega) (Or.inl hl)), if_pos hl]
      | cons q2 r =>
        rw [progC_two] at t hl
        rw [List.length_append] at hl
        replace hl : s + ((stepC (k, a)).length + ((progC true (q2 :: r)).length + 1 + 1)) = len := hl
        have pp := progC_pos q2 r
        have tr := t.right
        rw [parsP_succ _ _ _ _ _ (stepP_at (k := k) (a := a) o1 o2 o3 t.left (by omega) (Or.inr (by rw [tr.head]; exact n44))), if_neg (by omega), if_pos ⟨by omega, tr.head, tr.tail.head⟩]
        rw [ih n _ _ (by simp) (by have : ((k, a) :: q2 :: r).length = (q2 :: r).length + 1 := rfl; omega) (fun x hx => ok x (List.mem_cons_of_mem _ hx)) tr.tail.tail (by omega), List.append_assoc]
        rfl
theorem digC_no44 {a : Nat} : ∀ c ∈ digC a, c ≠ nI 44 := by
  have g : ∀ d : Nat, d < 10 → nI (48 + d) ≠ nI 44 := fun d hd e => by
    have := (nI_eq (by omega) (by omega)).mp e
    omega
  have m10 : ∀ x : Nat, x % 10 < 10 := fun x => Nat.mod_lt _ (by omega)
  intro c hc
  rcases Nat.lt_or_ge 99 a with h | h
  · rw [digC_3 h] at hc
    simp only [List.mem_cons, List.not_mem_nil, or_false] at hc
    rcases hc with rfl | rfl | rfl <;> exact g _ (m10 _)
  · rcases Nat.lt_or_ge 9 a with h2 | h2
    · rw [digC_2 h2 h] at hc
      simp only [List.mem_cons, List.not_mem_nil, or_false] at hc
      rcases hc with rfl | rfl <;> exact g _ (m10 _)
    · rw [digC_1 h2] at hc
      simp only [List.mem_cons, List.not_mem_nil, or_false] at hc
      subst hc
      exact g _ (m10 _)
theorem nameC_no44 : ∀ k, k < 5 → ∀ c ∈ nameC k 0 (lenS.getD k 0), c ≠ nI 44 := by decide
theorem stepC_no44 {q : Nat × Nat} (hk : q.1 < 5) : ∀ c ∈ stepC q, c ≠ nI 44 := by
  intro c hc
  rcases List.mem_append.mp hc with h | h
  · exact nameC_no44 q.1 hk c h
  · rcases List.mem_cons.mp h with e | h
    · rw [e]; decide
    · exact digC_no44 c h
theorem Tx.no44 {T : Nat → Int32} {s : Nat} {l : List Int32} (t : Tx T s l) (h : ∀ c ∈ l, c ≠ nI 44) : ∀ j, s ≤ j → j < s + l.length → T j ≠ nI 44 := fun j h1 h2 => by
  have hl : j - s < l.length := by omega
  have := t (j - s) _ (List.getElem?_eq_getElem hl)
  rw [show s + (j - s) = j by omega] at this
  rw [this]
  exact h _ (List.getElem_mem hl)
/-- with a sign more the last step is at fault -/
theorem parsP_bad {T : Nat → Int32} {len : Nat} : ∀ (r : List (Nat × Nat)) (n s : Nat) (acc : List (Nat × Nat)), r ≠ [] → r.length ≤ n → StepsOk r → Tx T s (progC true r) → s + (progC true r).length + 1 = len → ¬ isDg (T (len - 1)) → ∃ x, (parsP T len n s acc).1 = some x ∧ s ≤ x ∧ x + 2 ≤ len - 1 ∧ (∀ j, x ≤ j → j < len - 1 → T j ≠ nI 44) ∧ (x = s ∨ (2 ≤ x ∧ T (x - 2) = nI 44 ∧ T (x - 1) = nI 32)) := by
  intro r
  induction r with
  | nil => intro n s acc h; exact absurd rfl h
  | cons q r ih =>
    intro n s acc _ hn ok t hl hd
    obtain ⟨k, a⟩ := q
    obtain ⟨o1, o2, o3⟩ := ok (k, a) List.mem_cons_self
    cases n with
    | zero => exact absurd hn (by show ¬ (r.length + 1 ≤ 0); omega)
    | succ n =>
      cases r with
      | nil =>
        rw [progC_one] at t hl
        have l2 := (stepC_len2 (k, a)).1
        rw [parsP_succ _ _ _ _ _ (stepP_at (k := k) (a := a) o1 o2 o3 t (by omega) (Or.inr (by rw [show s + (stepC (k, a)).length = len - 1 by omega]; exact hd))), if_neg (by omega), if_neg (fun z => by omega)]
        exact ⟨s, rfl, Nat.le_refl _, by omega, fun j h1 h2 => t.no44 (stepC_no44 o1) j h1 (by omega), Or.inl rfl⟩
      | cons q2 r =>
        rw [progC_two] at t hl
        rw [List.length_append] at hl
        replace hl : s + ((stepC (k, a)).length + ((progC true (q2 :: r)).length + 1 + 1)) + 1 = len := hl
        have pp := progC_pos q2 r
        have tr := t.right
        rw [parsP_succ _ _ _ _ _ (stepP_at (k := k) (a := a) o1 o2 o3 t.left (by omega) (Or.inr (by rw [tr.head]; exact n44))), if_neg (by omega), if_pos ⟨by omega, tr.head, tr.tail.head⟩]
        obtain ⟨x, e1, e2, e3, e4, e5⟩ := ih n _ (acc ++ [(k, a)]) (by simp) (by have : ((k, a) :: q2 :: r).length = (q2 :: r).length + 1 := rfl; omega) (fun x hx => ok x (List.mem_cons_of_mem _ hx)) tr.tail.tail (by omega) hd
        refine ⟨x, e1, by omega, e3, e4, Or.inr ?_⟩
        rcases e5 with e5 | e5
        · rw [e5]
          exact ⟨by omega, by rw [show s + (stepC (k, a)).length + 1 + 1 - 2 = s + (stepC (k, a)).length by omega]; exact tr.head, by rw [show s + (stepC (k, a)).length + 1 + 1 - 1 = s + (stepC (k, a)).length + 1 by omega]; exact tr.tail.head⟩
        · exact e5
theorem progC_len : ∀ r : List (Nat × Nat), (progC false r).length ≤ 13 * r.length ∧ (progC true r).length ≤ 13 * r.length := by
  intro r
  induction r with
  | nil => exact ⟨Nat.le_refl _, Nat.le_refl _⟩
  | cons q r ih =>
    have l11 := (stepC_len2 q).2
    have h1 : (progC false (q :: r)).length = (stepC q ++ progC false r).length + 1 + 1 := rfl
    have h2 : (progC true (q :: r)).length = (stepC q ++ progC false r).length := rfl
    have h3 : (q :: r).length = r.length + 1 := rfl
    rw [List.length_append] at h1 h2
    omega
/-- a step more -/
theorem progC_snoc (q : Nat × Nat) : ∀ r : List (Nat × Nat), progC false (r ++ [q]) = progC false r ++ (nI 44 :: nI 32 :: stepC q) := by
  intro r
  induction r with
  | nil => show nI 44 :: nI 32 :: (stepC q ++ []) = _; rw [List.append_nil]; rfl
  | cons q2 r ih =>
    show nI 44 :: nI 32 :: (stepC q2 ++ progC false (r ++ [q])) = (nI 44 :: nI 32 :: (stepC q2 ++ progC false r)) ++ _
    rw [ih]
    simp [List.append_assoc]
theorem progC_snocT (q q0 : Nat × Nat) (r : List (Nat × Nat)) : progC true ((q0 :: r) ++ [q]) = progC true (q0 :: r) ++ (nI 44 :: nI 32 :: stepC q) := by
  show stepC q0 ++ progC false (r ++ [q]) = (stepC q0 ++ progC false r) ++ _
  rw [progC_snoc, List.append_assoc]
theorem loadN_same {N : Nat → Int32} {acc : List (Nat × Nat)} (si : SI N acc) : loadN N acc = N := by
  funext j
  unfold loadN
  by_cases h3 : j = 3
  · rw [if_pos h3, h3]; exact si.1.symm
  · rw [if_neg h3]
    by_cases h : 188 ≤ j ∧ j < 188 + 2 * acc.length
    · rw [if_pos h, ← si.2.2.2.at (i := j - 188) (by omega)]
      show N (188 + (j - 188)) = N j
      rw [show 188 + (j - 188) = j by omega]
    · rw [if_neg h]
/-- what is written: read again as it was -/
theorem text_ok {T : Nat → Int32} {acc : List (Nat × Nat)} (h0 : acc ≠ []) (h5 : acc.length ≤ 5) (ok : StepsOk acc) : (putL (progC true acc) (T, 0)).2 = (progC true acc).length ∧ (progC true acc).length ≤ 65 ∧ 2 ≤ (progC true acc).length ∧ Tx (putL (progC true acc) (T, 0)).1 0 (progC true acc) ∧ parsT (putL (progC true acc) (T, 0)).1 (putL (progC true acc) (T, 0)).2 = (none, acc) := by
  have l := (progC_len acc).2
  obtain ⟨e1, e2, -⟩ := putL_at (progC true acc) (T, 0) (by show 0 + (progC true acc).length ≤ 100; omega)
  have e1' : (putL (progC true acc) (T, 0)).2 = (progC true acc).length := e1.trans (Nat.zero_add _)
  have p2 : 2 ≤ (progC true acc).length := by
    cases acc with
    | nil => exact absurd rfl h0
    | cons q r => exact progC_pos q r
  refine ⟨e1', by omega, p2, e2, ?_⟩
  unfold parsT
  rw [e1', if_neg (by omega), parsP_at acc 12 0 [] h0 (by omega) ok e2 (Nat.zero_add _)]
  rfl
