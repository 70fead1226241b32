/-! the law's start, from the machine's state -/
def om0 (D : va_G) (ar : Nat → ClassId) (z : Nat) (ad av : Nat → Nat) : Om := (D, ar, z, false, ad, av)
def h00 (z : Nat) : AH := (fun _ => none, fun _ _ => 0, fun _ _ => 0, fun _ _ => 0, z)
section ST
variable {s : State} {A : Array Value}
theorem st_arr {ty : FieldType} (h : (Cond.arrayClass ty).before A s = true) (hr : ty = .int ∨ ty = .char) : ∃ c, ArrOfT s c ty ∧ va_RA s c ty := by
  obtain ⟨c, k, comp, h1, h2, h3⟩ := Cond.arrayClass_spec h
  refine ⟨c, fun n z => ⟨fun k h => (by cases h), k, h2, comp, h3⟩, ?_⟩
  rcases hr with rfl | rfl
  · exact h1
  · exact h1
theorem st_arrO {C : String} (h : (Cond.arrayOver (.object C)).before A s = true) : ∃ c, ArrOfT s c (.object C) ∧ va_RA s c (.object C) := by
  obtain ⟨comp, c, k, h1, _, h3, h4, h5⟩ := Cond.arrayOver_spec h
  exact ⟨c, fun n z => ⟨fun k h => (by cases h), k, h3, comp, h4⟩, k, comp, h3, h4, h1, h5⟩
set_option maxRecDepth 20000 in
theorem st_inst : ∀ q ∈ [(RX0, 7), (RX1, 6), (RX2, 3), (RX3, 15), (RX4, 6), (RX5, 11), (RX6, 12), (RX7, 2), (RX8, 8)], Cond.instantiable q.1 q.2 ∈ lw_tbl := by decide +kernel
theorem st_D (hts : ∀ w ∈ lw_tbl, w.before A s = true) : ∃ D : va_G, ∀ (k : Nat) (q : vw_C), vwCl[k]? = some q → u_Kn s q.1 q.2.1 q.2.2 (D.1 k) (D.2 k) := by
  have h : ∀ k : Nat, ∃ d : ClassId × (Nat → Nat), ∀ q : vw_C, vwCl[k]? = some q → u_Kn s q.1 q.2.1 q.2.2 d.1 d.2 := by
    have go : ∀ {C : String} {T : u_T} {N : Nat}, (∀ w ∈ u_ws C T N, w ∈ lw_tbl) → Cond.instantiable C N ∈ lw_tbl → ∃ d : ClassId × (Nat → Nat), ∀ q : vw_C, some (C, T, N) = some q → u_Kn s q.1 q.2.1 q.2.2 d.1 d.2 := fun {C T N} h1 h2 => by
      obtain ⟨c, i, hk⟩ := u_known (C := C) (T := T) (N := N) (n := N) hts h1 (hts _ h2)
      exact ⟨(c, i), fun q hq => by cases hq; exact hk⟩
    intro k
    match k with
    | 0 => exact go inX0 (st_inst (RX0, 7) (by decide))
    | 1 => exact go inX1 (st_inst (RX1, 6) (by decide))
    | 2 => exact go inX2 (st_inst (RX2, 3) (by decide))
    | 3 => exact go inX3 (st_inst (RX3, 15) (by decide))
    | 4 => exact go inX4 (st_inst (RX4, 6) (by decide))
    | 5 => exact go inX5 (st_inst (RX5, 11) (by decide))
    | 6 => exact go inX6 (st_inst (RX6, 12) (by decide))
    | 7 => exact go inX7 (st_inst (RX7, 2) (by decide))
    | 8 => exact go inX8 (st_inst (RX8, 8) (by decide))
    | k + 9 => exact ⟨(0, fun _ => 0), fun q hq => by simp at hq⟩
  obtain ⟨f, hf⟩ := Classical.axiomOfChoice h
  exact ⟨(fun k => (f k).1, fun k => (f k).2), hf⟩
set_option maxRecDepth 20000 in
theorem st_arrW : (Cond.arrayClass .int ∈ lw_tbl ∧ Cond.arrayClass .char ∈ lw_tbl) ∧ ∀ C ∈ aoL, Cond.arrayOver (.object C) ∈ lw_tbl := by decide +kernel
theorem st_K (hts : ∀ w ∈ lw_tbl, w.before A s = true) : ∃ (D : va_G) (ar : Nat → ClassId), ∀ (z : Nat) (ad av : Nat → Nat), va_K D vwCl (exT (om0 D ar z ad av)) s := by
  obtain ⟨D, hD⟩ := st_D hts
  obtain ⟨⟨w1, w2⟩, w3⟩ := st_arrW
  obtain ⟨c0, a0⟩ := st_arr (hts _ w1) (Or.inl rfl)
  obtain ⟨c1, a1⟩ := st_arr (hts _ w2) (Or.inr rfl)
  obtain ⟨c2, a2⟩ := st_arrO (hts _ (w3 RX4 (by decide)))
  obtain ⟨c3, a3⟩ := st_arrO (hts _ (w3 RX1 (by decide)))
  obtain ⟨c4, a4⟩ := st_arrO (hts _ (w3 RX3 (by decide)))
  obtain ⟨c5, a5⟩ := st_arrO (hts _ (w3 RX5 (by decide)))
  refine ⟨D, fun t => match t with
    | 10 => c0
    | 11 => c1
    | 12 => c2
    | 13 => c3
    | 14 => c4
    | _ => c5, fun z ad av => ⟨hD, fun k q hq => ?_⟩⟩
  match k with
  | 0 => cases hq; exact a0
  | 1 => cases hq; exact a1
  | 2 => cases hq; exact a2
  | 3 => cases hq; exact a3
  | 4 => cases hq; exact a4
  | 5 => cases hq; exact a5
  | k + 6 => simp [exT] at hq
abbrev stR (f : String) : Term := .static "PalletWrapper" f "[I"
abbrev gvn : List Cond := flatC (Jvm.Cond.and given_1 narrow_1)
set_option maxRecDepth 20000 in
theorem st_g1 : ((Cond.arrayOf (stR "LEAST_AMOUNT") .int ∈ gvn ∧ Cond.eq (.length (stR "LEAST_AMOUNT")) (.int (Int32.ofNat 5)) ∈ gvn ∧ ∀ j, j < 5 → Cond.eq (.elem (stR "LEAST_AMOUNT") (.int (Int32.ofNat j))) (.int (leastF j)) ∈ gvn) ∧ Cond.arrayOf (stR "MOST_AMOUNT") .int ∈ gvn ∧ Cond.eq (.length (stR "MOST_AMOUNT")) (.int (Int32.ofNat 5)) ∈ gvn ∧ ∀ j, j < 5 → Cond.eq (.elem (stR "MOST_AMOUNT") (.int (Int32.ofNat j))) (.int (mostF j)) ∈ gvn) ∧ Cond.eq (.static "java/lang/String" "COMPACT_STRINGS" "Z") (.int 1) ∈ gvn ∧ Cond.isRef (.static "jdk/internal/util/Preconditions" "SIOOBE_FORMATTER" "Ljava/util/function/BiFunction;") ∈ gvn := by decide +kernel
abbrev stS (i : Nat) : Term := .string "PalletWrapper" (229 + 2 * i)
abbrev stV (i : Nat) : Term := .field (stS i) "java/lang/String" "value" "[B"
set_option maxRecDepth 20000 in
theorem st_g2 : ∀ i, i < 5 → Cond.exactly (stS i) "java/lang/String" ∈ gvn ∧ Cond.eq (.field (stS i) "java/lang/String" "coder" "B") (.int 0) ∈ gvn ∧ Cond.arrayOf (stV i) .byte ∈ gvn ∧ Cond.eq (.length (stV i)) (.int (Int32.ofNat (lenS.getD i 0))) ∈ gvn := by decide +kernel
set_option maxRecDepth 20000 in
theorem st_g3 : ∀ i, i < 5 → ∀ j, j < lenS.getD i 0 → Cond.eq (.elem (stV i) (.int (Int32.ofNat j))) (.int ((bytS.getD i []).getD j 0)) ∈ gvn := by decide +kernel
set_option maxRecDepth 20000 in
theorem st_g4 : ∀ i, i < 5 → ∀ j, j < 5 → i = j ∨ Cond.not (Cond.eq (stS i) (stS j)) ∈ gvn ∨ Cond.not (Cond.eq (stS j) (stS i)) ∈ gvn := by decide +kernel
set_option maxRecDepth 20000 in
theorem st_w1 : (Cond.laysStatic "PalletWrapper" "LEAST_AMOUNT" "[I" ∈ lw_tbl ∧ Cond.laysStatic "PalletWrapper" "MOST_AMOUNT" "[I" ∈ lw_tbl ∧ Cond.initialized "PalletWrapper" ∈ lw_tbl) ∧ (Cond.laysStatic "java/lang/String" "COMPACT_STRINGS" "Z" ∈ lw_tbl ∧ Cond.initialized "java/lang/String" ∈ lw_tbl) ∧ (Cond.laysStatic "jdk/internal/util/Preconditions" "SIOOBE_FORMATTER" "Ljava/util/function/BiFunction;" ∈ lw_tbl ∧ Cond.initialized "jdk/internal/util/Preconditions" ∈ lw_tbl) := by decide +kernel
set_option maxRecDepth 20000 in
theorem st_w2 : (∀ i, i < 5 → Cond.stringRef "PalletWrapper" (229 + 2 * i) (namS.getD i "") ∈ lw_tbl) ∧ (∀ q ∈ nestM, Cond.methodLinkNest q.1 q.2.1 q.2.2.1 q.2.2.2 ∈ lw_tbl) ∧ (∀ q ∈ nestF, Cond.fieldLinkNest q.1 q.2.1 q.2.2.1 q.2.2.2.1 q.2.2.2.2.1 q.2.2.2.2.2 ∈ lw_tbl) := by decide +kernel
theorem i_nI (x : Int32) : nI x.toBitVec.toNat = x := Int32.toBitVec.inj (BitVec.eq_of_toNat_eq (pk_tn x.toBitVec.isLt))
theorem va_X.ext {b L : Nat} {xs xs' : Nat → Int32} {U : State} {H : Heap} (h : va_X b L xs U H) (e : ∀ j, j < L → xs' j = xs j) : va_X b L xs' U H := by
  obtain ⟨scr, h1, h2, h3, h4, h5⟩ := h
  exact ⟨scr, h1, h2, h3, h4, fun j hj => by rw [e j hj]; exact h5 j hj⟩
theorem st_B {b Ln : Nat} {xs : Nat → Int32} (hX : va_X b Ln xs s s.heap) (hbl : b < s.heap.size) (hLn : Ln ≤ 260) (hts : ∀ w ∈ lw_tbl, w.before A s = true) (hg : ∀ w ∈ gvn, w.before A s = true) : ∃ ad av : Nat → Nat, ad 7 = b ∧ ∀ (D : va_G) (ar : Nat → ClassId), exB (om0 D ar s.heap.size ad av) s s.heap := by
  have hA : ∀ a : Nat, a < s.heap.size → ¬ (fun q : Nat => s.heap.size ≤ q) a := fun a h => Nat.not_le.mpr h
  obtain ⟨⟨⟨l1, l2, l3⟩, m1, m2, m3⟩, g1, g2⟩ := st_g1
  have s1 := st_g2
  have s2 := st_g3
  have s3 := st_g4
  obtain ⟨⟨w1, w2, w3⟩, ⟨w4, w5⟩, w6, w7⟩ := st_w1
  obtain ⟨v1, v2, v3⟩ := st_w2
  obtain ⟨adK, adV, hS, hK⟩ := vk_Sof (args := A) (s := s) (N := 5) (tm := stS) (len := lenS) (byt := bytS) (A := fun q : Nat => s.heap.size ≤ q) (by decide) (fun i hi => hg _ (s1 i hi).1) (fun i hi => hg _ (s1 i hi).2.1) (fun i hi => hg _ (s1 i hi).2.2.1) (fun i hi => hg _ (s1 i hi).2.2.2) (fun i hi j hj => hg _ (s2 i hi j hj)) (fun i j hi hj ne => ((s3 i hi j hj).resolve_left ne).imp (hg _) (hg _)) hA
  obtain ⟨tl, tl1, tl2⟩ := va_Tof (args := A) (s := s) (tm := stR "LEAST_AMOUNT") (ty := .int) (N := 5) (f := fun j => .int (leastF j)) (A := fun q : Nat => s.heap.size ≤ q) (by decide) (hg _ l1) (va_eqt (hg _ l2)) (fun j hj => va_eqt (hg _ (l3 j hj))) hA
  obtain ⟨tm, tm1, tm2⟩ := va_Tof (args := A) (s := s) (tm := stR "MOST_AMOUNT") (ty := .int) (N := 5) (f := fun j => .int (mostF j)) (A := fun q : Nat => s.heap.size ≤ q) (by decide) (hg _ m1) (va_eqt (hg _ m2)) (fun j hj => va_eqt (hg _ (m3 j hj))) hA
  obtain ⟨ad, e5, e6, e7, e8, e⟩ : ∃ ad : Nat → Nat, ad 5 = tl ∧ ad 6 = tm ∧ ad 7 = b ∧ ad 8 = Ln ∧ ∀ i, i < 5 → ad i = adK i := ⟨fun i => if i = 5 then tl else if i = 6 then tm else if i = 7 then b else if i = 8 then Ln else adK i, rfl, rfl, rfl, rfl, fun i hi => (if_neg (by omega)).trans ((if_neg (by omega)).trans ((if_neg (by omega)).trans (if_neg (by omega))))⟩
  obtain ⟨av, v5, v0⟩ : ∃ av : Nat → Nat, (∀ j, av (5 + j) = (xs j).toBitVec.toNat) ∧ ∀ i, i < 5 → av i = adV i := ⟨fun i => if i < 5 then adV i else (xs (i - 5)).toBitVec.toNat, fun j => by
    show (if 5 + j < 5 then _ else (xs (5 + j - 5)).toBitVec.toNat) = _
    rw [if_neg (by omega), Nat.add_sub_cancel_left], fun i hi => if_pos hi⟩
  refine ⟨ad, av, e7, fun D ar => ⟨⟨?_, ?_⟩, ⟨?_, ?_⟩, ⟨fun i hi => ?_, fun i j hi hj => ?_⟩, fun i hi => ?_, va_Zof (hts _ w4) (hts _ w5) (va_eqi (hg _ g1)) hA, va_Zqof (hts _ w6) (hts _ w7) (hg _ g2) hA, ⟨fun q hq => va_Nw.of rfl (hts _ (v2 q hq)), fun C hC => va_AO.of (hts _ (st_arrW.2 C hC))⟩, fun q hq => va_Nw.of rfl (hts _ (v3 q hq)), ?_⟩⟩
  · show va_Z "PalletWrapper" "LEAST_AMOUNT" "[I" (.ref (ad 5)) _ s s.heap
    rw [e5]; exact va_Zof (hts _ w1) (hts _ w3) tl1 hA
  · show va_T .int (ad 5) 5 _ _ s s.heap
    rw [e5]; exact tl2
  · show va_Z "PalletWrapper" "MOST_AMOUNT" "[I" (.ref (ad 6)) _ s s.heap
    rw [e6]; exact va_Zof (hts _ w2) (hts _ w3) tm1 hA
  · show va_T .int (ad 6) 5 _ _ s s.heap
    rw [e6]; exact tm2
  · show va_O "java/lang/String" (ad i) _ s s.heap ∧ va_OF "java/lang/String" "coder" "B" (.int 0) (ad i) _ s s.heap ∧ va_OF "java/lang/String" "value" "[B" (.ref (av i)) (ad i) _ s s.heap ∧ va_T .byte (av i) (lenS.getD i 0) (fun j => .int ((bytS.getD i []).getD j 0)) _ s s.heap
    rw [e i hi, v0 i hi]; exact hS.1 i hi
  · show ad i = ad j → i = j
    rw [e i hi, e j hj]; exact hS.2 i j hi hj
  · show vk_R "PalletWrapper" (229 + 2 * i) (namS.getD i "") (ad i) s
    rw [e i hi]; exact vk_R.of (A := A) (hts _ (v1 i hi)) (hK i hi)
  · show va_X (ad 7) (ad 8) (fun j => nI (av (5 + j))) s s.heap ∧ ad 7 < s.heap.size ∧ ad 8 ≤ 260
    rw [e7, e8]
    exact ⟨hX.ext (fun j _ => by show nI (av (5 + j)) = xs j; rw [v5]; exact i_nI _), hbl, hLn⟩
end ST
/-- THE LAW, from its entry -/
theorem whole_start {p : Program} {e : Env} {s : State} {m : MethodId} {below : List Frame} {meth : Method} {c : Code} (l : Launch) (_hflags : l.flags = flags0) {b L : Nat} {xs : Nat → Int32} (hL : L ≤ 260) (C0 : lw_At p s m meth c b L xs) : W p l e room_1 s m #[Value.ref b] below meth c s.heap [] 0 0 (lw_Z below #[Value.ref b] s) (entryFrame m ([Value.ref b] : List Value).toArray 13) := by
  obtain ⟨hx, hb, hr, hml, hown, hts, hX, hbl, hlocks, hgv, hnm⟩ := C0
  obtain ⟨D, ar, hK⟩ := st_K hts
  obtain ⟨ad, av, e7, hB⟩ := st_B hX hbl hL hts (flat_of_before _ hgv)
  rw [lg_entry_eq]
  have st := law_start (ω := om0 D ar s.heap.size ad av) rfl (h := h00 s.heap.size) (Nat.lt_of_le_of_lt (Nat.zero_le _) hbl) (fun b _ => rfl)
  have e7' : (om0 D ar s.heap.size ad av).2.2.2.2.1 7 = b := e7
  rw [e7'] at st
  exact ex_law st (p := p) (l := l) (e := e) (m := m) (below := below) (meth := meth) (c := c) (H := s.heap) (locs := []) ⟨hx, hb, hml, hr, hown, hlocks, hnm, fun w hw => hts w (wsL_law_in w hw), hK _ _ _, hB D ar, Nat.le_refl _⟩ rfl ⟨rfl, rfl, fun a t n q => (by cases q), fun q => (by cases q)⟩ va_S.rf (lh_entry [.ref b] (Nat.le_of_ble_eq_true rfl))
