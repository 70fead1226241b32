/-! rules for the law: what it reads of the script, a phase, its end -/
theorem Ex.mono {ω : Om} {μ : MR} {pc : Nat} {L : List (Option Value)} {st : List Value} {h : AH} {k n : Nat} {Q Q' : Option Value → AH → Prop} (kk : Ex ω μ pc L st h k n Q) (hq : ∀ v h', Q v h' → Q' v h') : Ex ω μ pc L st h k n Q' := x_post hq kk
section XLAW
variable {ω : Om} {μ : MR} {pc : Nat} {L : List (Option Value)} {st : List Value} {h : AH} {k n : Nat} {Q : Option Value → AH → Prop}
theorem x_sld {i : Int32} (j q : Nat) (hd : decode μ.2.1 pc = .ok (.iaload, 1)) (hq : pc + 1 = q) (hi : i = nI j) (hj : j < ω.2.2.2.2.1 8) (kk : Ex ω μ q L (.int (nI (ω.2.2.2.2.2 (5 + j))) :: st) h k n Q) : Ex ω μ pc L (.int i :: .ref (ω.2.2.2.2.1 7) :: st) h k n Q := by
  subst hq; subst hi
  intro p l e s m args below meth c H locs ls C hH hS hL
  have X : exX ω s s.heap := C.2.2.2.2.2.2.2.2.2.1.2.2.2.2.2.2.2.2
  have b260 := X.2.2
  refine va_sld C.1 C.2.1 X.1 X.1.lt (Nat.not_le.mpr X.2.1) hS (vp_in_nI hj (by omega)) hd ?_
  rw [nI_clamp (by omega)]
  exact kk p l e s m args below meth c H locs ls C hH hS hL
theorem x_slen (q : Nat) (hd : decode μ.2.1 pc = .ok (.arraylength, 1)) (hq : pc + 1 = q) (kk : ω.2.2.2.2.1 8 ≤ 260 → Ex ω μ q L (.int (nI (ω.2.2.2.2.1 8)) :: st) h k n Q) : Ex ω μ pc L (.ref (ω.2.2.2.2.1 7) :: st) h k n Q := by
  subst hq
  intro p l e s m args below meth c H locs ls C hH hS hL
  have X : exX ω s s.heap := C.2.2.2.2.2.2.2.2.2.1.2.2.2.2.2.2.2.2
  exact va_slen C.1 C.2.1 X.1 X.1.lt (Nat.not_le.mpr X.2.1) hS hd (kk X.2.2 p l e s m args below meth c H locs ls C hH hS hL)
/-- from here on all references are filled -/
theorem x_phase (ht : ∀ a, a < gt h → ∀ t n, gs h a = some (t, n) → ∀ k, k < n → kd t k = 1 → gs h (gr h a k) = some (tgt t k)) (kk : Ex (ω.1, ω.2.1, ω.2.2.1, true, ω.2.2.2.2) μ pc L st h k n Q) : Ex ω μ pc L st h k n Q := by
  intro p l e s m args below meth c H locs ls C hH hS hL T hT X
  obtain ⟨t, a1, o, b1, b2, ⟨⟨r, h', c1, c2, c3⟩, c4⟩, b4⟩ := kk p l e s m args below meth c H locs ls C ⟨hH.1, hH.2.1, hH.2.2.1, fun _ a t n ha => ht a (by rw [← hH.1]; exact (hH.2.2.1 a t n ha).2.2.lt) t n ha⟩ hS hL T hT X
  exact ⟨t, a1, o, b1, b2, ⟨⟨r, h', c1, c2, ⟨c3.1, c3.2.1, c3.2.2.1, fun _ => c3.2.2.2 rfl⟩⟩, c4⟩, b4⟩
end XLAW
theorem framed_forget {s t : State} {o : Outcome} {Lc : List Loc} {k n : Nat} (h : FrameEnd s o t Lc k n) (hl : ∀ q ∈ Lc, s.heap.size ≤ q.base) : Framed s o t [] k n := by
  obtain ⟨h1, h2, g1, g2, g3, g4, g5, g6⟩ := h
  refine ⟨h1, h2, g1, g2, g3, g4, g5, fun a c hc => ?_⟩
  obtain ⟨c', e1, e2, e3, e4⟩ := g6 a c hc
  have hlt : a < s.heap.size := (Array.getElem?_eq_some_iff.mp hc).1
  refine ⟨c', e1, e2, e3, fun i _ => e4 i (fun hm => ?_)⟩
  have := hl _ hm
  exact absurd hlt (Nat.not_lt.mpr this)
/-- the law's end -/
theorem ex_law {ω : Om} {b : Nat} {h : AH} (kk : Ex ω ML_law 0 [some (.ref b), none, none, none, none, none, none, none, none, none, none, none, none] [] h 0 0 (fun v _ => v = some (.int 1))) {p : Program} {l : Launch} {e : Env} {s : State} {m : MethodId} {below : List Frame} {meth : Method} {c : Code} {H : Heap} {locs : List Loc} {ls : Array Slot} (C : Cx ω ML_law p s m #[Value.ref b] meth c) (hz : ω.2.2.1 = s.heap.size) (hH : hp ω h H) (hS : va_S (exA ω) s.heap H locs) (hL : lh ls 13 [some (.ref b), none, none, none, none, none, none, none, none, none, none, none, none]) : W p l e room_1 s m #[Value.ref b] below meth c H locs 0 0 (lw_Z below #[Value.ref b] s) (F0 m 0 ls []) := by
  intro T hT X
  obtain ⟨t, a1, o, b1, b2, ⟨⟨r, h', c1, c2, c3⟩, c4⟩, Lc, b4, b5⟩ := kk p l e s m #[Value.ref b] below meth c H locs ls C hH hS hL T hT X
  refine ⟨t, a1, o, b1, b2, by rw [c1, c2], framed_forget b4 (fun q hq => ?_)⟩
  have z : ω.2.2.1 ≤ q.base := b5 q hq
  omega
/-- a cell of the script, or what stands for it -/
theorem t_cell {ω : Om} {h : AH} {Q : Option Value → AH → Prop} {k : Nat} (hk : k < 2 ^ 20) (hq : ∀ n : Nat, n < 2 ^ 31 → Q (some (.int (nI n))) h) : Ex ω ML_cell 0 [some (.ref (ω.2.2.2.2.1 7)), some (.int (nI k))] [] h 0 0 Q := by
  have fin : ∀ x : Int32, Ex ω ML_cell 20 [some (.ref (ω.2.2.2.2.1 7)), some (.int (nI k))] [.int x] h 0 0 Q := fun x => by
    refine x_ldc (nI 2147483647) 22 dL_cell_20 rfl wd281 ?_
    refine x_iand 23 dL_cell_22 rfl ?_
    obtain ⟨j, hj, e⟩ := pk_andE x (m := nI 2147483647) 31 (by decide)
    rw [e]
    exact x_iret dL_cell_23 rfl (Nat.zero_le _) (Nat.zero_le _) (hq j hj)
  refine x_iload1 1 dL_cell_0 rfl (x_aload0 2 dL_cell_1 rfl (x_slen 3 dL_cell_2 rfl (fun b260 => ?_)))
  refine x_icmp_ge 6 12 dL_cell_3 rfl (by decide) (fun _ => ?_) (fun z => ?_)
  · refine x_ldc (nI 15485207) 14 dL_cell_12 rfl wd280 ?_
    refine x_iload1 15 dL_cell_14 rfl (x_imul 16 dL_cell_15 rfl ?_)
    refine x_sipush (nI 307) 19 dL_cell_16 rfl rfl (x_iadd 20 dL_cell_19 rfl ?_)
    exact fin _
  · rw [nI_leI (by omega) (by omega)] at z
    refine x_aload0 7 dL_cell_6 rfl (x_iload1 8 dL_cell_7 rfl ?_)
    refine x_sld k 9 dL_cell_8 rfl rfl (by omega) ?_
    exact x_goto 20 dL_cell_9 (by decide) (fin _)
