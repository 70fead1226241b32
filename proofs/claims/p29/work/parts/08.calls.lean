/-! returns and calls -/
section EXC
variable {ω : Om} {μ μ' : MR} {pc : Nat} {L : List (Option Value)} {st : List Value} {h : AH} {k n : Nat} {Q : Option Value → AH → Prop}
theorem x_iret {v : Int32} (hd : decode μ.2.1 pc = .ok (.ireturn, 1)) (hr : μ.2.2.2.1 = some .int) (hk : k ≤ μ.2.2.2.2.cells) (hn : n ≤ μ.2.2.2.2.slots) (hq : Q (some (.int v)) h) : Ex ω μ pc L [.int v] h k n Q := by
  intro p l e s m args below meth c H locs ls C hH hS hL
  refine W.widen hk hn ?_
  exact W.iret C.1 C.2.1 (C.2.2.2.1.trans hr) (fun t ht hW => ⟨⟨_, h, rfl, hq, by rw [ht]; exact hH⟩, hS.F ht⟩) hS.2.2 hd C.2.2.2.2.2.1
theorem x_zret {v : Int32} {ty : FieldType} (hd : decode μ.2.1 pc = .ok (.ireturn, 1)) (hr : μ.2.2.2.1 = some ty) (hz : narrow ty (.int v) = .int v) (hk : k ≤ μ.2.2.2.2.cells) (hn : n ≤ μ.2.2.2.2.slots) (hq : Q (some (.int v)) h) : Ex ω μ pc L [.int v] h k n Q := by
  intro p l e s m args below meth c H locs ls C hH hS hL
  refine W.widen hk hn ?_
  exact W.zret C.1 C.2.1 (C.2.2.2.1.trans hr) hz (fun t ht hW => ⟨⟨_, h, rfl, hq, by rw [ht]; exact hH⟩, hS.F ht⟩) hS.2.2 hd C.2.2.2.2.2.1
theorem x_lret {v : Int64} (hd : decode μ.2.1 pc = .ok (.lreturn, 1)) (hr : μ.2.2.2.1 = some .long) (hk : k ≤ μ.2.2.2.2.cells) (hn : n ≤ μ.2.2.2.2.slots) (hq : Q (some (.long v)) h) : Ex ω μ pc L [.long v] h k n Q := by
  intro p l e s m args below meth c H locs ls C hH hS hL
  refine W.widen hk hn ?_
  exact W.lret C.1 C.2.1 (C.2.2.2.1.trans hr) (fun t ht hW => ⟨⟨_, h, rfl, hq, by rw [ht]; exact hH⟩, hS.F ht⟩) hS.2.2 hd C.2.2.2.2.2.1
theorem x_vret (hd : decode μ.2.1 pc = .ok (.return_, 1)) (hr : μ.2.2.2.1 = none) (hk : k ≤ μ.2.2.2.2.cells) (hn : n ≤ μ.2.2.2.2.slots) (hq : Q none h) : Ex ω μ pc L [] h k n Q := by
  intro p l e s m args below meth c H locs ls C hH hS hL
  refine W.widen hk hn ?_
  exact W.vret C.1 C.2.1 (C.2.2.2.1.trans hr) (fun t ht hW => ⟨⟨_, h, rfl, hq, by rw [ht]; exact hH⟩, hS.F ht⟩) hS.2.2 hd C.2.2.2.2.2.1
theorem x_aret {a : Nat} {nm : String} (hd : decode μ.2.1 pc = .ok (.areturn, 1)) (hr : μ.2.2.2.1 = some (.object nm)) (hk : k ≤ μ.2.2.2.2.cells) (hn : n ≤ μ.2.2.2.2.slots) (hq : Q (some (.ref a)) h) : Ex ω μ pc L [.ref a] h k n Q := by
  intro p l e s m args below meth c H locs ls C hH hS hL
  refine W.widen hk hn ?_
  exact W.aret C.1 C.2.1 (C.2.2.2.1.trans hr) (Or.inl ⟨_, rfl⟩) (Or.inr ⟨_, rfl⟩) (fun t ht hW => ⟨⟨_, h, rfl, hq, by rw [ht]; exact hH⟩, hS.F ht⟩) hS.2.2 hd C.2.2.2.2.2.1
def argV : List Value → List (Option Value)
  | [] => []
  | v :: vs => if v.category = 2 then some v :: none :: argV vs else some v :: argV vs
def argL (nL : Nat) (vs : List Value) : List (Option Value) := argV vs ++ List.replicate (nL - (argV vs).length) none
theorem argV_in : ∀ (vs : List Value) (o i : Nat) (v : Value), (argV vs)[i]? = some (some v) → (o + i, v) ∈ lv_args o vs := by
  intro vs
  induction vs with
  | nil => intro o i v h; simp [argV] at h
  | cons u vs ih =>
    intro o i v h
    unfold lv_args
    unfold argV at h
    by_cases hc : u.category = 2
    · rw [if_pos hc] at h ⊢
      match i, h with
      | 0, h => simp at h; subst h; exact List.mem_cons_self
      | 1, h => simp at h
      | i + 2, h =>
        have h2 := ih (o + 2) i v (by simpa using h)
        rw [show o + (i + 2) = o + 2 + i by omega]
        exact List.mem_cons_of_mem _ h2
    · rw [if_neg hc] at h ⊢
      match i, h with
      | 0, h => simp at h; subst h; exact List.mem_cons_self
      | i + 1, h =>
        have h2 := ih (o + 1) i v (by simpa using h)
        rw [show o + (i + 1) = o + 1 + i by omega]
        exact List.mem_cons_of_mem _ h2
theorem lh_entry (vs : List Value) {nL : Nat} (hn : (lg_sl vs).length ≤ nL) : lh ((lg_sl vs ++ List.replicate (nL - (lg_sl vs).length) Slot.unset).toArray) nL (argL nL vs) := by
  have h := lv_entry vs hn
  refine ⟨h.1, h.2.1, fun i v hv => ?_⟩
  refine h.2.2 (i, v) ?_
  unfold argL at hv
  by_cases hi : i < (argV vs).length
  · rw [List.getElem?_append_left hi] at hv
    have := argV_in vs 0 i v hv
    rwa [Nat.zero_add] at this
  · rw [List.getElem?_append_right (by omega), List.getElem?_replicate] at hv
    split at hv <;> cases hv
def exP (ω : Om) (h : AH) (U : State) : Prop := hp ω h U.heap ∧ va_K ω.1 vwCl (exT ω) U ∧ exB ω U U.heap ∧ ω.2.2.1 ≤ U.heap.size
theorem ex_met {l : Launch} {av : List Value} {Q1 : Option Value → AH → Prop} (hpl : plainName μ'.1.cls = true) (hlen : (lg_sl av).length ≤ μ'.2.2.1) (kk : Ex ω μ' 0 (argL μ'.2.2.1 av) [] h 0 0 Q1) :
    Met l μ'.1 (ex_ws μ') μ'.2.2.2.2 (va_Pc av (exP ω h)) (exQ ω Q1) μ'.2.2.2.2.cells μ'.2.2.2.2.slots (exA ω) := by
  refine Met.ofW (cc := μ'.2.1) (maxL := μ'.2.2.1) (ret := μ'.2.2.2.1) hpl rfl ?_
  intro p e s m args below meth c s₁ B hml hv
  obtain ⟨rfl, hH, hK, hB, hbs⟩ := hv
  have hts := atoms_spec (ws := ex_ws μ') B.pre
  rw [lg_entry_eq]
  exact kk p l e s m av.toArray below meth c s.heap [] _ ⟨B.exec, B.bytes, hml, B.returns, findClass_of_methodNamed B.named, B.notSynchronized, (name_of_methodNamed B.named B.method).1, fun w hw => hts w (List.mem_cons_of_mem _ hw), hK, hB, hbs⟩ hH va_S.rf (lh_entry av hlen)
theorem exP_blind (av : List Value) (h : AH) : FrameBlind (va_Pc av (exP ω h)) := fun a U g mk q =>
  ⟨q.1, q.2.1, va_K.moved (u := U) (U := U.calling g mk a) (Vm.Alike.refl U.vm) q.2.2.1, exB_same (U := U.calling g mk a) q.2.2.2.1 rfl rfl, q.2.2.2.2⟩
theorem ws_good : wsL_law.all goodWord = true := by decide +kernel
theorem ws_goodIn {w : Cond} (hw : w ∈ wsL_law) : GoodIn wsL_law (w :: wsL_law) := fun v hv => by
  rcases List.mem_cons.mp hv with rfl | h
  · exact ⟨hw, good_of_word (List.all_eq_true.mp ws_good _ hw)⟩
  · exact ⟨h, good_of_word (List.all_eq_true.mp ws_good _ h)⟩
/-- the words of a call: of the callee alone; of the link -/
def LkC (μ' : MR) (na : Nat) : Prop := Cond.code μ'.1 μ'.2.1 μ'.2.2.1 μ'.2.2.2.1 ∈ wsL_law ∧ Cond.initialized μ'.1.cls ∈ wsL_law ∧ (μ'.1.cls ≠ "java/lang/invoke/MethodHandle" ∧ μ'.1.cls ≠ "java/lang/invoke/VarHandle") ∧ (parseMethodDescriptor μ'.1.desc).map (fun d => d.parameters.length) = some na ∧ plainName μ'.1.cls = true
abbrev RmOk (μ μ' : MR) : Prop := μ'.2.2.2.2.frames + 1 ≤ μ.2.2.2.2.frames ∧ 8 + (μ'.2.2.1 + 11) + μ'.2.2.2.2.locals ≤ μ.2.2.2.2.locals
theorem lkc_len {na : Nat} (h : LkC μ' na) : ∀ sig, parseMethodDescriptor μ'.1.desc = some sig → na = sig.parameters.length := fun sig hs => by
  have h2 := h.2.2.2.1
  rw [hs] at h2
  exact (Option.some.inj h2).symm
/-- behind a call -/
theorem ex_after {p : Program} {l : Launch} {e : Env} {s : State} {m : MethodId} {args : Array Value} {below : List Frame} {meth : Method} {c : Code} {H : Heap} {locs : List Loc} {ls : Array Slot} {R : Room} {mc ms : Nat} {rest : List Value} {a : Array Value} {Q2 : State → Prop}
    (hS : va_S (exA ω) s.heap H locs) {Q1 : Option Value → AH → Prop} (run : va_Run p l e R s m args below meth c H locs k n mc ms (F0 m pc ls st) rest (exQ ω Q1 a) (exA ω))
    (kk : ∀ (v : Option Value) (h' : AH) (H1 : Heap) (locs1 : List Loc), Q1 v h' → hp ω h' H1 → va_S (exA ω) s.heap H1 locs1 → W p l e R s m args below meth c H1 locs1 (k + mc) (n + ms) Q2 (F0 m (pc + 3) ls (v.toList ++ rest))) : W p l e R s m args below meth c H locs k n Q2 (F0 m pc ls st) := by
  intro T hT X
  obtain ⟨v, st₀, t, T', Lc, h0, X', hLc, e1, e2, ⟨⟨r, h', c1, c2, c3⟩, hz, hkp⟩, stp⟩ := run T hT X
  cases c1
  rw [h0] at hz hkp
  obtain ⟨t2, a1, b1⟩ := kk v h' T'.heap (locs ++ Lc) c2 (by rw [e1]; exact c3)
    ⟨Nat.le_trans hS.1 (by rw [e1]; exact hz), fun q h1 h2 => by rw [e1, hkp q (Nat.lt_of_lt_of_le h1 hS.1) h2]; exact hS.2.1 q h1 h2, fun q hq => by
      rcases List.mem_append.mp hq with h | h
      · exact hS.2.2 q h
      · exact hLc q h⟩ T' rfl X'
  exact ⟨t2, stp t2 a1, b1⟩
/-- a receiver: an object of ours -/
def Recv (ω : Om) (h : AH) (C : String) (b : Nat) : Prop := ∀ (s : State) (H : Heap) (locs : List Loc), va_K ω.1 vwCl (exT ω) s → exB ω s s.heap → hp ω h H → va_S (exA ω) s.heap H locs → ∃ cell : Cell, H[b]? = some cell ∧ cell.vm.isStatics = false ∧ s.vm.findClass C = some cell.cls
theorem recvO {t N nn : Nat} {C : String} {T : u_T} {ty : Nat → FieldType} {b : Nat} (cf : CF t C T N ty) (hs : (ω.2.2.2.1 = true → TY h) → gs h b = some (t, nn)) : Recv ω h C b := by
  intro s H locs hK _ hH _
  obtain ⟨-, -, g3⟩ := hH.2.2.1 b t nn (hs hH.2.2.2)
  rw [ent_obj ω h b nn cf.2.2.2.2.1] at g3
  obtain ⟨r, h1, cell, q1, q2, q3, -⟩ := g3
  exact ⟨cell, q1, by rw [q3]; rfl, by rw [q2]; exact (hK.1 t _ cf.1).2.1⟩
theorem recvS {i b : Nat} (hi : i < 5) (hb : b = ω.2.2.2.2.1 i) : Recv ω h "java/lang/String" b := by
  intro s H locs _ hB _ hS
  subst hb
  exact vk_recv hB.2.2.1 hi hS
theorem x_callV {idx na : Nat} (q b : Nat) (As rest : List Value) (hd : decode μ.2.1 pc = .ok (.invokevirtual idx, 3)) (hq : pc + 3 = q) (hc : LkC μ' na) (hl : Cond.methodLink μ.1.cls idx μ'.1 ∈ wsL_law ∧ Cond.instanceMethod μ'.1 ∈ wsL_law ∧ Cond.selects μ'.1.cls μ'.1 μ'.1 ∈ wsL_law) (hR : RmOk μ μ') (hrecv : Recv ω h μ'.1.cls b)
    (hst : As.reverse ++ .ref b :: rest = st) (hna : As.length = na) (hcat : (rest.map fun v => v.category).sum ≤ 8) (hlen : (lg_sl (.ref b :: As)).length ≤ μ'.2.2.1) (hk : k + μ'.2.2.2.2.cells ≤ μ.2.2.2.2.cells) (hn : n + μ'.2.2.2.2.slots ≤ μ.2.2.2.2.slots)
    (kk : Ex ω μ' 0 (argL μ'.2.2.1 (.ref b :: As)) [] h 0 0 (fun v h' => Ex ω μ q L (v.toList ++ rest) h' (k + μ'.2.2.2.2.cells) (n + μ'.2.2.2.2.slots) Q)) : Ex ω μ pc L st h k n Q := by
  subst hq; subst hst
  intro p l e s m args below meth c H locs ls C hH hS hL
  obtain ⟨cx1, cx2, cx3, cx4, cx5, cx6, cx7, cx8, cx9, cx10, cx11⟩ := id C
  refine ex_after hS (va_runV (As := As) (rest := rest) (Ts := wsL_law) (own := μ.1.cls) (C := μ'.1.cls) ⟨cx1, cx2, cx3, cx5, cx8⟩ (ex_met (l := l) hc.2.2.2.2 hlen kk) ⟨⟨rfl, rfl, hR.1, hR.2, pay_in cx8 (ws_goodIn hc.1), List.mem_cons_self, cx8 _ hc.1, cx8 _ hc.2.1, hc.2.2.1, lkc_len hc, cx8 _ hl.1⟩, cx8 _ hl.2.1, cx8 _ hl.2.2⟩
    ⟨exP_blind _ _, hrecv s H locs cx9 cx10 hH hS, fun U hU hW => ⟨rfl, by rw [hU]; exact hH, va_K.moved hW.alike cx9, exB_moved cx10 hS hW hU, by rw [hU]; exact Nat.le_trans cx11 hS.1⟩⟩ rfl hna hL.1 rfl (lv_room hcat) hd ⟨hk, hn⟩) (fun v h' H1 locs1 q1 q2 q3 => ?_)
  exact q1 p l e s m args below meth c H1 locs1 ls C q2 q3 hL
theorem x_callS {idx na : Nat} (q : Nat) (As rest : List Value) (hd : decode μ.2.1 pc = .ok (.invokestatic idx, 3)) (hq : pc + 3 = q) (hc : LkC μ' na) (hl : Cond.methodLink μ.1.cls idx μ'.1 ∈ wsL_law ∧ Cond.static μ'.1 ∈ wsL_law) (hR : RmOk μ μ')
    (hst : As.reverse ++ rest = st) (hna : As.length = na) (hcat : (rest.map fun v => v.category).sum ≤ 8) (hlen : (lg_sl As).length ≤ μ'.2.2.1) (hk : k + μ'.2.2.2.2.cells ≤ μ.2.2.2.2.cells) (hn : n + μ'.2.2.2.2.slots ≤ μ.2.2.2.2.slots)
    (kk : Ex ω μ' 0 (argL μ'.2.2.1 As) [] h 0 0 (fun v h' => Ex ω μ q L (v.toList ++ rest) h' (k + μ'.2.2.2.2.cells) (n + μ'.2.2.2.2.slots) Q)) : Ex ω μ pc L st h k n Q := by
  subst hq; subst hst
  intro p l e s m args below meth c H locs ls C hH hS hL
  obtain ⟨cx1, cx2, cx3, cx4, cx5, cx6, cx7, cx8, cx9, cx10, cx11⟩ := id C
  refine ex_after hS (va_runS (As := As) (rest := rest) (Ts := wsL_law) (own := μ.1.cls) ⟨cx1, cx2, cx3, cx5, cx8⟩ (ex_met (l := l) hc.2.2.2.2 hlen kk) ⟨⟨rfl, rfl, hR.1, hR.2, pay_in cx8 (ws_goodIn hc.1), List.mem_cons_self, cx8 _ hc.1, cx8 _ hc.2.1, hc.2.2.1, lkc_len hc, cx8 _ hl.1⟩, cx8 _ hl.2⟩
    ⟨exP_blind _ _, fun U hU hW => ⟨rfl, by rw [hU]; exact hH, va_K.moved hW.alike cx9, exB_moved cx10 hS hW hU, by rw [hU]; exact Nat.le_trans cx11 hS.1⟩⟩ rfl hna hL.1 rfl (lv_room hcat) hd ⟨hk, hn⟩) (fun v h' H1 locs1 q1 q2 q3 => ?_)
  exact q1 p l e s m args below meth c H1 locs1 ls C q2 q3 hL
theorem x_callSN {idx na : Nat} {host : String} (q : Nat) (As rest : List Value) (hd : decode μ.2.1 pc = .ok (.invokestatic idx, 3)) (hq : pc + 3 = q) (hc : LkC μ' na) (hl : (μ.1.cls, idx, μ'.1, host) ∈ nestM ∧ Cond.static μ'.1 ∈ wsL_law) (hR : RmOk μ μ')
    (hst : As.reverse ++ rest = st) (hna : As.length = na) (hcat : (rest.map fun v => v.category).sum ≤ 8) (hlen : (lg_sl As).length ≤ μ'.2.2.1) (hk : k + μ'.2.2.2.2.cells ≤ μ.2.2.2.2.cells) (hn : n + μ'.2.2.2.2.slots ≤ μ.2.2.2.2.slots)
    (kk : Ex ω μ' 0 (argL μ'.2.2.1 As) [] h 0 0 (fun v h' => Ex ω μ q L (v.toList ++ rest) h' (k + μ'.2.2.2.2.cells) (n + μ'.2.2.2.2.slots) Q)) : Ex ω μ pc L st h k n Q := by
  subst hq; subst hst
  intro p l e s m args below meth c H locs ls C hH hS hL
  obtain ⟨cx1, cx2, cx3, cx4, cx5, cx6, cx7, cx8, cx9, cx10, cx11⟩ := id C
  refine ex_after hS (va_runSN (As := As) (rest := rest) (Ts := wsL_law) (own := μ.1.cls) (host := host) ⟨cx1, cx2, cx3, cx5, cx8⟩ (ex_met (l := l) hc.2.2.2.2 hlen kk) ⟨⟨⟨rfl, rfl, hR.1, hR.2, pay_in cx8 (ws_goodIn hc.1), List.mem_cons_self⟩, cx8 _ hc.1, cx8 _ hc.2.1, hc.2.2.1, lkc_len hc, va_Nw.use rfl (cx10.2.2.2.2.2.2.1.1 _ hl.1)⟩, cx8 _ hl.2, trivial⟩
    ⟨exP_blind _ _, fun U hU hW => ⟨rfl, by rw [hU]; exact hH, va_K.moved hW.alike cx9, exB_moved cx10 hS hW hU, by rw [hU]; exact Nat.le_trans cx11 hS.1⟩⟩ rfl hna hL.1 rfl (lv_room hcat) hd ⟨hk, hn⟩) (fun v h' H1 locs1 q1 q2 q3 => ?_)
  exact q1 p l e s m args below meth c H1 locs1 ls C q2 q3 hL
theorem x_callI {idx na : Nat} (q b : Nat) (As rest : List Value) (hd : decode μ.2.1 pc = .ok (.invokespecial idx, 3)) (hq : pc + 3 = q) (hc : LkC μ' na) (hret : μ'.2.2.2.1 = none) (hl : Cond.methodLink μ.1.cls idx μ'.1 ∈ wsL_law ∧ Cond.instanceMethod μ'.1 ∈ wsL_law) (hnm : μ'.1.name = "<init>") (hR : RmOk μ μ')
    (hst : As.reverse ++ .ref b :: rest = st) (hna : As.length = na) (hcat : (rest.map fun v => v.category).sum ≤ 8) (hlen : (lg_sl (.ref b :: As)).length ≤ μ'.2.2.1) (hk : k + μ'.2.2.2.2.cells ≤ μ.2.2.2.2.cells) (hn : n + μ'.2.2.2.2.slots ≤ μ.2.2.2.2.slots)
    (kk : Ex ω μ' 0 (argL μ'.2.2.1 (.ref b :: As)) [] h 0 0 (fun v h' => Ex ω μ q L (v.toList ++ rest) h' (k + μ'.2.2.2.2.cells) (n + μ'.2.2.2.2.slots) Q)) : Ex ω μ pc L st h k n Q := by
  subst hq; subst hst
  intro p l e s m args below meth c H locs ls C hH hS hL
  obtain ⟨cx1, cx2, cx3, cx4, cx5, cx6, cx7, cx8, cx9, cx10, cx11⟩ := id C
  have hc1 := hc.1
  have hw1 : ex_ws μ' = .code μ'.1 μ'.2.1 μ'.2.2.1 none :: wsL_law := by unfold ex_ws; rw [hret]
  rw [hret] at hc1
  refine ex_after hS (va_runI (As := As) (rest := rest) (Ts := wsL_law) (own := μ.1.cls) ⟨cx1, cx2, cx3, cx5, cx8⟩ (ex_met (l := l) hc.2.2.2.2 hlen kk) ⟨⟨rfl, rfl, hR.1, hR.2, pay_in cx8 (ws_goodIn hc.1), (by rw [hw1]; exact List.mem_cons_self), cx8 _ hc1, cx8 _ hc.2.1, hc.2.2.1, lkc_len hc, cx8 _ hl.1⟩, hnm, cx8 _ hl.2⟩
    ⟨exP_blind _ _, fun U hU hW => ⟨rfl, by rw [hU]; exact hH, va_K.moved hW.alike cx9, exB_moved cx10 hS hW hU, by rw [hU]; exact Nat.le_trans cx11 hS.1⟩⟩ rfl hna hL.1 rfl (lv_room hcat) hd ⟨hk, hn⟩) (fun v h' H1 locs1 q1 q2 q3 => ?_)
  exact q1 p l e s m args below meth c H1 locs1 ls C q2 q3 hL
theorem x_callIN {idx na : Nat} {host : String} (q b : Nat) (As rest : List Value) (hd : decode μ.2.1 pc = .ok (.invokespecial idx, 3)) (hq : pc + 3 = q) (hc : LkC μ' na) (hret : μ'.2.2.2.1 = none) (hl : (μ.1.cls, idx, μ'.1, host) ∈ nestM ∧ Cond.instanceMethod μ'.1 ∈ wsL_law) (hnm : μ'.1.name = "<init>") (hR : RmOk μ μ')
    (hst : As.reverse ++ .ref b :: rest = st) (hna : As.length = na) (hcat : (rest.map fun v => v.category).sum ≤ 8) (hlen : (lg_sl (.ref b :: As)).length ≤ μ'.2.2.1) (hk : k + μ'.2.2.2.2.cells ≤ μ.2.2.2.2.cells) (hn : n + μ'.2.2.2.2.slots ≤ μ.2.2.2.2.slots)
    (kk : Ex ω μ' 0 (argL μ'.2.2.1 (.ref b :: As)) [] h 0 0 (fun v h' => Ex ω μ q L (v.toList ++ rest) h' (k + μ'.2.2.2.2.cells) (n + μ'.2.2.2.2.slots) Q)) : Ex ω μ pc L st h k n Q := by
  subst hq; subst hst
  intro p l e s m args below meth c H locs ls C hH hS hL
  obtain ⟨cx1, cx2, cx3, cx4, cx5, cx6, cx7, cx8, cx9, cx10, cx11⟩ := id C
  have hc1 := hc.1
  have hw1 : ex_ws μ' = .code μ'.1 μ'.2.1 μ'.2.2.1 none :: wsL_law := by unfold ex_ws; rw [hret]
  rw [hret] at hc1
  refine ex_after hS (va_runIN (As := As) (rest := rest) (Ts := wsL_law) (own := μ.1.cls) (host := host) ⟨cx1, cx2, cx3, cx5, cx8⟩ (ex_met (l := l) hc.2.2.2.2 hlen kk) ⟨⟨⟨rfl, rfl, hR.1, hR.2, pay_in cx8 (ws_goodIn hc.1), (by rw [hw1]; exact List.mem_cons_self)⟩, cx8 _ hc1, cx8 _ hc.2.1, hc.2.2.1, lkc_len hc, va_Nw.use rfl (cx10.2.2.2.2.2.2.1.1 _ hl.1)⟩, hnm, cx8 _ hl.2⟩
    ⟨exP_blind _ _, fun U hU hW => ⟨rfl, by rw [hU]; exact hH, va_K.moved hW.alike cx9, exB_moved cx10 hS hW hU, by rw [hU]; exact Nat.le_trans cx11 hS.1⟩⟩ rfl hna hL.1 rfl (lv_room hcat) hd ⟨hk, hn⟩) (fun v h' H1 locs1 q1 q2 q3 => ?_)
  exact q1 p l e s m args below meth c H1 locs1 ls C q2 q3 hL
end EXC
