/-! the law's own judgement: as Ex, but it comes to the law's end, and reads the script -/
abbrev μL : MR := (yL_law, cL_law, 4, ret, room_1)
def CxL (ω : Om) (p : Program) (s : State) (m : MethodId) (args : Array Value) (meth : Method) (c : Code) : Prop :=
  p.tables.exec = Jvm.exec ∧ c.code = cL_law ∧ c.maxLocals = 4 ∧ meth.sig.returnType = ret ∧ s.vm.findClass RL = some m.cls ∧ meth.locks = false ∧ True ∧ (∀ w ∈ wsL_law, w.before args s = true) ∧ va_K ω.1 vwCl (exT ω) s ∧ exB ω s s.heap ∧ ω.2.2.1 ≤ s.heap.size
def EL (ω : Om) (b0 Ln : Nat) (xs : Nat → Int32) (pc : Nat) (L : List (Option Value)) (st : List Value) (h : AH) (k n : Nat) : Prop :=
  ∀ (p : Program) (l : Launch) (e : Env) (s : State) (m : MethodId) (below : List Frame) (meth : Method) (c : Code) (H : Heap) (locs : List Loc) (ls : Array Slot),
    CxL ω p s m #[Value.ref b0] meth c → (va_X b0 Ln xs s s.heap ∧ b0 < s.heap.size ∧ ω.2.2.1 = s.heap.size) → hp ω h H → va_S (exA ω) s.heap H locs → lh ls 4 L → W p l e room_1 s m #[Value.ref b0] below meth c H locs k n (lw_Z below #[Value.ref b0] s) (F0 m pc ls st)
section ELR
variable {ω : Om} {b0 Ln : Nat} {xs : Nat → Int32} {pc : Nat} {L : List (Option Value)} {st : List Value} {h : AH} {k n : Nat} {μ' : MR}
theorem e_iconst {i : Int} (v : Int32) (q : Nat) (hd : decode μL.2.1 pc = .ok (.iconst i, 1)) (hq : pc + 1 = q) (hv : Int32.ofInt i = v) (kk : EL ω b0 Ln xs q L (.int v :: st) h k n) : EL ω b0 Ln xs pc L (st) h k n := by
  subst hq
  intro p l e s m below meth c H locs ls C X hH hS hL
  exact lv_iconst C.1 C.2.1 hd hv (kk p l e s m below meth c H locs ls C X hH hS hL)
theorem e_bipush {i : Int} (v : Int32) (q : Nat) (hd : decode μL.2.1 pc = .ok (.bipush i, 2)) (hq : pc + 2 = q) (hv : (Int8.ofInt i).toInt32 = v) (kk : EL ω b0 Ln xs q L (.int v :: st) h k n) : EL ω b0 Ln xs pc L (st) h k n := by
  subst hq
  intro p l e s m below meth c H locs ls C X hH hS hL
  exact lv_bipush C.1 C.2.1 hd hv (kk p l e s m below meth c H locs ls C X hH hS hL)
theorem e_isub {x y : Int32} (q : Nat) (hd : decode μL.2.1 pc = .ok (.isub, 1)) (hq : pc + 1 = q) (kk : EL ω b0 Ln xs q L (.int (x - y) :: st) h k n) : EL ω b0 Ln xs pc L (.int y :: .int x :: st) h k n := by
  subst hq
  intro p l e s m below meth c H locs ls C X hH hS hL
  exact lv_isub C.1 C.2.1 hd  (kk p l e s m below meth c H locs ls C X hH hS hL)
theorem e_iand {x y : Int32} (q : Nat) (hd : decode μL.2.1 pc = .ok (.iand, 1)) (hq : pc + 1 = q) (kk : EL ω b0 Ln xs q L (.int (x &&& y) :: st) h k n) : EL ω b0 Ln xs pc L (.int y :: .int x :: st) h k n := by
  subst hq
  intro p l e s m below meth c H locs ls C X hH hS hL
  exact lv_iand C.1 C.2.1 hd  (kk p l e s m below meth c H locs ls C X hH hS hL)
theorem e_iadd {x y : Int32} (q : Nat) (hd : decode μL.2.1 pc = .ok (.iadd, 1)) (hq : pc + 1 = q) (kk : EL ω b0 Ln xs q L (.int (x + y) :: st) h k n) : EL ω b0 Ln xs pc L (.int y :: .int x :: st) h k n := by
  subst hq
  intro p l e s m below meth c H locs ls C X hH hS hL
  exact lv_iadd C.1 C.2.1 hd  (kk p l e s m below meth c H locs ls C X hH hS hL)
theorem e_dup {v : Value} (q : Nat) (hd : decode μL.2.1 pc = .ok (.dup, 1)) (hq : pc + 1 = q) (hv : v.category = 1) (kk : EL ω b0 Ln xs q L (v :: v :: st) h k n) : EL ω b0 Ln xs pc L (v :: st) h k n := by
  subst hq
  intro p l e s m below meth c H locs ls C X hH hS hL
  exact lv_dup C.1 C.2.1 hd hv (kk p l e s m below meth c H locs ls C X hH hS hL)
theorem e_icmp_gt {x y : Int32} {off : Int} (q t : Nat) (hd : decode μL.2.1 pc = .ok (.if_icmp .gt off, 3)) (hq : pc + 3 = q) (ht : (pc : Int) + off = (t : Int)) (kt : y < x → EL ω b0 Ln xs t L st h k n) (kf : ¬ y < x → EL ω b0 Ln xs q L st h k n) : EL ω b0 Ln xs pc L (.int y :: .int x :: st) h k n := by
  subst hq
  intro p l e s m below meth c H locs ls C X hH hS hL
  exact lv_icmp_gt C.1 C.2.1 hd ht (fun z => kt z p l e s m below meth c H locs ls C X hH hS hL) (fun z => kf z p l e s m below meth c H locs ls C X hH hS hL)
theorem e_icmp_eq {x y : Int32} {off : Int} (q t : Nat) (hd : decode μL.2.1 pc = .ok (.if_icmp .eq off, 3)) (hq : pc + 3 = q) (ht : (pc : Int) + off = (t : Int)) (kt : x = y → EL ω b0 Ln xs t L st h k n) (kf : ¬ x = y → EL ω b0 Ln xs q L st h k n) : EL ω b0 Ln xs pc L (.int y :: .int x :: st) h k n := by
  subst hq
  intro p l e s m below meth c H locs ls C X hH hS hL
  exact lv_icmp_eq C.1 C.2.1 hd ht (fun z => kt z p l e s m below meth c H locs ls C X hH hS hL) (fun z => kf z p l e s m below meth c H locs ls C X hH hS hL)
theorem e_if_eq {x : Int32} {off : Int} (q t : Nat) (hd : decode μL.2.1 pc = .ok (.ifCond .eq off, 3)) (hq : pc + 3 = q) (ht : (pc : Int) + off = (t : Int)) (kt : x = 0 → EL ω b0 Ln xs t L st h k n) (kf : ¬ x = 0 → EL ω b0 Ln xs q L st h k n) : EL ω b0 Ln xs pc L (.int x :: st) h k n := by
  subst hq
  intro p l e s m below meth c H locs ls C X hH hS hL
  exact lv_if_eq C.1 C.2.1 hd ht (fun z => kt z p l e s m below meth c H locs ls C X hH hS hL) (fun z => kf z p l e s m below meth c H locs ls C X hH hS hL)
theorem e_lcmp {x y : Int64} (q : Nat) (hd : decode μL.2.1 pc = .ok (.lcmp, 1)) (hq : pc + 1 = q) (kk : EL ω b0 Ln xs q L (.int (lg_cmp x y) :: st) h k n) : EL ω b0 Ln xs pc L (.long y :: .long x :: st) h k n := by
  subst hq
  intro p l e s m below meth c H locs ls C X hH hS hL
  exact W.lcmp C.1 C.2.1 hd  (kk p l e s m below meth c H locs ls C X hH hS hL)
theorem e_goto {off : Int} (t : Nat) (hd : decode μL.2.1 pc = .ok (.goto off, 3)) (ht : (pc : Int) + off = (t : Int)) (kk : EL ω b0 Ln xs t L st h k n) : EL ω b0 Ln xs pc L st h k n := by
  intro p l e s m below meth c H locs ls C X hH hS hL
  exact lv_goto C.1 C.2.1 hd ht (kk p l e s m below meth c H locs ls C X hH hS hL)
theorem e_aload0 {x : Nat} (q : Nat) (hd : decode μL.2.1 pc = .ok (.aload_n 0, 1)) (hq : pc + 1 = q) (kk : EL ω b0 Ln xs q (some (.ref x) :: L) (.ref x :: st) h k n) : EL ω b0 Ln xs pc (some (.ref x) :: L) st h k n := by
  subst hq
  intro p l e s m below meth c H locs ls C X hH hS hL
  exact lv_aload_n C.1 C.2.1 hd rfl (hL.2.2 0 _ rfl) (kk p l e s m below meth c H locs ls C X hH hS hL)
theorem e_aload1 {o0 : Option Value} {x : Nat} (q : Nat) (hd : decode μL.2.1 pc = .ok (.aload_n 1, 1)) (hq : pc + 1 = q) (kk : EL ω b0 Ln xs q (o0 :: some (.ref x) :: L) (.ref x :: st) h k n) : EL ω b0 Ln xs pc (o0 :: some (.ref x) :: L) st h k n := by
  subst hq
  intro p l e s m below meth c H locs ls C X hH hS hL
  exact lv_aload_n C.1 C.2.1 hd rfl (hL.2.2 1 _ rfl) (kk p l e s m below meth c H locs ls C X hH hS hL)
theorem e_aload2 {o0 o1 : Option Value} {x : Nat} (q : Nat) (hd : decode μL.2.1 pc = .ok (.aload_n 2, 1)) (hq : pc + 1 = q) (kk : EL ω b0 Ln xs q (o0 :: o1 :: some (.ref x) :: L) (.ref x :: st) h k n) : EL ω b0 Ln xs pc (o0 :: o1 :: some (.ref x) :: L) st h k n := by
  subst hq
  intro p l e s m below meth c H locs ls C X hH hS hL
  exact lv_aload_n C.1 C.2.1 hd rfl (hL.2.2 2 _ rfl) (kk p l e s m below meth c H locs ls C X hH hS hL)
theorem e_astore1 {o0 : Option Value} {z : Option Value} {x : Nat} (q : Nat) (hd : decode μL.2.1 pc = .ok (.astore_n 1, 1)) (hq : pc + 1 = q) (hn : 1 < μL.2.2.1) (hc : lcat (o0 :: z :: L) = true) (kk : EL ω b0 Ln xs q (o0 :: some (.ref x) :: L) st h k n) : EL ω b0 Ln xs pc (o0 :: z :: L) (.ref x :: st) h k n := by
  subst hq
  intro p l e s m below meth c H locs ls C X hH hS hL
  exact lv_astore_n C.1 C.2.1 hd rfl (lh_has hL) hn rfl (fun ls' h' => kk p l e s m below meth c H locs ls' C X hH hS (lh_set (L := o0 :: z :: L) hc h'))
theorem e_astore2 {o0 o1 : Option Value} {z : Option Value} {x : Nat} (q : Nat) (hd : decode μL.2.1 pc = .ok (.astore_n 2, 1)) (hq : pc + 1 = q) (hn : 2 < μL.2.2.1) (hc : lcat (o0 :: o1 :: z :: L) = true) (kk : EL ω b0 Ln xs q (o0 :: o1 :: some (.ref x) :: L) st h k n) : EL ω b0 Ln xs pc (o0 :: o1 :: z :: L) (.ref x :: st) h k n := by
  subst hq
  intro p l e s m below meth c H locs ls C X hH hS hL
  exact lv_astore_n C.1 C.2.1 hd rfl (lh_has hL) hn rfl (fun ls' h' => kk p l e s m below meth c H locs ls' C X hH hS (lh_set (L := o0 :: o1 :: z :: L) hc h'))
theorem e_iload3 {o0 o1 o2 : Option Value} {x : Int32} (q : Nat) (hd : decode μL.2.1 pc = .ok (.iload_n 3, 1)) (hq : pc + 1 = q) (kk : EL ω b0 Ln xs q (o0 :: o1 :: o2 :: some (.int x) :: L) (.int x :: st) h k n) : EL ω b0 Ln xs pc (o0 :: o1 :: o2 :: some (.int x) :: L) st h k n := by
  subst hq
  intro p l e s m below meth c H locs ls C X hH hS hL
  exact lv_iload_n C.1 C.2.1 hd rfl (hL.2.2 3 _ rfl) (kk p l e s m below meth c H locs ls C X hH hS hL)
theorem e_istore3 {o0 o1 o2 : Option Value} {z : Option Value} {x : Int32} (q : Nat) (hd : decode μL.2.1 pc = .ok (.istore_n 3, 1)) (hq : pc + 1 = q) (hn : 3 < μL.2.2.1) (hc : lcat (o0 :: o1 :: o2 :: z :: L) = true) (kk : EL ω b0 Ln xs q (o0 :: o1 :: o2 :: some (.int x) :: L) st h k n) : EL ω b0 Ln xs pc (o0 :: o1 :: o2 :: z :: L) (.int x :: st) h k n := by
  subst hq
  intro p l e s m below meth c H locs ls C X hH hS hL
  exact lv_istore_n C.1 C.2.1 hd rfl (lh_has hL) hn rfl (fun ls' h' => kk p l e s m below meth c H locs ls' C X hH hS (lh_set (L := o0 :: o1 :: o2 :: z :: L) hc h'))
theorem e_iinc3 {o0 o1 o2 : Option Value} {x : Int32} {d : Int} (v : Int32) (q : Nat) (hd : decode μL.2.1 pc = .ok (.iinc 3 d, 3)) (hq : pc + 3 = q) (hn : 3 < μL.2.2.1) (hc : lcat (o0 :: o1 :: o2 :: some (.int x) :: L) = true) (hv : x + Int32.ofInt d = v) (kk : EL ω b0 Ln xs q (o0 :: o1 :: o2 :: some (.int v) :: L) st h k n) : EL ω b0 Ln xs pc (o0 :: o1 :: o2 :: some (.int x) :: L) st h k n := by
  subst hq
  intro p l e s m below meth c H locs ls C X hH hS hL
  obtain ⟨kx, hkx⟩ := List.getElem?_of_mem ((toLv_mem (o0 :: o1 :: o2 :: some (.int x) :: L) 0 (3, .int x)).mpr ⟨3, rfl, rfl⟩)
  exact lv_iinc C.1 C.2.1 hd (lh_has hL) (k := kx) hkx hv hn rfl (fun ls' h' => kk p l e s m below meth c H locs ls' C X hH hS (lh_set (L := o0 :: o1 :: o2 :: some (.int x) :: L) hc h'))
theorem e_tsw (hi : Nat) {dflt hiI : Int} {offs : Array Int} {len : Nat} {x : Int32} (tg : List Nat) (td : Nat) (hd : decode μL.2.1 pc = .ok (.tableswitch dflt 0 hiI offs, len)) (hI : hiI = (hi : Int)) (htd : (pc : Int) + dflt = (td : Int)) (hsz : tg.length = hi + 1) (htg : offs.toList = tg.map (fun t : Nat => (t : Int) - (pc : Int))) (hhi : hi < 1000)
    (kd : (¬ (0 ≤ x ∧ x ≤ nI hi)) → EL ω b0 Ln xs td L st h k n) (kc : ∀ j : Nat, (hj : j < tg.length) → x = nI j → EL ω b0 Ln xs tg[j] L st h k n) : EL ω b0 Ln xs pc L (.int x :: st) h k n := by
  subst hI
  have hN : (nI hi).toInt = (hi : Int) := nI_toInt (by omega)
  intro p l e s m below meth c H locs ls C X hH hS hL
  by_cases h1 : 0 ≤ x ∧ x ≤ nI hi
  · obtain ⟨j, hj, rfl⟩ := nI_of2 (M := nI hi) (n := hi) hN (Int32.not_lt.mpr h1.1) h1.2
    have e1 : (nI j).toInt = (j : Int) := nI_toInt (by omega)
    have hjl : j < tg.length := by omega
    have ho : offs[((nI j).toInt - 0).toNat]? = some ((tg[j] : Int) - (pc : Int)) := by
      rw [e1, show ((j : Int) - 0).toNat = j by omega, ← Array.getElem?_toList, htg]
      simp [hjl]
    exact lv_tableIn (tgt := tg[j]) C.1 C.2.1 hd (by omega) (by omega) ho (by omega) (kc j hjl rfl p l e s m below meth c H locs ls C X hH hS hL)
  · refine lv_tableOut C.1 C.2.1 hd ?_ htd (kd h1 p l e s m below meth c H locs ls C X hH hS hL)
    have g0 : (0 : Int32).toInt = 0 := rfl
    rw [Int32.le_iff_toInt_le, Int32.le_iff_toInt_le, hN, g0] at h1
    omega
theorem e_callV {idx na : Nat} (q b : Nat) (As rest : List Value) (hd : decode μL.2.1 pc = .ok (.invokevirtual idx, 3)) (hq : pc + 3 = q) (hc : LkC μ' na) (hl : Cond.methodLink μL.1.cls idx μ'.1 ∈ wsL_law ∧ Cond.instanceMethod μ'.1 ∈ wsL_law ∧ Cond.selects μ'.1.cls μ'.1 μ'.1 ∈ wsL_law) (hR : RmOk μL μ') (hrecv : Recv ω h μ'.1.cls b)
    (hst : As.reverse ++ .ref b :: rest = st) (hna : As.length = na) (hcat : (rest.map fun v => v.category).sum ≤ 8) (hlen : (lg_sl (.ref b :: As)).length ≤ μ'.2.2.1) (hk : k + μ'.2.2.2.2.cells ≤ μL.2.2.2.2.cells) (hn : n + μ'.2.2.2.2.slots ≤ μL.2.2.2.2.slots)
    (kk : Ex ω μ' 0 (argL μ'.2.2.1 (.ref b :: As)) [] h 0 0 (fun v h' => EL ω b0 Ln xs q L (v.toList ++ rest) h' (k + μ'.2.2.2.2.cells) (n + μ'.2.2.2.2.slots))) : EL ω b0 Ln xs pc L st h k n := by
  subst hq; subst hst
  intro p l e s m below meth c H locs ls C X hH hS hL
  obtain ⟨cx1, cx2, cx3, cx4, cx5, cx6, cx7, cx8, cx9, cx10, cx11⟩ := id C
  refine ex_after hS (va_runV (As := As) (rest := rest) (Ts := wsL_law) (own := μL.1.cls) (C := μ'.1.cls) ⟨cx1, cx2, cx3, cx5, cx8⟩ (ex_met (l := l) hc.2.2.2.2 hlen kk) ⟨⟨rfl, rfl, hR.1, hR.2, pay_in cx8 (ws_goodIn hc.1), List.mem_cons_self, cx8 _ hc.1, cx8 _ hc.2.1, hc.2.2.1, lkc_len hc, cx8 _ hl.1⟩, cx8 _ hl.2.1, cx8 _ hl.2.2⟩
    ⟨exP_blind _ _, hrecv s H locs cx9 cx10 hH hS, fun U hU hW => ⟨rfl, by rw [hU]; exact hH, va_K.moved hW.alike cx9, exB_moved cx10 hS hW hU, by rw [hU]; exact Nat.le_trans cx11 hS.1⟩⟩ rfl hna hL.1 rfl (lv_room hcat) hd ⟨hk, hn⟩) (fun v h' H1 locs1 q1 q2 q3 => ?_)
  exact q1 p l e s m below meth c H1 locs1 ls C X q2 q3 hL
theorem e_callI {idx na : Nat} (q b : Nat) (As rest : List Value) (hd : decode μL.2.1 pc = .ok (.invokespecial idx, 3)) (hq : pc + 3 = q) (hc : LkC μ' na) (hret : μ'.2.2.2.1 = none) (hl : Cond.methodLink μL.1.cls idx μ'.1 ∈ wsL_law ∧ Cond.instanceMethod μ'.1 ∈ wsL_law) (hnm : μ'.1.name = "<init>") (hR : RmOk μL μ')
    (hst : As.reverse ++ .ref b :: rest = st) (hna : As.length = na) (hcat : (rest.map fun v => v.category).sum ≤ 8) (hlen : (lg_sl (.ref b :: As)).length ≤ μ'.2.2.1) (hk : k + μ'.2.2.2.2.cells ≤ μL.2.2.2.2.cells) (hn : n + μ'.2.2.2.2.slots ≤ μL.2.2.2.2.slots)
    (kk : Ex ω μ' 0 (argL μ'.2.2.1 (.ref b :: As)) [] h 0 0 (fun v h' => EL ω b0 Ln xs q L (v.toList ++ rest) h' (k + μ'.2.2.2.2.cells) (n + μ'.2.2.2.2.slots))) : EL ω b0 Ln xs pc L st h k n := by
  subst hq; subst hst
  intro p l e s m below meth c H locs ls C X hH hS hL
  obtain ⟨cx1, cx2, cx3, cx4, cx5, cx6, cx7, cx8, cx9, cx10, cx11⟩ := id C
  have hc1 := hc.1
  have hw1 : ex_ws μ' = .code μ'.1 μ'.2.1 μ'.2.2.1 none :: wsL_law := by unfold ex_ws; rw [hret]
  rw [hret] at hc1
  refine ex_after hS (va_runI (As := As) (rest := rest) (Ts := wsL_law) (own := μL.1.cls) ⟨cx1, cx2, cx3, cx5, cx8⟩ (ex_met (l := l) hc.2.2.2.2 hlen kk) ⟨⟨rfl, rfl, hR.1, hR.2, pay_in cx8 (ws_goodIn hc.1), (by rw [hw1]; exact List.mem_cons_self), cx8 _ hc1, cx8 _ hc.2.1, hc.2.2.1, lkc_len hc, cx8 _ hl.1⟩, hnm, cx8 _ hl.2⟩
    ⟨exP_blind _ _, fun U hU hW => ⟨rfl, by rw [hU]; exact hH, va_K.moved hW.alike cx9, exB_moved cx10 hS hW hU, by rw [hU]; exact Nat.le_trans cx11 hS.1⟩⟩ rfl hna hL.1 rfl (lv_room hcat) hd ⟨hk, hn⟩) (fun v h' H1 locs1 q1 q2 q3 => ?_)
  exact q1 p l e s m below meth c H1 locs1 ls C X q2 q3 hL
theorem e_new {t N index : Nat} {C : String} {T : u_T} {ty : Nat → FieldType} (cf : CF t C T N ty) (q : Nat) (hw : ω.2.2.2.1 = false) (hd : decode μL.2.1 pc = .ok (.new index, 3)) (hq : pc + 3 = q) (hl : Cond.classLink μL.1.cls index C ∈ wsL_law ∧ Cond.instantiable C N ∈ wsL_law ∧ Cond.initialized C ∈ wsL_law) (h0 : 0 < gt h) (dv : ∀ j, j < N → defaultValue (ty j) = (if kd t j = 0 then .int 0 else if kd t j = 1 then .null else .long 0)) (hk : k + 1 ≤ μL.2.2.2.2.cells) (hs : n + N ≤ μL.2.2.2.2.slots)
    (kk : EL ω b0 Ln xs q L (.ref (gt h) :: st) (al h t N) (k + 1) (n + N)) : EL ω b0 Ln xs pc L st h k n := by
  subst hq
  intro p l e s m below meth c H locs ls C0 X hH hS hL
  obtain ⟨c1, c2, c3, c4, c5, c6, c7⟩ := cf
  obtain ⟨cx1, cx2, cx3, cx4, cx5, cx6, cx7, cx8, cx9, cx10, cx11⟩ := id C0
  have hKn := cx9.1 t _ c1
  have hsz := hH.1
  refine W.newcK cx1 cx2 cx5 (cx8 _ hl.1) (cx8 _ hl.2.1) (cx8 _ hl.2.2) rfl hd hk hs hKn.2.1 hH.1 fun H1 kC hkC e1 z1 o1 => ?_
  have o1' : ∀ q, q < gt h → H1[q]? = H[q]? := o1
  refine kk p l e s m below meth c H1 locs ls C0 X (hp_al hH hw h0 (by rw [← hsz]; exact Nat.le_trans cx11 hS.1) z1 o1' (fun _ => c6.symm) ?_) ⟨Nat.le_trans hS.1 (by omega), fun x h1 h2 => (o1' x (by rw [← hsz]; exact Nat.lt_of_lt_of_le h1 hS.1)).trans (hS.2.1 x h1 h2), hS.2.2⟩ hL
  rw [ent_obj ω _ _ _ c5]
  refine ⟨_, c1, (u_born ty cx8 c2 hKn hkC e1 c3).to (fun j hj => ?_)⟩
  rw [vp_fs _ _ _ _ hj, dv j hj]
  unfold sv
  rw [gi_al, gr_al, gl_al]
  rfl
theorem e_sld {i : Int32} (j q : Nat) (hd : decode cL_law pc = .ok (.iaload, 1)) (hq : pc + 1 = q) (hi : i = nI j) (hj : j < Ln) (hl : Ln ≤ 3072) (kk : EL ω b0 Ln xs q L (.int (xs j) :: st) h k n) : EL ω b0 Ln xs pc L (.int i :: .ref b0 :: st) h k n := by
  subst hq
  subst hi
  intro p l e s m below meth c H locs ls C X hH hS hL
  refine va_sld C.1 C.2.1 X.1 X.2.1 (fun z => ?_) hS (vp_in_nI hj (by omega)) hd ?_
  · have z : ω.2.2.1 ≤ b0 := z
    have := X.2.1
    have := X.2.2
    omega
  · rw [nI_clamp (by omega)]
    exact kk p l e s m below meth c H locs ls C X hH hS hL
theorem e_slen (q : Nat) (hd : decode cL_law pc = .ok (.arraylength, 1)) (hq : pc + 1 = q) (kk : EL ω b0 Ln xs q L (.int (nI Ln) :: st) h k n) : EL ω b0 Ln xs pc L (.ref b0 :: st) h k n := by
  subst hq
  intro p l e s m below meth c H locs ls C X hH hS hL
  refine va_slen C.1 C.2.1 X.1 X.2.1 (fun z => ?_) hS hd (kk p l e s m below meth c H locs ls C X hH hS hL)
  have z : ω.2.2.1 ≤ b0 := z
  have := X.2.1
  have := X.2.2
  omega
theorem e_ret (hd : decode cL_law pc = .ok (.ireturn, 1)) (hk : k ≤ 600000) (hn : n ≤ 7302250) : EL ω b0 Ln xs pc L [.int 1] h k n := by
  intro p l e s m below meth c H locs ls C X hH hS hL
  refine va_forget (fun q hq => ?_) (W.widen hk hn (lw_ret C.1 C.2.1 C.2.2.2.1 C.2.2.2.2.2.1 hd))
  have z : ω.2.2.1 ≤ q.base := hS.2.2 q hq
  have := X.2.2
  omega
/-- from here on all references are filled -/
theorem e_phase (ht : ∀ a, a < gt h → RF h a) (kk : EL (ω.1, ω.2.1, ω.2.2.1, true, ω.2.2.2.2) b0 Ln xs pc L st h k n) : EL ω b0 Ln xs pc L st h k n := by
  intro p l e s m below meth c H locs ls C X hH hS hL
  refine kk p l e s m below meth c H locs ls C X ⟨hH.1, hH.2.1, hH.2.2.1, fun _ a t n ha => ?_⟩ hS hL
  exact ht a (by rw [← hH.1]; exact (hH.2.2.1 a t n ha).2.2.lt) t n ha
/-- an argument: script[i + d] -/
theorem e_arg {o1 o2 : Option Value} {i : Nat} {v : Int} (d q : Nat) (h0 : decode cL_law pc = .ok (.aload_n 0, 1)) (h1 : decode cL_law (pc + 1) = .ok (.iload_n 3, 1)) (h2 : decode cL_law (pc + 2) = .ok (.iconst v, 1)) (h3 : decode cL_law (pc + 3) = .ok (.iadd, 1)) (h4 : decode cL_law (pc + 4) = .ok (.iaload, 1)) (hq : pc + 5 = q) (hv : Int32.ofInt v = nI d) (hj : i + d < Ln) (hl : Ln ≤ 3072)
    (kk : EL ω b0 Ln xs q [some (.ref b0), o1, o2, some (.int (nI i))] (.int (xs (i + d)) :: st) h k n) : EL ω b0 Ln xs pc [some (.ref b0), o1, o2, some (.int (nI i))] st h k n := by
  subst hq
  refine e_aload0 (pc + 1) h0 rfl (e_iload3 (pc + 2) h1 rfl (e_iconst (nI d) (pc + 3) h2 rfl hv (e_iadd (pc + 4) h3 rfl ?_)))
  exact e_sld (i + d) (pc + 5) h4 rfl (nI_add i d) hj hl kk
end ELR
theorem Ex.mono {ω : Om} {μ : MR} {pc : Nat} {L : List (Option Value)} {st : List Value} {h : AH} {k n : Nat} {Q Q' : Option Value → AH → Prop} (kk : Ex ω μ pc L st h k n Q) (hq : ∀ v h', Q v h' → Q' v h') : Ex ω μ pc L st h k n Q' := by
  intro p l e s m args below meth c H locs ls C hH hS hL
  intro T hT X
  obtain ⟨t, a, o, b1, b2, ⟨⟨r, h', c1, c2, c3⟩, b3⟩, b4⟩ := kk p l e s m args below meth c H locs ls C hH hS hL T hT X
  exact ⟨t, a, o, b1, b2, ⟨⟨r, h', c1, hq _ _ c2, c3⟩, b3⟩, b4⟩
