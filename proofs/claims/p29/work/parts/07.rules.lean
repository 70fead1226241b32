/-! the rules of Ex: an instruction each (written by a program: wip/p29/gen_rules.py) -/
theorem lwk_lh {ls : Array Slot} {nL : Nat} {L L' : List (Option Value)} (h : lh ls nL L) (hw : ∀ (i : Nat) (v : Value), L'[i]? = some (some v) → L[i]? = some (some v)) : lh ls nL L' := ⟨h.1, h.2.1, fun i v hv => h.2.2 i v (hw i v hv)⟩
/-- no long begins at the place before i -/
def lcat (i : Nat) (L : List (Option Value)) : Bool := match i with
  | 0 => true
  | j + 1 => match L[j]? with
    | some (some v) => v.category == 1
    | _ => true
theorem lcat_at {L : List (Option Value)} {i : Nat} (h : lcat (i + 1) L = true) {v : Value} (hv : L[i]? = some (some v)) : v.category = 1 := by
  unfold lcat at h
  simp only [hv] at h
  simpa using h
def toLv : Nat → List (Option Value) → List (Nat × Value)
  | _, [] => []
  | i, none :: L => toLv (i + 1) L
  | i, some v :: L => (i, v) :: toLv (i + 1) L
theorem toLv_mem : ∀ (L : List (Option Value)) (o : Nat) (q : Nat × Value), q ∈ toLv o L ↔ ∃ i : Nat, q.1 = o + i ∧ L[i]? = some (some q.2) := by
  intro L
  induction L with
  | nil => intro o q; simp [toLv]
  | cons x L ih =>
    intro o q
    cases x with
    | none =>
      show q ∈ toLv (o + 1) L ↔ _
      rw [ih]
      constructor
      · rintro ⟨i, h1, h2⟩
        exact ⟨i + 1, by omega, by simpa using h2⟩
      · rintro ⟨i, h1, h2⟩
        cases i with
        | zero => simp at h2
        | succ i => exact ⟨i, by omega, by simpa using h2⟩
    | some v =>
      show q ∈ (o, v) :: toLv (o + 1) L ↔ _
      rw [List.mem_cons, ih]
      constructor
      · rintro (rfl | ⟨i, h1, h2⟩)
        · exact ⟨0, rfl, rfl⟩
        · exact ⟨i + 1, by omega, by simpa using h2⟩
      · rintro ⟨i, h1, h2⟩
        cases i with
        | zero =>
          left
          simp at h2
          cases q
          simp at h1 h2
          subst h1; subst h2; rfl
        | succ i => exact Or.inr ⟨i, by omega, by simpa using h2⟩
theorem lh_has {ls : Array Slot} {nL : Nat} {L : List (Option Value)} (h : lh ls nL L) : lv_has ls nL (toLv 0 L) :=
  ⟨h.1, h.2.1, fun q hq => by
    obtain ⟨i, h1, h2⟩ := (toLv_mem L 0 q).mp hq
    rw [h1, Nat.zero_add]
    exact h.2.2 i q.2 h2⟩
theorem lcat_ok {L : List (Option Value)} {i j : Nat} {w : Value} (hc : lcat i L = true) (hj : L[j]? = some (some w)) : (!(j + 1 == i && w.category == 2)) = true := by
  by_cases e : j + 1 = i
  · subst e
    have h1 := lcat_at hc hj
    simp [h1]
  · simp [e]
theorem lh_set {ls : Array Slot} {nL i : Nat} {L : List (Option Value)} {v : Value} (hc : lcat i L = true) (h : lv_has ls nL ((i, v) :: (toLv 0 L).filter (fun q => !(q.1 == i) && !(q.1 + 1 == i && q.2.category == 2)))) : lh ls nL (L.set i (some v)) := by
  refine ⟨h.1, h.2.1, fun j w hj => ?_⟩
  refine h.2.2 (j, w) ?_
  by_cases hji : i = j
  · subst hji
    have hl : i < L.length := by
      have := (List.getElem?_eq_some_iff.mp hj).1
      simpa using this
    rw [List.getElem?_set_self hl] at hj
    cases hj
    exact List.mem_cons_self
  · rw [List.getElem?_set_ne hji] at hj
    refine List.mem_cons_of_mem _ (List.mem_filter.mpr ⟨(toLv_mem L 0 (j, w)).mpr ⟨j, (Nat.zero_add j).symm, hj⟩, ?_⟩)
    show (!(j == i) && !(j + 1 == i && w.category == 2)) = true
    rw [lcat_ok hc hj, Bool.and_true]
    simp [Ne.symm hji]
theorem lh_setl {ls : Array Slot} {nL i : Nat} {L : List (Option Value)} {v : Value} (hc : lcat i L = true) (h : lv_has ls nL ((i, v) :: (toLv 0 L).filter (fun q => !(q.1 == i) && (!(q.1 == i + 1) && !(q.1 + 1 == i && q.2.category == 2))))) : lh ls nL ((L.set i (some v)).set (i + 1) none) := by
  refine ⟨h.1, h.2.1, fun j w hj => ?_⟩
  refine h.2.2 (j, w) ?_
  by_cases hj1 : i + 1 = j
  · subst hj1
    by_cases hl : i + 1 < (L.set i (some v)).length
    · rw [List.getElem?_set_self hl] at hj
      cases hj
    · rw [List.getElem?_eq_none (by rw [List.length_set]; omega)] at hj
      cases hj
  · rw [List.getElem?_set_ne hj1] at hj
    by_cases hji : i = j
    · subst hji
      have hl : i < L.length := by
        have := (List.getElem?_eq_some_iff.mp hj).1
        simpa using this
      rw [List.getElem?_set_self hl] at hj
      cases hj
      exact List.mem_cons_self
    · rw [List.getElem?_set_ne hji] at hj
      refine List.mem_cons_of_mem _ (List.mem_filter.mpr ⟨(toLv_mem L 0 (j, w)).mpr ⟨j, (Nat.zero_add j).symm, hj⟩, ?_⟩)
      show (!(j == i) && (!(j == i + 1) && !(j + 1 == i && w.category == 2))) = true
      rw [lcat_ok hc hj, Bool.and_true]
      simp [Ne.symm hji, Ne.symm hj1]
section EXR
variable {ω : Om} {μ : MR} {pc : Nat} {L : List (Option Value)} {st : List Value} {h : AH} {k n : Nat} {Q : Option Value → AH → Prop}
theorem x_iconst {i : Int} (v : Int32) (q : Nat) (hd : decode μ.2.1 pc = .ok (.iconst i, 1)) (hq : pc + 1 = q) (hv : Int32.ofInt i = v) (kk : Ex ω μ q L (.int v :: st) h k n Q) : Ex ω μ pc L (st) h k n Q := by
  subst hq
  intro p l e s m args below meth c H locs ls C hH hS hL
  exact lv_iconst C.1 C.2.1 hd hv (kk p l e s m args below meth c H locs ls C hH hS hL)
theorem x_bipush {i : Int} (v : Int32) (q : Nat) (hd : decode μ.2.1 pc = .ok (.bipush i, 2)) (hq : pc + 2 = q) (hv : (Int8.ofInt i).toInt32 = v) (kk : Ex ω μ q L (.int v :: st) h k n Q) : Ex ω μ pc L (st) h k n Q := by
  subst hq
  intro p l e s m args below meth c H locs ls C hH hS hL
  exact lv_bipush C.1 C.2.1 hd hv (kk p l e s m args below meth c H locs ls C hH hS hL)
theorem x_sipush {i : Int} (v : Int32) (q : Nat) (hd : decode μ.2.1 pc = .ok (.sipush i, 3)) (hq : pc + 3 = q) (hv : (Int16.ofInt i).toInt32 = v) (kk : Ex ω μ q L (.int v :: st) h k n Q) : Ex ω μ pc L (st) h k n Q := by
  subst hq
  intro p l e s m args below meth c H locs ls C hH hS hL
  exact lv_sipush C.1 C.2.1 hd hv (kk p l e s m args below meth c H locs ls C hH hS hL)
theorem x_lconst {i : Fin 2} (v : Int64) (q : Nat) (hd : decode μ.2.1 pc = .ok (.lconst i, 1)) (hq : pc + 1 = q) (hv : Int64.ofNat (i : Nat) = v) (kk : Ex ω μ q L (.long v :: st) h k n Q) : Ex ω μ pc L (st) h k n Q := by
  subst hq
  intro p l e s m args below meth c H locs ls C hH hS hL
  exact lv_lconst C.1 C.2.1 hd hv (kk p l e s m args below meth c H locs ls C hH hS hL)
theorem x_iadd {x y : Int32} (q : Nat) (hd : decode μ.2.1 pc = .ok (.iadd, 1)) (hq : pc + 1 = q) (kk : Ex ω μ q L (.int (x + y) :: st) h k n Q) : Ex ω μ pc L (.int y :: .int x :: st) h k n Q := by
  subst hq
  intro p l e s m args below meth c H locs ls C hH hS hL
  exact lv_iadd C.1 C.2.1 hd  (kk p l e s m args below meth c H locs ls C hH hS hL)
theorem x_isub {x y : Int32} (q : Nat) (hd : decode μ.2.1 pc = .ok (.isub, 1)) (hq : pc + 1 = q) (kk : Ex ω μ q L (.int (x - y) :: st) h k n Q) : Ex ω μ pc L (.int y :: .int x :: st) h k n Q := by
  subst hq
  intro p l e s m args below meth c H locs ls C hH hS hL
  exact lv_isub C.1 C.2.1 hd  (kk p l e s m args below meth c H locs ls C hH hS hL)
theorem x_imul {x y : Int32} (q : Nat) (hd : decode μ.2.1 pc = .ok (.imul, 1)) (hq : pc + 1 = q) (kk : Ex ω μ q L (.int (x * y) :: st) h k n Q) : Ex ω μ pc L (.int y :: .int x :: st) h k n Q := by
  subst hq
  intro p l e s m args below meth c H locs ls C hH hS hL
  exact lv_imul C.1 C.2.1 hd  (kk p l e s m args below meth c H locs ls C hH hS hL)
theorem x_iand {x y : Int32} (q : Nat) (hd : decode μ.2.1 pc = .ok (.iand, 1)) (hq : pc + 1 = q) (kk : Ex ω μ q L (.int (x &&& y) :: st) h k n Q) : Ex ω μ pc L (.int y :: .int x :: st) h k n Q := by
  subst hq
  intro p l e s m args below meth c H locs ls C hH hS hL
  exact lv_iand C.1 C.2.1 hd  (kk p l e s m args below meth c H locs ls C hH hS hL)
theorem x_ior {x y : Int32} (q : Nat) (hd : decode μ.2.1 pc = .ok (.ior, 1)) (hq : pc + 1 = q) (kk : Ex ω μ q L (.int (x ||| y) :: st) h k n Q) : Ex ω μ pc L (.int y :: .int x :: st) h k n Q := by
  subst hq
  intro p l e s m args below meth c H locs ls C hH hS hL
  exact lv_ior C.1 C.2.1 hd  (kk p l e s m args below meth c H locs ls C hH hS hL)
theorem x_ladd {x y : Int64} (q : Nat) (hd : decode μ.2.1 pc = .ok (.ladd, 1)) (hq : pc + 1 = q) (kk : Ex ω μ q L (.long (x + y) :: st) h k n Q) : Ex ω μ pc L (.long y :: .long x :: st) h k n Q := by
  subst hq
  intro p l e s m args below meth c H locs ls C hH hS hL
  exact lv_ladd C.1 C.2.1 hd  (kk p l e s m args below meth c H locs ls C hH hS hL)
theorem x_lmul {x y : Int64} (q : Nat) (hd : decode μ.2.1 pc = .ok (.lmul, 1)) (hq : pc + 1 = q) (kk : Ex ω μ q L (.long (x * y) :: st) h k n Q) : Ex ω μ pc L (.long y :: .long x :: st) h k n Q := by
  subst hq
  intro p l e s m args below meth c H locs ls C hH hS hL
  exact lv_lmul C.1 C.2.1 hd  (kk p l e s m args below meth c H locs ls C hH hS hL)
theorem x_idiv {x y : Int32} (q : Nat) (hd : decode μ.2.1 pc = .ok (.idiv, 1)) (hq : pc + 1 = q) (hne : ¬ y = 0) (kk : Ex ω μ q L (.int (x / y) :: st) h k n Q) : Ex ω μ pc L (.int y :: .int x :: st) h k n Q := by
  subst hq
  intro p l e s m args below meth c H locs ls C hH hS hL
  exact lv_idiv C.1 C.2.1 hd hne (kk p l e s m args below meth c H locs ls C hH hS hL)
theorem x_irem {x y : Int32} (q : Nat) (hd : decode μ.2.1 pc = .ok (.irem, 1)) (hq : pc + 1 = q) (hne : ¬ y = 0) (kk : Ex ω μ q L (.int (x - x / y * y) :: st) h k n Q) : Ex ω μ pc L (.int y :: .int x :: st) h k n Q := by
  subst hq
  intro p l e s m args below meth c H locs ls C hH hS hL
  exact lv_irem C.1 C.2.1 hd hne (kk p l e s m args below meth c H locs ls C hH hS hL)
theorem x_ishl {x y : Int32} (q : Nat) (hd : decode μ.2.1 pc = .ok (.ishl, 1)) (hq : pc + 1 = q) (kk : Ex ω μ q L (.int (x <<< (y &&& 31)) :: st) h k n Q) : Ex ω μ pc L (.int y :: .int x :: st) h k n Q := by
  subst hq
  intro p l e s m args below meth c H locs ls C hH hS hL
  exact lv_ishl C.1 C.2.1 hd  (kk p l e s m args below meth c H locs ls C hH hS hL)
theorem x_ishr {x y : Int32} (q : Nat) (hd : decode μ.2.1 pc = .ok (.ishr, 1)) (hq : pc + 1 = q) (kk : Ex ω μ q L (.int (x >>> (y &&& 31)) :: st) h k n Q) : Ex ω μ pc L (.int y :: .int x :: st) h k n Q := by
  subst hq
  intro p l e s m args below meth c H locs ls C hH hS hL
  exact lv_ishr C.1 C.2.1 hd  (kk p l e s m args below meth c H locs ls C hH hS hL)
theorem x_i2l {x : Int32} (q : Nat) (hd : decode μ.2.1 pc = .ok (.i2l, 1)) (hq : pc + 1 = q) (kk : Ex ω μ q L (.long x.toInt64 :: st) h k n Q) : Ex ω μ pc L (.int x :: st) h k n Q := by
  subst hq
  intro p l e s m args below meth c H locs ls C hH hS hL
  exact lv_i2l C.1 C.2.1 hd rfl (kk p l e s m args below meth c H locs ls C hH hS hL)
theorem x_i2c {x : Int32} (q : Nat) (hd : decode μ.2.1 pc = .ok (.i2c, 1)) (hq : pc + 1 = q) (kk : Ex ω μ q L (.int (x.toUInt32 % 65536).toInt32 :: st) h k n Q) : Ex ω μ pc L (.int x :: st) h k n Q := by
  subst hq
  intro p l e s m args below meth c H locs ls C hH hS hL
  exact lv_i2c C.1 C.2.1 hd rfl (kk p l e s m args below meth c H locs ls C hH hS hL)
theorem x_dup {v : Value} (q : Nat) (hd : decode μ.2.1 pc = .ok (.dup, 1)) (hq : pc + 1 = q) (hv : v.category = 1) (kk : Ex ω μ q L (v :: v :: st) h k n Q) : Ex ω μ pc L (v :: st) h k n Q := by
  subst hq
  intro p l e s m args below meth c H locs ls C hH hS hL
  exact lv_dup C.1 C.2.1 hd hv (kk p l e s m args below meth c H locs ls C hH hS hL)
theorem x_pop {v : Value} (q : Nat) (hd : decode μ.2.1 pc = .ok (.pop, 1)) (hq : pc + 1 = q) (hv : v.category = 1) (kk : Ex ω μ q L (st) h k n Q) : Ex ω μ pc L (v :: st) h k n Q := by
  subst hq
  intro p l e s m args below meth c H locs ls C hH hS hL
  exact lv_pop C.1 C.2.1 hd hv (kk p l e s m args below meth c H locs ls C hH hS hL)
theorem x_dup2 {v u : Value} (q : Nat) (hd : decode μ.2.1 pc = .ok (.dup2, 1)) (hq : pc + 1 = q) (hv : v.category = 1) (hu : u.category = 1) (kk : Ex ω μ q L (v :: u :: v :: u :: st) h k n Q) : Ex ω μ pc L (v :: u :: st) h k n Q := by
  subst hq
  intro p l e s m args below meth c H locs ls C hH hS hL
  exact lv_dup2_11 C.1 C.2.1 hd hv hu (kk p l e s m args below meth c H locs ls C hH hS hL)
theorem x_lshr {x : Int64} {y : Int32} (q : Nat) (hd : decode μ.2.1 pc = .ok (.lshr, 1)) (hq : pc + 1 = q) (kk : Ex ω μ q L (.long (x >>> (Int32.toInt64 y &&& 63)) :: st) h k n Q) : Ex ω μ pc L (.int y :: .long x :: st) h k n Q := by
  subst hq
  intro p l e s m args below meth c H locs ls C hH hS hL
  exact lv_lshr C.1 C.2.1 hd rfl (kk p l e s m args below meth c H locs ls C hH hS hL)
theorem x_land {x y : Int64} (q : Nat) (hd : decode μ.2.1 pc = .ok (.land, 1)) (hq : pc + 1 = q) (kk : Ex ω μ q L (.long (x &&& y) :: st) h k n Q) : Ex ω μ pc L (.long y :: .long x :: st) h k n Q := by
  subst hq
  intro p l e s m args below meth c H locs ls C hH hS hL
  exact lv_land C.1 C.2.1 hd  (kk p l e s m args below meth c H locs ls C hH hS hL)
theorem x_l2i {x : Int64} (q : Nat) (hd : decode μ.2.1 pc = .ok (.l2i, 1)) (hq : pc + 1 = q) (kk : Ex ω μ q L (.int x.toInt32 :: st) h k n Q) : Ex ω μ pc L (.long x :: st) h k n Q := by
  subst hq
  intro p l e s m args below meth c H locs ls C hH hS hL
  exact lv_l2i C.1 C.2.1 hd rfl (kk p l e s m args below meth c H locs ls C hH hS hL)
theorem x_lcmp {x y : Int64} (q : Nat) (hd : decode μ.2.1 pc = .ok (.lcmp, 1)) (hq : pc + 1 = q) (kk : Ex ω μ q L (.int (lg_cmp x y) :: st) h k n Q) : Ex ω μ pc L (.long y :: .long x :: st) h k n Q := by
  subst hq
  intro p l e s m args below meth c H locs ls C hH hS hL
  exact W.lcmp C.1 C.2.1 hd  (kk p l e s m args below meth c H locs ls C hH hS hL)
theorem x_if_eq {x : Int32} {off : Int} (q t : Nat) (hd : decode μ.2.1 pc = .ok (.ifCond .eq off, 3)) (hq : pc + 3 = q) (ht : (pc : Int) + off = (t : Int)) (kt : x = 0 → Ex ω μ t L st h k n Q) (kf : ¬ x = 0 → Ex ω μ q L st h k n Q) : Ex ω μ pc L (.int x :: st) h k n Q := by
  subst hq
  intro p l e s m args below meth c H locs ls C hH hS hL
  exact lv_if_eq C.1 C.2.1 hd ht (fun z => kt z p l e s m args below meth c H locs ls C hH hS hL) (fun z => kf z p l e s m args below meth c H locs ls C hH hS hL)
theorem x_if_ne {x : Int32} {off : Int} (q t : Nat) (hd : decode μ.2.1 pc = .ok (.ifCond .ne off, 3)) (hq : pc + 3 = q) (ht : (pc : Int) + off = (t : Int)) (kt : ¬ x = 0 → Ex ω μ t L st h k n Q) (kf : x = 0 → Ex ω μ q L st h k n Q) : Ex ω μ pc L (.int x :: st) h k n Q := by
  subst hq
  intro p l e s m args below meth c H locs ls C hH hS hL
  exact lv_if_ne C.1 C.2.1 hd ht (fun z => kt z p l e s m args below meth c H locs ls C hH hS hL) (fun z => kf z p l e s m args below meth c H locs ls C hH hS hL)
theorem x_if_lt {x : Int32} {off : Int} (q t : Nat) (hd : decode μ.2.1 pc = .ok (.ifCond .lt off, 3)) (hq : pc + 3 = q) (ht : (pc : Int) + off = (t : Int)) (kt : x < 0 → Ex ω μ t L st h k n Q) (kf : ¬ x < 0 → Ex ω μ q L st h k n Q) : Ex ω μ pc L (.int x :: st) h k n Q := by
  subst hq
  intro p l e s m args below meth c H locs ls C hH hS hL
  exact lv_if_lt C.1 C.2.1 hd ht (fun z => kt z p l e s m args below meth c H locs ls C hH hS hL) (fun z => kf z p l e s m args below meth c H locs ls C hH hS hL)
theorem x_if_ge {x : Int32} {off : Int} (q t : Nat) (hd : decode μ.2.1 pc = .ok (.ifCond .ge off, 3)) (hq : pc + 3 = q) (ht : (pc : Int) + off = (t : Int)) (kt : 0 ≤ x → Ex ω μ t L st h k n Q) (kf : ¬ 0 ≤ x → Ex ω μ q L st h k n Q) : Ex ω μ pc L (.int x :: st) h k n Q := by
  subst hq
  intro p l e s m args below meth c H locs ls C hH hS hL
  exact lv_if_ge C.1 C.2.1 hd ht (fun z => kt z p l e s m args below meth c H locs ls C hH hS hL) (fun z => kf z p l e s m args below meth c H locs ls C hH hS hL)
theorem x_if_gt {x : Int32} {off : Int} (q t : Nat) (hd : decode μ.2.1 pc = .ok (.ifCond .gt off, 3)) (hq : pc + 3 = q) (ht : (pc : Int) + off = (t : Int)) (kt : 0 < x → Ex ω μ t L st h k n Q) (kf : ¬ 0 < x → Ex ω μ q L st h k n Q) : Ex ω μ pc L (.int x :: st) h k n Q := by
  subst hq
  intro p l e s m args below meth c H locs ls C hH hS hL
  exact lv_if_gt C.1 C.2.1 hd ht (fun z => kt z p l e s m args below meth c H locs ls C hH hS hL) (fun z => kf z p l e s m args below meth c H locs ls C hH hS hL)
theorem x_if_le {x : Int32} {off : Int} (q t : Nat) (hd : decode μ.2.1 pc = .ok (.ifCond .le off, 3)) (hq : pc + 3 = q) (ht : (pc : Int) + off = (t : Int)) (kt : x ≤ 0 → Ex ω μ t L st h k n Q) (kf : ¬ x ≤ 0 → Ex ω μ q L st h k n Q) : Ex ω μ pc L (.int x :: st) h k n Q := by
  subst hq
  intro p l e s m args below meth c H locs ls C hH hS hL
  exact lv_if_le C.1 C.2.1 hd ht (fun z => kt z p l e s m args below meth c H locs ls C hH hS hL) (fun z => kf z p l e s m args below meth c H locs ls C hH hS hL)
theorem x_icmp_eq {x y : Int32} {off : Int} (q t : Nat) (hd : decode μ.2.1 pc = .ok (.if_icmp .eq off, 3)) (hq : pc + 3 = q) (ht : (pc : Int) + off = (t : Int)) (kt : x = y → Ex ω μ t L st h k n Q) (kf : ¬ x = y → Ex ω μ q L st h k n Q) : Ex ω μ pc L (.int y :: .int x :: st) h k n Q := by
  subst hq
  intro p l e s m args below meth c H locs ls C hH hS hL
  exact lv_icmp_eq C.1 C.2.1 hd ht (fun z => kt z p l e s m args below meth c H locs ls C hH hS hL) (fun z => kf z p l e s m args below meth c H locs ls C hH hS hL)
theorem x_icmp_ne {x y : Int32} {off : Int} (q t : Nat) (hd : decode μ.2.1 pc = .ok (.if_icmp .ne off, 3)) (hq : pc + 3 = q) (ht : (pc : Int) + off = (t : Int)) (kt : ¬ x = y → Ex ω μ t L st h k n Q) (kf : x = y → Ex ω μ q L st h k n Q) : Ex ω μ pc L (.int y :: .int x :: st) h k n Q := by
  subst hq
  intro p l e s m args below meth c H locs ls C hH hS hL
  exact lv_icmp_ne C.1 C.2.1 hd ht (fun z => kt z p l e s m args below meth c H locs ls C hH hS hL) (fun z => kf z p l e s m args below meth c H locs ls C hH hS hL)
theorem x_icmp_lt {x y : Int32} {off : Int} (q t : Nat) (hd : decode μ.2.1 pc = .ok (.if_icmp .lt off, 3)) (hq : pc + 3 = q) (ht : (pc : Int) + off = (t : Int)) (kt : x < y → Ex ω μ t L st h k n Q) (kf : ¬ x < y → Ex ω μ q L st h k n Q) : Ex ω μ pc L (.int y :: .int x :: st) h k n Q := by
  subst hq
  intro p l e s m args below meth c H locs ls C hH hS hL
  exact lv_icmp_lt C.1 C.2.1 hd ht (fun z => kt z p l e s m args below meth c H locs ls C hH hS hL) (fun z => kf z p l e s m args below meth c H locs ls C hH hS hL)
theorem x_icmp_ge {x y : Int32} {off : Int} (q t : Nat) (hd : decode μ.2.1 pc = .ok (.if_icmp .ge off, 3)) (hq : pc + 3 = q) (ht : (pc : Int) + off = (t : Int)) (kt : y ≤ x → Ex ω μ t L st h k n Q) (kf : ¬ y ≤ x → Ex ω μ q L st h k n Q) : Ex ω μ pc L (.int y :: .int x :: st) h k n Q := by
  subst hq
  intro p l e s m args below meth c H locs ls C hH hS hL
  exact lv_icmp_ge C.1 C.2.1 hd ht (fun z => kt z p l e s m args below meth c H locs ls C hH hS hL) (fun z => kf z p l e s m args below meth c H locs ls C hH hS hL)
theorem x_icmp_gt {x y : Int32} {off : Int} (q t : Nat) (hd : decode μ.2.1 pc = .ok (.if_icmp .gt off, 3)) (hq : pc + 3 = q) (ht : (pc : Int) + off = (t : Int)) (kt : y < x → Ex ω μ t L st h k n Q) (kf : ¬ y < x → Ex ω μ q L st h k n Q) : Ex ω μ pc L (.int y :: .int x :: st) h k n Q := by
  subst hq
  intro p l e s m args below meth c H locs ls C hH hS hL
  exact lv_icmp_gt C.1 C.2.1 hd ht (fun z => kt z p l e s m args below meth c H locs ls C hH hS hL) (fun z => kf z p l e s m args below meth c H locs ls C hH hS hL)
theorem x_icmp_le {x y : Int32} {off : Int} (q t : Nat) (hd : decode μ.2.1 pc = .ok (.if_icmp .le off, 3)) (hq : pc + 3 = q) (ht : (pc : Int) + off = (t : Int)) (kt : x ≤ y → Ex ω μ t L st h k n Q) (kf : ¬ x ≤ y → Ex ω μ q L st h k n Q) : Ex ω μ pc L (.int y :: .int x :: st) h k n Q := by
  subst hq
  intro p l e s m args below meth c H locs ls C hH hS hL
  exact lv_icmp_le C.1 C.2.1 hd ht (fun z => kt z p l e s m args below meth c H locs ls C hH hS hL) (fun z => kf z p l e s m args below meth c H locs ls C hH hS hL)
theorem x_goto {off : Int} (t : Nat) (hd : decode μ.2.1 pc = .ok (.goto off, 3)) (ht : (pc : Int) + off = (t : Int)) (kk : Ex ω μ t L st h k n Q) : Ex ω μ pc L st h k n Q := by
  intro p l e s m args below meth c H locs ls C hH hS hL
  exact lv_goto C.1 C.2.1 hd ht (kk p l e s m args below meth c H locs ls C hH hS hL)
theorem x_weak {L' : List (Option Value)} (hw : ∀ (i : Nat) (v : Value), L'[i]? = some (some v) → L[i]? = some (some v)) (kk : Ex ω μ pc L' st h k n Q) : Ex ω μ pc L st h k n Q := fun p l e s m args below meth c H locs ls C hH hS hL => kk p l e s m args below meth c H locs ls C hH hS (lwk_lh hL hw)
theorem x_post {Q' : Option Value → AH → Prop} (hq : ∀ r h', Q' r h' → Q r h') (kk : Ex ω μ pc L st h k n Q') : Ex ω μ pc L st h k n Q := by
  intro p l e s m args below meth c H locs ls C hH hS hL T hT X
  obtain ⟨t, a1, o, b1, b2, ⟨⟨r, h', c1, c2, c3⟩, c4⟩, b4⟩ := kk p l e s m args below meth c H locs ls C hH hS hL T hT X
  exact ⟨t, a1, o, b1, b2, ⟨⟨r, h', c1, hq r h' c2, c3⟩, c4⟩, b4⟩
theorem x_iload0 {x : Int32} (q : Nat) (hd : decode μ.2.1 pc = .ok (.iload_n 0, 1)) (hq : pc + 1 = q) (kk : Ex ω μ q (some (.int x) :: L) (.int x :: st) h k n Q) : Ex ω μ pc (some (.int x) :: L) st h k n Q := by
  subst hq
  intro p l e s m args below meth c H locs ls C hH hS hL
  exact lv_iload_n C.1 C.2.1 hd rfl (hL.2.2 0 _ rfl) (kk p l e s m args below meth c H locs ls C hH hS hL)
theorem x_aload0 {x : Nat} (q : Nat) (hd : decode μ.2.1 pc = .ok (.aload_n 0, 1)) (hq : pc + 1 = q) (kk : Ex ω μ q (some (.ref x) :: L) (.ref x :: st) h k n Q) : Ex ω μ pc (some (.ref x) :: L) st h k n Q := by
  subst hq
  intro p l e s m args below meth c H locs ls C hH hS hL
  exact lv_aload_n C.1 C.2.1 hd rfl (hL.2.2 0 _ rfl) (kk p l e s m args below meth c H locs ls C hH hS hL)
theorem x_lload0 {x : Int64} (q : Nat) (hd : decode μ.2.1 pc = .ok (.lload_n 0, 1)) (hq : pc + 1 = q) (kk : Ex ω μ q (some (.long x) :: L) (.long x :: st) h k n Q) : Ex ω μ pc (some (.long x) :: L) st h k n Q := by
  subst hq
  intro p l e s m args below meth c H locs ls C hH hS hL
  exact lv_lload_n C.1 C.2.1 hd rfl (hL.2.2 0 _ rfl) (kk p l e s m args below meth c H locs ls C hH hS hL)
theorem x_istore0 {z : Option Value} {x : Int32} (q : Nat) (hd : decode μ.2.1 pc = .ok (.istore_n 0, 1)) (hq : pc + 1 = q) (hn : 0 < μ.2.2.1) (hc : lcat 0 (z :: L) = true) (kk : Ex ω μ q (some (.int x) :: L) st h k n Q) : Ex ω μ pc (z :: L) (.int x :: st) h k n Q := by
  subst hq
  intro p l e s m args below meth c H locs ls C hH hS hL
  exact lv_istore_n C.1 C.2.1 hd rfl (lh_has hL) hn rfl (fun ls' h' => kk p l e s m args below meth c H locs ls' C hH hS (lh_set (L := z :: L) hc h'))
theorem x_astore0 {z : Option Value} {x : Nat} (q : Nat) (hd : decode μ.2.1 pc = .ok (.astore_n 0, 1)) (hq : pc + 1 = q) (hn : 0 < μ.2.2.1) (hc : lcat 0 (z :: L) = true) (kk : Ex ω μ q (some (.ref x) :: L) st h k n Q) : Ex ω μ pc (z :: L) (.ref x :: st) h k n Q := by
  subst hq
  intro p l e s m args below meth c H locs ls C hH hS hL
  exact lv_astore_n C.1 C.2.1 hd rfl (lh_has hL) hn rfl (fun ls' h' => kk p l e s m args below meth c H locs ls' C hH hS (lh_set (L := z :: L) hc h'))
theorem x_iinc0 {x : Int32} {d : Int} (v : Int32) (q : Nat) (hd : decode μ.2.1 pc = .ok (.iinc 0 d, 3)) (hq : pc + 3 = q) (hn : 0 < μ.2.2.1) (hc : lcat 0 (some (.int x) :: L) = true) (hv : x + Int32.ofInt d = v) (kk : Ex ω μ q (some (.int v) :: L) st h k n Q) : Ex ω μ pc (some (.int x) :: L) st h k n Q := by
  subst hq
  intro p l e s m args below meth c H locs ls C hH hS hL
  obtain ⟨kx, hkx⟩ := List.getElem?_of_mem ((toLv_mem (some (.int x) :: L) 0 (0, .int x)).mpr ⟨0, rfl, rfl⟩)
  exact lv_iinc C.1 C.2.1 hd (lh_has hL) (k := kx) hkx hv hn rfl (fun ls' h' => kk p l e s m args below meth c H locs ls' C hH hS (lh_set (L := some (.int x) :: L) hc h'))
theorem x_dr0 {z : Option Value} (kk : Ex ω μ pc (none :: L) st h k n Q) : Ex ω μ pc (z :: L) st h k n Q := by
  refine x_weak (fun j v hj => ?_) kk
  cases j with
  | zero => cases hj
  | succ j =>
  exact hj
theorem x_iload1 {o0 : Option Value} {x : Int32} (q : Nat) (hd : decode μ.2.1 pc = .ok (.iload_n 1, 1)) (hq : pc + 1 = q) (kk : Ex ω μ q (o0 :: some (.int x) :: L) (.int x :: st) h k n Q) : Ex ω μ pc (o0 :: some (.int x) :: L) st h k n Q := by
  subst hq
  intro p l e s m args below meth c H locs ls C hH hS hL
  exact lv_iload_n C.1 C.2.1 hd rfl (hL.2.2 1 _ rfl) (kk p l e s m args below meth c H locs ls C hH hS hL)
theorem x_aload1 {o0 : Option Value} {x : Nat} (q : Nat) (hd : decode μ.2.1 pc = .ok (.aload_n 1, 1)) (hq : pc + 1 = q) (kk : Ex ω μ q (o0 :: some (.ref x) :: L) (.ref x :: st) h k n Q) : Ex ω μ pc (o0 :: some (.ref x) :: L) st h k n Q := by
  subst hq
  intro p l e s m args below meth c H locs ls C hH hS hL
  exact lv_aload_n C.1 C.2.1 hd rfl (hL.2.2 1 _ rfl) (kk p l e s m args below meth c H locs ls C hH hS hL)
theorem x_lload1 {o0 : Option Value} {x : Int64} (q : Nat) (hd : decode μ.2.1 pc = .ok (.lload_n 1, 1)) (hq : pc + 1 = q) (kk : Ex ω μ q (o0 :: some (.long x) :: L) (.long x :: st) h k n Q) : Ex ω μ pc (o0 :: some (.long x) :: L) st h k n Q := by
  subst hq
  intro p l e s m args below meth c H locs ls C hH hS hL
  exact lv_lload_n C.1 C.2.1 hd rfl (hL.2.2 1 _ rfl) (kk p l e s m args below meth c H locs ls C hH hS hL)
theorem x_istore1 {o0 : Option Value} {z : Option Value} {x : Int32} (q : Nat) (hd : decode μ.2.1 pc = .ok (.istore_n 1, 1)) (hq : pc + 1 = q) (hn : 1 < μ.2.2.1) (hc : lcat 1 (o0 :: z :: L) = true) (kk : Ex ω μ q (o0 :: some (.int x) :: L) st h k n Q) : Ex ω μ pc (o0 :: z :: L) (.int x :: st) h k n Q := by
  subst hq
  intro p l e s m args below meth c H locs ls C hH hS hL
  exact lv_istore_n C.1 C.2.1 hd rfl (lh_has hL) hn rfl (fun ls' h' => kk p l e s m args below meth c H locs ls' C hH hS (lh_set (L := o0 :: z :: L) hc h'))
theorem x_astore1 {o0 : Option Value} {z : Option Value} {x : Nat} (q : Nat) (hd : decode μ.2.1 pc = .ok (.astore_n 1, 1)) (hq : pc + 1 = q) (hn : 1 < μ.2.2.1) (hc : lcat 1 (o0 :: z :: L) = true) (kk : Ex ω μ q (o0 :: some (.ref x) :: L) st h k n Q) : Ex ω μ pc (o0 :: z :: L) (.ref x :: st) h k n Q := by
  subst hq
  intro p l e s m args below meth c H locs ls C hH hS hL
  exact lv_astore_n C.1 C.2.1 hd rfl (lh_has hL) hn rfl (fun ls' h' => kk p l e s m args below meth c H locs ls' C hH hS (lh_set (L := o0 :: z :: L) hc h'))
theorem x_iinc1 {o0 : Option Value} {x : Int32} {d : Int} (v : Int32) (q : Nat) (hd : decode μ.2.1 pc = .ok (.iinc 1 d, 3)) (hq : pc + 3 = q) (hn : 1 < μ.2.2.1) (hc : lcat 1 (o0 :: some (.int x) :: L) = true) (hv : x + Int32.ofInt d = v) (kk : Ex ω μ q (o0 :: some (.int v) :: L) st h k n Q) : Ex ω μ pc (o0 :: some (.int x) :: L) st h k n Q := by
  subst hq
  intro p l e s m args below meth c H locs ls C hH hS hL
  obtain ⟨kx, hkx⟩ := List.getElem?_of_mem ((toLv_mem (o0 :: some (.int x) :: L) 0 (1, .int x)).mpr ⟨1, rfl, rfl⟩)
  exact lv_iinc C.1 C.2.1 hd (lh_has hL) (k := kx) hkx hv hn rfl (fun ls' h' => kk p l e s m args below meth c H locs ls' C hH hS (lh_set (L := o0 :: some (.int x) :: L) hc h'))
theorem x_dr1 {o0 : Option Value} {z : Option Value} (kk : Ex ω μ pc (o0 :: none :: L) st h k n Q) : Ex ω μ pc (o0 :: z :: L) st h k n Q := by
  refine x_weak (fun j v hj => ?_) kk
  cases j with
  | zero => exact hj
  | succ j =>
  cases j with
  | zero => cases hj
  | succ j =>
  exact hj
theorem x_iload2 {o0 o1 : Option Value} {x : Int32} (q : Nat) (hd : decode μ.2.1 pc = .ok (.iload_n 2, 1)) (hq : pc + 1 = q) (kk : Ex ω μ q (o0 :: o1 :: some (.int x) :: L) (.int x :: st) h k n Q) : Ex ω μ pc (o0 :: o1 :: some (.int x) :: L) st h k n Q := by
  subst hq
  intro p l e s m args below meth c H locs ls C hH hS hL
  exact lv_iload_n C.1 C.2.1 hd rfl (hL.2.2 2 _ rfl) (kk p l e s m args below meth c H locs ls C hH hS hL)
theorem x_aload2 {o0 o1 : Option Value} {x : Nat} (q : Nat) (hd : decode μ.2.1 pc = .ok (.aload_n 2, 1)) (hq : pc + 1 = q) (kk : Ex ω μ q (o0 :: o1 :: some (.ref x) :: L) (.ref x :: st) h k n Q) : Ex ω μ pc (o0 :: o1 :: some (.ref x) :: L) st h k n Q := by
  subst hq
  intro p l e s m args below meth c H locs ls C hH hS hL
  exact lv_aload_n C.1 C.2.1 hd rfl (hL.2.2 2 _ rfl) (kk p l e s m args below meth c H locs ls C hH hS hL)
theorem x_lload2 {o0 o1 : Option Value} {x : Int64} (q : Nat) (hd : decode μ.2.1 pc = .ok (.lload_n 2, 1)) (hq : pc + 1 = q) (kk : Ex ω μ q (o0 :: o1 :: some (.long x) :: L) (.long x :: st) h k n Q) : Ex ω μ pc (o0 :: o1 :: some (.long x) :: L) st h k n Q := by
  subst hq
  intro p l e s m args below meth c H locs ls C hH hS hL
  exact lv_lload_n C.1 C.2.1 hd rfl (hL.2.2 2 _ rfl) (kk p l e s m args below meth c H locs ls C hH hS hL)
theorem x_istore2 {o0 o1 : Option Value} {z : Option Value} {x : Int32} (q : Nat) (hd : decode μ.2.1 pc = .ok (.istore_n 2, 1)) (hq : pc + 1 = q) (hn : 2 < μ.2.2.1) (hc : lcat 2 (o0 :: o1 :: z :: L) = true) (kk : Ex ω μ q (o0 :: o1 :: some (.int x) :: L) st h k n Q) : Ex ω μ pc (o0 :: o1 :: z :: L) (.int x :: st) h k n Q := by
  subst hq
  intro p l e s m args below meth c H locs ls C hH hS hL
  exact lv_istore_n C.1 C.2.1 hd rfl (lh_has hL) hn rfl (fun ls' h' => kk p l e s m args below meth c H locs ls' C hH hS (lh_set (L := o0 :: o1 :: z :: L) hc h'))
theorem x_astore2 {o0 o1 : Option Value} {z : Option Value} {x : Nat} (q : Nat) (hd : decode μ.2.1 pc = .ok (.astore_n 2, 1)) (hq : pc + 1 = q) (hn : 2 < μ.2.2.1) (hc : lcat 2 (o0 :: o1 :: z :: L) = true) (kk : Ex ω μ q (o0 :: o1 :: some (.ref x) :: L) st h k n Q) : Ex ω μ pc (o0 :: o1 :: z :: L) (.ref x :: st) h k n Q := by
  subst hq
  intro p l e s m args below meth c H locs ls C hH hS hL
  exact lv_astore_n C.1 C.2.1 hd rfl (lh_has hL) hn rfl (fun ls' h' => kk p l e s m args below meth c H locs ls' C hH hS (lh_set (L := o0 :: o1 :: z :: L) hc h'))
theorem x_iinc2 {o0 o1 : Option Value} {x : Int32} {d : Int} (v : Int32) (q : Nat) (hd : decode μ.2.1 pc = .ok (.iinc 2 d, 3)) (hq : pc + 3 = q) (hn : 2 < μ.2.2.1) (hc : lcat 2 (o0 :: o1 :: some (.int x) :: L) = true) (hv : x + Int32.ofInt d = v) (kk : Ex ω μ q (o0 :: o1 :: some (.int v) :: L) st h k n Q) : Ex ω μ pc (o0 :: o1 :: some (.int x) :: L) st h k n Q := by
  subst hq
  intro p l e s m args below meth c H locs ls C hH hS hL
  obtain ⟨kx, hkx⟩ := List.getElem?_of_mem ((toLv_mem (o0 :: o1 :: some (.int x) :: L) 0 (2, .int x)).mpr ⟨2, rfl, rfl⟩)
  exact lv_iinc C.1 C.2.1 hd (lh_has hL) (k := kx) hkx hv hn rfl (fun ls' h' => kk p l e s m args below meth c H locs ls' C hH hS (lh_set (L := o0 :: o1 :: some (.int x) :: L) hc h'))
theorem x_lstore2 {o0 o1 : Option Value} {z z2 : Option Value} {x : Int64} (q : Nat) (hd : decode μ.2.1 pc = .ok (.lstore_n 2, 1)) (hq : pc + 1 = q) (hn : 2 + 1 < μ.2.2.1) (hc : lcat 2 (o0 :: o1 :: z :: z2 :: L) = true) (kk : Ex ω μ q (o0 :: o1 :: some (.long x) :: none :: L) st h k n Q) : Ex ω μ pc (o0 :: o1 :: z :: z2 :: L) (.long x :: st) h k n Q := by
  subst hq
  intro p l e s m args below meth c H locs ls C hH hS hL
  exact lv_lstore_n C.1 C.2.1 hd rfl (lh_has hL) hn rfl (fun ls' h' => kk p l e s m args below meth c H locs ls' C hH hS (lh_setl (L := o0 :: o1 :: z :: z2 :: L) hc h'))
theorem x_dr2 {o0 o1 : Option Value} {z : Option Value} (kk : Ex ω μ pc (o0 :: o1 :: none :: L) st h k n Q) : Ex ω μ pc (o0 :: o1 :: z :: L) st h k n Q := by
  refine x_weak (fun j v hj => ?_) kk
  cases j with
  | zero => exact hj
  | succ j =>
  cases j with
  | zero => exact hj
  | succ j =>
  cases j with
  | zero => cases hj
  | succ j =>
  exact hj
theorem x_iload3 {o0 o1 o2 : Option Value} {x : Int32} (q : Nat) (hd : decode μ.2.1 pc = .ok (.iload_n 3, 1)) (hq : pc + 1 = q) (kk : Ex ω μ q (o0 :: o1 :: o2 :: some (.int x) :: L) (.int x :: st) h k n Q) : Ex ω μ pc (o0 :: o1 :: o2 :: some (.int x) :: L) st h k n Q := by
  subst hq
  intro p l e s m args below meth c H locs ls C hH hS hL
  exact lv_iload_n C.1 C.2.1 hd rfl (hL.2.2 3 _ rfl) (kk p l e s m args below meth c H locs ls C hH hS hL)
theorem x_aload3 {o0 o1 o2 : Option Value} {x : Nat} (q : Nat) (hd : decode μ.2.1 pc = .ok (.aload_n 3, 1)) (hq : pc + 1 = q) (kk : Ex ω μ q (o0 :: o1 :: o2 :: some (.ref x) :: L) (.ref x :: st) h k n Q) : Ex ω μ pc (o0 :: o1 :: o2 :: some (.ref x) :: L) st h k n Q := by
  subst hq
  intro p l e s m args below meth c H locs ls C hH hS hL
  exact lv_aload_n C.1 C.2.1 hd rfl (hL.2.2 3 _ rfl) (kk p l e s m args below meth c H locs ls C hH hS hL)
theorem x_lload3 {o0 o1 o2 : Option Value} {x : Int64} (q : Nat) (hd : decode μ.2.1 pc = .ok (.lload_n 3, 1)) (hq : pc + 1 = q) (kk : Ex ω μ q (o0 :: o1 :: o2 :: some (.long x) :: L) (.long x :: st) h k n Q) : Ex ω μ pc (o0 :: o1 :: o2 :: some (.long x) :: L) st h k n Q := by
  subst hq
  intro p l e s m args below meth c H locs ls C hH hS hL
  exact lv_lload_n C.1 C.2.1 hd rfl (hL.2.2 3 _ rfl) (kk p l e s m args below meth c H locs ls C hH hS hL)
theorem x_istore3 {o0 o1 o2 : Option Value} {z : Option Value} {x : Int32} (q : Nat) (hd : decode μ.2.1 pc = .ok (.istore_n 3, 1)) (hq : pc + 1 = q) (hn : 3 < μ.2.2.1) (hc : lcat 3 (o0 :: o1 :: o2 :: z :: L) = true) (kk : Ex ω μ q (o0 :: o1 :: o2 :: some (.int x) :: L) st h k n Q) : Ex ω μ pc (o0 :: o1 :: o2 :: z :: L) (.int x :: st) h k n Q := by
  subst hq
  intro p l e s m args below meth c H locs ls C hH hS hL
  exact lv_istore_n C.1 C.2.1 hd rfl (lh_has hL) hn rfl (fun ls' h' => kk p l e s m args below meth c H locs ls' C hH hS (lh_set (L := o0 :: o1 :: o2 :: z :: L) hc h'))
theorem x_astore3 {o0 o1 o2 : Option Value} {z : Option Value} {x : Nat} (q : Nat) (hd : decode μ.2.1 pc = .ok (.astore_n 3, 1)) (hq : pc + 1 = q) (hn : 3 < μ.2.2.1) (hc : lcat 3 (o0 :: o1 :: o2 :: z :: L) = true) (kk : Ex ω μ q (o0 :: o1 :: o2 :: some (.ref x) :: L) st h k n Q) : Ex ω μ pc (o0 :: o1 :: o2 :: z :: L) (.ref x :: st) h k n Q := by
  subst hq
  intro p l e s m args below meth c H locs ls C hH hS hL
  exact lv_astore_n C.1 C.2.1 hd rfl (lh_has hL) hn rfl (fun ls' h' => kk p l e s m args below meth c H locs ls' C hH hS (lh_set (L := o0 :: o1 :: o2 :: z :: L) hc h'))
theorem x_iinc3 {o0 o1 o2 : Option Value} {x : Int32} {d : Int} (v : Int32) (q : Nat) (hd : decode μ.2.1 pc = .ok (.iinc 3 d, 3)) (hq : pc + 3 = q) (hn : 3 < μ.2.2.1) (hc : lcat 3 (o0 :: o1 :: o2 :: some (.int x) :: L) = true) (hv : x + Int32.ofInt d = v) (kk : Ex ω μ q (o0 :: o1 :: o2 :: some (.int v) :: L) st h k n Q) : Ex ω μ pc (o0 :: o1 :: o2 :: some (.int x) :: L) st h k n Q := by
  subst hq
  intro p l e s m args below meth c H locs ls C hH hS hL
  obtain ⟨kx, hkx⟩ := List.getElem?_of_mem ((toLv_mem (o0 :: o1 :: o2 :: some (.int x) :: L) 0 (3, .int x)).mpr ⟨3, rfl, rfl⟩)
  exact lv_iinc C.1 C.2.1 hd (lh_has hL) (k := kx) hkx hv hn rfl (fun ls' h' => kk p l e s m args below meth c H locs ls' C hH hS (lh_set (L := o0 :: o1 :: o2 :: some (.int x) :: L) hc h'))
theorem x_dr3 {o0 o1 o2 : Option Value} {z : Option Value} (kk : Ex ω μ pc (o0 :: o1 :: o2 :: none :: L) st h k n Q) : Ex ω μ pc (o0 :: o1 :: o2 :: z :: L) st h k n Q := by
  refine x_weak (fun j v hj => ?_) kk
  cases j with
  | zero => exact hj
  | succ j =>
  cases j with
  | zero => exact hj
  | succ j =>
  cases j with
  | zero => exact hj
  | succ j =>
  cases j with
  | zero => cases hj
  | succ j =>
  exact hj
theorem x_iload4 {o0 o1 o2 o3 : Option Value} {x : Int32} (q : Nat) (hd : decode μ.2.1 pc = .ok (.iload 4, 2)) (hq : pc + 2 = q) (kk : Ex ω μ q (o0 :: o1 :: o2 :: o3 :: some (.int x) :: L) (.int x :: st) h k n Q) : Ex ω μ pc (o0 :: o1 :: o2 :: o3 :: some (.int x) :: L) st h k n Q := by
  subst hq
  intro p l e s m args below meth c H locs ls C hH hS hL
  exact lv_iload C.1 C.2.1 hd (hL.2.2 4 _ rfl) (kk p l e s m args below meth c H locs ls C hH hS hL)
theorem x_aload4 {o0 o1 o2 o3 : Option Value} {x : Nat} (q : Nat) (hd : decode μ.2.1 pc = .ok (.aload 4, 2)) (hq : pc + 2 = q) (kk : Ex ω μ q (o0 :: o1 :: o2 :: o3 :: some (.ref x) :: L) (.ref x :: st) h k n Q) : Ex ω μ pc (o0 :: o1 :: o2 :: o3 :: some (.ref x) :: L) st h k n Q := by
  subst hq
  intro p l e s m args below meth c H locs ls C hH hS hL
  exact lv_aload C.1 C.2.1 hd (hL.2.2 4 _ rfl) (kk p l e s m args below meth c H locs ls C hH hS hL)
theorem x_lload4 {o0 o1 o2 o3 : Option Value} {x : Int64} (q : Nat) (hd : decode μ.2.1 pc = .ok (.lload 4, 2)) (hq : pc + 2 = q) (kk : Ex ω μ q (o0 :: o1 :: o2 :: o3 :: some (.long x) :: L) (.long x :: st) h k n Q) : Ex ω μ pc (o0 :: o1 :: o2 :: o3 :: some (.long x) :: L) st h k n Q := by
  subst hq
  intro p l e s m args below meth c H locs ls C hH hS hL
  exact lv_lload C.1 C.2.1 hd (hL.2.2 4 _ rfl) (kk p l e s m args below meth c H locs ls C hH hS hL)
theorem x_istore4 {o0 o1 o2 o3 : Option Value} {z : Option Value} {x : Int32} (q : Nat) (hd : decode μ.2.1 pc = .ok (.istore 4, 2)) (hq : pc + 2 = q) (hn : 4 < μ.2.2.1) (hc : lcat 4 (o0 :: o1 :: o2 :: o3 :: z :: L) = true) (kk : Ex ω μ q (o0 :: o1 :: o2 :: o3 :: some (.int x) :: L) st h k n Q) : Ex ω μ pc (o0 :: o1 :: o2 :: o3 :: z :: L) (.int x :: st) h k n Q := by
  subst hq
  intro p l e s m args below meth c H locs ls C hH hS hL
  exact lv_istore C.1 C.2.1 hd (lh_has hL) hn rfl (fun ls' h' => kk p l e s m args below meth c H locs ls' C hH hS (lh_set (L := o0 :: o1 :: o2 :: o3 :: z :: L) hc h'))
theorem x_astore4 {o0 o1 o2 o3 : Option Value} {z : Option Value} {x : Nat} (q : Nat) (hd : decode μ.2.1 pc = .ok (.astore 4, 2)) (hq : pc + 2 = q) (hn : 4 < μ.2.2.1) (hc : lcat 4 (o0 :: o1 :: o2 :: o3 :: z :: L) = true) (kk : Ex ω μ q (o0 :: o1 :: o2 :: o3 :: some (.ref x) :: L) st h k n Q) : Ex ω μ pc (o0 :: o1 :: o2 :: o3 :: z :: L) (.ref x :: st) h k n Q := by
  subst hq
  intro p l e s m args below meth c H locs ls C hH hS hL
  exact lv_astore C.1 C.2.1 hd (lh_has hL) hn rfl (fun ls' h' => kk p l e s m args below meth c H locs ls' C hH hS (lh_set (L := o0 :: o1 :: o2 :: o3 :: z :: L) hc h'))
theorem x_iinc4 {o0 o1 o2 o3 : Option Value} {x : Int32} {d : Int} (v : Int32) (q : Nat) (hd : decode μ.2.1 pc = .ok (.iinc 4 d, 3)) (hq : pc + 3 = q) (hn : 4 < μ.2.2.1) (hc : lcat 4 (o0 :: o1 :: o2 :: o3 :: some (.int x) :: L) = true) (hv : x + Int32.ofInt d = v) (kk : Ex ω μ q (o0 :: o1 :: o2 :: o3 :: some (.int v) :: L) st h k n Q) : Ex ω μ pc (o0 :: o1 :: o2 :: o3 :: some (.int x) :: L) st h k n Q := by
  subst hq
  intro p l e s m args below meth c H locs ls C hH hS hL
  obtain ⟨kx, hkx⟩ := List.getElem?_of_mem ((toLv_mem (o0 :: o1 :: o2 :: o3 :: some (.int x) :: L) 0 (4, .int x)).mpr ⟨4, rfl, rfl⟩)
  exact lv_iinc C.1 C.2.1 hd (lh_has hL) (k := kx) hkx hv hn rfl (fun ls' h' => kk p l e s m args below meth c H locs ls' C hH hS (lh_set (L := o0 :: o1 :: o2 :: o3 :: some (.int x) :: L) hc h'))
theorem x_dr4 {o0 o1 o2 o3 : Option Value} {z : Option Value} (kk : Ex ω μ pc (o0 :: o1 :: o2 :: o3 :: none :: L) st h k n Q) : Ex ω μ pc (o0 :: o1 :: o2 :: o3 :: z :: L) st h k n Q := by
  refine x_weak (fun j v hj => ?_) kk
  cases j with
  | zero => exact hj
  | succ j =>
  cases j with
  | zero => exact hj
  | succ j =>
  cases j with
  | zero => exact hj
  | succ j =>
  cases j with
  | zero => exact hj
  | succ j =>
  cases j with
  | zero => cases hj
  | succ j =>
  exact hj
theorem x_iload5 {o0 o1 o2 o3 o4 : Option Value} {x : Int32} (q : Nat) (hd : decode μ.2.1 pc = .ok (.iload 5, 2)) (hq : pc + 2 = q) (kk : Ex ω μ q (o0 :: o1 :: o2 :: o3 :: o4 :: some (.int x) :: L) (.int x :: st) h k n Q) : Ex ω μ pc (o0 :: o1 :: o2 :: o3 :: o4 :: some (.int x) :: L) st h k n Q := by
  subst hq
  intro p l e s m args below meth c H locs ls C hH hS hL
  exact lv_iload C.1 C.2.1 hd (hL.2.2 5 _ rfl) (kk p l e s m args below meth c H locs ls C hH hS hL)
theorem x_aload5 {o0 o1 o2 o3 o4 : Option Value} {x : Nat} (q : Nat) (hd : decode μ.2.1 pc = .ok (.aload 5, 2)) (hq : pc + 2 = q) (kk : Ex ω μ q (o0 :: o1 :: o2 :: o3 :: o4 :: some (.ref x) :: L) (.ref x :: st) h k n Q) : Ex ω μ pc (o0 :: o1 :: o2 :: o3 :: o4 :: some (.ref x) :: L) st h k n Q := by
  subst hq
  intro p l e s m args below meth c H locs ls C hH hS hL
  exact lv_aload C.1 C.2.1 hd (hL.2.2 5 _ rfl) (kk p l e s m args below meth c H locs ls C hH hS hL)
theorem x_lload5 {o0 o1 o2 o3 o4 : Option Value} {x : Int64} (q : Nat) (hd : decode μ.2.1 pc = .ok (.lload 5, 2)) (hq : pc + 2 = q) (kk : Ex ω μ q (o0 :: o1 :: o2 :: o3 :: o4 :: some (.long x) :: L) (.long x :: st) h k n Q) : Ex ω μ pc (o0 :: o1 :: o2 :: o3 :: o4 :: some (.long x) :: L) st h k n Q := by
  subst hq
  intro p l e s m args below meth c H locs ls C hH hS hL
  exact lv_lload C.1 C.2.1 hd (hL.2.2 5 _ rfl) (kk p l e s m args below meth c H locs ls C hH hS hL)
theorem x_istore5 {o0 o1 o2 o3 o4 : Option Value} {z : Option Value} {x : Int32} (q : Nat) (hd : decode μ.2.1 pc = .ok (.istore 5, 2)) (hq : pc + 2 = q) (hn : 5 < μ.2.2.1) (hc : lcat 5 (o0 :: o1 :: o2 :: o3 :: o4 :: z :: L) = true) (kk : Ex ω μ q (o0 :: o1 :: o2 :: o3 :: o4 :: some (.int x) :: L) st h k n Q) : Ex ω μ pc (o0 :: o1 :: o2 :: o3 :: o4 :: z :: L) (.int x :: st) h k n Q := by
  subst hq
  intro p l e s m args below meth c H locs ls C hH hS hL
  exact lv_istore C.1 C.2.1 hd (lh_has hL) hn rfl (fun ls' h' => kk p l e s m args below meth c H locs ls' C hH hS (lh_set (L := o0 :: o1 :: o2 :: o3 :: o4 :: z :: L) hc h'))
theorem x_astore5 {o0 o1 o2 o3 o4 : Option Value} {z : Option Value} {x : Nat} (q : Nat) (hd : decode μ.2.1 pc = .ok (.astore 5, 2)) (hq : pc + 2 = q) (hn : 5 < μ.2.2.1) (hc : lcat 5 (o0 :: o1 :: o2 :: o3 :: o4 :: z :: L) = true) (kk : Ex ω μ q (o0 :: o1 :: o2 :: o3 :: o4 :: some (.ref x) :: L) st h k n Q) : Ex ω μ pc (o0 :: o1 :: o2 :: o3 :: o4 :: z :: L) (.ref x :: st) h k n Q := by
  subst hq
  intro p l e s m args below meth c H locs ls C hH hS hL
  exact lv_astore C.1 C.2.1 hd (lh_has hL) hn rfl (fun ls' h' => kk p l e s m args below meth c H locs ls' C hH hS (lh_set (L := o0 :: o1 :: o2 :: o3 :: o4 :: z :: L) hc h'))
theorem x_iinc5 {o0 o1 o2 o3 o4 : Option Value} {x : Int32} {d : Int} (v : Int32) (q : Nat) (hd : decode μ.2.1 pc = .ok (.iinc 5 d, 3)) (hq : pc + 3 = q) (hn : 5 < μ.2.2.1) (hc : lcat 5 (o0 :: o1 :: o2 :: o3 :: o4 :: some (.int x) :: L) = true) (hv : x + Int32.ofInt d = v) (kk : Ex ω μ q (o0 :: o1 :: o2 :: o3 :: o4 :: some (.int v) :: L) st h k n Q) : Ex ω μ pc (o0 :: o1 :: o2 :: o3 :: o4 :: some (.int x) :: L) st h k n Q := by
  subst hq
  intro p l e s m args below meth c H locs ls C hH hS hL
  obtain ⟨kx, hkx⟩ := List.getElem?_of_mem ((toLv_mem (o0 :: o1 :: o2 :: o3 :: o4 :: some (.int x) :: L) 0 (5, .int x)).mpr ⟨5, rfl, rfl⟩)
  exact lv_iinc C.1 C.2.1 hd (lh_has hL) (k := kx) hkx hv hn rfl (fun ls' h' => kk p l e s m args below meth c H locs ls' C hH hS (lh_set (L := o0 :: o1 :: o2 :: o3 :: o4 :: some (.int x) :: L) hc h'))
theorem x_dr5 {o0 o1 o2 o3 o4 : Option Value} {z : Option Value} (kk : Ex ω μ pc (o0 :: o1 :: o2 :: o3 :: o4 :: none :: L) st h k n Q) : Ex ω μ pc (o0 :: o1 :: o2 :: o3 :: o4 :: z :: L) st h k n Q := by
  refine x_weak (fun j v hj => ?_) kk
  cases j with
  | zero => exact hj
  | succ j =>
  cases j with
  | zero => exact hj
  | succ j =>
  cases j with
  | zero => exact hj
  | succ j =>
  cases j with
  | zero => exact hj
  | succ j =>
  cases j with
  | zero => exact hj
  | succ j =>
  cases j with
  | zero => cases hj
  | succ j =>
  exact hj
theorem x_iload6 {o0 o1 o2 o3 o4 o5 : Option Value} {x : Int32} (q : Nat) (hd : decode μ.2.1 pc = .ok (.iload 6, 2)) (hq : pc + 2 = q) (kk : Ex ω μ q (o0 :: o1 :: o2 :: o3 :: o4 :: o5 :: some (.int x) :: L) (.int x :: st) h k n Q) : Ex ω μ pc (o0 :: o1 :: o2 :: o3 :: o4 :: o5 :: some (.int x) :: L) st h k n Q := by
  subst hq
  intro p l e s m args below meth c H locs ls C hH hS hL
  exact lv_iload C.1 C.2.1 hd (hL.2.2 6 _ rfl) (kk p l e s m args below meth c H locs ls C hH hS hL)
theorem x_aload6 {o0 o1 o2 o3 o4 o5 : Option Value} {x : Nat} (q : Nat) (hd : decode μ.2.1 pc = .ok (.aload 6, 2)) (hq : pc + 2 = q) (kk : Ex ω μ q (o0 :: o1 :: o2 :: o3 :: o4 :: o5 :: some (.ref x) :: L) (.ref x :: st) h k n Q) : Ex ω μ pc (o0 :: o1 :: o2 :: o3 :: o4 :: o5 :: some (.ref x) :: L) st h k n Q := by
  subst hq
  intro p l e s m args below meth c H locs ls C hH hS hL
  exact lv_aload C.1 C.2.1 hd (hL.2.2 6 _ rfl) (kk p l e s m args below meth c H locs ls C hH hS hL)
theorem x_lload6 {o0 o1 o2 o3 o4 o5 : Option Value} {x : Int64} (q : Nat) (hd : decode μ.2.1 pc = .ok (.lload 6, 2)) (hq : pc + 2 = q) (kk : Ex ω μ q (o0 :: o1 :: o2 :: o3 :: o4 :: o5 :: some (.long x) :: L) (.long x :: st) h k n Q) : Ex ω μ pc (o0 :: o1 :: o2 :: o3 :: o4 :: o5 :: some (.long x) :: L) st h k n Q := by
  subst hq
  intro p l e s m args below meth c H locs ls C hH hS hL
  exact lv_lload C.1 C.2.1 hd (hL.2.2 6 _ rfl) (kk p l e s m args below meth c H locs ls C hH hS hL)
theorem x_istore6 {o0 o1 o2 o3 o4 o5 : Option Value} {z : Option Value} {x : Int32} (q : Nat) (hd : decode μ.2.1 pc = .ok (.istore 6, 2)) (hq : pc + 2 = q) (hn : 6 < μ.2.2.1) (hc : lcat 6 (o0 :: o1 :: o2 :: o3 :: o4 :: o5 :: z :: L) = true) (kk : Ex ω μ q (o0 :: o1 :: o2 :: o3 :: o4 :: o5 :: some (.int x) :: L) st h k n Q) : Ex ω μ pc (o0 :: o1 :: o2 :: o3 :: o4 :: o5 :: z :: L) (.int x :: st) h k n Q := by
  subst hq
  intro p l e s m args below meth c H locs ls C hH hS hL
  exact lv_istore C.1 C.2.1 hd (lh_has hL) hn rfl (fun ls' h' => kk p l e s m args below meth c H locs ls' C hH hS (lh_set (L := o0 :: o1 :: o2 :: o3 :: o4 :: o5 :: z :: L) hc h'))
theorem x_astore6 {o0 o1 o2 o3 o4 o5 : Option Value} {z : Option Value} {x : Nat} (q : Nat) (hd : decode μ.2.1 pc = .ok (.astore 6, 2)) (hq : pc + 2 = q) (hn : 6 < μ.2.2.1) (hc : lcat 6 (o0 :: o1 :: o2 :: o3 :: o4 :: o5 :: z :: L) = true) (kk : Ex ω μ q (o0 :: o1 :: o2 :: o3 :: o4 :: o5 :: some (.ref x) :: L) st h k n Q) : Ex ω μ pc (o0 :: o1 :: o2 :: o3 :: o4 :: o5 :: z :: L) (.ref x :: st) h k n Q := by
  subst hq
  intro p l e s m args below meth c H locs ls C hH hS hL
  exact lv_astore C.1 C.2.1 hd (lh_has hL) hn rfl (fun ls' h' => kk p l e s m args below meth c H locs ls' C hH hS (lh_set (L := o0 :: o1 :: o2 :: o3 :: o4 :: o5 :: z :: L) hc h'))
theorem x_iinc6 {o0 o1 o2 o3 o4 o5 : Option Value} {x : Int32} {d : Int} (v : Int32) (q : Nat) (hd : decode μ.2.1 pc = .ok (.iinc 6 d, 3)) (hq : pc + 3 = q) (hn : 6 < μ.2.2.1) (hc : lcat 6 (o0 :: o1 :: o2 :: o3 :: o4 :: o5 :: some (.int x) :: L) = true) (hv : x + Int32.ofInt d = v) (kk : Ex ω μ q (o0 :: o1 :: o2 :: o3 :: o4 :: o5 :: some (.int v) :: L) st h k n Q) : Ex ω μ pc (o0 :: o1 :: o2 :: o3 :: o4 :: o5 :: some (.int x) :: L) st h k n Q := by
  subst hq
  intro p l e s m args below meth c H locs ls C hH hS hL
  obtain ⟨kx, hkx⟩ := List.getElem?_of_mem ((toLv_mem (o0 :: o1 :: o2 :: o3 :: o4 :: o5 :: some (.int x) :: L) 0 (6, .int x)).mpr ⟨6, rfl, rfl⟩)
  exact lv_iinc C.1 C.2.1 hd (lh_has hL) (k := kx) hkx hv hn rfl (fun ls' h' => kk p l e s m args below meth c H locs ls' C hH hS (lh_set (L := o0 :: o1 :: o2 :: o3 :: o4 :: o5 :: some (.int x) :: L) hc h'))
theorem x_dr6 {o0 o1 o2 o3 o4 o5 : Option Value} {z : Option Value} (kk : Ex ω μ pc (o0 :: o1 :: o2 :: o3 :: o4 :: o5 :: none :: L) st h k n Q) : Ex ω μ pc (o0 :: o1 :: o2 :: o3 :: o4 :: o5 :: z :: L) st h k n Q := by
  refine x_weak (fun j v hj => ?_) kk
  cases j with
  | zero => exact hj
  | succ j =>
  cases j with
  | zero => exact hj
  | succ j =>
  cases j with
  | zero => exact hj
  | succ j =>
  cases j with
  | zero => exact hj
  | succ j =>
  cases j with
  | zero => exact hj
  | succ j =>
  cases j with
  | zero => exact hj
  | succ j =>
  cases j with
  | zero => cases hj
  | succ j =>
  exact hj
theorem x_iload7 {o0 o1 o2 o3 o4 o5 o6 : Option Value} {x : Int32} (q : Nat) (hd : decode μ.2.1 pc = .ok (.iload 7, 2)) (hq : pc + 2 = q) (kk : Ex ω μ q (o0 :: o1 :: o2 :: o3 :: o4 :: o5 :: o6 :: some (.int x) :: L) (.int x :: st) h k n Q) : Ex ω μ pc (o0 :: o1 :: o2 :: o3 :: o4 :: o5 :: o6 :: some (.int x) :: L) st h k n Q := by
  subst hq
  intro p l e s m args below meth c H locs ls C hH hS hL
  exact lv_iload C.1 C.2.1 hd (hL.2.2 7 _ rfl) (kk p l e s m args below meth c H locs ls C hH hS hL)
theorem x_aload7 {o0 o1 o2 o3 o4 o5 o6 : Option Value} {x : Nat} (q : Nat) (hd : decode μ.2.1 pc = .ok (.aload 7, 2)) (hq : pc + 2 = q) (kk : Ex ω μ q (o0 :: o1 :: o2 :: o3 :: o4 :: o5 :: o6 :: some (.ref x) :: L) (.ref x :: st) h k n Q) : Ex ω μ pc (o0 :: o1 :: o2 :: o3 :: o4 :: o5 :: o6 :: some (.ref x) :: L) st h k n Q := by
  subst hq
  intro p l e s m args below meth c H locs ls C hH hS hL
  exact lv_aload C.1 C.2.1 hd (hL.2.2 7 _ rfl) (kk p l e s m args below meth c H locs ls C hH hS hL)
theorem x_lload7 {o0 o1 o2 o3 o4 o5 o6 : Option Value} {x : Int64} (q : Nat) (hd : decode μ.2.1 pc = .ok (.lload 7, 2)) (hq : pc + 2 = q) (kk : Ex ω μ q (o0 :: o1 :: o2 :: o3 :: o4 :: o5 :: o6 :: some (.long x) :: L) (.long x :: st) h k n Q) : Ex ω μ pc (o0 :: o1 :: o2 :: o3 :: o4 :: o5 :: o6 :: some (.long x) :: L) st h k n Q := by
  subst hq
  intro p l e s m args below meth c H locs ls C hH hS hL
  exact lv_lload C.1 C.2.1 hd (hL.2.2 7 _ rfl) (kk p l e s m args below meth c H locs ls C hH hS hL)
theorem x_istore7 {o0 o1 o2 o3 o4 o5 o6 : Option Value} {z : Option Value} {x : Int32} (q : Nat) (hd : decode μ.2.1 pc = .ok (.istore 7, 2)) (hq : pc + 2 = q) (hn : 7 < μ.2.2.1) (hc : lcat 7 (o0 :: o1 :: o2 :: o3 :: o4 :: o5 :: o6 :: z :: L) = true) (kk : Ex ω μ q (o0 :: o1 :: o2 :: o3 :: o4 :: o5 :: o6 :: some (.int x) :: L) st h k n Q) : Ex ω μ pc (o0 :: o1 :: o2 :: o3 :: o4 :: o5 :: o6 :: z :: L) (.int x :: st) h k n Q := by
  subst hq
  intro p l e s m args below meth c H locs ls C hH hS hL
  exact lv_istore C.1 C.2.1 hd (lh_has hL) hn rfl (fun ls' h' => kk p l e s m args below meth c H locs ls' C hH hS (lh_set (L := o0 :: o1 :: o2 :: o3 :: o4 :: o5 :: o6 :: z :: L) hc h'))
theorem x_astore7 {o0 o1 o2 o3 o4 o5 o6 : Option Value} {z : Option Value} {x : Nat} (q : Nat) (hd : decode μ.2.1 pc = .ok (.astore 7, 2)) (hq : pc + 2 = q) (hn : 7 < μ.2.2.1) (hc : lcat 7 (o0 :: o1 :: o2 :: o3 :: o4 :: o5 :: o6 :: z :: L) = true) (kk : Ex ω μ q (o0 :: o1 :: o2 :: o3 :: o4 :: o5 :: o6 :: some (.ref x) :: L) st h k n Q) : Ex ω μ pc (o0 :: o1 :: o2 :: o3 :: o4 :: o5 :: o6 :: z :: L) (.ref x :: st) h k n Q := by
  subst hq
  intro p l e s m args below meth c H locs ls C hH hS hL
  exact lv_astore C.1 C.2.1 hd (lh_has hL) hn rfl (fun ls' h' => kk p l e s m args below meth c H locs ls' C hH hS (lh_set (L := o0 :: o1 :: o2 :: o3 :: o4 :: o5 :: o6 :: z :: L) hc h'))
theorem x_iinc7 {o0 o1 o2 o3 o4 o5 o6 : Option Value} {x : Int32} {d : Int} (v : Int32) (q : Nat) (hd : decode μ.2.1 pc = .ok (.iinc 7 d, 3)) (hq : pc + 3 = q) (hn : 7 < μ.2.2.1) (hc : lcat 7 (o0 :: o1 :: o2 :: o3 :: o4 :: o5 :: o6 :: some (.int x) :: L) = true) (hv : x + Int32.ofInt d = v) (kk : Ex ω μ q (o0 :: o1 :: o2 :: o3 :: o4 :: o5 :: o6 :: some (.int v) :: L) st h k n Q) : Ex ω μ pc (o0 :: o1 :: o2 :: o3 :: o4 :: o5 :: o6 :: some (.int x) :: L) st h k n Q := by
  subst hq
  intro p l e s m args below meth c H locs ls C hH hS hL
  obtain ⟨kx, hkx⟩ := List.getElem?_of_mem ((toLv_mem (o0 :: o1 :: o2 :: o3 :: o4 :: o5 :: o6 :: some (.int x) :: L) 0 (7, .int x)).mpr ⟨7, rfl, rfl⟩)
  exact lv_iinc C.1 C.2.1 hd (lh_has hL) (k := kx) hkx hv hn rfl (fun ls' h' => kk p l e s m args below meth c H locs ls' C hH hS (lh_set (L := o0 :: o1 :: o2 :: o3 :: o4 :: o5 :: o6 :: some (.int x) :: L) hc h'))
theorem x_dr7 {o0 o1 o2 o3 o4 o5 o6 : Option Value} {z : Option Value} (kk : Ex ω μ pc (o0 :: o1 :: o2 :: o3 :: o4 :: o5 :: o6 :: none :: L) st h k n Q) : Ex ω μ pc (o0 :: o1 :: o2 :: o3 :: o4 :: o5 :: o6 :: z :: L) st h k n Q := by
  refine x_weak (fun j v hj => ?_) kk
  cases j with
  | zero => exact hj
  | succ j =>
  cases j with
  | zero => exact hj
  | succ j =>
  cases j with
  | zero => exact hj
  | succ j =>
  cases j with
  | zero => exact hj
  | succ j =>
  cases j with
  | zero => exact hj
  | succ j =>
  cases j with
  | zero => exact hj
  | succ j =>
  cases j with
  | zero => exact hj
  | succ j =>
  cases j with
  | zero => cases hj
  | succ j =>
  exact hj
theorem x_iload8 {o0 o1 o2 o3 o4 o5 o6 o7 : Option Value} {x : Int32} (q : Nat) (hd : decode μ.2.1 pc = .ok (.iload 8, 2)) (hq : pc + 2 = q) (kk : Ex ω μ q (o0 :: o1 :: o2 :: o3 :: o4 :: o5 :: o6 :: o7 :: some (.int x) :: L) (.int x :: st) h k n Q) : Ex ω μ pc (o0 :: o1 :: o2 :: o3 :: o4 :: o5 :: o6 :: o7 :: some (.int x) :: L) st h k n Q := by
  subst hq
  intro p l e s m args below meth c H locs ls C hH hS hL
  exact lv_iload C.1 C.2.1 hd (hL.2.2 8 _ rfl) (kk p l e s m args below meth c H locs ls C hH hS hL)
theorem x_aload8 {o0 o1 o2 o3 o4 o5 o6 o7 : Option Value} {x : Nat} (q : Nat) (hd : decode μ.2.1 pc = .ok (.aload 8, 2)) (hq : pc + 2 = q) (kk : Ex ω μ q (o0 :: o1 :: o2 :: o3 :: o4 :: o5 :: o6 :: o7 :: some (.ref x) :: L) (.ref x :: st) h k n Q) : Ex ω μ pc (o0 :: o1 :: o2 :: o3 :: o4 :: o5 :: o6 :: o7 :: some (.ref x) :: L) st h k n Q := by
  subst hq
  intro p l e s m args below meth c H locs ls C hH hS hL
  exact lv_aload C.1 C.2.1 hd (hL.2.2 8 _ rfl) (kk p l e s m args below meth c H locs ls C hH hS hL)
theorem x_lload8 {o0 o1 o2 o3 o4 o5 o6 o7 : Option Value} {x : Int64} (q : Nat) (hd : decode μ.2.1 pc = .ok (.lload 8, 2)) (hq : pc + 2 = q) (kk : Ex ω μ q (o0 :: o1 :: o2 :: o3 :: o4 :: o5 :: o6 :: o7 :: some (.long x) :: L) (.long x :: st) h k n Q) : Ex ω μ pc (o0 :: o1 :: o2 :: o3 :: o4 :: o5 :: o6 :: o7 :: some (.long x) :: L) st h k n Q := by
  subst hq
  intro p l e s m args below meth c H locs ls C hH hS hL
  exact lv_lload C.1 C.2.1 hd (hL.2.2 8 _ rfl) (kk p l e s m args below meth c H locs ls C hH hS hL)
theorem x_istore8 {o0 o1 o2 o3 o4 o5 o6 o7 : Option Value} {z : Option Value} {x : Int32} (q : Nat) (hd : decode μ.2.1 pc = .ok (.istore 8, 2)) (hq : pc + 2 = q) (hn : 8 < μ.2.2.1) (hc : lcat 8 (o0 :: o1 :: o2 :: o3 :: o4 :: o5 :: o6 :: o7 :: z :: L) = true) (kk : Ex ω μ q (o0 :: o1 :: o2 :: o3 :: o4 :: o5 :: o6 :: o7 :: some (.int x) :: L) st h k n Q) : Ex ω μ pc (o0 :: o1 :: o2 :: o3 :: o4 :: o5 :: o6 :: o7 :: z :: L) (.int x :: st) h k n Q := by
  subst hq
  intro p l e s m args below meth c H locs ls C hH hS hL
  exact lv_istore C.1 C.2.1 hd (lh_has hL) hn rfl (fun ls' h' => kk p l e s m args below meth c H locs ls' C hH hS (lh_set (L := o0 :: o1 :: o2 :: o3 :: o4 :: o5 :: o6 :: o7 :: z :: L) hc h'))
theorem x_astore8 {o0 o1 o2 o3 o4 o5 o6 o7 : Option Value} {z : Option Value} {x : Nat} (q : Nat) (hd : decode μ.2.1 pc = .ok (.astore 8, 2)) (hq : pc + 2 = q) (hn : 8 < μ.2.2.1) (hc : lcat 8 (o0 :: o1 :: o2 :: o3 :: o4 :: o5 :: o6 :: o7 :: z :: L) = true) (kk : Ex ω μ q (o0 :: o1 :: o2 :: o3 :: o4 :: o5 :: o6 :: o7 :: some (.ref x) :: L) st h k n Q) : Ex ω μ pc (o0 :: o1 :: o2 :: o3 :: o4 :: o5 :: o6 :: o7 :: z :: L) (.ref x :: st) h k n Q := by
  subst hq
  intro p l e s m args below meth c H locs ls C hH hS hL
  exact lv_astore C.1 C.2.1 hd (lh_has hL) hn rfl (fun ls' h' => kk p l e s m args below meth c H locs ls' C hH hS (lh_set (L := o0 :: o1 :: o2 :: o3 :: o4 :: o5 :: o6 :: o7 :: z :: L) hc h'))
theorem x_iinc8 {o0 o1 o2 o3 o4 o5 o6 o7 : Option Value} {x : Int32} {d : Int} (v : Int32) (q : Nat) (hd : decode μ.2.1 pc = .ok (.iinc 8 d, 3)) (hq : pc + 3 = q) (hn : 8 < μ.2.2.1) (hc : lcat 8 (o0 :: o1 :: o2 :: o3 :: o4 :: o5 :: o6 :: o7 :: some (.int x) :: L) = true) (hv : x + Int32.ofInt d = v) (kk : Ex ω μ q (o0 :: o1 :: o2 :: o3 :: o4 :: o5 :: o6 :: o7 :: some (.int v) :: L) st h k n Q) : Ex ω μ pc (o0 :: o1 :: o2 :: o3 :: o4 :: o5 :: o6 :: o7 :: some (.int x) :: L) st h k n Q := by
  subst hq
  intro p l e s m args below meth c H locs ls C hH hS hL
  obtain ⟨kx, hkx⟩ := List.getElem?_of_mem ((toLv_mem (o0 :: o1 :: o2 :: o3 :: o4 :: o5 :: o6 :: o7 :: some (.int x) :: L) 0 (8, .int x)).mpr ⟨8, rfl, rfl⟩)
  exact lv_iinc C.1 C.2.1 hd (lh_has hL) (k := kx) hkx hv hn rfl (fun ls' h' => kk p l e s m args below meth c H locs ls' C hH hS (lh_set (L := o0 :: o1 :: o2 :: o3 :: o4 :: o5 :: o6 :: o7 :: some (.int x) :: L) hc h'))
theorem x_lstore8 {o0 o1 o2 o3 o4 o5 o6 o7 : Option Value} {z z2 : Option Value} {x : Int64} (q : Nat) (hd : decode μ.2.1 pc = .ok (.lstore 8, 2)) (hq : pc + 2 = q) (hn : 8 + 1 < μ.2.2.1) (hc : lcat 8 (o0 :: o1 :: o2 :: o3 :: o4 :: o5 :: o6 :: o7 :: z :: z2 :: L) = true) (kk : Ex ω μ q (o0 :: o1 :: o2 :: o3 :: o4 :: o5 :: o6 :: o7 :: some (.long x) :: none :: L) st h k n Q) : Ex ω μ pc (o0 :: o1 :: o2 :: o3 :: o4 :: o5 :: o6 :: o7 :: z :: z2 :: L) (.long x :: st) h k n Q := by
  subst hq
  intro p l e s m args below meth c H locs ls C hH hS hL
  exact lv_lstore C.1 C.2.1 hd (lh_has hL) hn rfl (fun ls' h' => kk p l e s m args below meth c H locs ls' C hH hS (lh_setl (L := o0 :: o1 :: o2 :: o3 :: o4 :: o5 :: o6 :: o7 :: z :: z2 :: L) hc h'))
theorem x_dr8 {o0 o1 o2 o3 o4 o5 o6 o7 : Option Value} {z : Option Value} (kk : Ex ω μ pc (o0 :: o1 :: o2 :: o3 :: o4 :: o5 :: o6 :: o7 :: none :: L) st h k n Q) : Ex ω μ pc (o0 :: o1 :: o2 :: o3 :: o4 :: o5 :: o6 :: o7 :: z :: L) st h k n Q := by
  refine x_weak (fun j v hj => ?_) kk
  cases j with
  | zero => exact hj
  | succ j =>
  cases j with
  | zero => exact hj
  | succ j =>
  cases j with
  | zero => exact hj
  | succ j =>
  cases j with
  | zero => exact hj
  | succ j =>
  cases j with
  | zero => exact hj
  | succ j =>
  cases j with
  | zero => exact hj
  | succ j =>
  cases j with
  | zero => exact hj
  | succ j =>
  cases j with
  | zero => exact hj
  | succ j =>
  cases j with
  | zero => cases hj
  | succ j =>
  exact hj
theorem x_iload9 {o0 o1 o2 o3 o4 o5 o6 o7 o8 : Option Value} {x : Int32} (q : Nat) (hd : decode μ.2.1 pc = .ok (.iload 9, 2)) (hq : pc + 2 = q) (kk : Ex ω μ q (o0 :: o1 :: o2 :: o3 :: o4 :: o5 :: o6 :: o7 :: o8 :: some (.int x) :: L) (.int x :: st) h k n Q) : Ex ω μ pc (o0 :: o1 :: o2 :: o3 :: o4 :: o5 :: o6 :: o7 :: o8 :: some (.int x) :: L) st h k n Q := by
  subst hq
  intro p l e s m args below meth c H locs ls C hH hS hL
  exact lv_iload C.1 C.2.1 hd (hL.2.2 9 _ rfl) (kk p l e s m args below meth c H locs ls C hH hS hL)
theorem x_aload9 {o0 o1 o2 o3 o4 o5 o6 o7 o8 : Option Value} {x : Nat} (q : Nat) (hd : decode μ.2.1 pc = .ok (.aload 9, 2)) (hq : pc + 2 = q) (kk : Ex ω μ q (o0 :: o1 :: o2 :: o3 :: o4 :: o5 :: o6 :: o7 :: o8 :: some (.ref x) :: L) (.ref x :: st) h k n Q) : Ex ω μ pc (o0 :: o1 :: o2 :: o3 :: o4 :: o5 :: o6 :: o7 :: o8 :: some (.ref x) :: L) st h k n Q := by
  subst hq
  intro p l e s m args below meth c H locs ls C hH hS hL
  exact lv_aload C.1 C.2.1 hd (hL.2.2 9 _ rfl) (kk p l e s m args below meth c H locs ls C hH hS hL)
theorem x_lload9 {o0 o1 o2 o3 o4 o5 o6 o7 o8 : Option Value} {x : Int64} (q : Nat) (hd : decode μ.2.1 pc = .ok (.lload 9, 2)) (hq : pc + 2 = q) (kk : Ex ω μ q (o0 :: o1 :: o2 :: o3 :: o4 :: o5 :: o6 :: o7 :: o8 :: some (.long x) :: L) (.long x :: st) h k n Q) : Ex ω μ pc (o0 :: o1 :: o2 :: o3 :: o4 :: o5 :: o6 :: o7 :: o8 :: some (.long x) :: L) st h k n Q := by
  subst hq
  intro p l e s m args below meth c H locs ls C hH hS hL
  exact lv_lload C.1 C.2.1 hd (hL.2.2 9 _ rfl) (kk p l e s m args below meth c H locs ls C hH hS hL)
theorem x_istore9 {o0 o1 o2 o3 o4 o5 o6 o7 o8 : Option Value} {z : Option Value} {x : Int32} (q : Nat) (hd : decode μ.2.1 pc = .ok (.istore 9, 2)) (hq : pc + 2 = q) (hn : 9 < μ.2.2.1) (hc : lcat 9 (o0 :: o1 :: o2 :: o3 :: o4 :: o5 :: o6 :: o7 :: o8 :: z :: L) = true) (kk : Ex ω μ q (o0 :: o1 :: o2 :: o3 :: o4 :: o5 :: o6 :: o7 :: o8 :: some (.int x) :: L) st h k n Q) : Ex ω μ pc (o0 :: o1 :: o2 :: o3 :: o4 :: o5 :: o6 :: o7 :: o8 :: z :: L) (.int x :: st) h k n Q := by
  subst hq
  intro p l e s m args below meth c H locs ls C hH hS hL
  exact lv_istore C.1 C.2.1 hd (lh_has hL) hn rfl (fun ls' h' => kk p l e s m args below meth c H locs ls' C hH hS (lh_set (L := o0 :: o1 :: o2 :: o3 :: o4 :: o5 :: o6 :: o7 :: o8 :: z :: L) hc h'))
theorem x_astore9 {o0 o1 o2 o3 o4 o5 o6 o7 o8 : Option Value} {z : Option Value} {x : Nat} (q : Nat) (hd : decode μ.2.1 pc = .ok (.astore 9, 2)) (hq : pc + 2 = q) (hn : 9 < μ.2.2.1) (hc : lcat 9 (o0 :: o1 :: o2 :: o3 :: o4 :: o5 :: o6 :: o7 :: o8 :: z :: L) = true) (kk : Ex ω μ q (o0 :: o1 :: o2 :: o3 :: o4 :: o5 :: o6 :: o7 :: o8 :: some (.ref x) :: L) st h k n Q) : Ex ω μ pc (o0 :: o1 :: o2 :: o3 :: o4 :: o5 :: o6 :: o7 :: o8 :: z :: L) (.ref x :: st) h k n Q := by
  subst hq
  intro p l e s m args below meth c H locs ls C hH hS hL
  exact lv_astore C.1 C.2.1 hd (lh_has hL) hn rfl (fun ls' h' => kk p l e s m args below meth c H locs ls' C hH hS (lh_set (L := o0 :: o1 :: o2 :: o3 :: o4 :: o5 :: o6 :: o7 :: o8 :: z :: L) hc h'))
theorem x_iinc9 {o0 o1 o2 o3 o4 o5 o6 o7 o8 : Option Value} {x : Int32} {d : Int} (v : Int32) (q : Nat) (hd : decode μ.2.1 pc = .ok (.iinc 9 d, 3)) (hq : pc + 3 = q) (hn : 9 < μ.2.2.1) (hc : lcat 9 (o0 :: o1 :: o2 :: o3 :: o4 :: o5 :: o6 :: o7 :: o8 :: some (.int x) :: L) = true) (hv : x + Int32.ofInt d = v) (kk : Ex ω μ q (o0 :: o1 :: o2 :: o3 :: o4 :: o5 :: o6 :: o7 :: o8 :: some (.int v) :: L) st h k n Q) : Ex ω μ pc (o0 :: o1 :: o2 :: o3 :: o4 :: o5 :: o6 :: o7 :: o8 :: some (.int x) :: L) st h k n Q := by
  subst hq
  intro p l e s m args below meth c H locs ls C hH hS hL
  obtain ⟨kx, hkx⟩ := List.getElem?_of_mem ((toLv_mem (o0 :: o1 :: o2 :: o3 :: o4 :: o5 :: o6 :: o7 :: o8 :: some (.int x) :: L) 0 (9, .int x)).mpr ⟨9, rfl, rfl⟩)
  exact lv_iinc C.1 C.2.1 hd (lh_has hL) (k := kx) hkx hv hn rfl (fun ls' h' => kk p l e s m args below meth c H locs ls' C hH hS (lh_set (L := o0 :: o1 :: o2 :: o3 :: o4 :: o5 :: o6 :: o7 :: o8 :: some (.int x) :: L) hc h'))
theorem x_dr9 {o0 o1 o2 o3 o4 o5 o6 o7 o8 : Option Value} {z : Option Value} (kk : Ex ω μ pc (o0 :: o1 :: o2 :: o3 :: o4 :: o5 :: o6 :: o7 :: o8 :: none :: L) st h k n Q) : Ex ω μ pc (o0 :: o1 :: o2 :: o3 :: o4 :: o5 :: o6 :: o7 :: o8 :: z :: L) st h k n Q := by
  refine x_weak (fun j v hj => ?_) kk
  cases j with
  | zero => exact hj
  | succ j =>
  cases j with
  | zero => exact hj
  | succ j =>
  cases j with
  | zero => exact hj
  | succ j =>
  cases j with
  | zero => exact hj
  | succ j =>
  cases j with
  | zero => exact hj
  | succ j =>
  cases j with
  | zero => exact hj
  | succ j =>
  cases j with
  | zero => exact hj
  | succ j =>
  cases j with
  | zero => exact hj
  | succ j =>
  cases j with
  | zero => exact hj
  | succ j =>
  cases j with
  | zero => cases hj
  | succ j =>
  exact hj
theorem x_iload10 {o0 o1 o2 o3 o4 o5 o6 o7 o8 o9 : Option Value} {x : Int32} (q : Nat) (hd : decode μ.2.1 pc = .ok (.iload 10, 2)) (hq : pc + 2 = q) (kk : Ex ω μ q (o0 :: o1 :: o2 :: o3 :: o4 :: o5 :: o6 :: o7 :: o8 :: o9 :: some (.int x) :: L) (.int x :: st) h k n Q) : Ex ω μ pc (o0 :: o1 :: o2 :: o3 :: o4 :: o5 :: o6 :: o7 :: o8 :: o9 :: some (.int x) :: L) st h k n Q := by
  subst hq
  intro p l e s m args below meth c H locs ls C hH hS hL
  exact lv_iload C.1 C.2.1 hd (hL.2.2 10 _ rfl) (kk p l e s m args below meth c H locs ls C hH hS hL)
theorem x_aload10 {o0 o1 o2 o3 o4 o5 o6 o7 o8 o9 : Option Value} {x : Nat} (q : Nat) (hd : decode μ.2.1 pc = .ok (.aload 10, 2)) (hq : pc + 2 = q) (kk : Ex ω μ q (o0 :: o1 :: o2 :: o3 :: o4 :: o5 :: o6 :: o7 :: o8 :: o9 :: some (.ref x) :: L) (.ref x :: st) h k n Q) : Ex ω μ pc (o0 :: o1 :: o2 :: o3 :: o4 :: o5 :: o6 :: o7 :: o8 :: o9 :: some (.ref x) :: L) st h k n Q := by
  subst hq
  intro p l e s m args below meth c H locs ls C hH hS hL
  exact lv_aload C.1 C.2.1 hd (hL.2.2 10 _ rfl) (kk p l e s m args below meth c H locs ls C hH hS hL)
theorem x_lload10 {o0 o1 o2 o3 o4 o5 o6 o7 o8 o9 : Option Value} {x : Int64} (q : Nat) (hd : decode μ.2.1 pc = .ok (.lload 10, 2)) (hq : pc + 2 = q) (kk : Ex ω μ q (o0 :: o1 :: o2 :: o3 :: o4 :: o5 :: o6 :: o7 :: o8 :: o9 :: some (.long x) :: L) (.long x :: st) h k n Q) : Ex ω μ pc (o0 :: o1 :: o2 :: o3 :: o4 :: o5 :: o6 :: o7 :: o8 :: o9 :: some (.long x) :: L) st h k n Q := by
  subst hq
  intro p l e s m args below meth c H locs ls C hH hS hL
  exact lv_lload C.1 C.2.1 hd (hL.2.2 10 _ rfl) (kk p l e s m args below meth c H locs ls C hH hS hL)
theorem x_istore10 {o0 o1 o2 o3 o4 o5 o6 o7 o8 o9 : Option Value} {z : Option Value} {x : Int32} (q : Nat) (hd : decode μ.2.1 pc = .ok (.istore 10, 2)) (hq : pc + 2 = q) (hn : 10 < μ.2.2.1) (hc : lcat 10 (o0 :: o1 :: o2 :: o3 :: o4 :: o5 :: o6 :: o7 :: o8 :: o9 :: z :: L) = true) (kk : Ex ω μ q (o0 :: o1 :: o2 :: o3 :: o4 :: o5 :: o6 :: o7 :: o8 :: o9 :: some (.int x) :: L) st h k n Q) : Ex ω μ pc (o0 :: o1 :: o2 :: o3 :: o4 :: o5 :: o6 :: o7 :: o8 :: o9 :: z :: L) (.int x :: st) h k n Q := by
  subst hq
  intro p l e s m args below meth c H locs ls C hH hS hL
  exact lv_istore C.1 C.2.1 hd (lh_has hL) hn rfl (fun ls' h' => kk p l e s m args below meth c H locs ls' C hH hS (lh_set (L := o0 :: o1 :: o2 :: o3 :: o4 :: o5 :: o6 :: o7 :: o8 :: o9 :: z :: L) hc h'))
theorem x_astore10 {o0 o1 o2 o3 o4 o5 o6 o7 o8 o9 : Option Value} {z : Option Value} {x : Nat} (q : Nat) (hd : decode μ.2.1 pc = .ok (.astore 10, 2)) (hq : pc + 2 = q) (hn : 10 < μ.2.2.1) (hc : lcat 10 (o0 :: o1 :: o2 :: o3 :: o4 :: o5 :: o6 :: o7 :: o8 :: o9 :: z :: L) = true) (kk : Ex ω μ q (o0 :: o1 :: o2 :: o3 :: o4 :: o5 :: o6 :: o7 :: o8 :: o9 :: some (.ref x) :: L) st h k n Q) : Ex ω μ pc (o0 :: o1 :: o2 :: o3 :: o4 :: o5 :: o6 :: o7 :: o8 :: o9 :: z :: L) (.ref x :: st) h k n Q := by
  subst hq
  intro p l e s m args below meth c H locs ls C hH hS hL
  exact lv_astore C.1 C.2.1 hd (lh_has hL) hn rfl (fun ls' h' => kk p l e s m args below meth c H locs ls' C hH hS (lh_set (L := o0 :: o1 :: o2 :: o3 :: o4 :: o5 :: o6 :: o7 :: o8 :: o9 :: z :: L) hc h'))
theorem x_iinc10 {o0 o1 o2 o3 o4 o5 o6 o7 o8 o9 : Option Value} {x : Int32} {d : Int} (v : Int32) (q : Nat) (hd : decode μ.2.1 pc = .ok (.iinc 10 d, 3)) (hq : pc + 3 = q) (hn : 10 < μ.2.2.1) (hc : lcat 10 (o0 :: o1 :: o2 :: o3 :: o4 :: o5 :: o6 :: o7 :: o8 :: o9 :: some (.int x) :: L) = true) (hv : x + Int32.ofInt d = v) (kk : Ex ω μ q (o0 :: o1 :: o2 :: o3 :: o4 :: o5 :: o6 :: o7 :: o8 :: o9 :: some (.int v) :: L) st h k n Q) : Ex ω μ pc (o0 :: o1 :: o2 :: o3 :: o4 :: o5 :: o6 :: o7 :: o8 :: o9 :: some (.int x) :: L) st h k n Q := by
  subst hq
  intro p l e s m args below meth c H locs ls C hH hS hL
  obtain ⟨kx, hkx⟩ := List.getElem?_of_mem ((toLv_mem (o0 :: o1 :: o2 :: o3 :: o4 :: o5 :: o6 :: o7 :: o8 :: o9 :: some (.int x) :: L) 0 (10, .int x)).mpr ⟨10, rfl, rfl⟩)
  exact lv_iinc C.1 C.2.1 hd (lh_has hL) (k := kx) hkx hv hn rfl (fun ls' h' => kk p l e s m args below meth c H locs ls' C hH hS (lh_set (L := o0 :: o1 :: o2 :: o3 :: o4 :: o5 :: o6 :: o7 :: o8 :: o9 :: some (.int x) :: L) hc h'))
theorem x_dr10 {o0 o1 o2 o3 o4 o5 o6 o7 o8 o9 : Option Value} {z : Option Value} (kk : Ex ω μ pc (o0 :: o1 :: o2 :: o3 :: o4 :: o5 :: o6 :: o7 :: o8 :: o9 :: none :: L) st h k n Q) : Ex ω μ pc (o0 :: o1 :: o2 :: o3 :: o4 :: o5 :: o6 :: o7 :: o8 :: o9 :: z :: L) st h k n Q := by
  refine x_weak (fun j v hj => ?_) kk
  cases j with
  | zero => exact hj
  | succ j =>
  cases j with
  | zero => exact hj
  | succ j =>
  cases j with
  | zero => exact hj
  | succ j =>
  cases j with
  | zero => exact hj
  | succ j =>
  cases j with
  | zero => exact hj
  | succ j =>
  cases j with
  | zero => exact hj
  | succ j =>
  cases j with
  | zero => exact hj
  | succ j =>
  cases j with
  | zero => exact hj
  | succ j =>
  cases j with
  | zero => exact hj
  | succ j =>
  cases j with
  | zero => exact hj
  | succ j =>
  cases j with
  | zero => cases hj
  | succ j =>
  exact hj
theorem x_iload11 {o0 o1 o2 o3 o4 o5 o6 o7 o8 o9 o10 : Option Value} {x : Int32} (q : Nat) (hd : decode μ.2.1 pc = .ok (.iload 11, 2)) (hq : pc + 2 = q) (kk : Ex ω μ q (o0 :: o1 :: o2 :: o3 :: o4 :: o5 :: o6 :: o7 :: o8 :: o9 :: o10 :: some (.int x) :: L) (.int x :: st) h k n Q) : Ex ω μ pc (o0 :: o1 :: o2 :: o3 :: o4 :: o5 :: o6 :: o7 :: o8 :: o9 :: o10 :: some (.int x) :: L) st h k n Q := by
  subst hq
  intro p l e s m args below meth c H locs ls C hH hS hL
  exact lv_iload C.1 C.2.1 hd (hL.2.2 11 _ rfl) (kk p l e s m args below meth c H locs ls C hH hS hL)
theorem x_aload11 {o0 o1 o2 o3 o4 o5 o6 o7 o8 o9 o10 : Option Value} {x : Nat} (q : Nat) (hd : decode μ.2.1 pc = .ok (.aload 11, 2)) (hq : pc + 2 = q) (kk : Ex ω μ q (o0 :: o1 :: o2 :: o3 :: o4 :: o5 :: o6 :: o7 :: o8 :: o9 :: o10 :: some (.ref x) :: L) (.ref x :: st) h k n Q) : Ex ω μ pc (o0 :: o1 :: o2 :: o3 :: o4 :: o5 :: o6 :: o7 :: o8 :: o9 :: o10 :: some (.ref x) :: L) st h k n Q := by
  subst hq
  intro p l e s m args below meth c H locs ls C hH hS hL
  exact lv_aload C.1 C.2.1 hd (hL.2.2 11 _ rfl) (kk p l e s m args below meth c H locs ls C hH hS hL)
theorem x_lload11 {o0 o1 o2 o3 o4 o5 o6 o7 o8 o9 o10 : Option Value} {x : Int64} (q : Nat) (hd : decode μ.2.1 pc = .ok (.lload 11, 2)) (hq : pc + 2 = q) (kk : Ex ω μ q (o0 :: o1 :: o2 :: o3 :: o4 :: o5 :: o6 :: o7 :: o8 :: o9 :: o10 :: some (.long x) :: L) (.long x :: st) h k n Q) : Ex ω μ pc (o0 :: o1 :: o2 :: o3 :: o4 :: o5 :: o6 :: o7 :: o8 :: o9 :: o10 :: some (.long x) :: L) st h k n Q := by
  subst hq
  intro p l e s m args below meth c H locs ls C hH hS hL
  exact lv_lload C.1 C.2.1 hd (hL.2.2 11 _ rfl) (kk p l e s m args below meth c H locs ls C hH hS hL)
theorem x_istore11 {o0 o1 o2 o3 o4 o5 o6 o7 o8 o9 o10 : Option Value} {z : Option Value} {x : Int32} (q : Nat) (hd : decode μ.2.1 pc = .ok (.istore 11, 2)) (hq : pc + 2 = q) (hn : 11 < μ.2.2.1) (hc : lcat 11 (o0 :: o1 :: o2 :: o3 :: o4 :: o5 :: o6 :: o7 :: o8 :: o9 :: o10 :: z :: L) = true) (kk : Ex ω μ q (o0 :: o1 :: o2 :: o3 :: o4 :: o5 :: o6 :: o7 :: o8 :: o9 :: o10 :: some (.int x) :: L) st h k n Q) : Ex ω μ pc (o0 :: o1 :: o2 :: o3 :: o4 :: o5 :: o6 :: o7 :: o8 :: o9 :: o10 :: z :: L) (.int x :: st) h k n Q := by
  subst hq
  intro p l e s m args below meth c H locs ls C hH hS hL
  exact lv_istore C.1 C.2.1 hd (lh_has hL) hn rfl (fun ls' h' => kk p l e s m args below meth c H locs ls' C hH hS (lh_set (L := o0 :: o1 :: o2 :: o3 :: o4 :: o5 :: o6 :: o7 :: o8 :: o9 :: o10 :: z :: L) hc h'))
theorem x_astore11 {o0 o1 o2 o3 o4 o5 o6 o7 o8 o9 o10 : Option Value} {z : Option Value} {x : Nat} (q : Nat) (hd : decode μ.2.1 pc = .ok (.astore 11, 2)) (hq : pc + 2 = q) (hn : 11 < μ.2.2.1) (hc : lcat 11 (o0 :: o1 :: o2 :: o3 :: o4 :: o5 :: o6 :: o7 :: o8 :: o9 :: o10 :: z :: L) = true) (kk : Ex ω μ q (o0 :: o1 :: o2 :: o3 :: o4 :: o5 :: o6 :: o7 :: o8 :: o9 :: o10 :: some (.ref x) :: L) st h k n Q) : Ex ω μ pc (o0 :: o1 :: o2 :: o3 :: o4 :: o5 :: o6 :: o7 :: o8 :: o9 :: o10 :: z :: L) (.ref x :: st) h k n Q := by
  subst hq
  intro p l e s m args below meth c H locs ls C hH hS hL
  exact lv_astore C.1 C.2.1 hd (lh_has hL) hn rfl (fun ls' h' => kk p l e s m args below meth c H locs ls' C hH hS (lh_set (L := o0 :: o1 :: o2 :: o3 :: o4 :: o5 :: o6 :: o7 :: o8 :: o9 :: o10 :: z :: L) hc h'))
theorem x_iinc11 {o0 o1 o2 o3 o4 o5 o6 o7 o8 o9 o10 : Option Value} {x : Int32} {d : Int} (v : Int32) (q : Nat) (hd : decode μ.2.1 pc = .ok (.iinc 11 d, 3)) (hq : pc + 3 = q) (hn : 11 < μ.2.2.1) (hc : lcat 11 (o0 :: o1 :: o2 :: o3 :: o4 :: o5 :: o6 :: o7 :: o8 :: o9 :: o10 :: some (.int x) :: L) = true) (hv : x + Int32.ofInt d = v) (kk : Ex ω μ q (o0 :: o1 :: o2 :: o3 :: o4 :: o5 :: o6 :: o7 :: o8 :: o9 :: o10 :: some (.int v) :: L) st h k n Q) : Ex ω μ pc (o0 :: o1 :: o2 :: o3 :: o4 :: o5 :: o6 :: o7 :: o8 :: o9 :: o10 :: some (.int x) :: L) st h k n Q := by
  subst hq
  intro p l e s m args below meth c H locs ls C hH hS hL
  obtain ⟨kx, hkx⟩ := List.getElem?_of_mem ((toLv_mem (o0 :: o1 :: o2 :: o3 :: o4 :: o5 :: o6 :: o7 :: o8 :: o9 :: o10 :: some (.int x) :: L) 0 (11, .int x)).mpr ⟨11, rfl, rfl⟩)
  exact lv_iinc C.1 C.2.1 hd (lh_has hL) (k := kx) hkx hv hn rfl (fun ls' h' => kk p l e s m args below meth c H locs ls' C hH hS (lh_set (L := o0 :: o1 :: o2 :: o3 :: o4 :: o5 :: o6 :: o7 :: o8 :: o9 :: o10 :: some (.int x) :: L) hc h'))
theorem x_dr11 {o0 o1 o2 o3 o4 o5 o6 o7 o8 o9 o10 : Option Value} {z : Option Value} (kk : Ex ω μ pc (o0 :: o1 :: o2 :: o3 :: o4 :: o5 :: o6 :: o7 :: o8 :: o9 :: o10 :: none :: L) st h k n Q) : Ex ω μ pc (o0 :: o1 :: o2 :: o3 :: o4 :: o5 :: o6 :: o7 :: o8 :: o9 :: o10 :: z :: L) st h k n Q := by
  refine x_weak (fun j v hj => ?_) kk
  cases j with
  | zero => exact hj
  | succ j =>
  cases j with
  | zero => exact hj
  | succ j =>
  cases j with
  | zero => exact hj
  | succ j =>
  cases j with
  | zero => exact hj
  | succ j =>
  cases j with
  | zero => exact hj
  | succ j =>
  cases j with
  | zero => exact hj
  | succ j =>
  cases j with
  | zero => exact hj
  | succ j =>
  cases j with
  | zero => exact hj
  | succ j =>
  cases j with
  | zero => exact hj
  | succ j =>
  cases j with
  | zero => exact hj
  | succ j =>
  cases j with
  | zero => exact hj
  | succ j =>
  cases j with
  | zero => cases hj
  | succ j =>
  exact hj
theorem x_iload12 {o0 o1 o2 o3 o4 o5 o6 o7 o8 o9 o10 o11 : Option Value} {x : Int32} (q : Nat) (hd : decode μ.2.1 pc = .ok (.iload 12, 2)) (hq : pc + 2 = q) (kk : Ex ω μ q (o0 :: o1 :: o2 :: o3 :: o4 :: o5 :: o6 :: o7 :: o8 :: o9 :: o10 :: o11 :: some (.int x) :: L) (.int x :: st) h k n Q) : Ex ω μ pc (o0 :: o1 :: o2 :: o3 :: o4 :: o5 :: o6 :: o7 :: o8 :: o9 :: o10 :: o11 :: some (.int x) :: L) st h k n Q := by
  subst hq
  intro p l e s m args below meth c H locs ls C hH hS hL
  exact lv_iload C.1 C.2.1 hd (hL.2.2 12 _ rfl) (kk p l e s m args below meth c H locs ls C hH hS hL)
theorem x_aload12 {o0 o1 o2 o3 o4 o5 o6 o7 o8 o9 o10 o11 : Option Value} {x : Nat} (q : Nat) (hd : decode μ.2.1 pc = .ok (.aload 12, 2)) (hq : pc + 2 = q) (kk : Ex ω μ q (o0 :: o1 :: o2 :: o3 :: o4 :: o5 :: o6 :: o7 :: o8 :: o9 :: o10 :: o11 :: some (.ref x) :: L) (.ref x :: st) h k n Q) : Ex ω μ pc (o0 :: o1 :: o2 :: o3 :: o4 :: o5 :: o6 :: o7 :: o8 :: o9 :: o10 :: o11 :: some (.ref x) :: L) st h k n Q := by
  subst hq
  intro p l e s m args below meth c H locs ls C hH hS hL
  exact lv_aload C.1 C.2.1 hd (hL.2.2 12 _ rfl) (kk p l e s m args below meth c H locs ls C hH hS hL)
theorem x_lload12 {o0 o1 o2 o3 o4 o5 o6 o7 o8 o9 o10 o11 : Option Value} {x : Int64} (q : Nat) (hd : decode μ.2.1 pc = .ok (.lload 12, 2)) (hq : pc + 2 = q) (kk : Ex ω μ q (o0 :: o1 :: o2 :: o3 :: o4 :: o5 :: o6 :: o7 :: o8 :: o9 :: o10 :: o11 :: some (.long x) :: L) (.long x :: st) h k n Q) : Ex ω μ pc (o0 :: o1 :: o2 :: o3 :: o4 :: o5 :: o6 :: o7 :: o8 :: o9 :: o10 :: o11 :: some (.long x) :: L) st h k n Q := by
  subst hq
  intro p l e s m args below meth c H locs ls C hH hS hL
  exact lv_lload C.1 C.2.1 hd (hL.2.2 12 _ rfl) (kk p l e s m args below meth c H locs ls C hH hS hL)
theorem x_istore12 {o0 o1 o2 o3 o4 o5 o6 o7 o8 o9 o10 o11 : Option Value} {z : Option Value} {x : Int32} (q : Nat) (hd : decode μ.2.1 pc = .ok (.istore 12, 2)) (hq : pc + 2 = q) (hn : 12 < μ.2.2.1) (hc : lcat 12 (o0 :: o1 :: o2 :: o3 :: o4 :: o5 :: o6 :: o7 :: o8 :: o9 :: o10 :: o11 :: z :: L) = true) (kk : Ex ω μ q (o0 :: o1 :: o2 :: o3 :: o4 :: o5 :: o6 :: o7 :: o8 :: o9 :: o10 :: o11 :: some (.int x) :: L) st h k n Q) : Ex ω μ pc (o0 :: o1 :: o2 :: o3 :: o4 :: o5 :: o6 :: o7 :: o8 :: o9 :: o10 :: o11 :: z :: L) (.int x :: st) h k n Q := by
  subst hq
  intro p l e s m args below meth c H locs ls C hH hS hL
  exact lv_istore C.1 C.2.1 hd (lh_has hL) hn rfl (fun ls' h' => kk p l e s m args below meth c H locs ls' C hH hS (lh_set (L := o0 :: o1 :: o2 :: o3 :: o4 :: o5 :: o6 :: o7 :: o8 :: o9 :: o10 :: o11 :: z :: L) hc h'))
theorem x_astore12 {o0 o1 o2 o3 o4 o5 o6 o7 o8 o9 o10 o11 : Option Value} {z : Option Value} {x : Nat} (q : Nat) (hd : decode μ.2.1 pc = .ok (.astore 12, 2)) (hq : pc + 2 = q) (hn : 12 < μ.2.2.1) (hc : lcat 12 (o0 :: o1 :: o2 :: o3 :: o4 :: o5 :: o6 :: o7 :: o8 :: o9 :: o10 :: o11 :: z :: L) = true) (kk : Ex ω μ q (o0 :: o1 :: o2 :: o3 :: o4 :: o5 :: o6 :: o7 :: o8 :: o9 :: o10 :: o11 :: some (.ref x) :: L) st h k n Q) : Ex ω μ pc (o0 :: o1 :: o2 :: o3 :: o4 :: o5 :: o6 :: o7 :: o8 :: o9 :: o10 :: o11 :: z :: L) (.ref x :: st) h k n Q := by
  subst hq
  intro p l e s m args below meth c H locs ls C hH hS hL
  exact lv_astore C.1 C.2.1 hd (lh_has hL) hn rfl (fun ls' h' => kk p l e s m args below meth c H locs ls' C hH hS (lh_set (L := o0 :: o1 :: o2 :: o3 :: o4 :: o5 :: o6 :: o7 :: o8 :: o9 :: o10 :: o11 :: z :: L) hc h'))
theorem x_iinc12 {o0 o1 o2 o3 o4 o5 o6 o7 o8 o9 o10 o11 : Option Value} {x : Int32} {d : Int} (v : Int32) (q : Nat) (hd : decode μ.2.1 pc = .ok (.iinc 12 d, 3)) (hq : pc + 3 = q) (hn : 12 < μ.2.2.1) (hc : lcat 12 (o0 :: o1 :: o2 :: o3 :: o4 :: o5 :: o6 :: o7 :: o8 :: o9 :: o10 :: o11 :: some (.int x) :: L) = true) (hv : x + Int32.ofInt d = v) (kk : Ex ω μ q (o0 :: o1 :: o2 :: o3 :: o4 :: o5 :: o6 :: o7 :: o8 :: o9 :: o10 :: o11 :: some (.int v) :: L) st h k n Q) : Ex ω μ pc (o0 :: o1 :: o2 :: o3 :: o4 :: o5 :: o6 :: o7 :: o8 :: o9 :: o10 :: o11 :: some (.int x) :: L) st h k n Q := by
  subst hq
  intro p l e s m args below meth c H locs ls C hH hS hL
  obtain ⟨kx, hkx⟩ := List.getElem?_of_mem ((toLv_mem (o0 :: o1 :: o2 :: o3 :: o4 :: o5 :: o6 :: o7 :: o8 :: o9 :: o10 :: o11 :: some (.int x) :: L) 0 (12, .int x)).mpr ⟨12, rfl, rfl⟩)
  exact lv_iinc C.1 C.2.1 hd (lh_has hL) (k := kx) hkx hv hn rfl (fun ls' h' => kk p l e s m args below meth c H locs ls' C hH hS (lh_set (L := o0 :: o1 :: o2 :: o3 :: o4 :: o5 :: o6 :: o7 :: o8 :: o9 :: o10 :: o11 :: some (.int x) :: L) hc h'))
theorem x_dr12 {o0 o1 o2 o3 o4 o5 o6 o7 o8 o9 o10 o11 : Option Value} {z : Option Value} (kk : Ex ω μ pc (o0 :: o1 :: o2 :: o3 :: o4 :: o5 :: o6 :: o7 :: o8 :: o9 :: o10 :: o11 :: none :: L) st h k n Q) : Ex ω μ pc (o0 :: o1 :: o2 :: o3 :: o4 :: o5 :: o6 :: o7 :: o8 :: o9 :: o10 :: o11 :: z :: L) st h k n Q := by
  refine x_weak (fun j v hj => ?_) kk
  cases j with
  | zero => exact hj
  | succ j =>
  cases j with
  | zero => exact hj
  | succ j =>
  cases j with
  | zero => exact hj
  | succ j =>
  cases j with
  | zero => exact hj
  | succ j =>
  cases j with
  | zero => exact hj
  | succ j =>
  cases j with
  | zero => exact hj
  | succ j =>
  cases j with
  | zero => exact hj
  | succ j =>
  cases j with
  | zero => exact hj
  | succ j =>
  cases j with
  | zero => exact hj
  | succ j =>
  cases j with
  | zero => exact hj
  | succ j =>
  cases j with
  | zero => exact hj
  | succ j =>
  cases j with
  | zero => exact hj
  | succ j =>
  cases j with
  | zero => cases hj
  | succ j =>
  exact hj
end EXR
