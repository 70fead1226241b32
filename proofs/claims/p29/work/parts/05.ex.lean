/-! A JUDGEMENT OF OUR OWN over the kit's W: 'Ex ω μ pc L st h k n Q': method μ, at pc with locals L and stack st, over an abstract heap h, returns v with heap h' so that Q v h'. A call is an Ex of the callee whose Q is the Ex behind the call. -/
abbrev MR : Type := MethodName × ByteArray × Nat × Option FieldType × Room
def ex_ws (μ : MR) : List Cond := .code μ.1 μ.2.1 μ.2.2.1 μ.2.2.2.1 :: wsL_law
/-- abstract heap: shapes (kind, length), ints, references (0: null), longs, size -/
abbrev AH : Type := (Nat → Option (Nat × Nat)) × (Nat → Nat → Int32) × (Nat → Nat → Nat) × (Nat → Nat → Int64) × Nat
def gs (h : AH) : Nat → Option (Nat × Nat) := h.1
def gi (h : AH) : Nat → Nat → Int32 := h.2.1
def gr (h : AH) : Nat → Nat → Nat := h.2.2.1
def gl (h : AH) : Nat → Nat → Int64 := h.2.2.2.1
def gt (h : AH) : Nat := h.2.2.2.2
def up2 {α : Type} (f : Nat → Nat → α) (a k : Nat) (v : α) : Nat → Nat → α := fun b j => if b = a ∧ j = k then v else f b j
def si (h : AH) (a k : Nat) (v : Int32) : AH := (h.1, up2 h.2.1 a k v, h.2.2)
def sr (h : AH) (a k : Nat) (v : Nat) : AH := (h.1, h.2.1, up2 h.2.2.1 a k v, h.2.2.2)
def sl (h : AH) (a k : Nat) (v : Int64) : AH := (h.1, h.2.1, h.2.2.1, up2 h.2.2.2.1 a k v, h.2.2.2.2)
theorem up2_same {α : Type} (f : Nat → Nat → α) (a k : Nat) (v : α) : up2 f a k v a k = v := if_pos ⟨rfl, rfl⟩
theorem up2_ne1 {α : Type} (f : Nat → Nat → α) {a b : Nat} (k : Nat) (v : α) (h : b ≠ a) : up2 f a k v b = f b := funext fun _ => if_neg fun q => h q.1
theorem up2_ne2 {α : Type} (f : Nat → Nat → α) (a : Nat) {b k j : Nat} (v : α) (h : j ≠ k) : up2 f a k v b j = f b j := if_neg fun q => h q.2
/-- kinds below 10: objects of vwCl; 10 int rows, 11 char rows, 12 to 15 rows of Roll, Pallet, Result, State -/
def ftab : Nat → Nat → FieldType := fun t => match t with
  | 0 => tyX0
  | 1 => tyX1
  | 2 => tyX2
  | 3 => tyX3
  | 4 => tyX4
  | 5 => tyX5
  | 6 => tyX6
  | 7 => tyX7
  | 8 => tyX8
  | 9 => tyX9
  | 10 => fun _ => .int
  | 11 => fun _ => .int
  | _ => fun _ => .array .int
def kd (t k : Nat) : Nat := match ftab t k with
  | .int => 0
  | .long => 2
  | _ => 1
/-- what a reference slot points to -/
def tgt (t k : Nat) : Nat × Nat := match t with
  | 0 => (2, 3)
  | 2 => (10, 12)
  | 3 => (10, 25)
  | 4 => (10, 8)
  | 5 => if k = 0 then (12, 6) else if k = 2 then (13, 8) else if k = 5 then (14, 6) else if k = 7 then (2, 3) else (6, 12)
  | 7 => (11, 100)
  | 8 => if k = 2 then (15, 4) else if k = 4 then (7, 2) else if k = 5 then (2, 3) else if k = 6 then (0, 7) else if k = 7 then (10, 25) else (5, 11)
  | 9 => if k = 1 then (10, 2384) else if k = 4 then (10, 100) else if k = 8 then (10, 24) else (10, 596)
  | 12 => (4, 6)
  | 13 => (1, 6)
  | 14 => (3, 15)
  | _ => (5, 11)
def rvv (n : Nat) : Value := if n = 0 then .null else .ref n
def sv (h : AH) (a t k : Nat) : Value := if kd t k = 0 then .int (gi h a k) else if kd t k = 1 then rvv (gr h a k) else .long (gl h a k)
/-- what stays through a run: classes and slots, array classes, where the law's own cells begin, whether all references are filled, the text constants -/
abbrev Om : Type := va_G × (Nat → ClassId) × Nat × Bool × (Nat → Nat) × (Nat → Nat)
def exA (ω : Om) : Nat → Prop := fun q => ω.2.2.1 ≤ q
def ent (ω : Om) (h : AH) (a t n : Nat) : va_E :=
  if t < 10 then .inr (t, (List.range n).map (sv h a t)) else if t < 12 then .inl (ω.2.1 t, n, .inl (gi h a)) else .inl (ω.2.1 t, n, .inr (.inr (.inr (.inr (fun k => if gr h a k = 0 then none else some (gr h a k))))))
/-- all references are filled, with what they should point to -/
def TY (h : AH) : Prop := ∀ a t n, gs h a = some (t, n) → ∀ k, k < n → kd t k = 1 → gs h (gr h a k) = some (tgt t k)
def nFl (t : Nat) : Nat := ((vwCl[t]?).map (fun c => c.2.2)).getD 0
def hp (ω : Om) (h : AH) (H : Heap) : Prop := H.size = gt h ∧ gs h 0 = none ∧ (∀ a t n, gs h a = some (t, n) → ω.2.2.1 ≤ a ∧ (t < 10 → n = nFl t) ∧ va_at ω.1 vwCl (a, ent ω h a t n) H) ∧ (ω.2.2.2.1 = true → TY h)
def exT (ω : Om) : List (ClassId × FieldType) := [(ω.2.1 10, .int), (ω.2.1 11, .char), (ω.2.1 12, .object RX4), (ω.2.1 13, .object RX1), (ω.2.1 14, .object RX3), (ω.2.1 15, .object RX5)]
def nestM : List (String × Nat × MethodName × String) := [("PalletWrapper$State", 24, ⟨"PalletWrapper$Pallet", "<init>", "()V"⟩, "PalletWrapper"), ("PalletWrapper$State", 41, ⟨"PalletWrapper$Sums", "<init>", "()V"⟩, "PalletWrapper"), ("PalletWrapper$Text", 19, ⟨"PalletWrapper", "nameOf", "(I)Ljava/lang/String;"⟩, "PalletWrapper"), ("PalletWrapper$Text", 81, ⟨"PalletWrapper", "outside", "(III)Z"⟩, "PalletWrapper"), ("PalletWrapper$Pallet", 34, ⟨"PalletWrapper", "roundedUp", "(II)I"⟩, "PalletWrapper"), ("PalletWrapper$State", 137, ⟨"PalletWrapper", "zonesEnd", "(II)I"⟩, "PalletWrapper"), ("PalletWrapper$State", 143, ⟨"PalletWrapper", "firstZone", "(I)I"⟩, "PalletWrapper"), ("PalletWrapper$State", 153, ⟨"PalletWrapper", "greatestTension", "(II)I"⟩, "PalletWrapper"), ("PalletWrapper$State", 178, ⟨"PalletWrapper", "forceOf", "(I)I"⟩, "PalletWrapper"), ("PalletWrapper$Result", 70, ⟨"PalletWrapper", "zonesEnd", "(II)I"⟩, "PalletWrapper"), ("PalletWrapper$Result", 73, ⟨"PalletWrapper", "firstZone", "(I)I"⟩, "PalletWrapper"), ("PalletWrapper$Result", 77, ⟨"PalletWrapper", "least", "([II)I"⟩, "PalletWrapper")]
def nestF : List (String × Nat × String × String × String × String) := [("PalletWrapper$Text", 75, "PalletWrapper", "LEAST_AMOUNT", "[I", "PalletWrapper"), ("PalletWrapper$Text", 78, "PalletWrapper", "MOST_AMOUNT", "[I", "PalletWrapper")]
def lenS : List Nat := [4, 2, 4, 7, 7]
def bytS : List (List Int32) := [[115, 116, 97, 121], [117, 112], [100, 111, 119, 110], [116, 101, 110, 115, 105, 111, 110], [115, 116, 114, 101, 116, 99, 104]]
def namS : List String := ["stay", "up", "down", "tension", "stretch"]
def leastF : Nat → Int32 := fun j => if j < 3 then 1 else 0
def mostF : Nat → Int32 := fun j => if j = 0 then 20 else if j < 3 then 100 else if j = 3 then 199 else 300
def aoL : List String := [RX4, RX1, RX3, RX5]
/-- the script: its place, its length, its values stand behind the text constants' -/
def exX (ω : Om) (U : State) (H : Heap) : Prop := va_X (ω.2.2.2.2.1 7) (ω.2.2.2.2.1 8) (fun j => nI (ω.2.2.2.2.2 (5 + j))) U H ∧ ω.2.2.2.2.1 7 < ω.2.2.1 ∧ ω.2.2.2.2.1 8 ≤ 260
theorem va_X.lt {b L : Nat} {xs : Nat → Int32} {U : State} {H : Heap} (h : va_X b L xs U H) : b < H.size := by
  obtain ⟨scr, h1, _⟩ := h
  exact (Array.getElem?_eq_some_iff.mp h1).1
theorem exX_moved {ω : Om} {s U : State} {H : Heap} {locs : List Loc} (h : exX ω s s.heap) (hS : va_S (exA ω) s.heap H locs) (hA : s.vm.Alike U.vm) : exX ω U H :=
  ⟨(h.1.moved hA).kept (hS.2.1 _ h.1.lt (Nat.not_le.mpr h.2.1)), h.2⟩
/-- what stands below the law's own cells, never written: two static rows, the text constants, two statics of the JDK's; and the nest mates' links -/
def exB (ω : Om) (U : State) (H : Heap) : Prop :=
  (va_Z "PalletWrapper" "LEAST_AMOUNT" "[I" (.ref (ω.2.2.2.2.1 5)) (exA ω) U H ∧ va_T .int (ω.2.2.2.2.1 5) 5 (fun j => .int (leastF j)) (exA ω) U H) ∧
  (va_Z "PalletWrapper" "MOST_AMOUNT" "[I" (.ref (ω.2.2.2.2.1 6)) (exA ω) U H ∧ va_T .int (ω.2.2.2.2.1 6) 5 (fun j => .int (mostF j)) (exA ω) U H) ∧
  vk_S 5 lenS bytS ω.2.2.2.2.1 ω.2.2.2.2.2 (exA ω) U H ∧ (∀ i : Nat, i < 5 → vk_R "PalletWrapper" (229 + 2 * i) (namS.getD i "") (ω.2.2.2.2.1 i) U) ∧
  va_Z "java/lang/String" "COMPACT_STRINGS" "Z" (.int 1) (exA ω) U H ∧ va_Zq "jdk/internal/util/Preconditions" "SIOOBE_FORMATTER" "Ljava/util/function/BiFunction;" (exA ω) U H ∧
  ((∀ q ∈ nestM, va_Nw (.methodLinkNest q.1 q.2.1 q.2.2.1 q.2.2.2) U) ∧ ∀ C ∈ aoL, va_AO C U) ∧ (∀ q ∈ nestF, va_Nw (.fieldLinkNest q.1 q.2.1 q.2.2.1 q.2.2.2.1 q.2.2.2.2.1 q.2.2.2.2.2) U) ∧
  exX ω U H
theorem exB_moved {ω : Om} {s U : State} {H : Heap} {locs : List Loc} (h : exB ω s s.heap) (hS : va_S (exA ω) s.heap H locs) (hW : s.WarmedH U.vm) (hU : U.heap = H) : exB ω U U.heap := by
  obtain ⟨⟨a1, a2⟩, ⟨b1, b2⟩, c1, c2, d1, d2, e1, e2, f1⟩ := h
  rw [hU]
  exact ⟨⟨(a1.moved hW.alike).kept hS.2.1, (a2.moved hW.alike).kept hS.2.1⟩, ⟨(b1.moved hW.alike).kept hS.2.1, (b2.moved hW.alike).kept hS.2.1⟩, (c1.moved hW.alike).kept hS.2.1, fun i hi => (c2 i hi).warm hW, (d1.moved hW.alike).kept hS.2.1, (d2.moved hW.alike).kept hS.2.1, ⟨fun q hq => (e1.1 q hq).warmM hW, fun q hq => (e1.2 q hq).moved hW.alike⟩, fun q hq => (e2 q hq).warmF hW, exX_moved f1 hS hW.alike⟩
theorem exB_same {ω : Om} {s U : State} (h : exB ω s s.heap) (hv : U.vm = s.vm) (hU : U.heap = s.heap) : exB ω U U.heap := by
  obtain ⟨⟨a1, a2⟩, ⟨b1, b2⟩, c1, c2, d1, d2, e1, e2, f1⟩ := h
  have hA : s.vm.Alike U.vm := by rw [hv]; exact Vm.Alike.refl _
  rw [hU]
  exact ⟨⟨a1.moved hA, a2.moved hA⟩, ⟨b1.moved hA, b2.moved hA⟩, c1.moved hA, fun i hi => (c2 i hi).same hv, d1.moved hA, d2.moved hA, ⟨fun q hq => (e1.1 q hq).same rfl hv.symm, fun q hq => (e1.2 q hq).moved hA⟩, fun q hq => (e2 q hq).same rfl hv.symm, f1.1.moved hA, f1.2⟩
def lh (ls : Array Slot) (nL : Nat) (L : List (Option Value)) : Prop := ls.size = nL ∧ lv_wf ls ∧ ∀ (i : Nat) (v : Value), L[i]? = some (some v) → ls[i]? = some (.val v)
/-- what holds all through a method's run -/
def Cx (ω : Om) (μ : MR) (p : Program) (s : State) (m : MethodId) (args : Array Value) (meth : Method) (c : Code) : Prop :=
  p.tables.exec = Jvm.exec ∧ c.code = μ.2.1 ∧ c.maxLocals = μ.2.2.1 ∧ meth.sig.returnType = μ.2.2.2.1 ∧ s.vm.findClass μ.1.cls = some m.cls ∧ meth.locks = false ∧ meth.name = μ.1.name ∧ (∀ w ∈ wsL_law, w.before args s = true) ∧ va_K ω.1 vwCl (exT ω) s ∧ exB ω s s.heap ∧ ω.2.2.1 ≤ s.heap.size
def exQ (ω : Om) (Q : Option Value → AH → Prop) : Array Value → State → Outcome → State → Prop := fun _ st o t => (∃ (r : Option Value) (h' : AH), o = .returned r ∧ Q r h' ∧ hp ω h' t.heap) ∧ va_F (exA ω) st t
def Ex (ω : Om) (μ : MR) (pc : Nat) (L : List (Option Value)) (st : List Value) (h : AH) (k n : Nat) (Q : Option Value → AH → Prop) : Prop :=
  ∀ (p : Program) (l : Launch) (e : Env) (s : State) (m : MethodId) (args : Array Value) (below : List Frame) (meth : Method) (c : Code) (H : Heap) (locs : List Loc) (ls : Array Slot),
    Cx ω μ p s m args meth c → hp ω h H → va_S (exA ω) s.heap H locs → lh ls μ.2.2.1 L → W p l e μ.2.2.2.2 s m args below meth c H locs k n (MQ below (exQ ω Q) args s μ.2.2.2.2.cells μ.2.2.2.2.slots (exA ω)) (F0 m pc ls st)
