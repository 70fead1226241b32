/-! the rules of Ex that read and write the heap, at the level of Ex -/
/-- a fact of shapes: it may lean on the references being filled -/
def SH (ω : Om) (h : AH) (a t n : Nat) : Prop := (ω.2.2.2.1 = true → TY h) → gs h a = some (t, n)
theorem SH.fld {ω : Om} {h : AH} {a t n t' n' : Nat} (hw : ω.2.2.2.1 = true) (hs : SH ω h a t n) (k : Nat) (hk : k < n) (hkd : kd t k = 1) (ht : tgt t k = (t', n')) : SH ω h (gr h a k) t' n' := fun T => by
  rw [T hw a t n (hs T) k hk hkd, ht]
theorem vp_lt {i : Int32} {n : Nat} (h : vp_in i n) : i.toNatClampNeg < n := Nat.not_le.mp fun q => h (Or.inr q)
theorem SH.elt {ω : Om} {h : AH} {a t n t' n' : Nat} (hw : ω.2.2.2.1 = true) (hs : SH ω h a t n) {i : Int32} (hi : vp_in i n) (hkd : ∀ k, kd t k = 1) (ht : ∀ k, tgt t k = (t', n')) : SH ω h (gr h a i.toNatClampNeg) t' n' := fun T => by
  rw [T hw a t n (hs T) _ (vp_lt hi) (hkd _), ht]
section EXH
variable {ω : Om} {μ : MR} {pc : Nat} {L : List (Option Value)} {st : List Value} {h : AH} {k n : Nat} {Q : Option Value → AH → Prop}
variable {t N f idx nn a : Nat} {C : String} {T : u_T} {ty : Nat → FieldType}
theorem x_getI (cf : CF t C T N ty) (f q : Nat) (hd : decode μ.2.1 pc = .ok (.getfield idx, 3)) (hq : pc + 3 = q) (hl : Cond.fieldLink μ.1.cls idx (T f).1 (T f).2.1 (T f).2.2.1 ∈ wsL_law) (hs : SH ω h a t nn) (hf : f < N) (hkd : kd t f = 0)
    (kk : Ex ω μ q L (.int (gi h a f) :: st) h k n Q) : Ex ω μ pc L (.ref a :: st) h k n Q := by
  subst hq
  intro p l e s m args below meth c H locs ls C hH hS hL
  refine c_get cf C.1 C.2.1 C.2.2.2.2.2.2.2.1 C.2.2.2.2.1 C.2.2.2.2.2.2.2.2.1 hH (hs hH.2.2.2) hf hl hd ?_
  rw [show sv h a t f = .int (gi h a f) from if_pos hkd]
  exact kk p l e s m args below meth c H locs ls C hH hS hL
theorem x_getL (cf : CF t C T N ty) (f q : Nat) (hd : decode μ.2.1 pc = .ok (.getfield idx, 3)) (hq : pc + 3 = q) (hl : Cond.fieldLink μ.1.cls idx (T f).1 (T f).2.1 (T f).2.2.1 ∈ wsL_law) (hs : SH ω h a t nn) (hf : f < N) (hkd : kd t f = 2)
    (kk : Ex ω μ q L (.long (gl h a f) :: st) h k n Q) : Ex ω μ pc L (.ref a :: st) h k n Q := by
  subst hq
  intro p l e s m args below meth c H locs ls C hH hS hL
  refine c_get cf C.1 C.2.1 C.2.2.2.2.2.2.2.1 C.2.2.2.2.1 C.2.2.2.2.2.2.2.2.1 hH (hs hH.2.2.2) hf hl hd ?_
  rw [show sv h a t f = .long (gl h a f) from by unfold sv; rw [hkd]; rfl]
  exact kk p l e s m args below meth c H locs ls C hH hS hL
/-- a reference that isn't null, with its ground -/
theorem x_getR0 (cf : CF t C T N ty) (f q : Nat) (hd : decode μ.2.1 pc = .ok (.getfield idx, 3)) (hq : pc + 3 = q) (hl : Cond.fieldLink μ.1.cls idx (T f).1 (T f).2.1 (T f).2.2.1 ∈ wsL_law) (hs : SH ω h a t nn) (hf : f < N) (hkd : kd t f = 1) (hnz : gs h 0 = none → (ω.2.2.2.1 = true → TY h) → gr h a f ≠ 0)
    (kk : Ex ω μ q L (.ref (gr h a f) :: st) h k n Q) : Ex ω μ pc L (.ref a :: st) h k n Q := by
  subst hq
  intro p l e s m args below meth c H locs ls C hH hS hL
  refine c_get cf C.1 C.2.1 C.2.2.2.2.2.2.2.1 C.2.2.2.2.1 C.2.2.2.2.2.2.2.2.1 hH (hs hH.2.2.2) hf hl hd ?_
  rw [show sv h a t f = .ref (gr h a f) from by unfold sv; rw [hkd]; simp [rvv, hnz hH.2.1 hH.2.2.2]]
  exact kk p l e s m args below meth c H locs ls C hH hS hL
theorem x_getR (cf : CF t C T N ty) (f q : Nat) (hw : ω.2.2.2.1 = true) (hd : decode μ.2.1 pc = .ok (.getfield idx, 3)) (hq : pc + 3 = q) (hl : Cond.fieldLink μ.1.cls idx (T f).1 (T f).2.1 (T f).2.2.1 ∈ wsL_law) (hs : SH ω h a t nn) (hf : f < N) (hfn : f < nn) (hkd : kd t f = 1)
    (kk : Ex ω μ q L (.ref (gr h a f) :: st) h k n Q) : Ex ω μ pc L (.ref a :: st) h k n Q :=
  x_getR0 cf f q hd hq hl hs hf hkd (fun h0 hT e => by
    have := hT hw a t nn (hs hT) f hfn hkd
    rw [e, h0] at this
    cases this) kk
theorem sv_si {h : AH} {a t f : Nat} {v : Int32} (hkd : kd t f = 0) (j : Nat) : sv (si h a f v) a t j = if j = f then .int v else sv h a t j := by
  by_cases e : j = f
  · subst e
    rw [if_pos rfl]
    unfold sv
    rw [if_pos hkd]
    exact congrArg _ (up2_same _ _ _ _)
  · rw [if_neg e]
    unfold sv
    rw [show gi (si h a f v) a j = gi h a j from up2_ne2 _ _ _ e]
    rfl
theorem sv_sl {h : AH} {a t f : Nat} {v : Int64} (hkd : kd t f = 2) (j : Nat) : sv (sl h a f v) a t j = if j = f then .long v else sv h a t j := by
  by_cases e : j = f
  · subst e
    rw [if_pos rfl]
    unfold sv
    rw [hkd, if_neg (by decide), if_neg (by decide)]
    exact congrArg Value.long (up2_same _ _ _ _)
  · rw [if_neg e]
    unfold sv
    rw [show gl (sl h a f v) a j = gl h a j from up2_ne2 _ _ _ e]
    rfl
theorem sv_sr {h : AH} {a t f v : Nat} (hkd : kd t f = 1) (hv : v ≠ 0) (j : Nat) : sv (sr h a f v) a t j = if j = f then .ref v else sv h a t j := by
  by_cases e : j = f
  · subst e
    rw [if_pos rfl]
    unfold sv
    rw [hkd]
    rw [show gr (sr h a j v) a j = v from up2_same _ _ _ _]
    simp [rvv, hv]
  · rw [if_neg e]
    unfold sv
    rw [show gr (sr h a f v) a j = gr h a j from up2_ne2 _ _ _ e]
    rfl
theorem cf_ty (cf : CF t C T N ty) (f : Nat) : ftab t f = ty f := congrFun cf.2.2.2.2.2.2 f
theorem x_putI (cf : CF t C T N ty) (f q : Nat) {v : Int32} (hd : decode μ.2.1 pc = .ok (.putfield idx, 3)) (hq : pc + 3 = q) (hl : Cond.fieldLink μ.1.cls idx (T f).1 (T f).2.1 (T f).2.2.1 ∈ wsL_law) (hs : SH ω h a t nn) (hf : f < N) (hfin : (T f).2.2.2 = false) (hty : ty f = .int)
    (kk : Ex ω μ q L st (si h a f v) k n Q) : Ex ω μ pc L (.int v :: .ref a :: st) h k n Q := by
  subst hq
  intro p l e s m args below meth c H locs ls C hH hS hL
  have hkd : kd t f = 0 := by unfold kd; rw [cf_ty cf f, hty]
  exact c_put cf C.1 C.2.1 C.2.2.2.2.2.2.2.1 C.2.2.2.2.1 C.2.2.2.2.2.2.2.2.1 hH hS (hs hH.2.2.2) hf hl (Or.inl hfin) (by rw [hty]; rfl) (by rw [hty]; rfl) (h' := si h a f v) rfl rfl (fun b t n hb => gi_si_ent b t n hb) (fun j _ => sv_si hkd j) (fun _ ht => ht) hd
    (fun H1 locs1 g1 g2 => kk p l e s m args below meth c H1 locs1 ls C g1 g2 hL)
theorem x_putL (cf : CF t C T N ty) (f q : Nat) {v : Int64} (hd : decode μ.2.1 pc = .ok (.putfield idx, 3)) (hq : pc + 3 = q) (hl : Cond.fieldLink μ.1.cls idx (T f).1 (T f).2.1 (T f).2.2.1 ∈ wsL_law) (hs : SH ω h a t nn) (hf : f < N) (hfin : (T f).2.2.2 = false) (hty : ty f = .long)
    (kk : Ex ω μ q L st (sl h a f v) k n Q) : Ex ω μ pc L (.long v :: .ref a :: st) h k n Q := by
  subst hq
  intro p l e s m args below meth c H locs ls C hH hS hL
  have hkd : kd t f = 2 := by unfold kd; rw [cf_ty cf f, hty]
  exact c_put cf C.1 C.2.1 C.2.2.2.2.2.2.2.1 C.2.2.2.2.1 C.2.2.2.2.2.2.2.2.1 hH hS (hs hH.2.2.2) hf hl (Or.inl hfin) (by rw [hty]; rfl) (by rw [hty]; rfl) (h' := sl h a f v) rfl rfl (fun b t n hb => gl_sl_ent b t n hb) (fun j _ => sv_sl hkd j) (fun _ ht => ht) hd
    (fun H1 locs1 g1 g2 => kk p l e s m args below meth c H1 locs1 ls C g1 g2 hL)
/-- a reference is put (a final one by its constructor) -/
theorem x_putR (cf : CF t C T N ty) (f q : Nat) {v : Nat} (hd : decode μ.2.1 pc = .ok (.putfield idx, 3)) (hq : pc + 3 = q) (hl : Cond.fieldLink μ.1.cls idx (T f).1 (T f).2.1 (T f).2.2.1 ∈ wsL_law) (hs : SH ω h a t nn) (hf : f < N) (hfin : (T f).2.2.2 = false ∨ ((T f).2.2.2 = true ∧ μ.1.name = "<init>" ∧ (T f).1 = μ.1.cls)) (hty : (∃ x, ty f = .object x) ∨ ∃ x, ty f = .array x)
    (hv : SH ω h v (tgt t f).1 (tgt t f).2) (kk : Ex ω μ q L st (sr h a f v) k n Q) : Ex ω μ pc L (.ref v :: .ref a :: st) h k n Q := by
  subst hq
  intro p l e s m args below meth c H locs ls C hH hS hL
  have hkd : kd t f = 1 := by unfold kd; rw [cf_ty cf f]; rcases hty with ⟨x, hx⟩ | ⟨x, hx⟩ <;> rw [hx]
  have hv1 := hv hH.2.2.2
  have hv0 : v ≠ 0 := fun e => by rw [e, hH.2.1] at hv1; cases hv1
  refine c_put cf C.1 C.2.1 C.2.2.2.2.2.2.2.1 C.2.2.2.2.1 C.2.2.2.2.2.2.2.2.1 hH hS (hs hH.2.2.2) hf hl (hfin.imp id (fun z => ⟨z.1, C.2.2.2.2.2.2.1.trans z.2.1, z.2.2⟩)) ?_ ?_ (h' := sr h a f v) rfl rfl (fun b t n hb => gr_sr_ent b t n hb) (fun j _ => sv_sr hkd hv0 j) (fun _ ht b t' n' hb k' hk' hkd' => ?_) hd
    (fun H1 locs1 g1 g2 => kk p l e s m args below meth c H1 locs1 ls C g1 g2 hL)
  · rcases hty with ⟨x, hx⟩ | ⟨x, hx⟩ <;> rw [hx] <;> rfl
  · rcases hty with ⟨x, hx⟩ | ⟨x, hx⟩ <;> rw [hx] <;> rfl
  · show gs h (up2 h.2.2.1 a f v b k') = some (tgt t' k')
    by_cases hba : b = a ∧ k' = f
    · obtain ⟨rfl, rfl⟩ := hba
      rw [up2_same]
      have := (hs hH.2.2.2).symm.trans hb
      cases this
      exact hv1
    · rw [show up2 h.2.2.1 a f v b k' = gr h b k' from if_neg hba]
      exact ht b t' n' hb k' hk' hkd'
theorem x_iald {i : Int32} (j q : Nat) (hd : decode μ.2.1 pc = .ok (.iaload, 1)) (hq : pc + 1 = q) (hs : SH ω h a 10 nn) (hin : vp_in i nn) (hj : i.toNatClampNeg = j)
    (kk : Ex ω μ q L (.int (gi h a j) :: st) h k n Q) : Ex ω μ pc L (.int i :: .ref a :: st) h k n Q := by
  subst hq; subst hj
  intro p l e s m args below meth c H locs ls C hH hS hL
  exact c_iald C.1 C.2.1 C.2.2.2.2.2.2.2.2.1 hH (hs hH.2.2.2) hin hd (kk p l e s m args below meth c H locs ls C hH hS hL)
theorem x_cald {i : Int32} (j q : Nat) (hd : decode μ.2.1 pc = .ok (.caload, 1)) (hq : pc + 1 = q) (hs : SH ω h a 11 nn) (hin : vp_in i nn) (hj : i.toNatClampNeg = j)
    (kk : Ex ω μ q L (.int (gi h a j) :: st) h k n Q) : Ex ω μ pc L (.int i :: .ref a :: st) h k n Q := by
  subst hq; subst hj
  intro p l e s m args below meth c H locs ls C hH hS hL
  exact c_cald C.1 C.2.1 C.2.2.2.2.2.2.2.2.1 hH (hs hH.2.2.2) hin hd (kk p l e s m args below meth c H locs ls C hH hS hL)
theorem x_iast {i x : Int32} (j q : Nat) (hd : decode μ.2.1 pc = .ok (.iastore, 1)) (hq : pc + 1 = q) (hs : SH ω h a 10 nn) (hin : vp_in i nn) (hj : i.toNatClampNeg = j)
    (kk : Ex ω μ q L st (si h a j x) k n Q) : Ex ω μ pc L (.int x :: .int i :: .ref a :: st) h k n Q := by
  subst hq; subst hj
  intro p l e s m args below meth c H locs ls C hH hS hL
  exact c_iast C.1 C.2.1 C.2.2.2.2.2.2.2.2.1 hH hS (hs hH.2.2.2) hin hd (fun H1 locs1 g1 g2 => kk p l e s m args below meth c H1 locs1 ls C g1 g2 hL)
theorem x_cast {i x : Int32} (j q : Nat) (hd : decode μ.2.1 pc = .ok (.castore, 1)) (hq : pc + 1 = q) (hs : SH ω h a 11 nn) (hin : vp_in i nn) (hj : i.toNatClampNeg = j)
    (kk : Ex ω μ q L st (si h a j (vp_nar .char x)) k n Q) : Ex ω μ pc L (.int x :: .int i :: .ref a :: st) h k n Q := by
  subst hq; subst hj
  intro p l e s m args below meth c H locs ls C hH hS hL
  exact c_cast C.1 C.2.1 C.2.2.2.2.2.2.2.2.1 hH hS (hs hH.2.2.2) hin hd (fun H1 locs1 g1 g2 => kk p l e s m args below meth c H1 locs1 ls C g1 g2 hL)
theorem x_alen (q : Nat) (hd : decode μ.2.1 pc = .ok (.arraylength, 1)) (hq : pc + 1 = q) (hs : SH ω h a 10 nn)
    (kk : Ex ω μ q L (.int (nI nn) :: st) h k n Q) : Ex ω μ pc L (.ref a :: st) h k n Q := by
  subst hq
  intro p l e s m args below meth c H locs ls C hH hS hL
  exact c_alen C.1 C.2.1 C.2.2.2.2.2.2.2.2.1 hH (hs hH.2.2.2) hd (kk p l e s m args below meth c H locs ls C hH hS hL)
theorem x_aald {i0 ci : Nat} {r : vw_C} (ak : arK t i0 ci r) {i : Int32} (j q : Nat) (hw : ω.2.2.2.1 = true) (hd : decode μ.2.1 pc = .ok (.aaload, 1)) (hq : pc + 1 = q) (hs : SH ω h a t nn) (hin : vp_in i nn) (hj : i.toNatClampNeg = j)
    (kk : Ex ω μ q L (.ref (gr h a j) :: st) h k n Q) : Ex ω μ pc L (.int i :: .ref a :: st) h k n Q := by
  subst hq; subst hj
  intro p l e s m args below meth c H locs ls C hH hS hL
  refine c_aald ak C.1 C.2.1 C.2.2.2.2.2.2.2.2.1 hH (hs hH.2.2.2) hin (fun e => ?_) hd (kk p l e s m args below meth c H locs ls C hH hS hL)
  have := hH.2.2.2 hw a t nn (hs hH.2.2.2) _ (vp_lt hin) (ak.2.2.2.1 _)
  rw [e, hH.2.1] at this
  cases this
theorem x_aast {i0 ci : Nat} {r : vw_C} (ak : arK t i0 ci r) {i : Int32} {v : Nat} (j q : Nat) (hd : decode μ.2.1 pc = .ok (.aastore, 1)) (hq : pc + 1 = q) (hs : SH ω h a t nn) (hin : vp_in i nn) (hj : i.toNatClampNeg = j) {tv nv : Nat} (hv : SH ω h v tv nv) (htg : ∀ k, tgt t k = (tv, nv))
    (kk : Ex ω μ q L st (sr h a j v) k n Q) : Ex ω μ pc L (.ref v :: .int i :: .ref a :: st) h k n Q := by
  subst hq; subst hj
  intro p l e s m args below meth c H locs ls C hH hS hL
  exact c_aast ak C.1 C.2.1 C.2.2.2.2.2.2.2.2.1 hH hS (hs hH.2.2.2) hin (fun k => by rw [htg]; exact hv hH.2.2.2) hd (fun H1 locs1 g1 g2 => kk p l e s m args below meth c H1 locs1 ls C g1 g2 hL)
end EXH
/-- an index that is written out -/
theorem vp_c {i : Int32} {n : Nat} (h : (!decide (i < 0) && decide (i.toNatClampNeg < n)) = true) : vp_in i n := by
  simp only [Bool.and_eq_true, Bool.not_eq_true', decide_eq_false_iff_not, decide_eq_true_eq] at h
  rintro (q | q)
  · exact h.1 q
  · omega
section EXK
variable {ω : Om} {μ : MR} {pc : Nat} {L : List (Option Value)} {st : List Value} {h : AH} {k n : Nat} {Q : Option Value → AH → Prop}
theorem x_ldc {idx : Nat} (v : Int32) (q : Nat) (hd : decode μ.2.1 pc = .ok (.ldc idx, 2)) (hq : pc + 2 = q) (hl : Cond.constant μ.1.cls idx v ∈ wsL_law)
    (kk : Ex ω μ q L (.int v :: st) h k n Q) : Ex ω μ pc L st h k n Q := by
  subst hq
  intro p l e s m args below meth c H locs ls C hH hS hL
  exact lv_ldc C.1 C.2.1 C.2.2.2.2.1 (C.2.2.2.2.2.2.2.1 _ hl) hd (kk p l e s m args below meth c H locs ls C hH hS hL)
theorem x_ldc2 {idx : Nat} (v : Int64) (q : Nat) (hd : decode μ.2.1 pc = .ok (.ldc2_w idx, 3)) (hq : pc + 3 = q) (hl : Cond.constantLong μ.1.cls idx v ∈ wsL_law)
    (kk : Ex ω μ q L (.long v :: st) h k n Q) : Ex ω μ pc L st h k n Q := by
  subst hq
  intro p l e s m args below meth c H locs ls C hH hS hL
  exact lv_ldc2 C.1 C.2.1 C.2.2.2.2.1 (C.2.2.2.2.2.2.2.1 _ hl) hd (kk p l e s m args below meth c H locs ls C hH hS hL)
theorem x_ldcS {idx : Nat} (i q : Nat) (hd : decode μ.2.1 pc = .ok (.ldc idx, 2)) (hq : pc + 2 = q) (hc : μ.1.cls = "PalletWrapper") (hi : i < 5) (hx : idx = 229 + 2 * i)
    (kk : Ex ω μ q L (.ref (ω.2.2.2.2.1 i) :: st) h k n Q) : Ex ω μ pc L st h k n Q := by
  subst hq; subst hx
  intro p l e s m args below meth c H locs ls C hH hS hL
  exact va_ldcS C.1 C.2.1 (own := "PalletWrapper") (by rw [← hc]; exact C.2.2.2.2.1) (C.2.2.2.2.2.2.2.2.2.1.2.2.2.1 i hi) hd (kk p l e s m args below meth c H locs ls C hH hS hL)
def mwOk (own : String) (idx : Nat) (y : MethodName) (cc : ByteArray) : Prop := Cond.methodLink own idx y ∈ wsL_law ∧ Cond.static y ∈ wsL_law ∧ Cond.initialized "java/lang/Math" ∈ wsL_law ∧ Cond.code y cc 2 (some .int) ∈ wsL_law
theorem x_mmax {idx : Nat} {x y : Int32} (q : Nat) (hd : decode μ.2.1 pc = .ok (.invokestatic idx, 3)) (hq : pc + 3 = q) (hm : mwOk μ.1.cls idx Lib.Math.max.name Lib.Math.max.code) (hf : 1 ≤ μ.2.2.2.2.frames) (hlo : (st.map fun v => v.category).sum + 13 ≤ μ.2.2.2.2.locals) (hk : k ≤ μ.2.2.2.2.cells) (hn : n ≤ μ.2.2.2.2.slots)
    (kk : Ex ω μ q L (.int (if x < y then y else x) :: st) h k n Q) : Ex ω μ pc L (.int y :: .int x :: st) h k n Q := by
  subst hq
  intro p l e s m args below meth c H locs ls C hH hS hL
  exact va_mmax C.1 C.2.1 (C.2.2.1.trans hL.1.symm) C.2.2.2.2.1 (C.2.2.2.2.2.2.2.1 _ hm.1) (C.2.2.2.2.2.2.2.1 _ hm.2.1) (C.2.2.2.2.2.2.2.1 _ hm.2.2.1) (C.2.2.2.2.2.2.2.1 _ hm.2.2.2) hf hlo hk hn hd (kk p l e s m args below meth c H locs ls C hH hS hL)
theorem x_mmin {idx : Nat} {x y : Int32} (q : Nat) (hd : decode μ.2.1 pc = .ok (.invokestatic idx, 3)) (hq : pc + 3 = q) (hm : mwOk μ.1.cls idx Lib.Math.min.name Lib.Math.min.code) (hf : 1 ≤ μ.2.2.2.2.frames) (hlo : (st.map fun v => v.category).sum + 13 ≤ μ.2.2.2.2.locals) (hk : k ≤ μ.2.2.2.2.cells) (hn : n ≤ μ.2.2.2.2.slots)
    (kk : Ex ω μ q L (.int (if y < x then y else x) :: st) h k n Q) : Ex ω μ pc L (.int y :: .int x :: st) h k n Q := by
  subst hq
  intro p l e s m args below meth c H locs ls C hH hS hL
  exact va_mmin C.1 C.2.1 (C.2.2.1.trans hL.1.symm) C.2.2.2.2.1 (C.2.2.2.2.2.2.2.1 _ hm.1) (C.2.2.2.2.2.2.2.1 _ hm.2.1) (C.2.2.2.2.2.2.2.1 _ hm.2.2.1) (C.2.2.2.2.2.2.2.1 _ hm.2.2.2) hf hlo hk hn hd (kk p l e s m args below meth c H locs ls C hH hS hL)
theorem x_getsT5 {idx : Nat} (q : Nat) (hd : decode μ.2.1 pc = .ok (.getstatic idx, 3)) (hq : pc + 3 = q) (hc : μ.1.cls = "PalletWrapper$Text" ∧ idx = 75)
    (kk : Ex ω μ q L (.ref (ω.2.2.2.2.1 5) :: st) h k n Q) : Ex ω μ pc L st h k n Q := by
  subst hq
  obtain ⟨hc, rfl⟩ := hc
  intro p l e s m args below meth c H locs ls C hH hS hL
  exact va_getsN C.1 C.2.1 C.2.2.2.2.2.2.2.2.2.1.1.1 hS C.2.2.2.2.1 (by rw [hc]; exact va_Nw.use rfl (C.2.2.2.2.2.2.2.2.2.1.2.2.2.2.2.2.2.1 ("PalletWrapper$Text", 75, "PalletWrapper", "LEAST_AMOUNT", "[I", "PalletWrapper") List.mem_cons_self)) (fun _ h9 => h9) hd (kk p l e s m args below meth c H locs ls C hH hS hL)
theorem x_getsT6 {idx : Nat} (q : Nat) (hd : decode μ.2.1 pc = .ok (.getstatic idx, 3)) (hq : pc + 3 = q) (hc : μ.1.cls = "PalletWrapper$Text" ∧ idx = 78)
    (kk : Ex ω μ q L (.ref (ω.2.2.2.2.1 6) :: st) h k n Q) : Ex ω μ pc L st h k n Q := by
  subst hq
  obtain ⟨hc, rfl⟩ := hc
  intro p l e s m args below meth c H locs ls C hH hS hL
  exact va_getsN C.1 C.2.1 C.2.2.2.2.2.2.2.2.2.1.2.1.1 hS C.2.2.2.2.1 (by rw [hc]; exact va_Nw.use rfl (C.2.2.2.2.2.2.2.2.2.1.2.2.2.2.2.2.2.1 ("PalletWrapper$Text", 78, "PalletWrapper", "MOST_AMOUNT", "[I", "PalletWrapper") (List.mem_cons_of_mem _ List.mem_cons_self))) (fun _ h9 => h9) hd (kk p l e s m args below meth c H locs ls C hH hS hL)
/-- reading a static row -/
theorem c_ialT {p : Program} {l : Launch} {e : Env} {R : Room} {s : State} {m : MethodId} {args : Array Value} {below : List Frame} {meth : Method} {c : Code} {H : Heap} {locs : List Loc} {cells slots : Nat} {Q : State → Prop} {cc : ByteArray} {ls : Array Slot} {rest : List Value} {a N : Nat} {f : Nat → Int32} {A : Nat → Prop} {ty : FieldType}
    (hx : p.tables.exec = Jvm.exec) (hb : c.code = cc) (hT : va_T .int a N (fun j => .int (f j)) A s s.heap) (hS : va_S A s.heap H locs) {i : Int32} (hin : vp_in i N) (hd : decode cc pc = .ok (.iaload, 1))
    (kk : W p l e R s m args below meth c H locs cells slots Q (F0 m (pc + 1) ls (.int (f i.toNatClampNeg) :: rest))) : W p l e R s m args below meth c H locs cells slots Q (F0 m pc ls (.int i :: .ref a :: rest)) := by
  obtain ⟨cell, h1, h2, h3, h4, h5, h6, h7⟩ := hT.kept hS.2.1
  refine W.iald hx hb h1 h2 h3 ?_ (h6 _ (vp_lt hin)) rfl rfl hd kk
  rintro (q | q)
  · exact hin (Or.inl q)
  · exact hin (Or.inr (Nat.le_trans h4 q))
theorem x_ialT5 {i : Int32} (j q : Nat) (hd : decode μ.2.1 pc = .ok (.iaload, 1)) (hq : pc + 1 = q) (hin : vp_in i 5) (hj : i.toNatClampNeg = j)
    (kk : Ex ω μ q L (.int (leastF j) :: st) h k n Q) : Ex ω μ pc L (.int i :: .ref (ω.2.2.2.2.1 5) :: st) h k n Q := by
  subst hq; subst hj
  intro p l e s m args below meth c H locs ls C hH hS hL
  exact c_ialT (ty := .int) C.1 C.2.1 C.2.2.2.2.2.2.2.2.2.1.1.2 hS hin hd (kk p l e s m args below meth c H locs ls C hH hS hL)
theorem x_ialT6 {i : Int32} (j q : Nat) (hd : decode μ.2.1 pc = .ok (.iaload, 1)) (hq : pc + 1 = q) (hin : vp_in i 5) (hj : i.toNatClampNeg = j)
    (kk : Ex ω μ q L (.int (mostF j) :: st) h k n Q) : Ex ω μ pc L (.int i :: .ref (ω.2.2.2.2.1 6) :: st) h k n Q := by
  subst hq; subst hj
  intro p l e s m args below meth c H locs ls C hH hS hL
  exact c_ialT (ty := .int) C.1 C.2.1 C.2.2.2.2.2.2.2.2.2.1.2.1.2 hS hin hd (kk p l e s m args below meth c H locs ls C hH hS hL)
/-- a switch over 0 .. hi -/
theorem x_tsw (hi : Nat) {dflt hiI : Int} {offs : Array Int} {len : Nat} {x : Int32} (tg : List Nat) (td : Nat) (hd : decode μ.2.1 pc = .ok (.tableswitch dflt 0 hiI offs, len)) (hI : hiI = (hi : Int)) (htd : (pc : Int) + dflt = (td : Int)) (hsz : tg.length = hi + 1) (htg : offs.toList = tg.map (fun t : Nat => (t : Int) - (pc : Int))) (hhi : hi < 1000)
    (kd : (¬ (0 ≤ x ∧ x ≤ nI hi)) → Ex ω μ td L st h k n Q) (kc : ∀ j : Nat, (hj : j < tg.length) → x = nI j → Ex ω μ tg[j] L st h k n Q) : Ex ω μ pc L (.int x :: st) h k n Q := by
  subst hI
  have hN : (nI hi).toInt = (hi : Int) := nI_toInt (by omega)
  intro p l e s m args below meth c H locs ls C hH hS hL
  by_cases h1 : 0 ≤ x ∧ x ≤ nI hi
  · obtain ⟨j, hj, rfl⟩ := nI_of2 (M := nI hi) (n := hi) hN (Int32.not_lt.mpr h1.1) h1.2
    have e1 : (nI j).toInt = (j : Int) := nI_toInt (by omega)
    have hjl : j < tg.length := by omega
    have ho : offs[((nI j).toInt - 0).toNat]? = some ((tg[j] : Int) - (pc : Int)) := by
      rw [e1, show ((j : Int) - 0).toNat = j by omega, ← Array.getElem?_toList, htg]
      simp [hjl]
    exact lv_tableIn (tgt := tg[j]) C.1 C.2.1 hd (by omega) (by omega) ho (by omega) (kc j hjl rfl p l e s m args below meth c H locs ls C hH hS hL)
  · refine lv_tableOut C.1 C.2.1 hd ?_ htd (kd h1 p l e s m args below meth c H locs ls C hH hS hL)
    have g0 : (0 : Int32).toInt = 0 := rfl
    rw [Int32.le_iff_toInt_le, Int32.le_iff_toInt_le, hN, g0] at h1
    omega
end EXK
