/-! the rules that make objects -/
def al (h : AH) (t N : Nat) : AH := (fun b => if b = gt h then some (t, N) else gs h b, fun b => if b = gt h then (fun _ => 0) else gi h b, fun b => if b = gt h then (fun _ => 0) else gr h b, fun b => if b = gt h then (fun _ => 0) else gl h b, gt h + 1)
section AL
variable (h : AH) (t N : Nat)
theorem gt_al : gt (al h t N) = gt h + 1 := rfl
theorem gs_al : gs (al h t N) (gt h) = some (t, N) := if_pos rfl
theorem gi_al : gi (al h t N) (gt h) = fun _ => 0 := if_pos rfl
theorem gr_al : gr (al h t N) (gt h) = fun _ => 0 := if_pos rfl
theorem gl_al : gl (al h t N) (gt h) = fun _ => 0 := if_pos rfl
theorem gs_al_ne {b : Nat} (q : b ≠ gt h) : gs (al h t N) b = gs h b := if_neg q
theorem gi_al_ne {b : Nat} (q : b ≠ gt h) : gi (al h t N) b = gi h b := if_neg q
theorem gr_al_ne {b : Nat} (q : b ≠ gt h) : gr (al h t N) b = gr h b := if_neg q
theorem gl_al_ne {b : Nat} (q : b ≠ gt h) : gl (al h t N) b = gl h b := if_neg q
end AL
theorem hp_al {ω : Om} {h : AH} {H H1 : Heap} {t N : Nat} (hH : hp ω h H) (hw : ω.2.2.2.1 = false) (h0 : 0 < gt h) (hb : ω.2.2.1 ≤ gt h) (z1 : H1.size = gt h + 1) (o1 : ∀ q, q < gt h → H1[q]? = H[q]?) (hN : t < 10 → N = nFl t) (e : va_at ω.1 vwCl (gt h, ent ω (al h t N) (gt h) t N) H1) : hp ω (al h t N) H1 := by
  obtain ⟨h1, h2, h3, h4⟩ := hH
  refine ⟨z1, by rw [gs_al_ne _ _ _ (by omega)]; exact h2, fun a t' n' ha => ?_, fun q => by rw [hw] at q; cases q⟩
  by_cases z : a = gt h
  · subst z
    rw [gs_al] at ha
    obtain ⟨rfl, rfl⟩ := Prod.mk.inj (Option.some.inj ha)
    exact ⟨hb, hN, e⟩
  · rw [gs_al_ne _ _ _ z] at ha
    obtain ⟨g1, g2, g3⟩ := h3 a t' n' ha
    have ee : ent ω (al h t N) a t' n' = ent ω h a t' n' := by
      have x1 := gi_al_ne h t N z
      have x2 := gr_al_ne h t N z
      have x3 := gl_al_ne h t N z
      have x4 : sv (al h t N) a t' = sv h a t' := by
        funext j
        unfold sv
        rw [x1, x2, x3]
      unfold ent
      rw [x4, x1, x2]
    refine ⟨g1, g2, ?_⟩
    rw [ee]
    exact g3.kept (o1 a (by rw [← h1]; exact g3.lt))
section NEW
variable {ω : Om} {μ : MR} {pc : Nat} {L : List (Option Value)} {st : List Value} {h : AH} {k n : Nat} {Q : Option Value → AH → Prop}
theorem x_new {t N index : Nat} {C : String} {T : u_T} {ty : Nat → FieldType} (cf : CF t C T N ty) (q : Nat) (hw : ω.2.2.2.1 = false) (hd : decode μ.2.1 pc = .ok (.new index, 3)) (hq : pc + 3 = q) (hl : Cond.classLink μ.1.cls index C ∈ wsL_law ∧ Cond.instantiable C N ∈ wsL_law ∧ Cond.initialized C ∈ wsL_law) (h0 : 0 < gt h) (dv : ∀ j, j < N → defaultValue (ty j) = (if kd t j = 0 then .int 0 else if kd t j = 1 then .null else .long 0)) (hk : k + 1 ≤ μ.2.2.2.2.cells) (hs : n + N ≤ μ.2.2.2.2.slots)
    (kk : Ex ω μ q L (.ref (gt h) :: st) (al h t N) (k + 1) (n + N) Q) : Ex ω μ pc L st h k n Q := by
  subst hq
  intro p l e s m args below meth c H locs ls C0 hH hS hL
  obtain ⟨c1, c2, c3, c4, c5, c6, c7⟩ := cf
  obtain ⟨cx1, cx2, cx3, cx4, cx5, cx6, cx7, cx8, cx9, cx10, cx11⟩ := id C0
  have hKn := cx9.1 t _ c1
  have hsz := hH.1
  refine W.newcK cx1 cx2 cx5 (cx8 _ hl.1) (cx8 _ hl.2.1) (cx8 _ hl.2.2) rfl hd hk hs hKn.2.1 hH.1 fun H1 kC hkC e1 z1 o1 => ?_
  have o1' : ∀ q, q < gt h → H1[q]? = H[q]? := o1
  refine kk p l e s m args below meth c H1 locs ls C0 (hp_al hH hw h0 (by rw [← hsz]; exact Nat.le_trans cx11 hS.1) z1 o1' (fun _ => c6.symm) ?_) ⟨Nat.le_trans hS.1 (by omega), fun x h1 h2 => (o1' x (by rw [← hsz]; exact Nat.lt_of_lt_of_le h1 hS.1)).trans (hS.2.1 x h1 h2), hS.2.2⟩ hL
  rw [ent_obj ω _ _ _ c5]
  refine ⟨_, c1, (u_born ty cx8 c2 hKn hkC e1 c3).to (fun j hj => ?_)⟩
  rw [vp_fs _ _ _ _ hj, dv j hj]
  unfold sv
  rw [gi_al, gr_al, gl_al]
  rfl
theorem x_newI {N : Nat} {x : Int32} (q : Nat) (hw : ω.2.2.2.1 = false) (hd : decode μ.2.1 pc = .ok (.newarray .int, 2)) (hq : pc + 2 = q) (h0 : 0 < gt h) (hx : x = nI N) (hN : N < 10000) (hk : k + 1 ≤ μ.2.2.2.2.cells) (hs : n + N ≤ μ.2.2.2.2.slots)
    (kk : Ex ω μ q L (.ref (gt h) :: st) (al h 10 N) (k + 1) (n + N) Q) : Ex ω μ pc L (.int x :: st) h k n Q := by
  subst hq
  subst hx
  intro p l e s m args below meth c H locs ls C0 hH hS hL
  obtain ⟨cx1, cx2, cx3, cx4, cx5, cx6, cx7, cx8, cx9, cx10, cx11⟩ := id C0
  have hsz := hH.1
  refine va_newaK (atype := .int) cx1 cx2 (cx8 _ wd0) rfl hd rfl (nI_pos (by omega)) (nI_clamp (by omega)) (by show N * 4 ≤ 536870912; omega) hk hs hH.1 fun H1 cA e1 z1 o1 hAr hNm => ?_
  have o1' : ∀ q, q < gt h → H1[q]? = H[q]? := o1
  have hc : cA = ω.2.1 10 := by
    have := (cx9.2 0 _ rfl).2
    exact Option.some.inj (hNm.symm.trans this)
  refine kk p l e s m args below meth c H1 locs ls C0 (hp_al hH hw h0 (by rw [← hsz]; exact Nat.le_trans cx11 hS.1) z1 o1' (fun z => absurd z (by decide)) ?_) ⟨Nat.le_trans hS.1 (by omega), fun x h1 h2 => (o1' x (by rw [← hsz]; exact Nat.lt_of_lt_of_le h1 hS.1)).trans (hS.2.1 x h1 h2), hS.2.2⟩ hL
  rw [ent_int ω _ _ N (by decide) (by decide)]
  show H1[gt h]? = some (vp_cell _ _)
  rw [e1, vp_cell_i, hc, gi_al]
  rfl
theorem x_newC {N : Nat} {x : Int32} (q : Nat) (hw : ω.2.2.2.1 = false) (hd : decode μ.2.1 pc = .ok (.newarray .char, 2)) (hq : pc + 2 = q) (h0 : 0 < gt h) (hx : x = nI N) (hN : N < 10000) (hk : k + 1 ≤ μ.2.2.2.2.cells) (hs : n + N ≤ μ.2.2.2.2.slots)
    (kk : Ex ω μ q L (.ref (gt h) :: st) (al h 11 N) (k + 1) (n + N) Q) : Ex ω μ pc L (.int x :: st) h k n Q := by
  subst hq
  subst hx
  intro p l e s m args below meth c H locs ls C0 hH hS hL
  obtain ⟨cx1, cx2, cx3, cx4, cx5, cx6, cx7, cx8, cx9, cx10, cx11⟩ := id C0
  have hsz := hH.1
  refine va_newaK (atype := .char) cx1 cx2 (cx8 _ wd82) rfl hd rfl (nI_pos (by omega)) (nI_clamp (by omega)) (by show N * 2 ≤ 536870912; omega) hk hs hH.1 fun H1 cA e1 z1 o1 hAr hNm => ?_
  have o1' : ∀ q, q < gt h → H1[q]? = H[q]? := o1
  have hc : cA = ω.2.1 11 := by
    have := (cx9.2 1 _ rfl).2
    exact Option.some.inj (hNm.symm.trans this)
  refine kk p l e s m args below meth c H1 locs ls C0 (hp_al hH hw h0 (by rw [← hsz]; exact Nat.le_trans cx11 hS.1) z1 o1' (fun z => absurd z (by decide)) ?_) ⟨Nat.le_trans hS.1 (by omega), fun x h1 h2 => (o1' x (by rw [← hsz]; exact Nat.lt_of_lt_of_le h1 hS.1)).trans (hS.2.1 x h1 h2), hS.2.2⟩ hL
  rw [ent_int ω _ _ N (by decide) (by decide)]
  show H1[gt h]? = some (vp_cell _ _)
  rw [e1, vp_cell_i, hc, gi_al]
  rfl
theorem x_anew {t i0 ci index N : Nat} {r : vw_C} (ak : arK t i0 ci r) (q : Nat) {x : Int32} (hw : ω.2.2.2.1 = false) (hd : decode μ.2.1 pc = .ok (.anewarray index, 3)) (hq : pc + 3 = q) (hl : Cond.classLink μ.1.cls index r.1 ∈ wsL_law) (hao : r.1 ∈ aoL) (h0 : 0 < gt h) (hx : x = nI N) (hN : N < 10000) (hk : k + 1 ≤ μ.2.2.2.2.cells) (hs : n + N ≤ μ.2.2.2.2.slots)
    (kk : Ex ω μ q L (.ref (gt h) :: st) (al h t N) (k + 1) (n + N) Q) : Ex ω μ pc L (.int x :: st) h k n Q := by
  subst hq
  subst hx
  intro p l e s m args below meth c H locs ls C0 hH hS hL
  obtain ⟨cx1, cx2, cx3, cx4, cx5, cx6, cx7, cx8, cx9, cx10, cx11⟩ := id C0
  have hsz := hH.1
  have hcl : (nI N).toNatClampNeg = N := nI_clamp (by omega)
  refine W.anew cx1 cx2 cx5 (cx8 _ hl) (va_AO.use (cx10.2.2.2.2.2.2.1.2 _ hao)) rfl hd rfl (nI_pos (by omega)) (by rw [hcl]; omega) hk (by rw [hcl]; exact hs) fun cA kA comp f1 f2 f3 f4 => ?_
  rw [hcl, hsz]
  generalize hH1 : H.push ({ cls := cA, slots := Array.replicate N .null, vm := .none } : Cell) = H1
  have z1 : H1.size = gt h + 1 := by rw [← hH1, Array.size_push, hsz]
  have e1 : H1[gt h]? = some (arrV cA N (fun _ => .null)) := by rw [← hH1, ← hsz, Array.getElem?_push_size, ← arrV_new]
  have o1 : ∀ q : Nat, q < gt h → H1[q]? = H[q]? := fun q hq => by rw [← hH1, Array.getElem?_push, if_neg (by omega)]
  obtain ⟨kA2, comp2, r1, r2, r3, r4⟩ := (cx9.2 i0 _ (ak.2.1 ω)).2
  have hc : cA = ω.2.1 t := Option.some.inj (f1.symm.trans r4)
  refine kk p l e s m args below meth c H1 locs ls C0 (hp_al hH hw h0 (by rw [← hsz]; exact Nat.le_trans cx11 hS.1) z1 o1 (fun z => absurd z (by have := ak.1; omega)) ?_) ⟨Nat.le_trans hS.1 (by omega), fun x h1 h2 => (o1 x (by rw [← hsz]; exact Nat.lt_of_lt_of_le h1 hS.1)).trans (hS.2.1 x h1 h2), hS.2.2⟩ hL
  rw [ent_ref ω _ _ N ak.1]
  show H1[gt h]? = some (vp_cell _ _)
  rw [e1, vp_cell_q, hc, gr_al]
  rfl
theorem x_objInit {idx a : Nat} (q : Nat) (hd : decode μ.2.1 pc = .ok (.invokespecial idx, 3)) (hq : pc + 3 = q) (hl : Cond.methodLink μ.1.cls idx objectInit ∈ wsL_law) (hf : 1 ≤ μ.2.2.2.2.frames) (hlo : (st.map fun v => v.category).sum + 12 ≤ μ.2.2.2.2.locals)
    (kk : Ex ω μ q L st h k n Q) : Ex ω μ pc L (.ref a :: st) h k n Q := by
  subst hq
  intro p l e s m args below meth c H locs ls C0 hH hS hL
  obtain ⟨cx1, cx2, cx3, cx4, cx5, cx6, cx7, cx8, cx9, cx10, cx11⟩ := id C0
  exact W.objInit cx1 cx2 cx5 (cx8 _ hl) (cx8 _ wd8) (cx8 _ wd9) rfl (hL.1.trans cx3.symm) rfl hd hf (by show 2 * 0 + _ + 12 ≤ _; omega) (kk p l e s m args below meth c H locs ls C0 hH hS hL)
end NEW
