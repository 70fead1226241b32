/-! the rules of Ex that read and write the heap -/
def CF (t : Nat) (C : String) (T : u_T) (N : Nat) (ty : Nat → FieldType) : Prop := vwCl[t]? = some (C, T, N) ∧ (∀ w ∈ u_ws C T N, w ∈ wsL_law) ∧ (∀ k, k < N → parseFieldDescriptor (T k).2.2.1 = some (ty k)) ∧ (∀ a, a < N → ∀ b, b < N → a ≠ b → (T a).2.1 ≠ (T b).2.1) ∧ t < 10 ∧ nFl t = N ∧ ftab t = ty
theorem cf0 : CF 0 RX0 TX0 7 tyX0 := ⟨rfl, inlX0, tyX0_ok, nmX0, by decide, rfl, rfl⟩
theorem cf1 : CF 1 RX1 TX1 6 tyX1 := ⟨rfl, inlX1, tyX1_ok, nmX1, by decide, rfl, rfl⟩
theorem cf2 : CF 2 RX2 TX2 3 tyX2 := ⟨rfl, inlX2, tyX2_ok, nmX2, by decide, rfl, rfl⟩
theorem cf3 : CF 3 RX3 TX3 15 tyX3 := ⟨rfl, inlX3, tyX3_ok, nmX3, by decide, rfl, rfl⟩
theorem cf4 : CF 4 RX4 TX4 6 tyX4 := ⟨rfl, inlX4, tyX4_ok, nmX4, by decide, rfl, rfl⟩
theorem cf5 : CF 5 RX5 TX5 11 tyX5 := ⟨rfl, inlX5, tyX5_ok, nmX5, by decide, rfl, rfl⟩
theorem cf6 : CF 6 RX6 TX6 12 tyX6 := ⟨rfl, inlX6, tyX6_ok, nmX6, by decide, rfl, rfl⟩
theorem cf7 : CF 7 RX7 TX7 2 tyX7 := ⟨rfl, inlX7, tyX7_ok, nmX7, by decide, rfl, rfl⟩
theorem cf8 : CF 8 RX8 TX8 8 tyX8 := ⟨rfl, inlX8, tyX8_ok, nmX8, by decide, rfl, rfl⟩
theorem ent_obj (ω : Om) (h : AH) (a : Nat) {t : Nat} (n : Nat) (ht : t < 10) : ent ω h a t n = .inr (t, (List.range n).map (sv h a t)) := if_pos ht
theorem ent_int (ω : Om) (h : AH) (a : Nat) {t : Nat} (n : Nat) (ht : ¬ t < 10) (ht2 : t < 12) : ent ω h a t n = .inl (ω.2.1 t, n, .inl (gi h a)) := by
  unfold ent; rw [if_neg ht, if_pos ht2]
theorem ent_ref (ω : Om) (h : AH) (a : Nat) {t : Nat} (n : Nat) (ht : ¬ t < 12) : ent ω h a t n = .inl (ω.2.1 t, n, .inr (.inr (.inr (.inr (fun k => if gr h a k = 0 then none else some (gr h a k)))))) := by
  unfold ent; rw [if_neg (by omega), if_neg ht]
theorem fs_at (h : AH) (a t n : Nat) {k : Nat} (hk : k < n) : ((List.range n).map (sv h a t))[k]? = some (sv h a t k) := by
  simp [hk]
theorem vp_fs (h : AH) (a t n : Nat) {k : Nat} (hk : k < n) : vp_V ((List.range n).map (sv h a t)) k = sv h a t k := by
  simp [vp_V, hk]
/-- where the heap is as told but for one cell, and that cell is as told -/
theorem hp_upd {ω : Om} {h h' : AH} {H H' : Heap} {a : Nat} (hH : hp ω h H) (hs : gs h' = gs h) (ht : gt h' = gt h) (hz : H'.size = H.size) (ho : ∀ q, q ≠ a → H'[q]? = H[q]?)
    (he : ∀ b t n, b ≠ a → ent ω h' b t n = ent ω h b t n) (ha : ∀ t n, gs h a = some (t, n) → va_at ω.1 vwCl (a, ent ω h' a t n) H') (hty : ω.2.2.2.1 = true → TY h → TY h') : hp ω h' H' := by
  obtain ⟨h1, h2, h3, h4⟩ := hH
  refine ⟨by rw [hz, ht]; exact h1, by rw [hs]; exact h2, fun b t n hb => ?_, fun hw => hty hw (h4 hw)⟩
  rw [hs] at hb
  obtain ⟨g1, g2, g3⟩ := h3 b t n hb
  refine ⟨g1, g2, ?_⟩
  by_cases e : b = a
  · subst e
    exact ha t n hb
  · rw [he b t n e]
    exact g3.kept (ho b e)
section CORE
variable {ω : Om} {p : Program} {l : Launch} {e : Env} {R : Room} {s : State} {m : MethodId} {args : Array Value} {below : List Frame} {meth : Method} {c : Code} {H : Heap} {locs : List Loc} {cells slots : Nat} {Q : State → Prop}
variable {cc : ByteArray} {pc : Nat} {ls : Array Slot} {rest : List Value} {h : AH} {a : Nat} {own : String}
variable {t N k idx : Nat} {C : String} {T : u_T} {ty : Nat → FieldType}
theorem c_get (cf : CF t C T N ty) (hx : p.tables.exec = Jvm.exec) (hb : c.code = cc) (hts : ∀ w ∈ wsL_law, w.before args s = true) (hown : s.vm.findClass own = some m.cls) (hK : va_K ω.1 vwCl (exT ω) s) (hH : hp ω h H) {n : Nat} (hs : gs h a = some (t, n)) (hk : k < N)
    (hl : Cond.fieldLink own idx (T k).1 (T k).2.1 (T k).2.2.1 ∈ wsL_law) (hd : decode cc pc = .ok (.getfield idx, 3))
    (kk : W p l e R s m args below meth c H locs cells slots Q (F0 m (pc + 3) ls (sv h a t k :: rest))) : W p l e R s m args below meth c H locs cells slots Q (F0 m pc ls (.ref a :: rest)) := by
  obtain ⟨c1, c2, c3, c4, c5, c6, c7⟩ := cf
  obtain ⟨-, g2, g3⟩ := hH.2.2.1 a t n hs
  have hn : n = N := (g2 c5).trans c6
  subst hn
  rw [ent_obj ω h a n c5] at g3
  exact va_get (ws := [(a, .inr (t, (List.range n).map (sv h a t)))]) hx hb hts c2 hown hK (fun i q hq => by
    cases i with
    | zero => cases hq; exact g3
    | succ i => simp at hq) 0 rfl c1 k hk (hts _ hl) (fun _ h9 => h9) (fs_at h a t n hk) hd kk
theorem c_put (cf : CF t C T N ty) (hx : p.tables.exec = Jvm.exec) (hb : c.code = cc) (hts : ∀ w ∈ wsL_law, w.before args s = true) (hown : s.vm.findClass own = some m.cls) (hK : va_K ω.1 vwCl (exT ω) s) (hH : hp ω h H) (hS : va_S (exA ω) s.heap H locs) {n : Nat} (hs : gs h a = some (t, n)) (hk : k < N)
    (hl : Cond.fieldLink own idx (T k).1 (T k).2.1 (T k).2.2.1 ∈ wsL_law) (hfin : (T k).2.2.2 = false ∨ ((T k).2.2.2 = true ∧ meth.name = "<init>" ∧ (T k).1 = own)) {v : Value} (hn : narrow (ty k) v = v) (hfit : fits (ty k) v = true) {h' : AH} (e1 : gs h' = gs h) (e2 : gt h' = gt h)
    (e3 : ∀ b t n, b ≠ a → ent ω h' b t n = ent ω h b t n) (e4 : ∀ j, j < N → sv h' a t j = if j = k then v else sv h a t j) (hty : ω.2.2.2.1 = true → TY h → TY h') (hd : decode cc pc = .ok (.putfield idx, 3))
    (kk : ∀ (H1 : Heap) (locs1 : List Loc), hp ω h' H1 → va_S (exA ω) s.heap H1 locs1 → W p l e R s m args below meth c H1 locs1 cells slots Q (F0 m (pc + 3) ls rest)) : W p l e R s m args below meth c H locs cells slots Q (F0 m pc ls (v :: .ref a :: rest)) := by
  obtain ⟨c1, c2, c3, c4, c5, c6, c7⟩ := cf
  obtain ⟨g1, g2, g3⟩ := hH.2.2.1 a t n hs
  have hN : n = N := (g2 c5).trans c6
  subst hN
  rw [ent_obj ω h a n c5] at g3
  have hP : va_P ω.1 vwCl [(a, .inr (t, (List.range n).map (sv h a t)))] H := fun i q hq => by
    cases i with
    | zero => cases hq; exact g3
    | succ i => simp at hq
  have hap := va_apart (own := own) hts c2 ty c3 c4 hK c1
  obtain ⟨r, h1, cell, q1, q2, q3, q4⟩ := g3
  have hr : r = (C, T, n) := Option.some.inj (h1.symm.trans c1)
  subst hr
  obtain ⟨hSl, hfc, kC, hkC, hkind⟩ := hK.1 t _ c1
  obtain ⟨cf, kf, fi, f, hi, hsl⟩ := hSl k hk
  have hst := (u_facts hfc hkC (u_lays hts c2 hk) hi).1
  have fin : ∀ H' : Heap, H'[a]? = some (cell.setSlot f.slot v) → H'.size = H.size → (∀ q, q ≠ a → H'[q]? = H[q]?) → W p l e R s m args below meth c H' (locs ++ [⟨a, f.slot⟩]) cells slots Q (F0 m (pc + 3) ls rest) := by
    intro H' i1 i2 i3
    rw [hsl] at i1 ⊢
    refine kk H' _ (hp_upd hH e1 e2 i2 i3 e3 (fun t' n' hs' => ?_) hty) (hS.put i2 i3 g1)
    cases hs.symm.trans hs'
    rw [ent_obj ω h' a n c5]
    refine ⟨_, c1, t_OB.to (V := updV (vp_V ((List.range n).map (sv h a t))) k v) ⟨_, i1, q2, q3, t_set q4 hap hk v⟩ (fun j hj => ?_)⟩
    rw [vp_fs h' a t n hj, e4 j hj]
    by_cases hjk : j = k
    · subst hjk; simp [updV]
    · simp only [updV, if_neg hjk]; exact vp_fs h a t n hj
  rcases hfin with hfin | ⟨hfin, hin, hdecl⟩
  · have hlay := hts _ (c2 _ (u_in_lay hk))
    unfold u_lay at hlay
    rw [if_neg (by rw [hfin]; decide)] at hlay
    have h6 := u_store hfc hkC hkind hlay hi (c3 k hk) hn hfit
    exact W.putK hx hb (f := f) ⟨hown, hts _ hl, ⟨_, _, _, hi⟩, hst⟩ (by rw [q2]; exact h6) q1 q3 (by rw [hsl]; exact k2_hasslot (q4 k hk)) rfl rfl hd fin
  · have hlay := hts _ (c2 _ (u_in_lay hk))
    unfold u_lay at hlay
    rw [if_pos hfin] at hlay
    have hcf : m.cls = cf := by
      obtain ⟨_, _, c', _, _, _, -, -, hf', -, -, -, hown2, -⟩ := Cond.laysFinal_spec hlay
      have e1 : c' = cf := by have := hi.symm.trans hf'; simp at this; exact this.1.symm
      rw [hdecl] at hown2
      rw [← e1]; exact Option.some.inj (hown.symm.trans hown2)
    have h6 := u_fits hfc hkC hkind (Or.inr hlay) hi (c3 k hk) hn hfit
    exact W.putFinK hx hb hown (hts _ hl) hi hst hcf hin (by rw [q2]; exact h6) q1 q3 (by rw [hsl]; exact k2_hasslot (q4 k hk)) rfl rfl hd fin
theorem exT_at {ω : Om} {U : State} (hK : va_K ω.1 vwCl (exT ω) U) (i : Nat) {q : ClassId × FieldType} (hq : (exT ω)[i]? = some q) : ArrOfT U q.1 q.2 ∧ va_RA U q.1 q.2 := hK.2 i q hq
theorem c_iald (hx : p.tables.exec = Jvm.exec) (hb : c.code = cc) (hK : va_K ω.1 vwCl (exT ω) s) (hH : hp ω h H) {n : Nat} (hs : gs h a = some (10, n)) {i : Int32} (hin : vp_in i n) (hd : decode cc pc = .ok (.iaload, 1))
    (kk : W p l e R s m args below meth c H locs cells slots Q (F0 m (pc + 1) ls (.int (gi h a i.toNatClampNeg) :: rest))) : W p l e R s m args below meth c H locs cells slots Q (F0 m pc ls (.int i :: .ref a :: rest)) := by
  obtain ⟨-, -, g3⟩ := hH.2.2.1 a 10 n hs
  rw [ent_int ω h a n (by decide) (by decide)] at g3
  exact va_iald (ws := [(a, .inl (ω.2.1 10, n, .inl (gi h a)))]) hx hb hK (fun i q hq => by
    cases i with
    | zero => cases hq; exact g3
    | succ i => simp at hq) 0 0 rfl rfl hin hd kk
theorem c_cald (hx : p.tables.exec = Jvm.exec) (hb : c.code = cc) (hK : va_K ω.1 vwCl (exT ω) s) (hH : hp ω h H) {n : Nat} (hs : gs h a = some (11, n)) {i : Int32} (hin : vp_in i n) (hd : decode cc pc = .ok (.caload, 1))
    (kk : W p l e R s m args below meth c H locs cells slots Q (F0 m (pc + 1) ls (.int (gi h a i.toNatClampNeg) :: rest))) : W p l e R s m args below meth c H locs cells slots Q (F0 m pc ls (.int i :: .ref a :: rest)) := by
  obtain ⟨-, -, g3⟩ := hH.2.2.1 a 11 n hs
  rw [ent_int ω h a n (by decide) (by decide)] at g3
  exact va_cald (ws := [(a, .inl (ω.2.1 11, n, .inl (gi h a)))]) hx hb hK (fun i q hq => by
    cases i with
    | zero => cases hq; exact g3
    | succ i => simp at hq) 0 1 rfl rfl hin hd kk
theorem gi_si_ent {ω : Om} {h : AH} {a k : Nat} {v : Int32} (b t n : Nat) (hb : b ≠ a) : ent ω (si h a k v) b t n = ent ω h b t n := by
  have e : gi (si h a k v) b = gi h b := up2_ne1 _ k v hb
  have e2 : sv (si h a k v) b t = sv h b t := by
    funext j
    unfold sv
    rw [e]
    rfl
  unfold ent
  rw [e, e2]
  rfl
theorem gr_sr_ent {ω : Om} {h : AH} {a k : Nat} {v : Nat} (b t n : Nat) (hb : b ≠ a) : ent ω (sr h a k v) b t n = ent ω h b t n := by
  have e : gr (sr h a k v) b = gr h b := up2_ne1 _ k v hb
  have e2 : sv (sr h a k v) b t = sv h b t := by
    funext j
    unfold sv
    rw [e]
    rfl
  unfold ent
  rw [e, e2]
  rfl
theorem gl_sl_ent {ω : Om} {h : AH} {a k : Nat} {v : Int64} (b t n : Nat) (hb : b ≠ a) : ent ω (sl h a k v) b t n = ent ω h b t n := by
  have e : gl (sl h a k v) b = gl h b := up2_ne1 _ k v hb
  have e2 : sv (sl h a k v) b t = sv h b t := by
    funext j
    unfold sv
    rw [e]
    rfl
  unfold ent
  rw [e2]
  rfl
theorem c_iast (hx : p.tables.exec = Jvm.exec) (hb : c.code = cc) (hK : va_K ω.1 vwCl (exT ω) s) (hH : hp ω h H) (hS : va_S (exA ω) s.heap H locs) {n : Nat} (hs : gs h a = some (10, n)) {i x : Int32} (hin : vp_in i n) (hd : decode cc pc = .ok (.iastore, 1))
    (kk : ∀ (H1 : Heap) (locs1 : List Loc), hp ω (si h a i.toNatClampNeg x) H1 → va_S (exA ω) s.heap H1 locs1 → W p l e R s m args below meth c H1 locs1 cells slots Q (F0 m (pc + 1) ls rest)) : W p l e R s m args below meth c H locs cells slots Q (F0 m pc ls (.int x :: .int i :: .ref a :: rest)) := by
  obtain ⟨g1, -, g3⟩ := hH.2.2.1 a 10 n hs
  rw [ent_int ω h a n (by decide) (by decide)] at g3
  refine W.iast hx hb g3 ((hK.2 0 _ rfl).1 n (fun j => .int (gi h a j))) (fun q => by cases q) (by show ¬ (i < 0 ∨ (arrV _ _ _).slots.size ≤ _); rw [arrV_size]; exact hin) rfl rfl hd fun H1 e z oq => ?_
  refine kk H1 _ (hp_upd hH rfl rfl z oq (fun b t n hb => gi_si_ent b t n hb) (fun t' n' hs' => ?_) (fun _ ht => ht)) (hS.put z oq g1)
  cases hs.symm.trans hs'
  rw [ent_int ω _ a n (by decide) (by decide)]
  show H1[a]? = some (vp_cell _ _)
  rw [e]
  rw [vp_cell_i, vp_cell_i, arrV_store]
  congr 2
  funext q
  by_cases hq : q = i.toNatClampNeg
  · subst hq
    rw [show gi (si h a i.toNatClampNeg x) a i.toNatClampNeg = x from up2_same _ _ _ _]
    simp [updV]
  · rw [show gi (si h a i.toNatClampNeg x) a q = gi h a q from up2_ne2 _ _ _ hq]
    simp [updV, hq]
theorem c_cast (hx : p.tables.exec = Jvm.exec) (hb : c.code = cc) (hK : va_K ω.1 vwCl (exT ω) s) (hH : hp ω h H) (hS : va_S (exA ω) s.heap H locs) {n : Nat} (hs : gs h a = some (11, n)) {i x : Int32} (hin : vp_in i n) (hd : decode cc pc = .ok (.castore, 1))
    (kk : ∀ (H1 : Heap) (locs1 : List Loc), hp ω (si h a i.toNatClampNeg (vp_nar .char x)) H1 → va_S (exA ω) s.heap H1 locs1 → W p l e R s m args below meth c H1 locs1 cells slots Q (F0 m (pc + 1) ls rest)) : W p l e R s m args below meth c H locs cells slots Q (F0 m pc ls (.int x :: .int i :: .ref a :: rest)) := by
  obtain ⟨g1, -, g3⟩ := hH.2.2.1 a 11 n hs
  rw [ent_int ω h a n (by decide) (by decide)] at g3
  refine W.cast hx hb g3 ((hK.2 1 _ rfl).1 n (fun j => .int (gi h a j))) (fun q => by cases q) (by show ¬ (i < 0 ∨ (arrV _ _ _).slots.size ≤ _); rw [arrV_size]; exact hin) rfl rfl hd fun H1 e z oq => ?_
  refine kk H1 _ (hp_upd hH rfl rfl z oq (fun b t n hb => gi_si_ent b t n hb) (fun t' n' hs' => ?_) (fun _ ht => ht)) (hS.put z oq g1)
  cases hs.symm.trans hs'
  rw [ent_int ω _ a n (by decide) (by decide)]
  show H1[a]? = some (vp_cell _ _)
  rw [e]
  rw [vp_cell_i, vp_cell_i, arrV_store]
  congr 2
  funext q
  by_cases hq : q = i.toNatClampNeg
  · subst hq
    rw [show gi (si h a i.toNatClampNeg (vp_nar .char x)) a i.toNatClampNeg = vp_nar .char x from up2_same _ _ _ _]
    simp [updV, vp_nar]
    try rfl
  · rw [show gi (si h a i.toNatClampNeg (vp_nar .char x)) a q = gi h a q from up2_ne2 _ _ _ hq]
    simp [updV, hq]
theorem c_alen (hx : p.tables.exec = Jvm.exec) (hb : c.code = cc) (hK : va_K ω.1 vwCl (exT ω) s) (hH : hp ω h H) {n : Nat} (hs : gs h a = some (10, n)) (hd : decode cc pc = .ok (.arraylength, 1))
    (kk : W p l e R s m args below meth c H locs cells slots Q (F0 m (pc + 1) ls (.int (nI n) :: rest))) : W p l e R s m args below meth c H locs cells slots Q (F0 m pc ls (.ref a :: rest)) := by
  obtain ⟨-, -, g3⟩ := hH.2.2.1 a 10 n hs
  rw [ent_int ω h a n (by decide) (by decide)] at g3
  exact va_alen (ws := [(a, .inl (ω.2.1 10, n, .inl (gi h a)))]) hx hb hK (fun i q hq => by
    cases i with
    | zero => cases hq; exact g3
    | succ i => simp at hq) 0 0 rfl rfl rfl hd kk
/-- rows of references: the place of the kind among the types, its class's place -/
def arK (t i ci : Nat) (r : vw_C) : Prop := ¬ t < 12 ∧ (∀ ω : Om, (exT ω)[i]? = some (ω.2.1 t, .object r.1)) ∧ vwCl[ci]? = some r ∧ (∀ k, kd t k = 1) ∧ (∀ k, (tgt t k).1 = ci) ∧ ci < 10
theorem arK12 : arK 12 2 4 (RX4, TX4, 6) := ⟨by decide, fun _ => rfl, rfl, fun _ => rfl, fun _ => rfl, by decide⟩
theorem arK13 : arK 13 3 1 (RX1, TX1, 6) := ⟨by decide, fun _ => rfl, rfl, fun _ => rfl, fun _ => rfl, by decide⟩
theorem arK14 : arK 14 4 3 (RX3, TX3, 15) := ⟨by decide, fun _ => rfl, rfl, fun _ => rfl, fun _ => rfl, by decide⟩
theorem arK15 : arK 15 5 5 (RX5, TX5, 11) := ⟨by decide, fun _ => rfl, rfl, fun _ => rfl, fun _ => rfl, by decide⟩
theorem c_aald {i0 ci : Nat} {r : vw_C} (ak : arK t i0 ci r) (hx : p.tables.exec = Jvm.exec) (hb : c.code = cc) (hK : va_K ω.1 vwCl (exT ω) s) (hH : hp ω h H) {n : Nat} (hs : gs h a = some (t, n)) {i : Int32} (hin : vp_in i n) (hnz : gr h a i.toNatClampNeg ≠ 0) (hd : decode cc pc = .ok (.aaload, 1))
    (kk : W p l e R s m args below meth c H locs cells slots Q (F0 m (pc + 1) ls (.ref (gr h a i.toNatClampNeg) :: rest))) : W p l e R s m args below meth c H locs cells slots Q (F0 m pc ls (.int i :: .ref a :: rest)) := by
  obtain ⟨a1, a2, a3, a4, a5, a6⟩ := ak
  obtain ⟨-, -, g3⟩ := hH.2.2.1 a t n hs
  rw [ent_ref ω h a n a1] at g3
  refine va_aldq (ws := [(a, .inl (ω.2.1 t, n, .inr (.inr (.inr (.inr (fun k => if gr h a k = 0 then none else some (gr h a k)))))))]) hx hb hK (fun i q hq => by
    cases i with
    | zero => cases hq; exact g3
    | succ i => simp at hq) 0 i0 rfl (a2 ω) hin hd ?_
  rw [show (va_rf ((fun k => if gr h a k = 0 then none else some (gr h a k)) i.toNatClampNeg)) = .ref (gr h a i.toNatClampNeg) from by simp [hnz, va_rf]]
  exact kk
theorem c_aast {i0 ci : Nat} {r : vw_C} (ak : arK t i0 ci r) (hx : p.tables.exec = Jvm.exec) (hb : c.code = cc) (hK : va_K ω.1 vwCl (exT ω) s) (hH : hp ω h H) (hS : va_S (exA ω) s.heap H locs) {n v : Nat} (hs : gs h a = some (t, n)) {i : Int32} (hin : vp_in i n) (hv : ∀ k, gs h v = some (tgt t k)) (hd : decode cc pc = .ok (.aastore, 1))
    (kk : ∀ (H1 : Heap) (locs1 : List Loc), hp ω (sr h a i.toNatClampNeg v) H1 → va_S (exA ω) s.heap H1 locs1 → W p l e R s m args below meth c H1 locs1 cells slots Q (F0 m (pc + 1) ls rest)) : W p l e R s m args below meth c H locs cells slots Q (F0 m pc ls (.ref v :: .int i :: .ref a :: rest)) := by
  obtain ⟨a1, a2, a3, a4, a5, a6⟩ := ak
  obtain ⟨g1, -, g3⟩ := hH.2.2.1 a t n hs
  rw [ent_ref ω h a n a1] at g3
  have hv0 : gs h v = some (ci, (tgt t 0).2) := by rw [hv 0, ← a5 0]
  obtain ⟨-, -, gv⟩ := hH.2.2.1 v ci _ hv0
  rw [ent_obj ω h v _ a6] at gv
  obtain ⟨r', hr', cellV, v1, v2, v3, -⟩ := gv
  have hcls := (hK.1 ci r a3).2
  obtain ⟨kA, comp, k1, k2, k3, -⟩ := (hK.2 i0 _ (a2 ω)).2
  have hcomp : comp = ω.1.1 ci := Option.some.inj (k3.symm.trans hcls.1)
  subst hcomp
  obtain ⟨kC, hkC, -⟩ := hcls.2
  have hlt : i.toNatClampNeg < n := Nat.not_le.mp fun q => hin (Or.inr q)
  have h0 : ¬ i < 0 := fun q => hin (Or.inl q)
  have hvz : v ≠ 0 := fun e => by rw [e, hH.2.1] at hv0; cases hv0
  refine W.aast hx hb g3 (fun q h => by cases h) (fun h => by cases h) k1 k2 rfl hkC ⟨h0, by show _ < (arrV _ _ _).slots.size; rw [arrV_size]; exact hlt⟩ v1 (fun q h => by rw [v3] at h; cases h) (by rw [v2]; exact hkC) (by rw [v2]; exact va_assign hcls) rfl rfl hd fun H1 e z oq => ?_
  refine kk H1 _ (hp_upd hH rfl rfl z oq (fun b t n hb => gr_sr_ent b t n hb) (fun t' n' hs' => ?_) (fun _ hty => ?_)) (hS.put z oq g1)
  · cases hs.symm.trans hs'
    rw [ent_ref ω _ a n a1]
    show H1[a]? = some (vp_cell _ _)
    rw [e]
    rw [vp_cell_q, vp_cell_q, arrV_store]
    congr 2
    funext q
    by_cases hq : q = i.toNatClampNeg
    · subst hq
      rw [show gr (sr h a i.toNatClampNeg v) a i.toNatClampNeg = v from up2_same _ _ _ _]
      simp [updV, va_rf, hvz]
    · rw [show gr (sr h a i.toNatClampNeg v) a q = gr h a q from up2_ne2 _ _ _ hq]
      simp [updV, hq]
  · intro b t' n' hb k' hk' hkd'
    show gs h (up2 h.2.2.1 a i.toNatClampNeg v b k') = some (tgt t' k')
    by_cases hba : b = a ∧ k' = i.toNatClampNeg
    · obtain ⟨rfl, rfl⟩ := hba
      rw [up2_same]
      cases hs.symm.trans hb
      exact hv _
    · rw [show up2 h.2.2.1 a i.toNatClampNeg v b k' = gr h b k' from if_neg hba]
      exact hty b t' n' hb k' hk' hkd'
end CORE
