/-! THE CLASS. Rows of the heap, frames, the small methods -/
def wi (h : AH) (a : Nat) (f : Nat → Int32) : AH := (h.1, fun b => if b = a then f else h.2.1 b, h.2.2)
def wr (h : AH) (a : Nat) (f : Nat → Nat) : AH := (h.1, h.2.1, fun b => if b = a then f else h.2.2.1 b, h.2.2.2)
def wl (h : AH) (a : Nat) (f : Nat → Int64) : AH := (h.1, h.2.1, h.2.2.1, fun b => if b = a then f else h.2.2.2.1 b, h.2.2.2.2)
def updN (f : Nat → Nat) (k v : Nat) : Nat → Nat := fun j => if j = k then v else f j
theorem updN_eq (f : Nat → Nat) (k v : Nat) : updN f k v k = v := if_pos rfl
theorem updN_ne (f : Nat → Nat) {k j : Nat} (v : Nat) (h : j ≠ k) : updN f k v j = f j := if_neg h
section W
variable (h : AH) (a : Nat) (f : Nat → Int32) (g : Nat → Nat) (e : Nat → Int64)
theorem gs_wi : gs (wi h a f) = gs h := rfl
theorem gr_wi : gr (wi h a f) = gr h := rfl
theorem gl_wi : gl (wi h a f) = gl h := rfl
theorem gi_wi : gi (wi h a f) a = f := if_pos rfl
theorem gi_wi_ne {b : Nat} (q : b ≠ a) : gi (wi h a f) b = gi h b := if_neg q
theorem gs_wr : gs (wr h a g) = gs h := rfl
theorem gi_wr : gi (wr h a g) = gi h := rfl
theorem gl_wr : gl (wr h a g) = gl h := rfl
theorem gr_wr : gr (wr h a g) a = g := if_pos rfl
theorem gr_wr_ne {b : Nat} (q : b ≠ a) : gr (wr h a g) b = gr h b := if_neg q
theorem gs_wl : gs (wl h a e) = gs h := rfl
theorem gi_wl : gi (wl h a e) = gi h := rfl
theorem gr_wl : gr (wl h a e) = gr h := rfl
theorem gl_wl : gl (wl h a e) a = e := if_pos rfl
theorem gl_wl_ne {b : Nat} (q : b ≠ a) : gl (wl h a e) b = gl h b := if_neg q
theorem wi_wi (f2 : Nat → Int32) : wi (wi h a f) a f2 = wi h a f2 := by
  unfold wi
  refine Prod.ext rfl (Prod.ext (funext fun b => ?_) rfl)
  show (if b = a then f2 else if b = a then f else h.2.1 b) = if b = a then f2 else h.2.1 b
  split <;> rfl
theorem si_wi (k : Nat) (v : Int32) : si h a k v = wi h a (upd (gi h a) k v) := by
  unfold si wi
  refine Prod.ext rfl (Prod.ext (funext fun b => ?_) rfl)
  show up2 h.2.1 a k v b = if b = a then upd (gi h a) k v else h.2.1 b
  rw [up2_row]
  rfl
theorem sr_wr (k v : Nat) : sr h a k v = wr h a (updN (gr h a) k v) := by
  unfold sr wr
  refine Prod.ext rfl (Prod.ext rfl (Prod.ext (funext fun b => ?_) rfl))
  show up2 h.2.2.1 a k v b = if b = a then updN (gr h a) k v else h.2.2.1 b
  rw [up2_row]
  rfl
theorem sl_wl (k : Nat) (v : Int64) : sl h a k v = wl h a (vp_updL (gl h a) k v) := by
  unfold sl wl
  refine Prod.ext rfl (Prod.ext rfl (Prod.ext rfl (Prod.ext (funext fun b => ?_) rfl)))
  show up2 h.2.2.2.1 a k v b = if b = a then vp_updL (gl h a) k v else h.2.2.2.1 b
  rw [up2_row]
  rfl
theorem wi_self : wi h a (gi h a) = h := by
  unfold wi
  refine Prod.ext rfl (Prod.ext (funext fun b => ?_) rfl)
  show (if b = a then gi h a else h.2.1 b) = h.2.1 b
  by_cases z : b = a
  · rw [if_pos z, z]; rfl
  · rw [if_neg z]
theorem wr_self : wr h a (gr h a) = h := by
  unfold wr
  refine Prod.ext rfl (Prod.ext rfl (Prod.ext (funext fun b => ?_) rfl))
  show (if b = a then gr h a else h.2.2.1 b) = h.2.2.1 b
  by_cases z : b = a
  · rw [if_pos z, z]; rfl
  · rw [if_neg z]
theorem wr_wr (g2 : Nat → Nat) : wr (wr h a g) a g2 = wr h a g2 := by
  unfold wr
  refine Prod.ext rfl (Prod.ext rfl (Prod.ext (funext fun b => ?_) rfl))
  show (if b = a then g2 else if b = a then g else h.2.2.1 b) = if b = a then g2 else h.2.2.1 b
  split <;> rfl
end W
/-- only the cells from lo to hi changed -/
def Frm (lo hi : Nat) (h h' : AH) : Prop := gs h' = gs h ∧ ∀ b, (b < lo ∨ hi ≤ b) → gi h' b = gi h b ∧ gr h' b = gr h b ∧ gl h' b = gl h b
theorem Frm.refl (lo hi : Nat) (h : AH) : Frm lo hi h h := ⟨rfl, fun _ _ => ⟨rfl, rfl, rfl⟩⟩
theorem Frm.trans {lo hi : Nat} {h1 h2 h3 : AH} (a : Frm lo hi h1 h2) (b : Frm lo hi h2 h3) : Frm lo hi h1 h3 := ⟨b.1.trans a.1, fun x hx => ⟨(b.2 x hx).1.trans (a.2 x hx).1, (b.2 x hx).2.1.trans (a.2 x hx).2.1, (b.2 x hx).2.2.trans (a.2 x hx).2.2⟩⟩
theorem Frm.mono {lo hi lo' hi' : Nat} {h h' : AH} (a : Frm lo hi h h') (h1 : lo' ≤ lo) (h2 : hi ≤ hi') : Frm lo' hi' h h' := ⟨a.1, fun x hx => a.2 x (by omega)⟩
theorem Frm.wi (lo hi : Nat) (h : AH) {a : Nat} (f : Nat → Int32) (h1 : lo ≤ a) (h2 : a < hi) : Frm lo hi h (wi h a f) := ⟨rfl, fun b hb => ⟨gi_wi_ne h a f (by omega), rfl, rfl⟩⟩
theorem Frm.wl (lo hi : Nat) (h : AH) {a : Nat} (f : Nat → Int64) (h1 : lo ≤ a) (h2 : a < hi) : Frm lo hi h (wl h a f) := ⟨rfl, fun b hb => ⟨rfl, rfl, gl_wl_ne h a f (by omega)⟩⟩
/-! the small ones -/
theorem t8_roundedUp {ω : Om} {h : AH} {Q : Option Value → AH → Prop} (hw : ω.2.2.2.1 = true) {a b : Int32} (hb : ¬ b ≤ 0) (hq : Q (some (.int ((a + b - nI 1) / b))) h) : Ex ω M8_roundedUp 0 [some (.int a), some (.int b)] [] h 0 0 Q :=
  B8_roundedUp_0 hw (fun c => absurd c hb) (fun _ => B8_roundedUp_4 hw (fun z => hb (by rw [z]; exact Int32.le_refl _)) (B8_roundedUp_15 hw hq))
theorem t8_roundedUpN {ω : Om} {h : AH} {Q : Option Value → AH → Prop} (hw : ω.2.2.2.1 = true) {a b : Nat} (ha : a < 2 ^ 29) (hb : b < 2 ^ 29) (h0 : 1 ≤ b) (hq : Q (some (.int (nI ((a + b - 1) / b)))) h) : Ex ω M8_roundedUp 0 [some (.int (nI a)), some (.int (nI b))] [] h 0 0 Q := by
  refine t8_roundedUp hw (fun c => ?_) ?_
  · rw [show (0 : Int32) = nI 0 from rfl, nI_leI (by omega) (by omega)] at c; omega
  · rw [nI_add, pk_sub (by omega), pk_div (by omega) (by omega) (by omega)]; exact hq
theorem t8_zonesEnd {ω : Om} {h : AH} {Q : Option Value → AH → Prop} (hw : ω.2.2.2.1 = true) {y z : Nat} (hy : y ≤ 1000) (hz : z ≤ 1000) (hq : Q (some (.int (nI (min z ((y + 59) / 10))))) h) : Ex ω M8_zonesEnd 0 [some (.int (nI y)), some (.int (nI z))] [] h 0 0 Q := by
  refine B8_zonesEnd_0 hw ?_
  rw [nI_add]
  refine t8_roundedUpN hw (by omega) (by omega) (by omega) (B8_zonesEnd_10 hw ?_)
  rw [show y + 50 + 10 - 1 = y + 59 from by omega]
  by_cases c : nI ((y + 59) / 10) < nI z
  · rw [if_pos c]
    rw [nI_ltI (by omega) (by omega)] at c
    rw [Nat.min_eq_right (by omega)] at hq; exact hq
  · rw [if_neg c]
    rw [nI_ltI (by omega) (by omega)] at c
    rw [Nat.min_eq_left (by omega)] at hq; exact hq
theorem t8_firstZone {ω : Om} {h : AH} {Q : Option Value → AH → Prop} (hw : ω.2.2.2.1 = true) {y : Nat} (hy : y ≤ 1000) (hq : Q (some (.int (nI (y / 10)))) h) : Ex ω M8_firstZone 0 [some (.int (nI y))] [] h 0 0 Q := by
  refine B8_firstZone_0 hw ?_
  rw [pk_div (by omega) (by omega) (by omega)]; exact hq
theorem t8_greatestTension {ω : Om} {h : AH} {Q : Option Value → AH → Prop} (hw : ω.2.2.2.1 = true) {ten f : Nat} (ht : ten ≤ 1000) (hf : f ≤ 10000) (hq : Q (some (.int (nI (min ten ((100 * f + 99) / 141))))) h) : Ex ω M8_greatestTension 0 [some (.int (nI ten)), some (.int (nI f))] [] h 0 0 Q := by
  refine B8_greatestTension_0 hw ?_
  rw [pk_mul, nI_add, pk_div (by omega) (by omega) (by omega)]
  by_cases c : nI ((100 * f + 99) / 141) < nI ten
  · rw [if_pos c]
    rw [nI_ltI (by omega) (by omega)] at c
    rw [Nat.min_eq_right (by omega)] at hq; exact hq
  · rw [if_neg c]
    rw [nI_ltI (by omega) (by omega)] at c
    rw [Nat.min_eq_left (by omega)] at hq; exact hq
theorem t1_measure {ω : Om} {h : AH} {Q : Option Value → AH → Prop} (hw : ω.2.2.2.1 = true) {x : Nat} {a b c d : Int32} (s : gs h x = some (1, 6)) (hq : Q none (wi h x (upd (upd (upd (upd (gi h x) 1 a) 2 b) 3 c) 4 d))) : Ex ω M1_measure 0 [some (.ref x), some (.int a), some (.int b), some (.int c), some (.int d)] [] h 0 0 Q := by
  refine B1_measure_0 hw s ?_
  simp (disch := omega) only [si_wi, sr_wr, sl_wl, gi_wi, gi_wi_ne, gr_wi, gs_wi, gl_wi, gi_wr, gr_wr, gr_wr_ne, gs_wr, gl_wr, gi_wl, gr_wl, gs_wl, gl_wl, gl_wl_ne, wi_wi, pk_mul, nI_add, nI_clamp, upd_eq, upd_ne]
  exact hq
theorem t1_copyFrom {ω : Om} {h : AH} {Q : Option Value → AH → Prop} (hw : ω.2.2.2.1 = true) {x y : Nat} (s : gs h x = some (1, 6)) (s2 : gs h y = some (1, 6)) (ne : y ≠ x) (hq : ∀ f : Nat → Int32, (∀ k, k < 6 → f k = gi h y k) → Q none (wi h x f)) : Ex ω M1_copyFrom 0 [some (.ref x), some (.ref y)] [] h 0 0 Q := by
  refine B1_copyFrom_0 hw s2 s ?_
  simp (disch := omega) only [si_wi, sr_wr, sl_wl, gi_wi, gi_wi_ne, gr_wi, gs_wi, gl_wi, gi_wr, gr_wr, gr_wr_ne, gs_wr, gl_wr, gi_wl, gr_wl, gs_wl, gl_wl, gl_wl_ne, wi_wi, pk_mul, nI_add, nI_clamp, upd_eq, upd_ne]
  refine t1_measure hw s (B1_copyFrom_36 hw ?_)
  simp (disch := omega) only [si_wi, sr_wr, sl_wl, gi_wi, gi_wi_ne, gr_wi, gs_wi, gl_wi, gi_wr, gr_wr, gr_wr_ne, gs_wr, gl_wr, gi_wl, gr_wl, gs_wl, gl_wl, gl_wl_ne, wi_wi, pk_mul, nI_add, nI_clamp, upd_eq, upd_ne]
  refine hq _ (fun k hk => ?_)
  have : k = 0 ∨ k = 1 ∨ k = 2 ∨ k = 3 ∨ k = 4 ∨ k = 5 := by omega
  rcases this with rfl | rfl | rfl | rfl | rfl | rfl <;> simp (disch := omega) only [si_wi, sr_wr, sl_wl, gi_wi, gi_wi_ne, gr_wi, gs_wi, gl_wi, gi_wr, gr_wr, gr_wr_ne, gs_wr, gl_wr, gi_wl, gr_wl, gs_wl, gl_wl, gl_wl_ne, wi_wi, pk_mul, nI_add, nI_clamp, upd_eq, upd_ne]
theorem t1_property {ω : Om} {h : AH} {Q : Option Value → AH → Prop} (hw : ω.2.2.2.1 = true) {x k : Nat} (s : gs h x = some (1, 6)) (hk : k < 6) (hq : Q (some (.int (gi h x k))) h) : Ex ω M1_property 0 [some (.ref x), some (.int (nI k))] [] h 0 0 Q := by
  refine B1_property_0 hw (fun c => ?_) (fun c => ?_) (fun c => ?_) (fun c => ?_) (fun c => ?_) (fun c => ?_)
  · rw [nI_eq (by omega) (by omega)] at c; subst c; exact B1_property_36 hw s hq
  · rw [nI_eq (by omega) (by omega)] at c; subst c; exact B1_property_41 hw s hq
  · rw [nI_eq (by omega) (by omega)] at c; subst c; exact B1_property_46 hw s hq
  · rw [nI_eq (by omega) (by omega)] at c; subst c; exact B1_property_51 hw s hq
  · rw [nI_eq (by omega) (by omega)] at c; subst c; exact B1_property_56 hw s hq
  · rw [show (0 : Int32) = nI 0 from rfl, nI_leI (by omega) (by omega), nI_leI (by omega) (by omega)] at c
    obtain rfl : k = 5 := by omega
    exact B1_property_61 hw s hq
theorem t1_zones {ω : Om} {h : AH} {Q : Option Value → AH → Prop} (hw : ω.2.2.2.1 = true) {x hi : Nat} (s : gs h x = some (1, 6)) (hh : gi h x 3 = nI hi) (hb : hi ≤ 1000) (hq : Q (some (.int (nI ((hi + 9) / 10)))) h) : Ex ω M1_zones 0 [some (.ref x)] [] h 0 0 Q := by
  refine B1_zones_0 hw s ?_
  rw [hh]
  refine t8_roundedUpN hw (by omega) (by omega) (by omega) (B1_zones_9 hw ?_)
  rw [show hi + 10 - 1 = hi + 9 from by omega]; exact hq
theorem t1_top {ω : Om} {h : AH} {Q : Option Value → AH → Prop} (hw : ω.2.2.2.1 = true) {x hi : Nat} (s : gs h x = some (1, 6)) (hh : gi h x 3 = nI hi) (hb : hi ≤ 1000) (hq : Q (some (.int (nI (hi - 50)))) h) : Ex ω M1_top 0 [some (.ref x)] [] h 0 0 Q := by
  refine B1_top_0 hw s ?_
  rw [hh]
  have e1 : (nI hi - nI 50).toInt = (hi : Int) - 50 := pk_sub_toInt (by omega) (by omega)
  by_cases c : nI 0 < nI hi - nI 50
  · rw [if_pos c]
    rw [Int32.lt_iff_toInt_lt, e1, nI_toInt (by omega)] at c
    rw [pk_sub (by omega)]; exact hq
  · rw [if_neg c]
    rw [Int32.lt_iff_toInt_lt, e1, nI_toInt (by omega)] at c
    rw [show hi - 50 = 0 from by omega] at hq; exact hq
theorem t1_lengthOfTurn {ω : Om} {h : AH} {Q : Option Value → AH → Prop} (hw : ω.2.2.2.1 = true) {x wd dp st : Nat} (s : gs h x = some (1, 6)) (h1 : gi h x 1 = nI wd) (h2 : gi h x 2 = nI dp) (b1 : wd ≤ 200) (b2 : dp ≤ 200) (b3 : st ≤ 1000) (hq : Q (some (.int (nI (needF (2 * (wd + dp)) st)))) h) : Ex ω M1_lengthOfTurn 0 [some (.ref x), some (.int (nI st))] [] h 0 0 Q := by
  refine B1_lengthOfTurn_0 hw s ?_
  rw [h1, h2, nI_add, pk_mul, pk_mul, nI_add]
  exact t8_roundedUpN hw (by omega) (by omega) (by omega) (B1_lengthOfTurn_21 hw hq)
theorem t1_timeOfTurn {ω : Om} {h : AH} {Q : Option Value → AH → Prop} (hw : ω.2.2.2.1 = true) {x wd dp : Nat} (s : gs h x = some (1, 6)) (h1 : gi h x 1 = nI wd) (h2 : gi h x 2 = nI dp) (b1 : wd ≤ 200) (b2 : dp ≤ 200) (hq : Q (some (.int (nI ((2 * (wd + dp) + 39) / 40)))) h) : Ex ω M1_timeOfTurn 0 [some (.ref x)] [] h 0 0 Q := by
  refine B1_timeOfTurn_0 hw s ?_
  rw [h1, h2, nI_add, pk_mul]
  refine t8_roundedUpN hw (by omega) (by omega) (by omega) (B1_timeOfTurn_16 hw ?_)
  rw [show 2 * (wd + dp) + 40 - 1 = 2 * (wd + dp) + 39 from by omega]; exact hq

