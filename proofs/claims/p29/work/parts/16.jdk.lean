/-! the JDK's String.length and charAt on the five text constants -/
section JDK
variable {ω : Om} {μ : MR} {pc : Nat} {L : List (Option Value)} {st : List Value} {h : AH} {k n : Nat} {Q : Option Value → AH → Prop}
theorem x_strV {i idx : Nat} (q : Nat) (hd : decode μ.2.1 pc = .ok (.getfield idx, 3)) (hq : pc + 3 = q) (hi : i < 5) (hl : Cond.fieldLink μ.1.cls idx "java/lang/String" "value" "[B" ∈ wsL_law)
    (kk : Ex ω μ q L (.ref (ω.2.2.2.2.2 i) :: st) h k n Q) : Ex ω μ pc L (.ref (ω.2.2.2.2.1 i) :: st) h k n Q := by
  subst hq
  intro p l e s m args below meth c H locs ls C hH hS hL
  exact vk_getf C.1 C.2.1 (C.2.2.2.2.2.2.2.2.2.1.2.2.1.1 i hi).2.2.1 hS C.2.2.2.2.1 (C.2.2.2.2.2.2.2.1 _ hl) (fun _ h9 => h9) hd (kk p l e s m args below meth c H locs ls C hH hS hL)
theorem x_strC {i idx : Nat} (q : Nat) (hd : decode μ.2.1 pc = .ok (.getfield idx, 3)) (hq : pc + 3 = q) (hi : i < 5) (hl : Cond.fieldLink μ.1.cls idx "java/lang/String" "coder" "B" ∈ wsL_law)
    (kk : Ex ω μ q L (.int 0 :: st) h k n Q) : Ex ω μ pc L (.ref (ω.2.2.2.2.1 i) :: st) h k n Q := by
  subst hq
  intro p l e s m args below meth c H locs ls C hH hS hL
  exact vk_getf C.1 C.2.1 (C.2.2.2.2.2.2.2.2.2.1.2.2.1.1 i hi).2.1 hS C.2.2.2.2.1 (C.2.2.2.2.2.2.2.1 _ hl) (fun _ h9 => h9) hd (kk p l e s m args below meth c H locs ls C hH hS hL)
theorem x_getCS {idx : Nat} (q : Nat) (hd : decode μ.2.1 pc = .ok (.getstatic idx, 3)) (hq : pc + 3 = q) (hl : Cond.fieldLink μ.1.cls idx "java/lang/String" "COMPACT_STRINGS" "Z" ∈ wsL_law)
    (kk : Ex ω μ q L (.int 1 :: st) h k n Q) : Ex ω μ pc L st h k n Q := by
  subst hq
  intro p l e s m args below meth c H locs ls C hH hS hL
  exact va_gets C.1 C.2.1 C.2.2.2.2.2.2.2.2.2.1.2.2.2.2.1 hS C.2.2.2.2.1 (C.2.2.2.2.2.2.2.1 _ hl) (fun _ h9 => h9) hd (kk p l e s m args below meth c H locs ls C hH hS hL)
theorem x_getSF {idx : Nat} (q : Nat) (hd : decode μ.2.1 pc = .ok (.getstatic idx, 3)) (hq : pc + 3 = q) (hl : Cond.fieldLink μ.1.cls idx "jdk/internal/util/Preconditions" "SIOOBE_FORMATTER" "Ljava/util/function/BiFunction;" ∈ wsL_law)
    (k0 : Ex ω μ q L (.null :: st) h k n Q) (k1 : ∀ t : Nat, Ex ω μ q L (.ref t :: st) h k n Q) : Ex ω μ pc L st h k n Q := by
  subst hq
  intro p l e s m args below meth c H locs ls C hH hS hL
  rcases C.2.2.2.2.2.2.2.2.2.1.2.2.2.2.2.1 with z | ⟨t, z⟩
  · exact va_gets C.1 C.2.1 z hS C.2.2.2.2.1 (C.2.2.2.2.2.2.2.1 _ hl) (fun _ h9 => h9) hd (k0 p l e s m args below meth c H locs ls C hH hS hL)
  · exact va_gets C.1 C.2.1 z hS C.2.2.2.2.1 (C.2.2.2.2.2.2.2.1 _ hl) (fun _ h9 => h9) hd (k1 t p l e s m args below meth c H locs ls C hH hS hL)
theorem x_alenS {i : Nat} (q : Nat) (hd : decode μ.2.1 pc = .ok (.arraylength, 1)) (hq : pc + 1 = q) (hi : i < 5)
    (kk : Ex ω μ q L (.int (nI (lenS.getD i 0)) :: st) h k n Q) : Ex ω μ pc L (.ref (ω.2.2.2.2.2 i) :: st) h k n Q := by
  subst hq
  intro p l e s m args below meth c H locs ls C hH hS hL
  obtain ⟨cell, h1, h2, h3, h4, h5, h6, h7⟩ := (C.2.2.2.2.2.2.2.2.2.1.2.2.1.1 i hi).2.2.2.kept hS.2.1
  exact W.alen C.1 C.2.1 h1 h2 h5 rfl rfl hd (kk p l e s m args below meth c H locs ls C hH hS hL)
theorem x_baldS {i : Nat} {x : Int32} (j q : Nat) (hd : decode μ.2.1 pc = .ok (.baload, 1)) (hq : pc + 1 = q) (hi : i < 5) (hin : vp_in x (lenS.getD i 0)) (hj : x.toNatClampNeg = j)
    (kk : Ex ω μ q L (.int ((bytS.getD i []).getD j 0) :: st) h k n Q) : Ex ω μ pc L (.int x :: .ref (ω.2.2.2.2.2 i) :: st) h k n Q := by
  subst hq; subst hj
  intro p l e s m args below meth c H locs ls C hH hS hL
  obtain ⟨cell, h1, h2, h3, h4, h5, h6, h7⟩ := (C.2.2.2.2.2.2.2.2.2.1.2.2.1.1 i hi).2.2.2.kept hS.2.1
  refine W.bald C.1 C.2.1 h1 h2 h3 ?_ (h6 _ (vp_lt hin)) rfl rfl hd (kk p l e s m args below meth c H locs ls C hH hS hL)
  rintro (z | z)
  · exact hin (Or.inl z)
  · exact hin (Or.inr (Nat.le_trans h4 z))
end JDK
theorem tJ_coder {ω : Om} {h : AH} {Q : Option Value → AH → Prop} {i : Nat} (hi : i < 5) (hq : Q (some (.int 0)) h) : Ex ω MJ_coder 0 [some (.ref (ω.2.2.2.2.1 i))] [] h 0 0 Q := by
  refine x_getCS 3 dJ0_coder_7d493_0 rfl wd194 ?_
  refine x_if_eq 6 13 dJ0_coder_7d493_3 rfl (by decide) (fun c => absurd c (by decide)) (fun _ => ?_)
  refine x_aload0 7 dJ0_coder_7d493_6 rfl ?_
  refine x_strC 10 dJ0_coder_7d493_7 rfl hi wd195 ?_
  refine x_goto 14 dJ0_coder_7d493_10 (by decide) ?_
  exact x_zret dJ0_coder_7d493_14 rfl rfl (Nat.zero_le _) (Nat.zero_le _) hq
theorem tJ_length {ω : Om} {h : AH} {Q : Option Value → AH → Prop} {i : Nat} (hi : i < 5) (hq : Q (some (.int (nI (lenS.getD i 0)))) h) : Ex ω MJ_length 0 [some (.ref (ω.2.2.2.2.1 i))] [] h 0 0 Q := by
  refine x_aload0 1 dJ0_length_8abf5_0 rfl ?_
  refine x_strV 4 dJ0_length_8abf5_1 rfl hi wd189 ?_
  refine x_alenS 5 dJ0_length_8abf5_4 rfl hi ?_
  refine x_aload0 6 dJ0_length_8abf5_5 rfl ?_
  refine x_callV 9 (ω.2.2.2.2.1 i) [] [.int (nI (lenS.getD i 0))] dJ0_length_8abf5_6 rfl lk_J_coder ⟨wd190, wd191, wd192⟩ ⟨by decide, by decide⟩ (recvS hi rfl) rfl rfl (Nat.le_of_ble_eq_true rfl) (Nat.le_of_ble_eq_true rfl) (by decide) (by decide) ?_
  refine tJ_coder hi ?_
  refine x_ishr 10 dJ0_length_8abf5_9 rfl ?_
  rw [show (nI (lenS.getD i 0) >>> ((0 : Int32) &&& 31)) = nI (lenS.getD i 0) from by
    match i, hi with
    | 0, _ => decide
    | 1, _ => decide
    | 2, _ => decide
    | 3, _ => decide
    | 4, _ => decide
    | j + 5, hi => omega]
  exact x_iret dJ0_length_8abf5_10 rfl (Nat.zero_le _) (Nat.zero_le _) hq
theorem tJ_isLatin1 {ω : Om} {h : AH} {Q : Option Value → AH → Prop} {i : Nat} (hi : i < 5) (hq : Q (some (.int 1)) h) : Ex ω MJ_isLatin1 0 [some (.ref (ω.2.2.2.2.1 i))] [] h 0 0 Q := by
  refine x_getCS 3 dJ0_isLatin1_aae02_0 rfl wd194 ?_
  refine x_if_eq 6 17 dJ0_isLatin1_aae02_3 rfl (by decide) (fun c => absurd c (by decide)) (fun _ => ?_)
  refine x_aload0 7 dJ0_isLatin1_aae02_6 rfl ?_
  refine x_strC 10 dJ0_isLatin1_aae02_7 rfl hi wd195 ?_
  refine x_if_ne 13 17 dJ0_isLatin1_aae02_10 rfl (by decide) (fun c => absurd rfl c) (fun _ => ?_)
  refine x_iconst 1 14 dJ0_isLatin1_aae02_13 rfl rfl ?_
  refine x_goto 18 dJ0_isLatin1_aae02_14 (by decide) ?_
  exact x_zret dJ0_isLatin1_aae02_18 rfl rfl (Nat.zero_le _) (Nat.zero_le _) hq
theorem tJ_pCheck {ω : Om} {h : AH} {Q : Option Value → AH → Prop} {x y : Int32} {o : Option Value} (h0 : ¬ x < 0) (h1 : x < y) (hq : Q (some (.int x)) h) : Ex ω MJ_pCheck 0 [some (.int x), some (.int y), o] [] h 0 0 Q := by
  refine x_iload0 1 dJ3_checkIndex_8e157_0 rfl ?_
  refine x_if_lt 4 9 dJ3_checkIndex_8e157_1 rfl (by decide) (fun c => absurd c h0) (fun _ => ?_)
  refine x_iload0 5 dJ3_checkIndex_8e157_4 rfl ?_
  refine x_iload1 6 dJ3_checkIndex_8e157_5 rfl ?_
  refine x_icmp_lt 9 16 dJ3_checkIndex_8e157_6 rfl (by decide) (fun _ => ?_) (fun c => absurd h1 c)
  refine x_iload0 17 dJ3_checkIndex_8e157_16 rfl ?_
  exact x_iret dJ3_checkIndex_8e157_17 rfl (Nat.zero_le _) (Nat.zero_le _) hq
theorem tJ_sCheck {ω : Om} {h : AH} {Q : Option Value → AH → Prop} {x y : Int32} (h0 : ¬ x < 0) (h1 : x < y) (hq : Q none h) : Ex ω MJ_sCheck 0 [some (.int x), some (.int y)] [] h 0 0 Q := by
  refine x_iload0 1 dJ0_checkIndex_df160_0 rfl ?_
  refine x_iload1 2 dJ0_checkIndex_df160_1 rfl ?_
  refine x_getSF 5 dJ0_checkIndex_df160_2 rfl wd211 ?_ (fun t => ?_)
  · refine x_callS 8 [.int x, .int y, .null] [] dJ0_checkIndex_df160_5 rfl lk_J_pCheck ⟨wd212, wd213⟩ ⟨by decide, by decide⟩ rfl rfl (Nat.le_of_ble_eq_true rfl) (Nat.le_of_ble_eq_true rfl) (by decide) (by decide) ?_
    refine tJ_pCheck h0 h1 ?_
    refine x_pop 9 dJ0_checkIndex_df160_8 rfl rfl ?_
    exact x_vret dJ0_checkIndex_df160_9 rfl (Nat.zero_le _) (Nat.zero_le _) hq
  · refine x_callS 8 [.int x, .int y, .ref t] [] dJ0_checkIndex_df160_5 rfl lk_J_pCheck ⟨wd212, wd213⟩ ⟨by decide, by decide⟩ rfl rfl (Nat.le_of_ble_eq_true rfl) (Nat.le_of_ble_eq_true rfl) (by decide) (by decide) ?_
    refine tJ_pCheck h0 h1 ?_
    refine x_pop 9 dJ0_checkIndex_df160_8 rfl rfl ?_
    exact x_vret dJ0_checkIndex_df160_9 rfl (Nat.zero_le _) (Nat.zero_le _) hq
/-- the sign at place j of name i -/
def chS (i j : Nat) : Int32 := (bytS.getD i []).getD j 0
theorem chS_ok : ∀ i, i < 5 → ∀ j, j < lenS.getD i 0 → UInt32.toInt32 (Int32.toUInt32 (chS i j &&& 255) % 65536) = chS i j ∧ narrow .char (.int (chS i j)) = .int (chS i j) ∧ lenS.getD i 0 < 8 := by
  intro i hi
  match i, hi with
  | 0, _ => intro j hj; match j, hj with
    | 0, _ => exact ⟨by decide, by decide, by decide⟩
    | 1, _ => exact ⟨by decide, by decide, by decide⟩
    | 2, _ => exact ⟨by decide, by decide, by decide⟩
    | 3, _ => exact ⟨by decide, by decide, by decide⟩
    | j + 4, hj => exact absurd hj (by simp [lenS])
  | 1, _ => intro j hj; match j, hj with
    | 0, _ => exact ⟨by decide, by decide, by decide⟩
    | 1, _ => exact ⟨by decide, by decide, by decide⟩
    | j + 2, hj => exact absurd hj (by simp [lenS])
  | 2, _ => intro j hj; match j, hj with
    | 0, _ => exact ⟨by decide, by decide, by decide⟩
    | 1, _ => exact ⟨by decide, by decide, by decide⟩
    | 2, _ => exact ⟨by decide, by decide, by decide⟩
    | 3, _ => exact ⟨by decide, by decide, by decide⟩
    | j + 4, hj => exact absurd hj (by simp [lenS])
  | 3, _ => intro j hj; match j, hj with
    | 0, _ => exact ⟨by decide, by decide, by decide⟩
    | 1, _ => exact ⟨by decide, by decide, by decide⟩
    | 2, _ => exact ⟨by decide, by decide, by decide⟩
    | 3, _ => exact ⟨by decide, by decide, by decide⟩
    | 4, _ => exact ⟨by decide, by decide, by decide⟩
    | 5, _ => exact ⟨by decide, by decide, by decide⟩
    | 6, _ => exact ⟨by decide, by decide, by decide⟩
    | j + 7, hj => exact absurd hj (by simp [lenS])
  | 4, _ => intro j hj; match j, hj with
    | 0, _ => exact ⟨by decide, by decide, by decide⟩
    | 1, _ => exact ⟨by decide, by decide, by decide⟩
    | 2, _ => exact ⟨by decide, by decide, by decide⟩
    | 3, _ => exact ⟨by decide, by decide, by decide⟩
    | 4, _ => exact ⟨by decide, by decide, by decide⟩
    | 5, _ => exact ⟨by decide, by decide, by decide⟩
    | 6, _ => exact ⟨by decide, by decide, by decide⟩
    | j + 7, hj => exact absurd hj (by simp [lenS])
  | i + 5, hi => omega
theorem tJ_lcharAt {ω : Om} {h : AH} {Q : Option Value → AH → Prop} {i j : Nat} (hi : i < 5) (hj : j < lenS.getD i 0) (hq : Q (some (.int (chS i j))) h) : Ex ω MJ_lcharAt 0 [some (.ref (ω.2.2.2.2.2 i)), some (.int (nI j))] [] h 0 0 Q := by
  obtain ⟨c1, c2, c3⟩ := chS_ok i hi j hj
  refine x_iload1 1 dJ1_charAt_3b067_0 rfl ?_
  refine x_aload0 2 dJ1_charAt_3b067_1 rfl ?_
  refine x_alenS 3 dJ1_charAt_3b067_2 rfl hi ?_
  refine x_callS 6 [.int (nI j), .int (nI (lenS.getD i 0))] [] dJ1_charAt_3b067_3 rfl lk_J_sCheck ⟨wd208, wd209⟩ ⟨by decide, by decide⟩ rfl rfl (Nat.le_of_ble_eq_true rfl) (Nat.le_of_ble_eq_true rfl) (by decide) (by decide) ?_
  refine tJ_sCheck (nI_pos (by omega)) (nI_lt hj (by omega)) ?_
  refine x_aload0 7 dJ1_charAt_3b067_6 rfl ?_
  refine x_iload1 8 dJ1_charAt_3b067_7 rfl ?_
  refine x_baldS j 9 dJ1_charAt_3b067_8 rfl hi (vp_in_nI hj (by omega)) (nI_clamp (by omega)) ?_
  refine x_sipush 255 12 dJ1_charAt_3b067_9 rfl rfl ?_
  refine x_iand 13 dJ1_charAt_3b067_12 rfl ?_
  refine x_i2c 14 dJ1_charAt_3b067_13 rfl ?_
  rw [show (((bytS.getD i []).getD j 0 &&& 255).toUInt32 % 65536).toInt32 = chS i j from c1]
  exact x_zret dJ1_charAt_3b067_14 rfl c2 (Nat.zero_le _) (Nat.zero_le _) hq
theorem tJ_charAt {ω : Om} {h : AH} {Q : Option Value → AH → Prop} {i j : Nat} (hi : i < 5) (hj : j < lenS.getD i 0) (hq : Q (some (.int (chS i j))) h) : Ex ω MJ_charAt 0 [some (.ref (ω.2.2.2.2.1 i)), some (.int (nI j))] [] h 0 0 Q := by
  obtain ⟨c1, c2, c3⟩ := chS_ok i hi j hj
  refine x_aload0 1 dJ0_charAt_5068e_0 rfl ?_
  refine x_callV 4 (ω.2.2.2.2.1 i) [] [] dJ0_charAt_5068e_1 rfl lk_J_isLatin1 ⟨wd200, wd201, wd202⟩ ⟨by decide, by decide⟩ (recvS hi rfl) rfl rfl (Nat.le_of_ble_eq_true rfl) (Nat.le_of_ble_eq_true rfl) (by decide) (by decide) ?_
  refine tJ_isLatin1 hi ?_
  refine x_if_eq 7 16 dJ0_charAt_5068e_4 rfl (by decide) (fun c => absurd c (by decide)) (fun _ => ?_)
  refine x_aload0 8 dJ0_charAt_5068e_7 rfl ?_
  refine x_strV 11 dJ0_charAt_5068e_8 rfl hi wd189 ?_
  refine x_iload1 12 dJ0_charAt_5068e_11 rfl ?_
  refine x_callS 15 [.ref (ω.2.2.2.2.2 i), .int (nI j)] [] dJ0_charAt_5068e_12 rfl lk_J_lcharAt ⟨wd204, wd205⟩ ⟨by decide, by decide⟩ rfl rfl (Nat.le_of_ble_eq_true rfl) (Nat.le_of_ble_eq_true rfl) (by decide) (by decide) ?_
  refine tJ_lcharAt hi hj ?_
  exact x_zret dJ0_charAt_5068e_15 rfl c2 (Nat.zero_le _) (Nat.zero_le _) hq
