/-! ===== BEGIN words of one list among another's, by their places ===== -/
theorem goodIn_r {big : List Cond} (ws : List Cond) (ps : List Nat) (hp : ws = ps.filterMap (fun i => big[i]?)) (h : ws.all goodWord = true) : GoodIn big ws := by
  intro w hw
  have h1 := List.all_eq_true.mp h w hw
  rw [hp] at hw
  obtain ⟨i, -, hi⟩ := List.mem_filterMap.mp hw
  have hm : w ∈ big := by first | exact List.mem_of_getElem? hi | exact List.getElem?_mem hi
  exact ⟨hm, good_of_word h1⟩
theorem goodIn_app {big a b : List Cond} (ha : GoodIn big a) (hb : GoodIn big b) : GoodIn big (a ++ b) := fun w h => (List.mem_append.mp h).elim (ha w) (hb w)
theorem goodIn_ca {big a b : List Cond} {c : Cond} (ha : GoodIn big (c :: a)) (hb : GoodIn big b) : GoodIn big (c :: (a ++ b)) := fun w h => (List.mem_cons.mp h).elim (fun e => ha w (List.mem_cons.mpr (Or.inl e))) (fun h => (List.mem_append.mp h).elim (fun h => ha w (List.mem_cons.mpr (Or.inr h))) (hb w))
theorem goodIn_sub {big ws : List Cond} (hm : ∀ w ∈ ws, w ∈ big) (h : ws.all goodWord = true) : GoodIn big ws := fun w hw => ⟨hm w hw, good_of_word (List.all_eq_true.mp h w hw)⟩
/-! ===== END ===== -/

/-! ===== BEGIN printed: names, fields, word lists, decode rows ===== -/
def RX0 : String := "PalletWrapper$Course"
def TX0 : u_T := fun k => match k with
  | 0 => ("PalletWrapper$Course", "program", "LPalletWrapper$Program;", false)
  | 1 => ("PalletWrapper$Course", "top", "I", false)
  | 2 => ("PalletWrapper$Course", "index", "I", false)
  | 3 => ("PalletWrapper$Course", "stayed", "I", false)
  | 4 => ("PalletWrapper$Course", "height", "I", false)
  | 5 => ("PalletWrapper$Course", "tension", "I", false)
  | _ => ("PalletWrapper$Course", "stretch", "I", false)
def tyX0 : Nat → FieldType := fun k => match k with
  | 0 => .object "PalletWrapper$Program"
  | 1 => .int
  | 2 => .int
  | 3 => .int
  | 4 => .int
  | 5 => .int
  | _ => .int
abbrev wsX00 : List Cond := u_ws RX0 TX0 7
theorem nmX0 : ∀ a, a < 7 → ∀ b, b < 7 → a ≠ b → (TX0 a).2.1 ≠ (TX0 b).2.1 := by decide +kernel
theorem tyX0_ok : ∀ k, k < 7 → parseFieldDescriptor (TX0 k).2.2.1 = some (tyX0 k) := by decide +kernel
abbrev cX0_init : ByteArray := prog_2_method_1_code
def yX0_init : MethodName := ⟨RX0, "<init>", "()V"⟩
abbrev cX0_begin : ByteArray := prog_2_method_2_code
def yX0_begin : MethodName := ⟨RX0, "begin", "(LPalletWrapper$Program;I)V"⟩
abbrev cX0_advance : ByteArray := prog_2_method_3_code
def yX0_advance : MethodName := ⟨RX0, "advance", "()Z"⟩
abbrev cX0_takesTurn : ByteArray := prog_2_method_4_code
def yX0_takesTurn : MethodName := ⟨RX0, "takesTurn", "(II)Z"⟩
def RX1 : String := "PalletWrapper$Pallet"
def TX1 : u_T := fun k => match k with
  | 0 => ("PalletWrapper$Pallet", "number", "I", false)
  | 1 => ("PalletWrapper$Pallet", "width", "I", false)
  | 2 => ("PalletWrapper$Pallet", "depth", "I", false)
  | 3 => ("PalletWrapper$Pallet", "height", "I", false)
  | 4 => ("PalletWrapper$Pallet", "limit", "I", false)
  | _ => ("PalletWrapper$Pallet", "due", "I", false)
def tyX1 : Nat → FieldType := fun k => match k with
  | 0 => .int
  | 1 => .int
  | 2 => .int
  | 3 => .int
  | 4 => .int
  | _ => .int
abbrev wsX10 : List Cond := u_ws RX1 TX1 6
theorem nmX1 : ∀ a, a < 6 → ∀ b, b < 6 → a ≠ b → (TX1 a).2.1 ≠ (TX1 b).2.1 := by decide +kernel
theorem tyX1_ok : ∀ k, k < 6 → parseFieldDescriptor (TX1 k).2.2.1 = some (tyX1 k) := by decide +kernel
abbrev cX1_init : ByteArray := prog_3_method_1_code
def yX1_init : MethodName := ⟨RX1, "<init>", "()V"⟩
abbrev cX1_measure : ByteArray := prog_3_method_2_code
def yX1_measure : MethodName := ⟨RX1, "measure", "(IIII)V"⟩
abbrev cX1_copyFrom : ByteArray := prog_3_method_3_code
def yX1_copyFrom : MethodName := ⟨RX1, "copyFrom", "(LPalletWrapper$Pallet;)V"⟩
abbrev cX1_property : ByteArray := prog_3_method_4_code
def yX1_property : MethodName := ⟨RX1, "property", "(I)I"⟩
abbrev cX1_zones : ByteArray := prog_3_method_5_code
def yX1_zones : MethodName := ⟨RX1, "zones", "()I"⟩
abbrev cX1_top : ByteArray := prog_3_method_6_code
def yX1_top : MethodName := ⟨RX1, "top", "()I"⟩
abbrev cX1_lengthOfTurn : ByteArray := prog_3_method_7_code
def yX1_lengthOfTurn : MethodName := ⟨RX1, "lengthOfTurn", "(I)I"⟩
abbrev cX1_timeOfTurn : ByteArray := prog_3_method_8_code
def yX1_timeOfTurn : MethodName := ⟨RX1, "timeOfTurn", "()I"⟩
def RX2 : String := "PalletWrapper$Program"
def TX2 : u_T := fun k => match k with
  | 0 => ("PalletWrapper$Program", "size", "I", false)
  | 1 => ("PalletWrapper$Program", "kinds", "[I", true)
  | _ => ("PalletWrapper$Program", "amounts", "[I", true)
def tyX2 : Nat → FieldType := fun k => match k with
  | 0 => .int
  | 1 => .array .int
  | _ => .array .int
abbrev wsX20 : List Cond := u_ws RX2 TX2 3
theorem nmX2 : ∀ a, a < 3 → ∀ b, b < 3 → a ≠ b → (TX2 a).2.1 ≠ (TX2 b).2.1 := by decide +kernel
theorem tyX2_ok : ∀ k, k < 3 → parseFieldDescriptor (TX2 k).2.2.1 = some (tyX2 k) := by decide +kernel
abbrev cX2_init : ByteArray := prog_4_method_1_code
def yX2_init : MethodName := ⟨RX2, "<init>", "()V"⟩
abbrev cX2_append : ByteArray := prog_4_method_2_code
def yX2_append : MethodName := ⟨RX2, "append", "(II)V"⟩
abbrev cX2_copyFrom : ByteArray := prog_4_method_3_code
def yX2_copyFrom : MethodName := ⟨RX2, "copyFrom", "(LPalletWrapper$Program;)V"⟩
def RX3 : String := "PalletWrapper$Result"
def TX3 : u_T := fun k => match k with
  | 0 => ("PalletWrapper$Result", "number", "I", false)
  | 1 => ("PalletWrapper$Result", "zones", "I", false)
  | 2 => ("PalletWrapper$Result", "outcome", "I", false)
  | 3 => ("PalletWrapper$Result", "made", "I", false)
  | 4 => ("PalletWrapper$Result", "skipped", "I", false)
  | 5 => ("PalletWrapper$Result", "onPallet", "I", false)
  | 6 => ("PalletWrapper$Result", "tails", "I", false)
  | 7 => ("PalletWrapper$Result", "pieces", "I", false)
  | 8 => ("PalletWrapper$Result", "threading", "I", false)
  | 9 => ("PalletWrapper$Result", "breaks", "I", false)
  | 10 => ("PalletWrapper$Result", "changes", "I", false)
  | 11 => ("PalletWrapper$Result", "time", "I", false)
  | 12 => ("PalletWrapper$Result", "weight", "I", false)
  | 13 => ("PalletWrapper$Result", "layers", "[I", true)
  | _ => ("PalletWrapper$Result", "forces", "[I", true)
def tyX3 : Nat → FieldType := fun k => match k with
  | 0 => .int
  | 1 => .int
  | 2 => .int
  | 3 => .int
  | 4 => .int
  | 5 => .int
  | 6 => .int
  | 7 => .int
  | 8 => .int
  | 9 => .int
  | 10 => .int
  | 11 => .int
  | 12 => .int
  | 13 => .array .int
  | _ => .array .int
abbrev wsX30 : List Cond := u_ws RX3 TX3 15
theorem nmX3 : ∀ a, a < 15 → ∀ b, b < 15 → a ≠ b → (TX3 a).2.1 ≠ (TX3 b).2.1 := by decide +kernel
theorem tyX3_ok : ∀ k, k < 15 → parseFieldDescriptor (TX3 k).2.2.1 = some (tyX3 k) := by decide +kernel
abbrev cX3_init : ByteArray := prog_5_method_1_code
def yX3_init : MethodName := ⟨RX3, "<init>", "()V"⟩
abbrev cX3_begin : ByteArray := prog_5_method_2_code
def yX3_begin : MethodName := ⟨RX3, "begin", "(LPalletWrapper$Pallet;)V"⟩
abbrev cX3_copyFrom : ByteArray := prog_5_method_3_code
def yX3_copyFrom : MethodName := ⟨RX3, "copyFrom", "(LPalletWrapper$Result;)V"⟩
abbrev cX3_greatestForce : ByteArray := prog_5_method_4_code
def yX3_greatestForce : MethodName := ⟨RX3, "greatestForce", "(II)I"⟩
abbrev cX3_addLayer : ByteArray := prog_5_method_5_code
def yX3_addLayer : MethodName := ⟨RX3, "addLayer", "(II)V"⟩
abbrev cX3_property : ByteArray := prog_5_method_6_code
def yX3_property : MethodName := ⟨RX3, "property", "(I)I"⟩
def RX4 : String := "PalletWrapper$Roll"
def TX4 : u_T := fun k => match k with
  | 0 => ("PalletWrapper$Roll", "length", "I", false)
  | 1 => ("PalletWrapper$Roll", "weight", "I", false)
  | 2 => ("PalletWrapper$Roll", "position", "I", false)
  | 3 => ("PalletWrapper$Roll", "weakCount", "I", false)
  | 4 => ("PalletWrapper$Roll", "places", "[I", true)
  | _ => ("PalletWrapper$Roll", "strengths", "[I", true)
def tyX4 : Nat → FieldType := fun k => match k with
  | 0 => .int
  | 1 => .int
  | 2 => .int
  | 3 => .int
  | 4 => .array .int
  | _ => .array .int
abbrev wsX40 : List Cond := u_ws RX4 TX4 6
theorem nmX4 : ∀ a, a < 6 → ∀ b, b < 6 → a ≠ b → (TX4 a).2.1 ≠ (TX4 b).2.1 := by decide +kernel
theorem tyX4_ok : ∀ k, k < 6 → parseFieldDescriptor (TX4 k).2.2.1 = some (tyX4 k) := by decide +kernel
abbrev cX4_init : ByteArray := prog_6_method_1_code
def yX4_init : MethodName := ⟨RX4, "<init>", "()V"⟩
abbrev cX4_begin : ByteArray := prog_6_method_2_code
def yX4_begin : MethodName := ⟨RX4, "begin", "(II)V"⟩
abbrev cX4_copyFrom : ByteArray := prog_6_method_3_code
def yX4_copyFrom : MethodName := ⟨RX4, "copyFrom", "(LPalletWrapper$Roll;)V"⟩
abbrev cX4_rest : ByteArray := prog_6_method_4_code
def yX4_rest : MethodName := ⟨RX4, "rest", "()I"⟩
abbrev cX4_isWeakAt : ByteArray := prog_6_method_5_code
def yX4_isWeakAt : MethodName := ⟨RX4, "isWeakAt", "(I)Z"⟩
abbrev cX4_insertWeakPlace : ByteArray := prog_6_method_6_code
def yX4_insertWeakPlace : MethodName := ⟨RX4, "insertWeakPlace", "(II)V"⟩
abbrev cX4_nextWeak : ByteArray := prog_6_method_7_code
def yX4_nextWeak : MethodName := ⟨RX4, "nextWeak", "()I"⟩
abbrev cX4_property : ByteArray := prog_6_method_8_code
def yX4_property : MethodName := ⟨RX4, "property", "(I)I"⟩
abbrev cX4_breakingPlace : ByteArray := prog_6_method_9_code
def yX4_breakingPlace : MethodName := ⟨RX4, "breakingPlace", "(II)I"⟩
def RX5 : String := "PalletWrapper$State"
def TX5 : u_T := fun k => match k with
  | 0 => ("PalletWrapper$State", "rolls", "[LPalletWrapper$Roll;", true)
  | 1 => ("PalletWrapper$State", "rollCount", "I", false)
  | 2 => ("PalletWrapper$State", "pallets", "[LPalletWrapper$Pallet;", true)
  | 3 => ("PalletWrapper$State", "waitingCount", "I", false)
  | 4 => ("PalletWrapper$State", "nextNumber", "I", false)
  | 5 => ("PalletWrapper$State", "kept", "[LPalletWrapper$Result;", true)
  | 6 => ("PalletWrapper$State", "keptCount", "I", false)
  | 7 => ("PalletWrapper$State", "program", "LPalletWrapper$Program;", true)
  | 8 => ("PalletWrapper$State", "sums", "LPalletWrapper$Sums;", true)
  | 9 => ("PalletWrapper$State", "threading", "I", false)
  | _ => ("PalletWrapper$State", "patience", "I", false)
def tyX5 : Nat → FieldType := fun k => match k with
  | 0 => .array (.object "PalletWrapper$Roll")
  | 1 => .int
  | 2 => .array (.object "PalletWrapper$Pallet")
  | 3 => .int
  | 4 => .int
  | 5 => .array (.object "PalletWrapper$Result")
  | 6 => .int
  | 7 => .object "PalletWrapper$Program"
  | 8 => .object "PalletWrapper$Sums"
  | 9 => .int
  | _ => .int
abbrev wsX50 : List Cond := u_ws RX5 TX5 11
theorem nmX5 : ∀ a, a < 11 → ∀ b, b < 11 → a ≠ b → (TX5 a).2.1 ≠ (TX5 b).2.1 := by decide +kernel
theorem tyX5_ok : ∀ k, k < 11 → parseFieldDescriptor (TX5 k).2.2.1 = some (tyX5 k) := by decide +kernel
abbrev cX5_init : ByteArray := prog_7_method_1_code
def yX5_init : MethodName := ⟨RX5, "<init>", "()V"⟩
abbrev cX5_copyFrom : ByteArray := prog_7_method_2_code
def yX5_copyFrom : MethodName := ⟨RX5, "copyFrom", "(LPalletWrapper$State;)V"⟩
abbrev cX5_appendRoll : ByteArray := prog_7_method_3_code
def yX5_appendRoll : MethodName := ⟨RX5, "appendRoll", "(II)V"⟩
abbrev cX5_removePresentRoll : ByteArray := prog_7_method_4_code
def yX5_removePresentRoll : MethodName := ⟨RX5, "removePresentRoll", "()V"⟩
abbrev cX5_insertPallet : ByteArray := prog_7_method_5_code
def yX5_insertPallet : MethodName := ⟨RX5, "insertPallet", "(I)LPalletWrapper$Pallet;"⟩
abbrev cX5_removePallet : ByteArray := prog_7_method_7_code
def yX5_removePallet : MethodName := ⟨RX5, "removePallet", "(I)V"⟩
abbrev cX5_keepNewResult : ByteArray := prog_7_method_8_code
def yX5_keepNewResult : MethodName := ⟨RX5, "keepNewResult", "()LPalletWrapper$Result;"⟩
abbrev cX5_wrapNext : ByteArray := prog_7_method_9_code
def yX5_wrapNext : MethodName := ⟨RX5, "wrapNext", "(LPalletWrapper$Course;)I"⟩
abbrev cX5_turnOnce : ByteArray := prog_7_method_10_code
def yX5_turnOnce : MethodName := ⟨RX5, "turnOnce", "(LPalletWrapper$Pallet;LPalletWrapper$Course;LPalletWrapper$Result;)V"⟩
abbrev cX5_fetchFilm : ByteArray := prog_7_method_11_code
def yX5_fetchFilm : MethodName := ⟨RX5, "fetchFilm", "(IILPalletWrapper$Result;)I"⟩
abbrev cX5_changeRoll : ByteArray := prog_7_method_12_code
def yX5_changeRoll : MethodName := ⟨RX5, "changeRoll", "(LPalletWrapper$Result;)V"⟩
abbrev cX5_breakFilm : ByteArray := prog_7_method_13_code
def yX5_breakFilm : MethodName := ⟨RX5, "breakFilm", "(ILPalletWrapper$Result;)V"⟩
def RX6 : String := "PalletWrapper$Sums"
def TX6 : u_T := fun k => match k with
  | 0 => ("PalletWrapper$Sums", "pallets", "I", false)
  | 1 => ("PalletWrapper$Sums", "givenUp", "I", false)
  | 2 => ("PalletWrapper$Sums", "made", "I", false)
  | 3 => ("PalletWrapper$Sums", "skipped", "I", false)
  | 4 => ("PalletWrapper$Sums", "onPallets", "I", false)
  | 5 => ("PalletWrapper$Sums", "tails", "I", false)
  | 6 => ("PalletWrapper$Sums", "pieces", "I", false)
  | 7 => ("PalletWrapper$Sums", "threading", "I", false)
  | 8 => ("PalletWrapper$Sums", "breaks", "I", false)
  | 9 => ("PalletWrapper$Sums", "changes", "I", false)
  | 10 => ("PalletWrapper$Sums", "time", "I", false)
  | _ => ("PalletWrapper$Sums", "weight", "J", false)
def tyX6 : Nat → FieldType := fun k => match k with
  | 0 => .int
  | 1 => .int
  | 2 => .int
  | 3 => .int
  | 4 => .int
  | 5 => .int
  | 6 => .int
  | 7 => .int
  | 8 => .int
  | 9 => .int
  | 10 => .int
  | _ => .long
abbrev wsX60 : List Cond := u_ws RX6 TX6 12
theorem nmX6 : ∀ a, a < 12 → ∀ b, b < 12 → a ≠ b → (TX6 a).2.1 ≠ (TX6 b).2.1 := by decide +kernel
theorem tyX6_ok : ∀ k, k < 12 → parseFieldDescriptor (TX6 k).2.2.1 = some (tyX6 k) := by decide +kernel
abbrev cX6_init : ByteArray := prog_8_method_1_code
def yX6_init : MethodName := ⟨RX6, "<init>", "()V"⟩
abbrev cX6_add : ByteArray := prog_8_method_2_code
def yX6_add : MethodName := ⟨RX6, "add", "(LPalletWrapper$Result;)V"⟩
abbrev cX6_copyFrom : ByteArray := prog_8_method_3_code
def yX6_copyFrom : MethodName := ⟨RX6, "copyFrom", "(LPalletWrapper$Sums;)V"⟩
abbrev cX6_property : ByteArray := prog_8_method_4_code
def yX6_property : MethodName := ⟨RX6, "property", "(I)I"⟩
def RX7 : String := "PalletWrapper$Text"
def TX7 : u_T := fun k => match k with
  | 0 => ("PalletWrapper$Text", "characters", "[C", true)
  | _ => ("PalletWrapper$Text", "length", "I", false)
def tyX7 : Nat → FieldType := fun k => match k with
  | 0 => .array .char
  | _ => .int
abbrev wsX70 : List Cond := u_ws RX7 TX7 2
theorem nmX7 : ∀ a, a < 2 → ∀ b, b < 2 → a ≠ b → (TX7 a).2.1 ≠ (TX7 b).2.1 := by decide +kernel
theorem tyX7_ok : ∀ k, k < 2 → parseFieldDescriptor (TX7 k).2.2.1 = some (tyX7 k) := by decide +kernel
abbrev cX7_init : ByteArray := prog_9_method_1_code
def yX7_init : MethodName := ⟨RX7, "<init>", "()V"⟩
abbrev cX7_append : ByteArray := prog_9_method_2_code
def yX7_append : MethodName := ⟨RX7, "append", "(C)V"⟩
abbrev cX7_appendName : ByteArray := prog_9_method_3_code
def yX7_appendName : MethodName := ⟨RX7, "appendName", "(I)V"⟩
abbrev cX7_appendAmount : ByteArray := prog_9_method_4_code
def yX7_appendAmount : MethodName := ⟨RX7, "appendAmount", "(I)V"⟩
abbrev cX7_showProgram : ByteArray := prog_9_method_5_code
def yX7_showProgram : MethodName := ⟨RX7, "showProgram", "(LPalletWrapper$Program;)V"⟩
abbrev cX7_readInto : ByteArray := prog_9_method_6_code
def yX7_readInto : MethodName := ⟨RX7, "readInto", "(LPalletWrapper$Program;)I"⟩
abbrev cX7_isFollowedByStep : ByteArray := prog_9_method_7_code
def yX7_isFollowedByStep : MethodName := ⟨RX7, "isFollowedByStep", "(I)Z"⟩
abbrev cX7_readStep : ByteArray := prog_9_method_8_code
def yX7_readStep : MethodName := ⟨RX7, "readStep", "(ILPalletWrapper$Program;)I"⟩
abbrev cX7_behindName : ByteArray := prog_9_method_9_code
def yX7_behindName : MethodName := ⟨RX7, "behindName", "(II)I"⟩
abbrev cX7_readAmount : ByteArray := prog_9_method_10_code
def yX7_readAmount : MethodName := ⟨RX7, "readAmount", "(IILPalletWrapper$Program;)I"⟩
abbrev cX7_isDigit : ByteArray := prog_9_method_11_code
def yX7_isDigit : MethodName := ⟨RX7, "isDigit", "(C)Z"⟩
def RX8 : String := "PalletWrapper"
def TX8 : u_T := fun k => match k with
  | 0 => ("PalletWrapper", "present", "LPalletWrapper$State;", true)
  | 1 => ("PalletWrapper", "trial", "LPalletWrapper$State;", true)
  | 2 => ("PalletWrapper", "history", "[LPalletWrapper$State;", true)
  | 3 => ("PalletWrapper", "historyCount", "I", false)
  | 4 => ("PalletWrapper", "text", "LPalletWrapper$Text;", true)
  | 5 => ("PalletWrapper", "draft", "LPalletWrapper$Program;", true)
  | 6 => ("PalletWrapper", "course", "LPalletWrapper$Course;", true)
  | _ => ("PalletWrapper", "layersPlanned", "[I", true)
def tyX8 : Nat → FieldType := fun k => match k with
  | 0 => .object "PalletWrapper$State"
  | 1 => .object "PalletWrapper$State"
  | 2 => .array (.object "PalletWrapper$State")
  | 3 => .int
  | 4 => .object "PalletWrapper$Text"
  | 5 => .object "PalletWrapper$Program"
  | 6 => .object "PalletWrapper$Course"
  | _ => .array .int
abbrev wsX80 : List Cond := u_ws RX8 TX8 8
theorem nmX8 : ∀ a, a < 8 → ∀ b, b < 8 → a ≠ b → (TX8 a).2.1 ≠ (TX8 b).2.1 := by decide +kernel
theorem tyX8_ok : ∀ k, k < 8 → parseFieldDescriptor (TX8 k).2.2.1 = some (tyX8 k) := by decide +kernel
abbrev cX8_init : ByteArray := prog_1_method_1_code
def yX8_init : MethodName := ⟨RX8, "<init>", "()V"⟩
abbrev cX8_addRoll : ByteArray := prog_1_method_2_code
def yX8_addRoll : MethodName := ⟨RX8, "addRoll", "(II)I"⟩
abbrev cX8_weaken : ByteArray := prog_1_method_3_code
def yX8_weaken : MethodName := ⟨RX8, "weaken", "(III)I"⟩
abbrev cX8_roll : ByteArray := prog_1_method_4_code
def yX8_roll : MethodName := ⟨RX8, "roll", "(II)I"⟩
abbrev cX8_addPallet : ByteArray := prog_1_method_5_code
def yX8_addPallet : MethodName := ⟨RX8, "addPallet", "(IIIII)I"⟩
abbrev cX8_waiting : ByteArray := prog_1_method_7_code
def yX8_waiting : MethodName := ⟨RX8, "waiting", "(II)I"⟩
abbrev cX8_set : ByteArray := prog_1_method_8_code
def yX8_set : MethodName := ⟨RX8, "set", "(II)I"⟩
abbrev cX8_undo : ByteArray := prog_1_method_9_code
def yX8_undo : MethodName := ⟨RX8, "undo", "()I"⟩
abbrev cX8_count : ByteArray := prog_1_method_10_code
def yX8_count : MethodName := ⟨RX8, "count", "(I)I"⟩
abbrev cX8_type : ByteArray := prog_1_method_11_code
def yX8_type : MethodName := ⟨RX8, "type", "(I)I"⟩
abbrev cX8_clearText : ByteArray := prog_1_method_12_code
def yX8_clearText : MethodName := ⟨RX8, "clearText", "()I"⟩
abbrev cX8_fault : ByteArray := prog_1_method_13_code
def yX8_fault : MethodName := ⟨RX8, "fault", "()I"⟩
abbrev cX8_load : ByteArray := prog_1_method_14_code
def yX8_load : MethodName := ⟨RX8, "load", "()I"⟩
abbrev cX8_step : ByteArray := prog_1_method_15_code
def yX8_step : MethodName := ⟨RX8, "step", "(II)I"⟩
abbrev cX8_write : ByteArray := prog_1_method_16_code
def yX8_write : MethodName := ⟨RX8, "write", "()I"⟩
abbrev cX8_textAt : ByteArray := prog_1_method_17_code
def yX8_textAt : MethodName := ⟨RX8, "textAt", "(I)I"⟩
abbrev cX8_wrap : ByteArray := prog_1_method_18_code
def yX8_wrap : MethodName := ⟨RX8, "wrap", "()I"⟩
abbrev cX8_done : ByteArray := prog_1_method_20_code
def yX8_done : MethodName := ⟨RX8, "done", "(II)I"⟩
abbrev cX8_total : ByteArray := prog_1_method_22_code
def yX8_total : MethodName := ⟨RX8, "total", "(I)I"⟩
abbrev cX8_weight : ByteArray := prog_1_method_23_code
def yX8_weight : MethodName := ⟨RX8, "weight", "()J"⟩
abbrev cX8_outside : ByteArray := prog_1_method_28_code
def yX8_outside : MethodName := ⟨RX8, "outside", "(III)Z"⟩
abbrev cX8_roundedUp : ByteArray := prog_1_method_29_code
def yX8_roundedUp : MethodName := ⟨RX8, "roundedUp", "(II)I"⟩
abbrev cX8_least : ByteArray := prog_1_method_30_code
def yX8_least : MethodName := ⟨RX8, "least", "([II)I"⟩
abbrev cX8_forceOf : ByteArray := prog_1_method_31_code
def yX8_forceOf : MethodName := ⟨RX8, "forceOf", "(I)I"⟩
abbrev cX8_greatestTension : ByteArray := prog_1_method_32_code
def yX8_greatestTension : MethodName := ⟨RX8, "greatestTension", "(II)I"⟩
abbrev cX8_firstZone : ByteArray := prog_1_method_33_code
def yX8_firstZone : MethodName := ⟨RX8, "firstZone", "(I)I"⟩
abbrev cX8_zonesEnd : ByteArray := prog_1_method_34_code
def yX8_zonesEnd : MethodName := ⟨RX8, "zonesEnd", "(II)I"⟩
abbrev cX8_nameOf : ByteArray := prog_1_method_35_code
def yX8_nameOf : MethodName := ⟨RX8, "nameOf", "(I)Ljava/lang/String;"⟩
abbrev cX8_record : ByteArray := prog_1_method_36_code
def yX8_record : MethodName := ⟨RX8, "record", "()V"⟩
def RX9 : String := "PalletWrapperModel"
def TX9 : u_T := fun k => match k with
  | _ => ("", "", "", false)
def tyX9 : Nat → FieldType := fun k => match k with
  | _ => .int
abbrev wsX90 : List Cond := u_ws RX9 TX9 0
theorem nmX9 : ∀ a, a < 0 → ∀ b, b < 0 → a ≠ b → (TX9 a).2.1 ≠ (TX9 b).2.1 := by decide +kernel
theorem tyX9_ok : ∀ k, k < 0 → parseFieldDescriptor (TX9 k).2.2.1 = some (tyX9 k) := by decide +kernel
def RJ9 : String := "java/lang/Math"
def TJ9 : u_T := fun k => match k with
  | _ => ("", "", "", false)
def tyJ9 : Nat → FieldType := fun k => match k with
  | _ => .int
abbrev wsJ90 : List Cond := u_ws RJ9 TJ9 0
theorem nmJ9 : ∀ a, a < 0 → ∀ b, b < 0 → a ≠ b → (TJ9 a).2.1 ≠ (TJ9 b).2.1 := by decide +kernel
theorem tyJ9_ok : ∀ k, k < 0 → parseFieldDescriptor (TJ9 k).2.2.1 = some (tyJ9 k) := by decide +kernel
abbrev cJ9_max_7cf53 : ByteArray := prog_12_method_65_code
def yJ9_max_7cf53 : MethodName := ⟨RJ9, "max", "(II)I"⟩
abbrev cJ9_min_7cf53 : ByteArray := prog_12_method_69_code
def yJ9_min_7cf53 : MethodName := ⟨RJ9, "min", "(II)I"⟩
def RJ0 : String := "java/lang/String"
def TJ0 : u_T := fun k => match k with
  | _ => ("", "", "", false)
def tyJ0 : Nat → FieldType := fun k => match k with
  | _ => .int
abbrev wsJ00 : List Cond := u_ws RJ0 TJ0 0
theorem nmJ0 : ∀ a, a < 0 → ∀ b, b < 0 → a ≠ b → (TJ0 a).2.1 ≠ (TJ0 b).2.1 := by decide +kernel
theorem tyJ0_ok : ∀ k, k < 0 → parseFieldDescriptor (TJ0 k).2.2.1 = some (tyJ0 k) := by decide +kernel
abbrev cJ0_length_8abf5 : ByteArray := prog_13_method_54_code
def yJ0_length_8abf5 : MethodName := ⟨RJ0, "length", "()I"⟩
abbrev cJ0_charAt_5068e : ByteArray := prog_13_method_56_code
def yJ0_charAt_5068e : MethodName := ⟨RJ0, "charAt", "(I)C"⟩
abbrev cJ0_coder_7d493 : ByteArray := prog_13_method_152_code
def yJ0_coder_7d493 : MethodName := ⟨RJ0, "coder", "()B"⟩
abbrev cJ0_isLatin1_aae02 : ByteArray := prog_13_method_154_code
def yJ0_isLatin1_aae02 : MethodName := ⟨RJ0, "isLatin1", "()Z"⟩
abbrev cJ0_checkIndex_df160 : ByteArray := prog_13_method_155_code
def yJ0_checkIndex_df160 : MethodName := ⟨RJ0, "checkIndex", "(II)V"⟩
def RJ1 : String := "java/lang/StringLatin1"
def TJ1 : u_T := fun k => match k with
  | _ => ("", "", "", false)
def tyJ1 : Nat → FieldType := fun k => match k with
  | _ => .int
abbrev wsJ10 : List Cond := u_ws RJ1 TJ1 0
theorem nmJ1 : ∀ a, a < 0 → ∀ b, b < 0 → a ≠ b → (TJ1 a).2.1 ≠ (TJ1 b).2.1 := by decide +kernel
theorem tyJ1_ok : ∀ k, k < 0 → parseFieldDescriptor (TJ1 k).2.2.1 = some (tyJ1 k) := by decide +kernel
abbrev cJ1_charAt_3b067 : ByteArray := prog_14_method_2_code
def yJ1_charAt_3b067 : MethodName := ⟨RJ1, "charAt", "([BI)C"⟩
def RJ2 : String := "java/lang/StringUTF16"
def TJ2 : u_T := fun k => match k with
  | _ => ("", "", "", false)
def tyJ2 : Nat → FieldType := fun k => match k with
  | _ => .int
abbrev wsJ20 : List Cond := u_ws RJ2 TJ2 0
theorem nmJ2 : ∀ a, a < 0 → ∀ b, b < 0 → a ≠ b → (TJ2 a).2.1 ≠ (TJ2 b).2.1 := by decide +kernel
theorem tyJ2_ok : ∀ k, k < 0 → parseFieldDescriptor (TJ2 k).2.2.1 = some (tyJ2 k) := by decide +kernel
abbrev cJ2_getChar_3b067 : ByteArray := prog_15_method_5_code
def yJ2_getChar_3b067 : MethodName := ⟨RJ2, "getChar", "([BI)C"⟩
abbrev cJ2_length_9d52b : ByteArray := prog_15_method_6_code
def yJ2_length_9d52b : MethodName := ⟨RJ2, "length", "([B)I"⟩
abbrev cJ2_charAt_3b067 : ByteArray := prog_15_method_83_code
def yJ2_charAt_3b067 : MethodName := ⟨RJ2, "charAt", "([BI)C"⟩
abbrev cJ2_checkIndex_2214a : ByteArray := prog_15_method_91_code
def yJ2_checkIndex_2214a : MethodName := ⟨RJ2, "checkIndex", "(I[B)V"⟩
def RJ3 : String := "jdk/internal/util/Preconditions"
def TJ3 : u_T := fun k => match k with
  | _ => ("", "", "", false)
def tyJ3 : Nat → FieldType := fun k => match k with
  | _ => .int
abbrev wsJ30 : List Cond := u_ws RJ3 TJ3 0
theorem nmJ3 : ∀ a, a < 0 → ∀ b, b < 0 → a ≠ b → (TJ3 a).2.1 ≠ (TJ3 b).2.1 := by decide +kernel
theorem tyJ3_ok : ∀ k, k < 0 → parseFieldDescriptor (TJ3 k).2.2.1 = some (tyJ3 k) := by decide +kernel
abbrev cJ3_checkIndex_8e157 : ByteArray := prog_16_method_11_code
def yJ3_checkIndex_8e157 : MethodName := ⟨RJ3, "checkIndex", "(IILjava/util/function/BiFunction;)I"⟩
def RL : String := "PalletWrapperLaw"
abbrev cL_cell : ByteArray := method_2_code
def yL_cell : MethodName := ⟨RL, "cell", "([II)I"⟩
abbrev cL_number : ByteArray := method_4_code
def yL_number : MethodName := ⟨RL, "number", "(LPalletWrapper;I)V"⟩
abbrev cL_name : ByteArray := method_5_code
def yL_name : MethodName := ⟨RL, "name", "(LPalletWrapper;I)V"⟩
abbrev cL_programs : ByteArray := method_6_code
def yL_programs : MethodName := ⟨RL, "programs", "(LPalletWrapper;II)I"⟩
abbrev cL_isWritten : ByteArray := method_7_code
def yL_isWritten : MethodName := ⟨RL, "isWritten", "(LPalletWrapper;[II)Z"⟩
abbrev cL_isKept : ByteArray := method_8_code
def yL_isKept : MethodName := ⟨RL, "isKept", "(LPalletWrapper;I)Z"⟩
abbrev cL_isUndone : ByteArray := method_9_code
def yL_isUndone : MethodName := ⟨RL, "isUndone", "(LPalletWrapper;)Z"⟩
abbrev cL_law : ByteArray := code
def yL_law : MethodName := ⟨RL, "law", "([I)Z"⟩
def wsL_cell : List Cond := .code yL_cell cL_cell 2 (some .int) :: ([.constant RL 7 (15485207), .constant RL 8 (2147483647)])
def wsL_number : List Cond := .code yL_number cL_number 3 none :: ([.methodLink RL 9 yX8_type, .instanceMethod yX8_type, .selects RX8 yX8_type yX8_type, .initialized RX8, .code yX8_type cX8_type 2 (some .int), .fieldLink RX8 30 "PalletWrapper" "text" "LPalletWrapper$Text;", .fieldLink RX8 145 "PalletWrapper$Text" "length" "I", .methodLink RX8 53 yX8_outside, .static yX8_outside, .code yX8_outside cX8_outside 3 (some .boolean), .methodLink RX8 149 yX7_append, .instanceMethod yX7_append, .selects RX7 yX7_append yX7_append, .initialized RX7, .code yX7_append cX7_append 2 none, .fieldLink RX7 15 "PalletWrapper$Text" "length" "I", .fieldLink RX7 9 "PalletWrapper$Text" "characters" "[C"] ++ wsX80 ++ wsX70)
def wsL_name : List Cond := .code yL_name cL_name 6 none :: ([.constantLong RL 15 (1937006969), .constantLong RL 17 (30064), .constantLong RL 19 (1685026670), .constantLong RL 21 (32762622355533678), .constantLong RL 23 (32497656998945640), .constantLong RL 25 (255), .methodLink RL 9 yX8_type, .instanceMethod yX8_type, .selects RX8 yX8_type yX8_type, .initialized RX8, .code yX8_type cX8_type 2 (some .int), .fieldLink RX8 30 "PalletWrapper" "text" "LPalletWrapper$Text;", .fieldLink RX8 145 "PalletWrapper$Text" "length" "I", .methodLink RX8 53 yX8_outside, .static yX8_outside, .code yX8_outside cX8_outside 3 (some .boolean), .methodLink RX8 149 yX7_append, .instanceMethod yX7_append, .selects RX7 yX7_append yX7_append, .initialized RX7, .code yX7_append cX7_append 2 none, .fieldLink RX7 15 "PalletWrapper$Text" "length" "I", .fieldLink RX7 9 "PalletWrapper$Text" "characters" "[C"] ++ wsX80 ++ wsX70)
def wsL_programs_r1 : List Cond := [Cond.constant RL 31 (1103515245), Cond.constant RL 8 (2147483647), Cond.methodLink RL 27 yX8_clearText, Cond.instanceMethod yX8_clearText, Cond.selects RX8 yX8_clearText yX8_clearText, Cond.initialized RX8, Cond.code yX8_clearText cX8_clearText 2 (some .int), Cond.fieldLink RX8 30 "PalletWrapper" "text" "LPalletWrapper$Text;", Cond.fieldLink RX8 145 "PalletWrapper$Text" "length" "I", Cond.methodLink RL 9 yX8_type, Cond.instanceMethod yX8_type, Cond.selects RX8 yX8_type yX8_type, Cond.code yX8_type cX8_type 2 (some .int), Cond.methodLink RX8 53 yX8_outside, Cond.static yX8_outside, Cond.code yX8_outside cX8_outside 3 (some .boolean), Cond.methodLink RX8 149 yX7_append, Cond.instanceMethod yX7_append, Cond.selects RX7 yX7_append yX7_append, Cond.initialized RX7, Cond.code yX7_append cX7_append 2 none, Cond.fieldLink RX7 15 "PalletWrapper$Text" "length" "I", Cond.fieldLink RX7 9 "PalletWrapper$Text" "characters" "[C", Cond.methodLink RL 32 yL_name]
def wsL_programs_r2 : List Cond := [Cond.static yL_name, Cond.initialized RL, Cond.code yL_name cL_name 6 none, Cond.constantLong RL 15 (1937006969), Cond.constantLong RL 17 (30064), Cond.constantLong RL 19 (1685026670), Cond.constantLong RL 21 (32762622355533678), Cond.constantLong RL 23 (32497656998945640), Cond.constantLong RL 25 (255), Cond.methodLink RL 38 yL_number, Cond.static yL_number, Cond.code yL_number cL_number 3 none, Cond.methodLink RL 41 yX8_load, Cond.instanceMethod yX8_load, Cond.selects RX8 yX8_load yX8_load, Cond.code yX8_load cX8_load 1 (some .int), Cond.fieldLink RX8 37 "PalletWrapper" "draft" "LPalletWrapper$Program;", Cond.fieldLink RX8 10 "PalletWrapper" "present" "LPalletWrapper$State;", Cond.fieldLink RX8 139 "PalletWrapper$State" "program" "LPalletWrapper$Program;", Cond.fieldLink RX8 142 "PalletWrapper$Program" "size" "I", Cond.methodLink RX8 153 yX7_readInto, Cond.instanceMethod yX7_readInto, Cond.selects RX7 yX7_readInto yX7_readInto, Cond.code yX7_readInto cX7_readInto 5 (some .int)]
def wsL_programs_r3 : List Cond := [Cond.fieldLink RX7 36 "PalletWrapper$Program" "size" "I", Cond.methodLink RX7 55 yX7_readStep, Cond.instanceMethod yX7_readStep, Cond.selects RX7 yX7_readStep yX7_readStep, Cond.code yX7_readStep cX7_readStep 5 (some .int), Cond.methodLink RX7 63 yX7_behindName, Cond.instanceMethod yX7_behindName, Cond.selects RX7 yX7_behindName yX7_behindName, Cond.code yX7_behindName cX7_behindName 6 (some .int), Cond.static yX8_nameOf, Cond.code yX8_nameOf cX8_nameOf 1 (some (.object "java/lang/String")), Cond.methodLink RX7 23 yJ0_length_8abf5, Cond.instanceMethod yJ0_length_8abf5, Cond.selects RJ0 yJ0_length_8abf5 yJ0_length_8abf5, Cond.initialized RJ0, Cond.code yJ0_length_8abf5 cJ0_length_8abf5 1 (some .int), Cond.fieldLink RJ0 9 "java/lang/String" "value" "[B", Cond.methodLink RJ0 335 yJ0_coder_7d493, Cond.instanceMethod yJ0_coder_7d493, Cond.selects RJ0 yJ0_coder_7d493 yJ0_coder_7d493, Cond.code yJ0_coder_7d493 cJ0_coder_7d493 1 (some .byte), Cond.fieldLink RJ0 38 "java/lang/String" "COMPACT_STRINGS" "Z", Cond.fieldLink RJ0 15 "java/lang/String" "coder" "B", Cond.methodLink RX7 28 yJ0_charAt_5068e]
def wsL_programs_r4 : List Cond := [Cond.instanceMethod yJ0_charAt_5068e, Cond.selects RJ0 yJ0_charAt_5068e yJ0_charAt_5068e, Cond.code yJ0_charAt_5068e cJ0_charAt_5068e 2 (some .char), Cond.methodLink RJ0 492 yJ0_isLatin1_aae02, Cond.instanceMethod yJ0_isLatin1_aae02, Cond.selects RJ0 yJ0_isLatin1_aae02 yJ0_isLatin1_aae02, Cond.code yJ0_isLatin1_aae02 cJ0_isLatin1_aae02 1 (some .boolean), Cond.methodLink RJ0 495 yJ1_charAt_3b067, Cond.static yJ1_charAt_3b067, Cond.initialized RJ1, Cond.code yJ1_charAt_3b067 cJ1_charAt_3b067 2 (some .char), Cond.methodLink RJ1 9 yJ0_checkIndex_df160, Cond.static yJ0_checkIndex_df160, Cond.code yJ0_checkIndex_df160 cJ0_checkIndex_df160 2 none, Cond.fieldLink RJ0 1053 "jdk/internal/util/Preconditions" "SIOOBE_FORMATTER" "Ljava/util/function/BiFunction;", Cond.methodLink RJ0 1059 yJ3_checkIndex_8e157, Cond.static yJ3_checkIndex_8e157, Cond.initialized RJ3, Cond.code yJ3_checkIndex_8e157 cJ3_checkIndex_8e157 3 (some .int), Cond.methodLink RJ0 498 yJ2_charAt_3b067, Cond.static yJ2_charAt_3b067, Cond.initialized RJ2, Cond.code yJ2_charAt_3b067 cJ2_charAt_3b067 2 (some .char), Cond.methodLink RJ2 67 yJ2_checkIndex_2214a]
def wsL_programs_r5 : List Cond := [Cond.static yJ2_checkIndex_2214a, Cond.code yJ2_checkIndex_2214a cJ2_checkIndex_2214a 2 none, Cond.methodLink RJ2 48 yJ2_length_9d52b, Cond.static yJ2_length_9d52b, Cond.code yJ2_length_9d52b cJ2_length_9d52b 1 (some .int), Cond.methodLink RJ2 414 yJ0_checkIndex_df160, Cond.methodLink RJ2 71 yJ2_getChar_3b067, Cond.static yJ2_getChar_3b067, Cond.code yJ2_getChar_3b067 cJ2_getChar_3b067 2 (some .char), Cond.fieldLink RJ2 44 "java/lang/StringUTF16" "$assertionsDisabled" "Z", Cond.fieldLink RJ2 59 "java/lang/StringUTF16" "HI_BYTE_SHIFT" "I", Cond.fieldLink RJ2 63 "java/lang/StringUTF16" "LO_BYTE_SHIFT" "I", Cond.methodLink RX7 67 yX7_readAmount, Cond.instanceMethod yX7_readAmount, Cond.selects RX7 yX7_readAmount yX7_readAmount, Cond.code yX7_readAmount cX7_readAmount 6 (some .int), Cond.methodLink RX7 71 yX7_isDigit, Cond.static yX7_isDigit, Cond.code yX7_isDigit cX7_isDigit 1 (some .boolean), Cond.methodLink RX7 85 yX2_append, Cond.instanceMethod yX2_append, Cond.selects RX2 yX2_append yX2_append, Cond.initialized RX2, Cond.code yX2_append cX2_append 3 none]
def wsL_programs_r6 : List Cond := [Cond.fieldLink RX2 18 "PalletWrapper$Program" "size" "I", Cond.fieldLink RX2 9 "PalletWrapper$Program" "kinds" "[I", Cond.fieldLink RX2 15 "PalletWrapper$Program" "amounts" "[I", Cond.methodLink RX7 59 yX7_isFollowedByStep, Cond.instanceMethod yX7_isFollowedByStep, Cond.selects RX7 yX7_isFollowedByStep yX7_isFollowedByStep, Cond.code yX7_isFollowedByStep cX7_isFollowedByStep 2 (some .boolean), Cond.methodLink RX8 60 yX8_record, Cond.instanceMethod yX8_record, Cond.selects RX8 yX8_record yX8_record, Cond.code yX8_record cX8_record 3 none, Cond.fieldLink RX8 23 "PalletWrapper" "historyCount" "I", Cond.fieldLink RX8 19 "PalletWrapper" "history" "[LPalletWrapper$State;", Cond.methodLink RX8 127 yX5_copyFrom, Cond.instanceMethod yX5_copyFrom, Cond.selects RX5 yX5_copyFrom yX5_copyFrom, Cond.initialized RX5, Cond.code yX5_copyFrom cX5_copyFrom 3 none, Cond.fieldLink RX5 53 "PalletWrapper$State" "rollCount" "I", Cond.fieldLink RX5 11 "PalletWrapper$State" "rolls" "[LPalletWrapper$Roll;", Cond.fieldLink RX5 60 "PalletWrapper$State" "waitingCount" "I", Cond.fieldLink RX5 20 "PalletWrapper$State" "pallets" "[LPalletWrapper$Pallet;", Cond.fieldLink RX5 66 "PalletWrapper$State" "nextNumber" "I", Cond.fieldLink RX5 69 "PalletWrapper$State" "keptCount" "I"]
def wsL_programs_r7 : List Cond := [Cond.fieldLink RX5 27 "PalletWrapper$State" "kept" "[LPalletWrapper$Result;", Cond.fieldLink RX5 35 "PalletWrapper$State" "program" "LPalletWrapper$Program;", Cond.fieldLink RX5 42 "PalletWrapper$State" "sums" "LPalletWrapper$Sums;", Cond.fieldLink RX5 46 "PalletWrapper$State" "threading" "I", Cond.fieldLink RX5 50 "PalletWrapper$State" "patience" "I", Cond.methodLink RX5 56 yX4_copyFrom, Cond.instanceMethod yX4_copyFrom, Cond.selects RX4 yX4_copyFrom yX4_copyFrom, Cond.initialized RX4, Cond.code yX4_copyFrom cX4_copyFrom 3 none, Cond.fieldLink RX4 18 "PalletWrapper$Roll" "length" "I", Cond.fieldLink RX4 22 "PalletWrapper$Roll" "weight" "I", Cond.fieldLink RX4 25 "PalletWrapper$Roll" "position" "I", Cond.fieldLink RX4 28 "PalletWrapper$Roll" "weakCount" "I", Cond.fieldLink RX4 9 "PalletWrapper$Roll" "places" "[I", Cond.fieldLink RX4 15 "PalletWrapper$Roll" "strengths" "[I", Cond.methodLink RX5 63 yX1_copyFrom, Cond.instanceMethod yX1_copyFrom, Cond.selects RX1 yX1_copyFrom yX1_copyFrom, Cond.initialized RX1, Cond.code yX1_copyFrom cX1_copyFrom 2 none, Cond.fieldLink RX1 24 "PalletWrapper$Pallet" "number" "I", Cond.fieldLink RX1 27 "PalletWrapper$Pallet" "due" "I", Cond.fieldLink RX1 9 "PalletWrapper$Pallet" "width" "I"]
def wsL_programs_r8 : List Cond := [Cond.fieldLink RX1 15 "PalletWrapper$Pallet" "depth" "I", Cond.fieldLink RX1 18 "PalletWrapper$Pallet" "height" "I", Cond.fieldLink RX1 21 "PalletWrapper$Pallet" "limit" "I", Cond.methodLink RX1 30 yX1_measure, Cond.instanceMethod yX1_measure, Cond.selects RX1 yX1_measure yX1_measure, Cond.code yX1_measure cX1_measure 5 none, Cond.methodLink RX5 72 yX3_copyFrom, Cond.instanceMethod yX3_copyFrom, Cond.selects RX3 yX3_copyFrom yX3_copyFrom, Cond.initialized RX3, Cond.code yX3_copyFrom cX3_copyFrom 3 none, Cond.fieldLink RX3 24 "PalletWrapper$Result" "number" "I", Cond.fieldLink RX3 29 "PalletWrapper$Result" "zones" "I", Cond.fieldLink RX3 31 "PalletWrapper$Result" "outcome" "I", Cond.fieldLink RX3 34 "PalletWrapper$Result" "made" "I", Cond.fieldLink RX3 37 "PalletWrapper$Result" "skipped" "I", Cond.fieldLink RX3 40 "PalletWrapper$Result" "onPallet" "I", Cond.fieldLink RX3 43 "PalletWrapper$Result" "tails" "I", Cond.fieldLink RX3 46 "PalletWrapper$Result" "pieces" "I", Cond.fieldLink RX3 49 "PalletWrapper$Result" "threading" "I", Cond.fieldLink RX3 52 "PalletWrapper$Result" "breaks" "I", Cond.fieldLink RX3 55 "PalletWrapper$Result" "changes" "I", Cond.fieldLink RX3 58 "PalletWrapper$Result" "time" "I"]
def wsL_programs_r9 : List Cond := [Cond.fieldLink RX3 61 "PalletWrapper$Result" "weight" "I", Cond.fieldLink RX3 9 "PalletWrapper$Result" "layers" "[I", Cond.fieldLink RX3 15 "PalletWrapper$Result" "forces" "[I", Cond.methodLink RX5 75 yX2_copyFrom, Cond.instanceMethod yX2_copyFrom, Cond.selects RX2 yX2_copyFrom yX2_copyFrom, Cond.code yX2_copyFrom cX2_copyFrom 3 none, Cond.methodLink RX5 78 yX6_copyFrom, Cond.instanceMethod yX6_copyFrom, Cond.selects RX6 yX6_copyFrom yX6_copyFrom, Cond.initialized RX6, Cond.code yX6_copyFrom cX6_copyFrom 2 none, Cond.fieldLink RX6 9 "PalletWrapper$Sums" "pallets" "I", Cond.fieldLink RX6 15 "PalletWrapper$Sums" "givenUp" "I", Cond.fieldLink RX6 23 "PalletWrapper$Sums" "made" "I", Cond.fieldLink RX6 27 "PalletWrapper$Sums" "skipped" "I", Cond.fieldLink RX6 31 "PalletWrapper$Sums" "onPallets" "I", Cond.fieldLink RX6 37 "PalletWrapper$Sums" "tails" "I", Cond.fieldLink RX6 41 "PalletWrapper$Sums" "pieces" "I", Cond.fieldLink RX6 45 "PalletWrapper$Sums" "threading" "I", Cond.fieldLink RX6 49 "PalletWrapper$Sums" "breaks" "I", Cond.fieldLink RX6 53 "PalletWrapper$Sums" "changes" "I", Cond.fieldLink RX6 57 "PalletWrapper$Sums" "time" "I", Cond.fieldLink RX6 61 "PalletWrapper$Sums" "weight" "J"]
def wsL_programs_r10 : List Cond := [Cond.methodLink RX8 157 yX2_copyFrom]
def wsL_programs : List Cond := .code yL_programs cL_programs 8 (some .int) :: ((wsL_programs_r1 ++ (wsL_programs_r2 ++ (wsL_programs_r3 ++ (wsL_programs_r4 ++ (wsL_programs_r5 ++ (wsL_programs_r6 ++ (wsL_programs_r7 ++ (wsL_programs_r8 ++ (wsL_programs_r9 ++ wsL_programs_r10))))))))) ++ wsX80 ++ wsX70 ++ wsX50 ++ wsX20 ++ wsX40 ++ wsX10 ++ wsX30 ++ wsX60)
def wsL_isWritten_r1 : List Cond := [Cond.methodLink RL 44 yX8_count, Cond.instanceMethod yX8_count, Cond.selects RX8 yX8_count yX8_count, Cond.initialized RX8, Cond.code yX8_count cX8_count 2 (some .int), Cond.fieldLink RX8 10 "PalletWrapper" "present" "LPalletWrapper$State;", Cond.fieldLink RX8 57 "PalletWrapper$State" "rollCount" "I", Cond.fieldLink RX8 93 "PalletWrapper$State" "waitingCount" "I", Cond.fieldLink RX8 131 "PalletWrapper$State" "sums" "LPalletWrapper$Sums;", Cond.fieldLink RX8 135 "PalletWrapper$Sums" "pallets" "I", Cond.fieldLink RX8 139 "PalletWrapper$State" "program" "LPalletWrapper$Program;", Cond.fieldLink RX8 142 "PalletWrapper$Program" "size" "I", Cond.fieldLink RX8 121 "PalletWrapper$State" "threading" "I", Cond.fieldLink RX8 124 "PalletWrapper$State" "patience" "I", Cond.fieldLink RX8 23 "PalletWrapper" "historyCount" "I", Cond.fieldLink RX8 30 "PalletWrapper" "text" "LPalletWrapper$Text;", Cond.fieldLink RX8 145 "PalletWrapper$Text" "length" "I", Cond.fieldLink RX8 146 "PalletWrapper$Sums" "time" "I", Cond.methodLink RL 47 yX8_step, Cond.instanceMethod yX8_step, Cond.selects RX8 yX8_step yX8_step, Cond.code yX8_step cX8_step 3 (some .int), Cond.fieldLink RX8 160 "PalletWrapper$Program" "kinds" "[I", Cond.fieldLink RX8 163 "PalletWrapper$Program" "amounts" "[I"]
def wsL_isWritten_r2 : List Cond := [Cond.methodLink RX8 53 yX8_outside, Cond.static yX8_outside, Cond.code yX8_outside cX8_outside 3 (some .boolean), Cond.methodLink RL 51 yX8_write, Cond.instanceMethod yX8_write, Cond.selects RX8 yX8_write yX8_write, Cond.code yX8_write cX8_write 1 (some .int), Cond.methodLink RX8 166 yX7_showProgram, Cond.instanceMethod yX7_showProgram, Cond.selects RX7 yX7_showProgram yX7_showProgram, Cond.initialized RX7, Cond.code yX7_showProgram cX7_showProgram 3 none, Cond.fieldLink RX7 15 "PalletWrapper$Text" "length" "I", Cond.fieldLink RX7 36 "PalletWrapper$Program" "size" "I", Cond.fieldLink RX7 41 "PalletWrapper$Program" "kinds" "[I", Cond.fieldLink RX7 49 "PalletWrapper$Program" "amounts" "[I", Cond.methodLink RX7 32 yX7_append, Cond.instanceMethod yX7_append, Cond.selects RX7 yX7_append yX7_append, Cond.code yX7_append cX7_append 2 none, Cond.fieldLink RX7 9 "PalletWrapper$Text" "characters" "[C", Cond.methodLink RX7 45 yX7_appendName, Cond.instanceMethod yX7_appendName, Cond.selects RX7 yX7_appendName yX7_appendName]
def wsL_isWritten_r3 : List Cond := [Cond.code yX7_appendName cX7_appendName 4 none, Cond.static yX8_nameOf, Cond.code yX8_nameOf cX8_nameOf 1 (some (.object "java/lang/String")), Cond.methodLink RX7 23 yJ0_length_8abf5, Cond.instanceMethod yJ0_length_8abf5, Cond.selects RJ0 yJ0_length_8abf5 yJ0_length_8abf5, Cond.initialized RJ0, Cond.code yJ0_length_8abf5 cJ0_length_8abf5 1 (some .int), Cond.fieldLink RJ0 9 "java/lang/String" "value" "[B", Cond.methodLink RJ0 335 yJ0_coder_7d493, Cond.instanceMethod yJ0_coder_7d493, Cond.selects RJ0 yJ0_coder_7d493 yJ0_coder_7d493, Cond.code yJ0_coder_7d493 cJ0_coder_7d493 1 (some .byte), Cond.fieldLink RJ0 38 "java/lang/String" "COMPACT_STRINGS" "Z", Cond.fieldLink RJ0 15 "java/lang/String" "coder" "B", Cond.methodLink RX7 28 yJ0_charAt_5068e, Cond.instanceMethod yJ0_charAt_5068e, Cond.selects RJ0 yJ0_charAt_5068e yJ0_charAt_5068e, Cond.code yJ0_charAt_5068e cJ0_charAt_5068e 2 (some .char), Cond.methodLink RJ0 492 yJ0_isLatin1_aae02, Cond.instanceMethod yJ0_isLatin1_aae02, Cond.selects RJ0 yJ0_isLatin1_aae02 yJ0_isLatin1_aae02, Cond.code yJ0_isLatin1_aae02 cJ0_isLatin1_aae02 1 (some .boolean), Cond.methodLink RJ0 495 yJ1_charAt_3b067]
def wsL_isWritten_r4 : List Cond := [Cond.static yJ1_charAt_3b067, Cond.initialized RJ1, Cond.code yJ1_charAt_3b067 cJ1_charAt_3b067 2 (some .char), Cond.methodLink RJ1 9 yJ0_checkIndex_df160, Cond.static yJ0_checkIndex_df160, Cond.code yJ0_checkIndex_df160 cJ0_checkIndex_df160 2 none, Cond.fieldLink RJ0 1053 "jdk/internal/util/Preconditions" "SIOOBE_FORMATTER" "Ljava/util/function/BiFunction;", Cond.methodLink RJ0 1059 yJ3_checkIndex_8e157, Cond.static yJ3_checkIndex_8e157, Cond.initialized RJ3, Cond.code yJ3_checkIndex_8e157 cJ3_checkIndex_8e157 3 (some .int), Cond.methodLink RJ0 498 yJ2_charAt_3b067, Cond.static yJ2_charAt_3b067, Cond.initialized RJ2, Cond.code yJ2_charAt_3b067 cJ2_charAt_3b067 2 (some .char), Cond.methodLink RJ2 67 yJ2_checkIndex_2214a, Cond.static yJ2_checkIndex_2214a, Cond.code yJ2_checkIndex_2214a cJ2_checkIndex_2214a 2 none, Cond.methodLink RJ2 48 yJ2_length_9d52b, Cond.static yJ2_length_9d52b, Cond.code yJ2_length_9d52b cJ2_length_9d52b 1 (some .int), Cond.methodLink RJ2 414 yJ0_checkIndex_df160, Cond.methodLink RJ2 71 yJ2_getChar_3b067, Cond.static yJ2_getChar_3b067]
def wsL_isWritten_r5 : List Cond := [Cond.code yJ2_getChar_3b067 cJ2_getChar_3b067 2 (some .char), Cond.fieldLink RJ2 44 "java/lang/StringUTF16" "$assertionsDisabled" "Z", Cond.fieldLink RJ2 59 "java/lang/StringUTF16" "HI_BYTE_SHIFT" "I", Cond.fieldLink RJ2 63 "java/lang/StringUTF16" "LO_BYTE_SHIFT" "I", Cond.methodLink RX7 52 yX7_appendAmount, Cond.instanceMethod yX7_appendAmount, Cond.selects RX7 yX7_appendAmount yX7_appendAmount, Cond.code yX7_appendAmount cX7_appendAmount 2 none, Cond.methodLink RL 54 yX8_textAt, Cond.instanceMethod yX8_textAt, Cond.selects RX8 yX8_textAt yX8_textAt, Cond.code yX8_textAt cX8_textAt 2 (some .int), Cond.fieldLink RX8 169 "PalletWrapper$Text" "characters" "[C", Cond.methodLink RL 57 yX8_fault, Cond.instanceMethod yX8_fault, Cond.selects RX8 yX8_fault yX8_fault, Cond.code yX8_fault cX8_fault 2 (some .int), Cond.fieldLink RX8 37 "PalletWrapper" "draft" "LPalletWrapper$Program;", Cond.methodLink RX8 153 yX7_readInto, Cond.instanceMethod yX7_readInto, Cond.selects RX7 yX7_readInto yX7_readInto, Cond.code yX7_readInto cX7_readInto 5 (some .int), Cond.methodLink RX7 55 yX7_readStep, Cond.instanceMethod yX7_readStep]
def wsL_isWritten_r6 : List Cond := [Cond.selects RX7 yX7_readStep yX7_readStep, Cond.code yX7_readStep cX7_readStep 5 (some .int), Cond.methodLink RX7 63 yX7_behindName, Cond.instanceMethod yX7_behindName, Cond.selects RX7 yX7_behindName yX7_behindName, Cond.code yX7_behindName cX7_behindName 6 (some .int), Cond.methodLink RX7 67 yX7_readAmount, Cond.instanceMethod yX7_readAmount, Cond.selects RX7 yX7_readAmount yX7_readAmount, Cond.code yX7_readAmount cX7_readAmount 6 (some .int), Cond.methodLink RX7 71 yX7_isDigit, Cond.static yX7_isDigit, Cond.code yX7_isDigit cX7_isDigit 1 (some .boolean), Cond.methodLink RX7 85 yX2_append, Cond.instanceMethod yX2_append, Cond.selects RX2 yX2_append yX2_append, Cond.initialized RX2, Cond.code yX2_append cX2_append 3 none, Cond.fieldLink RX2 18 "PalletWrapper$Program" "size" "I", Cond.fieldLink RX2 9 "PalletWrapper$Program" "kinds" "[I", Cond.fieldLink RX2 15 "PalletWrapper$Program" "amounts" "[I", Cond.methodLink RX7 59 yX7_isFollowedByStep, Cond.instanceMethod yX7_isFollowedByStep, Cond.selects RX7 yX7_isFollowedByStep yX7_isFollowedByStep]
def wsL_isWritten_r7 : List Cond := [Cond.code yX7_isFollowedByStep cX7_isFollowedByStep 2 (some .boolean), Cond.methodLink RL 41 yX8_load, Cond.instanceMethod yX8_load, Cond.selects RX8 yX8_load yX8_load, Cond.code yX8_load cX8_load 1 (some .int), Cond.methodLink RX8 60 yX8_record, Cond.instanceMethod yX8_record, Cond.selects RX8 yX8_record yX8_record, Cond.code yX8_record cX8_record 3 none, Cond.fieldLink RX8 19 "PalletWrapper" "history" "[LPalletWrapper$State;", Cond.methodLink RX8 127 yX5_copyFrom, Cond.instanceMethod yX5_copyFrom, Cond.selects RX5 yX5_copyFrom yX5_copyFrom, Cond.initialized RX5, Cond.code yX5_copyFrom cX5_copyFrom 3 none, Cond.fieldLink RX5 53 "PalletWrapper$State" "rollCount" "I", Cond.fieldLink RX5 11 "PalletWrapper$State" "rolls" "[LPalletWrapper$Roll;", Cond.fieldLink RX5 60 "PalletWrapper$State" "waitingCount" "I", Cond.fieldLink RX5 20 "PalletWrapper$State" "pallets" "[LPalletWrapper$Pallet;", Cond.fieldLink RX5 66 "PalletWrapper$State" "nextNumber" "I", Cond.fieldLink RX5 69 "PalletWrapper$State" "keptCount" "I", Cond.fieldLink RX5 27 "PalletWrapper$State" "kept" "[LPalletWrapper$Result;", Cond.fieldLink RX5 35 "PalletWrapper$State" "program" "LPalletWrapper$Program;", Cond.fieldLink RX5 42 "PalletWrapper$State" "sums" "LPalletWrapper$Sums;"]
def wsL_isWritten_r8 : List Cond := [Cond.fieldLink RX5 46 "PalletWrapper$State" "threading" "I", Cond.fieldLink RX5 50 "PalletWrapper$State" "patience" "I", Cond.methodLink RX5 56 yX4_copyFrom, Cond.instanceMethod yX4_copyFrom, Cond.selects RX4 yX4_copyFrom yX4_copyFrom, Cond.initialized RX4, Cond.code yX4_copyFrom cX4_copyFrom 3 none, Cond.fieldLink RX4 18 "PalletWrapper$Roll" "length" "I", Cond.fieldLink RX4 22 "PalletWrapper$Roll" "weight" "I", Cond.fieldLink RX4 25 "PalletWrapper$Roll" "position" "I", Cond.fieldLink RX4 28 "PalletWrapper$Roll" "weakCount" "I", Cond.fieldLink RX4 9 "PalletWrapper$Roll" "places" "[I", Cond.fieldLink RX4 15 "PalletWrapper$Roll" "strengths" "[I", Cond.methodLink RX5 63 yX1_copyFrom, Cond.instanceMethod yX1_copyFrom, Cond.selects RX1 yX1_copyFrom yX1_copyFrom, Cond.initialized RX1, Cond.code yX1_copyFrom cX1_copyFrom 2 none, Cond.fieldLink RX1 24 "PalletWrapper$Pallet" "number" "I", Cond.fieldLink RX1 27 "PalletWrapper$Pallet" "due" "I", Cond.fieldLink RX1 9 "PalletWrapper$Pallet" "width" "I", Cond.fieldLink RX1 15 "PalletWrapper$Pallet" "depth" "I", Cond.fieldLink RX1 18 "PalletWrapper$Pallet" "height" "I", Cond.fieldLink RX1 21 "PalletWrapper$Pallet" "limit" "I"]
def wsL_isWritten_r9 : List Cond := [Cond.methodLink RX1 30 yX1_measure, Cond.instanceMethod yX1_measure, Cond.selects RX1 yX1_measure yX1_measure, Cond.code yX1_measure cX1_measure 5 none, Cond.methodLink RX5 72 yX3_copyFrom, Cond.instanceMethod yX3_copyFrom, Cond.selects RX3 yX3_copyFrom yX3_copyFrom, Cond.initialized RX3, Cond.code yX3_copyFrom cX3_copyFrom 3 none, Cond.fieldLink RX3 24 "PalletWrapper$Result" "number" "I", Cond.fieldLink RX3 29 "PalletWrapper$Result" "zones" "I", Cond.fieldLink RX3 31 "PalletWrapper$Result" "outcome" "I", Cond.fieldLink RX3 34 "PalletWrapper$Result" "made" "I", Cond.fieldLink RX3 37 "PalletWrapper$Result" "skipped" "I", Cond.fieldLink RX3 40 "PalletWrapper$Result" "onPallet" "I", Cond.fieldLink RX3 43 "PalletWrapper$Result" "tails" "I", Cond.fieldLink RX3 46 "PalletWrapper$Result" "pieces" "I", Cond.fieldLink RX3 49 "PalletWrapper$Result" "threading" "I", Cond.fieldLink RX3 52 "PalletWrapper$Result" "breaks" "I", Cond.fieldLink RX3 55 "PalletWrapper$Result" "changes" "I", Cond.fieldLink RX3 58 "PalletWrapper$Result" "time" "I", Cond.fieldLink RX3 61 "PalletWrapper$Result" "weight" "I", Cond.fieldLink RX3 9 "PalletWrapper$Result" "layers" "[I", Cond.fieldLink RX3 15 "PalletWrapper$Result" "forces" "[I"]
def wsL_isWritten_r10 : List Cond := [Cond.methodLink RX5 75 yX2_copyFrom, Cond.instanceMethod yX2_copyFrom, Cond.selects RX2 yX2_copyFrom yX2_copyFrom, Cond.code yX2_copyFrom cX2_copyFrom 3 none, Cond.methodLink RX5 78 yX6_copyFrom, Cond.instanceMethod yX6_copyFrom, Cond.selects RX6 yX6_copyFrom yX6_copyFrom, Cond.initialized RX6, Cond.code yX6_copyFrom cX6_copyFrom 2 none, Cond.fieldLink RX6 9 "PalletWrapper$Sums" "pallets" "I", Cond.fieldLink RX6 15 "PalletWrapper$Sums" "givenUp" "I", Cond.fieldLink RX6 23 "PalletWrapper$Sums" "made" "I", Cond.fieldLink RX6 27 "PalletWrapper$Sums" "skipped" "I", Cond.fieldLink RX6 31 "PalletWrapper$Sums" "onPallets" "I", Cond.fieldLink RX6 37 "PalletWrapper$Sums" "tails" "I", Cond.fieldLink RX6 41 "PalletWrapper$Sums" "pieces" "I", Cond.fieldLink RX6 45 "PalletWrapper$Sums" "threading" "I", Cond.fieldLink RX6 49 "PalletWrapper$Sums" "breaks" "I", Cond.fieldLink RX6 53 "PalletWrapper$Sums" "changes" "I", Cond.fieldLink RX6 57 "PalletWrapper$Sums" "time" "I", Cond.fieldLink RX6 61 "PalletWrapper$Sums" "weight" "J", Cond.methodLink RX8 157 yX2_copyFrom, Cond.methodLink RL 9 yX8_type, Cond.instanceMethod yX8_type]
def wsL_isWritten_r11 : List Cond := [Cond.selects RX8 yX8_type yX8_type, Cond.code yX8_type cX8_type 2 (some .int), Cond.methodLink RX8 149 yX7_append]
def wsL_isWritten : List Cond := .code yL_isWritten cL_isWritten 7 (some .boolean) :: ((wsL_isWritten_r1 ++ (wsL_isWritten_r2 ++ (wsL_isWritten_r3 ++ (wsL_isWritten_r4 ++ (wsL_isWritten_r5 ++ (wsL_isWritten_r6 ++ (wsL_isWritten_r7 ++ (wsL_isWritten_r8 ++ (wsL_isWritten_r9 ++ (wsL_isWritten_r10 ++ wsL_isWritten_r11)))))))))) ++ wsX80 ++ wsX50 ++ wsX60 ++ wsX20 ++ wsX70 ++ wsX40 ++ wsX10 ++ wsX30)
def wsL_isKept_r1 : List Cond := [Cond.methodLink RL 44 yX8_count, Cond.instanceMethod yX8_count, Cond.selects RX8 yX8_count yX8_count, Cond.initialized RX8, Cond.code yX8_count cX8_count 2 (some .int), Cond.fieldLink RX8 10 "PalletWrapper" "present" "LPalletWrapper$State;", Cond.fieldLink RX8 57 "PalletWrapper$State" "rollCount" "I", Cond.fieldLink RX8 93 "PalletWrapper$State" "waitingCount" "I", Cond.fieldLink RX8 131 "PalletWrapper$State" "sums" "LPalletWrapper$Sums;", Cond.fieldLink RX8 135 "PalletWrapper$Sums" "pallets" "I", Cond.fieldLink RX8 139 "PalletWrapper$State" "program" "LPalletWrapper$Program;", Cond.fieldLink RX8 142 "PalletWrapper$Program" "size" "I", Cond.fieldLink RX8 121 "PalletWrapper$State" "threading" "I", Cond.fieldLink RX8 124 "PalletWrapper$State" "patience" "I", Cond.fieldLink RX8 23 "PalletWrapper" "historyCount" "I", Cond.fieldLink RX8 30 "PalletWrapper" "text" "LPalletWrapper$Text;", Cond.fieldLink RX8 145 "PalletWrapper$Text" "length" "I", Cond.fieldLink RX8 146 "PalletWrapper$Sums" "time" "I", Cond.methodLink RL 60 yX8_roll, Cond.instanceMethod yX8_roll, Cond.selects RX8 yX8_roll yX8_roll, Cond.code yX8_roll cX8_roll 3 (some .int), Cond.fieldLink RX8 67 "PalletWrapper$State" "rolls" "[LPalletWrapper$Roll;", Cond.methodLink RX8 53 yX8_outside]
def wsL_isKept_r2 : List Cond := [Cond.static yX8_outside, Cond.code yX8_outside cX8_outside 3 (some .boolean), Cond.methodLink RX8 89 yX4_property, Cond.instanceMethod yX4_property, Cond.selects RX4 yX4_property yX4_property, Cond.initialized RX4, Cond.code yX4_property cX4_property 3 (some .int), Cond.fieldLink RX4 18 "PalletWrapper$Roll" "length" "I", Cond.fieldLink RX4 22 "PalletWrapper$Roll" "weight" "I", Cond.fieldLink RX4 25 "PalletWrapper$Roll" "position" "I", Cond.fieldLink RX4 28 "PalletWrapper$Roll" "weakCount" "I", Cond.fieldLink RX4 9 "PalletWrapper$Roll" "places" "[I", Cond.fieldLink RX4 15 "PalletWrapper$Roll" "strengths" "[I", Cond.methodLink RX4 31 yX4_nextWeak, Cond.instanceMethod yX4_nextWeak, Cond.selects RX4 yX4_nextWeak yX4_nextWeak, Cond.code yX4_nextWeak cX4_nextWeak 2 (some .int), Cond.methodLink RL 63 yX8_total, Cond.instanceMethod yX8_total, Cond.selects RX8 yX8_total yX8_total, Cond.code yX8_total cX8_total 2 (some .int), Cond.methodLink RX8 196 yX6_property, Cond.instanceMethod yX6_property, Cond.selects RX6 yX6_property yX6_property]
def wsL_isKept_r3 : List Cond := [Cond.initialized RX6, Cond.code yX6_property cX6_property 2 (some .int), Cond.fieldLink RX6 31 "PalletWrapper$Sums" "onPallets" "I", Cond.fieldLink RX6 37 "PalletWrapper$Sums" "tails" "I", Cond.fieldLink RX6 41 "PalletWrapper$Sums" "pieces" "I", Cond.fieldLink RX6 45 "PalletWrapper$Sums" "threading" "I", Cond.fieldLink RX6 49 "PalletWrapper$Sums" "breaks" "I", Cond.fieldLink RX6 53 "PalletWrapper$Sums" "changes" "I", Cond.fieldLink RX6 23 "PalletWrapper$Sums" "made" "I", Cond.fieldLink RX6 27 "PalletWrapper$Sums" "skipped" "I", Cond.fieldLink RX6 15 "PalletWrapper$Sums" "givenUp" "I"]
def wsL_isKept : List Cond := .code yL_isKept cL_isKept 6 (some .boolean) :: ((wsL_isKept_r1 ++ (wsL_isKept_r2 ++ wsL_isKept_r3)) ++ wsX80 ++ wsX50 ++ wsX60 ++ wsX20 ++ wsX70 ++ wsX40)
def wsL_isUndone_r1 : List Cond := [Cond.methodLink RL 44 yX8_count, Cond.instanceMethod yX8_count, Cond.selects RX8 yX8_count yX8_count, Cond.initialized RX8, Cond.code yX8_count cX8_count 2 (some .int), Cond.fieldLink RX8 10 "PalletWrapper" "present" "LPalletWrapper$State;", Cond.fieldLink RX8 57 "PalletWrapper$State" "rollCount" "I", Cond.fieldLink RX8 93 "PalletWrapper$State" "waitingCount" "I", Cond.fieldLink RX8 131 "PalletWrapper$State" "sums" "LPalletWrapper$Sums;", Cond.fieldLink RX8 135 "PalletWrapper$Sums" "pallets" "I", Cond.fieldLink RX8 139 "PalletWrapper$State" "program" "LPalletWrapper$Program;", Cond.fieldLink RX8 142 "PalletWrapper$Program" "size" "I", Cond.fieldLink RX8 121 "PalletWrapper$State" "threading" "I", Cond.fieldLink RX8 124 "PalletWrapper$State" "patience" "I", Cond.fieldLink RX8 23 "PalletWrapper" "historyCount" "I", Cond.fieldLink RX8 30 "PalletWrapper" "text" "LPalletWrapper$Text;", Cond.fieldLink RX8 145 "PalletWrapper$Text" "length" "I", Cond.fieldLink RX8 146 "PalletWrapper$Sums" "time" "I", Cond.methodLink RL 66 yX8_waiting, Cond.instanceMethod yX8_waiting, Cond.selects RX8 yX8_waiting yX8_waiting, Cond.code yX8_waiting cX8_waiting 3 (some .int), Cond.fieldLink RX8 116 "PalletWrapper$State" "pallets" "[LPalletWrapper$Pallet;", Cond.methodLink RX8 53 yX8_outside]
def wsL_isUndone_r2 : List Cond := [Cond.static yX8_outside, Cond.code yX8_outside cX8_outside 3 (some .boolean), Cond.methodLink RX8 120 yX1_property, Cond.instanceMethod yX1_property, Cond.selects RX1 yX1_property yX1_property, Cond.initialized RX1, Cond.code yX1_property cX1_property 2 (some .int), Cond.fieldLink RX1 24 "PalletWrapper$Pallet" "number" "I", Cond.fieldLink RX1 9 "PalletWrapper$Pallet" "width" "I", Cond.fieldLink RX1 15 "PalletWrapper$Pallet" "depth" "I", Cond.fieldLink RX1 18 "PalletWrapper$Pallet" "height" "I", Cond.fieldLink RX1 21 "PalletWrapper$Pallet" "limit" "I", Cond.fieldLink RX1 27 "PalletWrapper$Pallet" "due" "I", Cond.methodLink RL 60 yX8_roll, Cond.instanceMethod yX8_roll, Cond.selects RX8 yX8_roll yX8_roll, Cond.code yX8_roll cX8_roll 3 (some .int), Cond.fieldLink RX8 67 "PalletWrapper$State" "rolls" "[LPalletWrapper$Roll;", Cond.methodLink RX8 89 yX4_property, Cond.instanceMethod yX4_property, Cond.selects RX4 yX4_property yX4_property, Cond.initialized RX4, Cond.code yX4_property cX4_property 3 (some .int), Cond.fieldLink RX4 18 "PalletWrapper$Roll" "length" "I"]
def wsL_isUndone_r3 : List Cond := [Cond.fieldLink RX4 22 "PalletWrapper$Roll" "weight" "I", Cond.fieldLink RX4 25 "PalletWrapper$Roll" "position" "I", Cond.fieldLink RX4 28 "PalletWrapper$Roll" "weakCount" "I", Cond.fieldLink RX4 9 "PalletWrapper$Roll" "places" "[I", Cond.fieldLink RX4 15 "PalletWrapper$Roll" "strengths" "[I", Cond.methodLink RX4 31 yX4_nextWeak, Cond.instanceMethod yX4_nextWeak, Cond.selects RX4 yX4_nextWeak yX4_nextWeak, Cond.code yX4_nextWeak cX4_nextWeak 2 (some .int), Cond.methodLink RL 63 yX8_total, Cond.instanceMethod yX8_total, Cond.selects RX8 yX8_total yX8_total, Cond.code yX8_total cX8_total 2 (some .int), Cond.methodLink RX8 196 yX6_property, Cond.instanceMethod yX6_property, Cond.selects RX6 yX6_property yX6_property, Cond.initialized RX6, Cond.code yX6_property cX6_property 2 (some .int), Cond.fieldLink RX6 31 "PalletWrapper$Sums" "onPallets" "I", Cond.fieldLink RX6 37 "PalletWrapper$Sums" "tails" "I", Cond.fieldLink RX6 41 "PalletWrapper$Sums" "pieces" "I", Cond.fieldLink RX6 45 "PalletWrapper$Sums" "threading" "I", Cond.fieldLink RX6 49 "PalletWrapper$Sums" "breaks" "I", Cond.fieldLink RX6 53 "PalletWrapper$Sums" "changes" "I"]
def wsL_isUndone_r4 : List Cond := [Cond.fieldLink RX6 23 "PalletWrapper$Sums" "made" "I", Cond.fieldLink RX6 27 "PalletWrapper$Sums" "skipped" "I", Cond.fieldLink RX6 15 "PalletWrapper$Sums" "givenUp" "I", Cond.methodLink RL 69 yX8_weight, Cond.instanceMethod yX8_weight, Cond.selects RX8 yX8_weight yX8_weight, Cond.code yX8_weight cX8_weight 1 (some .long), Cond.fieldLink RX8 197 "PalletWrapper$Sums" "weight" "J", Cond.methodLink RL 73 yX8_wrap, Cond.instanceMethod yX8_wrap, Cond.selects RX8 yX8_wrap yX8_wrap, Cond.code yX8_wrap cX8_wrap 1 (some .int), Cond.fieldLink RX8 44 "PalletWrapper" "course" "LPalletWrapper$Course;", Cond.methodLink RX8 60 yX8_record, Cond.instanceMethod yX8_record, Cond.selects RX8 yX8_record yX8_record, Cond.code yX8_record cX8_record 3 none, Cond.fieldLink RX8 19 "PalletWrapper" "history" "[LPalletWrapper$State;", Cond.methodLink RX8 127 yX5_copyFrom, Cond.instanceMethod yX5_copyFrom, Cond.selects RX5 yX5_copyFrom yX5_copyFrom, Cond.initialized RX5, Cond.code yX5_copyFrom cX5_copyFrom 3 none, Cond.fieldLink RX5 53 "PalletWrapper$State" "rollCount" "I"]
def wsL_isUndone_r5 : List Cond := [Cond.fieldLink RX5 11 "PalletWrapper$State" "rolls" "[LPalletWrapper$Roll;", Cond.fieldLink RX5 60 "PalletWrapper$State" "waitingCount" "I", Cond.fieldLink RX5 20 "PalletWrapper$State" "pallets" "[LPalletWrapper$Pallet;", Cond.fieldLink RX5 66 "PalletWrapper$State" "nextNumber" "I", Cond.fieldLink RX5 69 "PalletWrapper$State" "keptCount" "I", Cond.fieldLink RX5 27 "PalletWrapper$State" "kept" "[LPalletWrapper$Result;", Cond.fieldLink RX5 35 "PalletWrapper$State" "program" "LPalletWrapper$Program;", Cond.fieldLink RX5 42 "PalletWrapper$State" "sums" "LPalletWrapper$Sums;", Cond.fieldLink RX5 46 "PalletWrapper$State" "threading" "I", Cond.fieldLink RX5 50 "PalletWrapper$State" "patience" "I", Cond.methodLink RX5 56 yX4_copyFrom, Cond.instanceMethod yX4_copyFrom, Cond.selects RX4 yX4_copyFrom yX4_copyFrom, Cond.code yX4_copyFrom cX4_copyFrom 3 none, Cond.methodLink RX5 63 yX1_copyFrom, Cond.instanceMethod yX1_copyFrom, Cond.selects RX1 yX1_copyFrom yX1_copyFrom, Cond.code yX1_copyFrom cX1_copyFrom 2 none, Cond.methodLink RX1 30 yX1_measure, Cond.instanceMethod yX1_measure, Cond.selects RX1 yX1_measure yX1_measure, Cond.code yX1_measure cX1_measure 5 none, Cond.methodLink RX5 72 yX3_copyFrom, Cond.instanceMethod yX3_copyFrom]
def wsL_isUndone_r6 : List Cond := [Cond.selects RX3 yX3_copyFrom yX3_copyFrom, Cond.initialized RX3, Cond.code yX3_copyFrom cX3_copyFrom 3 none, Cond.fieldLink RX3 24 "PalletWrapper$Result" "number" "I", Cond.fieldLink RX3 29 "PalletWrapper$Result" "zones" "I", Cond.fieldLink RX3 31 "PalletWrapper$Result" "outcome" "I", Cond.fieldLink RX3 34 "PalletWrapper$Result" "made" "I", Cond.fieldLink RX3 37 "PalletWrapper$Result" "skipped" "I", Cond.fieldLink RX3 40 "PalletWrapper$Result" "onPallet" "I", Cond.fieldLink RX3 43 "PalletWrapper$Result" "tails" "I", Cond.fieldLink RX3 46 "PalletWrapper$Result" "pieces" "I", Cond.fieldLink RX3 49 "PalletWrapper$Result" "threading" "I", Cond.fieldLink RX3 52 "PalletWrapper$Result" "breaks" "I", Cond.fieldLink RX3 55 "PalletWrapper$Result" "changes" "I", Cond.fieldLink RX3 58 "PalletWrapper$Result" "time" "I", Cond.fieldLink RX3 61 "PalletWrapper$Result" "weight" "I", Cond.fieldLink RX3 9 "PalletWrapper$Result" "layers" "[I", Cond.fieldLink RX3 15 "PalletWrapper$Result" "forces" "[I", Cond.methodLink RX5 75 yX2_copyFrom, Cond.instanceMethod yX2_copyFrom, Cond.selects RX2 yX2_copyFrom yX2_copyFrom, Cond.initialized RX2, Cond.code yX2_copyFrom cX2_copyFrom 3 none, Cond.fieldLink RX2 18 "PalletWrapper$Program" "size" "I"]
def wsL_isUndone_r7 : List Cond := [Cond.fieldLink RX2 9 "PalletWrapper$Program" "kinds" "[I", Cond.fieldLink RX2 15 "PalletWrapper$Program" "amounts" "[I", Cond.methodLink RX5 78 yX6_copyFrom, Cond.instanceMethod yX6_copyFrom, Cond.selects RX6 yX6_copyFrom yX6_copyFrom, Cond.code yX6_copyFrom cX6_copyFrom 2 none, Cond.fieldLink RX6 9 "PalletWrapper$Sums" "pallets" "I", Cond.fieldLink RX6 57 "PalletWrapper$Sums" "time" "I", Cond.fieldLink RX6 61 "PalletWrapper$Sums" "weight" "J", Cond.methodLink RX8 173 yX5_wrapNext, Cond.instanceMethod yX5_wrapNext, Cond.selects RX5 yX5_wrapNext yX5_wrapNext, Cond.code yX5_wrapNext cX5_wrapNext 5 (some .int), Cond.constant RX5 112 (1000000), Cond.fieldLink RX5 113 "PalletWrapper$Result" "outcome" "I", Cond.methodLink RX5 97 yX5_keepNewResult, Cond.instanceMethod yX5_keepNewResult, Cond.selects RX5 yX5_keepNewResult yX5_keepNewResult, Cond.code yX5_keepNewResult cX5_keepNewResult 3 (some (.object "PalletWrapper$Result")), Cond.methodLink RX5 85 Lib.Math.min.name, Cond.static Lib.Math.min.name, Cond.initialized "java/lang/Math", Cond.code Lib.Math.min.name Lib.Math.min.code 2 (some .int), Cond.methodLink RX5 101 yX3_begin]
def wsL_isUndone_r8 : List Cond := [Cond.instanceMethod yX3_begin, Cond.selects RX3 yX3_begin yX3_begin, Cond.code yX3_begin cX3_begin 3 none, Cond.fieldLink RX3 18 "PalletWrapper$Pallet" "number" "I", Cond.methodLink RX3 25 yX1_zones, Cond.instanceMethod yX1_zones, Cond.selects RX1 yX1_zones yX1_zones, Cond.code yX1_zones cX1_zones 1 (some .int), Cond.static yX8_roundedUp, Cond.code yX8_roundedUp cX8_roundedUp 2 (some .int), Cond.methodLink RX5 103 yX1_top, Cond.instanceMethod yX1_top, Cond.selects RX1 yX1_top yX1_top, Cond.code yX1_top cX1_top 1 (some .int), Cond.methodLink RX1 38 Lib.Math.max.name, Cond.static Lib.Math.max.name, Cond.code Lib.Math.max.name Lib.Math.max.code 2 (some .int), Cond.methodLink RX5 107 yX0_begin, Cond.instanceMethod yX0_begin, Cond.selects RX0 yX0_begin yX0_begin, Cond.initialized RX0, Cond.code yX0_begin cX0_begin 3 none, Cond.fieldLink RX0 12 "PalletWrapper$Course" "program" "LPalletWrapper$Program;", Cond.fieldLink RX0 18 "PalletWrapper$Course" "top" "I"]
def wsL_isUndone_r9 : List Cond := [Cond.fieldLink RX0 22 "PalletWrapper$Course" "index" "I", Cond.fieldLink RX0 25 "PalletWrapper$Course" "stayed" "I", Cond.fieldLink RX0 28 "PalletWrapper$Course" "height" "I", Cond.fieldLink RX0 31 "PalletWrapper$Course" "tension" "I", Cond.fieldLink RX0 34 "PalletWrapper$Course" "stretch" "I", Cond.methodLink RX5 116 yX0_advance, Cond.instanceMethod yX0_advance, Cond.selects RX0 yX0_advance yX0_advance, Cond.code yX0_advance cX0_advance 1 (some .boolean), Cond.fieldLink RX0 37 "PalletWrapper$Program" "size" "I", Cond.fieldLink RX0 40 "PalletWrapper$Program" "kinds" "[I", Cond.fieldLink RX0 44 "PalletWrapper$Program" "amounts" "[I", Cond.methodLink RX0 47 yX0_takesTurn, Cond.instanceMethod yX0_takesTurn, Cond.selects RX0 yX0_takesTurn yX0_takesTurn, Cond.code yX0_takesTurn cX0_takesTurn 3 (some .boolean), Cond.methodLink RX0 51 Lib.Math.min.name, Cond.methodLink RX0 57 Lib.Math.max.name, Cond.methodLink RX5 120 yX5_turnOnce, Cond.instanceMethod yX5_turnOnce, Cond.selects RX5 yX5_turnOnce yX5_turnOnce, Cond.code yX5_turnOnce cX5_turnOnce 7 none, Cond.fieldLink RX5 131 "PalletWrapper$Course" "height" "I", Cond.fieldLink RX5 134 "PalletWrapper$Result" "zones" "I"]
def wsL_isUndone_r10 : List Cond := [Cond.fieldLink RX5 140 "PalletWrapper$Pallet" "limit" "I", Cond.fieldLink RX5 150 "PalletWrapper$Course" "tension" "I", Cond.fieldLink RX5 156 "PalletWrapper$Result" "skipped" "I", Cond.fieldLink RX5 159 "PalletWrapper$Course" "stretch" "I", Cond.fieldLink RX5 169 "PalletWrapper$Result" "made" "I", Cond.fieldLink RX5 172 "PalletWrapper$Result" "time" "I", Cond.static yX8_zonesEnd, Cond.code yX8_zonesEnd cX8_zonesEnd 2 (some .int), Cond.methodLink RX8 221 Lib.Math.min.name, Cond.methodLink RX8 226 yX8_roundedUp, Cond.static yX8_firstZone, Cond.code yX8_firstZone cX8_firstZone 1 (some .int), Cond.methodLink RX5 147 yX3_greatestForce, Cond.instanceMethod yX3_greatestForce, Cond.selects RX3 yX3_greatestForce yX3_greatestForce, Cond.code yX3_greatestForce cX3_greatestForce 5 (some .int), Cond.methodLink RX3 64 Lib.Math.max.name, Cond.static yX8_greatestTension, Cond.code yX8_greatestTension cX8_greatestTension 2 (some .int), Cond.methodLink RX5 162 yX1_lengthOfTurn, Cond.instanceMethod yX1_lengthOfTurn, Cond.selects RX1 yX1_lengthOfTurn yX1_lengthOfTurn, Cond.code yX1_lengthOfTurn cX1_lengthOfTurn 2 (some .int), Cond.methodLink RX5 165 yX5_fetchFilm]
def wsL_isUndone_r11 : List Cond := [Cond.instanceMethod yX5_fetchFilm, Cond.selects RX5 yX5_fetchFilm yX5_fetchFilm, Cond.code yX5_fetchFilm cX5_fetchFilm 6 (some .int), Cond.fieldLink RX5 193 "PalletWrapper$Roll" "position" "I", Cond.fieldLink RX5 196 "PalletWrapper$Result" "onPallet" "I", Cond.fieldLink RX5 199 "PalletWrapper$Result" "weight" "I", Cond.fieldLink RX5 202 "PalletWrapper$Roll" "weight" "I", Cond.fieldLink RX5 207 "PalletWrapper$Result" "breaks" "I", Cond.methodLink RX5 184 yX4_rest, Cond.instanceMethod yX4_rest, Cond.selects RX4 yX4_rest yX4_rest, Cond.code yX4_rest cX4_rest 1 (some .int), Cond.methodLink RX5 187 yX5_changeRoll, Cond.instanceMethod yX5_changeRoll, Cond.selects RX5 yX5_changeRoll yX5_changeRoll, Cond.code yX5_changeRoll cX5_changeRoll 2 none, Cond.fieldLink RX5 210 "PalletWrapper$Result" "tails" "I", Cond.fieldLink RX5 213 "PalletWrapper$Result" "changes" "I", Cond.methodLink RX5 216 yX5_removePresentRoll, Cond.instanceMethod yX5_removePresentRoll, Cond.selects RX5 yX5_removePresentRoll yX5_removePresentRoll, Cond.code yX5_removePresentRoll cX5_removePresentRoll 3 none, Cond.methodLink RX5 190 yX4_breakingPlace, Cond.instanceMethod yX4_breakingPlace]
def wsL_isUndone_r12 : List Cond := [Cond.selects RX4 yX4_breakingPlace yX4_breakingPlace, Cond.code yX4_breakingPlace cX4_breakingPlace 4 (some .int), Cond.methodLink RX5 203 yX5_breakFilm, Cond.instanceMethod yX5_breakFilm, Cond.selects RX5 yX5_breakFilm yX5_breakFilm, Cond.code yX5_breakFilm cX5_breakFilm 5 none, Cond.fieldLink RX5 219 "PalletWrapper$Result" "pieces" "I", Cond.fieldLink RX5 222 "PalletWrapper$Result" "threading" "I", Cond.methodLink RX5 175 yX1_timeOfTurn, Cond.instanceMethod yX1_timeOfTurn, Cond.selects RX1 yX1_timeOfTurn yX1_timeOfTurn, Cond.code yX1_timeOfTurn cX1_timeOfTurn 1 (some .int), Cond.static yX8_forceOf, Cond.code yX8_forceOf cX8_forceOf 1 (some .int), Cond.methodLink RX5 181 yX3_addLayer, Cond.instanceMethod yX3_addLayer, Cond.selects RX3 yX3_addLayer yX3_addLayer, Cond.code yX3_addLayer cX3_addLayer 5 none, Cond.methodLink RX5 124 yX5_removePallet, Cond.instanceMethod yX5_removePallet, Cond.selects RX5 yX5_removePallet yX5_removePallet, Cond.code yX5_removePallet cX5_removePallet 4 none, Cond.methodLink RX5 128 yX6_add, Cond.instanceMethod yX6_add]
def wsL_isUndone_r13 : List Cond := [Cond.selects RX6 yX6_add yX6_add, Cond.code yX6_add cX6_add 2 none, Cond.fieldLink RX6 18 "PalletWrapper$Result" "outcome" "I", Cond.fieldLink RX6 26 "PalletWrapper$Result" "made" "I", Cond.fieldLink RX6 30 "PalletWrapper$Result" "skipped" "I", Cond.fieldLink RX6 34 "PalletWrapper$Result" "onPallet" "I", Cond.fieldLink RX6 40 "PalletWrapper$Result" "tails" "I", Cond.fieldLink RX6 44 "PalletWrapper$Result" "pieces" "I", Cond.fieldLink RX6 48 "PalletWrapper$Result" "threading" "I", Cond.fieldLink RX6 52 "PalletWrapper$Result" "breaks" "I", Cond.fieldLink RX6 56 "PalletWrapper$Result" "changes" "I", Cond.fieldLink RX6 60 "PalletWrapper$Result" "time" "I", Cond.fieldLink RX6 65 "PalletWrapper$Result" "weight" "I", Cond.methodLink RL 76 yX8_done, Cond.instanceMethod yX8_done, Cond.selects RX8 yX8_done yX8_done, Cond.code yX8_done cX8_done 3 (some .int), Cond.fieldLink RX8 184 "PalletWrapper$State" "keptCount" "I", Cond.fieldLink RX8 177 "PalletWrapper$State" "kept" "[LPalletWrapper$Result;", Cond.methodLink RX8 181 yX3_property, Cond.instanceMethod yX3_property, Cond.selects RX3 yX3_property yX3_property, Cond.code yX3_property cX3_property 2 (some .int), Cond.static yX8_least]
def wsL_isUndone_r14 : List Cond := [Cond.code yX8_least cX8_least 4 (some .int), Cond.methodLink RX3 81 yX3_greatestForce, Cond.methodLink RL 79 yX8_undo, Cond.instanceMethod yX8_undo, Cond.selects RX8 yX8_undo yX8_undo, Cond.code yX8_undo cX8_undo 1 (some .int)]
def wsL_isUndone : List Cond := .code yL_isUndone cL_isUndone 13 (some .boolean) :: ((wsL_isUndone_r1 ++ (wsL_isUndone_r2 ++ (wsL_isUndone_r3 ++ (wsL_isUndone_r4 ++ (wsL_isUndone_r5 ++ (wsL_isUndone_r6 ++ (wsL_isUndone_r7 ++ (wsL_isUndone_r8 ++ (wsL_isUndone_r9 ++ (wsL_isUndone_r10 ++ (wsL_isUndone_r11 ++ (wsL_isUndone_r12 ++ (wsL_isUndone_r13 ++ wsL_isUndone_r14))))))))))))) ++ wsX80 ++ wsX50 ++ wsX60 ++ wsX20 ++ wsX70 ++ wsX10 ++ wsX40 ++ wsX30 ++ wsX00)
def wsL_law_r1 : List Cond := [Cond.arrayClass .int, Cond.classLink RL 10 RX8, Cond.instantiable RX8 8, Cond.initialized RX8, Cond.methodLink RL 82 yX8_init, Cond.instanceMethod yX8_init, Cond.code yX8_init cX8_init 2 none, Cond.methodLink RX8 1 objectInit, Cond.instanceMethod objectInit, Cond.code objectInit ⟨#[0xb1]⟩ 1 none, Cond.classLink RX8 7 RX5, Cond.instantiable RX5 11, Cond.initialized RX5, Cond.fieldLink RX8 10 "PalletWrapper" "present" "LPalletWrapper$State;", Cond.fieldLink RX8 16 "PalletWrapper" "trial" "LPalletWrapper$State;", Cond.fieldLink RX8 19 "PalletWrapper" "history" "[LPalletWrapper$State;", Cond.fieldLink RX8 23 "PalletWrapper" "historyCount" "I", Cond.classLink RX8 27 RX7, Cond.instantiable RX7 2, Cond.initialized RX7, Cond.fieldLink RX8 30 "PalletWrapper" "text" "LPalletWrapper$Text;", Cond.classLink RX8 34 RX2, Cond.instantiable RX2 3, Cond.initialized RX2]
def wsL_law_r2 : List Cond := [Cond.fieldLink RX8 37 "PalletWrapper" "draft" "LPalletWrapper$Program;", Cond.classLink RX8 41 RX0, Cond.instantiable RX0 7, Cond.initialized RX0, Cond.fieldLink RX8 44 "PalletWrapper" "course" "LPalletWrapper$Course;", Cond.fieldLink RX8 48 "PalletWrapper" "layersPlanned" "[I", Cond.methodLink RX8 9 yX5_init, Cond.instanceMethod yX5_init, Cond.code yX5_init cX5_init 2 none, Cond.methodLink RX5 3 objectInit, Cond.classLink RX5 9 RX4, Cond.fieldLink RX5 11 "PalletWrapper$State" "rolls" "[LPalletWrapper$Roll;", Cond.instantiable RX4 6, Cond.initialized RX4, Cond.classLink RX5 18 RX1, Cond.fieldLink RX5 20 "PalletWrapper$State" "pallets" "[LPalletWrapper$Pallet;", Cond.instantiable RX1 6, Cond.initialized RX1, Cond.classLink RX5 25 RX3, Cond.fieldLink RX5 27 "PalletWrapper$State" "kept" "[LPalletWrapper$Result;", Cond.instantiable RX3 15, Cond.initialized RX3, Cond.classLink RX5 32 RX2, Cond.fieldLink RX5 35 "PalletWrapper$State" "program" "LPalletWrapper$Program;"]
def wsL_law_r3 : List Cond := [Cond.classLink RX5 39 RX6, Cond.instantiable RX6 12, Cond.initialized RX6, Cond.fieldLink RX5 42 "PalletWrapper$State" "sums" "LPalletWrapper$Sums;", Cond.fieldLink RX5 46 "PalletWrapper$State" "threading" "I", Cond.fieldLink RX5 50 "PalletWrapper$State" "patience" "I", Cond.methodLink RX5 17 yX4_init, Cond.instanceMethod yX4_init, Cond.code yX4_init cX4_init 1 none, Cond.methodLink RX4 3 objectInit, Cond.fieldLink RX4 9 "PalletWrapper$Roll" "places" "[I", Cond.fieldLink RX4 15 "PalletWrapper$Roll" "strengths" "[I", Cond.instanceMethod yX1_init, Cond.code yX1_init cX1_init 1 none, Cond.methodLink RX1 3 objectInit, Cond.methodLink RX5 31 yX3_init, Cond.instanceMethod yX3_init, Cond.code yX3_init cX3_init 1 none, Cond.methodLink RX3 3 objectInit, Cond.fieldLink RX3 9 "PalletWrapper$Result" "layers" "[I", Cond.fieldLink RX3 15 "PalletWrapper$Result" "forces" "[I", Cond.methodLink RX5 34 yX2_init, Cond.instanceMethod yX2_init, Cond.code yX2_init cX2_init 1 none]
def wsL_law_r4 : List Cond := [Cond.methodLink RX2 3 objectInit, Cond.fieldLink RX2 9 "PalletWrapper$Program" "kinds" "[I", Cond.fieldLink RX2 15 "PalletWrapper$Program" "amounts" "[I", Cond.instanceMethod yX6_init, Cond.code yX6_init cX6_init 1 none, Cond.methodLink RX6 3 objectInit, Cond.methodLink RX8 29 yX7_init, Cond.instanceMethod yX7_init, Cond.code yX7_init cX7_init 1 none, Cond.methodLink RX7 3 objectInit, Cond.arrayClass .char, Cond.fieldLink RX7 9 "PalletWrapper$Text" "characters" "[C", Cond.methodLink RX8 36 yX2_init, Cond.methodLink RX8 43 yX0_init, Cond.instanceMethod yX0_init, Cond.code yX0_init cX0_init 1 none, Cond.methodLink RX0 3 objectInit, Cond.classLink RX0 9 RX2, Cond.fieldLink RX0 12 "PalletWrapper$Course" "program" "LPalletWrapper$Program;", Cond.methodLink RX0 11 yX2_init, Cond.methodLink RL 79 yX8_undo, Cond.instanceMethod yX8_undo, Cond.selects RX8 yX8_undo yX8_undo, Cond.code yX8_undo cX8_undo 1 (some .int)]
def wsL_law_r5 : List Cond := [Cond.methodLink RX8 127 yX5_copyFrom, Cond.instanceMethod yX5_copyFrom, Cond.selects RX5 yX5_copyFrom yX5_copyFrom, Cond.code yX5_copyFrom cX5_copyFrom 3 none, Cond.fieldLink RX5 53 "PalletWrapper$State" "rollCount" "I", Cond.fieldLink RX5 60 "PalletWrapper$State" "waitingCount" "I", Cond.fieldLink RX5 66 "PalletWrapper$State" "nextNumber" "I", Cond.fieldLink RX5 69 "PalletWrapper$State" "keptCount" "I", Cond.methodLink RX5 56 yX4_copyFrom, Cond.instanceMethod yX4_copyFrom, Cond.selects RX4 yX4_copyFrom yX4_copyFrom, Cond.code yX4_copyFrom cX4_copyFrom 3 none, Cond.fieldLink RX4 18 "PalletWrapper$Roll" "length" "I", Cond.fieldLink RX4 22 "PalletWrapper$Roll" "weight" "I", Cond.fieldLink RX4 25 "PalletWrapper$Roll" "position" "I", Cond.fieldLink RX4 28 "PalletWrapper$Roll" "weakCount" "I", Cond.methodLink RX5 63 yX1_copyFrom, Cond.instanceMethod yX1_copyFrom, Cond.selects RX1 yX1_copyFrom yX1_copyFrom, Cond.code yX1_copyFrom cX1_copyFrom 2 none, Cond.fieldLink RX1 24 "PalletWrapper$Pallet" "number" "I", Cond.fieldLink RX1 27 "PalletWrapper$Pallet" "due" "I", Cond.fieldLink RX1 9 "PalletWrapper$Pallet" "width" "I", Cond.fieldLink RX1 15 "PalletWrapper$Pallet" "depth" "I"]
def wsL_law_r6 : List Cond := [Cond.fieldLink RX1 18 "PalletWrapper$Pallet" "height" "I", Cond.fieldLink RX1 21 "PalletWrapper$Pallet" "limit" "I", Cond.methodLink RX1 30 yX1_measure, Cond.instanceMethod yX1_measure, Cond.selects RX1 yX1_measure yX1_measure, Cond.code yX1_measure cX1_measure 5 none, Cond.methodLink RX5 72 yX3_copyFrom, Cond.instanceMethod yX3_copyFrom, Cond.selects RX3 yX3_copyFrom yX3_copyFrom, Cond.code yX3_copyFrom cX3_copyFrom 3 none, Cond.fieldLink RX3 24 "PalletWrapper$Result" "number" "I", Cond.fieldLink RX3 29 "PalletWrapper$Result" "zones" "I", Cond.fieldLink RX3 31 "PalletWrapper$Result" "outcome" "I", Cond.fieldLink RX3 34 "PalletWrapper$Result" "made" "I", Cond.fieldLink RX3 37 "PalletWrapper$Result" "skipped" "I", Cond.fieldLink RX3 40 "PalletWrapper$Result" "onPallet" "I", Cond.fieldLink RX3 43 "PalletWrapper$Result" "tails" "I", Cond.fieldLink RX3 46 "PalletWrapper$Result" "pieces" "I", Cond.fieldLink RX3 49 "PalletWrapper$Result" "threading" "I", Cond.fieldLink RX3 52 "PalletWrapper$Result" "breaks" "I", Cond.fieldLink RX3 55 "PalletWrapper$Result" "changes" "I", Cond.fieldLink RX3 58 "PalletWrapper$Result" "time" "I", Cond.fieldLink RX3 61 "PalletWrapper$Result" "weight" "I", Cond.methodLink RX5 75 yX2_copyFrom]
def wsL_law_r7 : List Cond := [Cond.instanceMethod yX2_copyFrom, Cond.selects RX2 yX2_copyFrom yX2_copyFrom, Cond.code yX2_copyFrom cX2_copyFrom 3 none, Cond.fieldLink RX2 18 "PalletWrapper$Program" "size" "I", Cond.methodLink RX5 78 yX6_copyFrom, Cond.instanceMethod yX6_copyFrom, Cond.selects RX6 yX6_copyFrom yX6_copyFrom, Cond.code yX6_copyFrom cX6_copyFrom 2 none, Cond.fieldLink RX6 9 "PalletWrapper$Sums" "pallets" "I", Cond.fieldLink RX6 15 "PalletWrapper$Sums" "givenUp" "I", Cond.fieldLink RX6 23 "PalletWrapper$Sums" "made" "I", Cond.fieldLink RX6 27 "PalletWrapper$Sums" "skipped" "I", Cond.fieldLink RX6 31 "PalletWrapper$Sums" "onPallets" "I", Cond.fieldLink RX6 37 "PalletWrapper$Sums" "tails" "I", Cond.fieldLink RX6 41 "PalletWrapper$Sums" "pieces" "I", Cond.fieldLink RX6 45 "PalletWrapper$Sums" "threading" "I", Cond.fieldLink RX6 49 "PalletWrapper$Sums" "breaks" "I", Cond.fieldLink RX6 53 "PalletWrapper$Sums" "changes" "I", Cond.fieldLink RX6 57 "PalletWrapper$Sums" "time" "I", Cond.fieldLink RX6 61 "PalletWrapper$Sums" "weight" "J", Cond.methodLink RL 57 yX8_fault, Cond.instanceMethod yX8_fault, Cond.selects RX8 yX8_fault yX8_fault, Cond.code yX8_fault cX8_fault 2 (some .int)]
def wsL_law_r8 : List Cond := [Cond.methodLink RX8 153 yX7_readInto, Cond.instanceMethod yX7_readInto, Cond.selects RX7 yX7_readInto yX7_readInto, Cond.code yX7_readInto cX7_readInto 5 (some .int), Cond.fieldLink RX7 36 "PalletWrapper$Program" "size" "I", Cond.fieldLink RX7 15 "PalletWrapper$Text" "length" "I", Cond.methodLink RX7 55 yX7_readStep, Cond.instanceMethod yX7_readStep, Cond.selects RX7 yX7_readStep yX7_readStep, Cond.code yX7_readStep cX7_readStep 5 (some .int), Cond.methodLink RX7 63 yX7_behindName, Cond.instanceMethod yX7_behindName, Cond.selects RX7 yX7_behindName yX7_behindName, Cond.code yX7_behindName cX7_behindName 6 (some .int), Cond.static yX8_nameOf, Cond.code yX8_nameOf cX8_nameOf 1 (some (.object "java/lang/String")), Cond.methodLink RX7 23 yJ0_length_8abf5, Cond.instanceMethod yJ0_length_8abf5, Cond.selects RJ0 yJ0_length_8abf5 yJ0_length_8abf5, Cond.initialized RJ0, Cond.code yJ0_length_8abf5 cJ0_length_8abf5 1 (some .int), Cond.fieldLink RJ0 9 "java/lang/String" "value" "[B", Cond.methodLink RJ0 335 yJ0_coder_7d493, Cond.instanceMethod yJ0_coder_7d493]
def wsL_law_r9 : List Cond := [Cond.selects RJ0 yJ0_coder_7d493 yJ0_coder_7d493, Cond.code yJ0_coder_7d493 cJ0_coder_7d493 1 (some .byte), Cond.fieldLink RJ0 38 "java/lang/String" "COMPACT_STRINGS" "Z", Cond.fieldLink RJ0 15 "java/lang/String" "coder" "B", Cond.methodLink RX7 28 yJ0_charAt_5068e, Cond.instanceMethod yJ0_charAt_5068e, Cond.selects RJ0 yJ0_charAt_5068e yJ0_charAt_5068e, Cond.code yJ0_charAt_5068e cJ0_charAt_5068e 2 (some .char), Cond.methodLink RJ0 492 yJ0_isLatin1_aae02, Cond.instanceMethod yJ0_isLatin1_aae02, Cond.selects RJ0 yJ0_isLatin1_aae02 yJ0_isLatin1_aae02, Cond.code yJ0_isLatin1_aae02 cJ0_isLatin1_aae02 1 (some .boolean), Cond.methodLink RJ0 495 yJ1_charAt_3b067, Cond.static yJ1_charAt_3b067, Cond.initialized RJ1, Cond.code yJ1_charAt_3b067 cJ1_charAt_3b067 2 (some .char), Cond.methodLink RJ1 9 yJ0_checkIndex_df160, Cond.static yJ0_checkIndex_df160, Cond.code yJ0_checkIndex_df160 cJ0_checkIndex_df160 2 none, Cond.fieldLink RJ0 1053 "jdk/internal/util/Preconditions" "SIOOBE_FORMATTER" "Ljava/util/function/BiFunction;", Cond.methodLink RJ0 1059 yJ3_checkIndex_8e157, Cond.static yJ3_checkIndex_8e157, Cond.initialized RJ3, Cond.code yJ3_checkIndex_8e157 cJ3_checkIndex_8e157 3 (some .int)]
def wsL_law_r10 : List Cond := [Cond.methodLink RJ0 498 yJ2_charAt_3b067, Cond.static yJ2_charAt_3b067, Cond.initialized RJ2, Cond.code yJ2_charAt_3b067 cJ2_charAt_3b067 2 (some .char), Cond.methodLink RJ2 67 yJ2_checkIndex_2214a, Cond.static yJ2_checkIndex_2214a, Cond.code yJ2_checkIndex_2214a cJ2_checkIndex_2214a 2 none, Cond.methodLink RJ2 48 yJ2_length_9d52b, Cond.static yJ2_length_9d52b, Cond.code yJ2_length_9d52b cJ2_length_9d52b 1 (some .int), Cond.methodLink RJ2 414 yJ0_checkIndex_df160, Cond.methodLink RJ2 71 yJ2_getChar_3b067, Cond.static yJ2_getChar_3b067, Cond.code yJ2_getChar_3b067 cJ2_getChar_3b067 2 (some .char), Cond.fieldLink RJ2 44 "java/lang/StringUTF16" "$assertionsDisabled" "Z", Cond.fieldLink RJ2 59 "java/lang/StringUTF16" "HI_BYTE_SHIFT" "I", Cond.fieldLink RJ2 63 "java/lang/StringUTF16" "LO_BYTE_SHIFT" "I", Cond.methodLink RX7 67 yX7_readAmount, Cond.instanceMethod yX7_readAmount, Cond.selects RX7 yX7_readAmount yX7_readAmount, Cond.code yX7_readAmount cX7_readAmount 6 (some .int), Cond.methodLink RX7 71 yX7_isDigit, Cond.static yX7_isDigit, Cond.code yX7_isDigit cX7_isDigit 1 (some .boolean)]
def wsL_law_r11 : List Cond := [Cond.static yX8_outside, Cond.code yX8_outside cX8_outside 3 (some .boolean), Cond.methodLink RX7 85 yX2_append, Cond.instanceMethod yX2_append, Cond.selects RX2 yX2_append yX2_append, Cond.code yX2_append cX2_append 3 none, Cond.methodLink RX7 59 yX7_isFollowedByStep, Cond.instanceMethod yX7_isFollowedByStep, Cond.selects RX7 yX7_isFollowedByStep yX7_isFollowedByStep, Cond.code yX7_isFollowedByStep cX7_isFollowedByStep 2 (some .boolean), Cond.methodLink RL 41 yX8_load, Cond.instanceMethod yX8_load, Cond.selects RX8 yX8_load yX8_load, Cond.code yX8_load cX8_load 1 (some .int), Cond.fieldLink RX8 139 "PalletWrapper$State" "program" "LPalletWrapper$Program;", Cond.fieldLink RX8 142 "PalletWrapper$Program" "size" "I", Cond.methodLink RX8 60 yX8_record, Cond.instanceMethod yX8_record, Cond.selects RX8 yX8_record yX8_record, Cond.code yX8_record cX8_record 3 none, Cond.methodLink RX8 157 yX2_copyFrom, Cond.methodLink RL 83 yX8_addRoll, Cond.instanceMethod yX8_addRoll, Cond.selects RX8 yX8_addRoll yX8_addRoll]
def wsL_law_r12 : List Cond := [Cond.code yX8_addRoll cX8_addRoll 3 (some .int), Cond.constant RX8 52 (100000), Cond.fieldLink RX8 57 "PalletWrapper$State" "rollCount" "I", Cond.methodLink RX8 53 yX8_outside, Cond.methodLink RX8 63 yX5_appendRoll, Cond.instanceMethod yX5_appendRoll, Cond.selects RX5 yX5_appendRoll yX5_appendRoll, Cond.code yX5_appendRoll cX5_appendRoll 3 none, Cond.methodLink RX5 81 yX4_begin, Cond.instanceMethod yX4_begin, Cond.selects RX4 yX4_begin yX4_begin, Cond.code yX4_begin cX4_begin 3 none, Cond.methodLink RL 86 yL_cell, Cond.static yL_cell, Cond.initialized RL, Cond.code yL_cell cL_cell 2 (some .int), Cond.constant RL 7 (15485207), Cond.constant RL 8 (2147483647), Cond.methodLink RL 44 yX8_count, Cond.instanceMethod yX8_count, Cond.selects RX8 yX8_count yX8_count, Cond.code yX8_count cX8_count 2 (some .int), Cond.fieldLink RX8 93 "PalletWrapper$State" "waitingCount" "I", Cond.fieldLink RX8 131 "PalletWrapper$State" "sums" "LPalletWrapper$Sums;"]
def wsL_law_r13 : List Cond := [Cond.fieldLink RX8 135 "PalletWrapper$Sums" "pallets" "I", Cond.fieldLink RX8 121 "PalletWrapper$State" "threading" "I", Cond.fieldLink RX8 124 "PalletWrapper$State" "patience" "I", Cond.fieldLink RX8 145 "PalletWrapper$Text" "length" "I", Cond.fieldLink RX8 146 "PalletWrapper$Sums" "time" "I", Cond.methodLink RL 90 yX8_weaken, Cond.instanceMethod yX8_weaken, Cond.selects RX8 yX8_weaken yX8_weaken, Cond.code yX8_weaken cX8_weaken 4 (some .int), Cond.fieldLink RX8 67 "PalletWrapper$State" "rolls" "[LPalletWrapper$Roll;", Cond.fieldLink RX8 71 "PalletWrapper$Roll" "length" "I", Cond.fieldLink RX8 80 "PalletWrapper$Roll" "position" "I", Cond.fieldLink RX8 83 "PalletWrapper$Roll" "weakCount" "I", Cond.methodLink RX8 76 yX4_isWeakAt, Cond.instanceMethod yX4_isWeakAt, Cond.selects RX4 yX4_isWeakAt yX4_isWeakAt, Cond.code yX4_isWeakAt cX4_isWeakAt 3 (some .boolean), Cond.methodLink RX8 86 yX4_insertWeakPlace, Cond.instanceMethod yX4_insertWeakPlace, Cond.selects RX4 yX4_insertWeakPlace yX4_insertWeakPlace, Cond.code yX4_insertWeakPlace cX4_insertWeakPlace 4 none, Cond.methodLink RL 94 yL_programs, Cond.static yL_programs, Cond.code yL_programs cL_programs 8 (some .int)]
def wsL_law_r14 : List Cond := [Cond.constant RL 31 (1103515245), Cond.methodLink RL 27 yX8_clearText, Cond.instanceMethod yX8_clearText, Cond.selects RX8 yX8_clearText yX8_clearText, Cond.code yX8_clearText cX8_clearText 2 (some .int), Cond.methodLink RL 9 yX8_type, Cond.instanceMethod yX8_type, Cond.selects RX8 yX8_type yX8_type, Cond.code yX8_type cX8_type 2 (some .int), Cond.methodLink RX8 149 yX7_append, Cond.instanceMethod yX7_append, Cond.selects RX7 yX7_append yX7_append, Cond.code yX7_append cX7_append 2 none, Cond.methodLink RL 32 yL_name, Cond.static yL_name, Cond.code yL_name cL_name 6 none, Cond.constantLong RL 15 (1937006969), Cond.constantLong RL 17 (30064), Cond.constantLong RL 19 (1685026670), Cond.constantLong RL 21 (32762622355533678), Cond.constantLong RL 23 (32497656998945640), Cond.constantLong RL 25 (255), Cond.methodLink RL 38 yL_number, Cond.static yL_number]
def wsL_law_r15 : List Cond := [Cond.code yL_number cL_number 3 none, Cond.methodLink RL 98 yL_isWritten, Cond.static yL_isWritten, Cond.code yL_isWritten cL_isWritten 7 (some .boolean), Cond.methodLink RL 47 yX8_step, Cond.instanceMethod yX8_step, Cond.selects RX8 yX8_step yX8_step, Cond.code yX8_step cX8_step 3 (some .int), Cond.fieldLink RX8 160 "PalletWrapper$Program" "kinds" "[I", Cond.fieldLink RX8 163 "PalletWrapper$Program" "amounts" "[I", Cond.methodLink RL 51 yX8_write, Cond.instanceMethod yX8_write, Cond.selects RX8 yX8_write yX8_write, Cond.code yX8_write cX8_write 1 (some .int), Cond.methodLink RX8 166 yX7_showProgram, Cond.instanceMethod yX7_showProgram, Cond.selects RX7 yX7_showProgram yX7_showProgram, Cond.code yX7_showProgram cX7_showProgram 3 none, Cond.fieldLink RX7 41 "PalletWrapper$Program" "kinds" "[I", Cond.fieldLink RX7 49 "PalletWrapper$Program" "amounts" "[I", Cond.methodLink RX7 32 yX7_append, Cond.methodLink RX7 45 yX7_appendName, Cond.instanceMethod yX7_appendName, Cond.selects RX7 yX7_appendName yX7_appendName]
def wsL_law_r16 : List Cond := [Cond.code yX7_appendName cX7_appendName 4 none, Cond.methodLink RX7 52 yX7_appendAmount, Cond.instanceMethod yX7_appendAmount, Cond.selects RX7 yX7_appendAmount yX7_appendAmount, Cond.code yX7_appendAmount cX7_appendAmount 2 none, Cond.methodLink RL 54 yX8_textAt, Cond.instanceMethod yX8_textAt, Cond.selects RX8 yX8_textAt yX8_textAt, Cond.code yX8_textAt cX8_textAt 2 (some .int), Cond.fieldLink RX8 169 "PalletWrapper$Text" "characters" "[C", Cond.methodLink RL 102 yX8_set, Cond.instanceMethod yX8_set, Cond.selects RX8 yX8_set yX8_set, Cond.code yX8_set cX8_set 4 (some .int), Cond.methodLink RL 105 yX8_addPallet, Cond.instanceMethod yX8_addPallet, Cond.selects RX8 yX8_addPallet yX8_addPallet, Cond.code yX8_addPallet cX8_addPallet 7 (some .int), Cond.fieldLink RX8 106 "PalletWrapper$Pallet" "number" "I", Cond.methodLink RX8 96 yX5_insertPallet, Cond.instanceMethod yX5_insertPallet, Cond.selects RX5 yX5_insertPallet yX5_insertPallet, Cond.code yX5_insertPallet cX5_insertPallet 4 (some (.object "PalletWrapper$Pallet")), Cond.methodLink RX5 85 Lib.Math.min.name]
def wsL_law_r17 : List Cond := [Cond.static Lib.Math.min.name, Cond.initialized "java/lang/Math", Cond.code Lib.Math.min.name Lib.Math.min.code 2 (some .int), Cond.fieldLink RX5 91 "PalletWrapper$Pallet" "due" "I", Cond.fieldLink RX5 94 "PalletWrapper$Pallet" "number" "I", Cond.methodLink RX8 100 yX1_measure, Cond.methodLink RL 109 yL_isUndone, Cond.static yL_isUndone, Cond.code yL_isUndone cL_isUndone 13 (some .boolean), Cond.methodLink RL 66 yX8_waiting, Cond.instanceMethod yX8_waiting, Cond.selects RX8 yX8_waiting yX8_waiting, Cond.code yX8_waiting cX8_waiting 3 (some .int), Cond.fieldLink RX8 116 "PalletWrapper$State" "pallets" "[LPalletWrapper$Pallet;", Cond.methodLink RX8 120 yX1_property, Cond.instanceMethod yX1_property, Cond.selects RX1 yX1_property yX1_property, Cond.code yX1_property cX1_property 2 (some .int), Cond.methodLink RL 60 yX8_roll, Cond.instanceMethod yX8_roll, Cond.selects RX8 yX8_roll yX8_roll, Cond.code yX8_roll cX8_roll 3 (some .int), Cond.methodLink RX8 89 yX4_property, Cond.instanceMethod yX4_property]
def wsL_law_r18 : List Cond := [Cond.selects RX4 yX4_property yX4_property, Cond.code yX4_property cX4_property 3 (some .int), Cond.methodLink RX4 31 yX4_nextWeak, Cond.instanceMethod yX4_nextWeak, Cond.selects RX4 yX4_nextWeak yX4_nextWeak, Cond.code yX4_nextWeak cX4_nextWeak 2 (some .int), Cond.methodLink RL 63 yX8_total, Cond.instanceMethod yX8_total, Cond.selects RX8 yX8_total yX8_total, Cond.code yX8_total cX8_total 2 (some .int), Cond.methodLink RX8 196 yX6_property, Cond.instanceMethod yX6_property, Cond.selects RX6 yX6_property yX6_property, Cond.code yX6_property cX6_property 2 (some .int), Cond.methodLink RL 69 yX8_weight, Cond.instanceMethod yX8_weight, Cond.selects RX8 yX8_weight yX8_weight, Cond.code yX8_weight cX8_weight 1 (some .long), Cond.fieldLink RX8 197 "PalletWrapper$Sums" "weight" "J", Cond.methodLink RL 73 yX8_wrap, Cond.instanceMethod yX8_wrap, Cond.selects RX8 yX8_wrap yX8_wrap, Cond.code yX8_wrap cX8_wrap 1 (some .int), Cond.methodLink RX8 173 yX5_wrapNext]
def wsL_law_r19 : List Cond := [Cond.instanceMethod yX5_wrapNext, Cond.selects RX5 yX5_wrapNext yX5_wrapNext, Cond.code yX5_wrapNext cX5_wrapNext 5 (some .int), Cond.constant RX5 112 (1000000), Cond.fieldLink RX5 113 "PalletWrapper$Result" "outcome" "I", Cond.methodLink RX5 97 yX5_keepNewResult, Cond.instanceMethod yX5_keepNewResult, Cond.selects RX5 yX5_keepNewResult yX5_keepNewResult, Cond.code yX5_keepNewResult cX5_keepNewResult 3 (some (.object "PalletWrapper$Result")), Cond.methodLink RX5 101 yX3_begin, Cond.instanceMethod yX3_begin, Cond.selects RX3 yX3_begin yX3_begin, Cond.code yX3_begin cX3_begin 3 none, Cond.fieldLink RX3 18 "PalletWrapper$Pallet" "number" "I", Cond.methodLink RX3 25 yX1_zones, Cond.instanceMethod yX1_zones, Cond.selects RX1 yX1_zones yX1_zones, Cond.code yX1_zones cX1_zones 1 (some .int), Cond.static yX8_roundedUp, Cond.code yX8_roundedUp cX8_roundedUp 2 (some .int), Cond.methodLink RX5 103 yX1_top, Cond.instanceMethod yX1_top, Cond.selects RX1 yX1_top yX1_top, Cond.code yX1_top cX1_top 1 (some .int)]
def wsL_law_r20 : List Cond := [Cond.methodLink RX1 38 Lib.Math.max.name, Cond.static Lib.Math.max.name, Cond.code Lib.Math.max.name Lib.Math.max.code 2 (some .int), Cond.methodLink RX5 107 yX0_begin, Cond.instanceMethod yX0_begin, Cond.selects RX0 yX0_begin yX0_begin, Cond.code yX0_begin cX0_begin 3 none, Cond.fieldLink RX0 18 "PalletWrapper$Course" "top" "I", Cond.fieldLink RX0 22 "PalletWrapper$Course" "index" "I", Cond.fieldLink RX0 25 "PalletWrapper$Course" "stayed" "I", Cond.fieldLink RX0 28 "PalletWrapper$Course" "height" "I", Cond.fieldLink RX0 31 "PalletWrapper$Course" "tension" "I", Cond.fieldLink RX0 34 "PalletWrapper$Course" "stretch" "I", Cond.methodLink RX5 116 yX0_advance, Cond.instanceMethod yX0_advance, Cond.selects RX0 yX0_advance yX0_advance, Cond.code yX0_advance cX0_advance 1 (some .boolean), Cond.fieldLink RX0 37 "PalletWrapper$Program" "size" "I", Cond.fieldLink RX0 40 "PalletWrapper$Program" "kinds" "[I", Cond.fieldLink RX0 44 "PalletWrapper$Program" "amounts" "[I", Cond.methodLink RX0 47 yX0_takesTurn, Cond.instanceMethod yX0_takesTurn, Cond.selects RX0 yX0_takesTurn yX0_takesTurn, Cond.code yX0_takesTurn cX0_takesTurn 3 (some .boolean)]
def wsL_law_r21 : List Cond := [Cond.methodLink RX0 51 Lib.Math.min.name, Cond.methodLink RX0 57 Lib.Math.max.name, Cond.methodLink RX5 120 yX5_turnOnce, Cond.instanceMethod yX5_turnOnce, Cond.selects RX5 yX5_turnOnce yX5_turnOnce, Cond.code yX5_turnOnce cX5_turnOnce 7 none, Cond.fieldLink RX5 131 "PalletWrapper$Course" "height" "I", Cond.fieldLink RX5 134 "PalletWrapper$Result" "zones" "I", Cond.fieldLink RX5 140 "PalletWrapper$Pallet" "limit" "I", Cond.fieldLink RX5 150 "PalletWrapper$Course" "tension" "I", Cond.fieldLink RX5 156 "PalletWrapper$Result" "skipped" "I", Cond.fieldLink RX5 159 "PalletWrapper$Course" "stretch" "I", Cond.fieldLink RX5 169 "PalletWrapper$Result" "made" "I", Cond.fieldLink RX5 172 "PalletWrapper$Result" "time" "I", Cond.static yX8_zonesEnd, Cond.code yX8_zonesEnd cX8_zonesEnd 2 (some .int), Cond.methodLink RX8 221 Lib.Math.min.name, Cond.methodLink RX8 226 yX8_roundedUp, Cond.static yX8_firstZone, Cond.code yX8_firstZone cX8_firstZone 1 (some .int), Cond.methodLink RX5 147 yX3_greatestForce, Cond.instanceMethod yX3_greatestForce, Cond.selects RX3 yX3_greatestForce yX3_greatestForce, Cond.code yX3_greatestForce cX3_greatestForce 5 (some .int)]
def wsL_law_r22 : List Cond := [Cond.methodLink RX3 64 Lib.Math.max.name, Cond.static yX8_greatestTension, Cond.code yX8_greatestTension cX8_greatestTension 2 (some .int), Cond.methodLink RX5 162 yX1_lengthOfTurn, Cond.instanceMethod yX1_lengthOfTurn, Cond.selects RX1 yX1_lengthOfTurn yX1_lengthOfTurn, Cond.code yX1_lengthOfTurn cX1_lengthOfTurn 2 (some .int), Cond.methodLink RX5 165 yX5_fetchFilm, Cond.instanceMethod yX5_fetchFilm, Cond.selects RX5 yX5_fetchFilm yX5_fetchFilm, Cond.code yX5_fetchFilm cX5_fetchFilm 6 (some .int), Cond.fieldLink RX5 193 "PalletWrapper$Roll" "position" "I", Cond.fieldLink RX5 196 "PalletWrapper$Result" "onPallet" "I", Cond.fieldLink RX5 199 "PalletWrapper$Result" "weight" "I", Cond.fieldLink RX5 202 "PalletWrapper$Roll" "weight" "I", Cond.fieldLink RX5 207 "PalletWrapper$Result" "breaks" "I", Cond.methodLink RX5 184 yX4_rest, Cond.instanceMethod yX4_rest, Cond.selects RX4 yX4_rest yX4_rest, Cond.code yX4_rest cX4_rest 1 (some .int), Cond.methodLink RX5 187 yX5_changeRoll, Cond.instanceMethod yX5_changeRoll, Cond.selects RX5 yX5_changeRoll yX5_changeRoll, Cond.code yX5_changeRoll cX5_changeRoll 2 none]
def wsL_law_r23 : List Cond := [Cond.fieldLink RX5 210 "PalletWrapper$Result" "tails" "I", Cond.fieldLink RX5 213 "PalletWrapper$Result" "changes" "I", Cond.methodLink RX5 216 yX5_removePresentRoll, Cond.instanceMethod yX5_removePresentRoll, Cond.selects RX5 yX5_removePresentRoll yX5_removePresentRoll, Cond.code yX5_removePresentRoll cX5_removePresentRoll 3 none, Cond.methodLink RX5 190 yX4_breakingPlace, Cond.instanceMethod yX4_breakingPlace, Cond.selects RX4 yX4_breakingPlace yX4_breakingPlace, Cond.code yX4_breakingPlace cX4_breakingPlace 4 (some .int), Cond.methodLink RX5 203 yX5_breakFilm, Cond.instanceMethod yX5_breakFilm, Cond.selects RX5 yX5_breakFilm yX5_breakFilm, Cond.code yX5_breakFilm cX5_breakFilm 5 none, Cond.fieldLink RX5 219 "PalletWrapper$Result" "pieces" "I", Cond.fieldLink RX5 222 "PalletWrapper$Result" "threading" "I", Cond.methodLink RX5 175 yX1_timeOfTurn, Cond.instanceMethod yX1_timeOfTurn, Cond.selects RX1 yX1_timeOfTurn yX1_timeOfTurn, Cond.code yX1_timeOfTurn cX1_timeOfTurn 1 (some .int), Cond.static yX8_forceOf, Cond.code yX8_forceOf cX8_forceOf 1 (some .int), Cond.methodLink RX5 181 yX3_addLayer, Cond.instanceMethod yX3_addLayer]
def wsL_law_r24 : List Cond := [Cond.selects RX3 yX3_addLayer yX3_addLayer, Cond.code yX3_addLayer cX3_addLayer 5 none, Cond.methodLink RX5 124 yX5_removePallet, Cond.instanceMethod yX5_removePallet, Cond.selects RX5 yX5_removePallet yX5_removePallet, Cond.code yX5_removePallet cX5_removePallet 4 none, Cond.methodLink RX5 128 yX6_add, Cond.instanceMethod yX6_add, Cond.selects RX6 yX6_add yX6_add, Cond.code yX6_add cX6_add 2 none, Cond.fieldLink RX6 18 "PalletWrapper$Result" "outcome" "I", Cond.fieldLink RX6 26 "PalletWrapper$Result" "made" "I", Cond.fieldLink RX6 30 "PalletWrapper$Result" "skipped" "I", Cond.fieldLink RX6 34 "PalletWrapper$Result" "onPallet" "I", Cond.fieldLink RX6 40 "PalletWrapper$Result" "tails" "I", Cond.fieldLink RX6 44 "PalletWrapper$Result" "pieces" "I", Cond.fieldLink RX6 48 "PalletWrapper$Result" "threading" "I", Cond.fieldLink RX6 52 "PalletWrapper$Result" "breaks" "I", Cond.fieldLink RX6 56 "PalletWrapper$Result" "changes" "I", Cond.fieldLink RX6 60 "PalletWrapper$Result" "time" "I", Cond.fieldLink RX6 65 "PalletWrapper$Result" "weight" "I", Cond.methodLink RL 76 yX8_done, Cond.instanceMethod yX8_done, Cond.selects RX8 yX8_done yX8_done]
def wsL_law_r25 : List Cond := [Cond.code yX8_done cX8_done 3 (some .int), Cond.fieldLink RX8 184 "PalletWrapper$State" "keptCount" "I", Cond.fieldLink RX8 177 "PalletWrapper$State" "kept" "[LPalletWrapper$Result;", Cond.methodLink RX8 181 yX3_property, Cond.instanceMethod yX3_property, Cond.selects RX3 yX3_property yX3_property, Cond.code yX3_property cX3_property 2 (some .int), Cond.static yX8_least, Cond.code yX8_least cX8_least 4 (some .int), Cond.methodLink RX3 81 yX3_greatestForce, Cond.methodLink RL 113 yL_isKept, Cond.static yL_isKept, Cond.code yL_isKept cL_isKept 6 (some .boolean)]
def wsL_law : List Cond := (wsL_law_r1 ++ (wsL_law_r2 ++ (wsL_law_r3 ++ (wsL_law_r4 ++ (wsL_law_r5 ++ (wsL_law_r6 ++ (wsL_law_r7 ++ (wsL_law_r8 ++ (wsL_law_r9 ++ (wsL_law_r10 ++ (wsL_law_r11 ++ (wsL_law_r12 ++ (wsL_law_r13 ++ (wsL_law_r14 ++ (wsL_law_r15 ++ (wsL_law_r16 ++ (wsL_law_r17 ++ (wsL_law_r18 ++ (wsL_law_r19 ++ (wsL_law_r20 ++ (wsL_law_r21 ++ (wsL_law_r22 ++ (wsL_law_r23 ++ (wsL_law_r24 ++ wsL_law_r25)))))))))))))))))))))))) ++ wsX80 ++ wsX50 ++ wsX70 ++ wsX20 ++ wsX00 ++ wsX40 ++ wsX10 ++ wsX30 ++ wsX60 ++ ([] : List Cond)
theorem inlX0 : ∀ w ∈ wsX00, w ∈ wsL_law := fun _ h => List.mem_append_left _ (List.mem_append_left _ (List.mem_append_left _ (List.mem_append_left _ (List.mem_append_left _ (List.mem_append_right _ h)))))
theorem inlX1 : ∀ w ∈ wsX10, w ∈ wsL_law := fun _ h => List.mem_append_left _ (List.mem_append_left _ (List.mem_append_left _ (List.mem_append_right _ h)))
theorem inlX2 : ∀ w ∈ wsX20, w ∈ wsL_law := fun _ h => List.mem_append_left _ (List.mem_append_left _ (List.mem_append_left _ (List.mem_append_left _ (List.mem_append_left _ (List.mem_append_left _ (List.mem_append_right _ h))))))
theorem inlX3 : ∀ w ∈ wsX30, w ∈ wsL_law := fun _ h => List.mem_append_left _ (List.mem_append_left _ (List.mem_append_right _ h))
theorem inlX4 : ∀ w ∈ wsX40, w ∈ wsL_law := fun _ h => List.mem_append_left _ (List.mem_append_left _ (List.mem_append_left _ (List.mem_append_left _ (List.mem_append_right _ h))))
theorem inlX5 : ∀ w ∈ wsX50, w ∈ wsL_law := fun _ h => List.mem_append_left _ (List.mem_append_left _ (List.mem_append_left _ (List.mem_append_left _ (List.mem_append_left _ (List.mem_append_left _ (List.mem_append_left _ (List.mem_append_left _ (List.mem_append_right _ h))))))))
theorem inlX6 : ∀ w ∈ wsX60, w ∈ wsL_law := fun _ h => List.mem_append_left _ (List.mem_append_right _ h)
theorem inlX7 : ∀ w ∈ wsX70, w ∈ wsL_law := fun _ h => List.mem_append_left _ (List.mem_append_left _ (List.mem_append_left _ (List.mem_append_left _ (List.mem_append_left _ (List.mem_append_left _ (List.mem_append_left _ (List.mem_append_right _ h)))))))
theorem inlX8 : ∀ w ∈ wsX80, w ∈ wsL_law := fun _ h => List.mem_append_left _ (List.mem_append_left _ (List.mem_append_left _ (List.mem_append_left _ (List.mem_append_left _ (List.mem_append_left _ (List.mem_append_left _ (List.mem_append_left _ (List.mem_append_left _ (List.mem_append_right _ h)))))))))
abbrev vwCl : List vw_C := [(RX0, TX0, 7), (RX1, TX1, 6), (RX2, TX2, 3), (RX3, TX3, 15), (RX4, TX4, 6), (RX5, TX5, 11), (RX6, TX6, 12), (RX7, TX7, 2), (RX8, TX8, 8)]