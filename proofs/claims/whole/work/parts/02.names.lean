/-! ===== BEGIN words of one list among another's, by their places ===== -/
theorem goodIn_r {big : List Cond} (ws : List Cond) (ps : List Nat) (hp : ws = ps.filterMap (fun i => big[i]?)) (h : ws.all goodWord = true) : GoodIn big ws := by
  intro w hw
  have h1 := List.all_eq_true.mp h w hw
  rw [hp] at hw
  obtain ⟨i, -, hi⟩ := List.mem_filterMap.mp hw
  have hm : w ∈ big := by first | exact List.mem_of_getElem? hi | exact List.getElem?_mem hi
  exact ⟨hm, good_of_word h1⟩
theorem goodIn_app {big a b : List Cond} (ha : GoodIn big a) (hb : GoodIn big b) : GoodIn big (a ++ b) := fun w h => (List.mem_append.mp h).elim (ha w) (hb w)
theorem goodIn_ca {big a b : List Cond} {c : Cond} (ha : GoodIn big (c :: a)) (hb : GoodIn big b) : GoodIn big (c :: (a ++ b)) := fun w h => (List.mem_cons.mp h).elim (fun e => ha w (List.mem_cons.mpr (Or.inl e))) (fun h => (List.mem_append.mp h).elim (fun h => ha w (List.mem_cons.mpr (Or.inr h))) (hb w))
theorem goodIn_sub {big ws : List Cond} (hm : ∀ w ∈ ws, w ∈ big) (h : ws.all goodWord = true) : GoodIn big ws := fun w hw => ⟨hm w hw, good_of_word (List.all_eq_true.mp h w hw)⟩
/-! ===== END ===== -/

/-! ===== BEGIN printed: names, fields, word lists, decode rows ===== -/
def RX0 : String := "CoverShares$Greedy"
def TX0 : u_T := fun k => match k with
  | 0 => ("CoverShares$Greedy", "chosen", "I", false)
  | _ => ("CoverShares$Greedy", "last", "I", false)
def tyX0 : Nat → FieldType := fun k => match k with
  | 0 => .int
  | _ => .int
abbrev wsX00 : List Cond := u_ws RX0 TX0 2
theorem nmX0 : ∀ a, a < 2 → ∀ b, b < 2 → a ≠ b → (TX0 a).2.1 ≠ (TX0 b).2.1 := by decide +kernel
theorem tyX0_ok : ∀ k, k < 2 → parseFieldDescriptor (TX0 k).2.2.1 = some (tyX0 k) := by decide +kernel
abbrev cX0_init : ByteArray := prog_2_method_1_code
def yX0_init : MethodName := ⟨RX0, "<init>", "()V"⟩
abbrev cX0_choose : ByteArray := prog_2_method_2_code
def yX0_choose : MethodName := ⟨RX0, "choose", "(LCoverShares$State;)V"⟩
abbrev cX0_bestByRate : ByteArray := prog_2_method_3_code
def yX0_bestByRate : MethodName := ⟨RX0, "bestByRate", "(LCoverShares$State;I)I"⟩
def RX1 : String := "CoverShares$History"
def TX1 : u_T := fun k => match k with
  | 0 => ("CoverShares$History", "size", "I", false)
  | _ => ("CoverShares$History", "states", "[LCoverShares$State;", true)
def tyX1 : Nat → FieldType := fun k => match k with
  | 0 => .int
  | _ => .array (.object "CoverShares$State")
abbrev wsX10 : List Cond := u_ws RX1 TX1 2
theorem nmX1 : ∀ a, a < 2 → ∀ b, b < 2 → a ≠ b → (TX1 a).2.1 ≠ (TX1 b).2.1 := by decide +kernel
theorem tyX1_ok : ∀ k, k < 2 → parseFieldDescriptor (TX1 k).2.2.1 = some (tyX1 k) := by decide +kernel
abbrev cX1_init : ByteArray := prog_3_method_1_code
def yX1_init : MethodName := ⟨RX1, "<init>", "()V"⟩
abbrev cX1_record : ByteArray := prog_3_method_2_code
def yX1_record : MethodName := ⟨RX1, "record", "(LCoverShares$State;)V"⟩
abbrev cX1_forgetOldest : ByteArray := prog_3_method_3_code
def yX1_forgetOldest : MethodName := ⟨RX1, "forgetOldest", "()V"⟩
abbrev cX1_takeBack : ByteArray := prog_3_method_4_code
def yX1_takeBack : MethodName := ⟨RX1, "takeBack", "(LCoverShares$State;)V"⟩
def RX2 : String := "CoverShares$Pad"
def TX2 : u_T := fun k => match k with
  | 0 => ("CoverShares$Pad", "length", "I", false)
  | 1 => ("CoverShares$Pad", "signs", "[C", true)
  | 2 => ("CoverShares$Pad", "sets", "I", false)
  | 3 => ("CoverShares$Pad", "things", "[I", true)
  | 4 => ("CoverShares$Pad", "prices", "[I", true)
  | 5 => ("CoverShares$Pad", "inNumber", "Z", false)
  | 6 => ("CoverShares$Pad", "letters", "I", false)
  | _ => ("CoverShares$Pad", "number", "I", false)
def tyX2 : Nat → FieldType := fun k => match k with
  | 0 => .int
  | 1 => .array .char
  | 2 => .int
  | 3 => .array .int
  | 4 => .array .int
  | 5 => .boolean
  | 6 => .int
  | _ => .int
abbrev wsX20 : List Cond := u_ws RX2 TX2 8
theorem nmX2 : ∀ a, a < 8 → ∀ b, b < 8 → a ≠ b → (TX2 a).2.1 ≠ (TX2 b).2.1 := by decide +kernel
theorem tyX2_ok : ∀ k, k < 8 → parseFieldDescriptor (TX2 k).2.2.1 = some (tyX2 k) := by decide +kernel
abbrev cX2_init : ByteArray := prog_4_method_1_code
def yX2_init : MethodName := ⟨RX2, "<init>", "()V"⟩
abbrev cX2_append : ByteArray := prog_4_method_2_code
def yX2_append : MethodName := ⟨RX2, "append", "(J)I"⟩
abbrev cX2_signsIn : ByteArray := prog_4_method_3_code
def yX2_signsIn : MethodName := ⟨RX2, "signsIn", "(J)I"⟩
abbrev cX2_read : ByteArray := prog_4_method_4_code
def yX2_read : MethodName := ⟨RX2, "read", "()I"⟩
abbrev cX2_beginSet : ByteArray := prog_4_method_5_code
def yX2_beginSet : MethodName := ⟨RX2, "beginSet", "()V"⟩
abbrev cX2_endSet : ByteArray := prog_4_method_6_code
def yX2_endSet : MethodName := ⟨RX2, "endSet", "()V"⟩
abbrev cX2_takeSign : ByteArray := prog_4_method_7_code
def yX2_takeSign : MethodName := ⟨RX2, "takeSign", "(C)Z"⟩
abbrev cX2_takeLetter : ByteArray := prog_4_method_8_code
def yX2_takeLetter : MethodName := ⟨RX2, "takeLetter", "(C)Z"⟩
abbrev cX2_takeEqualsSign : ByteArray := prog_4_method_9_code
def yX2_takeEqualsSign : MethodName := ⟨RX2, "takeEqualsSign", "()Z"⟩
abbrev cX2_takeDigit : ByteArray := prog_4_method_10_code
def yX2_takeDigit : MethodName := ⟨RX2, "takeDigit", "(C)Z"⟩
abbrev cX2_takeSemicolon : ByteArray := prog_4_method_11_code
def yX2_takeSemicolon : MethodName := ⟨RX2, "takeSemicolon", "()Z"⟩
abbrev cX2_appendSetsTo : ByteArray := prog_4_method_12_code
def yX2_appendSetsTo : MethodName := ⟨RX2, "appendSetsTo", "(LCoverShares$State;)V"⟩
def RX3 : String := "CoverShares$Search"
def TX3 : u_T := fun k => match k with
  | 0 => ("CoverShares$Search", "walk", "LCoverShares$Walk;", true)
  | 1 => ("CoverShares$Search", "leastSets", "I", false)
  | 2 => ("CoverShares$Search", "leastPrice", "I", false)
  | 3 => ("CoverShares$Search", "dearestThing", "I", false)
  | 4 => ("CoverShares$Search", "priceWithoutDearest", "I", false)
  | _ => ("CoverShares$Search", "leastMissingOne", "[I", true)
def tyX3 : Nat → FieldType := fun k => match k with
  | 0 => .object "CoverShares$Walk"
  | 1 => .int
  | 2 => .int
  | 3 => .int
  | 4 => .int
  | _ => .array .int
abbrev wsX30 : List Cond := u_ws RX3 TX3 6
theorem nmX3 : ∀ a, a < 6 → ∀ b, b < 6 → a ≠ b → (TX3 a).2.1 ≠ (TX3 b).2.1 := by decide +kernel
theorem tyX3_ok : ∀ k, k < 6 → parseFieldDescriptor (TX3 k).2.2.1 = some (tyX3 k) := by decide +kernel
abbrev cX3_init : ByteArray := prog_5_method_1_code
def yX3_init : MethodName := ⟨RX3, "<init>", "()V"⟩
abbrev cX3_findLeast : ByteArray := prog_5_method_2_code
def yX3_findLeast : MethodName := ⟨RX3, "findLeast", "(LCoverShares$State;)V"⟩
abbrev cX3_countUpTo : ByteArray := prog_5_method_3_code
def yX3_countUpTo : MethodName := ⟨RX3, "countUpTo", "(LCoverShares$State;I)I"⟩
abbrev cX3_countTight : ByteArray := prog_5_method_4_code
def yX3_countTight : MethodName := ⟨RX3, "countTight", "(LCoverShares$State;)I"⟩
abbrev cX3_greatestPriceToStay : ByteArray := prog_5_method_5_code
def yX3_greatestPriceToStay : MethodName := ⟨RX3, "greatestPriceToStay", "(LCoverShares$State;I)I"⟩
abbrev cX3_findDearest : ByteArray := prog_5_method_6_code
def yX3_findDearest : MethodName := ⟨RX3, "findDearest", "(LCoverShares$State;)V"⟩
abbrev cX3_findLeastMissingOne : ByteArray := prog_5_method_7_code
def yX3_findLeastMissingOne : MethodName := ⟨RX3, "findLeastMissingOne", "(LCoverShares$State;)V"⟩
abbrev cX3_noteMissingOne : ByteArray := prog_5_method_8_code
def yX3_noteMissingOne : MethodName := ⟨RX3, "noteMissingOne", "(II)V"⟩
def RX4 : String := "CoverShares$Shares"
def TX4 : u_T := fun k => match k with
  | 0 => ("CoverShares$Shares", "open", "I", false)
  | 1 => ("CoverShares$Shares", "inTight", "I", false)
  | 2 => ("CoverShares$Shares", "rounds", "I", false)
  | 3 => ("CoverShares$Shares", "tight", "I", false)
  | 4 => ("CoverShares$Shares", "tightCount", "I", false)
  | 5 => ("CoverShares$Shares", "dropped", "I", false)
  | 6 => ("CoverShares$Shares", "raised", "[I", true)
  | 7 => ("CoverShares$Shares", "fillings", "[I", true)
  | 8 => ("CoverShares$Shares", "places", "[I", true)
  | _ => ("CoverShares$Shares", "order", "[I", true)
def tyX4 : Nat → FieldType := fun k => match k with
  | 0 => .int
  | 1 => .int
  | 2 => .int
  | 3 => .int
  | 4 => .int
  | 5 => .int
  | 6 => .array .int
  | 7 => .array .int
  | 8 => .array .int
  | _ => .array .int
abbrev wsX40 : List Cond := u_ws RX4 TX4 10
theorem nmX4 : ∀ a, a < 10 → ∀ b, b < 10 → a ≠ b → (TX4 a).2.1 ≠ (TX4 b).2.1 := by decide +kernel
theorem tyX4_ok : ∀ k, k < 10 → parseFieldDescriptor (TX4 k).2.2.1 = some (tyX4 k) := by decide +kernel
abbrev cX4_init : ByteArray := prog_6_method_1_code
def yX4_init : MethodName := ⟨RX4, "<init>", "()V"⟩
abbrev cX4_raiseAll : ByteArray := prog_6_method_2_code
def yX4_raiseAll : MethodName := ⟨RX4, "raiseAll", "(LCoverShares$State;)V"⟩
abbrev cX4_begin : ByteArray := prog_6_method_3_code
def yX4_begin : MethodName := ⟨RX4, "begin", "(LCoverShares$State;)V"⟩
abbrev cX4_makeRound : ByteArray := prog_6_method_4_code
def yX4_makeRound : MethodName := ⟨RX4, "makeRound", "(LCoverShares$State;)V"⟩
abbrev cX4_fillSetsWith : ByteArray := prog_6_method_5_code
def yX4_fillSetsWith : MethodName := ⟨RX4, "fillSetsWith", "(ILCoverShares$State;)V"⟩
abbrev cX4_becomeTight : ByteArray := prog_6_method_6_code
def yX4_becomeTight : MethodName := ⟨RX4, "becomeTight", "(II)V"⟩
abbrev cX4_dropInReverse : ByteArray := prog_6_method_7_code
def yX4_dropInReverse : MethodName := ⟨RX4, "dropInReverse", "(LCoverShares$State;)V"⟩
abbrev cX4_sum : ByteArray := prog_6_method_8_code
def yX4_sum : MethodName := ⟨RX4, "sum", "()I"⟩
def RX5 : String := "CoverShares$Slots"
def TX5 : u_T := fun k => match k with
  | 0 => ("CoverShares$Slots", "states", "[LCoverShares$State;", true)
  | _ => ("CoverShares$Slots", "kept", "[Z", true)
def tyX5 : Nat → FieldType := fun k => match k with
  | 0 => .array (.object "CoverShares$State")
  | _ => .array .boolean
abbrev wsX50 : List Cond := u_ws RX5 TX5 2
theorem nmX5 : ∀ a, a < 2 → ∀ b, b < 2 → a ≠ b → (TX5 a).2.1 ≠ (TX5 b).2.1 := by decide +kernel
theorem tyX5_ok : ∀ k, k < 2 → parseFieldDescriptor (TX5 k).2.2.1 = some (tyX5 k) := by decide +kernel
abbrev cX5_init : ByteArray := prog_7_method_1_code
def yX5_init : MethodName := ⟨RX5, "<init>", "()V"⟩
abbrev cX5_isKept : ByteArray := prog_7_method_2_code
def yX5_isKept : MethodName := ⟨RX5, "isKept", "(I)Z"⟩
abbrev cX5_keep : ByteArray := prog_7_method_3_code
def yX5_keep : MethodName := ⟨RX5, "keep", "(ILCoverShares$State;)V"⟩
abbrev cX5_copyTo : ByteArray := prog_7_method_4_code
def yX5_copyTo : MethodName := ⟨RX5, "copyTo", "(ILCoverShares$State;)V"⟩
def RX6 : String := "CoverShares$State"
def TX6 : u_T := fun k => match k with
  | 0 => ("CoverShares$State", "needed", "I", false)
  | 1 => ("CoverShares$State", "size", "I", false)
  | 2 => ("CoverShares$State", "things", "[I", true)
  | 3 => ("CoverShares$State", "prices", "[I", true)
  | _ => ("CoverShares$State", "marks", "[I", true)
def tyX6 : Nat → FieldType := fun k => match k with
  | 0 => .int
  | 1 => .int
  | 2 => .array .int
  | 3 => .array .int
  | _ => .array .int
abbrev wsX60 : List Cond := u_ws RX6 TX6 5
theorem nmX6 : ∀ a, a < 5 → ∀ b, b < 5 → a ≠ b → (TX6 a).2.1 ≠ (TX6 b).2.1 := by decide +kernel
theorem tyX6_ok : ∀ k, k < 5 → parseFieldDescriptor (TX6 k).2.2.1 = some (tyX6 k) := by decide +kernel
abbrev cX6_init : ByteArray := prog_8_method_1_code
def yX6_init : MethodName := ⟨RX6, "<init>", "()V"⟩
abbrev cX6_copyFrom : ByteArray := prog_8_method_2_code
def yX6_copyFrom : MethodName := ⟨RX6, "copyFrom", "(LCoverShares$State;)V"⟩
abbrev cX6_hasSet : ByteArray := prog_8_method_3_code
def yX6_hasSet : MethodName := ⟨RX6, "hasSet", "(I)Z"⟩
abbrev cX6_append : ByteArray := prog_8_method_4_code
def yX6_append : MethodName := ⟨RX6, "append", "(II)V"⟩
abbrev cX6_remove : ByteArray := prog_8_method_5_code
def yX6_remove : MethodName := ⟨RX6, "remove", "(I)V"⟩
abbrev cX6_marked : ByteArray := prog_8_method_6_code
def yX6_marked : MethodName := ⟨RX6, "marked", "(I)I"⟩
abbrev cX6_notBarred : ByteArray := prog_8_method_7_code
def yX6_notBarred : MethodName := ⟨RX6, "notBarred", "()I"⟩
abbrev cX6_setsWith : ByteArray := prog_8_method_8_code
def yX6_setsWith : MethodName := ⟨RX6, "setsWith", "(I)I"⟩
abbrev cX6_thingsOf : ByteArray := prog_8_method_9_code
def yX6_thingsOf : MethodName := ⟨RX6, "thingsOf", "(I)I"⟩
abbrev cX6_priceOf : ByteArray := prog_8_method_10_code
def yX6_priceOf : MethodName := ⟨RX6, "priceOf", "(I)I"⟩
abbrev cX6_missingIn : ByteArray := prog_8_method_11_code
def yX6_missingIn : MethodName := ⟨RX6, "missingIn", "(I)I"⟩
abbrev cX6_hasCover : ByteArray := prog_8_method_12_code
def yX6_hasCover : MethodName := ⟨RX6, "hasCover", "()Z"⟩
abbrev cX6_isCover : ByteArray := prog_8_method_13_code
def yX6_isCover : MethodName := ⟨RX6, "isCover", "(I)Z"⟩
abbrev cX6_neededAlone : ByteArray := prog_8_method_14_code
def yX6_neededAlone : MethodName := ⟨RX6, "neededAlone", "(I)I"⟩
abbrev cX6_mostSetsWithOneThing : ByteArray := prog_8_method_15_code
def yX6_mostSetsWithOneThing : MethodName := ⟨RX6, "mostSetsWithOneThing", "()I"⟩
def RX7 : String := "CoverShares$Walk"
def TX7 : u_T := fun k => match k with
  | 0 => ("CoverShares$Walk", "needed", "I", false)
  | 1 => ("CoverShares$Walk", "free", "I", false)
  | 2 => ("CoverShares$Walk", "freeThings", "[I", true)
  | 3 => ("CoverShares$Walk", "freePrices", "[I", true)
  | 4 => ("CoverShares$Walk", "freeMasks", "[I", true)
  | 5 => ("CoverShares$Walk", "sets", "[I", true)
  | 6 => ("CoverShares$Walk", "prices", "[I", true)
  | 7 => ("CoverShares$Walk", "things", "[I", true)
  | _ => ("CoverShares$Walk", "thingsTwice", "[I", true)
def tyX7 : Nat → FieldType := fun k => match k with
  | 0 => .int
  | 1 => .int
  | 2 => .array .int
  | 3 => .array .int
  | 4 => .array .int
  | 5 => .array .int
  | 6 => .array .int
  | 7 => .array .int
  | _ => .array .int
abbrev wsX70 : List Cond := u_ws RX7 TX7 9
theorem nmX7 : ∀ a, a < 9 → ∀ b, b < 9 → a ≠ b → (TX7 a).2.1 ≠ (TX7 b).2.1 := by decide +kernel
theorem tyX7_ok : ∀ k, k < 9 → parseFieldDescriptor (TX7 k).2.2.1 = some (tyX7 k) := by decide +kernel
abbrev cX7_init : ByteArray := prog_9_method_1_code
def yX7_init : MethodName := ⟨RX7, "<init>", "()V"⟩
abbrev cX7_begin : ByteArray := prog_9_method_2_code
def yX7_begin : MethodName := ⟨RX7, "begin", "(LCoverShares$State;)I"⟩
abbrev cX7_noteFree : ByteArray := prog_9_method_3_code
def yX7_noteFree : MethodName := ⟨RX7, "noteFree", "(III)V"⟩
abbrev cX7_join : ByteArray := prog_9_method_4_code
def yX7_join : MethodName := ⟨RX7, "join", "(IIIII)V"⟩
abbrev cX7_goTo : ByteArray := prog_9_method_5_code
def yX7_goTo : MethodName := ⟨RX7, "goTo", "(I)V"⟩
abbrev cX7_chosen : ByteArray := prog_9_method_6_code
def yX7_chosen : MethodName := ⟨RX7, "chosen", "()I"⟩
abbrev cX7_sum : ByteArray := prog_9_method_7_code
def yX7_sum : MethodName := ⟨RX7, "sum", "()I"⟩
abbrev cX7_missing : ByteArray := prog_9_method_8_code
def yX7_missing : MethodName := ⟨RX7, "missing", "()I"⟩
abbrev cX7_isFullCover : ByteArray := prog_9_method_9_code
def yX7_isFullCover : MethodName := ⟨RX7, "isFullCover", "()Z"⟩
abbrev cX7_hasNoSpareSet : ByteArray := prog_9_method_10_code
def yX7_hasNoSpareSet : MethodName := ⟨RX7, "hasNoSpareSet", "()Z"⟩
def RX8 : String := "CoverShares"
def TX8 : u_T := fun k => match k with
  | 0 => ("CoverShares", "now", "LCoverShares$State;", true)
  | 1 => ("CoverShares", "history", "LCoverShares$History;", true)
  | 2 => ("CoverShares", "slots", "LCoverShares$Slots;", true)
  | 3 => ("CoverShares", "pad", "LCoverShares$Pad;", true)
  | 4 => ("CoverShares", "shares", "LCoverShares$Shares;", true)
  | 5 => ("CoverShares", "byRate", "LCoverShares$Greedy;", true)
  | _ => ("CoverShares", "search", "LCoverShares$Search;", true)
def tyX8 : Nat → FieldType := fun k => match k with
  | 0 => .object "CoverShares$State"
  | 1 => .object "CoverShares$History"
  | 2 => .object "CoverShares$Slots"
  | 3 => .object "CoverShares$Pad"
  | 4 => .object "CoverShares$Shares"
  | 5 => .object "CoverShares$Greedy"
  | _ => .object "CoverShares$Search"
abbrev wsX80 : List Cond := u_ws RX8 TX8 7
theorem nmX8 : ∀ a, a < 7 → ∀ b, b < 7 → a ≠ b → (TX8 a).2.1 ≠ (TX8 b).2.1 := by decide +kernel
theorem tyX8_ok : ∀ k, k < 7 → parseFieldDescriptor (TX8 k).2.2.1 = some (tyX8 k) := by decide +kernel
abbrev cX8_init : ByteArray := prog_1_method_1_code
def yX8_init : MethodName := ⟨RX8, "<init>", "()V"⟩
abbrev cX8_need : ByteArray := prog_1_method_2_code
def yX8_need : MethodName := ⟨RX8, "need", "(I)I"⟩
abbrev cX8_set : ByteArray := prog_1_method_3_code
def yX8_set : MethodName := ⟨RX8, "set", "(II)I"⟩
abbrev cX8_price : ByteArray := prog_1_method_4_code
def yX8_price : MethodName := ⟨RX8, "price", "(II)I"⟩
abbrev cX8_mark : ByteArray := prog_1_method_5_code
def yX8_mark : MethodName := ⟨RX8, "mark", "(II)I"⟩
abbrev cX8_turn : ByteArray := prog_1_method_6_code
def yX8_turn : MethodName := ⟨RX8, "turn", "(II)I"⟩
abbrev cX8_drop : ByteArray := prog_1_method_7_code
def yX8_drop : MethodName := ⟨RX8, "drop", "(I)I"⟩
abbrev cX8_put : ByteArray := prog_1_method_8_code
def yX8_put : MethodName := ⟨RX8, "put", "(J)I"⟩
abbrev cX8_wipe : ByteArray := prog_1_method_9_code
def yX8_wipe : MethodName := ⟨RX8, "wipe", "()I"⟩
abbrev cX8_fault : ByteArray := prog_1_method_10_code
def yX8_fault : MethodName := ⟨RX8, "fault", "()I"⟩
abbrev cX8_load : ByteArray := prog_1_method_11_code
def yX8_load : MethodName := ⟨RX8, "load", "()I"⟩
abbrev cX8_ofSet : ByteArray := prog_1_method_12_code
def yX8_ofSet : MethodName := ⟨RX8, "ofSet", "(II)I"⟩
abbrev cX8_ofSetByShares : ByteArray := prog_1_method_13_code
def yX8_ofSetByShares : MethodName := ⟨RX8, "ofSetByShares", "(II)I"⟩
abbrev cX8_ofThing : ByteArray := prog_1_method_14_code
def yX8_ofThing : MethodName := ⟨RX8, "ofThing", "(II)I"⟩
abbrev cX8_shareOf : ByteArray := prog_1_method_15_code
def yX8_shareOf : MethodName := ⟨RX8, "shareOf", "(I)I"⟩
abbrev cX8_count : ByteArray := prog_1_method_16_code
def yX8_count : MethodName := ⟨RX8, "count", "(I)I"⟩
abbrev cX8_shared : ByteArray := prog_1_method_17_code
def yX8_shared : MethodName := ⟨RX8, "shared", "(I)I"⟩
abbrev cX8_greedy : ByteArray := prog_1_method_18_code
def yX8_greedy : MethodName := ⟨RX8, "greedy", "(I)I"⟩
abbrev cX8_least : ByteArray := prog_1_method_19_code
def yX8_least : MethodName := ⟨RX8, "least", "(I)I"⟩
abbrev cX8_covers : ByteArray := prog_1_method_20_code
def yX8_covers : MethodName := ⟨RX8, "covers", "(I)I"⟩
abbrev cX8_tightCovers : ByteArray := prog_1_method_21_code
def yX8_tightCovers : MethodName := ⟨RX8, "tightCovers", "()I"⟩
abbrev cX8_staysUpTo : ByteArray := prog_1_method_22_code
def yX8_staysUpTo : MethodName := ⟨RX8, "staysUpTo", "(I)I"⟩
abbrev cX8_dearest : ByteArray := prog_1_method_23_code
def yX8_dearest : MethodName := ⟨RX8, "dearest", "(I)I"⟩
abbrev cX8_check : ByteArray := prog_1_method_24_code
def yX8_check : MethodName := ⟨RX8, "check", "(I)I"⟩
abbrev cX8_undo : ByteArray := prog_1_method_25_code
def yX8_undo : MethodName := ⟨RX8, "undo", "()I"⟩
abbrev cX8_save : ByteArray := prog_1_method_26_code
def yX8_save : MethodName := ⟨RX8, "save", "(I)I"⟩
abbrev cX8_restore : ByteArray := prog_1_method_27_code
def yX8_restore : MethodName := ⟨RX8, "restore", "(I)I"⟩
abbrev cX8_has : ByteArray := prog_1_method_28_code
def yX8_has : MethodName := ⟨RX8, "has", "(II)Z"⟩
abbrev cX8_areSomeThings : ByteArray := prog_1_method_29_code
def yX8_areSomeThings : MethodName := ⟨RX8, "areSomeThings", "(I)Z"⟩
abbrev cX8_isPrice : ByteArray := prog_1_method_30_code
def yX8_isPrice : MethodName := ⟨RX8, "isPrice", "(I)Z"⟩
def RX9 : String := "CoverSharesModel"
def TX9 : u_T := fun k => match k with
  | 0 => ("CoverSharesModel", "now", "[I", true)
  | 1 => ("CoverSharesModel", "history", "[I", true)
  | 2 => ("CoverSharesModel", "undos", "I", false)
  | 3 => ("CoverSharesModel", "saved", "[I", true)
  | 4 => ("CoverSharesModel", "isSaved", "[Z", true)
  | 5 => ("CoverSharesModel", "pad", "[I", true)
  | 6 => ("CoverSharesModel", "signs", "I", false)
  | 7 => ("CoverSharesModel", "readThings", "[I", true)
  | 8 => ("CoverSharesModel", "readPrice", "[I", true)
  | 9 => ("CoverSharesModel", "many", "I", false)
  | 10 => ("CoverSharesModel", "share", "[I", true)
  | 11 => ("CoverSharesModel", "order", "[I", true)
  | 12 => ("CoverSharesModel", "tight", "I", false)
  | 13 => ("CoverSharesModel", "dropped", "I", false)
  | 14 => ("CoverSharesModel", "rounds", "I", false)
  | _ => ("CoverSharesModel", "open", "I", false)
def tyX9 : Nat → FieldType := fun k => match k with
  | 0 => .array .int
  | 1 => .array .int
  | 2 => .int
  | 3 => .array .int
  | 4 => .array .boolean
  | 5 => .array .int
  | 6 => .int
  | 7 => .array .int
  | 8 => .array .int
  | 9 => .int
  | 10 => .array .int
  | 11 => .array .int
  | 12 => .int
  | 13 => .int
  | 14 => .int
  | _ => .int
abbrev wsX90 : List Cond := u_ws RX9 TX9 16
theorem nmX9 : ∀ a, a < 16 → ∀ b, b < 16 → a ≠ b → (TX9 a).2.1 ≠ (TX9 b).2.1 := by decide +kernel
theorem tyX9_ok : ∀ k, k < 16 → parseFieldDescriptor (TX9 k).2.2.1 = some (tyX9 k) := by decide +kernel
abbrev cX9_init : ByteArray := prog_11_method_1_code
def yX9_init : MethodName := ⟨RX9, "<init>", "()V"⟩
abbrev cX9_in : ByteArray := prog_11_method_2_code
def yX9_in : MethodName := ⟨RX9, "in", "(III)Z"⟩
abbrev cX9_has : ByteArray := prog_11_method_3_code
def yX9_has : MethodName := ⟨RX9, "has", "(II)Z"⟩
abbrev cX9_size : ByteArray := prog_11_method_4_code
def yX9_size : MethodName := ⟨RX9, "size", "(I)I"⟩
abbrev cX9_record : ByteArray := prog_11_method_5_code
def yX9_record : MethodName := ⟨RX9, "record", "()V"⟩
abbrev cX9_isSet : ByteArray := prog_11_method_6_code
def yX9_isSet : MethodName := ⟨RX9, "isSet", "(I)Z"⟩
abbrev cX9_things : ByteArray := prog_11_method_7_code
def yX9_things : MethodName := ⟨RX9, "things", "(I)I"⟩
abbrev cX9_priceOf : ByteArray := prog_11_method_8_code
def yX9_priceOf : MethodName := ⟨RX9, "priceOf", "(I)I"⟩
abbrev cX9_markOf : ByteArray := prog_11_method_9_code
def yX9_markOf : MethodName := ⟨RX9, "markOf", "(I)I"⟩
abbrev cX9_need : ByteArray := prog_11_method_10_code
def yX9_need : MethodName := ⟨RX9, "need", "(I)I"⟩
abbrev cX9_make : ByteArray := prog_11_method_11_code
def yX9_make : MethodName := ⟨RX9, "make", "(II)V"⟩
abbrev cX9_set : ByteArray := prog_11_method_12_code
def yX9_set : MethodName := ⟨RX9, "set", "(II)I"⟩
abbrev cX9_price : ByteArray := prog_11_method_13_code
def yX9_price : MethodName := ⟨RX9, "price", "(II)I"⟩
abbrev cX9_mark : ByteArray := prog_11_method_14_code
def yX9_mark : MethodName := ⟨RX9, "mark", "(II)I"⟩
abbrev cX9_turn : ByteArray := prog_11_method_15_code
def yX9_turn : MethodName := ⟨RX9, "turn", "(II)I"⟩
abbrev cX9_drop : ByteArray := prog_11_method_16_code
def yX9_drop : MethodName := ⟨RX9, "drop", "(I)I"⟩
abbrev cX9_read : ByteArray := prog_11_method_17_code
def yX9_read : MethodName := ⟨RX9, "read", "()I"⟩
abbrev cX9_put : ByteArray := prog_11_method_18_code
def yX9_put : MethodName := ⟨RX9, "put", "(J)I"⟩
abbrev cX9_wipe : ByteArray := prog_11_method_19_code
def yX9_wipe : MethodName := ⟨RX9, "wipe", "()I"⟩
abbrev cX9_fault : ByteArray := prog_11_method_20_code
def yX9_fault : MethodName := ⟨RX9, "fault", "()I"⟩
abbrev cX9_load : ByteArray := prog_11_method_21_code
def yX9_load : MethodName := ⟨RX9, "load", "()I"⟩
abbrev cX9_masks : ByteArray := prog_11_method_22_code
def yX9_masks : MethodName := ⟨RX9, "masks", "()I"⟩
abbrev cX9_setsMarked : ByteArray := prog_11_method_23_code
def yX9_setsMarked : MethodName := ⟨RX9, "setsMarked", "(I)I"⟩
abbrev cX9_thingsOf : ByteArray := prog_11_method_24_code
def yX9_thingsOf : MethodName := ⟨RX9, "thingsOf", "(I)I"⟩
abbrev cX9_pricesOf : ByteArray := prog_11_method_25_code
def yX9_pricesOf : MethodName := ⟨RX9, "pricesOf", "(I)I"⟩
abbrev cX9_isCover : ByteArray := prog_11_method_26_code
def yX9_isCover : MethodName := ⟨RX9, "isCover", "(I)Z"⟩
abbrev cX9_hasCover : ByteArray := prog_11_method_27_code
def yX9_hasCover : MethodName := ⟨RX9, "hasCover", "()Z"⟩
abbrev cX9_leastWith : ByteArray := prog_11_method_28_code
def yX9_leastWith : MethodName := ⟨RX9, "leastWith", "(II)I"⟩
abbrev cX9_filling : ByteArray := prog_11_method_29_code
def yX9_filling : MethodName := ⟨RX9, "filling", "(I)I"⟩
abbrev cX9_placeOf : ByteArray := prog_11_method_30_code
def yX9_placeOf : MethodName := ⟨RX9, "placeOf", "(I)I"⟩
abbrev cX9_tightSets : ByteArray := prog_11_method_31_code
def yX9_tightSets : MethodName := ⟨RX9, "tightSets", "()I"⟩
abbrev cX9_tighten : ByteArray := prog_11_method_32_code
def yX9_tighten : MethodName := ⟨RX9, "tighten", "()V"⟩
abbrev cX9_layShares : ByteArray := prog_11_method_33_code
def yX9_layShares : MethodName := ⟨RX9, "layShares", "()V"⟩
abbrev cX9_aloneOf : ByteArray := prog_11_method_34_code
def yX9_aloneOf : MethodName := ⟨RX9, "aloneOf", "(I)I"⟩
abbrev cX9_ofSet : ByteArray := prog_11_method_35_code
def yX9_ofSet : MethodName := ⟨RX9, "ofSet", "(II)I"⟩
abbrev cX9_setsWith : ByteArray := prog_11_method_36_code
def yX9_setsWith : MethodName := ⟨RX9, "setsWith", "(I)I"⟩
abbrev cX9_ofThing : ByteArray := prog_11_method_37_code
def yX9_ofThing : MethodName := ⟨RX9, "ofThing", "(II)I"⟩
abbrev cX9_mostSets : ByteArray := prog_11_method_38_code
def yX9_mostSets : MethodName := ⟨RX9, "mostSets", "()I"⟩
abbrev cX9_count : ByteArray := prog_11_method_39_code
def yX9_count : MethodName := ⟨RX9, "count", "(I)I"⟩
abbrev cX9_shared : ByteArray := prog_11_method_40_code
def yX9_shared : MethodName := ⟨RX9, "shared", "(I)I"⟩
abbrev cX9_greedy : ByteArray := prog_11_method_41_code
def yX9_greedy : MethodName := ⟨RX9, "greedy", "(I)I"⟩
abbrev cX9_least : ByteArray := prog_11_method_42_code
def yX9_least : MethodName := ⟨RX9, "least", "(I)I"⟩
abbrev cX9_covers : ByteArray := prog_11_method_43_code
def yX9_covers : MethodName := ⟨RX9, "covers", "(I)I"⟩
abbrev cX9_canLeave : ByteArray := prog_11_method_44_code
def yX9_canLeave : MethodName := ⟨RX9, "canLeave", "(I)Z"⟩
abbrev cX9_tightCovers : ByteArray := prog_11_method_45_code
def yX9_tightCovers : MethodName := ⟨RX9, "tightCovers", "()I"⟩
abbrev cX9_staysUpTo : ByteArray := prog_11_method_46_code
def yX9_staysUpTo : MethodName := ⟨RX9, "staysUpTo", "(I)I"⟩
abbrev cX9_dearest : ByteArray := prog_11_method_47_code
def yX9_dearest : MethodName := ⟨RX9, "dearest", "(I)I"⟩
abbrev cX9_check : ByteArray := prog_11_method_48_code
def yX9_check : MethodName := ⟨RX9, "check", "(I)I"⟩
abbrev cX9_undo : ByteArray := prog_11_method_49_code
def yX9_undo : MethodName := ⟨RX9, "undo", "()I"⟩
abbrev cX9_save : ByteArray := prog_11_method_50_code
def yX9_save : MethodName := ⟨RX9, "save", "(I)I"⟩
abbrev cX9_restore : ByteArray := prog_11_method_51_code
def yX9_restore : MethodName := ⟨RX9, "restore", "(I)I"⟩
def RJ6 : String := "java/lang/Integer"
def TJ6 : u_T := fun k => match k with
  | _ => ("", "", "", false)
def tyJ6 : Nat → FieldType := fun k => match k with
  | _ => .int
abbrev wsJ60 : List Cond := u_ws RJ6 TJ6 0
theorem nmJ6 : ∀ a, a < 0 → ∀ b, b < 0 → a ≠ b → (TJ6 a).2.1 ≠ (TJ6 b).2.1 := by decide +kernel
theorem tyJ6_ok : ∀ k, k < 0 → parseFieldDescriptor (TJ6 k).2.2.1 = some (tyJ6 k) := by decide +kernel
abbrev cJ6_numberOfTrailingZeros_0f7a4 : ByteArray := prog_12_method_48_code
def yJ6_numberOfTrailingZeros_0f7a4 : MethodName := ⟨RJ6, "numberOfTrailingZeros", "(I)I"⟩
abbrev cJ6_bitCount_0f7a4 : ByteArray := prog_12_method_49_code
def yJ6_bitCount_0f7a4 : MethodName := ⟨RJ6, "bitCount", "(I)I"⟩
def RJ9 : String := "java/lang/Math"
def TJ9 : u_T := fun k => match k with
  | _ => ("", "", "", false)
def tyJ9 : Nat → FieldType := fun k => match k with
  | _ => .int
abbrev wsJ90 : List Cond := u_ws RJ9 TJ9 0
theorem nmJ9 : ∀ a, a < 0 → ∀ b, b < 0 → a ≠ b → (TJ9 a).2.1 ≠ (TJ9 b).2.1 := by decide +kernel
theorem tyJ9_ok : ∀ k, k < 0 → parseFieldDescriptor (TJ9 k).2.2.1 = some (tyJ9 k) := by decide +kernel
abbrev cJ9_max_7cf53 : ByteArray := prog_13_method_65_code
def yJ9_max_7cf53 : MethodName := ⟨RJ9, "max", "(II)I"⟩
abbrev cJ9_min_7cf53 : ByteArray := prog_13_method_69_code
def yJ9_min_7cf53 : MethodName := ⟨RJ9, "min", "(II)I"⟩
def RJ7 : String := "java/util/Arrays"
def TJ7 : u_T := fun k => match k with
  | _ => ("", "", "", false)
def tyJ7 : Nat → FieldType := fun k => match k with
  | _ => .int
abbrev wsJ70 : List Cond := u_ws RJ7 TJ7 0
theorem nmJ7 : ∀ a, a < 0 → ∀ b, b < 0 → a ≠ b → (TJ7 a).2.1 ≠ (TJ7 b).2.1 := by decide +kernel
theorem tyJ7_ok : ∀ k, k < 0 → parseFieldDescriptor (TJ7 k).2.2.1 = some (tyJ7 k) := by decide +kernel
abbrev cJ7_fill_53178 : ByteArray := prog_14_method_103_code
def yJ7_fill_53178 : MethodName := ⟨RJ7, "fill", "([II)V"⟩
def RL : String := "CoverSharesLaw"
abbrev cL_law : ByteArray := code
def yL_law : MethodName := ⟨RL, "law", "([I)Z"⟩
theorem dX0_init_0 : decode cX0_init 0 = .ok (.aload_n 0, 1) := by decide +kernel
theorem dX0_init_1 : decode cX0_init 1 = .ok (.invokespecial 3, 3) := by decide +kernel
theorem dX0_init_4 : decode cX0_init 4 = .ok (.aload_n 0, 1) := by decide +kernel
theorem dX0_init_5 : decode cX0_init 5 = .ok (.iconst 0, 1) := by decide +kernel
theorem dX0_init_6 : decode cX0_init 6 = .ok (.putfield 9, 3) := by decide +kernel
theorem dX0_init_9 : decode cX0_init 9 = .ok (.aload_n 0, 1) := by decide +kernel
theorem dX0_init_10 : decode cX0_init 10 = .ok (.bipush (-6), 2) := by decide +kernel
theorem dX0_init_12 : decode cX0_init 12 = .ok (.putfield 15, 3) := by decide +kernel
theorem dX0_init_15 : decode cX0_init 15 = .ok (.return_, 1) := by decide +kernel
theorem dX0_choose_0 : decode cX0_choose 0 = .ok (.aload_n 0, 1) := by decide +kernel
theorem dX0_choose_1 : decode cX0_choose 1 = .ok (.aload_n 1, 1) := by decide +kernel
theorem dX0_choose_2 : decode cX0_choose 2 = .ok (.iconst 1, 1) := by decide +kernel
theorem dX0_choose_3 : decode cX0_choose 3 = .ok (.invokevirtual 18, 3) := by decide +kernel
theorem dX0_choose_6 : decode cX0_choose 6 = .ok (.putfield 9, 3) := by decide +kernel
theorem dX0_choose_9 : decode cX0_choose 9 = .ok (.aload_n 0, 1) := by decide +kernel
theorem dX0_choose_10 : decode cX0_choose 10 = .ok (.bipush (-6), 2) := by decide +kernel
theorem dX0_choose_12 : decode cX0_choose 12 = .ok (.putfield 15, 3) := by decide +kernel
theorem dX0_choose_15 : decode cX0_choose 15 = .ok (.iconst 0, 1) := by decide +kernel
theorem dX0_choose_16 : decode cX0_choose 16 = .ok (.istore_n 2, 1) := by decide +kernel
theorem dX0_choose_17 : decode cX0_choose 17 = .ok (.iload_n 2, 1) := by decide +kernel
theorem dX0_choose_18 : decode cX0_choose 18 = .ok (.bipush 14, 2) := by decide +kernel
theorem dX0_choose_20 : decode cX0_choose 20 = .ok (.if_icmp .ge 57, 3) := by decide +kernel
theorem dX0_choose_23 : decode cX0_choose 23 = .ok (.aload_n 1, 1) := by decide +kernel
theorem dX0_choose_24 : decode cX0_choose 24 = .ok (.aload_n 0, 1) := by decide +kernel
theorem dX0_choose_25 : decode cX0_choose 25 = .ok (.getfield 9, 3) := by decide +kernel
theorem dX0_choose_28 : decode cX0_choose 28 = .ok (.invokevirtual 24, 3) := by decide +kernel
theorem dX0_choose_31 : decode cX0_choose 31 = .ok (.ifCond .eq 46, 3) := by decide +kernel
theorem dX0_choose_34 : decode cX0_choose 34 = .ok (.aload_n 1, 1) := by decide +kernel
theorem dX0_choose_35 : decode cX0_choose 35 = .ok (.aload_n 1, 1) := by decide +kernel
theorem dX0_choose_36 : decode cX0_choose 36 = .ok (.aload_n 0, 1) := by decide +kernel
theorem dX0_choose_37 : decode cX0_choose 37 = .ok (.getfield 9, 3) := by decide +kernel
theorem dX0_choose_40 : decode cX0_choose 40 = .ok (.invokevirtual 24, 3) := by decide +kernel
theorem dX0_choose_43 : decode cX0_choose 43 = .ok (.invokestatic 27, 3) := by decide +kernel
theorem dX0_choose_46 : decode cX0_choose 46 = .ok (.istore_n 3, 1) := by decide +kernel
theorem dX0_choose_47 : decode cX0_choose 47 = .ok (.iload_n 3, 1) := by decide +kernel
theorem dX0_choose_48 : decode cX0_choose 48 = .ok (.bipush (-6), 2) := by decide +kernel
theorem dX0_choose_50 : decode cX0_choose 50 = .ok (.if_icmp .ne 4, 3) := by decide +kernel
theorem dX0_choose_53 : decode cX0_choose 53 = .ok (.return_, 1) := by decide +kernel
theorem dX0_choose_54 : decode cX0_choose 54 = .ok (.aload_n 0, 1) := by decide +kernel
theorem dX0_choose_55 : decode cX0_choose 55 = .ok (.dup, 1) := by decide +kernel
theorem dX0_choose_56 : decode cX0_choose 56 = .ok (.getfield 9, 3) := by decide +kernel
theorem dX0_choose_59 : decode cX0_choose 59 = .ok (.iconst 1, 1) := by decide +kernel
theorem dX0_choose_60 : decode cX0_choose 60 = .ok (.iload_n 3, 1) := by decide +kernel
theorem dX0_choose_61 : decode cX0_choose 61 = .ok (.ishl, 1) := by decide +kernel
theorem dX0_choose_62 : decode cX0_choose 62 = .ok (.ior, 1) := by decide +kernel
theorem dX0_choose_63 : decode cX0_choose 63 = .ok (.putfield 9, 3) := by decide +kernel
theorem dX0_choose_66 : decode cX0_choose 66 = .ok (.aload_n 0, 1) := by decide +kernel
theorem dX0_choose_67 : decode cX0_choose 67 = .ok (.iload_n 3, 1) := by decide +kernel
theorem dX0_choose_68 : decode cX0_choose 68 = .ok (.putfield 15, 3) := by decide +kernel
theorem dX0_choose_71 : decode cX0_choose 71 = .ok (.iinc 2 1, 3) := by decide +kernel
theorem dX0_choose_74 : decode cX0_choose 74 = .ok (.goto (-57), 3) := by decide +kernel
theorem dX0_choose_77 : decode cX0_choose 77 = .ok (.return_, 1) := by decide +kernel
theorem dX0_bestByRate_0 : decode cX0_bestByRate 0 = .ok (.bipush (-6), 2) := by decide +kernel
theorem dX0_bestByRate_2 : decode cX0_bestByRate 2 = .ok (.istore_n 2, 1) := by decide +kernel
theorem dX0_bestByRate_3 : decode cX0_bestByRate 3 = .ok (.iconst 0, 1) := by decide +kernel
theorem dX0_bestByRate_4 : decode cX0_bestByRate 4 = .ok (.istore_n 3, 1) := by decide +kernel
theorem dX0_bestByRate_5 : decode cX0_bestByRate 5 = .ok (.iconst 0, 1) := by decide +kernel
theorem dX0_bestByRate_6 : decode cX0_bestByRate 6 = .ok (.istore 4, 2) := by decide +kernel
theorem dX0_bestByRate_8 : decode cX0_bestByRate 8 = .ok (.iconst 0, 1) := by decide +kernel
theorem dX0_bestByRate_9 : decode cX0_bestByRate 9 = .ok (.istore 5, 2) := by decide +kernel
theorem dX0_bestByRate_11 : decode cX0_bestByRate 11 = .ok (.iload 5, 2) := by decide +kernel
theorem dX0_bestByRate_13 : decode cX0_bestByRate 13 = .ok (.aload_n 0, 1) := by decide +kernel
theorem dX0_bestByRate_14 : decode cX0_bestByRate 14 = .ok (.getfield 31, 3) := by decide +kernel
theorem dX0_bestByRate_17 : decode cX0_bestByRate 17 = .ok (.if_icmp .ge 79, 3) := by decide +kernel
theorem dX0_bestByRate_20 : decode cX0_bestByRate 20 = .ok (.aload_n 0, 1) := by decide +kernel
theorem dX0_bestByRate_21 : decode cX0_bestByRate 21 = .ok (.getfield 34, 3) := by decide +kernel
theorem dX0_bestByRate_24 : decode cX0_bestByRate 24 = .ok (.iload 5, 2) := by decide +kernel
theorem dX0_bestByRate_26 : decode cX0_bestByRate 26 = .ok (.iaload, 1) := by decide +kernel
theorem dX0_bestByRate_27 : decode cX0_bestByRate 27 = .ok (.iload_n 1, 1) := by decide +kernel
theorem dX0_bestByRate_28 : decode cX0_bestByRate 28 = .ok (.iand, 1) := by decide +kernel
theorem dX0_bestByRate_29 : decode cX0_bestByRate 29 = .ok (.invokestatic 38, 3) := by decide +kernel
theorem dX0_bestByRate_32 : decode cX0_bestByRate 32 = .ok (.istore 6, 2) := by decide +kernel
theorem dX0_bestByRate_34 : decode cX0_bestByRate 34 = .ok (.aload_n 0, 1) := by decide +kernel
theorem dX0_bestByRate_35 : decode cX0_bestByRate 35 = .ok (.getfield 43, 3) := by decide +kernel
theorem dX0_bestByRate_38 : decode cX0_bestByRate 38 = .ok (.iload 5, 2) := by decide +kernel
theorem dX0_bestByRate_40 : decode cX0_bestByRate 40 = .ok (.iaload, 1) := by decide +kernel
theorem dX0_bestByRate_41 : decode cX0_bestByRate 41 = .ok (.ifCond .ne 49, 3) := by decide +kernel
theorem dX0_bestByRate_44 : decode cX0_bestByRate 44 = .ok (.iload 6, 2) := by decide +kernel
theorem dX0_bestByRate_46 : decode cX0_bestByRate 46 = .ok (.ifCond .ne 6, 3) := by decide +kernel
theorem dX0_bestByRate_49 : decode cX0_bestByRate 49 = .ok (.goto 41, 3) := by decide +kernel
theorem dX0_bestByRate_52 : decode cX0_bestByRate 52 = .ok (.iload_n 2, 1) := by decide +kernel
theorem dX0_bestByRate_53 : decode cX0_bestByRate 53 = .ok (.bipush (-6), 2) := by decide +kernel
theorem dX0_bestByRate_55 : decode cX0_bestByRate 55 = .ok (.if_icmp .eq 20, 3) := by decide +kernel
theorem dX0_bestByRate_58 : decode cX0_bestByRate 58 = .ok (.aload_n 0, 1) := by decide +kernel
theorem dX0_bestByRate_59 : decode cX0_bestByRate 59 = .ok (.getfield 46, 3) := by decide +kernel
theorem dX0_bestByRate_62 : decode cX0_bestByRate 62 = .ok (.iload 5, 2) := by decide +kernel
theorem dX0_bestByRate_64 : decode cX0_bestByRate 64 = .ok (.iaload, 1) := by decide +kernel
theorem dX0_bestByRate_65 : decode cX0_bestByRate 65 = .ok (.iload 4, 2) := by decide +kernel
theorem dX0_bestByRate_67 : decode cX0_bestByRate 67 = .ok (.imul, 1) := by decide +kernel
theorem dX0_bestByRate_68 : decode cX0_bestByRate 68 = .ok (.iload_n 3, 1) := by decide +kernel
theorem dX0_bestByRate_69 : decode cX0_bestByRate 69 = .ok (.iload 6, 2) := by decide +kernel
theorem dX0_bestByRate_71 : decode cX0_bestByRate 71 = .ok (.imul, 1) := by decide +kernel
theorem dX0_bestByRate_72 : decode cX0_bestByRate 72 = .ok (.if_icmp .ge 18, 3) := by decide +kernel
theorem dX0_bestByRate_75 : decode cX0_bestByRate 75 = .ok (.iload 5, 2) := by decide +kernel
theorem dX0_bestByRate_77 : decode cX0_bestByRate 77 = .ok (.istore_n 2, 1) := by decide +kernel
theorem dX0_bestByRate_78 : decode cX0_bestByRate 78 = .ok (.aload_n 0, 1) := by decide +kernel
theorem dX0_bestByRate_79 : decode cX0_bestByRate 79 = .ok (.getfield 46, 3) := by decide +kernel
theorem dX0_bestByRate_82 : decode cX0_bestByRate 82 = .ok (.iload 5, 2) := by decide +kernel
theorem dX0_bestByRate_84 : decode cX0_bestByRate 84 = .ok (.iaload, 1) := by decide +kernel
theorem dX0_bestByRate_85 : decode cX0_bestByRate 85 = .ok (.istore_n 3, 1) := by decide +kernel
theorem dX0_bestByRate_86 : decode cX0_bestByRate 86 = .ok (.iload 6, 2) := by decide +kernel
theorem dX0_bestByRate_88 : decode cX0_bestByRate 88 = .ok (.istore 4, 2) := by decide +kernel
theorem dX0_bestByRate_90 : decode cX0_bestByRate 90 = .ok (.iinc 5 1, 3) := by decide +kernel
theorem dX0_bestByRate_93 : decode cX0_bestByRate 93 = .ok (.goto (-82), 3) := by decide +kernel
theorem dX0_bestByRate_96 : decode cX0_bestByRate 96 = .ok (.iload_n 2, 1) := by decide +kernel
theorem dX0_bestByRate_97 : decode cX0_bestByRate 97 = .ok (.ireturn, 1) := by decide +kernel
theorem dX1_init_0 : decode cX1_init 0 = .ok (.aload_n 0, 1) := by decide +kernel
theorem dX1_init_1 : decode cX1_init 1 = .ok (.invokespecial 1, 3) := by decide +kernel
theorem dX1_init_4 : decode cX1_init 4 = .ok (.aload_n 0, 1) := by decide +kernel
theorem dX1_init_5 : decode cX1_init 5 = .ok (.iconst 0, 1) := by decide +kernel
theorem dX1_init_6 : decode cX1_init 6 = .ok (.putfield 7, 3) := by decide +kernel
theorem dX1_init_9 : decode cX1_init 9 = .ok (.aload_n 0, 1) := by decide +kernel
theorem dX1_init_10 : decode cX1_init 10 = .ok (.bipush 6, 2) := by decide +kernel
theorem dX1_init_12 : decode cX1_init 12 = .ok (.anewarray 13, 3) := by decide +kernel
theorem dX1_init_15 : decode cX1_init 15 = .ok (.putfield 15, 3) := by decide +kernel
theorem dX1_init_18 : decode cX1_init 18 = .ok (.iconst 0, 1) := by decide +kernel
theorem dX1_init_19 : decode cX1_init 19 = .ok (.istore_n 1, 1) := by decide +kernel
theorem dX1_init_20 : decode cX1_init 20 = .ok (.iload_n 1, 1) := by decide +kernel
theorem dX1_init_21 : decode cX1_init 21 = .ok (.bipush 6, 2) := by decide +kernel
theorem dX1_init_23 : decode cX1_init 23 = .ok (.if_icmp .ge 22, 3) := by decide +kernel
theorem dX1_init_26 : decode cX1_init 26 = .ok (.aload_n 0, 1) := by decide +kernel
theorem dX1_init_27 : decode cX1_init 27 = .ok (.getfield 15, 3) := by decide +kernel
theorem dX1_init_30 : decode cX1_init 30 = .ok (.iload_n 1, 1) := by decide +kernel
theorem dX1_init_31 : decode cX1_init 31 = .ok (.new 13, 3) := by decide +kernel
theorem dX1_init_34 : decode cX1_init 34 = .ok (.dup, 1) := by decide +kernel
theorem dX1_init_35 : decode cX1_init 35 = .ok (.invokespecial 19, 3) := by decide +kernel
theorem dX1_init_38 : decode cX1_init 38 = .ok (.aastore, 1) := by decide +kernel
theorem dX1_init_39 : decode cX1_init 39 = .ok (.iinc 1 1, 3) := by decide +kernel
theorem dX1_init_42 : decode cX1_init 42 = .ok (.goto (-22), 3) := by decide +kernel
theorem dX1_init_45 : decode cX1_init 45 = .ok (.return_, 1) := by decide +kernel
theorem dX1_record_0 : decode cX1_record 0 = .ok (.aload_n 0, 1) := by decide +kernel
theorem dX1_record_1 : decode cX1_record 1 = .ok (.getfield 7, 3) := by decide +kernel
theorem dX1_record_4 : decode cX1_record 4 = .ok (.bipush 6, 2) := by decide +kernel
theorem dX1_record_6 : decode cX1_record 6 = .ok (.if_icmp .lt 7, 3) := by decide +kernel
theorem dX1_record_9 : decode cX1_record 9 = .ok (.aload_n 0, 1) := by decide +kernel
theorem dX1_record_10 : decode cX1_record 10 = .ok (.invokevirtual 20, 3) := by decide +kernel
theorem dX1_record_13 : decode cX1_record 13 = .ok (.aload_n 0, 1) := by decide +kernel
theorem dX1_record_14 : decode cX1_record 14 = .ok (.getfield 15, 3) := by decide +kernel
theorem dX1_record_17 : decode cX1_record 17 = .ok (.aload_n 0, 1) := by decide +kernel
theorem dX1_record_18 : decode cX1_record 18 = .ok (.getfield 7, 3) := by decide +kernel
theorem dX1_record_21 : decode cX1_record 21 = .ok (.aaload, 1) := by decide +kernel
theorem dX1_record_22 : decode cX1_record 22 = .ok (.aload_n 1, 1) := by decide +kernel
theorem dX1_record_23 : decode cX1_record 23 = .ok (.invokevirtual 23, 3) := by decide +kernel
theorem dX1_record_26 : decode cX1_record 26 = .ok (.aload_n 0, 1) := by decide +kernel
theorem dX1_record_27 : decode cX1_record 27 = .ok (.dup, 1) := by decide +kernel
theorem dX1_record_28 : decode cX1_record 28 = .ok (.getfield 7, 3) := by decide +kernel
theorem dX1_record_31 : decode cX1_record 31 = .ok (.iconst 1, 1) := by decide +kernel
theorem dX1_record_32 : decode cX1_record 32 = .ok (.iadd, 1) := by decide +kernel
theorem dX1_record_33 : decode cX1_record 33 = .ok (.putfield 7, 3) := by decide +kernel
theorem dX1_record_36 : decode cX1_record 36 = .ok (.return_, 1) := by decide +kernel
theorem dX1_forgetOldest_0 : decode cX1_forgetOldest 0 = .ok (.aload_n 0, 1) := by decide +kernel
theorem dX1_forgetOldest_1 : decode cX1_forgetOldest 1 = .ok (.getfield 15, 3) := by decide +kernel
theorem dX1_forgetOldest_4 : decode cX1_forgetOldest 4 = .ok (.iconst 0, 1) := by decide +kernel
theorem dX1_forgetOldest_5 : decode cX1_forgetOldest 5 = .ok (.aaload, 1) := by decide +kernel
theorem dX1_forgetOldest_6 : decode cX1_forgetOldest 6 = .ok (.astore_n 1, 1) := by decide +kernel
theorem dX1_forgetOldest_7 : decode cX1_forgetOldest 7 = .ok (.iconst 1, 1) := by decide +kernel
theorem dX1_forgetOldest_8 : decode cX1_forgetOldest 8 = .ok (.istore_n 2, 1) := by decide +kernel
theorem dX1_forgetOldest_9 : decode cX1_forgetOldest 9 = .ok (.iload_n 2, 1) := by decide +kernel
theorem dX1_forgetOldest_10 : decode cX1_forgetOldest 10 = .ok (.bipush 6, 2) := by decide +kernel
theorem dX1_forgetOldest_12 : decode cX1_forgetOldest 12 = .ok (.if_icmp .ge 23, 3) := by decide +kernel
theorem dX1_forgetOldest_15 : decode cX1_forgetOldest 15 = .ok (.aload_n 0, 1) := by decide +kernel
theorem dX1_forgetOldest_16 : decode cX1_forgetOldest 16 = .ok (.getfield 15, 3) := by decide +kernel
theorem dX1_forgetOldest_19 : decode cX1_forgetOldest 19 = .ok (.iload_n 2, 1) := by decide +kernel
theorem dX1_forgetOldest_20 : decode cX1_forgetOldest 20 = .ok (.iconst 1, 1) := by decide +kernel
theorem dX1_forgetOldest_21 : decode cX1_forgetOldest 21 = .ok (.isub, 1) := by decide +kernel
theorem dX1_forgetOldest_22 : decode cX1_forgetOldest 22 = .ok (.aload_n 0, 1) := by decide +kernel
theorem dX1_forgetOldest_23 : decode cX1_forgetOldest 23 = .ok (.getfield 15, 3) := by decide +kernel
theorem dX1_forgetOldest_26 : decode cX1_forgetOldest 26 = .ok (.iload_n 2, 1) := by decide +kernel
theorem dX1_forgetOldest_27 : decode cX1_forgetOldest 27 = .ok (.aaload, 1) := by decide +kernel
theorem dX1_forgetOldest_28 : decode cX1_forgetOldest 28 = .ok (.aastore, 1) := by decide +kernel
theorem dX1_forgetOldest_29 : decode cX1_forgetOldest 29 = .ok (.iinc 2 1, 3) := by decide +kernel
theorem dX1_forgetOldest_32 : decode cX1_forgetOldest 32 = .ok (.goto (-23), 3) := by decide +kernel
theorem dX1_forgetOldest_35 : decode cX1_forgetOldest 35 = .ok (.aload_n 0, 1) := by decide +kernel
theorem dX1_forgetOldest_36 : decode cX1_forgetOldest 36 = .ok (.getfield 15, 3) := by decide +kernel
theorem dX1_forgetOldest_39 : decode cX1_forgetOldest 39 = .ok (.iconst 5, 1) := by decide +kernel
theorem dX1_forgetOldest_40 : decode cX1_forgetOldest 40 = .ok (.aload_n 1, 1) := by decide +kernel
theorem dX1_forgetOldest_41 : decode cX1_forgetOldest 41 = .ok (.aastore, 1) := by decide +kernel
theorem dX1_forgetOldest_42 : decode cX1_forgetOldest 42 = .ok (.aload_n 0, 1) := by decide +kernel
theorem dX1_forgetOldest_43 : decode cX1_forgetOldest 43 = .ok (.iconst 5, 1) := by decide +kernel
theorem dX1_forgetOldest_44 : decode cX1_forgetOldest 44 = .ok (.putfield 7, 3) := by decide +kernel
theorem dX1_forgetOldest_47 : decode cX1_forgetOldest 47 = .ok (.return_, 1) := by decide +kernel
theorem dX1_takeBack_0 : decode cX1_takeBack 0 = .ok (.aload_n 0, 1) := by decide +kernel
theorem dX1_takeBack_1 : decode cX1_takeBack 1 = .ok (.getfield 7, 3) := by decide +kernel
theorem dX1_takeBack_4 : decode cX1_takeBack 4 = .ok (.ifCond .gt 4, 3) := by decide +kernel
theorem dX1_takeBack_7 : decode cX1_takeBack 7 = .ok (.return_, 1) := by decide +kernel
theorem dX1_takeBack_8 : decode cX1_takeBack 8 = .ok (.aload_n 0, 1) := by decide +kernel
theorem dX1_takeBack_9 : decode cX1_takeBack 9 = .ok (.dup, 1) := by decide +kernel
theorem dX1_takeBack_10 : decode cX1_takeBack 10 = .ok (.getfield 7, 3) := by decide +kernel
theorem dX1_takeBack_13 : decode cX1_takeBack 13 = .ok (.iconst 1, 1) := by decide +kernel
theorem dX1_takeBack_14 : decode cX1_takeBack 14 = .ok (.isub, 1) := by decide +kernel
theorem dX1_takeBack_15 : decode cX1_takeBack 15 = .ok (.putfield 7, 3) := by decide +kernel
theorem dX1_takeBack_18 : decode cX1_takeBack 18 = .ok (.aload_n 1, 1) := by decide +kernel
theorem dX1_takeBack_19 : decode cX1_takeBack 19 = .ok (.aload_n 0, 1) := by decide +kernel
theorem dX1_takeBack_20 : decode cX1_takeBack 20 = .ok (.getfield 15, 3) := by decide +kernel
theorem dX1_takeBack_23 : decode cX1_takeBack 23 = .ok (.aload_n 0, 1) := by decide +kernel
theorem dX1_takeBack_24 : decode cX1_takeBack 24 = .ok (.getfield 7, 3) := by decide +kernel
theorem dX1_takeBack_27 : decode cX1_takeBack 27 = .ok (.aaload, 1) := by decide +kernel
theorem dX1_takeBack_28 : decode cX1_takeBack 28 = .ok (.invokevirtual 23, 3) := by decide +kernel
theorem dX1_takeBack_31 : decode cX1_takeBack 31 = .ok (.return_, 1) := by decide +kernel
theorem dX2_init_0 : decode cX2_init 0 = .ok (.aload_n 0, 1) := by decide +kernel
theorem dX2_init_1 : decode cX2_init 1 = .ok (.invokespecial 5, 3) := by decide +kernel
theorem dX2_init_4 : decode cX2_init 4 = .ok (.aload_n 0, 1) := by decide +kernel
theorem dX2_init_5 : decode cX2_init 5 = .ok (.iconst 0, 1) := by decide +kernel
theorem dX2_init_6 : decode cX2_init 6 = .ok (.putfield 11, 3) := by decide +kernel
theorem dX2_init_9 : decode cX2_init 9 = .ok (.aload_n 0, 1) := by decide +kernel
theorem dX2_init_10 : decode cX2_init 10 = .ok (.bipush 80, 2) := by decide +kernel
theorem dX2_init_12 : decode cX2_init 12 = .ok (.newarray .char, 2) := by decide +kernel
theorem dX2_init_14 : decode cX2_init 14 = .ok (.putfield 15, 3) := by decide +kernel
theorem dX2_init_17 : decode cX2_init 17 = .ok (.aload_n 0, 1) := by decide +kernel
theorem dX2_init_18 : decode cX2_init 18 = .ok (.iconst 0, 1) := by decide +kernel
theorem dX2_init_19 : decode cX2_init 19 = .ok (.putfield 19, 3) := by decide +kernel
theorem dX2_init_22 : decode cX2_init 22 = .ok (.aload_n 0, 1) := by decide +kernel
theorem dX2_init_23 : decode cX2_init 23 = .ok (.bipush 21, 2) := by decide +kernel
theorem dX2_init_25 : decode cX2_init 25 = .ok (.newarray .int, 2) := by decide +kernel
theorem dX2_init_27 : decode cX2_init 27 = .ok (.putfield 22, 3) := by decide +kernel
theorem dX2_init_30 : decode cX2_init 30 = .ok (.aload_n 0, 1) := by decide +kernel
theorem dX2_init_31 : decode cX2_init 31 = .ok (.bipush 21, 2) := by decide +kernel
theorem dX2_init_33 : decode cX2_init 33 = .ok (.newarray .int, 2) := by decide +kernel
theorem dX2_init_35 : decode cX2_init 35 = .ok (.putfield 26, 3) := by decide +kernel
theorem dX2_init_38 : decode cX2_init 38 = .ok (.aload_n 0, 1) := by decide +kernel
theorem dX2_init_39 : decode cX2_init 39 = .ok (.iconst 0, 1) := by decide +kernel
theorem dX2_init_40 : decode cX2_init 40 = .ok (.putfield 29, 3) := by decide +kernel
theorem dX2_init_43 : decode cX2_init 43 = .ok (.aload_n 0, 1) := by decide +kernel
theorem dX2_init_44 : decode cX2_init 44 = .ok (.iconst 0, 1) := by decide +kernel
theorem dX2_init_45 : decode cX2_init 45 = .ok (.putfield 33, 3) := by decide +kernel
theorem dX2_init_48 : decode cX2_init 48 = .ok (.aload_n 0, 1) := by decide +kernel
theorem dX2_init_49 : decode cX2_init 49 = .ok (.iconst 0, 1) := by decide +kernel
theorem dX2_init_50 : decode cX2_init 50 = .ok (.putfield 36, 3) := by decide +kernel
theorem dX2_init_53 : decode cX2_init 53 = .ok (.return_, 1) := by decide +kernel
theorem dX2_append_0 : decode cX2_append 0 = .ok (.lload_n 1, 1) := by decide +kernel
theorem dX2_append_1 : decode cX2_append 1 = .ok (.invokestatic 39, 3) := by decide +kernel
theorem dX2_append_4 : decode cX2_append 4 = .ok (.istore_n 3, 1) := by decide +kernel
theorem dX2_append_5 : decode cX2_append 5 = .ok (.iload_n 3, 1) := by decide +kernel
theorem dX2_append_6 : decode cX2_append 6 = .ok (.ifCond .ne 6, 3) := by decide +kernel
theorem dX2_append_9 : decode cX2_append 9 = .ok (.bipush (-2), 2) := by decide +kernel
theorem dX2_append_11 : decode cX2_append 11 = .ok (.ireturn, 1) := by decide +kernel
theorem dX2_append_12 : decode cX2_append 12 = .ok (.aload_n 0, 1) := by decide +kernel
theorem dX2_append_13 : decode cX2_append 13 = .ok (.getfield 11, 3) := by decide +kernel
theorem dX2_append_16 : decode cX2_append 16 = .ok (.iload_n 3, 1) := by decide +kernel
theorem dX2_append_17 : decode cX2_append 17 = .ok (.iadd, 1) := by decide +kernel
theorem dX2_append_18 : decode cX2_append 18 = .ok (.bipush 80, 2) := by decide +kernel
theorem dX2_append_20 : decode cX2_append 20 = .ok (.if_icmp .le 6, 3) := by decide +kernel
theorem dX2_append_23 : decode cX2_append 23 = .ok (.bipush (-4), 2) := by decide +kernel
theorem dX2_append_25 : decode cX2_append 25 = .ok (.ireturn, 1) := by decide +kernel
theorem dX2_append_26 : decode cX2_append 26 = .ok (.iload_n 3, 1) := by decide +kernel
theorem dX2_append_27 : decode cX2_append 27 = .ok (.iconst 1, 1) := by decide +kernel
theorem dX2_append_28 : decode cX2_append 28 = .ok (.isub, 1) := by decide +kernel
theorem dX2_append_29 : decode cX2_append 29 = .ok (.istore 4, 2) := by decide +kernel
theorem dX2_append_31 : decode cX2_append 31 = .ok (.iload 4, 2) := by decide +kernel
theorem dX2_append_33 : decode cX2_append 33 = .ok (.ifCond .lt 41, 3) := by decide +kernel
theorem dX2_append_36 : decode cX2_append 36 = .ok (.aload_n 0, 1) := by decide +kernel
theorem dX2_append_37 : decode cX2_append 37 = .ok (.getfield 15, 3) := by decide +kernel
theorem dX2_append_40 : decode cX2_append 40 = .ok (.aload_n 0, 1) := by decide +kernel
theorem dX2_append_41 : decode cX2_append 41 = .ok (.getfield 11, 3) := by decide +kernel
theorem dX2_append_44 : decode cX2_append 44 = .ok (.lload_n 1, 1) := by decide +kernel
theorem dX2_append_45 : decode cX2_append 45 = .ok (.bipush 8, 2) := by decide +kernel
theorem dX2_append_47 : decode cX2_append 47 = .ok (.iload 4, 2) := by decide +kernel
theorem dX2_append_49 : decode cX2_append 49 = .ok (.imul, 1) := by decide +kernel
theorem dX2_append_50 : decode cX2_append 50 = .ok (.lushr, 1) := by decide +kernel
theorem dX2_append_51 : decode cX2_append 51 = .ok (.ldc2_w 43, 3) := by decide +kernel
theorem dX2_append_54 : decode cX2_append 54 = .ok (.land, 1) := by decide +kernel
theorem dX2_append_55 : decode cX2_append 55 = .ok (.l2i, 1) := by decide +kernel
theorem dX2_append_56 : decode cX2_append 56 = .ok (.i2c, 1) := by decide +kernel
theorem dX2_append_57 : decode cX2_append 57 = .ok (.castore, 1) := by decide +kernel
theorem dX2_append_58 : decode cX2_append 58 = .ok (.aload_n 0, 1) := by decide +kernel
theorem dX2_append_59 : decode cX2_append 59 = .ok (.dup, 1) := by decide +kernel
theorem dX2_append_60 : decode cX2_append 60 = .ok (.getfield 11, 3) := by decide +kernel
theorem dX2_append_63 : decode cX2_append 63 = .ok (.iconst 1, 1) := by decide +kernel
theorem dX2_append_64 : decode cX2_append 64 = .ok (.iadd, 1) := by decide +kernel
theorem dX2_append_65 : decode cX2_append 65 = .ok (.putfield 11, 3) := by decide +kernel
theorem dX2_append_68 : decode cX2_append 68 = .ok (.iinc 4 (-1), 3) := by decide +kernel
theorem dX2_append_71 : decode cX2_append 71 = .ok (.goto (-40), 3) := by decide +kernel
theorem dX2_append_74 : decode cX2_append 74 = .ok (.aload_n 0, 1) := by decide +kernel
theorem dX2_append_75 : decode cX2_append 75 = .ok (.getfield 11, 3) := by decide +kernel
theorem dX2_append_78 : decode cX2_append 78 = .ok (.ireturn, 1) := by decide +kernel
theorem dX2_signsIn_0 : decode cX2_signsIn 0 = .ok (.lload_n 0, 1) := by decide +kernel
theorem dX2_signsIn_1 : decode cX2_signsIn 1 = .ok (.lstore_n 2, 1) := by decide +kernel
theorem dX2_signsIn_2 : decode cX2_signsIn 2 = .ok (.iconst 0, 1) := by decide +kernel
theorem dX2_signsIn_3 : decode cX2_signsIn 3 = .ok (.istore 4, 2) := by decide +kernel
theorem dX2_signsIn_5 : decode cX2_signsIn 5 = .ok (.iconst 0, 1) := by decide +kernel
theorem dX2_signsIn_6 : decode cX2_signsIn 6 = .ok (.istore 5, 2) := by decide +kernel
theorem dX2_signsIn_8 : decode cX2_signsIn 8 = .ok (.iload 5, 2) := by decide +kernel
theorem dX2_signsIn_10 : decode cX2_signsIn 10 = .ok (.bipush 8, 2) := by decide +kernel
theorem dX2_signsIn_12 : decode cX2_signsIn 12 = .ok (.if_icmp .ge 50, 3) := by decide +kernel
theorem dX2_signsIn_15 : decode cX2_signsIn 15 = .ok (.lload_n 2, 1) := by decide +kernel
theorem dX2_signsIn_16 : decode cX2_signsIn 16 = .ok (.lconst 0, 1) := by decide +kernel
theorem dX2_signsIn_17 : decode cX2_signsIn 17 = .ok (.lcmp, 1) := by decide +kernel
theorem dX2_signsIn_18 : decode cX2_signsIn 18 = .ok (.ifCond .eq 44, 3) := by decide +kernel
theorem dX2_signsIn_21 : decode cX2_signsIn 21 = .ok (.lload_n 2, 1) := by decide +kernel
theorem dX2_signsIn_22 : decode cX2_signsIn 22 = .ok (.ldc2_w 43, 3) := by decide +kernel
theorem dX2_signsIn_25 : decode cX2_signsIn 25 = .ok (.land, 1) := by decide +kernel
theorem dX2_signsIn_26 : decode cX2_signsIn 26 = .ok (.lstore 6, 2) := by decide +kernel
theorem dX2_signsIn_28 : decode cX2_signsIn 28 = .ok (.lload 6, 2) := by decide +kernel
theorem dX2_signsIn_30 : decode cX2_signsIn 30 = .ok (.ldc2_w 45, 3) := by decide +kernel
theorem dX2_signsIn_33 : decode cX2_signsIn 33 = .ok (.lcmp, 1) := by decide +kernel
theorem dX2_signsIn_34 : decode cX2_signsIn 34 = .ok (.ifCond .lt 12, 3) := by decide +kernel
theorem dX2_signsIn_37 : decode cX2_signsIn 37 = .ok (.lload 6, 2) := by decide +kernel
theorem dX2_signsIn_39 : decode cX2_signsIn 39 = .ok (.ldc2_w 47, 3) := by decide +kernel
theorem dX2_signsIn_42 : decode cX2_signsIn 42 = .ok (.lcmp, 1) := by decide +kernel
theorem dX2_signsIn_43 : decode cX2_signsIn 43 = .ok (.ifCond .le 5, 3) := by decide +kernel
theorem dX2_signsIn_46 : decode cX2_signsIn 46 = .ok (.iconst 0, 1) := by decide +kernel
theorem dX2_signsIn_47 : decode cX2_signsIn 47 = .ok (.ireturn, 1) := by decide +kernel
theorem dX2_signsIn_48 : decode cX2_signsIn 48 = .ok (.lload_n 2, 1) := by decide +kernel
theorem dX2_signsIn_49 : decode cX2_signsIn 49 = .ok (.bipush 8, 2) := by decide +kernel
theorem dX2_signsIn_51 : decode cX2_signsIn 51 = .ok (.lushr, 1) := by decide +kernel
theorem dX2_signsIn_52 : decode cX2_signsIn 52 = .ok (.lstore_n 2, 1) := by decide +kernel
theorem dX2_signsIn_53 : decode cX2_signsIn 53 = .ok (.iinc 4 1, 3) := by decide +kernel
theorem dX2_signsIn_56 : decode cX2_signsIn 56 = .ok (.iinc 5 1, 3) := by decide +kernel
theorem dX2_signsIn_59 : decode cX2_signsIn 59 = .ok (.goto (-51), 3) := by decide +kernel
theorem dX2_signsIn_62 : decode cX2_signsIn 62 = .ok (.iload 4, 2) := by decide +kernel
theorem dX2_signsIn_64 : decode cX2_signsIn 64 = .ok (.ireturn, 1) := by decide +kernel
theorem dX2_read_0 : decode cX2_read 0 = .ok (.aload_n 0, 1) := by decide +kernel
theorem dX2_read_1 : decode cX2_read 1 = .ok (.iconst 0, 1) := by decide +kernel
theorem dX2_read_2 : decode cX2_read 2 = .ok (.putfield 19, 3) := by decide +kernel
theorem dX2_read_5 : decode cX2_read 5 = .ok (.aload_n 0, 1) := by decide +kernel
theorem dX2_read_6 : decode cX2_read 6 = .ok (.invokevirtual 49, 3) := by decide +kernel
theorem dX2_read_9 : decode cX2_read 9 = .ok (.iconst 0, 1) := by decide +kernel
theorem dX2_read_10 : decode cX2_read 10 = .ok (.istore_n 1, 1) := by decide +kernel
theorem dX2_read_11 : decode cX2_read 11 = .ok (.iload_n 1, 1) := by decide +kernel
theorem dX2_read_12 : decode cX2_read 12 = .ok (.aload_n 0, 1) := by decide +kernel
theorem dX2_read_13 : decode cX2_read 13 = .ok (.getfield 11, 3) := by decide +kernel
theorem dX2_read_16 : decode cX2_read 16 = .ok (.if_icmp .ge 24, 3) := by decide +kernel
theorem dX2_read_19 : decode cX2_read 19 = .ok (.aload_n 0, 1) := by decide +kernel
theorem dX2_read_20 : decode cX2_read 20 = .ok (.aload_n 0, 1) := by decide +kernel
theorem dX2_read_21 : decode cX2_read 21 = .ok (.getfield 15, 3) := by decide +kernel
theorem dX2_read_24 : decode cX2_read 24 = .ok (.iload_n 1, 1) := by decide +kernel
theorem dX2_read_25 : decode cX2_read 25 = .ok (.caload, 1) := by decide +kernel
theorem dX2_read_26 : decode cX2_read 26 = .ok (.invokevirtual 52, 3) := by decide +kernel
theorem dX2_read_29 : decode cX2_read 29 = .ok (.ifCond .ne 5, 3) := by decide +kernel
theorem dX2_read_32 : decode cX2_read 32 = .ok (.iload_n 1, 1) := by decide +kernel
theorem dX2_read_33 : decode cX2_read 33 = .ok (.ireturn, 1) := by decide +kernel
theorem dX2_read_34 : decode cX2_read 34 = .ok (.iinc 1 1, 3) := by decide +kernel
theorem dX2_read_37 : decode cX2_read 37 = .ok (.goto (-26), 3) := by decide +kernel
theorem dX2_read_40 : decode cX2_read 40 = .ok (.aload_n 0, 1) := by decide +kernel
theorem dX2_read_41 : decode cX2_read 41 = .ok (.getfield 36, 3) := by decide +kernel
theorem dX2_read_44 : decode cX2_read 44 = .ok (.ifCond .ne 8, 3) := by decide +kernel
theorem dX2_read_47 : decode cX2_read 47 = .ok (.aload_n 0, 1) := by decide +kernel
theorem dX2_read_48 : decode cX2_read 48 = .ok (.getfield 11, 3) := by decide +kernel
theorem dX2_read_51 : decode cX2_read 51 = .ok (.ireturn, 1) := by decide +kernel
theorem dX2_read_52 : decode cX2_read 52 = .ok (.aload_n 0, 1) := by decide +kernel
theorem dX2_read_53 : decode cX2_read 53 = .ok (.invokevirtual 56, 3) := by decide +kernel
theorem dX2_read_56 : decode cX2_read 56 = .ok (.bipush (-6), 2) := by decide +kernel
theorem dX2_read_58 : decode cX2_read 58 = .ok (.ireturn, 1) := by decide +kernel
theorem dX2_beginSet_0 : decode cX2_beginSet 0 = .ok (.aload_n 0, 1) := by decide +kernel
theorem dX2_beginSet_1 : decode cX2_beginSet 1 = .ok (.iconst 0, 1) := by decide +kernel
theorem dX2_beginSet_2 : decode cX2_beginSet 2 = .ok (.putfield 29, 3) := by decide +kernel
theorem dX2_beginSet_5 : decode cX2_beginSet 5 = .ok (.aload_n 0, 1) := by decide +kernel
theorem dX2_beginSet_6 : decode cX2_beginSet 6 = .ok (.iconst 0, 1) := by decide +kernel
theorem dX2_beginSet_7 : decode cX2_beginSet 7 = .ok (.putfield 33, 3) := by decide +kernel
theorem dX2_beginSet_10 : decode cX2_beginSet 10 = .ok (.aload_n 0, 1) := by decide +kernel
theorem dX2_beginSet_11 : decode cX2_beginSet 11 = .ok (.iconst 0, 1) := by decide +kernel
theorem dX2_beginSet_12 : decode cX2_beginSet 12 = .ok (.putfield 36, 3) := by decide +kernel
theorem dX2_beginSet_15 : decode cX2_beginSet 15 = .ok (.return_, 1) := by decide +kernel
theorem dX2_endSet_0 : decode cX2_endSet 0 = .ok (.aload_n 0, 1) := by decide +kernel
theorem dX2_endSet_1 : decode cX2_endSet 1 = .ok (.getfield 19, 3) := by decide +kernel
theorem dX2_endSet_4 : decode cX2_endSet 4 = .ok (.bipush 21, 2) := by decide +kernel
theorem dX2_endSet_6 : decode cX2_endSet 6 = .ok (.if_icmp .ge 39, 3) := by decide +kernel
theorem dX2_endSet_9 : decode cX2_endSet 9 = .ok (.aload_n 0, 1) := by decide +kernel
theorem dX2_endSet_10 : decode cX2_endSet 10 = .ok (.getfield 22, 3) := by decide +kernel
theorem dX2_endSet_13 : decode cX2_endSet 13 = .ok (.aload_n 0, 1) := by decide +kernel
theorem dX2_endSet_14 : decode cX2_endSet 14 = .ok (.getfield 19, 3) := by decide +kernel
theorem dX2_endSet_17 : decode cX2_endSet 17 = .ok (.aload_n 0, 1) := by decide +kernel
theorem dX2_endSet_18 : decode cX2_endSet 18 = .ok (.getfield 33, 3) := by decide +kernel
theorem dX2_endSet_21 : decode cX2_endSet 21 = .ok (.iastore, 1) := by decide +kernel
theorem dX2_endSet_22 : decode cX2_endSet 22 = .ok (.aload_n 0, 1) := by decide +kernel
theorem dX2_endSet_23 : decode cX2_endSet 23 = .ok (.getfield 26, 3) := by decide +kernel
theorem dX2_endSet_26 : decode cX2_endSet 26 = .ok (.aload_n 0, 1) := by decide +kernel
theorem dX2_endSet_27 : decode cX2_endSet 27 = .ok (.getfield 19, 3) := by decide +kernel
theorem dX2_endSet_30 : decode cX2_endSet 30 = .ok (.aload_n 0, 1) := by decide +kernel
theorem dX2_endSet_31 : decode cX2_endSet 31 = .ok (.getfield 36, 3) := by decide +kernel
theorem dX2_endSet_34 : decode cX2_endSet 34 = .ok (.iastore, 1) := by decide +kernel
theorem dX2_endSet_35 : decode cX2_endSet 35 = .ok (.aload_n 0, 1) := by decide +kernel
theorem dX2_endSet_36 : decode cX2_endSet 36 = .ok (.dup, 1) := by decide +kernel
theorem dX2_endSet_37 : decode cX2_endSet 37 = .ok (.getfield 19, 3) := by decide +kernel
theorem dX2_endSet_40 : decode cX2_endSet 40 = .ok (.iconst 1, 1) := by decide +kernel
theorem dX2_endSet_41 : decode cX2_endSet 41 = .ok (.iadd, 1) := by decide +kernel
theorem dX2_endSet_42 : decode cX2_endSet 42 = .ok (.putfield 19, 3) := by decide +kernel
theorem dX2_endSet_45 : decode cX2_endSet 45 = .ok (.return_, 1) := by decide +kernel
theorem dX2_takeSign_0 : decode cX2_takeSign 0 = .ok (.aload_n 0, 1) := by decide +kernel
theorem dX2_takeSign_1 : decode cX2_takeSign 1 = .ok (.getfield 29, 3) := by decide +kernel
theorem dX2_takeSign_4 : decode cX2_takeSign 4 = .ok (.ifCond .eq 22, 3) := by decide +kernel
theorem dX2_takeSign_7 : decode cX2_takeSign 7 = .ok (.iload_n 1, 1) := by decide +kernel
theorem dX2_takeSign_8 : decode cX2_takeSign 8 = .ok (.bipush 59, 2) := by decide +kernel
theorem dX2_takeSign_10 : decode cX2_takeSign 10 = .ok (.if_icmp .ne 10, 3) := by decide +kernel
theorem dX2_takeSign_13 : decode cX2_takeSign 13 = .ok (.aload_n 0, 1) := by decide +kernel
theorem dX2_takeSign_14 : decode cX2_takeSign 14 = .ok (.invokevirtual 59, 3) := by decide +kernel
theorem dX2_takeSign_17 : decode cX2_takeSign 17 = .ok (.goto 8, 3) := by decide +kernel
theorem dX2_takeSign_20 : decode cX2_takeSign 20 = .ok (.aload_n 0, 1) := by decide +kernel
theorem dX2_takeSign_21 : decode cX2_takeSign 21 = .ok (.iload_n 1, 1) := by decide +kernel
theorem dX2_takeSign_22 : decode cX2_takeSign 22 = .ok (.invokevirtual 63, 3) := by decide +kernel
theorem dX2_takeSign_25 : decode cX2_takeSign 25 = .ok (.ireturn, 1) := by decide +kernel
theorem dX2_takeSign_26 : decode cX2_takeSign 26 = .ok (.iload_n 1, 1) := by decide +kernel
theorem dX2_takeSign_27 : decode cX2_takeSign 27 = .ok (.bipush 61, 2) := by decide +kernel
theorem dX2_takeSign_29 : decode cX2_takeSign 29 = .ok (.if_icmp .ne 10, 3) := by decide +kernel
theorem dX2_takeSign_32 : decode cX2_takeSign 32 = .ok (.aload_n 0, 1) := by decide +kernel
theorem dX2_takeSign_33 : decode cX2_takeSign 33 = .ok (.invokevirtual 66, 3) := by decide +kernel
theorem dX2_takeSign_36 : decode cX2_takeSign 36 = .ok (.goto 8, 3) := by decide +kernel
theorem dX2_takeSign_39 : decode cX2_takeSign 39 = .ok (.aload_n 0, 1) := by decide +kernel
theorem dX2_takeSign_40 : decode cX2_takeSign 40 = .ok (.iload_n 1, 1) := by decide +kernel
theorem dX2_takeSign_41 : decode cX2_takeSign 41 = .ok (.invokevirtual 69, 3) := by decide +kernel
theorem dX2_takeSign_44 : decode cX2_takeSign 44 = .ok (.ireturn, 1) := by decide +kernel
theorem dX2_takeLetter_0 : decode cX2_takeLetter 0 = .ok (.iload_n 1, 1) := by decide +kernel
theorem dX2_takeLetter_1 : decode cX2_takeLetter 1 = .ok (.bipush 97, 2) := by decide +kernel
theorem dX2_takeLetter_3 : decode cX2_takeLetter 3 = .ok (.isub, 1) := by decide +kernel
theorem dX2_takeLetter_4 : decode cX2_takeLetter 4 = .ok (.istore_n 2, 1) := by decide +kernel
theorem dX2_takeLetter_5 : decode cX2_takeLetter 5 = .ok (.iload_n 2, 1) := by decide +kernel
theorem dX2_takeLetter_6 : decode cX2_takeLetter 6 = .ok (.ifCond .lt 19, 3) := by decide +kernel
theorem dX2_takeLetter_9 : decode cX2_takeLetter 9 = .ok (.iload_n 2, 1) := by decide +kernel
theorem dX2_takeLetter_10 : decode cX2_takeLetter 10 = .ok (.bipush 18, 2) := by decide +kernel
theorem dX2_takeLetter_12 : decode cX2_takeLetter 12 = .ok (.if_icmp .ge 13, 3) := by decide +kernel
theorem dX2_takeLetter_15 : decode cX2_takeLetter 15 = .ok (.aload_n 0, 1) := by decide +kernel
theorem dX2_takeLetter_16 : decode cX2_takeLetter 16 = .ok (.getfield 33, 3) := by decide +kernel
theorem dX2_takeLetter_19 : decode cX2_takeLetter 19 = .ok (.iconst 1, 1) := by decide +kernel
theorem dX2_takeLetter_20 : decode cX2_takeLetter 20 = .ok (.iload_n 2, 1) := by decide +kernel
theorem dX2_takeLetter_21 : decode cX2_takeLetter 21 = .ok (.ishl, 1) := by decide +kernel
theorem dX2_takeLetter_22 : decode cX2_takeLetter 22 = .ok (.if_icmp .lt 5, 3) := by decide +kernel
theorem dX2_takeLetter_25 : decode cX2_takeLetter 25 = .ok (.iconst 0, 1) := by decide +kernel
theorem dX2_takeLetter_26 : decode cX2_takeLetter 26 = .ok (.ireturn, 1) := by decide +kernel
theorem dX2_takeLetter_27 : decode cX2_takeLetter 27 = .ok (.aload_n 0, 1) := by decide +kernel
theorem dX2_takeLetter_28 : decode cX2_takeLetter 28 = .ok (.dup, 1) := by decide +kernel
theorem dX2_takeLetter_29 : decode cX2_takeLetter 29 = .ok (.getfield 33, 3) := by decide +kernel
theorem dX2_takeLetter_32 : decode cX2_takeLetter 32 = .ok (.iconst 1, 1) := by decide +kernel
theorem dX2_takeLetter_33 : decode cX2_takeLetter 33 = .ok (.iload_n 2, 1) := by decide +kernel
theorem dX2_takeLetter_34 : decode cX2_takeLetter 34 = .ok (.ishl, 1) := by decide +kernel
theorem dX2_takeLetter_35 : decode cX2_takeLetter 35 = .ok (.ior, 1) := by decide +kernel
theorem dX2_takeLetter_36 : decode cX2_takeLetter 36 = .ok (.putfield 33, 3) := by decide +kernel
theorem dX2_takeLetter_39 : decode cX2_takeLetter 39 = .ok (.iconst 1, 1) := by decide +kernel
theorem dX2_takeLetter_40 : decode cX2_takeLetter 40 = .ok (.ireturn, 1) := by decide +kernel
theorem dX2_takeEqualsSign_0 : decode cX2_takeEqualsSign 0 = .ok (.aload_n 0, 1) := by decide +kernel
theorem dX2_takeEqualsSign_1 : decode cX2_takeEqualsSign 1 = .ok (.aload_n 0, 1) := by decide +kernel
theorem dX2_takeEqualsSign_2 : decode cX2_takeEqualsSign 2 = .ok (.getfield 33, 3) := by decide +kernel
theorem dX2_takeEqualsSign_5 : decode cX2_takeEqualsSign 5 = .ok (.ifCond .eq 7, 3) := by decide +kernel
theorem dX2_takeEqualsSign_8 : decode cX2_takeEqualsSign 8 = .ok (.iconst 1, 1) := by decide +kernel
theorem dX2_takeEqualsSign_9 : decode cX2_takeEqualsSign 9 = .ok (.goto 4, 3) := by decide +kernel
theorem dX2_takeEqualsSign_12 : decode cX2_takeEqualsSign 12 = .ok (.iconst 0, 1) := by decide +kernel
theorem dX2_takeEqualsSign_13 : decode cX2_takeEqualsSign 13 = .ok (.putfield 29, 3) := by decide +kernel
theorem dX2_takeEqualsSign_16 : decode cX2_takeEqualsSign 16 = .ok (.aload_n 0, 1) := by decide +kernel
theorem dX2_takeEqualsSign_17 : decode cX2_takeEqualsSign 17 = .ok (.getfield 29, 3) := by decide +kernel
theorem dX2_takeEqualsSign_20 : decode cX2_takeEqualsSign 20 = .ok (.ireturn, 1) := by decide +kernel
theorem dX2_takeDigit_0 : decode cX2_takeDigit 0 = .ok (.iload_n 1, 1) := by decide +kernel
theorem dX2_takeDigit_1 : decode cX2_takeDigit 1 = .ok (.bipush 48, 2) := by decide +kernel
theorem dX2_takeDigit_3 : decode cX2_takeDigit 3 = .ok (.if_icmp .lt 9, 3) := by decide +kernel
theorem dX2_takeDigit_6 : decode cX2_takeDigit 6 = .ok (.iload_n 1, 1) := by decide +kernel
theorem dX2_takeDigit_7 : decode cX2_takeDigit 7 = .ok (.bipush 57, 2) := by decide +kernel
theorem dX2_takeDigit_9 : decode cX2_takeDigit 9 = .ok (.if_icmp .le 5, 3) := by decide +kernel
theorem dX2_takeDigit_12 : decode cX2_takeDigit 12 = .ok (.iconst 0, 1) := by decide +kernel
theorem dX2_takeDigit_13 : decode cX2_takeDigit 13 = .ok (.ireturn, 1) := by decide +kernel
theorem dX2_takeDigit_14 : decode cX2_takeDigit 14 = .ok (.aload_n 0, 1) := by decide +kernel
theorem dX2_takeDigit_15 : decode cX2_takeDigit 15 = .ok (.aload_n 0, 1) := by decide +kernel
theorem dX2_takeDigit_16 : decode cX2_takeDigit 16 = .ok (.getfield 36, 3) := by decide +kernel
theorem dX2_takeDigit_19 : decode cX2_takeDigit 19 = .ok (.bipush 10, 2) := by decide +kernel
theorem dX2_takeDigit_21 : decode cX2_takeDigit 21 = .ok (.imul, 1) := by decide +kernel
theorem dX2_takeDigit_22 : decode cX2_takeDigit 22 = .ok (.iload_n 1, 1) := by decide +kernel
theorem dX2_takeDigit_23 : decode cX2_takeDigit 23 = .ok (.bipush 48, 2) := by decide +kernel
theorem dX2_takeDigit_25 : decode cX2_takeDigit 25 = .ok (.isub, 1) := by decide +kernel
theorem dX2_takeDigit_26 : decode cX2_takeDigit 26 = .ok (.iadd, 1) := by decide +kernel
theorem dX2_takeDigit_27 : decode cX2_takeDigit 27 = .ok (.putfield 36, 3) := by decide +kernel
theorem dX2_takeDigit_30 : decode cX2_takeDigit 30 = .ok (.aload_n 0, 1) := by decide +kernel
theorem dX2_takeDigit_31 : decode cX2_takeDigit 31 = .ok (.getfield 36, 3) := by decide +kernel
theorem dX2_takeDigit_34 : decode cX2_takeDigit 34 = .ok (.invokestatic 72, 3) := by decide +kernel
theorem dX2_takeDigit_37 : decode cX2_takeDigit 37 = .ok (.ireturn, 1) := by decide +kernel
theorem dX2_takeSemicolon_0 : decode cX2_takeSemicolon 0 = .ok (.aload_n 0, 1) := by decide +kernel
theorem dX2_takeSemicolon_1 : decode cX2_takeSemicolon 1 = .ok (.getfield 36, 3) := by decide +kernel
theorem dX2_takeSemicolon_4 : decode cX2_takeSemicolon 4 = .ok (.ifCond .ne 5, 3) := by decide +kernel
theorem dX2_takeSemicolon_7 : decode cX2_takeSemicolon 7 = .ok (.iconst 0, 1) := by decide +kernel
theorem dX2_takeSemicolon_8 : decode cX2_takeSemicolon 8 = .ok (.ireturn, 1) := by decide +kernel
theorem dX2_takeSemicolon_9 : decode cX2_takeSemicolon 9 = .ok (.aload_n 0, 1) := by decide +kernel
theorem dX2_takeSemicolon_10 : decode cX2_takeSemicolon 10 = .ok (.invokevirtual 56, 3) := by decide +kernel
theorem dX2_takeSemicolon_13 : decode cX2_takeSemicolon 13 = .ok (.aload_n 0, 1) := by decide +kernel
theorem dX2_takeSemicolon_14 : decode cX2_takeSemicolon 14 = .ok (.invokevirtual 49, 3) := by decide +kernel
theorem dX2_takeSemicolon_17 : decode cX2_takeSemicolon 17 = .ok (.iconst 1, 1) := by decide +kernel
theorem dX2_takeSemicolon_18 : decode cX2_takeSemicolon 18 = .ok (.ireturn, 1) := by decide +kernel
theorem dX2_appendSetsTo_0 : decode cX2_appendSetsTo 0 = .ok (.iconst 0, 1) := by decide +kernel
theorem dX2_appendSetsTo_1 : decode cX2_appendSetsTo 1 = .ok (.istore_n 2, 1) := by decide +kernel
theorem dX2_appendSetsTo_2 : decode cX2_appendSetsTo 2 = .ok (.iload_n 2, 1) := by decide +kernel
theorem dX2_appendSetsTo_3 : decode cX2_appendSetsTo 3 = .ok (.aload_n 0, 1) := by decide +kernel
theorem dX2_appendSetsTo_4 : decode cX2_appendSetsTo 4 = .ok (.getfield 19, 3) := by decide +kernel
theorem dX2_appendSetsTo_7 : decode cX2_appendSetsTo 7 = .ok (.if_icmp .ge 31, 3) := by decide +kernel
theorem dX2_appendSetsTo_10 : decode cX2_appendSetsTo 10 = .ok (.iload_n 2, 1) := by decide +kernel
theorem dX2_appendSetsTo_11 : decode cX2_appendSetsTo 11 = .ok (.bipush 21, 2) := by decide +kernel
theorem dX2_appendSetsTo_13 : decode cX2_appendSetsTo 13 = .ok (.if_icmp .ge 25, 3) := by decide +kernel
theorem dX2_appendSetsTo_16 : decode cX2_appendSetsTo 16 = .ok (.aload_n 1, 1) := by decide +kernel
theorem dX2_appendSetsTo_17 : decode cX2_appendSetsTo 17 = .ok (.aload_n 0, 1) := by decide +kernel
theorem dX2_appendSetsTo_18 : decode cX2_appendSetsTo 18 = .ok (.getfield 22, 3) := by decide +kernel
theorem dX2_appendSetsTo_21 : decode cX2_appendSetsTo 21 = .ok (.iload_n 2, 1) := by decide +kernel
theorem dX2_appendSetsTo_22 : decode cX2_appendSetsTo 22 = .ok (.iaload, 1) := by decide +kernel
theorem dX2_appendSetsTo_23 : decode cX2_appendSetsTo 23 = .ok (.aload_n 0, 1) := by decide +kernel
theorem dX2_appendSetsTo_24 : decode cX2_appendSetsTo 24 = .ok (.getfield 26, 3) := by decide +kernel
theorem dX2_appendSetsTo_27 : decode cX2_appendSetsTo 27 = .ok (.iload_n 2, 1) := by decide +kernel
theorem dX2_appendSetsTo_28 : decode cX2_appendSetsTo 28 = .ok (.iaload, 1) := by decide +kernel
theorem dX2_appendSetsTo_29 : decode cX2_appendSetsTo 29 = .ok (.invokevirtual 76, 3) := by decide +kernel
theorem dX2_appendSetsTo_32 : decode cX2_appendSetsTo 32 = .ok (.iinc 2 1, 3) := by decide +kernel
theorem dX2_appendSetsTo_35 : decode cX2_appendSetsTo 35 = .ok (.goto (-33), 3) := by decide +kernel
theorem dX2_appendSetsTo_38 : decode cX2_appendSetsTo 38 = .ok (.return_, 1) := by decide +kernel
theorem dX3_init_0 : decode cX3_init 0 = .ok (.aload_n 0, 1) := by decide +kernel
theorem dX3_init_1 : decode cX3_init 1 = .ok (.invokespecial 3, 3) := by decide +kernel
theorem dX3_init_4 : decode cX3_init 4 = .ok (.aload_n 0, 1) := by decide +kernel
theorem dX3_init_5 : decode cX3_init 5 = .ok (.new 9, 3) := by decide +kernel
theorem dX3_init_8 : decode cX3_init 8 = .ok (.dup, 1) := by decide +kernel
theorem dX3_init_9 : decode cX3_init 9 = .ok (.invokespecial 11, 3) := by decide +kernel
theorem dX3_init_12 : decode cX3_init 12 = .ok (.putfield 12, 3) := by decide +kernel
theorem dX3_init_15 : decode cX3_init 15 = .ok (.aload_n 0, 1) := by decide +kernel
theorem dX3_init_16 : decode cX3_init 16 = .ok (.iconst 0, 1) := by decide +kernel
theorem dX3_init_17 : decode cX3_init 17 = .ok (.putfield 18, 3) := by decide +kernel
theorem dX3_init_20 : decode cX3_init 20 = .ok (.aload_n 0, 1) := by decide +kernel
theorem dX3_init_21 : decode cX3_init 21 = .ok (.iconst 0, 1) := by decide +kernel
theorem dX3_init_22 : decode cX3_init 22 = .ok (.putfield 22, 3) := by decide +kernel
theorem dX3_init_25 : decode cX3_init 25 = .ok (.aload_n 0, 1) := by decide +kernel
theorem dX3_init_26 : decode cX3_init 26 = .ok (.iconst 0, 1) := by decide +kernel
theorem dX3_init_27 : decode cX3_init 27 = .ok (.putfield 25, 3) := by decide +kernel
theorem dX3_init_30 : decode cX3_init 30 = .ok (.aload_n 0, 1) := by decide +kernel
theorem dX3_init_31 : decode cX3_init 31 = .ok (.iconst 0, 1) := by decide +kernel
theorem dX3_init_32 : decode cX3_init 32 = .ok (.putfield 28, 3) := by decide +kernel
theorem dX3_init_35 : decode cX3_init 35 = .ok (.aload_n 0, 1) := by decide +kernel
theorem dX3_init_36 : decode cX3_init 36 = .ok (.bipush 18, 2) := by decide +kernel
theorem dX3_init_38 : decode cX3_init 38 = .ok (.newarray .int, 2) := by decide +kernel
theorem dX3_init_40 : decode cX3_init 40 = .ok (.putfield 31, 3) := by decide +kernel
theorem dX3_init_43 : decode cX3_init 43 = .ok (.return_, 1) := by decide +kernel
theorem dX3_findLeast_0 : decode cX3_findLeast 0 = .ok (.aload_n 0, 1) := by decide +kernel
theorem dX3_findLeast_1 : decode cX3_findLeast 1 = .ok (.getfield 12, 3) := by decide +kernel
theorem dX3_findLeast_4 : decode cX3_findLeast 4 = .ok (.aload_n 1, 1) := by decide +kernel
theorem dX3_findLeast_5 : decode cX3_findLeast 5 = .ok (.invokevirtual 35, 3) := by decide +kernel
theorem dX3_findLeast_8 : decode cX3_findLeast 8 = .ok (.istore_n 2, 1) := by decide +kernel
theorem dX3_findLeast_9 : decode cX3_findLeast 9 = .ok (.aload_n 0, 1) := by decide +kernel
theorem dX3_findLeast_10 : decode cX3_findLeast 10 = .ok (.iconst 0, 1) := by decide +kernel
theorem dX3_findLeast_11 : decode cX3_findLeast 11 = .ok (.putfield 18, 3) := by decide +kernel
theorem dX3_findLeast_14 : decode cX3_findLeast 14 = .ok (.aload_n 0, 1) := by decide +kernel
theorem dX3_findLeast_15 : decode cX3_findLeast 15 = .ok (.ldc 39, 2) := by decide +kernel
theorem dX3_findLeast_17 : decode cX3_findLeast 17 = .ok (.putfield 22, 3) := by decide +kernel
theorem dX3_findLeast_20 : decode cX3_findLeast 20 = .ok (.iconst 0, 1) := by decide +kernel
theorem dX3_findLeast_21 : decode cX3_findLeast 21 = .ok (.istore_n 3, 1) := by decide +kernel
theorem dX3_findLeast_22 : decode cX3_findLeast 22 = .ok (.iload_n 3, 1) := by decide +kernel
theorem dX3_findLeast_23 : decode cX3_findLeast 23 = .ok (.iload_n 2, 1) := by decide +kernel
theorem dX3_findLeast_24 : decode cX3_findLeast 24 = .ok (.if_icmp .ge 63, 3) := by decide +kernel
theorem dX3_findLeast_27 : decode cX3_findLeast 27 = .ok (.aload_n 0, 1) := by decide +kernel
theorem dX3_findLeast_28 : decode cX3_findLeast 28 = .ok (.getfield 12, 3) := by decide +kernel
theorem dX3_findLeast_31 : decode cX3_findLeast 31 = .ok (.iload_n 3, 1) := by decide +kernel
theorem dX3_findLeast_32 : decode cX3_findLeast 32 = .ok (.invokevirtual 40, 3) := by decide +kernel
theorem dX3_findLeast_35 : decode cX3_findLeast 35 = .ok (.aload_n 0, 1) := by decide +kernel
theorem dX3_findLeast_36 : decode cX3_findLeast 36 = .ok (.getfield 12, 3) := by decide +kernel
theorem dX3_findLeast_39 : decode cX3_findLeast 39 = .ok (.invokevirtual 44, 3) := by decide +kernel
theorem dX3_findLeast_42 : decode cX3_findLeast 42 = .ok (.ifCond .eq 39, 3) := by decide +kernel
theorem dX3_findLeast_45 : decode cX3_findLeast 45 = .ok (.aload_n 0, 1) := by decide +kernel
theorem dX3_findLeast_46 : decode cX3_findLeast 46 = .ok (.getfield 12, 3) := by decide +kernel
theorem dX3_findLeast_49 : decode cX3_findLeast 49 = .ok (.invokevirtual 48, 3) := by decide +kernel
theorem dX3_findLeast_52 : decode cX3_findLeast 52 = .ok (.aload_n 0, 1) := by decide +kernel
theorem dX3_findLeast_53 : decode cX3_findLeast 53 = .ok (.getfield 22, 3) := by decide +kernel
theorem dX3_findLeast_56 : decode cX3_findLeast 56 = .ok (.if_icmp .ge 25, 3) := by decide +kernel
theorem dX3_findLeast_59 : decode cX3_findLeast 59 = .ok (.aload_n 0, 1) := by decide +kernel
theorem dX3_findLeast_60 : decode cX3_findLeast 60 = .ok (.aload_n 0, 1) := by decide +kernel
theorem dX3_findLeast_61 : decode cX3_findLeast 61 = .ok (.getfield 12, 3) := by decide +kernel
theorem dX3_findLeast_64 : decode cX3_findLeast 64 = .ok (.invokevirtual 52, 3) := by decide +kernel
theorem dX3_findLeast_67 : decode cX3_findLeast 67 = .ok (.putfield 18, 3) := by decide +kernel
theorem dX3_findLeast_70 : decode cX3_findLeast 70 = .ok (.aload_n 0, 1) := by decide +kernel
theorem dX3_findLeast_71 : decode cX3_findLeast 71 = .ok (.aload_n 0, 1) := by decide +kernel
theorem dX3_findLeast_72 : decode cX3_findLeast 72 = .ok (.getfield 12, 3) := by decide +kernel
theorem dX3_findLeast_75 : decode cX3_findLeast 75 = .ok (.invokevirtual 48, 3) := by decide +kernel
theorem dX3_findLeast_78 : decode cX3_findLeast 78 = .ok (.putfield 22, 3) := by decide +kernel
theorem dX3_findLeast_81 : decode cX3_findLeast 81 = .ok (.iinc 3 1, 3) := by decide +kernel
theorem dX3_findLeast_84 : decode cX3_findLeast 84 = .ok (.goto (-62), 3) := by decide +kernel
theorem dX3_findLeast_87 : decode cX3_findLeast 87 = .ok (.return_, 1) := by decide +kernel
theorem dX3_countUpTo_0 : decode cX3_countUpTo 0 = .ok (.aload_n 0, 1) := by decide +kernel
theorem dX3_countUpTo_1 : decode cX3_countUpTo 1 = .ok (.getfield 12, 3) := by decide +kernel
theorem dX3_countUpTo_4 : decode cX3_countUpTo 4 = .ok (.aload_n 1, 1) := by decide +kernel
theorem dX3_countUpTo_5 : decode cX3_countUpTo 5 = .ok (.invokevirtual 35, 3) := by decide +kernel
theorem dX3_countUpTo_8 : decode cX3_countUpTo 8 = .ok (.istore_n 3, 1) := by decide +kernel
theorem dX3_countUpTo_9 : decode cX3_countUpTo 9 = .ok (.iconst 0, 1) := by decide +kernel
theorem dX3_countUpTo_10 : decode cX3_countUpTo 10 = .ok (.istore 4, 2) := by decide +kernel
theorem dX3_countUpTo_12 : decode cX3_countUpTo 12 = .ok (.iconst 0, 1) := by decide +kernel
theorem dX3_countUpTo_13 : decode cX3_countUpTo 13 = .ok (.istore 5, 2) := by decide +kernel
theorem dX3_countUpTo_15 : decode cX3_countUpTo 15 = .ok (.iload 5, 2) := by decide +kernel
theorem dX3_countUpTo_17 : decode cX3_countUpTo 17 = .ok (.iload_n 3, 1) := by decide +kernel
theorem dX3_countUpTo_18 : decode cX3_countUpTo 18 = .ok (.if_icmp .ge 42, 3) := by decide +kernel
theorem dX3_countUpTo_21 : decode cX3_countUpTo 21 = .ok (.aload_n 0, 1) := by decide +kernel
theorem dX3_countUpTo_22 : decode cX3_countUpTo 22 = .ok (.getfield 12, 3) := by decide +kernel
theorem dX3_countUpTo_25 : decode cX3_countUpTo 25 = .ok (.iload 5, 2) := by decide +kernel
theorem dX3_countUpTo_27 : decode cX3_countUpTo 27 = .ok (.invokevirtual 40, 3) := by decide +kernel
theorem dX3_countUpTo_30 : decode cX3_countUpTo 30 = .ok (.aload_n 0, 1) := by decide +kernel
theorem dX3_countUpTo_31 : decode cX3_countUpTo 31 = .ok (.getfield 12, 3) := by decide +kernel
theorem dX3_countUpTo_34 : decode cX3_countUpTo 34 = .ok (.invokevirtual 44, 3) := by decide +kernel
theorem dX3_countUpTo_37 : decode cX3_countUpTo 37 = .ok (.ifCond .eq 17, 3) := by decide +kernel
theorem dX3_countUpTo_40 : decode cX3_countUpTo 40 = .ok (.aload_n 0, 1) := by decide +kernel
theorem dX3_countUpTo_41 : decode cX3_countUpTo 41 = .ok (.getfield 12, 3) := by decide +kernel
theorem dX3_countUpTo_44 : decode cX3_countUpTo 44 = .ok (.invokevirtual 48, 3) := by decide +kernel
theorem dX3_countUpTo_47 : decode cX3_countUpTo 47 = .ok (.iload_n 2, 1) := by decide +kernel
theorem dX3_countUpTo_48 : decode cX3_countUpTo 48 = .ok (.if_icmp .gt 6, 3) := by decide +kernel
theorem dX3_countUpTo_51 : decode cX3_countUpTo 51 = .ok (.iinc 4 1, 3) := by decide +kernel
theorem dX3_countUpTo_54 : decode cX3_countUpTo 54 = .ok (.iinc 5 1, 3) := by decide +kernel
theorem dX3_countUpTo_57 : decode cX3_countUpTo 57 = .ok (.goto (-42), 3) := by decide +kernel
theorem dX3_countUpTo_60 : decode cX3_countUpTo 60 = .ok (.iload 4, 2) := by decide +kernel
theorem dX3_countUpTo_62 : decode cX3_countUpTo 62 = .ok (.ireturn, 1) := by decide +kernel
theorem dX3_countTight_0 : decode cX3_countTight 0 = .ok (.aload_n 0, 1) := by decide +kernel
theorem dX3_countTight_1 : decode cX3_countTight 1 = .ok (.getfield 12, 3) := by decide +kernel
theorem dX3_countTight_4 : decode cX3_countTight 4 = .ok (.aload_n 1, 1) := by decide +kernel
theorem dX3_countTight_5 : decode cX3_countTight 5 = .ok (.invokevirtual 35, 3) := by decide +kernel
theorem dX3_countTight_8 : decode cX3_countTight 8 = .ok (.istore_n 2, 1) := by decide +kernel
theorem dX3_countTight_9 : decode cX3_countTight 9 = .ok (.iconst 0, 1) := by decide +kernel
theorem dX3_countTight_10 : decode cX3_countTight 10 = .ok (.istore_n 3, 1) := by decide +kernel
theorem dX3_countTight_11 : decode cX3_countTight 11 = .ok (.iconst 0, 1) := by decide +kernel
theorem dX3_countTight_12 : decode cX3_countTight 12 = .ok (.istore 4, 2) := by decide +kernel
theorem dX3_countTight_14 : decode cX3_countTight 14 = .ok (.iload 4, 2) := by decide +kernel
theorem dX3_countTight_16 : decode cX3_countTight 16 = .ok (.iload_n 2, 1) := by decide +kernel
theorem dX3_countTight_17 : decode cX3_countTight 17 = .ok (.if_icmp .ge 41, 3) := by decide +kernel
theorem dX3_countTight_20 : decode cX3_countTight 20 = .ok (.aload_n 0, 1) := by decide +kernel
theorem dX3_countTight_21 : decode cX3_countTight 21 = .ok (.getfield 12, 3) := by decide +kernel
theorem dX3_countTight_24 : decode cX3_countTight 24 = .ok (.iload 4, 2) := by decide +kernel
theorem dX3_countTight_26 : decode cX3_countTight 26 = .ok (.invokevirtual 40, 3) := by decide +kernel
theorem dX3_countTight_29 : decode cX3_countTight 29 = .ok (.aload_n 0, 1) := by decide +kernel
theorem dX3_countTight_30 : decode cX3_countTight 30 = .ok (.getfield 12, 3) := by decide +kernel
theorem dX3_countTight_33 : decode cX3_countTight 33 = .ok (.invokevirtual 44, 3) := by decide +kernel
theorem dX3_countTight_36 : decode cX3_countTight 36 = .ok (.ifCond .eq 16, 3) := by decide +kernel
theorem dX3_countTight_39 : decode cX3_countTight 39 = .ok (.aload_n 0, 1) := by decide +kernel
theorem dX3_countTight_40 : decode cX3_countTight 40 = .ok (.getfield 12, 3) := by decide +kernel
theorem dX3_countTight_43 : decode cX3_countTight 43 = .ok (.invokevirtual 55, 3) := by decide +kernel
theorem dX3_countTight_46 : decode cX3_countTight 46 = .ok (.ifCond .eq 6, 3) := by decide +kernel
theorem dX3_countTight_49 : decode cX3_countTight 49 = .ok (.iinc 3 1, 3) := by decide +kernel
theorem dX3_countTight_52 : decode cX3_countTight 52 = .ok (.iinc 4 1, 3) := by decide +kernel
theorem dX3_countTight_55 : decode cX3_countTight 55 = .ok (.goto (-41), 3) := by decide +kernel
theorem dX3_countTight_58 : decode cX3_countTight 58 = .ok (.iload_n 3, 1) := by decide +kernel
theorem dX3_countTight_59 : decode cX3_countTight 59 = .ok (.ireturn, 1) := by decide +kernel
theorem dX3_greatestPriceToStay_0 : decode cX3_greatestPriceToStay 0 = .ok (.aload_n 0, 1) := by decide +kernel
theorem dX3_greatestPriceToStay_1 : decode cX3_greatestPriceToStay 1 = .ok (.getfield 12, 3) := by decide +kernel
theorem dX3_greatestPriceToStay_4 : decode cX3_greatestPriceToStay 4 = .ok (.aload_n 1, 1) := by decide +kernel
theorem dX3_greatestPriceToStay_5 : decode cX3_greatestPriceToStay 5 = .ok (.invokevirtual 35, 3) := by decide +kernel
theorem dX3_greatestPriceToStay_8 : decode cX3_greatestPriceToStay 8 = .ok (.istore_n 3, 1) := by decide +kernel
theorem dX3_greatestPriceToStay_9 : decode cX3_greatestPriceToStay 9 = .ok (.ldc 39, 2) := by decide +kernel
theorem dX3_greatestPriceToStay_11 : decode cX3_greatestPriceToStay 11 = .ok (.istore 4, 2) := by decide +kernel
theorem dX3_greatestPriceToStay_13 : decode cX3_greatestPriceToStay 13 = .ok (.ldc 39, 2) := by decide +kernel
theorem dX3_greatestPriceToStay_15 : decode cX3_greatestPriceToStay 15 = .ok (.istore 5, 2) := by decide +kernel
theorem dX3_greatestPriceToStay_17 : decode cX3_greatestPriceToStay 17 = .ok (.iconst 0, 1) := by decide +kernel
theorem dX3_greatestPriceToStay_18 : decode cX3_greatestPriceToStay 18 = .ok (.istore 6, 2) := by decide +kernel
theorem dX3_greatestPriceToStay_20 : decode cX3_greatestPriceToStay 20 = .ok (.iload 6, 2) := by decide +kernel
theorem dX3_greatestPriceToStay_22 : decode cX3_greatestPriceToStay 22 = .ok (.iload_n 3, 1) := by decide +kernel
theorem dX3_greatestPriceToStay_23 : decode cX3_greatestPriceToStay 23 = .ok (.if_icmp .ge 76, 3) := by decide +kernel
theorem dX3_greatestPriceToStay_26 : decode cX3_greatestPriceToStay 26 = .ok (.aload_n 0, 1) := by decide +kernel
theorem dX3_greatestPriceToStay_27 : decode cX3_greatestPriceToStay 27 = .ok (.getfield 12, 3) := by decide +kernel
theorem dX3_greatestPriceToStay_30 : decode cX3_greatestPriceToStay 30 = .ok (.iload 6, 2) := by decide +kernel
theorem dX3_greatestPriceToStay_32 : decode cX3_greatestPriceToStay 32 = .ok (.invokevirtual 40, 3) := by decide +kernel
theorem dX3_greatestPriceToStay_35 : decode cX3_greatestPriceToStay 35 = .ok (.aload_n 0, 1) := by decide +kernel
theorem dX3_greatestPriceToStay_36 : decode cX3_greatestPriceToStay 36 = .ok (.getfield 12, 3) := by decide +kernel
theorem dX3_greatestPriceToStay_39 : decode cX3_greatestPriceToStay 39 = .ok (.invokevirtual 44, 3) := by decide +kernel
theorem dX3_greatestPriceToStay_42 : decode cX3_greatestPriceToStay 42 = .ok (.ifCond .ne 6, 3) := by decide +kernel
theorem dX3_greatestPriceToStay_45 : decode cX3_greatestPriceToStay 45 = .ok (.goto 48, 3) := by decide +kernel
theorem dX3_greatestPriceToStay_48 : decode cX3_greatestPriceToStay 48 = .ok (.aload_n 0, 1) := by decide +kernel
theorem dX3_greatestPriceToStay_49 : decode cX3_greatestPriceToStay 49 = .ok (.getfield 12, 3) := by decide +kernel
theorem dX3_greatestPriceToStay_52 : decode cX3_greatestPriceToStay 52 = .ok (.invokevirtual 52, 3) := by decide +kernel
theorem dX3_greatestPriceToStay_55 : decode cX3_greatestPriceToStay 55 = .ok (.iload_n 2, 1) := by decide +kernel
theorem dX3_greatestPriceToStay_56 : decode cX3_greatestPriceToStay 56 = .ok (.invokestatic 58, 3) := by decide +kernel
theorem dX3_greatestPriceToStay_59 : decode cX3_greatestPriceToStay 59 = .ok (.ifCond .eq 20, 3) := by decide +kernel
theorem dX3_greatestPriceToStay_62 : decode cX3_greatestPriceToStay 62 = .ok (.iload 4, 2) := by decide +kernel
theorem dX3_greatestPriceToStay_64 : decode cX3_greatestPriceToStay 64 = .ok (.aload_n 0, 1) := by decide +kernel
theorem dX3_greatestPriceToStay_65 : decode cX3_greatestPriceToStay 65 = .ok (.getfield 12, 3) := by decide +kernel
theorem dX3_greatestPriceToStay_68 : decode cX3_greatestPriceToStay 68 = .ok (.invokevirtual 48, 3) := by decide +kernel
theorem dX3_greatestPriceToStay_71 : decode cX3_greatestPriceToStay 71 = .ok (.invokestatic 62, 3) := by decide +kernel
theorem dX3_greatestPriceToStay_74 : decode cX3_greatestPriceToStay 74 = .ok (.istore 4, 2) := by decide +kernel
theorem dX3_greatestPriceToStay_76 : decode cX3_greatestPriceToStay 76 = .ok (.goto 17, 3) := by decide +kernel
theorem dX3_greatestPriceToStay_79 : decode cX3_greatestPriceToStay 79 = .ok (.iload 5, 2) := by decide +kernel
theorem dX3_greatestPriceToStay_81 : decode cX3_greatestPriceToStay 81 = .ok (.aload_n 0, 1) := by decide +kernel
theorem dX3_greatestPriceToStay_82 : decode cX3_greatestPriceToStay 82 = .ok (.getfield 12, 3) := by decide +kernel
theorem dX3_greatestPriceToStay_85 : decode cX3_greatestPriceToStay 85 = .ok (.invokevirtual 48, 3) := by decide +kernel
theorem dX3_greatestPriceToStay_88 : decode cX3_greatestPriceToStay 88 = .ok (.invokestatic 62, 3) := by decide +kernel
theorem dX3_greatestPriceToStay_91 : decode cX3_greatestPriceToStay 91 = .ok (.istore 5, 2) := by decide +kernel
theorem dX3_greatestPriceToStay_93 : decode cX3_greatestPriceToStay 93 = .ok (.iinc 6 1, 3) := by decide +kernel
theorem dX3_greatestPriceToStay_96 : decode cX3_greatestPriceToStay 96 = .ok (.goto (-76), 3) := by decide +kernel
theorem dX3_greatestPriceToStay_99 : decode cX3_greatestPriceToStay 99 = .ok (.iload 4, 2) := by decide +kernel
theorem dX3_greatestPriceToStay_101 : decode cX3_greatestPriceToStay 101 = .ok (.ldc 39, 2) := by decide +kernel
theorem dX3_greatestPriceToStay_103 : decode cX3_greatestPriceToStay 103 = .ok (.if_icmp .ne 6, 3) := by decide +kernel
theorem dX3_greatestPriceToStay_106 : decode cX3_greatestPriceToStay 106 = .ok (.bipush (-6), 2) := by decide +kernel
theorem dX3_greatestPriceToStay_108 : decode cX3_greatestPriceToStay 108 = .ok (.ireturn, 1) := by decide +kernel
theorem dX3_greatestPriceToStay_109 : decode cX3_greatestPriceToStay 109 = .ok (.iload 4, 2) := by decide +kernel
theorem dX3_greatestPriceToStay_111 : decode cX3_greatestPriceToStay 111 = .ok (.aload_n 1, 1) := by decide +kernel
theorem dX3_greatestPriceToStay_112 : decode cX3_greatestPriceToStay 112 = .ok (.iconst 1, 1) := by decide +kernel
theorem dX3_greatestPriceToStay_113 : decode cX3_greatestPriceToStay 113 = .ok (.iload_n 2, 1) := by decide +kernel
theorem dX3_greatestPriceToStay_114 : decode cX3_greatestPriceToStay 114 = .ok (.ishl, 1) := by decide +kernel
theorem dX3_greatestPriceToStay_115 : decode cX3_greatestPriceToStay 115 = .ok (.invokevirtual 68, 3) := by decide +kernel
theorem dX3_greatestPriceToStay_118 : decode cX3_greatestPriceToStay 118 = .ok (.isub, 1) := by decide +kernel
theorem dX3_greatestPriceToStay_119 : decode cX3_greatestPriceToStay 119 = .ok (.istore 6, 2) := by decide +kernel
theorem dX3_greatestPriceToStay_121 : decode cX3_greatestPriceToStay 121 = .ok (.sipush 500, 3) := by decide +kernel
theorem dX3_greatestPriceToStay_124 : decode cX3_greatestPriceToStay 124 = .ok (.iload 5, 2) := by decide +kernel
theorem dX3_greatestPriceToStay_126 : decode cX3_greatestPriceToStay 126 = .ok (.iload 6, 2) := by decide +kernel
theorem dX3_greatestPriceToStay_128 : decode cX3_greatestPriceToStay 128 = .ok (.isub, 1) := by decide +kernel
theorem dX3_greatestPriceToStay_129 : decode cX3_greatestPriceToStay 129 = .ok (.invokestatic 62, 3) := by decide +kernel
theorem dX3_greatestPriceToStay_132 : decode cX3_greatestPriceToStay 132 = .ok (.istore 7, 2) := by decide +kernel
theorem dX3_greatestPriceToStay_134 : decode cX3_greatestPriceToStay 134 = .ok (.iload 7, 2) := by decide +kernel
theorem dX3_greatestPriceToStay_136 : decode cX3_greatestPriceToStay 136 = .ok (.iconst 1, 1) := by decide +kernel
theorem dX3_greatestPriceToStay_137 : decode cX3_greatestPriceToStay 137 = .ok (.if_icmp .lt 8, 3) := by decide +kernel
theorem dX3_greatestPriceToStay_140 : decode cX3_greatestPriceToStay 140 = .ok (.iload 7, 2) := by decide +kernel
theorem dX3_greatestPriceToStay_142 : decode cX3_greatestPriceToStay 142 = .ok (.goto 5, 3) := by decide +kernel
theorem dX3_greatestPriceToStay_145 : decode cX3_greatestPriceToStay 145 = .ok (.bipush (-6), 2) := by decide +kernel
theorem dX3_greatestPriceToStay_147 : decode cX3_greatestPriceToStay 147 = .ok (.ireturn, 1) := by decide +kernel
theorem dX3_findDearest_0 : decode cX3_findDearest 0 = .ok (.aload_n 0, 1) := by decide +kernel
theorem dX3_findDearest_1 : decode cX3_findDearest 1 = .ok (.aload_n 1, 1) := by decide +kernel
theorem dX3_findDearest_2 : decode cX3_findDearest 2 = .ok (.invokevirtual 74, 3) := by decide +kernel
theorem dX3_findDearest_5 : decode cX3_findDearest 5 = .ok (.aload_n 0, 1) := by decide +kernel
theorem dX3_findDearest_6 : decode cX3_findDearest 6 = .ok (.bipush (-6), 2) := by decide +kernel
theorem dX3_findDearest_8 : decode cX3_findDearest 8 = .ok (.putfield 25, 3) := by decide +kernel
theorem dX3_findDearest_11 : decode cX3_findDearest 11 = .ok (.aload_n 0, 1) := by decide +kernel
theorem dX3_findDearest_12 : decode cX3_findDearest 12 = .ok (.ldc 39, 2) := by decide +kernel
theorem dX3_findDearest_14 : decode cX3_findDearest 14 = .ok (.putfield 28, 3) := by decide +kernel
theorem dX3_findDearest_17 : decode cX3_findDearest 17 = .ok (.iconst 0, 1) := by decide +kernel
theorem dX3_findDearest_18 : decode cX3_findDearest 18 = .ok (.istore_n 2, 1) := by decide +kernel
theorem dX3_findDearest_19 : decode cX3_findDearest 19 = .ok (.iload_n 2, 1) := by decide +kernel
theorem dX3_findDearest_20 : decode cX3_findDearest 20 = .ok (.bipush 18, 2) := by decide +kernel
theorem dX3_findDearest_22 : decode cX3_findDearest 22 = .ok (.if_icmp .ge 52, 3) := by decide +kernel
theorem dX3_findDearest_25 : decode cX3_findDearest 25 = .ok (.aload_n 0, 1) := by decide +kernel
theorem dX3_findDearest_26 : decode cX3_findDearest 26 = .ok (.getfield 22, 3) := by decide +kernel
theorem dX3_findDearest_29 : decode cX3_findDearest 29 = .ok (.aload_n 0, 1) := by decide +kernel
theorem dX3_findDearest_30 : decode cX3_findDearest 30 = .ok (.getfield 31, 3) := by decide +kernel
theorem dX3_findDearest_33 : decode cX3_findDearest 33 = .ok (.iload_n 2, 1) := by decide +kernel
theorem dX3_findDearest_34 : decode cX3_findDearest 34 = .ok (.iaload, 1) := by decide +kernel
theorem dX3_findDearest_35 : decode cX3_findDearest 35 = .ok (.invokestatic 62, 3) := by decide +kernel
theorem dX3_findDearest_38 : decode cX3_findDearest 38 = .ok (.istore_n 3, 1) := by decide +kernel
theorem dX3_findDearest_39 : decode cX3_findDearest 39 = .ok (.aload_n 1, 1) := by decide +kernel
theorem dX3_findDearest_40 : decode cX3_findDearest 40 = .ok (.getfield 78, 3) := by decide +kernel
theorem dX3_findDearest_43 : decode cX3_findDearest 43 = .ok (.iload_n 2, 1) := by decide +kernel
theorem dX3_findDearest_44 : decode cX3_findDearest 44 = .ok (.invokestatic 58, 3) := by decide +kernel
theorem dX3_findDearest_47 : decode cX3_findDearest 47 = .ok (.ifCond .eq 21, 3) := by decide +kernel
theorem dX3_findDearest_50 : decode cX3_findDearest 50 = .ok (.iload_n 3, 1) := by decide +kernel
theorem dX3_findDearest_51 : decode cX3_findDearest 51 = .ok (.aload_n 0, 1) := by decide +kernel
theorem dX3_findDearest_52 : decode cX3_findDearest 52 = .ok (.getfield 28, 3) := by decide +kernel
theorem dX3_findDearest_55 : decode cX3_findDearest 55 = .ok (.if_icmp .ge 13, 3) := by decide +kernel
theorem dX3_findDearest_58 : decode cX3_findDearest 58 = .ok (.aload_n 0, 1) := by decide +kernel
theorem dX3_findDearest_59 : decode cX3_findDearest 59 = .ok (.iload_n 2, 1) := by decide +kernel
theorem dX3_findDearest_60 : decode cX3_findDearest 60 = .ok (.putfield 25, 3) := by decide +kernel
theorem dX3_findDearest_63 : decode cX3_findDearest 63 = .ok (.aload_n 0, 1) := by decide +kernel
theorem dX3_findDearest_64 : decode cX3_findDearest 64 = .ok (.iload_n 3, 1) := by decide +kernel
theorem dX3_findDearest_65 : decode cX3_findDearest 65 = .ok (.putfield 28, 3) := by decide +kernel
theorem dX3_findDearest_68 : decode cX3_findDearest 68 = .ok (.iinc 2 1, 3) := by decide +kernel
theorem dX3_findDearest_71 : decode cX3_findDearest 71 = .ok (.goto (-52), 3) := by decide +kernel
theorem dX3_findDearest_74 : decode cX3_findDearest 74 = .ok (.return_, 1) := by decide +kernel
theorem dX3_findLeastMissingOne_0 : decode cX3_findLeastMissingOne 0 = .ok (.aload_n 0, 1) := by decide +kernel
theorem dX3_findLeastMissingOne_1 : decode cX3_findLeastMissingOne 1 = .ok (.getfield 12, 3) := by decide +kernel
theorem dX3_findLeastMissingOne_4 : decode cX3_findLeastMissingOne 4 = .ok (.aload_n 1, 1) := by decide +kernel
theorem dX3_findLeastMissingOne_5 : decode cX3_findLeastMissingOne 5 = .ok (.invokevirtual 35, 3) := by decide +kernel
theorem dX3_findLeastMissingOne_8 : decode cX3_findLeastMissingOne 8 = .ok (.istore_n 2, 1) := by decide +kernel
theorem dX3_findLeastMissingOne_9 : decode cX3_findLeastMissingOne 9 = .ok (.aload_n 0, 1) := by decide +kernel
theorem dX3_findLeastMissingOne_10 : decode cX3_findLeastMissingOne 10 = .ok (.ldc 39, 2) := by decide +kernel
theorem dX3_findLeastMissingOne_12 : decode cX3_findLeastMissingOne 12 = .ok (.putfield 22, 3) := by decide +kernel
theorem dX3_findLeastMissingOne_15 : decode cX3_findLeastMissingOne 15 = .ok (.aload_n 0, 1) := by decide +kernel
theorem dX3_findLeastMissingOne_16 : decode cX3_findLeastMissingOne 16 = .ok (.getfield 31, 3) := by decide +kernel
theorem dX3_findLeastMissingOne_19 : decode cX3_findLeastMissingOne 19 = .ok (.ldc 39, 2) := by decide +kernel
theorem dX3_findLeastMissingOne_21 : decode cX3_findLeastMissingOne 21 = .ok (.invokestatic 81, 3) := by decide +kernel
theorem dX3_findLeastMissingOne_24 : decode cX3_findLeastMissingOne 24 = .ok (.iconst 0, 1) := by decide +kernel
theorem dX3_findLeastMissingOne_25 : decode cX3_findLeastMissingOne 25 = .ok (.istore_n 3, 1) := by decide +kernel
theorem dX3_findLeastMissingOne_26 : decode cX3_findLeastMissingOne 26 = .ok (.iload_n 3, 1) := by decide +kernel
theorem dX3_findLeastMissingOne_27 : decode cX3_findLeastMissingOne 27 = .ok (.iload_n 2, 1) := by decide +kernel
theorem dX3_findLeastMissingOne_28 : decode cX3_findLeastMissingOne 28 = .ok (.if_icmp .ge 77, 3) := by decide +kernel
theorem dX3_findLeastMissingOne_31 : decode cX3_findLeastMissingOne 31 = .ok (.aload_n 0, 1) := by decide +kernel
theorem dX3_findLeastMissingOne_32 : decode cX3_findLeastMissingOne 32 = .ok (.getfield 12, 3) := by decide +kernel
theorem dX3_findLeastMissingOne_35 : decode cX3_findLeastMissingOne 35 = .ok (.iload_n 3, 1) := by decide +kernel
theorem dX3_findLeastMissingOne_36 : decode cX3_findLeastMissingOne 36 = .ok (.invokevirtual 40, 3) := by decide +kernel
theorem dX3_findLeastMissingOne_39 : decode cX3_findLeastMissingOne 39 = .ok (.aload_n 0, 1) := by decide +kernel
theorem dX3_findLeastMissingOne_40 : decode cX3_findLeastMissingOne 40 = .ok (.getfield 12, 3) := by decide +kernel
theorem dX3_findLeastMissingOne_43 : decode cX3_findLeastMissingOne 43 = .ok (.invokevirtual 87, 3) := by decide +kernel
theorem dX3_findLeastMissingOne_46 : decode cX3_findLeastMissingOne 46 = .ok (.istore 4, 2) := by decide +kernel
theorem dX3_findLeastMissingOne_48 : decode cX3_findLeastMissingOne 48 = .ok (.iload 4, 2) := by decide +kernel
theorem dX3_findLeastMissingOne_50 : decode cX3_findLeastMissingOne 50 = .ok (.ifCond .ne 24, 3) := by decide +kernel
theorem dX3_findLeastMissingOne_53 : decode cX3_findLeastMissingOne 53 = .ok (.aload_n 0, 1) := by decide +kernel
theorem dX3_findLeastMissingOne_54 : decode cX3_findLeastMissingOne 54 = .ok (.aload_n 0, 1) := by decide +kernel
theorem dX3_findLeastMissingOne_55 : decode cX3_findLeastMissingOne 55 = .ok (.getfield 22, 3) := by decide +kernel
theorem dX3_findLeastMissingOne_58 : decode cX3_findLeastMissingOne 58 = .ok (.aload_n 0, 1) := by decide +kernel
theorem dX3_findLeastMissingOne_59 : decode cX3_findLeastMissingOne 59 = .ok (.getfield 12, 3) := by decide +kernel
theorem dX3_findLeastMissingOne_62 : decode cX3_findLeastMissingOne 62 = .ok (.invokevirtual 48, 3) := by decide +kernel
theorem dX3_findLeastMissingOne_65 : decode cX3_findLeastMissingOne 65 = .ok (.invokestatic 62, 3) := by decide +kernel
theorem dX3_findLeastMissingOne_68 : decode cX3_findLeastMissingOne 68 = .ok (.putfield 22, 3) := by decide +kernel
theorem dX3_findLeastMissingOne_71 : decode cX3_findLeastMissingOne 71 = .ok (.goto 28, 3) := by decide +kernel
theorem dX3_findLeastMissingOne_74 : decode cX3_findLeastMissingOne 74 = .ok (.iload 4, 2) := by decide +kernel
theorem dX3_findLeastMissingOne_76 : decode cX3_findLeastMissingOne 76 = .ok (.invokestatic 90, 3) := by decide +kernel
theorem dX3_findLeastMissingOne_79 : decode cX3_findLeastMissingOne 79 = .ok (.iconst 1, 1) := by decide +kernel
theorem dX3_findLeastMissingOne_80 : decode cX3_findLeastMissingOne 80 = .ok (.if_icmp .ne 19, 3) := by decide +kernel
theorem dX3_findLeastMissingOne_83 : decode cX3_findLeastMissingOne 83 = .ok (.aload_n 0, 1) := by decide +kernel
theorem dX3_findLeastMissingOne_84 : decode cX3_findLeastMissingOne 84 = .ok (.iload 4, 2) := by decide +kernel
theorem dX3_findLeastMissingOne_86 : decode cX3_findLeastMissingOne 86 = .ok (.invokestatic 95, 3) := by decide +kernel
theorem dX3_findLeastMissingOne_89 : decode cX3_findLeastMissingOne 89 = .ok (.aload_n 0, 1) := by decide +kernel
theorem dX3_findLeastMissingOne_90 : decode cX3_findLeastMissingOne 90 = .ok (.getfield 12, 3) := by decide +kernel
theorem dX3_findLeastMissingOne_93 : decode cX3_findLeastMissingOne 93 = .ok (.invokevirtual 48, 3) := by decide +kernel
theorem dX3_findLeastMissingOne_96 : decode cX3_findLeastMissingOne 96 = .ok (.invokevirtual 98, 3) := by decide +kernel
theorem dX3_findLeastMissingOne_99 : decode cX3_findLeastMissingOne 99 = .ok (.iinc 3 1, 3) := by decide +kernel
theorem dX3_findLeastMissingOne_102 : decode cX3_findLeastMissingOne 102 = .ok (.goto (-76), 3) := by decide +kernel
theorem dX3_findLeastMissingOne_105 : decode cX3_findLeastMissingOne 105 = .ok (.return_, 1) := by decide +kernel
theorem dX3_noteMissingOne_0 : decode cX3_noteMissingOne 0 = .ok (.iload_n 1, 1) := by decide +kernel
theorem dX3_noteMissingOne_1 : decode cX3_noteMissingOne 1 = .ok (.bipush 18, 2) := by decide +kernel
theorem dX3_noteMissingOne_3 : decode cX3_noteMissingOne 3 = .ok (.if_icmp .ge 19, 3) := by decide +kernel
theorem dX3_noteMissingOne_6 : decode cX3_noteMissingOne 6 = .ok (.aload_n 0, 1) := by decide +kernel
theorem dX3_noteMissingOne_7 : decode cX3_noteMissingOne 7 = .ok (.getfield 31, 3) := by decide +kernel
theorem dX3_noteMissingOne_10 : decode cX3_noteMissingOne 10 = .ok (.iload_n 1, 1) := by decide +kernel
theorem dX3_noteMissingOne_11 : decode cX3_noteMissingOne 11 = .ok (.aload_n 0, 1) := by decide +kernel
theorem dX3_noteMissingOne_12 : decode cX3_noteMissingOne 12 = .ok (.getfield 31, 3) := by decide +kernel
theorem dX3_noteMissingOne_15 : decode cX3_noteMissingOne 15 = .ok (.iload_n 1, 1) := by decide +kernel
theorem dX3_noteMissingOne_16 : decode cX3_noteMissingOne 16 = .ok (.iaload, 1) := by decide +kernel
theorem dX3_noteMissingOne_17 : decode cX3_noteMissingOne 17 = .ok (.iload_n 2, 1) := by decide +kernel
theorem dX3_noteMissingOne_18 : decode cX3_noteMissingOne 18 = .ok (.invokestatic 62, 3) := by decide +kernel
theorem dX3_noteMissingOne_21 : decode cX3_noteMissingOne 21 = .ok (.iastore, 1) := by decide +kernel
theorem dX3_noteMissingOne_22 : decode cX3_noteMissingOne 22 = .ok (.return_, 1) := by decide +kernel
theorem dX4_init_0 : decode cX4_init 0 = .ok (.aload_n 0, 1) := by decide +kernel
theorem dX4_init_1 : decode cX4_init 1 = .ok (.invokespecial 3, 3) := by decide +kernel
theorem dX4_init_4 : decode cX4_init 4 = .ok (.aload_n 0, 1) := by decide +kernel
theorem dX4_init_5 : decode cX4_init 5 = .ok (.iconst 0, 1) := by decide +kernel
theorem dX4_init_6 : decode cX4_init 6 = .ok (.putfield 9, 3) := by decide +kernel
theorem dX4_init_9 : decode cX4_init 9 = .ok (.aload_n 0, 1) := by decide +kernel
theorem dX4_init_10 : decode cX4_init 10 = .ok (.iconst 0, 1) := by decide +kernel
theorem dX4_init_11 : decode cX4_init 11 = .ok (.putfield 15, 3) := by decide +kernel
theorem dX4_init_14 : decode cX4_init 14 = .ok (.aload_n 0, 1) := by decide +kernel
theorem dX4_init_15 : decode cX4_init 15 = .ok (.iconst 0, 1) := by decide +kernel
theorem dX4_init_16 : decode cX4_init 16 = .ok (.putfield 18, 3) := by decide +kernel
theorem dX4_init_19 : decode cX4_init 19 = .ok (.aload_n 0, 1) := by decide +kernel
theorem dX4_init_20 : decode cX4_init 20 = .ok (.iconst 0, 1) := by decide +kernel
theorem dX4_init_21 : decode cX4_init 21 = .ok (.putfield 21, 3) := by decide +kernel
theorem dX4_init_24 : decode cX4_init 24 = .ok (.aload_n 0, 1) := by decide +kernel
theorem dX4_init_25 : decode cX4_init 25 = .ok (.iconst 0, 1) := by decide +kernel
theorem dX4_init_26 : decode cX4_init 26 = .ok (.putfield 24, 3) := by decide +kernel
theorem dX4_init_29 : decode cX4_init 29 = .ok (.aload_n 0, 1) := by decide +kernel
theorem dX4_init_30 : decode cX4_init 30 = .ok (.iconst 0, 1) := by decide +kernel
theorem dX4_init_31 : decode cX4_init 31 = .ok (.putfield 27, 3) := by decide +kernel
theorem dX4_init_34 : decode cX4_init 34 = .ok (.aload_n 0, 1) := by decide +kernel
theorem dX4_init_35 : decode cX4_init 35 = .ok (.bipush 18, 2) := by decide +kernel
theorem dX4_init_37 : decode cX4_init 37 = .ok (.newarray .int, 2) := by decide +kernel
theorem dX4_init_39 : decode cX4_init 39 = .ok (.putfield 30, 3) := by decide +kernel
theorem dX4_init_42 : decode cX4_init 42 = .ok (.aload_n 0, 1) := by decide +kernel
theorem dX4_init_43 : decode cX4_init 43 = .ok (.bipush 14, 2) := by decide +kernel
theorem dX4_init_45 : decode cX4_init 45 = .ok (.newarray .int, 2) := by decide +kernel
theorem dX4_init_47 : decode cX4_init 47 = .ok (.putfield 34, 3) := by decide +kernel
theorem dX4_init_50 : decode cX4_init 50 = .ok (.aload_n 0, 1) := by decide +kernel
theorem dX4_init_51 : decode cX4_init 51 = .ok (.bipush 14, 2) := by decide +kernel
theorem dX4_init_53 : decode cX4_init 53 = .ok (.newarray .int, 2) := by decide +kernel
theorem dX4_init_55 : decode cX4_init 55 = .ok (.putfield 37, 3) := by decide +kernel
theorem dX4_init_58 : decode cX4_init 58 = .ok (.aload_n 0, 1) := by decide +kernel
theorem dX4_init_59 : decode cX4_init 59 = .ok (.bipush 14, 2) := by decide +kernel
theorem dX4_init_61 : decode cX4_init 61 = .ok (.newarray .int, 2) := by decide +kernel
theorem dX4_init_63 : decode cX4_init 63 = .ok (.putfield 40, 3) := by decide +kernel
theorem dX4_init_66 : decode cX4_init 66 = .ok (.return_, 1) := by decide +kernel
theorem dX4_raiseAll_0 : decode cX4_raiseAll 0 = .ok (.aload_n 0, 1) := by decide +kernel
theorem dX4_raiseAll_1 : decode cX4_raiseAll 1 = .ok (.aload_n 1, 1) := by decide +kernel
theorem dX4_raiseAll_2 : decode cX4_raiseAll 2 = .ok (.invokevirtual 43, 3) := by decide +kernel
theorem dX4_raiseAll_5 : decode cX4_raiseAll 5 = .ok (.iconst 0, 1) := by decide +kernel
theorem dX4_raiseAll_6 : decode cX4_raiseAll 6 = .ok (.istore_n 2, 1) := by decide +kernel
theorem dX4_raiseAll_7 : decode cX4_raiseAll 7 = .ok (.iload_n 2, 1) := by decide +kernel
theorem dX4_raiseAll_8 : decode cX4_raiseAll 8 = .ok (.sipush 500, 3) := by decide +kernel
theorem dX4_raiseAll_11 : decode cX4_raiseAll 11 = .ok (.if_icmp .ge 28, 3) := by decide +kernel
theorem dX4_raiseAll_14 : decode cX4_raiseAll 14 = .ok (.aload_n 0, 1) := by decide +kernel
theorem dX4_raiseAll_15 : decode cX4_raiseAll 15 = .ok (.getfield 9, 3) := by decide +kernel
theorem dX4_raiseAll_18 : decode cX4_raiseAll 18 = .ok (.aload_n 0, 1) := by decide +kernel
theorem dX4_raiseAll_19 : decode cX4_raiseAll 19 = .ok (.getfield 15, 3) := by decide +kernel
theorem dX4_raiseAll_22 : decode cX4_raiseAll 22 = .ok (.iconst (-1), 1) := by decide +kernel
theorem dX4_raiseAll_23 : decode cX4_raiseAll 23 = .ok (.ixor, 1) := by decide +kernel
theorem dX4_raiseAll_24 : decode cX4_raiseAll 24 = .ok (.iand, 1) := by decide +kernel
theorem dX4_raiseAll_25 : decode cX4_raiseAll 25 = .ok (.ifCond .eq 14, 3) := by decide +kernel
theorem dX4_raiseAll_28 : decode cX4_raiseAll 28 = .ok (.aload_n 0, 1) := by decide +kernel
theorem dX4_raiseAll_29 : decode cX4_raiseAll 29 = .ok (.aload_n 1, 1) := by decide +kernel
theorem dX4_raiseAll_30 : decode cX4_raiseAll 30 = .ok (.invokevirtual 47, 3) := by decide +kernel
theorem dX4_raiseAll_33 : decode cX4_raiseAll 33 = .ok (.iinc 2 1, 3) := by decide +kernel
theorem dX4_raiseAll_36 : decode cX4_raiseAll 36 = .ok (.goto (-29), 3) := by decide +kernel
theorem dX4_raiseAll_39 : decode cX4_raiseAll 39 = .ok (.aload_n 0, 1) := by decide +kernel
theorem dX4_raiseAll_40 : decode cX4_raiseAll 40 = .ok (.aload_n 1, 1) := by decide +kernel
theorem dX4_raiseAll_41 : decode cX4_raiseAll 41 = .ok (.invokevirtual 50, 3) := by decide +kernel
theorem dX4_raiseAll_44 : decode cX4_raiseAll 44 = .ok (.return_, 1) := by decide +kernel
theorem dX4_begin_0 : decode cX4_begin 0 = .ok (.aload_n 0, 1) := by decide +kernel
theorem dX4_begin_1 : decode cX4_begin 1 = .ok (.aload_n 1, 1) := by decide +kernel
theorem dX4_begin_2 : decode cX4_begin 2 = .ok (.aload_n 1, 1) := by decide +kernel
theorem dX4_begin_3 : decode cX4_begin 3 = .ok (.iconst 1, 1) := by decide +kernel
theorem dX4_begin_4 : decode cX4_begin 4 = .ok (.invokevirtual 53, 3) := by decide +kernel
theorem dX4_begin_7 : decode cX4_begin 7 = .ok (.invokevirtual 59, 3) := by decide +kernel
theorem dX4_begin_10 : decode cX4_begin 10 = .ok (.putfield 9, 3) := by decide +kernel
theorem dX4_begin_13 : decode cX4_begin 13 = .ok (.aload_n 0, 1) := by decide +kernel
theorem dX4_begin_14 : decode cX4_begin 14 = .ok (.iconst 0, 1) := by decide +kernel
theorem dX4_begin_15 : decode cX4_begin 15 = .ok (.putfield 15, 3) := by decide +kernel
theorem dX4_begin_18 : decode cX4_begin 18 = .ok (.aload_n 0, 1) := by decide +kernel
theorem dX4_begin_19 : decode cX4_begin 19 = .ok (.iconst 0, 1) := by decide +kernel
theorem dX4_begin_20 : decode cX4_begin 20 = .ok (.putfield 18, 3) := by decide +kernel
theorem dX4_begin_23 : decode cX4_begin 23 = .ok (.aload_n 0, 1) := by decide +kernel
theorem dX4_begin_24 : decode cX4_begin 24 = .ok (.iconst 0, 1) := by decide +kernel
theorem dX4_begin_25 : decode cX4_begin 25 = .ok (.putfield 21, 3) := by decide +kernel
theorem dX4_begin_28 : decode cX4_begin 28 = .ok (.aload_n 0, 1) := by decide +kernel
theorem dX4_begin_29 : decode cX4_begin 29 = .ok (.iconst 0, 1) := by decide +kernel
theorem dX4_begin_30 : decode cX4_begin 30 = .ok (.putfield 24, 3) := by decide +kernel
theorem dX4_begin_33 : decode cX4_begin 33 = .ok (.aload_n 0, 1) := by decide +kernel
theorem dX4_begin_34 : decode cX4_begin 34 = .ok (.iconst 0, 1) := by decide +kernel
theorem dX4_begin_35 : decode cX4_begin 35 = .ok (.putfield 27, 3) := by decide +kernel
theorem dX4_begin_38 : decode cX4_begin 38 = .ok (.aload_n 0, 1) := by decide +kernel
theorem dX4_begin_39 : decode cX4_begin 39 = .ok (.getfield 30, 3) := by decide +kernel
theorem dX4_begin_42 : decode cX4_begin 42 = .ok (.iconst 0, 1) := by decide +kernel
theorem dX4_begin_43 : decode cX4_begin 43 = .ok (.invokestatic 62, 3) := by decide +kernel
theorem dX4_begin_46 : decode cX4_begin 46 = .ok (.aload_n 0, 1) := by decide +kernel
theorem dX4_begin_47 : decode cX4_begin 47 = .ok (.getfield 34, 3) := by decide +kernel
theorem dX4_begin_50 : decode cX4_begin 50 = .ok (.iconst 0, 1) := by decide +kernel
theorem dX4_begin_51 : decode cX4_begin 51 = .ok (.invokestatic 62, 3) := by decide +kernel
theorem dX4_begin_54 : decode cX4_begin 54 = .ok (.aload_n 0, 1) := by decide +kernel
theorem dX4_begin_55 : decode cX4_begin 55 = .ok (.getfield 37, 3) := by decide +kernel
theorem dX4_begin_58 : decode cX4_begin 58 = .ok (.bipush (-6), 2) := by decide +kernel
theorem dX4_begin_60 : decode cX4_begin 60 = .ok (.invokestatic 62, 3) := by decide +kernel
theorem dX4_begin_63 : decode cX4_begin 63 = .ok (.return_, 1) := by decide +kernel
theorem dX4_makeRound_0 : decode cX4_makeRound 0 = .ok (.aload_n 0, 1) := by decide +kernel
theorem dX4_makeRound_1 : decode cX4_makeRound 1 = .ok (.dup, 1) := by decide +kernel
theorem dX4_makeRound_2 : decode cX4_makeRound 2 = .ok (.getfield 18, 3) := by decide +kernel
theorem dX4_makeRound_5 : decode cX4_makeRound 5 = .ok (.iconst 1, 1) := by decide +kernel
theorem dX4_makeRound_6 : decode cX4_makeRound 6 = .ok (.iadd, 1) := by decide +kernel
theorem dX4_makeRound_7 : decode cX4_makeRound 7 = .ok (.putfield 18, 3) := by decide +kernel
theorem dX4_makeRound_10 : decode cX4_makeRound 10 = .ok (.iconst 0, 1) := by decide +kernel
theorem dX4_makeRound_11 : decode cX4_makeRound 11 = .ok (.istore_n 2, 1) := by decide +kernel
theorem dX4_makeRound_12 : decode cX4_makeRound 12 = .ok (.iload_n 2, 1) := by decide +kernel
theorem dX4_makeRound_13 : decode cX4_makeRound 13 = .ok (.bipush 18, 2) := by decide +kernel
theorem dX4_makeRound_15 : decode cX4_makeRound 15 = .ok (.if_icmp .ge 43, 3) := by decide +kernel
theorem dX4_makeRound_18 : decode cX4_makeRound 18 = .ok (.aload_n 0, 1) := by decide +kernel
theorem dX4_makeRound_19 : decode cX4_makeRound 19 = .ok (.getfield 9, 3) := by decide +kernel
theorem dX4_makeRound_22 : decode cX4_makeRound 22 = .ok (.aload_n 0, 1) := by decide +kernel
theorem dX4_makeRound_23 : decode cX4_makeRound 23 = .ok (.getfield 15, 3) := by decide +kernel
theorem dX4_makeRound_26 : decode cX4_makeRound 26 = .ok (.iconst (-1), 1) := by decide +kernel
theorem dX4_makeRound_27 : decode cX4_makeRound 27 = .ok (.ixor, 1) := by decide +kernel
theorem dX4_makeRound_28 : decode cX4_makeRound 28 = .ok (.iand, 1) := by decide +kernel
theorem dX4_makeRound_29 : decode cX4_makeRound 29 = .ok (.iload_n 2, 1) := by decide +kernel
theorem dX4_makeRound_30 : decode cX4_makeRound 30 = .ok (.invokestatic 68, 3) := by decide +kernel
theorem dX4_makeRound_33 : decode cX4_makeRound 33 = .ok (.ifCond .eq 19, 3) := by decide +kernel
theorem dX4_makeRound_36 : decode cX4_makeRound 36 = .ok (.aload_n 0, 1) := by decide +kernel
theorem dX4_makeRound_37 : decode cX4_makeRound 37 = .ok (.getfield 30, 3) := by decide +kernel
theorem dX4_makeRound_40 : decode cX4_makeRound 40 = .ok (.iload_n 2, 1) := by decide +kernel
theorem dX4_makeRound_41 : decode cX4_makeRound 41 = .ok (.dup2, 1) := by decide +kernel
theorem dX4_makeRound_42 : decode cX4_makeRound 42 = .ok (.iaload, 1) := by decide +kernel
theorem dX4_makeRound_43 : decode cX4_makeRound 43 = .ok (.iconst 1, 1) := by decide +kernel
theorem dX4_makeRound_44 : decode cX4_makeRound 44 = .ok (.iadd, 1) := by decide +kernel
theorem dX4_makeRound_45 : decode cX4_makeRound 45 = .ok (.iastore, 1) := by decide +kernel
theorem dX4_makeRound_46 : decode cX4_makeRound 46 = .ok (.aload_n 0, 1) := by decide +kernel
theorem dX4_makeRound_47 : decode cX4_makeRound 47 = .ok (.iload_n 2, 1) := by decide +kernel
theorem dX4_makeRound_48 : decode cX4_makeRound 48 = .ok (.aload_n 1, 1) := by decide +kernel
theorem dX4_makeRound_49 : decode cX4_makeRound 49 = .ok (.invokevirtual 72, 3) := by decide +kernel
theorem dX4_makeRound_52 : decode cX4_makeRound 52 = .ok (.iinc 2 1, 3) := by decide +kernel
theorem dX4_makeRound_55 : decode cX4_makeRound 55 = .ok (.goto (-43), 3) := by decide +kernel
theorem dX4_makeRound_58 : decode cX4_makeRound 58 = .ok (.return_, 1) := by decide +kernel
theorem dX4_fillSetsWith_0 : decode cX4_fillSetsWith 0 = .ok (.iconst 0, 1) := by decide +kernel
theorem dX4_fillSetsWith_1 : decode cX4_fillSetsWith 1 = .ok (.istore_n 3, 1) := by decide +kernel
theorem dX4_fillSetsWith_2 : decode cX4_fillSetsWith 2 = .ok (.iload_n 3, 1) := by decide +kernel
theorem dX4_fillSetsWith_3 : decode cX4_fillSetsWith 3 = .ok (.aload_n 2, 1) := by decide +kernel
theorem dX4_fillSetsWith_4 : decode cX4_fillSetsWith 4 = .ok (.getfield 76, 3) := by decide +kernel
theorem dX4_fillSetsWith_7 : decode cX4_fillSetsWith 7 = .ok (.if_icmp .ge 67, 3) := by decide +kernel
theorem dX4_fillSetsWith_10 : decode cX4_fillSetsWith 10 = .ok (.aload_n 2, 1) := by decide +kernel
theorem dX4_fillSetsWith_11 : decode cX4_fillSetsWith 11 = .ok (.getfield 79, 3) := by decide +kernel
theorem dX4_fillSetsWith_14 : decode cX4_fillSetsWith 14 = .ok (.iload_n 3, 1) := by decide +kernel
theorem dX4_fillSetsWith_15 : decode cX4_fillSetsWith 15 = .ok (.iaload, 1) := by decide +kernel
theorem dX4_fillSetsWith_16 : decode cX4_fillSetsWith 16 = .ok (.ifCond .ne 52, 3) := by decide +kernel
theorem dX4_fillSetsWith_19 : decode cX4_fillSetsWith 19 = .ok (.aload_n 2, 1) := by decide +kernel
theorem dX4_fillSetsWith_20 : decode cX4_fillSetsWith 20 = .ok (.getfield 82, 3) := by decide +kernel
theorem dX4_fillSetsWith_23 : decode cX4_fillSetsWith 23 = .ok (.iload_n 3, 1) := by decide +kernel
theorem dX4_fillSetsWith_24 : decode cX4_fillSetsWith 24 = .ok (.iaload, 1) := by decide +kernel
theorem dX4_fillSetsWith_25 : decode cX4_fillSetsWith 25 = .ok (.iload_n 1, 1) := by decide +kernel
theorem dX4_fillSetsWith_26 : decode cX4_fillSetsWith 26 = .ok (.invokestatic 68, 3) := by decide +kernel
theorem dX4_fillSetsWith_29 : decode cX4_fillSetsWith 29 = .ok (.ifCond .eq 39, 3) := by decide +kernel
theorem dX4_fillSetsWith_32 : decode cX4_fillSetsWith 32 = .ok (.aload_n 0, 1) := by decide +kernel
theorem dX4_fillSetsWith_33 : decode cX4_fillSetsWith 33 = .ok (.getfield 34, 3) := by decide +kernel
theorem dX4_fillSetsWith_36 : decode cX4_fillSetsWith 36 = .ok (.iload_n 3, 1) := by decide +kernel
theorem dX4_fillSetsWith_37 : decode cX4_fillSetsWith 37 = .ok (.dup2, 1) := by decide +kernel
theorem dX4_fillSetsWith_38 : decode cX4_fillSetsWith 38 = .ok (.iaload, 1) := by decide +kernel
theorem dX4_fillSetsWith_39 : decode cX4_fillSetsWith 39 = .ok (.iconst 1, 1) := by decide +kernel
theorem dX4_fillSetsWith_40 : decode cX4_fillSetsWith 40 = .ok (.iadd, 1) := by decide +kernel
theorem dX4_fillSetsWith_41 : decode cX4_fillSetsWith 41 = .ok (.iastore, 1) := by decide +kernel
theorem dX4_fillSetsWith_42 : decode cX4_fillSetsWith 42 = .ok (.aload_n 0, 1) := by decide +kernel
theorem dX4_fillSetsWith_43 : decode cX4_fillSetsWith 43 = .ok (.getfield 34, 3) := by decide +kernel
theorem dX4_fillSetsWith_46 : decode cX4_fillSetsWith 46 = .ok (.iload_n 3, 1) := by decide +kernel
theorem dX4_fillSetsWith_47 : decode cX4_fillSetsWith 47 = .ok (.iaload, 1) := by decide +kernel
theorem dX4_fillSetsWith_48 : decode cX4_fillSetsWith 48 = .ok (.aload_n 2, 1) := by decide +kernel
theorem dX4_fillSetsWith_49 : decode cX4_fillSetsWith 49 = .ok (.getfield 85, 3) := by decide +kernel
theorem dX4_fillSetsWith_52 : decode cX4_fillSetsWith 52 = .ok (.iload_n 3, 1) := by decide +kernel
theorem dX4_fillSetsWith_53 : decode cX4_fillSetsWith 53 = .ok (.iaload, 1) := by decide +kernel
theorem dX4_fillSetsWith_54 : decode cX4_fillSetsWith 54 = .ok (.if_icmp .ne 14, 3) := by decide +kernel
theorem dX4_fillSetsWith_57 : decode cX4_fillSetsWith 57 = .ok (.aload_n 0, 1) := by decide +kernel
theorem dX4_fillSetsWith_58 : decode cX4_fillSetsWith 58 = .ok (.iload_n 3, 1) := by decide +kernel
theorem dX4_fillSetsWith_59 : decode cX4_fillSetsWith 59 = .ok (.aload_n 2, 1) := by decide +kernel
theorem dX4_fillSetsWith_60 : decode cX4_fillSetsWith 60 = .ok (.getfield 82, 3) := by decide +kernel
theorem dX4_fillSetsWith_63 : decode cX4_fillSetsWith 63 = .ok (.iload_n 3, 1) := by decide +kernel
theorem dX4_fillSetsWith_64 : decode cX4_fillSetsWith 64 = .ok (.iaload, 1) := by decide +kernel
theorem dX4_fillSetsWith_65 : decode cX4_fillSetsWith 65 = .ok (.invokevirtual 88, 3) := by decide +kernel
theorem dX4_fillSetsWith_68 : decode cX4_fillSetsWith 68 = .ok (.iinc 3 1, 3) := by decide +kernel
theorem dX4_fillSetsWith_71 : decode cX4_fillSetsWith 71 = .ok (.goto (-69), 3) := by decide +kernel
theorem dX4_fillSetsWith_74 : decode cX4_fillSetsWith 74 = .ok (.return_, 1) := by decide +kernel
theorem dX4_becomeTight_0 : decode cX4_becomeTight 0 = .ok (.aload_n 0, 1) := by decide +kernel
theorem dX4_becomeTight_1 : decode cX4_becomeTight 1 = .ok (.getfield 24, 3) := by decide +kernel
theorem dX4_becomeTight_4 : decode cX4_becomeTight 4 = .ok (.bipush 14, 2) := by decide +kernel
theorem dX4_becomeTight_6 : decode cX4_becomeTight 6 = .ok (.if_icmp .ge 55, 3) := by decide +kernel
theorem dX4_becomeTight_9 : decode cX4_becomeTight 9 = .ok (.aload_n 0, 1) := by decide +kernel
theorem dX4_becomeTight_10 : decode cX4_becomeTight 10 = .ok (.getfield 40, 3) := by decide +kernel
theorem dX4_becomeTight_13 : decode cX4_becomeTight 13 = .ok (.aload_n 0, 1) := by decide +kernel
theorem dX4_becomeTight_14 : decode cX4_becomeTight 14 = .ok (.getfield 24, 3) := by decide +kernel
theorem dX4_becomeTight_17 : decode cX4_becomeTight 17 = .ok (.iload_n 1, 1) := by decide +kernel
theorem dX4_becomeTight_18 : decode cX4_becomeTight 18 = .ok (.iastore, 1) := by decide +kernel
theorem dX4_becomeTight_19 : decode cX4_becomeTight 19 = .ok (.aload_n 0, 1) := by decide +kernel
theorem dX4_becomeTight_20 : decode cX4_becomeTight 20 = .ok (.getfield 37, 3) := by decide +kernel
theorem dX4_becomeTight_23 : decode cX4_becomeTight 23 = .ok (.iload_n 1, 1) := by decide +kernel
theorem dX4_becomeTight_24 : decode cX4_becomeTight 24 = .ok (.aload_n 0, 1) := by decide +kernel
theorem dX4_becomeTight_25 : decode cX4_becomeTight 25 = .ok (.getfield 24, 3) := by decide +kernel
theorem dX4_becomeTight_28 : decode cX4_becomeTight 28 = .ok (.iastore, 1) := by decide +kernel
theorem dX4_becomeTight_29 : decode cX4_becomeTight 29 = .ok (.aload_n 0, 1) := by decide +kernel
theorem dX4_becomeTight_30 : decode cX4_becomeTight 30 = .ok (.dup, 1) := by decide +kernel
theorem dX4_becomeTight_31 : decode cX4_becomeTight 31 = .ok (.getfield 24, 3) := by decide +kernel
theorem dX4_becomeTight_34 : decode cX4_becomeTight 34 = .ok (.iconst 1, 1) := by decide +kernel
theorem dX4_becomeTight_35 : decode cX4_becomeTight 35 = .ok (.iadd, 1) := by decide +kernel
theorem dX4_becomeTight_36 : decode cX4_becomeTight 36 = .ok (.putfield 24, 3) := by decide +kernel
theorem dX4_becomeTight_39 : decode cX4_becomeTight 39 = .ok (.aload_n 0, 1) := by decide +kernel
theorem dX4_becomeTight_40 : decode cX4_becomeTight 40 = .ok (.dup, 1) := by decide +kernel
theorem dX4_becomeTight_41 : decode cX4_becomeTight 41 = .ok (.getfield 21, 3) := by decide +kernel
theorem dX4_becomeTight_44 : decode cX4_becomeTight 44 = .ok (.iconst 1, 1) := by decide +kernel
theorem dX4_becomeTight_45 : decode cX4_becomeTight 45 = .ok (.iload_n 1, 1) := by decide +kernel
theorem dX4_becomeTight_46 : decode cX4_becomeTight 46 = .ok (.ishl, 1) := by decide +kernel
theorem dX4_becomeTight_47 : decode cX4_becomeTight 47 = .ok (.ior, 1) := by decide +kernel
theorem dX4_becomeTight_48 : decode cX4_becomeTight 48 = .ok (.putfield 21, 3) := by decide +kernel
theorem dX4_becomeTight_51 : decode cX4_becomeTight 51 = .ok (.aload_n 0, 1) := by decide +kernel
theorem dX4_becomeTight_52 : decode cX4_becomeTight 52 = .ok (.dup, 1) := by decide +kernel
theorem dX4_becomeTight_53 : decode cX4_becomeTight 53 = .ok (.getfield 15, 3) := by decide +kernel
theorem dX4_becomeTight_56 : decode cX4_becomeTight 56 = .ok (.iload_n 2, 1) := by decide +kernel
theorem dX4_becomeTight_57 : decode cX4_becomeTight 57 = .ok (.ior, 1) := by decide +kernel
theorem dX4_becomeTight_58 : decode cX4_becomeTight 58 = .ok (.putfield 15, 3) := by decide +kernel
theorem dX4_becomeTight_61 : decode cX4_becomeTight 61 = .ok (.return_, 1) := by decide +kernel
theorem dX4_dropInReverse_0 : decode cX4_dropInReverse 0 = .ok (.aload_n 0, 1) := by decide +kernel
theorem dX4_dropInReverse_1 : decode cX4_dropInReverse 1 = .ok (.getfield 24, 3) := by decide +kernel
theorem dX4_dropInReverse_4 : decode cX4_dropInReverse 4 = .ok (.iconst 1, 1) := by decide +kernel
theorem dX4_dropInReverse_5 : decode cX4_dropInReverse 5 = .ok (.isub, 1) := by decide +kernel
theorem dX4_dropInReverse_6 : decode cX4_dropInReverse 6 = .ok (.istore_n 2, 1) := by decide +kernel
theorem dX4_dropInReverse_7 : decode cX4_dropInReverse 7 = .ok (.iload_n 2, 1) := by decide +kernel
theorem dX4_dropInReverse_8 : decode cX4_dropInReverse 8 = .ok (.ifCond .lt 50, 3) := by decide +kernel
theorem dX4_dropInReverse_11 : decode cX4_dropInReverse 11 = .ok (.aload_n 0, 1) := by decide +kernel
theorem dX4_dropInReverse_12 : decode cX4_dropInReverse 12 = .ok (.getfield 27, 3) := by decide +kernel
theorem dX4_dropInReverse_15 : decode cX4_dropInReverse 15 = .ok (.iconst 1, 1) := by decide +kernel
theorem dX4_dropInReverse_16 : decode cX4_dropInReverse 16 = .ok (.aload_n 0, 1) := by decide +kernel
theorem dX4_dropInReverse_17 : decode cX4_dropInReverse 17 = .ok (.getfield 40, 3) := by decide +kernel
theorem dX4_dropInReverse_20 : decode cX4_dropInReverse 20 = .ok (.iload_n 2, 1) := by decide +kernel
theorem dX4_dropInReverse_21 : decode cX4_dropInReverse 21 = .ok (.iaload, 1) := by decide +kernel
theorem dX4_dropInReverse_22 : decode cX4_dropInReverse 22 = .ok (.ishl, 1) := by decide +kernel
theorem dX4_dropInReverse_23 : decode cX4_dropInReverse 23 = .ok (.ior, 1) := by decide +kernel
theorem dX4_dropInReverse_24 : decode cX4_dropInReverse 24 = .ok (.istore_n 3, 1) := by decide +kernel
theorem dX4_dropInReverse_25 : decode cX4_dropInReverse 25 = .ok (.aload_n 0, 1) := by decide +kernel
theorem dX4_dropInReverse_26 : decode cX4_dropInReverse 26 = .ok (.getfield 9, 3) := by decide +kernel
theorem dX4_dropInReverse_29 : decode cX4_dropInReverse 29 = .ok (.aload_n 1, 1) := by decide +kernel
theorem dX4_dropInReverse_30 : decode cX4_dropInReverse 30 = .ok (.aload_n 0, 1) := by decide +kernel
theorem dX4_dropInReverse_31 : decode cX4_dropInReverse 31 = .ok (.getfield 21, 3) := by decide +kernel
theorem dX4_dropInReverse_34 : decode cX4_dropInReverse 34 = .ok (.iload_n 3, 1) := by decide +kernel
theorem dX4_dropInReverse_35 : decode cX4_dropInReverse 35 = .ok (.iconst (-1), 1) := by decide +kernel
theorem dX4_dropInReverse_36 : decode cX4_dropInReverse 36 = .ok (.ixor, 1) := by decide +kernel
theorem dX4_dropInReverse_37 : decode cX4_dropInReverse 37 = .ok (.iand, 1) := by decide +kernel
theorem dX4_dropInReverse_38 : decode cX4_dropInReverse 38 = .ok (.invokevirtual 92, 3) := by decide +kernel
theorem dX4_dropInReverse_41 : decode cX4_dropInReverse 41 = .ok (.iconst (-1), 1) := by decide +kernel
theorem dX4_dropInReverse_42 : decode cX4_dropInReverse 42 = .ok (.ixor, 1) := by decide +kernel
theorem dX4_dropInReverse_43 : decode cX4_dropInReverse 43 = .ok (.iand, 1) := by decide +kernel
theorem dX4_dropInReverse_44 : decode cX4_dropInReverse 44 = .ok (.ifCond .ne 8, 3) := by decide +kernel
theorem dX4_dropInReverse_47 : decode cX4_dropInReverse 47 = .ok (.aload_n 0, 1) := by decide +kernel
theorem dX4_dropInReverse_48 : decode cX4_dropInReverse 48 = .ok (.iload_n 3, 1) := by decide +kernel
theorem dX4_dropInReverse_49 : decode cX4_dropInReverse 49 = .ok (.putfield 27, 3) := by decide +kernel
theorem dX4_dropInReverse_52 : decode cX4_dropInReverse 52 = .ok (.iinc 2 (-1), 3) := by decide +kernel
theorem dX4_dropInReverse_55 : decode cX4_dropInReverse 55 = .ok (.goto (-48), 3) := by decide +kernel
theorem dX4_dropInReverse_58 : decode cX4_dropInReverse 58 = .ok (.return_, 1) := by decide +kernel
theorem dX4_sum_0 : decode cX4_sum 0 = .ok (.iconst 0, 1) := by decide +kernel
theorem dX4_sum_1 : decode cX4_sum 1 = .ok (.istore_n 1, 1) := by decide +kernel
theorem dX4_sum_2 : decode cX4_sum 2 = .ok (.iconst 0, 1) := by decide +kernel
theorem dX4_sum_3 : decode cX4_sum 3 = .ok (.istore_n 2, 1) := by decide +kernel
theorem dX4_sum_4 : decode cX4_sum 4 = .ok (.iload_n 2, 1) := by decide +kernel
theorem dX4_sum_5 : decode cX4_sum 5 = .ok (.bipush 18, 2) := by decide +kernel
theorem dX4_sum_7 : decode cX4_sum 7 = .ok (.if_icmp .ge 18, 3) := by decide +kernel
theorem dX4_sum_10 : decode cX4_sum 10 = .ok (.iload_n 1, 1) := by decide +kernel
theorem dX4_sum_11 : decode cX4_sum 11 = .ok (.aload_n 0, 1) := by decide +kernel
theorem dX4_sum_12 : decode cX4_sum 12 = .ok (.getfield 30, 3) := by decide +kernel
theorem dX4_sum_15 : decode cX4_sum 15 = .ok (.iload_n 2, 1) := by decide +kernel
theorem dX4_sum_16 : decode cX4_sum 16 = .ok (.iaload, 1) := by decide +kernel
theorem dX4_sum_17 : decode cX4_sum 17 = .ok (.iadd, 1) := by decide +kernel
theorem dX4_sum_18 : decode cX4_sum 18 = .ok (.istore_n 1, 1) := by decide +kernel
theorem dX4_sum_19 : decode cX4_sum 19 = .ok (.iinc 2 1, 3) := by decide +kernel
theorem dX4_sum_22 : decode cX4_sum 22 = .ok (.goto (-18), 3) := by decide +kernel
theorem dX4_sum_25 : decode cX4_sum 25 = .ok (.iload_n 1, 1) := by decide +kernel
theorem dX4_sum_26 : decode cX4_sum 26 = .ok (.ireturn, 1) := by decide +kernel
theorem dX5_init_0 : decode cX5_init 0 = .ok (.aload_n 0, 1) := by decide +kernel
theorem dX5_init_1 : decode cX5_init 1 = .ok (.invokespecial 3, 3) := by decide +kernel
theorem dX5_init_4 : decode cX5_init 4 = .ok (.aload_n 0, 1) := by decide +kernel
theorem dX5_init_5 : decode cX5_init 5 = .ok (.iconst 2, 1) := by decide +kernel
theorem dX5_init_6 : decode cX5_init 6 = .ok (.anewarray 9, 3) := by decide +kernel
theorem dX5_init_9 : decode cX5_init 9 = .ok (.putfield 11, 3) := by decide +kernel
theorem dX5_init_12 : decode cX5_init 12 = .ok (.aload_n 0, 1) := by decide +kernel
theorem dX5_init_13 : decode cX5_init 13 = .ok (.iconst 2, 1) := by decide +kernel
theorem dX5_init_14 : decode cX5_init 14 = .ok (.newarray .boolean, 2) := by decide +kernel
theorem dX5_init_16 : decode cX5_init 16 = .ok (.putfield 17, 3) := by decide +kernel
theorem dX5_init_19 : decode cX5_init 19 = .ok (.iconst 0, 1) := by decide +kernel
theorem dX5_init_20 : decode cX5_init 20 = .ok (.istore_n 1, 1) := by decide +kernel
theorem dX5_init_21 : decode cX5_init 21 = .ok (.iload_n 1, 1) := by decide +kernel
theorem dX5_init_22 : decode cX5_init 22 = .ok (.iconst 2, 1) := by decide +kernel
theorem dX5_init_23 : decode cX5_init 23 = .ok (.if_icmp .ge 22, 3) := by decide +kernel
theorem dX5_init_26 : decode cX5_init 26 = .ok (.aload_n 0, 1) := by decide +kernel
theorem dX5_init_27 : decode cX5_init 27 = .ok (.getfield 11, 3) := by decide +kernel
theorem dX5_init_30 : decode cX5_init 30 = .ok (.iload_n 1, 1) := by decide +kernel
theorem dX5_init_31 : decode cX5_init 31 = .ok (.new 9, 3) := by decide +kernel
theorem dX5_init_34 : decode cX5_init 34 = .ok (.dup, 1) := by decide +kernel
theorem dX5_init_35 : decode cX5_init 35 = .ok (.invokespecial 21, 3) := by decide +kernel
theorem dX5_init_38 : decode cX5_init 38 = .ok (.aastore, 1) := by decide +kernel
theorem dX5_init_39 : decode cX5_init 39 = .ok (.iinc 1 1, 3) := by decide +kernel
theorem dX5_init_42 : decode cX5_init 42 = .ok (.goto (-21), 3) := by decide +kernel
theorem dX5_init_45 : decode cX5_init 45 = .ok (.return_, 1) := by decide +kernel
theorem dX5_isKept_0 : decode cX5_isKept 0 = .ok (.iload_n 1, 1) := by decide +kernel
theorem dX5_isKept_1 : decode cX5_isKept 1 = .ok (.ifCond .lt 21, 3) := by decide +kernel
theorem dX5_isKept_4 : decode cX5_isKept 4 = .ok (.iload_n 1, 1) := by decide +kernel
theorem dX5_isKept_5 : decode cX5_isKept 5 = .ok (.iconst 2, 1) := by decide +kernel
theorem dX5_isKept_6 : decode cX5_isKept 6 = .ok (.if_icmp .ge 16, 3) := by decide +kernel
theorem dX5_isKept_9 : decode cX5_isKept 9 = .ok (.aload_n 0, 1) := by decide +kernel
theorem dX5_isKept_10 : decode cX5_isKept 10 = .ok (.getfield 17, 3) := by decide +kernel
theorem dX5_isKept_13 : decode cX5_isKept 13 = .ok (.iload_n 1, 1) := by decide +kernel
theorem dX5_isKept_14 : decode cX5_isKept 14 = .ok (.baload, 1) := by decide +kernel
theorem dX5_isKept_15 : decode cX5_isKept 15 = .ok (.ifCond .eq 7, 3) := by decide +kernel
theorem dX5_isKept_18 : decode cX5_isKept 18 = .ok (.iconst 1, 1) := by decide +kernel
theorem dX5_isKept_19 : decode cX5_isKept 19 = .ok (.goto 4, 3) := by decide +kernel
theorem dX5_isKept_22 : decode cX5_isKept 22 = .ok (.iconst 0, 1) := by decide +kernel
theorem dX5_isKept_23 : decode cX5_isKept 23 = .ok (.ireturn, 1) := by decide +kernel
theorem dX5_keep_0 : decode cX5_keep 0 = .ok (.iload_n 1, 1) := by decide +kernel
theorem dX5_keep_1 : decode cX5_keep 1 = .ok (.ifCond .lt 25, 3) := by decide +kernel
theorem dX5_keep_4 : decode cX5_keep 4 = .ok (.iload_n 1, 1) := by decide +kernel
theorem dX5_keep_5 : decode cX5_keep 5 = .ok (.iconst 2, 1) := by decide +kernel
theorem dX5_keep_6 : decode cX5_keep 6 = .ok (.if_icmp .ge 20, 3) := by decide +kernel
theorem dX5_keep_9 : decode cX5_keep 9 = .ok (.aload_n 0, 1) := by decide +kernel
theorem dX5_keep_10 : decode cX5_keep 10 = .ok (.getfield 11, 3) := by decide +kernel
theorem dX5_keep_13 : decode cX5_keep 13 = .ok (.iload_n 1, 1) := by decide +kernel
theorem dX5_keep_14 : decode cX5_keep 14 = .ok (.aaload, 1) := by decide +kernel
theorem dX5_keep_15 : decode cX5_keep 15 = .ok (.aload_n 2, 1) := by decide +kernel
theorem dX5_keep_16 : decode cX5_keep 16 = .ok (.invokevirtual 22, 3) := by decide +kernel
theorem dX5_keep_19 : decode cX5_keep 19 = .ok (.aload_n 0, 1) := by decide +kernel
theorem dX5_keep_20 : decode cX5_keep 20 = .ok (.getfield 17, 3) := by decide +kernel
theorem dX5_keep_23 : decode cX5_keep 23 = .ok (.iload_n 1, 1) := by decide +kernel
theorem dX5_keep_24 : decode cX5_keep 24 = .ok (.iconst 1, 1) := by decide +kernel
theorem dX5_keep_25 : decode cX5_keep 25 = .ok (.bastore, 1) := by decide +kernel
theorem dX5_keep_26 : decode cX5_keep 26 = .ok (.return_, 1) := by decide +kernel
theorem dX5_copyTo_0 : decode cX5_copyTo 0 = .ok (.aload_n 0, 1) := by decide +kernel
theorem dX5_copyTo_1 : decode cX5_copyTo 1 = .ok (.iload_n 1, 1) := by decide +kernel
theorem dX5_copyTo_2 : decode cX5_copyTo 2 = .ok (.invokevirtual 26, 3) := by decide +kernel
theorem dX5_copyTo_5 : decode cX5_copyTo 5 = .ok (.ifCond .eq 13, 3) := by decide +kernel
theorem dX5_copyTo_8 : decode cX5_copyTo 8 = .ok (.aload_n 2, 1) := by decide +kernel
theorem dX5_copyTo_9 : decode cX5_copyTo 9 = .ok (.aload_n 0, 1) := by decide +kernel
theorem dX5_copyTo_10 : decode cX5_copyTo 10 = .ok (.getfield 11, 3) := by decide +kernel
theorem dX5_copyTo_13 : decode cX5_copyTo 13 = .ok (.iload_n 1, 1) := by decide +kernel
theorem dX5_copyTo_14 : decode cX5_copyTo 14 = .ok (.aaload, 1) := by decide +kernel
theorem dX5_copyTo_15 : decode cX5_copyTo 15 = .ok (.invokevirtual 22, 3) := by decide +kernel
theorem dX5_copyTo_18 : decode cX5_copyTo 18 = .ok (.return_, 1) := by decide +kernel
theorem dX6_init_0 : decode cX6_init 0 = .ok (.aload_n 0, 1) := by decide +kernel
theorem dX6_init_1 : decode cX6_init 1 = .ok (.invokespecial 3, 3) := by decide +kernel
theorem dX6_init_4 : decode cX6_init 4 = .ok (.aload_n 0, 1) := by decide +kernel
theorem dX6_init_5 : decode cX6_init 5 = .ok (.iconst 0, 1) := by decide +kernel
theorem dX6_init_6 : decode cX6_init 6 = .ok (.putfield 9, 3) := by decide +kernel
theorem dX6_init_9 : decode cX6_init 9 = .ok (.aload_n 0, 1) := by decide +kernel
theorem dX6_init_10 : decode cX6_init 10 = .ok (.iconst 0, 1) := by decide +kernel
theorem dX6_init_11 : decode cX6_init 11 = .ok (.putfield 15, 3) := by decide +kernel
theorem dX6_init_14 : decode cX6_init 14 = .ok (.aload_n 0, 1) := by decide +kernel
theorem dX6_init_15 : decode cX6_init 15 = .ok (.bipush 14, 2) := by decide +kernel
theorem dX6_init_17 : decode cX6_init 17 = .ok (.newarray .int, 2) := by decide +kernel
theorem dX6_init_19 : decode cX6_init 19 = .ok (.putfield 18, 3) := by decide +kernel
theorem dX6_init_22 : decode cX6_init 22 = .ok (.aload_n 0, 1) := by decide +kernel
theorem dX6_init_23 : decode cX6_init 23 = .ok (.bipush 14, 2) := by decide +kernel
theorem dX6_init_25 : decode cX6_init 25 = .ok (.newarray .int, 2) := by decide +kernel
theorem dX6_init_27 : decode cX6_init 27 = .ok (.putfield 22, 3) := by decide +kernel
theorem dX6_init_30 : decode cX6_init 30 = .ok (.aload_n 0, 1) := by decide +kernel
theorem dX6_init_31 : decode cX6_init 31 = .ok (.bipush 14, 2) := by decide +kernel
theorem dX6_init_33 : decode cX6_init 33 = .ok (.newarray .int, 2) := by decide +kernel
theorem dX6_init_35 : decode cX6_init 35 = .ok (.putfield 25, 3) := by decide +kernel
theorem dX6_init_38 : decode cX6_init 38 = .ok (.return_, 1) := by decide +kernel
theorem dX6_copyFrom_0 : decode cX6_copyFrom 0 = .ok (.aload_n 0, 1) := by decide +kernel
theorem dX6_copyFrom_1 : decode cX6_copyFrom 1 = .ok (.aload_n 1, 1) := by decide +kernel
theorem dX6_copyFrom_2 : decode cX6_copyFrom 2 = .ok (.getfield 9, 3) := by decide +kernel
theorem dX6_copyFrom_5 : decode cX6_copyFrom 5 = .ok (.putfield 9, 3) := by decide +kernel
theorem dX6_copyFrom_8 : decode cX6_copyFrom 8 = .ok (.aload_n 0, 1) := by decide +kernel
theorem dX6_copyFrom_9 : decode cX6_copyFrom 9 = .ok (.aload_n 1, 1) := by decide +kernel
theorem dX6_copyFrom_10 : decode cX6_copyFrom 10 = .ok (.getfield 15, 3) := by decide +kernel
theorem dX6_copyFrom_13 : decode cX6_copyFrom 13 = .ok (.putfield 15, 3) := by decide +kernel
theorem dX6_copyFrom_16 : decode cX6_copyFrom 16 = .ok (.iconst 0, 1) := by decide +kernel
theorem dX6_copyFrom_17 : decode cX6_copyFrom 17 = .ok (.istore_n 2, 1) := by decide +kernel
theorem dX6_copyFrom_18 : decode cX6_copyFrom 18 = .ok (.iload_n 2, 1) := by decide +kernel
theorem dX6_copyFrom_19 : decode cX6_copyFrom 19 = .ok (.bipush 14, 2) := by decide +kernel
theorem dX6_copyFrom_21 : decode cX6_copyFrom 21 = .ok (.if_icmp .ge 45, 3) := by decide +kernel
theorem dX6_copyFrom_24 : decode cX6_copyFrom 24 = .ok (.aload_n 0, 1) := by decide +kernel
theorem dX6_copyFrom_25 : decode cX6_copyFrom 25 = .ok (.getfield 18, 3) := by decide +kernel
theorem dX6_copyFrom_28 : decode cX6_copyFrom 28 = .ok (.iload_n 2, 1) := by decide +kernel
theorem dX6_copyFrom_29 : decode cX6_copyFrom 29 = .ok (.aload_n 1, 1) := by decide +kernel
theorem dX6_copyFrom_30 : decode cX6_copyFrom 30 = .ok (.getfield 18, 3) := by decide +kernel
theorem dX6_copyFrom_33 : decode cX6_copyFrom 33 = .ok (.iload_n 2, 1) := by decide +kernel
theorem dX6_copyFrom_34 : decode cX6_copyFrom 34 = .ok (.iaload, 1) := by decide +kernel
theorem dX6_copyFrom_35 : decode cX6_copyFrom 35 = .ok (.iastore, 1) := by decide +kernel
theorem dX6_copyFrom_36 : decode cX6_copyFrom 36 = .ok (.aload_n 0, 1) := by decide +kernel
theorem dX6_copyFrom_37 : decode cX6_copyFrom 37 = .ok (.getfield 22, 3) := by decide +kernel
theorem dX6_copyFrom_40 : decode cX6_copyFrom 40 = .ok (.iload_n 2, 1) := by decide +kernel
theorem dX6_copyFrom_41 : decode cX6_copyFrom 41 = .ok (.aload_n 1, 1) := by decide +kernel
theorem dX6_copyFrom_42 : decode cX6_copyFrom 42 = .ok (.getfield 22, 3) := by decide +kernel
theorem dX6_copyFrom_45 : decode cX6_copyFrom 45 = .ok (.iload_n 2, 1) := by decide +kernel
theorem dX6_copyFrom_46 : decode cX6_copyFrom 46 = .ok (.iaload, 1) := by decide +kernel
theorem dX6_copyFrom_47 : decode cX6_copyFrom 47 = .ok (.iastore, 1) := by decide +kernel
theorem dX6_copyFrom_48 : decode cX6_copyFrom 48 = .ok (.aload_n 0, 1) := by decide +kernel
theorem dX6_copyFrom_49 : decode cX6_copyFrom 49 = .ok (.getfield 25, 3) := by decide +kernel
theorem dX6_copyFrom_52 : decode cX6_copyFrom 52 = .ok (.iload_n 2, 1) := by decide +kernel
theorem dX6_copyFrom_53 : decode cX6_copyFrom 53 = .ok (.aload_n 1, 1) := by decide +kernel
theorem dX6_copyFrom_54 : decode cX6_copyFrom 54 = .ok (.getfield 25, 3) := by decide +kernel
theorem dX6_copyFrom_57 : decode cX6_copyFrom 57 = .ok (.iload_n 2, 1) := by decide +kernel
theorem dX6_copyFrom_58 : decode cX6_copyFrom 58 = .ok (.iaload, 1) := by decide +kernel
theorem dX6_copyFrom_59 : decode cX6_copyFrom 59 = .ok (.iastore, 1) := by decide +kernel
theorem dX6_copyFrom_60 : decode cX6_copyFrom 60 = .ok (.iinc 2 1, 3) := by decide +kernel
theorem dX6_copyFrom_63 : decode cX6_copyFrom 63 = .ok (.goto (-45), 3) := by decide +kernel
theorem dX6_copyFrom_66 : decode cX6_copyFrom 66 = .ok (.return_, 1) := by decide +kernel
theorem dX6_hasSet_0 : decode cX6_hasSet 0 = .ok (.iload_n 1, 1) := by decide +kernel
theorem dX6_hasSet_1 : decode cX6_hasSet 1 = .ok (.ifCond .lt 15, 3) := by decide +kernel
theorem dX6_hasSet_4 : decode cX6_hasSet 4 = .ok (.iload_n 1, 1) := by decide +kernel
theorem dX6_hasSet_5 : decode cX6_hasSet 5 = .ok (.aload_n 0, 1) := by decide +kernel
theorem dX6_hasSet_6 : decode cX6_hasSet 6 = .ok (.getfield 15, 3) := by decide +kernel
theorem dX6_hasSet_9 : decode cX6_hasSet 9 = .ok (.if_icmp .ge 7, 3) := by decide +kernel
theorem dX6_hasSet_12 : decode cX6_hasSet 12 = .ok (.iconst 1, 1) := by decide +kernel
theorem dX6_hasSet_13 : decode cX6_hasSet 13 = .ok (.goto 4, 3) := by decide +kernel
theorem dX6_hasSet_16 : decode cX6_hasSet 16 = .ok (.iconst 0, 1) := by decide +kernel
theorem dX6_hasSet_17 : decode cX6_hasSet 17 = .ok (.ireturn, 1) := by decide +kernel
theorem dX6_append_0 : decode cX6_append 0 = .ok (.aload_n 0, 1) := by decide +kernel
theorem dX6_append_1 : decode cX6_append 1 = .ok (.getfield 15, 3) := by decide +kernel
theorem dX6_append_4 : decode cX6_append 4 = .ok (.bipush 14, 2) := by decide +kernel
theorem dX6_append_6 : decode cX6_append 6 = .ok (.if_icmp .lt 4, 3) := by decide +kernel
theorem dX6_append_9 : decode cX6_append 9 = .ok (.return_, 1) := by decide +kernel
theorem dX6_append_10 : decode cX6_append 10 = .ok (.aload_n 0, 1) := by decide +kernel
theorem dX6_append_11 : decode cX6_append 11 = .ok (.getfield 18, 3) := by decide +kernel
theorem dX6_append_14 : decode cX6_append 14 = .ok (.aload_n 0, 1) := by decide +kernel
theorem dX6_append_15 : decode cX6_append 15 = .ok (.getfield 15, 3) := by decide +kernel
theorem dX6_append_18 : decode cX6_append 18 = .ok (.iload_n 1, 1) := by decide +kernel
theorem dX6_append_19 : decode cX6_append 19 = .ok (.iastore, 1) := by decide +kernel
theorem dX6_append_20 : decode cX6_append 20 = .ok (.aload_n 0, 1) := by decide +kernel
theorem dX6_append_21 : decode cX6_append 21 = .ok (.getfield 22, 3) := by decide +kernel
theorem dX6_append_24 : decode cX6_append 24 = .ok (.aload_n 0, 1) := by decide +kernel
theorem dX6_append_25 : decode cX6_append 25 = .ok (.getfield 15, 3) := by decide +kernel
theorem dX6_append_28 : decode cX6_append 28 = .ok (.iload_n 2, 1) := by decide +kernel
theorem dX6_append_29 : decode cX6_append 29 = .ok (.iastore, 1) := by decide +kernel
theorem dX6_append_30 : decode cX6_append 30 = .ok (.aload_n 0, 1) := by decide +kernel
theorem dX6_append_31 : decode cX6_append 31 = .ok (.getfield 25, 3) := by decide +kernel
theorem dX6_append_34 : decode cX6_append 34 = .ok (.aload_n 0, 1) := by decide +kernel
theorem dX6_append_35 : decode cX6_append 35 = .ok (.getfield 15, 3) := by decide +kernel
theorem dX6_append_38 : decode cX6_append 38 = .ok (.iconst 0, 1) := by decide +kernel
theorem dX6_append_39 : decode cX6_append 39 = .ok (.iastore, 1) := by decide +kernel
theorem dX6_append_40 : decode cX6_append 40 = .ok (.aload_n 0, 1) := by decide +kernel
theorem dX6_append_41 : decode cX6_append 41 = .ok (.dup, 1) := by decide +kernel
theorem dX6_append_42 : decode cX6_append 42 = .ok (.getfield 15, 3) := by decide +kernel
theorem dX6_append_45 : decode cX6_append 45 = .ok (.iconst 1, 1) := by decide +kernel
theorem dX6_append_46 : decode cX6_append 46 = .ok (.iadd, 1) := by decide +kernel
theorem dX6_append_47 : decode cX6_append 47 = .ok (.putfield 15, 3) := by decide +kernel
theorem dX6_append_50 : decode cX6_append 50 = .ok (.return_, 1) := by decide +kernel
theorem dX6_remove_0 : decode cX6_remove 0 = .ok (.iload_n 1, 1) := by decide +kernel
theorem dX6_remove_1 : decode cX6_remove 1 = .ok (.iconst 1, 1) := by decide +kernel
theorem dX6_remove_2 : decode cX6_remove 2 = .ok (.iadd, 1) := by decide +kernel
theorem dX6_remove_3 : decode cX6_remove 3 = .ok (.istore_n 2, 1) := by decide +kernel
theorem dX6_remove_4 : decode cX6_remove 4 = .ok (.iload_n 2, 1) := by decide +kernel
theorem dX6_remove_5 : decode cX6_remove 5 = .ok (.aload_n 0, 1) := by decide +kernel
theorem dX6_remove_6 : decode cX6_remove 6 = .ok (.getfield 15, 3) := by decide +kernel
theorem dX6_remove_9 : decode cX6_remove 9 = .ok (.if_icmp .ge 51, 3) := by decide +kernel
theorem dX6_remove_12 : decode cX6_remove 12 = .ok (.aload_n 0, 1) := by decide +kernel
theorem dX6_remove_13 : decode cX6_remove 13 = .ok (.getfield 18, 3) := by decide +kernel
theorem dX6_remove_16 : decode cX6_remove 16 = .ok (.iload_n 2, 1) := by decide +kernel
theorem dX6_remove_17 : decode cX6_remove 17 = .ok (.iconst 1, 1) := by decide +kernel
theorem dX6_remove_18 : decode cX6_remove 18 = .ok (.isub, 1) := by decide +kernel
theorem dX6_remove_19 : decode cX6_remove 19 = .ok (.aload_n 0, 1) := by decide +kernel
theorem dX6_remove_20 : decode cX6_remove 20 = .ok (.getfield 18, 3) := by decide +kernel
theorem dX6_remove_23 : decode cX6_remove 23 = .ok (.iload_n 2, 1) := by decide +kernel
theorem dX6_remove_24 : decode cX6_remove 24 = .ok (.iaload, 1) := by decide +kernel
theorem dX6_remove_25 : decode cX6_remove 25 = .ok (.iastore, 1) := by decide +kernel
theorem dX6_remove_26 : decode cX6_remove 26 = .ok (.aload_n 0, 1) := by decide +kernel
theorem dX6_remove_27 : decode cX6_remove 27 = .ok (.getfield 22, 3) := by decide +kernel
theorem dX6_remove_30 : decode cX6_remove 30 = .ok (.iload_n 2, 1) := by decide +kernel
theorem dX6_remove_31 : decode cX6_remove 31 = .ok (.iconst 1, 1) := by decide +kernel
theorem dX6_remove_32 : decode cX6_remove 32 = .ok (.isub, 1) := by decide +kernel
theorem dX6_remove_33 : decode cX6_remove 33 = .ok (.aload_n 0, 1) := by decide +kernel
theorem dX6_remove_34 : decode cX6_remove 34 = .ok (.getfield 22, 3) := by decide +kernel
theorem dX6_remove_37 : decode cX6_remove 37 = .ok (.iload_n 2, 1) := by decide +kernel
theorem dX6_remove_38 : decode cX6_remove 38 = .ok (.iaload, 1) := by decide +kernel
theorem dX6_remove_39 : decode cX6_remove 39 = .ok (.iastore, 1) := by decide +kernel
theorem dX6_remove_40 : decode cX6_remove 40 = .ok (.aload_n 0, 1) := by decide +kernel
theorem dX6_remove_41 : decode cX6_remove 41 = .ok (.getfield 25, 3) := by decide +kernel
theorem dX6_remove_44 : decode cX6_remove 44 = .ok (.iload_n 2, 1) := by decide +kernel
theorem dX6_remove_45 : decode cX6_remove 45 = .ok (.iconst 1, 1) := by decide +kernel
theorem dX6_remove_46 : decode cX6_remove 46 = .ok (.isub, 1) := by decide +kernel
theorem dX6_remove_47 : decode cX6_remove 47 = .ok (.aload_n 0, 1) := by decide +kernel
theorem dX6_remove_48 : decode cX6_remove 48 = .ok (.getfield 25, 3) := by decide +kernel
theorem dX6_remove_51 : decode cX6_remove 51 = .ok (.iload_n 2, 1) := by decide +kernel
theorem dX6_remove_52 : decode cX6_remove 52 = .ok (.iaload, 1) := by decide +kernel
theorem dX6_remove_53 : decode cX6_remove 53 = .ok (.iastore, 1) := by decide +kernel
theorem dX6_remove_54 : decode cX6_remove 54 = .ok (.iinc 2 1, 3) := by decide +kernel
theorem dX6_remove_57 : decode cX6_remove 57 = .ok (.goto (-53), 3) := by decide +kernel
theorem dX6_remove_60 : decode cX6_remove 60 = .ok (.aload_n 0, 1) := by decide +kernel
theorem dX6_remove_61 : decode cX6_remove 61 = .ok (.dup, 1) := by decide +kernel
theorem dX6_remove_62 : decode cX6_remove 62 = .ok (.getfield 15, 3) := by decide +kernel
theorem dX6_remove_65 : decode cX6_remove 65 = .ok (.iconst 1, 1) := by decide +kernel
theorem dX6_remove_66 : decode cX6_remove 66 = .ok (.isub, 1) := by decide +kernel
theorem dX6_remove_67 : decode cX6_remove 67 = .ok (.putfield 15, 3) := by decide +kernel
theorem dX6_remove_70 : decode cX6_remove 70 = .ok (.return_, 1) := by decide +kernel
theorem dX6_marked_0 : decode cX6_marked 0 = .ok (.iconst 0, 1) := by decide +kernel
theorem dX6_marked_1 : decode cX6_marked 1 = .ok (.istore_n 2, 1) := by decide +kernel
theorem dX6_marked_2 : decode cX6_marked 2 = .ok (.iconst 0, 1) := by decide +kernel
theorem dX6_marked_3 : decode cX6_marked 3 = .ok (.istore_n 3, 1) := by decide +kernel
theorem dX6_marked_4 : decode cX6_marked 4 = .ok (.iload_n 3, 1) := by decide +kernel
theorem dX6_marked_5 : decode cX6_marked 5 = .ok (.aload_n 0, 1) := by decide +kernel
theorem dX6_marked_6 : decode cX6_marked 6 = .ok (.getfield 15, 3) := by decide +kernel
theorem dX6_marked_9 : decode cX6_marked 9 = .ok (.if_icmp .ge 25, 3) := by decide +kernel
theorem dX6_marked_12 : decode cX6_marked 12 = .ok (.aload_n 0, 1) := by decide +kernel
theorem dX6_marked_13 : decode cX6_marked 13 = .ok (.getfield 25, 3) := by decide +kernel
theorem dX6_marked_16 : decode cX6_marked 16 = .ok (.iload_n 3, 1) := by decide +kernel
theorem dX6_marked_17 : decode cX6_marked 17 = .ok (.iaload, 1) := by decide +kernel
theorem dX6_marked_18 : decode cX6_marked 18 = .ok (.iload_n 1, 1) := by decide +kernel
theorem dX6_marked_19 : decode cX6_marked 19 = .ok (.if_icmp .ne 9, 3) := by decide +kernel
theorem dX6_marked_22 : decode cX6_marked 22 = .ok (.iload_n 2, 1) := by decide +kernel
theorem dX6_marked_23 : decode cX6_marked 23 = .ok (.iconst 1, 1) := by decide +kernel
theorem dX6_marked_24 : decode cX6_marked 24 = .ok (.iload_n 3, 1) := by decide +kernel
theorem dX6_marked_25 : decode cX6_marked 25 = .ok (.ishl, 1) := by decide +kernel
theorem dX6_marked_26 : decode cX6_marked 26 = .ok (.ior, 1) := by decide +kernel
theorem dX6_marked_27 : decode cX6_marked 27 = .ok (.istore_n 2, 1) := by decide +kernel
theorem dX6_marked_28 : decode cX6_marked 28 = .ok (.iinc 3 1, 3) := by decide +kernel
theorem dX6_marked_31 : decode cX6_marked 31 = .ok (.goto (-27), 3) := by decide +kernel
theorem dX6_marked_34 : decode cX6_marked 34 = .ok (.iload_n 2, 1) := by decide +kernel
theorem dX6_marked_35 : decode cX6_marked 35 = .ok (.ireturn, 1) := by decide +kernel
theorem dX6_notBarred_0 : decode cX6_notBarred 0 = .ok (.aload_n 0, 1) := by decide +kernel
theorem dX6_notBarred_1 : decode cX6_notBarred 1 = .ok (.iconst 0, 1) := by decide +kernel
theorem dX6_notBarred_2 : decode cX6_notBarred 2 = .ok (.invokevirtual 28, 3) := by decide +kernel
theorem dX6_notBarred_5 : decode cX6_notBarred 5 = .ok (.aload_n 0, 1) := by decide +kernel
theorem dX6_notBarred_6 : decode cX6_notBarred 6 = .ok (.iconst 1, 1) := by decide +kernel
theorem dX6_notBarred_7 : decode cX6_notBarred 7 = .ok (.invokevirtual 28, 3) := by decide +kernel
theorem dX6_notBarred_10 : decode cX6_notBarred 10 = .ok (.ior, 1) := by decide +kernel
theorem dX6_notBarred_11 : decode cX6_notBarred 11 = .ok (.ireturn, 1) := by decide +kernel
theorem dX6_setsWith_0 : decode cX6_setsWith 0 = .ok (.iconst 0, 1) := by decide +kernel
theorem dX6_setsWith_1 : decode cX6_setsWith 1 = .ok (.istore_n 2, 1) := by decide +kernel
theorem dX6_setsWith_2 : decode cX6_setsWith 2 = .ok (.iconst 0, 1) := by decide +kernel
theorem dX6_setsWith_3 : decode cX6_setsWith 3 = .ok (.istore_n 3, 1) := by decide +kernel
theorem dX6_setsWith_4 : decode cX6_setsWith 4 = .ok (.iload_n 3, 1) := by decide +kernel
theorem dX6_setsWith_5 : decode cX6_setsWith 5 = .ok (.aload_n 0, 1) := by decide +kernel
theorem dX6_setsWith_6 : decode cX6_setsWith 6 = .ok (.getfield 15, 3) := by decide +kernel
theorem dX6_setsWith_9 : decode cX6_setsWith 9 = .ok (.if_icmp .ge 28, 3) := by decide +kernel
theorem dX6_setsWith_12 : decode cX6_setsWith 12 = .ok (.aload_n 0, 1) := by decide +kernel
theorem dX6_setsWith_13 : decode cX6_setsWith 13 = .ok (.getfield 18, 3) := by decide +kernel
theorem dX6_setsWith_16 : decode cX6_setsWith 16 = .ok (.iload_n 3, 1) := by decide +kernel
theorem dX6_setsWith_17 : decode cX6_setsWith 17 = .ok (.iaload, 1) := by decide +kernel
theorem dX6_setsWith_18 : decode cX6_setsWith 18 = .ok (.iload_n 1, 1) := by decide +kernel
theorem dX6_setsWith_19 : decode cX6_setsWith 19 = .ok (.invokestatic 32, 3) := by decide +kernel
theorem dX6_setsWith_22 : decode cX6_setsWith 22 = .ok (.ifCond .eq 9, 3) := by decide +kernel
theorem dX6_setsWith_25 : decode cX6_setsWith 25 = .ok (.iload_n 2, 1) := by decide +kernel
theorem dX6_setsWith_26 : decode cX6_setsWith 26 = .ok (.iconst 1, 1) := by decide +kernel
theorem dX6_setsWith_27 : decode cX6_setsWith 27 = .ok (.iload_n 3, 1) := by decide +kernel
theorem dX6_setsWith_28 : decode cX6_setsWith 28 = .ok (.ishl, 1) := by decide +kernel
theorem dX6_setsWith_29 : decode cX6_setsWith 29 = .ok (.ior, 1) := by decide +kernel
theorem dX6_setsWith_30 : decode cX6_setsWith 30 = .ok (.istore_n 2, 1) := by decide +kernel
theorem dX6_setsWith_31 : decode cX6_setsWith 31 = .ok (.iinc 3 1, 3) := by decide +kernel
theorem dX6_setsWith_34 : decode cX6_setsWith 34 = .ok (.goto (-30), 3) := by decide +kernel
theorem dX6_setsWith_37 : decode cX6_setsWith 37 = .ok (.iload_n 2, 1) := by decide +kernel
theorem dX6_setsWith_38 : decode cX6_setsWith 38 = .ok (.ireturn, 1) := by decide +kernel
theorem dX6_thingsOf_0 : decode cX6_thingsOf 0 = .ok (.iconst 0, 1) := by decide +kernel
theorem dX6_thingsOf_1 : decode cX6_thingsOf 1 = .ok (.istore_n 2, 1) := by decide +kernel
theorem dX6_thingsOf_2 : decode cX6_thingsOf 2 = .ok (.iconst 0, 1) := by decide +kernel
theorem dX6_thingsOf_3 : decode cX6_thingsOf 3 = .ok (.istore_n 3, 1) := by decide +kernel
theorem dX6_thingsOf_4 : decode cX6_thingsOf 4 = .ok (.iload_n 3, 1) := by decide +kernel
theorem dX6_thingsOf_5 : decode cX6_thingsOf 5 = .ok (.aload_n 0, 1) := by decide +kernel
theorem dX6_thingsOf_6 : decode cX6_thingsOf 6 = .ok (.getfield 15, 3) := by decide +kernel
theorem dX6_thingsOf_9 : decode cX6_thingsOf 9 = .ok (.if_icmp .ge 26, 3) := by decide +kernel
theorem dX6_thingsOf_12 : decode cX6_thingsOf 12 = .ok (.iload_n 1, 1) := by decide +kernel
theorem dX6_thingsOf_13 : decode cX6_thingsOf 13 = .ok (.iload_n 3, 1) := by decide +kernel
theorem dX6_thingsOf_14 : decode cX6_thingsOf 14 = .ok (.invokestatic 32, 3) := by decide +kernel
theorem dX6_thingsOf_17 : decode cX6_thingsOf 17 = .ok (.ifCond .eq 12, 3) := by decide +kernel
theorem dX6_thingsOf_20 : decode cX6_thingsOf 20 = .ok (.iload_n 2, 1) := by decide +kernel
theorem dX6_thingsOf_21 : decode cX6_thingsOf 21 = .ok (.aload_n 0, 1) := by decide +kernel
theorem dX6_thingsOf_22 : decode cX6_thingsOf 22 = .ok (.getfield 18, 3) := by decide +kernel
theorem dX6_thingsOf_25 : decode cX6_thingsOf 25 = .ok (.iload_n 3, 1) := by decide +kernel
theorem dX6_thingsOf_26 : decode cX6_thingsOf 26 = .ok (.iaload, 1) := by decide +kernel
theorem dX6_thingsOf_27 : decode cX6_thingsOf 27 = .ok (.ior, 1) := by decide +kernel
theorem dX6_thingsOf_28 : decode cX6_thingsOf 28 = .ok (.istore_n 2, 1) := by decide +kernel
theorem dX6_thingsOf_29 : decode cX6_thingsOf 29 = .ok (.iinc 3 1, 3) := by decide +kernel
theorem dX6_thingsOf_32 : decode cX6_thingsOf 32 = .ok (.goto (-28), 3) := by decide +kernel
theorem dX6_thingsOf_35 : decode cX6_thingsOf 35 = .ok (.iload_n 2, 1) := by decide +kernel
theorem dX6_thingsOf_36 : decode cX6_thingsOf 36 = .ok (.ireturn, 1) := by decide +kernel
theorem dX6_priceOf_0 : decode cX6_priceOf 0 = .ok (.iconst 0, 1) := by decide +kernel
theorem dX6_priceOf_1 : decode cX6_priceOf 1 = .ok (.istore_n 2, 1) := by decide +kernel
theorem dX6_priceOf_2 : decode cX6_priceOf 2 = .ok (.iconst 0, 1) := by decide +kernel
theorem dX6_priceOf_3 : decode cX6_priceOf 3 = .ok (.istore_n 3, 1) := by decide +kernel
theorem dX6_priceOf_4 : decode cX6_priceOf 4 = .ok (.iload_n 3, 1) := by decide +kernel
theorem dX6_priceOf_5 : decode cX6_priceOf 5 = .ok (.aload_n 0, 1) := by decide +kernel
theorem dX6_priceOf_6 : decode cX6_priceOf 6 = .ok (.getfield 15, 3) := by decide +kernel
theorem dX6_priceOf_9 : decode cX6_priceOf 9 = .ok (.if_icmp .ge 26, 3) := by decide +kernel
theorem dX6_priceOf_12 : decode cX6_priceOf 12 = .ok (.iload_n 1, 1) := by decide +kernel
theorem dX6_priceOf_13 : decode cX6_priceOf 13 = .ok (.iload_n 3, 1) := by decide +kernel
theorem dX6_priceOf_14 : decode cX6_priceOf 14 = .ok (.invokestatic 32, 3) := by decide +kernel
theorem dX6_priceOf_17 : decode cX6_priceOf 17 = .ok (.ifCond .eq 12, 3) := by decide +kernel
theorem dX6_priceOf_20 : decode cX6_priceOf 20 = .ok (.iload_n 2, 1) := by decide +kernel
theorem dX6_priceOf_21 : decode cX6_priceOf 21 = .ok (.aload_n 0, 1) := by decide +kernel
theorem dX6_priceOf_22 : decode cX6_priceOf 22 = .ok (.getfield 22, 3) := by decide +kernel
theorem dX6_priceOf_25 : decode cX6_priceOf 25 = .ok (.iload_n 3, 1) := by decide +kernel
theorem dX6_priceOf_26 : decode cX6_priceOf 26 = .ok (.iaload, 1) := by decide +kernel
theorem dX6_priceOf_27 : decode cX6_priceOf 27 = .ok (.iadd, 1) := by decide +kernel
theorem dX6_priceOf_28 : decode cX6_priceOf 28 = .ok (.istore_n 2, 1) := by decide +kernel
theorem dX6_priceOf_29 : decode cX6_priceOf 29 = .ok (.iinc 3 1, 3) := by decide +kernel
theorem dX6_priceOf_32 : decode cX6_priceOf 32 = .ok (.goto (-28), 3) := by decide +kernel
theorem dX6_priceOf_35 : decode cX6_priceOf 35 = .ok (.iload_n 2, 1) := by decide +kernel
theorem dX6_priceOf_36 : decode cX6_priceOf 36 = .ok (.ireturn, 1) := by decide +kernel
theorem dX6_missingIn_0 : decode cX6_missingIn 0 = .ok (.aload_n 0, 1) := by decide +kernel
theorem dX6_missingIn_1 : decode cX6_missingIn 1 = .ok (.getfield 9, 3) := by decide +kernel
theorem dX6_missingIn_4 : decode cX6_missingIn 4 = .ok (.aload_n 0, 1) := by decide +kernel
theorem dX6_missingIn_5 : decode cX6_missingIn 5 = .ok (.iload_n 1, 1) := by decide +kernel
theorem dX6_missingIn_6 : decode cX6_missingIn 6 = .ok (.invokevirtual 36, 3) := by decide +kernel
theorem dX6_missingIn_9 : decode cX6_missingIn 9 = .ok (.iconst (-1), 1) := by decide +kernel
theorem dX6_missingIn_10 : decode cX6_missingIn 10 = .ok (.ixor, 1) := by decide +kernel
theorem dX6_missingIn_11 : decode cX6_missingIn 11 = .ok (.iand, 1) := by decide +kernel
theorem dX6_missingIn_12 : decode cX6_missingIn 12 = .ok (.ireturn, 1) := by decide +kernel
theorem dX6_hasCover_0 : decode cX6_hasCover 0 = .ok (.aload_n 0, 1) := by decide +kernel
theorem dX6_hasCover_1 : decode cX6_hasCover 1 = .ok (.aload_n 0, 1) := by decide +kernel
theorem dX6_hasCover_2 : decode cX6_hasCover 2 = .ok (.invokevirtual 39, 3) := by decide +kernel
theorem dX6_hasCover_5 : decode cX6_hasCover 5 = .ok (.invokevirtual 43, 3) := by decide +kernel
theorem dX6_hasCover_8 : decode cX6_hasCover 8 = .ok (.ifCond .ne 7, 3) := by decide +kernel
theorem dX6_hasCover_11 : decode cX6_hasCover 11 = .ok (.iconst 1, 1) := by decide +kernel
theorem dX6_hasCover_12 : decode cX6_hasCover 12 = .ok (.goto 4, 3) := by decide +kernel
theorem dX6_hasCover_15 : decode cX6_hasCover 15 = .ok (.iconst 0, 1) := by decide +kernel
theorem dX6_hasCover_16 : decode cX6_hasCover 16 = .ok (.ireturn, 1) := by decide +kernel
theorem dX6_isCover_0 : decode cX6_isCover 0 = .ok (.aload_n 0, 1) := by decide +kernel
theorem dX6_isCover_1 : decode cX6_isCover 1 = .ok (.iconst 1, 1) := by decide +kernel
theorem dX6_isCover_2 : decode cX6_isCover 2 = .ok (.invokevirtual 28, 3) := by decide +kernel
theorem dX6_isCover_5 : decode cX6_isCover 5 = .ok (.istore_n 2, 1) := by decide +kernel
theorem dX6_isCover_6 : decode cX6_isCover 6 = .ok (.iload_n 1, 1) := by decide +kernel
theorem dX6_isCover_7 : decode cX6_isCover 7 = .ok (.iload_n 2, 1) := by decide +kernel
theorem dX6_isCover_8 : decode cX6_isCover 8 = .ok (.iand, 1) := by decide +kernel
theorem dX6_isCover_9 : decode cX6_isCover 9 = .ok (.iload_n 2, 1) := by decide +kernel
theorem dX6_isCover_10 : decode cX6_isCover 10 = .ok (.if_icmp .ne 25, 3) := by decide +kernel
theorem dX6_isCover_13 : decode cX6_isCover 13 = .ok (.iload_n 1, 1) := by decide +kernel
theorem dX6_isCover_14 : decode cX6_isCover 14 = .ok (.aload_n 0, 1) := by decide +kernel
theorem dX6_isCover_15 : decode cX6_isCover 15 = .ok (.iconst 2, 1) := by decide +kernel
theorem dX6_isCover_16 : decode cX6_isCover 16 = .ok (.invokevirtual 28, 3) := by decide +kernel
theorem dX6_isCover_19 : decode cX6_isCover 19 = .ok (.iand, 1) := by decide +kernel
theorem dX6_isCover_20 : decode cX6_isCover 20 = .ok (.ifCond .ne 15, 3) := by decide +kernel
theorem dX6_isCover_23 : decode cX6_isCover 23 = .ok (.aload_n 0, 1) := by decide +kernel
theorem dX6_isCover_24 : decode cX6_isCover 24 = .ok (.iload_n 1, 1) := by decide +kernel
theorem dX6_isCover_25 : decode cX6_isCover 25 = .ok (.invokevirtual 43, 3) := by decide +kernel
theorem dX6_isCover_28 : decode cX6_isCover 28 = .ok (.ifCond .ne 7, 3) := by decide +kernel
theorem dX6_isCover_31 : decode cX6_isCover 31 = .ok (.iconst 1, 1) := by decide +kernel
theorem dX6_isCover_32 : decode cX6_isCover 32 = .ok (.goto 4, 3) := by decide +kernel
theorem dX6_isCover_35 : decode cX6_isCover 35 = .ok (.iconst 0, 1) := by decide +kernel
theorem dX6_isCover_36 : decode cX6_isCover 36 = .ok (.ireturn, 1) := by decide +kernel
theorem dX6_neededAlone_0 : decode cX6_neededAlone 0 = .ok (.aload_n 0, 1) := by decide +kernel
theorem dX6_neededAlone_1 : decode cX6_neededAlone 1 = .ok (.invokevirtual 39, 3) := by decide +kernel
theorem dX6_neededAlone_4 : decode cX6_neededAlone 4 = .ok (.istore_n 2, 1) := by decide +kernel
theorem dX6_neededAlone_5 : decode cX6_neededAlone 5 = .ok (.iload_n 2, 1) := by decide +kernel
theorem dX6_neededAlone_6 : decode cX6_neededAlone 6 = .ok (.iload_n 1, 1) := by decide +kernel
theorem dX6_neededAlone_7 : decode cX6_neededAlone 7 = .ok (.invokestatic 32, 3) := by decide +kernel
theorem dX6_neededAlone_10 : decode cX6_neededAlone 10 = .ok (.ifCond .ne 5, 3) := by decide +kernel
theorem dX6_neededAlone_13 : decode cX6_neededAlone 13 = .ok (.iconst 0, 1) := by decide +kernel
theorem dX6_neededAlone_14 : decode cX6_neededAlone 14 = .ok (.ireturn, 1) := by decide +kernel
theorem dX6_neededAlone_15 : decode cX6_neededAlone 15 = .ok (.aload_n 0, 1) := by decide +kernel
theorem dX6_neededAlone_16 : decode cX6_neededAlone 16 = .ok (.getfield 9, 3) := by decide +kernel
theorem dX6_neededAlone_19 : decode cX6_neededAlone 19 = .ok (.aload_n 0, 1) := by decide +kernel
theorem dX6_neededAlone_20 : decode cX6_neededAlone 20 = .ok (.getfield 18, 3) := by decide +kernel
theorem dX6_neededAlone_23 : decode cX6_neededAlone 23 = .ok (.iload_n 1, 1) := by decide +kernel
theorem dX6_neededAlone_24 : decode cX6_neededAlone 24 = .ok (.iaload, 1) := by decide +kernel
theorem dX6_neededAlone_25 : decode cX6_neededAlone 25 = .ok (.iand, 1) := by decide +kernel
theorem dX6_neededAlone_26 : decode cX6_neededAlone 26 = .ok (.aload_n 0, 1) := by decide +kernel
theorem dX6_neededAlone_27 : decode cX6_neededAlone 27 = .ok (.iload_n 2, 1) := by decide +kernel
theorem dX6_neededAlone_28 : decode cX6_neededAlone 28 = .ok (.iconst 1, 1) := by decide +kernel
theorem dX6_neededAlone_29 : decode cX6_neededAlone 29 = .ok (.iload_n 1, 1) := by decide +kernel
theorem dX6_neededAlone_30 : decode cX6_neededAlone 30 = .ok (.ishl, 1) := by decide +kernel
theorem dX6_neededAlone_31 : decode cX6_neededAlone 31 = .ok (.iconst (-1), 1) := by decide +kernel
theorem dX6_neededAlone_32 : decode cX6_neededAlone 32 = .ok (.ixor, 1) := by decide +kernel
theorem dX6_neededAlone_33 : decode cX6_neededAlone 33 = .ok (.iand, 1) := by decide +kernel
theorem dX6_neededAlone_34 : decode cX6_neededAlone 34 = .ok (.invokevirtual 36, 3) := by decide +kernel
theorem dX6_neededAlone_37 : decode cX6_neededAlone 37 = .ok (.iconst (-1), 1) := by decide +kernel
theorem dX6_neededAlone_38 : decode cX6_neededAlone 38 = .ok (.ixor, 1) := by decide +kernel
theorem dX6_neededAlone_39 : decode cX6_neededAlone 39 = .ok (.iand, 1) := by decide +kernel
theorem dX6_neededAlone_40 : decode cX6_neededAlone 40 = .ok (.ireturn, 1) := by decide +kernel
theorem dX6_mostSetsWithOneThing_0 : decode cX6_mostSetsWithOneThing 0 = .ok (.aload_n 0, 1) := by decide +kernel
theorem dX6_mostSetsWithOneThing_1 : decode cX6_mostSetsWithOneThing 1 = .ok (.invokevirtual 39, 3) := by decide +kernel
theorem dX6_mostSetsWithOneThing_4 : decode cX6_mostSetsWithOneThing 4 = .ok (.istore_n 1, 1) := by decide +kernel
theorem dX6_mostSetsWithOneThing_5 : decode cX6_mostSetsWithOneThing 5 = .ok (.iconst 0, 1) := by decide +kernel
theorem dX6_mostSetsWithOneThing_6 : decode cX6_mostSetsWithOneThing 6 = .ok (.istore_n 2, 1) := by decide +kernel
theorem dX6_mostSetsWithOneThing_7 : decode cX6_mostSetsWithOneThing 7 = .ok (.iconst 0, 1) := by decide +kernel
theorem dX6_mostSetsWithOneThing_8 : decode cX6_mostSetsWithOneThing 8 = .ok (.istore_n 3, 1) := by decide +kernel
theorem dX6_mostSetsWithOneThing_9 : decode cX6_mostSetsWithOneThing 9 = .ok (.iload_n 3, 1) := by decide +kernel
theorem dX6_mostSetsWithOneThing_10 : decode cX6_mostSetsWithOneThing 10 = .ok (.bipush 18, 2) := by decide +kernel
theorem dX6_mostSetsWithOneThing_12 : decode cX6_mostSetsWithOneThing 12 = .ok (.if_icmp .ge 35, 3) := by decide +kernel
theorem dX6_mostSetsWithOneThing_15 : decode cX6_mostSetsWithOneThing 15 = .ok (.aload_n 0, 1) := by decide +kernel
theorem dX6_mostSetsWithOneThing_16 : decode cX6_mostSetsWithOneThing 16 = .ok (.getfield 9, 3) := by decide +kernel
theorem dX6_mostSetsWithOneThing_19 : decode cX6_mostSetsWithOneThing 19 = .ok (.iload_n 3, 1) := by decide +kernel
theorem dX6_mostSetsWithOneThing_20 : decode cX6_mostSetsWithOneThing 20 = .ok (.invokestatic 32, 3) := by decide +kernel
theorem dX6_mostSetsWithOneThing_23 : decode cX6_mostSetsWithOneThing 23 = .ok (.ifCond .eq 18, 3) := by decide +kernel
theorem dX6_mostSetsWithOneThing_26 : decode cX6_mostSetsWithOneThing 26 = .ok (.iload_n 2, 1) := by decide +kernel
theorem dX6_mostSetsWithOneThing_27 : decode cX6_mostSetsWithOneThing 27 = .ok (.aload_n 0, 1) := by decide +kernel
theorem dX6_mostSetsWithOneThing_28 : decode cX6_mostSetsWithOneThing 28 = .ok (.iload_n 3, 1) := by decide +kernel
theorem dX6_mostSetsWithOneThing_29 : decode cX6_mostSetsWithOneThing 29 = .ok (.invokevirtual 46, 3) := by decide +kernel
theorem dX6_mostSetsWithOneThing_32 : decode cX6_mostSetsWithOneThing 32 = .ok (.iload_n 1, 1) := by decide +kernel
theorem dX6_mostSetsWithOneThing_33 : decode cX6_mostSetsWithOneThing 33 = .ok (.iand, 1) := by decide +kernel
theorem dX6_mostSetsWithOneThing_34 : decode cX6_mostSetsWithOneThing 34 = .ok (.invokestatic 49, 3) := by decide +kernel
theorem dX6_mostSetsWithOneThing_37 : decode cX6_mostSetsWithOneThing 37 = .ok (.invokestatic 54, 3) := by decide +kernel
theorem dX6_mostSetsWithOneThing_40 : decode cX6_mostSetsWithOneThing 40 = .ok (.istore_n 2, 1) := by decide +kernel
theorem dX6_mostSetsWithOneThing_41 : decode cX6_mostSetsWithOneThing 41 = .ok (.iinc 3 1, 3) := by decide +kernel
theorem dX6_mostSetsWithOneThing_44 : decode cX6_mostSetsWithOneThing 44 = .ok (.goto (-35), 3) := by decide +kernel
theorem dX6_mostSetsWithOneThing_47 : decode cX6_mostSetsWithOneThing 47 = .ok (.iload_n 2, 1) := by decide +kernel
theorem dX6_mostSetsWithOneThing_48 : decode cX6_mostSetsWithOneThing 48 = .ok (.ireturn, 1) := by decide +kernel
theorem dX7_init_0 : decode cX7_init 0 = .ok (.aload_n 0, 1) := by decide +kernel
theorem dX7_init_1 : decode cX7_init 1 = .ok (.invokespecial 3, 3) := by decide +kernel
theorem dX7_init_4 : decode cX7_init 4 = .ok (.aload_n 0, 1) := by decide +kernel
theorem dX7_init_5 : decode cX7_init 5 = .ok (.iconst 0, 1) := by decide +kernel
theorem dX7_init_6 : decode cX7_init 6 = .ok (.putfield 9, 3) := by decide +kernel
theorem dX7_init_9 : decode cX7_init 9 = .ok (.aload_n 0, 1) := by decide +kernel
theorem dX7_init_10 : decode cX7_init 10 = .ok (.iconst 0, 1) := by decide +kernel
theorem dX7_init_11 : decode cX7_init 11 = .ok (.putfield 15, 3) := by decide +kernel
theorem dX7_init_14 : decode cX7_init 14 = .ok (.aload_n 0, 1) := by decide +kernel
theorem dX7_init_15 : decode cX7_init 15 = .ok (.bipush 14, 2) := by decide +kernel
theorem dX7_init_17 : decode cX7_init 17 = .ok (.newarray .int, 2) := by decide +kernel
theorem dX7_init_19 : decode cX7_init 19 = .ok (.putfield 18, 3) := by decide +kernel
theorem dX7_init_22 : decode cX7_init 22 = .ok (.aload_n 0, 1) := by decide +kernel
theorem dX7_init_23 : decode cX7_init 23 = .ok (.bipush 14, 2) := by decide +kernel
theorem dX7_init_25 : decode cX7_init 25 = .ok (.newarray .int, 2) := by decide +kernel
theorem dX7_init_27 : decode cX7_init 27 = .ok (.putfield 22, 3) := by decide +kernel
theorem dX7_init_30 : decode cX7_init 30 = .ok (.aload_n 0, 1) := by decide +kernel
theorem dX7_init_31 : decode cX7_init 31 = .ok (.bipush 14, 2) := by decide +kernel
theorem dX7_init_33 : decode cX7_init 33 = .ok (.newarray .int, 2) := by decide +kernel
theorem dX7_init_35 : decode cX7_init 35 = .ok (.putfield 25, 3) := by decide +kernel
theorem dX7_init_38 : decode cX7_init 38 = .ok (.aload_n 0, 1) := by decide +kernel
theorem dX7_init_39 : decode cX7_init 39 = .ok (.bipush 15, 2) := by decide +kernel
theorem dX7_init_41 : decode cX7_init 41 = .ok (.newarray .int, 2) := by decide +kernel
theorem dX7_init_43 : decode cX7_init 43 = .ok (.putfield 28, 3) := by decide +kernel
theorem dX7_init_46 : decode cX7_init 46 = .ok (.aload_n 0, 1) := by decide +kernel
theorem dX7_init_47 : decode cX7_init 47 = .ok (.bipush 15, 2) := by decide +kernel
theorem dX7_init_49 : decode cX7_init 49 = .ok (.newarray .int, 2) := by decide +kernel
theorem dX7_init_51 : decode cX7_init 51 = .ok (.putfield 31, 3) := by decide +kernel
theorem dX7_init_54 : decode cX7_init 54 = .ok (.aload_n 0, 1) := by decide +kernel
theorem dX7_init_55 : decode cX7_init 55 = .ok (.bipush 15, 2) := by decide +kernel
theorem dX7_init_57 : decode cX7_init 57 = .ok (.newarray .int, 2) := by decide +kernel
theorem dX7_init_59 : decode cX7_init 59 = .ok (.putfield 34, 3) := by decide +kernel
theorem dX7_init_62 : decode cX7_init 62 = .ok (.aload_n 0, 1) := by decide +kernel
theorem dX7_init_63 : decode cX7_init 63 = .ok (.bipush 15, 2) := by decide +kernel
theorem dX7_init_65 : decode cX7_init 65 = .ok (.newarray .int, 2) := by decide +kernel
theorem dX7_init_67 : decode cX7_init 67 = .ok (.putfield 37, 3) := by decide +kernel
theorem dX7_init_70 : decode cX7_init 70 = .ok (.return_, 1) := by decide +kernel
theorem dX7_begin_0 : decode cX7_begin 0 = .ok (.aload_n 0, 1) := by decide +kernel
theorem dX7_begin_1 : decode cX7_begin 1 = .ok (.aload_n 1, 1) := by decide +kernel
theorem dX7_begin_2 : decode cX7_begin 2 = .ok (.getfield 40, 3) := by decide +kernel
theorem dX7_begin_5 : decode cX7_begin 5 = .ok (.putfield 9, 3) := by decide +kernel
theorem dX7_begin_8 : decode cX7_begin 8 = .ok (.aload_n 0, 1) := by decide +kernel
theorem dX7_begin_9 : decode cX7_begin 9 = .ok (.iconst 0, 1) := by decide +kernel
theorem dX7_begin_10 : decode cX7_begin 10 = .ok (.putfield 15, 3) := by decide +kernel
theorem dX7_begin_13 : decode cX7_begin 13 = .ok (.aload_n 0, 1) := by decide +kernel
theorem dX7_begin_14 : decode cX7_begin 14 = .ok (.getfield 28, 3) := by decide +kernel
theorem dX7_begin_17 : decode cX7_begin 17 = .ok (.iconst 0, 1) := by decide +kernel
theorem dX7_begin_18 : decode cX7_begin 18 = .ok (.invokestatic 43, 3) := by decide +kernel
theorem dX7_begin_21 : decode cX7_begin 21 = .ok (.aload_n 0, 1) := by decide +kernel
theorem dX7_begin_22 : decode cX7_begin 22 = .ok (.getfield 31, 3) := by decide +kernel
theorem dX7_begin_25 : decode cX7_begin 25 = .ok (.iconst 0, 1) := by decide +kernel
theorem dX7_begin_26 : decode cX7_begin 26 = .ok (.invokestatic 43, 3) := by decide +kernel
theorem dX7_begin_29 : decode cX7_begin 29 = .ok (.aload_n 0, 1) := by decide +kernel
theorem dX7_begin_30 : decode cX7_begin 30 = .ok (.getfield 34, 3) := by decide +kernel
theorem dX7_begin_33 : decode cX7_begin 33 = .ok (.iconst 0, 1) := by decide +kernel
theorem dX7_begin_34 : decode cX7_begin 34 = .ok (.invokestatic 43, 3) := by decide +kernel
theorem dX7_begin_37 : decode cX7_begin 37 = .ok (.aload_n 0, 1) := by decide +kernel
theorem dX7_begin_38 : decode cX7_begin 38 = .ok (.getfield 37, 3) := by decide +kernel
theorem dX7_begin_41 : decode cX7_begin 41 = .ok (.iconst 0, 1) := by decide +kernel
theorem dX7_begin_42 : decode cX7_begin 42 = .ok (.invokestatic 43, 3) := by decide +kernel
theorem dX7_begin_45 : decode cX7_begin 45 = .ok (.iconst 0, 1) := by decide +kernel
theorem dX7_begin_46 : decode cX7_begin 46 = .ok (.istore_n 2, 1) := by decide +kernel
theorem dX7_begin_47 : decode cX7_begin 47 = .ok (.iload_n 2, 1) := by decide +kernel
theorem dX7_begin_48 : decode cX7_begin 48 = .ok (.aload_n 1, 1) := by decide +kernel
theorem dX7_begin_49 : decode cX7_begin 49 = .ok (.getfield 49, 3) := by decide +kernel
theorem dX7_begin_52 : decode cX7_begin 52 = .ok (.if_icmp .ge 85, 3) := by decide +kernel
theorem dX7_begin_55 : decode cX7_begin 55 = .ok (.aload_n 1, 1) := by decide +kernel
theorem dX7_begin_56 : decode cX7_begin 56 = .ok (.getfield 52, 3) := by decide +kernel
theorem dX7_begin_59 : decode cX7_begin 59 = .ok (.iload_n 2, 1) := by decide +kernel
theorem dX7_begin_60 : decode cX7_begin 60 = .ok (.iaload, 1) := by decide +kernel
theorem dX7_begin_61 : decode cX7_begin 61 = .ok (.ifCond .ne 25, 3) := by decide +kernel
theorem dX7_begin_64 : decode cX7_begin 64 = .ok (.aload_n 0, 1) := by decide +kernel
theorem dX7_begin_65 : decode cX7_begin 65 = .ok (.iconst 1, 1) := by decide +kernel
theorem dX7_begin_66 : decode cX7_begin 66 = .ok (.iload_n 2, 1) := by decide +kernel
theorem dX7_begin_67 : decode cX7_begin 67 = .ok (.ishl, 1) := by decide +kernel
theorem dX7_begin_68 : decode cX7_begin 68 = .ok (.aload_n 1, 1) := by decide +kernel
theorem dX7_begin_69 : decode cX7_begin 69 = .ok (.getfield 55, 3) := by decide +kernel
theorem dX7_begin_72 : decode cX7_begin 72 = .ok (.iload_n 2, 1) := by decide +kernel
theorem dX7_begin_73 : decode cX7_begin 73 = .ok (.iaload, 1) := by decide +kernel
theorem dX7_begin_74 : decode cX7_begin 74 = .ok (.aload_n 1, 1) := by decide +kernel
theorem dX7_begin_75 : decode cX7_begin 75 = .ok (.getfield 56, 3) := by decide +kernel
theorem dX7_begin_78 : decode cX7_begin 78 = .ok (.iload_n 2, 1) := by decide +kernel
theorem dX7_begin_79 : decode cX7_begin 79 = .ok (.iaload, 1) := by decide +kernel
theorem dX7_begin_80 : decode cX7_begin 80 = .ok (.invokevirtual 57, 3) := by decide +kernel
theorem dX7_begin_83 : decode cX7_begin 83 = .ok (.goto 48, 3) := by decide +kernel
theorem dX7_begin_86 : decode cX7_begin 86 = .ok (.aload_n 1, 1) := by decide +kernel
theorem dX7_begin_87 : decode cX7_begin 87 = .ok (.getfield 52, 3) := by decide +kernel
theorem dX7_begin_90 : decode cX7_begin 90 = .ok (.iload_n 2, 1) := by decide +kernel
theorem dX7_begin_91 : decode cX7_begin 91 = .ok (.iaload, 1) := by decide +kernel
theorem dX7_begin_92 : decode cX7_begin 92 = .ok (.iconst 1, 1) := by decide +kernel
theorem dX7_begin_93 : decode cX7_begin 93 = .ok (.if_icmp .ne 38, 3) := by decide +kernel
theorem dX7_begin_96 : decode cX7_begin 96 = .ok (.iconst 0, 1) := by decide +kernel
theorem dX7_begin_97 : decode cX7_begin 97 = .ok (.istore_n 3, 1) := by decide +kernel
theorem dX7_begin_98 : decode cX7_begin 98 = .ok (.iload_n 3, 1) := by decide +kernel
theorem dX7_begin_99 : decode cX7_begin 99 = .ok (.bipush 14, 2) := by decide +kernel
theorem dX7_begin_101 : decode cX7_begin 101 = .ok (.if_icmp .gt 30, 3) := by decide +kernel
theorem dX7_begin_104 : decode cX7_begin 104 = .ok (.aload_n 0, 1) := by decide +kernel
theorem dX7_begin_105 : decode cX7_begin 105 = .ok (.iload_n 3, 1) := by decide +kernel
theorem dX7_begin_106 : decode cX7_begin 106 = .ok (.iload_n 3, 1) := by decide +kernel
theorem dX7_begin_107 : decode cX7_begin 107 = .ok (.iconst 1, 1) := by decide +kernel
theorem dX7_begin_108 : decode cX7_begin 108 = .ok (.iload_n 2, 1) := by decide +kernel
theorem dX7_begin_109 : decode cX7_begin 109 = .ok (.ishl, 1) := by decide +kernel
theorem dX7_begin_110 : decode cX7_begin 110 = .ok (.aload_n 1, 1) := by decide +kernel
theorem dX7_begin_111 : decode cX7_begin 111 = .ok (.getfield 55, 3) := by decide +kernel
theorem dX7_begin_114 : decode cX7_begin 114 = .ok (.iload_n 2, 1) := by decide +kernel
theorem dX7_begin_115 : decode cX7_begin 115 = .ok (.iaload, 1) := by decide +kernel
theorem dX7_begin_116 : decode cX7_begin 116 = .ok (.aload_n 1, 1) := by decide +kernel
theorem dX7_begin_117 : decode cX7_begin 117 = .ok (.getfield 56, 3) := by decide +kernel
theorem dX7_begin_120 : decode cX7_begin 120 = .ok (.iload_n 2, 1) := by decide +kernel
theorem dX7_begin_121 : decode cX7_begin 121 = .ok (.iaload, 1) := by decide +kernel
theorem dX7_begin_122 : decode cX7_begin 122 = .ok (.invokevirtual 61, 3) := by decide +kernel
theorem dX7_begin_125 : decode cX7_begin 125 = .ok (.iinc 3 1, 3) := by decide +kernel
theorem dX7_begin_128 : decode cX7_begin 128 = .ok (.goto (-30), 3) := by decide +kernel
theorem dX7_begin_131 : decode cX7_begin 131 = .ok (.iinc 2 1, 3) := by decide +kernel
theorem dX7_begin_134 : decode cX7_begin 134 = .ok (.goto (-87), 3) := by decide +kernel
theorem dX7_begin_137 : decode cX7_begin 137 = .ok (.iconst 1, 1) := by decide +kernel
theorem dX7_begin_138 : decode cX7_begin 138 = .ok (.aload_n 0, 1) := by decide +kernel
theorem dX7_begin_139 : decode cX7_begin 139 = .ok (.getfield 15, 3) := by decide +kernel
theorem dX7_begin_142 : decode cX7_begin 142 = .ok (.ishl, 1) := by decide +kernel
theorem dX7_begin_143 : decode cX7_begin 143 = .ok (.ireturn, 1) := by decide +kernel
theorem dX7_noteFree_0 : decode cX7_noteFree 0 = .ok (.aload_n 0, 1) := by decide +kernel
theorem dX7_noteFree_1 : decode cX7_noteFree 1 = .ok (.getfield 15, 3) := by decide +kernel
theorem dX7_noteFree_4 : decode cX7_noteFree 4 = .ok (.bipush 14, 2) := by decide +kernel
theorem dX7_noteFree_6 : decode cX7_noteFree 6 = .ok (.if_icmp .ge 43, 3) := by decide +kernel
theorem dX7_noteFree_9 : decode cX7_noteFree 9 = .ok (.aload_n 0, 1) := by decide +kernel
theorem dX7_noteFree_10 : decode cX7_noteFree 10 = .ok (.getfield 25, 3) := by decide +kernel
theorem dX7_noteFree_13 : decode cX7_noteFree 13 = .ok (.aload_n 0, 1) := by decide +kernel
theorem dX7_noteFree_14 : decode cX7_noteFree 14 = .ok (.getfield 15, 3) := by decide +kernel
theorem dX7_noteFree_17 : decode cX7_noteFree 17 = .ok (.iload_n 1, 1) := by decide +kernel
theorem dX7_noteFree_18 : decode cX7_noteFree 18 = .ok (.iastore, 1) := by decide +kernel
theorem dX7_noteFree_19 : decode cX7_noteFree 19 = .ok (.aload_n 0, 1) := by decide +kernel
theorem dX7_noteFree_20 : decode cX7_noteFree 20 = .ok (.getfield 18, 3) := by decide +kernel
theorem dX7_noteFree_23 : decode cX7_noteFree 23 = .ok (.aload_n 0, 1) := by decide +kernel
theorem dX7_noteFree_24 : decode cX7_noteFree 24 = .ok (.getfield 15, 3) := by decide +kernel
theorem dX7_noteFree_27 : decode cX7_noteFree 27 = .ok (.iload_n 2, 1) := by decide +kernel
theorem dX7_noteFree_28 : decode cX7_noteFree 28 = .ok (.iastore, 1) := by decide +kernel
theorem dX7_noteFree_29 : decode cX7_noteFree 29 = .ok (.aload_n 0, 1) := by decide +kernel
theorem dX7_noteFree_30 : decode cX7_noteFree 30 = .ok (.getfield 22, 3) := by decide +kernel
theorem dX7_noteFree_33 : decode cX7_noteFree 33 = .ok (.aload_n 0, 1) := by decide +kernel
theorem dX7_noteFree_34 : decode cX7_noteFree 34 = .ok (.getfield 15, 3) := by decide +kernel
theorem dX7_noteFree_37 : decode cX7_noteFree 37 = .ok (.iload_n 3, 1) := by decide +kernel
theorem dX7_noteFree_38 : decode cX7_noteFree 38 = .ok (.iastore, 1) := by decide +kernel
theorem dX7_noteFree_39 : decode cX7_noteFree 39 = .ok (.aload_n 0, 1) := by decide +kernel
theorem dX7_noteFree_40 : decode cX7_noteFree 40 = .ok (.dup, 1) := by decide +kernel
theorem dX7_noteFree_41 : decode cX7_noteFree 41 = .ok (.getfield 15, 3) := by decide +kernel
theorem dX7_noteFree_44 : decode cX7_noteFree 44 = .ok (.iconst 1, 1) := by decide +kernel
theorem dX7_noteFree_45 : decode cX7_noteFree 45 = .ok (.iadd, 1) := by decide +kernel
theorem dX7_noteFree_46 : decode cX7_noteFree 46 = .ok (.putfield 15, 3) := by decide +kernel
theorem dX7_noteFree_49 : decode cX7_noteFree 49 = .ok (.return_, 1) := by decide +kernel
theorem dX7_join_0 : decode cX7_join 0 = .ok (.aload_n 0, 1) := by decide +kernel
theorem dX7_join_1 : decode cX7_join 1 = .ok (.getfield 28, 3) := by decide +kernel
theorem dX7_join_4 : decode cX7_join 4 = .ok (.iload_n 1, 1) := by decide +kernel
theorem dX7_join_5 : decode cX7_join 5 = .ok (.aload_n 0, 1) := by decide +kernel
theorem dX7_join_6 : decode cX7_join 6 = .ok (.getfield 28, 3) := by decide +kernel
theorem dX7_join_9 : decode cX7_join 9 = .ok (.iload_n 2, 1) := by decide +kernel
theorem dX7_join_10 : decode cX7_join 10 = .ok (.iaload, 1) := by decide +kernel
theorem dX7_join_11 : decode cX7_join 11 = .ok (.iload_n 3, 1) := by decide +kernel
theorem dX7_join_12 : decode cX7_join 12 = .ok (.ior, 1) := by decide +kernel
theorem dX7_join_13 : decode cX7_join 13 = .ok (.iastore, 1) := by decide +kernel
theorem dX7_join_14 : decode cX7_join 14 = .ok (.aload_n 0, 1) := by decide +kernel
theorem dX7_join_15 : decode cX7_join 15 = .ok (.getfield 31, 3) := by decide +kernel
theorem dX7_join_18 : decode cX7_join 18 = .ok (.iload_n 1, 1) := by decide +kernel
theorem dX7_join_19 : decode cX7_join 19 = .ok (.aload_n 0, 1) := by decide +kernel
theorem dX7_join_20 : decode cX7_join 20 = .ok (.getfield 31, 3) := by decide +kernel
theorem dX7_join_23 : decode cX7_join 23 = .ok (.iload_n 2, 1) := by decide +kernel
theorem dX7_join_24 : decode cX7_join 24 = .ok (.iaload, 1) := by decide +kernel
theorem dX7_join_25 : decode cX7_join 25 = .ok (.iload 5, 2) := by decide +kernel
theorem dX7_join_27 : decode cX7_join 27 = .ok (.iadd, 1) := by decide +kernel
theorem dX7_join_28 : decode cX7_join 28 = .ok (.iastore, 1) := by decide +kernel
theorem dX7_join_29 : decode cX7_join 29 = .ok (.aload_n 0, 1) := by decide +kernel
theorem dX7_join_30 : decode cX7_join 30 = .ok (.getfield 37, 3) := by decide +kernel
theorem dX7_join_33 : decode cX7_join 33 = .ok (.iload_n 1, 1) := by decide +kernel
theorem dX7_join_34 : decode cX7_join 34 = .ok (.aload_n 0, 1) := by decide +kernel
theorem dX7_join_35 : decode cX7_join 35 = .ok (.getfield 37, 3) := by decide +kernel
theorem dX7_join_38 : decode cX7_join 38 = .ok (.iload_n 2, 1) := by decide +kernel
theorem dX7_join_39 : decode cX7_join 39 = .ok (.iaload, 1) := by decide +kernel
theorem dX7_join_40 : decode cX7_join 40 = .ok (.aload_n 0, 1) := by decide +kernel
theorem dX7_join_41 : decode cX7_join 41 = .ok (.getfield 34, 3) := by decide +kernel
theorem dX7_join_44 : decode cX7_join 44 = .ok (.iload_n 2, 1) := by decide +kernel
theorem dX7_join_45 : decode cX7_join 45 = .ok (.iaload, 1) := by decide +kernel
theorem dX7_join_46 : decode cX7_join 46 = .ok (.iload 4, 2) := by decide +kernel
theorem dX7_join_48 : decode cX7_join 48 = .ok (.iand, 1) := by decide +kernel
theorem dX7_join_49 : decode cX7_join 49 = .ok (.ior, 1) := by decide +kernel
theorem dX7_join_50 : decode cX7_join 50 = .ok (.iastore, 1) := by decide +kernel
theorem dX7_join_51 : decode cX7_join 51 = .ok (.aload_n 0, 1) := by decide +kernel
theorem dX7_join_52 : decode cX7_join 52 = .ok (.getfield 34, 3) := by decide +kernel
theorem dX7_join_55 : decode cX7_join 55 = .ok (.iload_n 1, 1) := by decide +kernel
theorem dX7_join_56 : decode cX7_join 56 = .ok (.aload_n 0, 1) := by decide +kernel
theorem dX7_join_57 : decode cX7_join 57 = .ok (.getfield 34, 3) := by decide +kernel
theorem dX7_join_60 : decode cX7_join 60 = .ok (.iload_n 2, 1) := by decide +kernel
theorem dX7_join_61 : decode cX7_join 61 = .ok (.iaload, 1) := by decide +kernel
theorem dX7_join_62 : decode cX7_join 62 = .ok (.iload 4, 2) := by decide +kernel
theorem dX7_join_64 : decode cX7_join 64 = .ok (.ior, 1) := by decide +kernel
theorem dX7_join_65 : decode cX7_join 65 = .ok (.iastore, 1) := by decide +kernel
theorem dX7_join_66 : decode cX7_join 66 = .ok (.return_, 1) := by decide +kernel
theorem dX7_goTo_0 : decode cX7_goTo 0 = .ok (.iload_n 1, 1) := by decide +kernel
theorem dX7_goTo_1 : decode cX7_goTo 1 = .ok (.invokestatic 65, 3) := by decide +kernel
theorem dX7_goTo_4 : decode cX7_goTo 4 = .ok (.istore_n 2, 1) := by decide +kernel
theorem dX7_goTo_5 : decode cX7_goTo 5 = .ok (.iload_n 2, 1) := by decide +kernel
theorem dX7_goTo_6 : decode cX7_goTo 6 = .ok (.aload_n 0, 1) := by decide +kernel
theorem dX7_goTo_7 : decode cX7_goTo 7 = .ok (.getfield 15, 3) := by decide +kernel
theorem dX7_goTo_10 : decode cX7_goTo 10 = .ok (.if_icmp .ge 9, 3) := by decide +kernel
theorem dX7_goTo_13 : decode cX7_goTo 13 = .ok (.iload_n 2, 1) := by decide +kernel
theorem dX7_goTo_14 : decode cX7_goTo 14 = .ok (.bipush 14, 2) := by decide +kernel
theorem dX7_goTo_16 : decode cX7_goTo 16 = .ok (.if_icmp .lt 4, 3) := by decide +kernel
theorem dX7_goTo_19 : decode cX7_goTo 19 = .ok (.return_, 1) := by decide +kernel
theorem dX7_goTo_20 : decode cX7_goTo 20 = .ok (.aload_n 0, 1) := by decide +kernel
theorem dX7_goTo_21 : decode cX7_goTo 21 = .ok (.iload_n 2, 1) := by decide +kernel
theorem dX7_goTo_22 : decode cX7_goTo 22 = .ok (.iload_n 2, 1) := by decide +kernel
theorem dX7_goTo_23 : decode cX7_goTo 23 = .ok (.iconst 1, 1) := by decide +kernel
theorem dX7_goTo_24 : decode cX7_goTo 24 = .ok (.iadd, 1) := by decide +kernel
theorem dX7_goTo_25 : decode cX7_goTo 25 = .ok (.aload_n 0, 1) := by decide +kernel
theorem dX7_goTo_26 : decode cX7_goTo 26 = .ok (.getfield 25, 3) := by decide +kernel
theorem dX7_goTo_29 : decode cX7_goTo 29 = .ok (.iload_n 2, 1) := by decide +kernel
theorem dX7_goTo_30 : decode cX7_goTo 30 = .ok (.iaload, 1) := by decide +kernel
theorem dX7_goTo_31 : decode cX7_goTo 31 = .ok (.aload_n 0, 1) := by decide +kernel
theorem dX7_goTo_32 : decode cX7_goTo 32 = .ok (.getfield 18, 3) := by decide +kernel
theorem dX7_goTo_35 : decode cX7_goTo 35 = .ok (.iload_n 2, 1) := by decide +kernel
theorem dX7_goTo_36 : decode cX7_goTo 36 = .ok (.iaload, 1) := by decide +kernel
theorem dX7_goTo_37 : decode cX7_goTo 37 = .ok (.aload_n 0, 1) := by decide +kernel
theorem dX7_goTo_38 : decode cX7_goTo 38 = .ok (.getfield 22, 3) := by decide +kernel
theorem dX7_goTo_41 : decode cX7_goTo 41 = .ok (.iload_n 2, 1) := by decide +kernel
theorem dX7_goTo_42 : decode cX7_goTo 42 = .ok (.iaload, 1) := by decide +kernel
theorem dX7_goTo_43 : decode cX7_goTo 43 = .ok (.invokevirtual 61, 3) := by decide +kernel
theorem dX7_goTo_46 : decode cX7_goTo 46 = .ok (.iconst 0, 1) := by decide +kernel
theorem dX7_goTo_47 : decode cX7_goTo 47 = .ok (.istore_n 3, 1) := by decide +kernel
theorem dX7_goTo_48 : decode cX7_goTo 48 = .ok (.iload_n 3, 1) := by decide +kernel
theorem dX7_goTo_49 : decode cX7_goTo 49 = .ok (.iload_n 2, 1) := by decide +kernel
theorem dX7_goTo_50 : decode cX7_goTo 50 = .ok (.if_icmp .ge 18, 3) := by decide +kernel
theorem dX7_goTo_53 : decode cX7_goTo 53 = .ok (.aload_n 0, 1) := by decide +kernel
theorem dX7_goTo_54 : decode cX7_goTo 54 = .ok (.iload_n 3, 1) := by decide +kernel
theorem dX7_goTo_55 : decode cX7_goTo 55 = .ok (.iload_n 2, 1) := by decide +kernel
theorem dX7_goTo_56 : decode cX7_goTo 56 = .ok (.iconst 0, 1) := by decide +kernel
theorem dX7_goTo_57 : decode cX7_goTo 57 = .ok (.iconst 0, 1) := by decide +kernel
theorem dX7_goTo_58 : decode cX7_goTo 58 = .ok (.iconst 0, 1) := by decide +kernel
theorem dX7_goTo_59 : decode cX7_goTo 59 = .ok (.invokevirtual 61, 3) := by decide +kernel
theorem dX7_goTo_62 : decode cX7_goTo 62 = .ok (.iinc 3 1, 3) := by decide +kernel
theorem dX7_goTo_65 : decode cX7_goTo 65 = .ok (.goto (-17), 3) := by decide +kernel
theorem dX7_goTo_68 : decode cX7_goTo 68 = .ok (.return_, 1) := by decide +kernel
theorem dX7_chosen_0 : decode cX7_chosen 0 = .ok (.aload_n 0, 1) := by decide +kernel
theorem dX7_chosen_1 : decode cX7_chosen 1 = .ok (.getfield 28, 3) := by decide +kernel
theorem dX7_chosen_4 : decode cX7_chosen 4 = .ok (.iconst 0, 1) := by decide +kernel
theorem dX7_chosen_5 : decode cX7_chosen 5 = .ok (.iaload, 1) := by decide +kernel
theorem dX7_chosen_6 : decode cX7_chosen 6 = .ok (.ireturn, 1) := by decide +kernel
theorem dX7_sum_0 : decode cX7_sum 0 = .ok (.aload_n 0, 1) := by decide +kernel
theorem dX7_sum_1 : decode cX7_sum 1 = .ok (.getfield 31, 3) := by decide +kernel
theorem dX7_sum_4 : decode cX7_sum 4 = .ok (.iconst 0, 1) := by decide +kernel
theorem dX7_sum_5 : decode cX7_sum 5 = .ok (.iaload, 1) := by decide +kernel
theorem dX7_sum_6 : decode cX7_sum 6 = .ok (.ireturn, 1) := by decide +kernel
theorem dX7_missing_0 : decode cX7_missing 0 = .ok (.aload_n 0, 1) := by decide +kernel
theorem dX7_missing_1 : decode cX7_missing 1 = .ok (.getfield 9, 3) := by decide +kernel
theorem dX7_missing_4 : decode cX7_missing 4 = .ok (.aload_n 0, 1) := by decide +kernel
theorem dX7_missing_5 : decode cX7_missing 5 = .ok (.getfield 34, 3) := by decide +kernel
theorem dX7_missing_8 : decode cX7_missing 8 = .ok (.iconst 0, 1) := by decide +kernel
theorem dX7_missing_9 : decode cX7_missing 9 = .ok (.iaload, 1) := by decide +kernel
theorem dX7_missing_10 : decode cX7_missing 10 = .ok (.iconst (-1), 1) := by decide +kernel
theorem dX7_missing_11 : decode cX7_missing 11 = .ok (.ixor, 1) := by decide +kernel
theorem dX7_missing_12 : decode cX7_missing 12 = .ok (.iand, 1) := by decide +kernel
theorem dX7_missing_13 : decode cX7_missing 13 = .ok (.ireturn, 1) := by decide +kernel
theorem dX7_isFullCover_0 : decode cX7_isFullCover 0 = .ok (.aload_n 0, 1) := by decide +kernel
theorem dX7_isFullCover_1 : decode cX7_isFullCover 1 = .ok (.invokevirtual 71, 3) := by decide +kernel
theorem dX7_isFullCover_4 : decode cX7_isFullCover 4 = .ok (.ifCond .ne 7, 3) := by decide +kernel
theorem dX7_isFullCover_7 : decode cX7_isFullCover 7 = .ok (.iconst 1, 1) := by decide +kernel
theorem dX7_isFullCover_8 : decode cX7_isFullCover 8 = .ok (.goto 4, 3) := by decide +kernel
theorem dX7_isFullCover_11 : decode cX7_isFullCover 11 = .ok (.iconst 0, 1) := by decide +kernel
theorem dX7_isFullCover_12 : decode cX7_isFullCover 12 = .ok (.ireturn, 1) := by decide +kernel
theorem dX7_hasNoSpareSet_0 : decode cX7_hasNoSpareSet 0 = .ok (.aload_n 0, 1) := by decide +kernel
theorem dX7_hasNoSpareSet_1 : decode cX7_hasNoSpareSet 1 = .ok (.getfield 9, 3) := by decide +kernel
theorem dX7_hasNoSpareSet_4 : decode cX7_hasNoSpareSet 4 = .ok (.aload_n 0, 1) := by decide +kernel
theorem dX7_hasNoSpareSet_5 : decode cX7_hasNoSpareSet 5 = .ok (.getfield 37, 3) := by decide +kernel
theorem dX7_hasNoSpareSet_8 : decode cX7_hasNoSpareSet 8 = .ok (.iconst 0, 1) := by decide +kernel
theorem dX7_hasNoSpareSet_9 : decode cX7_hasNoSpareSet 9 = .ok (.iaload, 1) := by decide +kernel
theorem dX7_hasNoSpareSet_10 : decode cX7_hasNoSpareSet 10 = .ok (.iconst (-1), 1) := by decide +kernel
theorem dX7_hasNoSpareSet_11 : decode cX7_hasNoSpareSet 11 = .ok (.ixor, 1) := by decide +kernel
theorem dX7_hasNoSpareSet_12 : decode cX7_hasNoSpareSet 12 = .ok (.iand, 1) := by decide +kernel
theorem dX7_hasNoSpareSet_13 : decode cX7_hasNoSpareSet 13 = .ok (.istore_n 1, 1) := by decide +kernel
theorem dX7_hasNoSpareSet_14 : decode cX7_hasNoSpareSet 14 = .ok (.iconst 0, 1) := by decide +kernel
theorem dX7_hasNoSpareSet_15 : decode cX7_hasNoSpareSet 15 = .ok (.istore_n 2, 1) := by decide +kernel
theorem dX7_hasNoSpareSet_16 : decode cX7_hasNoSpareSet 16 = .ok (.iload_n 2, 1) := by decide +kernel
theorem dX7_hasNoSpareSet_17 : decode cX7_hasNoSpareSet 17 = .ok (.aload_n 0, 1) := by decide +kernel
theorem dX7_hasNoSpareSet_18 : decode cX7_hasNoSpareSet 18 = .ok (.getfield 15, 3) := by decide +kernel
theorem dX7_hasNoSpareSet_21 : decode cX7_hasNoSpareSet 21 = .ok (.if_icmp .ge 44, 3) := by decide +kernel
theorem dX7_hasNoSpareSet_24 : decode cX7_hasNoSpareSet 24 = .ok (.iload_n 2, 1) := by decide +kernel
theorem dX7_hasNoSpareSet_25 : decode cX7_hasNoSpareSet 25 = .ok (.bipush 14, 2) := by decide +kernel
theorem dX7_hasNoSpareSet_27 : decode cX7_hasNoSpareSet 27 = .ok (.if_icmp .ge 38, 3) := by decide +kernel
theorem dX7_hasNoSpareSet_30 : decode cX7_hasNoSpareSet 30 = .ok (.aload_n 0, 1) := by decide +kernel
theorem dX7_hasNoSpareSet_31 : decode cX7_hasNoSpareSet 31 = .ok (.getfield 28, 3) := by decide +kernel
theorem dX7_hasNoSpareSet_34 : decode cX7_hasNoSpareSet 34 = .ok (.iconst 0, 1) := by decide +kernel
theorem dX7_hasNoSpareSet_35 : decode cX7_hasNoSpareSet 35 = .ok (.iaload, 1) := by decide +kernel
theorem dX7_hasNoSpareSet_36 : decode cX7_hasNoSpareSet 36 = .ok (.aload_n 0, 1) := by decide +kernel
theorem dX7_hasNoSpareSet_37 : decode cX7_hasNoSpareSet 37 = .ok (.getfield 25, 3) := by decide +kernel
theorem dX7_hasNoSpareSet_40 : decode cX7_hasNoSpareSet 40 = .ok (.iload_n 2, 1) := by decide +kernel
theorem dX7_hasNoSpareSet_41 : decode cX7_hasNoSpareSet 41 = .ok (.iaload, 1) := by decide +kernel
theorem dX7_hasNoSpareSet_42 : decode cX7_hasNoSpareSet 42 = .ok (.iand, 1) := by decide +kernel
theorem dX7_hasNoSpareSet_43 : decode cX7_hasNoSpareSet 43 = .ok (.ifCond .eq 16, 3) := by decide +kernel
theorem dX7_hasNoSpareSet_46 : decode cX7_hasNoSpareSet 46 = .ok (.aload_n 0, 1) := by decide +kernel
theorem dX7_hasNoSpareSet_47 : decode cX7_hasNoSpareSet 47 = .ok (.getfield 18, 3) := by decide +kernel
theorem dX7_hasNoSpareSet_50 : decode cX7_hasNoSpareSet 50 = .ok (.iload_n 2, 1) := by decide +kernel
theorem dX7_hasNoSpareSet_51 : decode cX7_hasNoSpareSet 51 = .ok (.iaload, 1) := by decide +kernel
theorem dX7_hasNoSpareSet_52 : decode cX7_hasNoSpareSet 52 = .ok (.iload_n 1, 1) := by decide +kernel
theorem dX7_hasNoSpareSet_53 : decode cX7_hasNoSpareSet 53 = .ok (.iand, 1) := by decide +kernel
theorem dX7_hasNoSpareSet_54 : decode cX7_hasNoSpareSet 54 = .ok (.ifCond .ne 5, 3) := by decide +kernel
theorem dX7_hasNoSpareSet_57 : decode cX7_hasNoSpareSet 57 = .ok (.iconst 0, 1) := by decide +kernel
theorem dX7_hasNoSpareSet_58 : decode cX7_hasNoSpareSet 58 = .ok (.ireturn, 1) := by decide +kernel
theorem dX7_hasNoSpareSet_59 : decode cX7_hasNoSpareSet 59 = .ok (.iinc 2 1, 3) := by decide +kernel
theorem dX7_hasNoSpareSet_62 : decode cX7_hasNoSpareSet 62 = .ok (.goto (-46), 3) := by decide +kernel
theorem dX7_hasNoSpareSet_65 : decode cX7_hasNoSpareSet 65 = .ok (.iconst 1, 1) := by decide +kernel
theorem dX7_hasNoSpareSet_66 : decode cX7_hasNoSpareSet 66 = .ok (.ireturn, 1) := by decide +kernel
theorem dX8_init_0 : decode cX8_init 0 = .ok (.aload_n 0, 1) := by decide +kernel
theorem dX8_init_1 : decode cX8_init 1 = .ok (.invokespecial 3, 3) := by decide +kernel
theorem dX8_init_4 : decode cX8_init 4 = .ok (.aload_n 0, 1) := by decide +kernel
theorem dX8_init_5 : decode cX8_init 5 = .ok (.new 9, 3) := by decide +kernel
theorem dX8_init_8 : decode cX8_init 8 = .ok (.dup, 1) := by decide +kernel
theorem dX8_init_9 : decode cX8_init 9 = .ok (.invokespecial 11, 3) := by decide +kernel
theorem dX8_init_12 : decode cX8_init 12 = .ok (.putfield 12, 3) := by decide +kernel
theorem dX8_init_15 : decode cX8_init 15 = .ok (.aload_n 0, 1) := by decide +kernel
theorem dX8_init_16 : decode cX8_init 16 = .ok (.new 16, 3) := by decide +kernel
theorem dX8_init_19 : decode cX8_init 19 = .ok (.dup, 1) := by decide +kernel
theorem dX8_init_20 : decode cX8_init 20 = .ok (.invokespecial 18, 3) := by decide +kernel
theorem dX8_init_23 : decode cX8_init 23 = .ok (.putfield 19, 3) := by decide +kernel
theorem dX8_init_26 : decode cX8_init 26 = .ok (.aload_n 0, 1) := by decide +kernel
theorem dX8_init_27 : decode cX8_init 27 = .ok (.new 23, 3) := by decide +kernel
theorem dX8_init_30 : decode cX8_init 30 = .ok (.dup, 1) := by decide +kernel
theorem dX8_init_31 : decode cX8_init 31 = .ok (.invokespecial 25, 3) := by decide +kernel
theorem dX8_init_34 : decode cX8_init 34 = .ok (.putfield 26, 3) := by decide +kernel
theorem dX8_init_37 : decode cX8_init 37 = .ok (.aload_n 0, 1) := by decide +kernel
theorem dX8_init_38 : decode cX8_init 38 = .ok (.new 30, 3) := by decide +kernel
theorem dX8_init_41 : decode cX8_init 41 = .ok (.dup, 1) := by decide +kernel
theorem dX8_init_42 : decode cX8_init 42 = .ok (.invokespecial 32, 3) := by decide +kernel
theorem dX8_init_45 : decode cX8_init 45 = .ok (.putfield 33, 3) := by decide +kernel
theorem dX8_init_48 : decode cX8_init 48 = .ok (.aload_n 0, 1) := by decide +kernel
theorem dX8_init_49 : decode cX8_init 49 = .ok (.new 37, 3) := by decide +kernel
theorem dX8_init_52 : decode cX8_init 52 = .ok (.dup, 1) := by decide +kernel
theorem dX8_init_53 : decode cX8_init 53 = .ok (.invokespecial 39, 3) := by decide +kernel
theorem dX8_init_56 : decode cX8_init 56 = .ok (.putfield 40, 3) := by decide +kernel
theorem dX8_init_59 : decode cX8_init 59 = .ok (.aload_n 0, 1) := by decide +kernel
theorem dX8_init_60 : decode cX8_init 60 = .ok (.new 44, 3) := by decide +kernel
theorem dX8_init_63 : decode cX8_init 63 = .ok (.dup, 1) := by decide +kernel
theorem dX8_init_64 : decode cX8_init 64 = .ok (.invokespecial 46, 3) := by decide +kernel
theorem dX8_init_67 : decode cX8_init 67 = .ok (.putfield 47, 3) := by decide +kernel
theorem dX8_init_70 : decode cX8_init 70 = .ok (.aload_n 0, 1) := by decide +kernel
theorem dX8_init_71 : decode cX8_init 71 = .ok (.new 51, 3) := by decide +kernel
theorem dX8_init_74 : decode cX8_init 74 = .ok (.dup, 1) := by decide +kernel
theorem dX8_init_75 : decode cX8_init 75 = .ok (.invokespecial 53, 3) := by decide +kernel
theorem dX8_init_78 : decode cX8_init 78 = .ok (.putfield 54, 3) := by decide +kernel
theorem dX8_init_81 : decode cX8_init 81 = .ok (.return_, 1) := by decide +kernel
theorem dX8_need_0 : decode cX8_need 0 = .ok (.iload_n 1, 1) := by decide +kernel
theorem dX8_need_1 : decode cX8_need 1 = .ok (.ifCond .lt 9, 3) := by decide +kernel
theorem dX8_need_4 : decode cX8_need 4 = .ok (.iload_n 1, 1) := by decide +kernel
theorem dX8_need_5 : decode cX8_need 5 = .ok (.ldc 58, 2) := by decide +kernel
theorem dX8_need_7 : decode cX8_need 7 = .ok (.if_icmp .le 6, 3) := by decide +kernel
theorem dX8_need_10 : decode cX8_need 10 = .ok (.bipush (-2), 2) := by decide +kernel
theorem dX8_need_12 : decode cX8_need 12 = .ok (.ireturn, 1) := by decide +kernel
theorem dX8_need_13 : decode cX8_need 13 = .ok (.aload_n 0, 1) := by decide +kernel
theorem dX8_need_14 : decode cX8_need 14 = .ok (.getfield 19, 3) := by decide +kernel
theorem dX8_need_17 : decode cX8_need 17 = .ok (.aload_n 0, 1) := by decide +kernel
theorem dX8_need_18 : decode cX8_need 18 = .ok (.getfield 12, 3) := by decide +kernel
theorem dX8_need_21 : decode cX8_need 21 = .ok (.invokevirtual 59, 3) := by decide +kernel
theorem dX8_need_24 : decode cX8_need 24 = .ok (.aload_n 0, 1) := by decide +kernel
theorem dX8_need_25 : decode cX8_need 25 = .ok (.getfield 12, 3) := by decide +kernel
theorem dX8_need_28 : decode cX8_need 28 = .ok (.getfield 63, 3) := by decide +kernel
theorem dX8_need_31 : decode cX8_need 31 = .ok (.istore_n 2, 1) := by decide +kernel
theorem dX8_need_32 : decode cX8_need 32 = .ok (.aload_n 0, 1) := by decide +kernel
theorem dX8_need_33 : decode cX8_need 33 = .ok (.getfield 12, 3) := by decide +kernel
theorem dX8_need_36 : decode cX8_need 36 = .ok (.iload_n 1, 1) := by decide +kernel
theorem dX8_need_37 : decode cX8_need 37 = .ok (.putfield 63, 3) := by decide +kernel
theorem dX8_need_40 : decode cX8_need 40 = .ok (.iload_n 2, 1) := by decide +kernel
theorem dX8_need_41 : decode cX8_need 41 = .ok (.ireturn, 1) := by decide +kernel
theorem dX8_set_0 : decode cX8_set 0 = .ok (.iload_n 1, 1) := by decide +kernel
theorem dX8_set_1 : decode cX8_set 1 = .ok (.invokestatic 67, 3) := by decide +kernel
theorem dX8_set_4 : decode cX8_set 4 = .ok (.ifCond .eq 10, 3) := by decide +kernel
theorem dX8_set_7 : decode cX8_set 7 = .ok (.iload_n 2, 1) := by decide +kernel
theorem dX8_set_8 : decode cX8_set 8 = .ok (.invokestatic 71, 3) := by decide +kernel
theorem dX8_set_11 : decode cX8_set 11 = .ok (.ifCond .ne 6, 3) := by decide +kernel
theorem dX8_set_14 : decode cX8_set 14 = .ok (.bipush (-2), 2) := by decide +kernel
theorem dX8_set_16 : decode cX8_set 16 = .ok (.ireturn, 1) := by decide +kernel
theorem dX8_set_17 : decode cX8_set 17 = .ok (.aload_n 0, 1) := by decide +kernel
theorem dX8_set_18 : decode cX8_set 18 = .ok (.getfield 12, 3) := by decide +kernel
theorem dX8_set_21 : decode cX8_set 21 = .ok (.getfield 74, 3) := by decide +kernel
theorem dX8_set_24 : decode cX8_set 24 = .ok (.bipush 14, 2) := by decide +kernel
theorem dX8_set_26 : decode cX8_set 26 = .ok (.if_icmp .lt 6, 3) := by decide +kernel
theorem dX8_set_29 : decode cX8_set 29 = .ok (.bipush (-4), 2) := by decide +kernel
theorem dX8_set_31 : decode cX8_set 31 = .ok (.ireturn, 1) := by decide +kernel
theorem dX8_set_32 : decode cX8_set 32 = .ok (.aload_n 0, 1) := by decide +kernel
theorem dX8_set_33 : decode cX8_set 33 = .ok (.getfield 19, 3) := by decide +kernel
theorem dX8_set_36 : decode cX8_set 36 = .ok (.aload_n 0, 1) := by decide +kernel
theorem dX8_set_37 : decode cX8_set 37 = .ok (.getfield 12, 3) := by decide +kernel
theorem dX8_set_40 : decode cX8_set 40 = .ok (.invokevirtual 59, 3) := by decide +kernel
theorem dX8_set_43 : decode cX8_set 43 = .ok (.aload_n 0, 1) := by decide +kernel
theorem dX8_set_44 : decode cX8_set 44 = .ok (.getfield 12, 3) := by decide +kernel
theorem dX8_set_47 : decode cX8_set 47 = .ok (.iload_n 1, 1) := by decide +kernel
theorem dX8_set_48 : decode cX8_set 48 = .ok (.iload_n 2, 1) := by decide +kernel
theorem dX8_set_49 : decode cX8_set 49 = .ok (.invokevirtual 77, 3) := by decide +kernel
theorem dX8_set_52 : decode cX8_set 52 = .ok (.aload_n 0, 1) := by decide +kernel
theorem dX8_set_53 : decode cX8_set 53 = .ok (.getfield 12, 3) := by decide +kernel
theorem dX8_set_56 : decode cX8_set 56 = .ok (.getfield 74, 3) := by decide +kernel
theorem dX8_set_59 : decode cX8_set 59 = .ok (.iconst 1, 1) := by decide +kernel
theorem dX8_set_60 : decode cX8_set 60 = .ok (.isub, 1) := by decide +kernel
theorem dX8_set_61 : decode cX8_set 61 = .ok (.ireturn, 1) := by decide +kernel
theorem dX8_price_0 : decode cX8_price 0 = .ok (.aload_n 0, 1) := by decide +kernel
theorem dX8_price_1 : decode cX8_price 1 = .ok (.getfield 12, 3) := by decide +kernel
theorem dX8_price_4 : decode cX8_price 4 = .ok (.iload_n 1, 1) := by decide +kernel
theorem dX8_price_5 : decode cX8_price 5 = .ok (.invokevirtual 81, 3) := by decide +kernel
theorem dX8_price_8 : decode cX8_price 8 = .ok (.ifCond .ne 5, 3) := by decide +kernel
theorem dX8_price_11 : decode cX8_price 11 = .ok (.iconst (-1), 1) := by decide +kernel
theorem dX8_price_12 : decode cX8_price 12 = .ok (.ireturn, 1) := by decide +kernel
theorem dX8_price_13 : decode cX8_price 13 = .ok (.iload_n 2, 1) := by decide +kernel
theorem dX8_price_14 : decode cX8_price 14 = .ok (.invokestatic 71, 3) := by decide +kernel
theorem dX8_price_17 : decode cX8_price 17 = .ok (.ifCond .ne 6, 3) := by decide +kernel
theorem dX8_price_20 : decode cX8_price 20 = .ok (.bipush (-2), 2) := by decide +kernel
theorem dX8_price_22 : decode cX8_price 22 = .ok (.ireturn, 1) := by decide +kernel
theorem dX8_price_23 : decode cX8_price 23 = .ok (.aload_n 0, 1) := by decide +kernel
theorem dX8_price_24 : decode cX8_price 24 = .ok (.getfield 19, 3) := by decide +kernel
theorem dX8_price_27 : decode cX8_price 27 = .ok (.aload_n 0, 1) := by decide +kernel
theorem dX8_price_28 : decode cX8_price 28 = .ok (.getfield 12, 3) := by decide +kernel
theorem dX8_price_31 : decode cX8_price 31 = .ok (.invokevirtual 59, 3) := by decide +kernel
theorem dX8_price_34 : decode cX8_price 34 = .ok (.aload_n 0, 1) := by decide +kernel
theorem dX8_price_35 : decode cX8_price 35 = .ok (.getfield 12, 3) := by decide +kernel
theorem dX8_price_38 : decode cX8_price 38 = .ok (.getfield 84, 3) := by decide +kernel
theorem dX8_price_41 : decode cX8_price 41 = .ok (.iload_n 1, 1) := by decide +kernel
theorem dX8_price_42 : decode cX8_price 42 = .ok (.iaload, 1) := by decide +kernel
theorem dX8_price_43 : decode cX8_price 43 = .ok (.istore_n 3, 1) := by decide +kernel
theorem dX8_price_44 : decode cX8_price 44 = .ok (.aload_n 0, 1) := by decide +kernel
theorem dX8_price_45 : decode cX8_price 45 = .ok (.getfield 12, 3) := by decide +kernel
theorem dX8_price_48 : decode cX8_price 48 = .ok (.getfield 84, 3) := by decide +kernel
theorem dX8_price_51 : decode cX8_price 51 = .ok (.iload_n 1, 1) := by decide +kernel
theorem dX8_price_52 : decode cX8_price 52 = .ok (.iload_n 2, 1) := by decide +kernel
theorem dX8_price_53 : decode cX8_price 53 = .ok (.iastore, 1) := by decide +kernel
theorem dX8_price_54 : decode cX8_price 54 = .ok (.iload_n 3, 1) := by decide +kernel
theorem dX8_price_55 : decode cX8_price 55 = .ok (.ireturn, 1) := by decide +kernel
theorem dX8_mark_0 : decode cX8_mark 0 = .ok (.aload_n 0, 1) := by decide +kernel
theorem dX8_mark_1 : decode cX8_mark 1 = .ok (.getfield 12, 3) := by decide +kernel
theorem dX8_mark_4 : decode cX8_mark 4 = .ok (.iload_n 1, 1) := by decide +kernel
theorem dX8_mark_5 : decode cX8_mark 5 = .ok (.invokevirtual 81, 3) := by decide +kernel
theorem dX8_mark_8 : decode cX8_mark 8 = .ok (.ifCond .ne 5, 3) := by decide +kernel
theorem dX8_mark_11 : decode cX8_mark 11 = .ok (.iconst (-1), 1) := by decide +kernel
theorem dX8_mark_12 : decode cX8_mark 12 = .ok (.ireturn, 1) := by decide +kernel
theorem dX8_mark_13 : decode cX8_mark 13 = .ok (.iload_n 2, 1) := by decide +kernel
theorem dX8_mark_14 : decode cX8_mark 14 = .ok (.ifCond .lt 8, 3) := by decide +kernel
theorem dX8_mark_17 : decode cX8_mark 17 = .ok (.iload_n 2, 1) := by decide +kernel
theorem dX8_mark_18 : decode cX8_mark 18 = .ok (.iconst 2, 1) := by decide +kernel
theorem dX8_mark_19 : decode cX8_mark 19 = .ok (.if_icmp .le 6, 3) := by decide +kernel
theorem dX8_mark_22 : decode cX8_mark 22 = .ok (.bipush (-2), 2) := by decide +kernel
theorem dX8_mark_24 : decode cX8_mark 24 = .ok (.ireturn, 1) := by decide +kernel
theorem dX8_mark_25 : decode cX8_mark 25 = .ok (.aload_n 0, 1) := by decide +kernel
theorem dX8_mark_26 : decode cX8_mark 26 = .ok (.getfield 19, 3) := by decide +kernel
theorem dX8_mark_29 : decode cX8_mark 29 = .ok (.aload_n 0, 1) := by decide +kernel
theorem dX8_mark_30 : decode cX8_mark 30 = .ok (.getfield 12, 3) := by decide +kernel
theorem dX8_mark_33 : decode cX8_mark 33 = .ok (.invokevirtual 59, 3) := by decide +kernel
theorem dX8_mark_36 : decode cX8_mark 36 = .ok (.aload_n 0, 1) := by decide +kernel
theorem dX8_mark_37 : decode cX8_mark 37 = .ok (.getfield 12, 3) := by decide +kernel
theorem dX8_mark_40 : decode cX8_mark 40 = .ok (.getfield 88, 3) := by decide +kernel
theorem dX8_mark_43 : decode cX8_mark 43 = .ok (.iload_n 1, 1) := by decide +kernel
theorem dX8_mark_44 : decode cX8_mark 44 = .ok (.iaload, 1) := by decide +kernel
theorem dX8_mark_45 : decode cX8_mark 45 = .ok (.istore_n 3, 1) := by decide +kernel
theorem dX8_mark_46 : decode cX8_mark 46 = .ok (.aload_n 0, 1) := by decide +kernel
theorem dX8_mark_47 : decode cX8_mark 47 = .ok (.getfield 12, 3) := by decide +kernel
theorem dX8_mark_50 : decode cX8_mark 50 = .ok (.getfield 88, 3) := by decide +kernel
theorem dX8_mark_53 : decode cX8_mark 53 = .ok (.iload_n 1, 1) := by decide +kernel
theorem dX8_mark_54 : decode cX8_mark 54 = .ok (.iload_n 2, 1) := by decide +kernel
theorem dX8_mark_55 : decode cX8_mark 55 = .ok (.iastore, 1) := by decide +kernel
theorem dX8_mark_56 : decode cX8_mark 56 = .ok (.iload_n 3, 1) := by decide +kernel
theorem dX8_mark_57 : decode cX8_mark 57 = .ok (.ireturn, 1) := by decide +kernel
theorem dX8_turn_0 : decode cX8_turn 0 = .ok (.aload_n 0, 1) := by decide +kernel
theorem dX8_turn_1 : decode cX8_turn 1 = .ok (.getfield 12, 3) := by decide +kernel
theorem dX8_turn_4 : decode cX8_turn 4 = .ok (.iload_n 1, 1) := by decide +kernel
theorem dX8_turn_5 : decode cX8_turn 5 = .ok (.invokevirtual 81, 3) := by decide +kernel
theorem dX8_turn_8 : decode cX8_turn 8 = .ok (.ifCond .ne 5, 3) := by decide +kernel
theorem dX8_turn_11 : decode cX8_turn 11 = .ok (.iconst (-1), 1) := by decide +kernel
theorem dX8_turn_12 : decode cX8_turn 12 = .ok (.ireturn, 1) := by decide +kernel
theorem dX8_turn_13 : decode cX8_turn 13 = .ok (.iload_n 2, 1) := by decide +kernel
theorem dX8_turn_14 : decode cX8_turn 14 = .ok (.invokestatic 67, 3) := by decide +kernel
theorem dX8_turn_17 : decode cX8_turn 17 = .ok (.ifCond .ne 6, 3) := by decide +kernel
theorem dX8_turn_20 : decode cX8_turn 20 = .ok (.bipush (-2), 2) := by decide +kernel
theorem dX8_turn_22 : decode cX8_turn 22 = .ok (.ireturn, 1) := by decide +kernel
theorem dX8_turn_23 : decode cX8_turn 23 = .ok (.aload_n 0, 1) := by decide +kernel
theorem dX8_turn_24 : decode cX8_turn 24 = .ok (.getfield 12, 3) := by decide +kernel
theorem dX8_turn_27 : decode cX8_turn 27 = .ok (.getfield 91, 3) := by decide +kernel
theorem dX8_turn_30 : decode cX8_turn 30 = .ok (.iload_n 1, 1) := by decide +kernel
theorem dX8_turn_31 : decode cX8_turn 31 = .ok (.iaload, 1) := by decide +kernel
theorem dX8_turn_32 : decode cX8_turn 32 = .ok (.iload_n 2, 1) := by decide +kernel
theorem dX8_turn_33 : decode cX8_turn 33 = .ok (.ixor, 1) := by decide +kernel
theorem dX8_turn_34 : decode cX8_turn 34 = .ok (.istore_n 3, 1) := by decide +kernel
theorem dX8_turn_35 : decode cX8_turn 35 = .ok (.iload_n 3, 1) := by decide +kernel
theorem dX8_turn_36 : decode cX8_turn 36 = .ok (.ifCond .ne 6, 3) := by decide +kernel
theorem dX8_turn_39 : decode cX8_turn 39 = .ok (.bipush (-5), 2) := by decide +kernel
theorem dX8_turn_41 : decode cX8_turn 41 = .ok (.ireturn, 1) := by decide +kernel
theorem dX8_turn_42 : decode cX8_turn 42 = .ok (.aload_n 0, 1) := by decide +kernel
theorem dX8_turn_43 : decode cX8_turn 43 = .ok (.getfield 19, 3) := by decide +kernel
theorem dX8_turn_46 : decode cX8_turn 46 = .ok (.aload_n 0, 1) := by decide +kernel
theorem dX8_turn_47 : decode cX8_turn 47 = .ok (.getfield 12, 3) := by decide +kernel
theorem dX8_turn_50 : decode cX8_turn 50 = .ok (.invokevirtual 59, 3) := by decide +kernel
theorem dX8_turn_53 : decode cX8_turn 53 = .ok (.aload_n 0, 1) := by decide +kernel
theorem dX8_turn_54 : decode cX8_turn 54 = .ok (.getfield 12, 3) := by decide +kernel
theorem dX8_turn_57 : decode cX8_turn 57 = .ok (.getfield 91, 3) := by decide +kernel
theorem dX8_turn_60 : decode cX8_turn 60 = .ok (.iload_n 1, 1) := by decide +kernel
theorem dX8_turn_61 : decode cX8_turn 61 = .ok (.iload_n 3, 1) := by decide +kernel
theorem dX8_turn_62 : decode cX8_turn 62 = .ok (.iastore, 1) := by decide +kernel
theorem dX8_turn_63 : decode cX8_turn 63 = .ok (.iload_n 3, 1) := by decide +kernel
theorem dX8_turn_64 : decode cX8_turn 64 = .ok (.ireturn, 1) := by decide +kernel
theorem dX8_drop_0 : decode cX8_drop 0 = .ok (.aload_n 0, 1) := by decide +kernel
theorem dX8_drop_1 : decode cX8_drop 1 = .ok (.getfield 12, 3) := by decide +kernel
theorem dX8_drop_4 : decode cX8_drop 4 = .ok (.iload_n 1, 1) := by decide +kernel
theorem dX8_drop_5 : decode cX8_drop 5 = .ok (.invokevirtual 81, 3) := by decide +kernel
theorem dX8_drop_8 : decode cX8_drop 8 = .ok (.ifCond .ne 5, 3) := by decide +kernel
theorem dX8_drop_11 : decode cX8_drop 11 = .ok (.iconst (-1), 1) := by decide +kernel
theorem dX8_drop_12 : decode cX8_drop 12 = .ok (.ireturn, 1) := by decide +kernel
theorem dX8_drop_13 : decode cX8_drop 13 = .ok (.aload_n 0, 1) := by decide +kernel
theorem dX8_drop_14 : decode cX8_drop 14 = .ok (.getfield 19, 3) := by decide +kernel
theorem dX8_drop_17 : decode cX8_drop 17 = .ok (.aload_n 0, 1) := by decide +kernel
theorem dX8_drop_18 : decode cX8_drop 18 = .ok (.getfield 12, 3) := by decide +kernel
theorem dX8_drop_21 : decode cX8_drop 21 = .ok (.invokevirtual 59, 3) := by decide +kernel
theorem dX8_drop_24 : decode cX8_drop 24 = .ok (.aload_n 0, 1) := by decide +kernel
theorem dX8_drop_25 : decode cX8_drop 25 = .ok (.getfield 12, 3) := by decide +kernel
theorem dX8_drop_28 : decode cX8_drop 28 = .ok (.iload_n 1, 1) := by decide +kernel
theorem dX8_drop_29 : decode cX8_drop 29 = .ok (.invokevirtual 94, 3) := by decide +kernel
theorem dX8_drop_32 : decode cX8_drop 32 = .ok (.aload_n 0, 1) := by decide +kernel
theorem dX8_drop_33 : decode cX8_drop 33 = .ok (.getfield 12, 3) := by decide +kernel
theorem dX8_drop_36 : decode cX8_drop 36 = .ok (.getfield 74, 3) := by decide +kernel
theorem dX8_drop_39 : decode cX8_drop 39 = .ok (.ireturn, 1) := by decide +kernel
theorem dX8_put_0 : decode cX8_put 0 = .ok (.aload_n 0, 1) := by decide +kernel
theorem dX8_put_1 : decode cX8_put 1 = .ok (.getfield 33, 3) := by decide +kernel
theorem dX8_put_4 : decode cX8_put 4 = .ok (.lload_n 1, 1) := by decide +kernel
theorem dX8_put_5 : decode cX8_put 5 = .ok (.invokevirtual 98, 3) := by decide +kernel
theorem dX8_put_8 : decode cX8_put 8 = .ok (.ireturn, 1) := by decide +kernel
theorem dX8_wipe_0 : decode cX8_wipe 0 = .ok (.aload_n 0, 1) := by decide +kernel
theorem dX8_wipe_1 : decode cX8_wipe 1 = .ok (.getfield 33, 3) := by decide +kernel
theorem dX8_wipe_4 : decode cX8_wipe 4 = .ok (.getfield 101, 3) := by decide +kernel
theorem dX8_wipe_7 : decode cX8_wipe 7 = .ok (.istore_n 1, 1) := by decide +kernel
theorem dX8_wipe_8 : decode cX8_wipe 8 = .ok (.aload_n 0, 1) := by decide +kernel
theorem dX8_wipe_9 : decode cX8_wipe 9 = .ok (.getfield 33, 3) := by decide +kernel
theorem dX8_wipe_12 : decode cX8_wipe 12 = .ok (.iconst 0, 1) := by decide +kernel
theorem dX8_wipe_13 : decode cX8_wipe 13 = .ok (.putfield 101, 3) := by decide +kernel
theorem dX8_wipe_16 : decode cX8_wipe 16 = .ok (.iload_n 1, 1) := by decide +kernel
theorem dX8_wipe_17 : decode cX8_wipe 17 = .ok (.ireturn, 1) := by decide +kernel
theorem dX8_fault_0 : decode cX8_fault 0 = .ok (.aload_n 0, 1) := by decide +kernel
theorem dX8_fault_1 : decode cX8_fault 1 = .ok (.getfield 33, 3) := by decide +kernel
theorem dX8_fault_4 : decode cX8_fault 4 = .ok (.invokevirtual 104, 3) := by decide +kernel
theorem dX8_fault_7 : decode cX8_fault 7 = .ok (.ireturn, 1) := by decide +kernel
theorem dX8_load_0 : decode cX8_load 0 = .ok (.aload_n 0, 1) := by decide +kernel
theorem dX8_load_1 : decode cX8_load 1 = .ok (.getfield 33, 3) := by decide +kernel
theorem dX8_load_4 : decode cX8_load 4 = .ok (.invokevirtual 104, 3) := by decide +kernel
theorem dX8_load_7 : decode cX8_load 7 = .ok (.bipush (-6), 2) := by decide +kernel
theorem dX8_load_9 : decode cX8_load 9 = .ok (.if_icmp .eq 6, 3) := by decide +kernel
theorem dX8_load_12 : decode cX8_load 12 = .ok (.bipush (-3), 2) := by decide +kernel
theorem dX8_load_14 : decode cX8_load 14 = .ok (.ireturn, 1) := by decide +kernel
theorem dX8_load_15 : decode cX8_load 15 = .ok (.aload_n 0, 1) := by decide +kernel
theorem dX8_load_16 : decode cX8_load 16 = .ok (.getfield 12, 3) := by decide +kernel
theorem dX8_load_19 : decode cX8_load 19 = .ok (.getfield 74, 3) := by decide +kernel
theorem dX8_load_22 : decode cX8_load 22 = .ok (.aload_n 0, 1) := by decide +kernel
theorem dX8_load_23 : decode cX8_load 23 = .ok (.getfield 33, 3) := by decide +kernel
theorem dX8_load_26 : decode cX8_load 26 = .ok (.getfield 108, 3) := by decide +kernel
theorem dX8_load_29 : decode cX8_load 29 = .ok (.iadd, 1) := by decide +kernel
theorem dX8_load_30 : decode cX8_load 30 = .ok (.bipush 14, 2) := by decide +kernel
theorem dX8_load_32 : decode cX8_load 32 = .ok (.if_icmp .le 6, 3) := by decide +kernel
theorem dX8_load_35 : decode cX8_load 35 = .ok (.bipush (-4), 2) := by decide +kernel
theorem dX8_load_37 : decode cX8_load 37 = .ok (.ireturn, 1) := by decide +kernel
theorem dX8_load_38 : decode cX8_load 38 = .ok (.aload_n 0, 1) := by decide +kernel
theorem dX8_load_39 : decode cX8_load 39 = .ok (.getfield 19, 3) := by decide +kernel
theorem dX8_load_42 : decode cX8_load 42 = .ok (.aload_n 0, 1) := by decide +kernel
theorem dX8_load_43 : decode cX8_load 43 = .ok (.getfield 12, 3) := by decide +kernel
theorem dX8_load_46 : decode cX8_load 46 = .ok (.invokevirtual 59, 3) := by decide +kernel
theorem dX8_load_49 : decode cX8_load 49 = .ok (.aload_n 0, 1) := by decide +kernel
theorem dX8_load_50 : decode cX8_load 50 = .ok (.getfield 33, 3) := by decide +kernel
theorem dX8_load_53 : decode cX8_load 53 = .ok (.aload_n 0, 1) := by decide +kernel
theorem dX8_load_54 : decode cX8_load 54 = .ok (.getfield 12, 3) := by decide +kernel
theorem dX8_load_57 : decode cX8_load 57 = .ok (.invokevirtual 111, 3) := by decide +kernel
theorem dX8_load_60 : decode cX8_load 60 = .ok (.aload_n 0, 1) := by decide +kernel
theorem dX8_load_61 : decode cX8_load 61 = .ok (.getfield 33, 3) := by decide +kernel
theorem dX8_load_64 : decode cX8_load 64 = .ok (.iconst 0, 1) := by decide +kernel
theorem dX8_load_65 : decode cX8_load 65 = .ok (.putfield 101, 3) := by decide +kernel
theorem dX8_load_68 : decode cX8_load 68 = .ok (.aload_n 0, 1) := by decide +kernel
theorem dX8_load_69 : decode cX8_load 69 = .ok (.getfield 33, 3) := by decide +kernel
theorem dX8_load_72 : decode cX8_load 72 = .ok (.getfield 108, 3) := by decide +kernel
theorem dX8_load_75 : decode cX8_load 75 = .ok (.ireturn, 1) := by decide +kernel
theorem dX8_ofSet_0 : decode cX8_ofSet 0 = .ok (.aload_n 0, 1) := by decide +kernel
theorem dX8_ofSet_1 : decode cX8_ofSet 1 = .ok (.getfield 12, 3) := by decide +kernel
theorem dX8_ofSet_4 : decode cX8_ofSet 4 = .ok (.iload_n 1, 1) := by decide +kernel
theorem dX8_ofSet_5 : decode cX8_ofSet 5 = .ok (.invokevirtual 81, 3) := by decide +kernel
theorem dX8_ofSet_8 : decode cX8_ofSet 8 = .ok (.ifCond .ne 5, 3) := by decide +kernel
theorem dX8_ofSet_11 : decode cX8_ofSet 11 = .ok (.iconst (-1), 1) := by decide +kernel
theorem dX8_ofSet_12 : decode cX8_ofSet 12 = .ok (.ireturn, 1) := by decide +kernel
theorem dX8_ofSet_13 : decode cX8_ofSet 13 = .ok (.iload_n 2, 1) := by decide +kernel
theorem dX8_ofSet_14 : decode cX8_ofSet 14 = .ok (.tableswitch 92 0 7 #[46, 56, 66, 76, 76, 76, 76, 83], 46) := by decide +kernel
theorem dX8_ofSet_60 : decode cX8_ofSet 60 = .ok (.aload_n 0, 1) := by decide +kernel
theorem dX8_ofSet_61 : decode cX8_ofSet 61 = .ok (.getfield 12, 3) := by decide +kernel
theorem dX8_ofSet_64 : decode cX8_ofSet 64 = .ok (.getfield 91, 3) := by decide +kernel
theorem dX8_ofSet_67 : decode cX8_ofSet 67 = .ok (.iload_n 1, 1) := by decide +kernel
theorem dX8_ofSet_68 : decode cX8_ofSet 68 = .ok (.iaload, 1) := by decide +kernel
theorem dX8_ofSet_69 : decode cX8_ofSet 69 = .ok (.ireturn, 1) := by decide +kernel
theorem dX8_ofSet_70 : decode cX8_ofSet 70 = .ok (.aload_n 0, 1) := by decide +kernel
theorem dX8_ofSet_71 : decode cX8_ofSet 71 = .ok (.getfield 12, 3) := by decide +kernel
theorem dX8_ofSet_74 : decode cX8_ofSet 74 = .ok (.getfield 84, 3) := by decide +kernel
theorem dX8_ofSet_77 : decode cX8_ofSet 77 = .ok (.iload_n 1, 1) := by decide +kernel
theorem dX8_ofSet_78 : decode cX8_ofSet 78 = .ok (.iaload, 1) := by decide +kernel
theorem dX8_ofSet_79 : decode cX8_ofSet 79 = .ok (.ireturn, 1) := by decide +kernel
theorem dX8_ofSet_80 : decode cX8_ofSet 80 = .ok (.aload_n 0, 1) := by decide +kernel
theorem dX8_ofSet_81 : decode cX8_ofSet 81 = .ok (.getfield 12, 3) := by decide +kernel
theorem dX8_ofSet_84 : decode cX8_ofSet 84 = .ok (.getfield 88, 3) := by decide +kernel
theorem dX8_ofSet_87 : decode cX8_ofSet 87 = .ok (.iload_n 1, 1) := by decide +kernel
theorem dX8_ofSet_88 : decode cX8_ofSet 88 = .ok (.iaload, 1) := by decide +kernel
theorem dX8_ofSet_89 : decode cX8_ofSet 89 = .ok (.ireturn, 1) := by decide +kernel
theorem dX8_ofSet_90 : decode cX8_ofSet 90 = .ok (.aload_n 0, 1) := by decide +kernel
theorem dX8_ofSet_91 : decode cX8_ofSet 91 = .ok (.iload_n 1, 1) := by decide +kernel
theorem dX8_ofSet_92 : decode cX8_ofSet 92 = .ok (.iload_n 2, 1) := by decide +kernel
theorem dX8_ofSet_93 : decode cX8_ofSet 93 = .ok (.invokevirtual 114, 3) := by decide +kernel
theorem dX8_ofSet_96 : decode cX8_ofSet 96 = .ok (.ireturn, 1) := by decide +kernel
theorem dX8_ofSet_97 : decode cX8_ofSet 97 = .ok (.aload_n 0, 1) := by decide +kernel
theorem dX8_ofSet_98 : decode cX8_ofSet 98 = .ok (.getfield 12, 3) := by decide +kernel
theorem dX8_ofSet_101 : decode cX8_ofSet 101 = .ok (.iload_n 1, 1) := by decide +kernel
theorem dX8_ofSet_102 : decode cX8_ofSet 102 = .ok (.invokevirtual 118, 3) := by decide +kernel
theorem dX8_ofSet_105 : decode cX8_ofSet 105 = .ok (.ireturn, 1) := by decide +kernel
theorem dX8_ofSet_106 : decode cX8_ofSet 106 = .ok (.bipush (-2), 2) := by decide +kernel
theorem dX8_ofSet_108 : decode cX8_ofSet 108 = .ok (.ireturn, 1) := by decide +kernel
theorem dX8_ofSetByShares_0 : decode cX8_ofSetByShares 0 = .ok (.aload_n 0, 1) := by decide +kernel
theorem dX8_ofSetByShares_1 : decode cX8_ofSetByShares 1 = .ok (.getfield 12, 3) := by decide +kernel
theorem dX8_ofSetByShares_4 : decode cX8_ofSetByShares 4 = .ok (.invokevirtual 122, 3) := by decide +kernel
theorem dX8_ofSetByShares_7 : decode cX8_ofSetByShares 7 = .ok (.ifCond .ne 6, 3) := by decide +kernel
theorem dX8_ofSetByShares_10 : decode cX8_ofSetByShares 10 = .ok (.bipush (-5), 2) := by decide +kernel
theorem dX8_ofSetByShares_12 : decode cX8_ofSetByShares 12 = .ok (.ireturn, 1) := by decide +kernel
theorem dX8_ofSetByShares_13 : decode cX8_ofSetByShares 13 = .ok (.aload_n 0, 1) := by decide +kernel
theorem dX8_ofSetByShares_14 : decode cX8_ofSetByShares 14 = .ok (.getfield 40, 3) := by decide +kernel
theorem dX8_ofSetByShares_17 : decode cX8_ofSetByShares 17 = .ok (.aload_n 0, 1) := by decide +kernel
theorem dX8_ofSetByShares_18 : decode cX8_ofSetByShares 18 = .ok (.getfield 12, 3) := by decide +kernel
theorem dX8_ofSetByShares_21 : decode cX8_ofSetByShares 21 = .ok (.invokevirtual 126, 3) := by decide +kernel
theorem dX8_ofSetByShares_24 : decode cX8_ofSetByShares 24 = .ok (.iload_n 2, 1) := by decide +kernel
theorem dX8_ofSetByShares_25 : decode cX8_ofSetByShares 25 = .ok (.tableswitch 67 3 5 #[27, 37, 57], 27) := by decide +kernel
theorem dX8_ofSetByShares_52 : decode cX8_ofSetByShares 52 = .ok (.aload_n 0, 1) := by decide +kernel
theorem dX8_ofSetByShares_53 : decode cX8_ofSetByShares 53 = .ok (.getfield 40, 3) := by decide +kernel
theorem dX8_ofSetByShares_56 : decode cX8_ofSetByShares 56 = .ok (.getfield 129, 3) := by decide +kernel
theorem dX8_ofSetByShares_59 : decode cX8_ofSetByShares 59 = .ok (.iload_n 1, 1) := by decide +kernel
theorem dX8_ofSetByShares_60 : decode cX8_ofSetByShares 60 = .ok (.iaload, 1) := by decide +kernel
theorem dX8_ofSetByShares_61 : decode cX8_ofSetByShares 61 = .ok (.ireturn, 1) := by decide +kernel
theorem dX8_ofSetByShares_62 : decode cX8_ofSetByShares 62 = .ok (.aload_n 0, 1) := by decide +kernel
theorem dX8_ofSetByShares_63 : decode cX8_ofSetByShares 63 = .ok (.getfield 40, 3) := by decide +kernel
theorem dX8_ofSetByShares_66 : decode cX8_ofSetByShares 66 = .ok (.getfield 132, 3) := by decide +kernel
theorem dX8_ofSetByShares_69 : decode cX8_ofSetByShares 69 = .ok (.iload_n 1, 1) := by decide +kernel
theorem dX8_ofSetByShares_70 : decode cX8_ofSetByShares 70 = .ok (.invokestatic 135, 3) := by decide +kernel
theorem dX8_ofSetByShares_73 : decode cX8_ofSetByShares 73 = .ok (.ifCond .eq 7, 3) := by decide +kernel
theorem dX8_ofSetByShares_76 : decode cX8_ofSetByShares 76 = .ok (.iconst 1, 1) := by decide +kernel
theorem dX8_ofSetByShares_77 : decode cX8_ofSetByShares 77 = .ok (.goto 4, 3) := by decide +kernel
theorem dX8_ofSetByShares_80 : decode cX8_ofSetByShares 80 = .ok (.iconst 0, 1) := by decide +kernel
theorem dX8_ofSetByShares_81 : decode cX8_ofSetByShares 81 = .ok (.ireturn, 1) := by decide +kernel
theorem dX8_ofSetByShares_82 : decode cX8_ofSetByShares 82 = .ok (.aload_n 0, 1) := by decide +kernel
theorem dX8_ofSetByShares_83 : decode cX8_ofSetByShares 83 = .ok (.getfield 40, 3) := by decide +kernel
theorem dX8_ofSetByShares_86 : decode cX8_ofSetByShares 86 = .ok (.getfield 139, 3) := by decide +kernel
theorem dX8_ofSetByShares_89 : decode cX8_ofSetByShares 89 = .ok (.iload_n 1, 1) := by decide +kernel
theorem dX8_ofSetByShares_90 : decode cX8_ofSetByShares 90 = .ok (.iaload, 1) := by decide +kernel
theorem dX8_ofSetByShares_91 : decode cX8_ofSetByShares 91 = .ok (.ireturn, 1) := by decide +kernel
theorem dX8_ofSetByShares_92 : decode cX8_ofSetByShares 92 = .ok (.aload_n 0, 1) := by decide +kernel
theorem dX8_ofSetByShares_93 : decode cX8_ofSetByShares 93 = .ok (.getfield 40, 3) := by decide +kernel
theorem dX8_ofSetByShares_96 : decode cX8_ofSetByShares 96 = .ok (.getfield 142, 3) := by decide +kernel
theorem dX8_ofSetByShares_99 : decode cX8_ofSetByShares 99 = .ok (.iload_n 1, 1) := by decide +kernel
theorem dX8_ofSetByShares_100 : decode cX8_ofSetByShares 100 = .ok (.invokestatic 135, 3) := by decide +kernel
theorem dX8_ofSetByShares_103 : decode cX8_ofSetByShares 103 = .ok (.ifCond .eq 7, 3) := by decide +kernel
theorem dX8_ofSetByShares_106 : decode cX8_ofSetByShares 106 = .ok (.iconst 1, 1) := by decide +kernel
theorem dX8_ofSetByShares_107 : decode cX8_ofSetByShares 107 = .ok (.goto 4, 3) := by decide +kernel
theorem dX8_ofSetByShares_110 : decode cX8_ofSetByShares 110 = .ok (.iconst 0, 1) := by decide +kernel
theorem dX8_ofSetByShares_111 : decode cX8_ofSetByShares 111 = .ok (.ireturn, 1) := by decide +kernel
theorem dX8_ofThing_0 : decode cX8_ofThing 0 = .ok (.iload_n 1, 1) := by decide +kernel
theorem dX8_ofThing_1 : decode cX8_ofThing 1 = .ok (.ifCond .lt 9, 3) := by decide +kernel
theorem dX8_ofThing_4 : decode cX8_ofThing 4 = .ok (.iload_n 1, 1) := by decide +kernel
theorem dX8_ofThing_5 : decode cX8_ofThing 5 = .ok (.bipush 18, 2) := by decide +kernel
theorem dX8_ofThing_7 : decode cX8_ofThing 7 = .ok (.if_icmp .lt 5, 3) := by decide +kernel
theorem dX8_ofThing_10 : decode cX8_ofThing 10 = .ok (.iconst (-1), 1) := by decide +kernel
theorem dX8_ofThing_11 : decode cX8_ofThing 11 = .ok (.ireturn, 1) := by decide +kernel
theorem dX8_ofThing_12 : decode cX8_ofThing 12 = .ok (.iload_n 2, 1) := by decide +kernel
theorem dX8_ofThing_13 : decode cX8_ofThing 13 = .ok (.tableswitch 62 0 2 #[27, 47, 56], 27) := by decide +kernel
theorem dX8_ofThing_40 : decode cX8_ofThing 40 = .ok (.aload_n 0, 1) := by decide +kernel
theorem dX8_ofThing_41 : decode cX8_ofThing 41 = .ok (.getfield 12, 3) := by decide +kernel
theorem dX8_ofThing_44 : decode cX8_ofThing 44 = .ok (.getfield 63, 3) := by decide +kernel
theorem dX8_ofThing_47 : decode cX8_ofThing 47 = .ok (.iload_n 1, 1) := by decide +kernel
theorem dX8_ofThing_48 : decode cX8_ofThing 48 = .ok (.invokestatic 135, 3) := by decide +kernel
theorem dX8_ofThing_51 : decode cX8_ofThing 51 = .ok (.ifCond .eq 7, 3) := by decide +kernel
theorem dX8_ofThing_54 : decode cX8_ofThing 54 = .ok (.iconst 1, 1) := by decide +kernel
theorem dX8_ofThing_55 : decode cX8_ofThing 55 = .ok (.goto 4, 3) := by decide +kernel
theorem dX8_ofThing_58 : decode cX8_ofThing 58 = .ok (.iconst 0, 1) := by decide +kernel
theorem dX8_ofThing_59 : decode cX8_ofThing 59 = .ok (.ireturn, 1) := by decide +kernel
theorem dX8_ofThing_60 : decode cX8_ofThing 60 = .ok (.aload_n 0, 1) := by decide +kernel
theorem dX8_ofThing_61 : decode cX8_ofThing 61 = .ok (.getfield 12, 3) := by decide +kernel
theorem dX8_ofThing_64 : decode cX8_ofThing 64 = .ok (.iload_n 1, 1) := by decide +kernel
theorem dX8_ofThing_65 : decode cX8_ofThing 65 = .ok (.invokevirtual 145, 3) := by decide +kernel
theorem dX8_ofThing_68 : decode cX8_ofThing 68 = .ok (.ireturn, 1) := by decide +kernel
theorem dX8_ofThing_69 : decode cX8_ofThing 69 = .ok (.aload_n 0, 1) := by decide +kernel
theorem dX8_ofThing_70 : decode cX8_ofThing 70 = .ok (.iload_n 1, 1) := by decide +kernel
theorem dX8_ofThing_71 : decode cX8_ofThing 71 = .ok (.invokevirtual 148, 3) := by decide +kernel
theorem dX8_ofThing_74 : decode cX8_ofThing 74 = .ok (.ireturn, 1) := by decide +kernel
theorem dX8_ofThing_75 : decode cX8_ofThing 75 = .ok (.bipush (-2), 2) := by decide +kernel
theorem dX8_ofThing_77 : decode cX8_ofThing 77 = .ok (.ireturn, 1) := by decide +kernel
theorem dX8_shareOf_0 : decode cX8_shareOf 0 = .ok (.aload_n 0, 1) := by decide +kernel
theorem dX8_shareOf_1 : decode cX8_shareOf 1 = .ok (.getfield 12, 3) := by decide +kernel
theorem dX8_shareOf_4 : decode cX8_shareOf 4 = .ok (.invokevirtual 122, 3) := by decide +kernel
theorem dX8_shareOf_7 : decode cX8_shareOf 7 = .ok (.ifCond .ne 6, 3) := by decide +kernel
theorem dX8_shareOf_10 : decode cX8_shareOf 10 = .ok (.bipush (-5), 2) := by decide +kernel
theorem dX8_shareOf_12 : decode cX8_shareOf 12 = .ok (.ireturn, 1) := by decide +kernel
theorem dX8_shareOf_13 : decode cX8_shareOf 13 = .ok (.aload_n 0, 1) := by decide +kernel
theorem dX8_shareOf_14 : decode cX8_shareOf 14 = .ok (.getfield 40, 3) := by decide +kernel
theorem dX8_shareOf_17 : decode cX8_shareOf 17 = .ok (.aload_n 0, 1) := by decide +kernel
theorem dX8_shareOf_18 : decode cX8_shareOf 18 = .ok (.getfield 12, 3) := by decide +kernel
theorem dX8_shareOf_21 : decode cX8_shareOf 21 = .ok (.invokevirtual 126, 3) := by decide +kernel
theorem dX8_shareOf_24 : decode cX8_shareOf 24 = .ok (.aload_n 0, 1) := by decide +kernel
theorem dX8_shareOf_25 : decode cX8_shareOf 25 = .ok (.getfield 40, 3) := by decide +kernel
theorem dX8_shareOf_28 : decode cX8_shareOf 28 = .ok (.getfield 151, 3) := by decide +kernel
theorem dX8_shareOf_31 : decode cX8_shareOf 31 = .ok (.iload_n 1, 1) := by decide +kernel
theorem dX8_shareOf_32 : decode cX8_shareOf 32 = .ok (.iaload, 1) := by decide +kernel
theorem dX8_shareOf_33 : decode cX8_shareOf 33 = .ok (.ireturn, 1) := by decide +kernel
theorem dX8_count_0 : decode cX8_count 0 = .ok (.iload_n 1, 1) := by decide +kernel
theorem dX8_count_1 : decode cX8_count 1 = .ok (.tableswitch 95 0 5 #[39, 47, 55, 71, 79, 87], 39) := by decide +kernel
theorem dX8_count_40 : decode cX8_count 40 = .ok (.aload_n 0, 1) := by decide +kernel
theorem dX8_count_41 : decode cX8_count 41 = .ok (.getfield 12, 3) := by decide +kernel
theorem dX8_count_44 : decode cX8_count 44 = .ok (.getfield 74, 3) := by decide +kernel
theorem dX8_count_47 : decode cX8_count 47 = .ok (.ireturn, 1) := by decide +kernel
theorem dX8_count_48 : decode cX8_count 48 = .ok (.aload_n 0, 1) := by decide +kernel
theorem dX8_count_49 : decode cX8_count 49 = .ok (.getfield 12, 3) := by decide +kernel
theorem dX8_count_52 : decode cX8_count 52 = .ok (.getfield 63, 3) := by decide +kernel
theorem dX8_count_55 : decode cX8_count 55 = .ok (.ireturn, 1) := by decide +kernel
theorem dX8_count_56 : decode cX8_count 56 = .ok (.aload_n 0, 1) := by decide +kernel
theorem dX8_count_57 : decode cX8_count 57 = .ok (.getfield 12, 3) := by decide +kernel
theorem dX8_count_60 : decode cX8_count 60 = .ok (.invokevirtual 122, 3) := by decide +kernel
theorem dX8_count_63 : decode cX8_count 63 = .ok (.ifCond .eq 7, 3) := by decide +kernel
theorem dX8_count_66 : decode cX8_count 66 = .ok (.iconst 1, 1) := by decide +kernel
theorem dX8_count_67 : decode cX8_count 67 = .ok (.goto 4, 3) := by decide +kernel
theorem dX8_count_70 : decode cX8_count 70 = .ok (.iconst 0, 1) := by decide +kernel
theorem dX8_count_71 : decode cX8_count 71 = .ok (.ireturn, 1) := by decide +kernel
theorem dX8_count_72 : decode cX8_count 72 = .ok (.aload_n 0, 1) := by decide +kernel
theorem dX8_count_73 : decode cX8_count 73 = .ok (.getfield 12, 3) := by decide +kernel
theorem dX8_count_76 : decode cX8_count 76 = .ok (.invokevirtual 154, 3) := by decide +kernel
theorem dX8_count_79 : decode cX8_count 79 = .ok (.ireturn, 1) := by decide +kernel
theorem dX8_count_80 : decode cX8_count 80 = .ok (.aload_n 0, 1) := by decide +kernel
theorem dX8_count_81 : decode cX8_count 81 = .ok (.getfield 33, 3) := by decide +kernel
theorem dX8_count_84 : decode cX8_count 84 = .ok (.getfield 101, 3) := by decide +kernel
theorem dX8_count_87 : decode cX8_count 87 = .ok (.ireturn, 1) := by decide +kernel
theorem dX8_count_88 : decode cX8_count 88 = .ok (.aload_n 0, 1) := by decide +kernel
theorem dX8_count_89 : decode cX8_count 89 = .ok (.getfield 19, 3) := by decide +kernel
theorem dX8_count_92 : decode cX8_count 92 = .ok (.getfield 157, 3) := by decide +kernel
theorem dX8_count_95 : decode cX8_count 95 = .ok (.ireturn, 1) := by decide +kernel
theorem dX8_count_96 : decode cX8_count 96 = .ok (.bipush (-2), 2) := by decide +kernel
theorem dX8_count_98 : decode cX8_count 98 = .ok (.ireturn, 1) := by decide +kernel
theorem dX8_shared_0 : decode cX8_shared 0 = .ok (.iload_n 1, 1) := by decide +kernel
theorem dX8_shared_1 : decode cX8_shared 1 = .ok (.ifCond .lt 8, 3) := by decide +kernel
theorem dX8_shared_4 : decode cX8_shared 4 = .ok (.iload_n 1, 1) := by decide +kernel
theorem dX8_shared_5 : decode cX8_shared 5 = .ok (.iconst 5, 1) := by decide +kernel
theorem dX8_shared_6 : decode cX8_shared 6 = .ok (.if_icmp .le 6, 3) := by decide +kernel
theorem dX8_shared_9 : decode cX8_shared 9 = .ok (.bipush (-2), 2) := by decide +kernel
theorem dX8_shared_11 : decode cX8_shared 11 = .ok (.ireturn, 1) := by decide +kernel
theorem dX8_shared_12 : decode cX8_shared 12 = .ok (.aload_n 0, 1) := by decide +kernel
theorem dX8_shared_13 : decode cX8_shared 13 = .ok (.getfield 12, 3) := by decide +kernel
theorem dX8_shared_16 : decode cX8_shared 16 = .ok (.invokevirtual 122, 3) := by decide +kernel
theorem dX8_shared_19 : decode cX8_shared 19 = .ok (.ifCond .ne 6, 3) := by decide +kernel
theorem dX8_shared_22 : decode cX8_shared 22 = .ok (.bipush (-5), 2) := by decide +kernel
theorem dX8_shared_24 : decode cX8_shared 24 = .ok (.ireturn, 1) := by decide +kernel
theorem dX8_shared_25 : decode cX8_shared 25 = .ok (.aload_n 0, 1) := by decide +kernel
theorem dX8_shared_26 : decode cX8_shared 26 = .ok (.getfield 40, 3) := by decide +kernel
theorem dX8_shared_29 : decode cX8_shared 29 = .ok (.aload_n 0, 1) := by decide +kernel
theorem dX8_shared_30 : decode cX8_shared 30 = .ok (.getfield 12, 3) := by decide +kernel
theorem dX8_shared_33 : decode cX8_shared 33 = .ok (.invokevirtual 126, 3) := by decide +kernel
theorem dX8_shared_36 : decode cX8_shared 36 = .ok (.aload_n 0, 1) := by decide +kernel
theorem dX8_shared_37 : decode cX8_shared 37 = .ok (.getfield 12, 3) := by decide +kernel
theorem dX8_shared_40 : decode cX8_shared 40 = .ok (.iconst 1, 1) := by decide +kernel
theorem dX8_shared_41 : decode cX8_shared 41 = .ok (.invokevirtual 158, 3) := by decide +kernel
theorem dX8_shared_44 : decode cX8_shared 44 = .ok (.istore_n 2, 1) := by decide +kernel
theorem dX8_shared_45 : decode cX8_shared 45 = .ok (.iload_n 2, 1) := by decide +kernel
theorem dX8_shared_46 : decode cX8_shared 46 = .ok (.aload_n 0, 1) := by decide +kernel
theorem dX8_shared_47 : decode cX8_shared 47 = .ok (.getfield 40, 3) := by decide +kernel
theorem dX8_shared_50 : decode cX8_shared 50 = .ok (.getfield 132, 3) := by decide +kernel
theorem dX8_shared_53 : decode cX8_shared 53 = .ok (.aload_n 0, 1) := by decide +kernel
theorem dX8_shared_54 : decode cX8_shared 54 = .ok (.getfield 40, 3) := by decide +kernel
theorem dX8_shared_57 : decode cX8_shared 57 = .ok (.getfield 142, 3) := by decide +kernel
theorem dX8_shared_60 : decode cX8_shared 60 = .ok (.iconst (-1), 1) := by decide +kernel
theorem dX8_shared_61 : decode cX8_shared 61 = .ok (.ixor, 1) := by decide +kernel
theorem dX8_shared_62 : decode cX8_shared 62 = .ok (.iand, 1) := by decide +kernel
theorem dX8_shared_63 : decode cX8_shared 63 = .ok (.ior, 1) := by decide +kernel
theorem dX8_shared_64 : decode cX8_shared 64 = .ok (.istore_n 3, 1) := by decide +kernel
theorem dX8_shared_65 : decode cX8_shared 65 = .ok (.iload_n 1, 1) := by decide +kernel
theorem dX8_shared_66 : decode cX8_shared 66 = .ok (.tableswitch 78 0 4 #[34, 36, 45, 62, 70], 34) := by decide +kernel
theorem dX8_shared_100 : decode cX8_shared 100 = .ok (.iload_n 3, 1) := by decide +kernel
theorem dX8_shared_101 : decode cX8_shared 101 = .ok (.ireturn, 1) := by decide +kernel
theorem dX8_shared_102 : decode cX8_shared 102 = .ok (.aload_n 0, 1) := by decide +kernel
theorem dX8_shared_103 : decode cX8_shared 103 = .ok (.getfield 12, 3) := by decide +kernel
theorem dX8_shared_106 : decode cX8_shared 106 = .ok (.iload_n 3, 1) := by decide +kernel
theorem dX8_shared_107 : decode cX8_shared 107 = .ok (.invokevirtual 161, 3) := by decide +kernel
theorem dX8_shared_110 : decode cX8_shared 110 = .ok (.ireturn, 1) := by decide +kernel
theorem dX8_shared_111 : decode cX8_shared 111 = .ok (.aload_n 0, 1) := by decide +kernel
theorem dX8_shared_112 : decode cX8_shared 112 = .ok (.getfield 40, 3) := by decide +kernel
theorem dX8_shared_115 : decode cX8_shared 115 = .ok (.invokevirtual 164, 3) := by decide +kernel
theorem dX8_shared_118 : decode cX8_shared 118 = .ok (.aload_n 0, 1) := by decide +kernel
theorem dX8_shared_119 : decode cX8_shared 119 = .ok (.getfield 12, 3) := by decide +kernel
theorem dX8_shared_122 : decode cX8_shared 122 = .ok (.iload_n 2, 1) := by decide +kernel
theorem dX8_shared_123 : decode cX8_shared 123 = .ok (.invokevirtual 161, 3) := by decide +kernel
theorem dX8_shared_126 : decode cX8_shared 126 = .ok (.iadd, 1) := by decide +kernel
theorem dX8_shared_127 : decode cX8_shared 127 = .ok (.ireturn, 1) := by decide +kernel
theorem dX8_shared_128 : decode cX8_shared 128 = .ok (.aload_n 0, 1) := by decide +kernel
theorem dX8_shared_129 : decode cX8_shared 129 = .ok (.getfield 40, 3) := by decide +kernel
theorem dX8_shared_132 : decode cX8_shared 132 = .ok (.getfield 167, 3) := by decide +kernel
theorem dX8_shared_135 : decode cX8_shared 135 = .ok (.ireturn, 1) := by decide +kernel
theorem dX8_shared_136 : decode cX8_shared 136 = .ok (.aload_n 0, 1) := by decide +kernel
theorem dX8_shared_137 : decode cX8_shared 137 = .ok (.getfield 40, 3) := by decide +kernel
theorem dX8_shared_140 : decode cX8_shared 140 = .ok (.getfield 170, 3) := by decide +kernel
theorem dX8_shared_143 : decode cX8_shared 143 = .ok (.ireturn, 1) := by decide +kernel
theorem dX8_shared_144 : decode cX8_shared 144 = .ok (.aload_n 0, 1) := by decide +kernel
theorem dX8_shared_145 : decode cX8_shared 145 = .ok (.getfield 40, 3) := by decide +kernel
theorem dX8_shared_148 : decode cX8_shared 148 = .ok (.getfield 142, 3) := by decide +kernel
theorem dX8_shared_151 : decode cX8_shared 151 = .ok (.invokestatic 173, 3) := by decide +kernel
theorem dX8_shared_154 : decode cX8_shared 154 = .ok (.ireturn, 1) := by decide +kernel
theorem dX8_greedy_0 : decode cX8_greedy 0 = .ok (.iload_n 1, 1) := by decide +kernel
theorem dX8_greedy_1 : decode cX8_greedy 1 = .ok (.ifCond .lt 8, 3) := by decide +kernel
theorem dX8_greedy_4 : decode cX8_greedy 4 = .ok (.iload_n 1, 1) := by decide +kernel
theorem dX8_greedy_5 : decode cX8_greedy 5 = .ok (.iconst 2, 1) := by decide +kernel
theorem dX8_greedy_6 : decode cX8_greedy 6 = .ok (.if_icmp .le 6, 3) := by decide +kernel
theorem dX8_greedy_9 : decode cX8_greedy 9 = .ok (.bipush (-2), 2) := by decide +kernel
theorem dX8_greedy_11 : decode cX8_greedy 11 = .ok (.ireturn, 1) := by decide +kernel
theorem dX8_greedy_12 : decode cX8_greedy 12 = .ok (.aload_n 0, 1) := by decide +kernel
theorem dX8_greedy_13 : decode cX8_greedy 13 = .ok (.getfield 12, 3) := by decide +kernel
theorem dX8_greedy_16 : decode cX8_greedy 16 = .ok (.invokevirtual 122, 3) := by decide +kernel
theorem dX8_greedy_19 : decode cX8_greedy 19 = .ok (.ifCond .ne 6, 3) := by decide +kernel
theorem dX8_greedy_22 : decode cX8_greedy 22 = .ok (.bipush (-5), 2) := by decide +kernel
theorem dX8_greedy_24 : decode cX8_greedy 24 = .ok (.ireturn, 1) := by decide +kernel
theorem dX8_greedy_25 : decode cX8_greedy 25 = .ok (.aload_n 0, 1) := by decide +kernel
theorem dX8_greedy_26 : decode cX8_greedy 26 = .ok (.getfield 47, 3) := by decide +kernel
theorem dX8_greedy_29 : decode cX8_greedy 29 = .ok (.aload_n 0, 1) := by decide +kernel
theorem dX8_greedy_30 : decode cX8_greedy 30 = .ok (.getfield 12, 3) := by decide +kernel
theorem dX8_greedy_33 : decode cX8_greedy 33 = .ok (.invokevirtual 178, 3) := by decide +kernel
theorem dX8_greedy_36 : decode cX8_greedy 36 = .ok (.iload_n 1, 1) := by decide +kernel
theorem dX8_greedy_37 : decode cX8_greedy 37 = .ok (.lookupswitch 50 #[(0, 27), (1, 35)], 27) := by decide +kernel
theorem dX8_greedy_64 : decode cX8_greedy 64 = .ok (.aload_n 0, 1) := by decide +kernel
theorem dX8_greedy_65 : decode cX8_greedy 65 = .ok (.getfield 47, 3) := by decide +kernel
theorem dX8_greedy_68 : decode cX8_greedy 68 = .ok (.getfield 181, 3) := by decide +kernel
theorem dX8_greedy_71 : decode cX8_greedy 71 = .ok (.ireturn, 1) := by decide +kernel
theorem dX8_greedy_72 : decode cX8_greedy 72 = .ok (.aload_n 0, 1) := by decide +kernel
theorem dX8_greedy_73 : decode cX8_greedy 73 = .ok (.getfield 12, 3) := by decide +kernel
theorem dX8_greedy_76 : decode cX8_greedy 76 = .ok (.aload_n 0, 1) := by decide +kernel
theorem dX8_greedy_77 : decode cX8_greedy 77 = .ok (.getfield 47, 3) := by decide +kernel
theorem dX8_greedy_80 : decode cX8_greedy 80 = .ok (.getfield 181, 3) := by decide +kernel
theorem dX8_greedy_83 : decode cX8_greedy 83 = .ok (.invokevirtual 161, 3) := by decide +kernel
theorem dX8_greedy_86 : decode cX8_greedy 86 = .ok (.ireturn, 1) := by decide +kernel
theorem dX8_greedy_87 : decode cX8_greedy 87 = .ok (.aload_n 0, 1) := by decide +kernel
theorem dX8_greedy_88 : decode cX8_greedy 88 = .ok (.getfield 47, 3) := by decide +kernel
theorem dX8_greedy_91 : decode cX8_greedy 91 = .ok (.getfield 184, 3) := by decide +kernel
theorem dX8_greedy_94 : decode cX8_greedy 94 = .ok (.ireturn, 1) := by decide +kernel
theorem dX8_least_0 : decode cX8_least 0 = .ok (.iload_n 1, 1) := by decide +kernel
theorem dX8_least_1 : decode cX8_least 1 = .ok (.ifCond .lt 8, 3) := by decide +kernel
theorem dX8_least_4 : decode cX8_least 4 = .ok (.iload_n 1, 1) := by decide +kernel
theorem dX8_least_5 : decode cX8_least 5 = .ok (.iconst 1, 1) := by decide +kernel
theorem dX8_least_6 : decode cX8_least 6 = .ok (.if_icmp .le 6, 3) := by decide +kernel
theorem dX8_least_9 : decode cX8_least 9 = .ok (.bipush (-2), 2) := by decide +kernel
theorem dX8_least_11 : decode cX8_least 11 = .ok (.ireturn, 1) := by decide +kernel
theorem dX8_least_12 : decode cX8_least 12 = .ok (.aload_n 0, 1) := by decide +kernel
theorem dX8_least_13 : decode cX8_least 13 = .ok (.getfield 12, 3) := by decide +kernel
theorem dX8_least_16 : decode cX8_least 16 = .ok (.invokevirtual 122, 3) := by decide +kernel
theorem dX8_least_19 : decode cX8_least 19 = .ok (.ifCond .ne 6, 3) := by decide +kernel
theorem dX8_least_22 : decode cX8_least 22 = .ok (.bipush (-5), 2) := by decide +kernel
theorem dX8_least_24 : decode cX8_least 24 = .ok (.ireturn, 1) := by decide +kernel
theorem dX8_least_25 : decode cX8_least 25 = .ok (.aload_n 0, 1) := by decide +kernel
theorem dX8_least_26 : decode cX8_least 26 = .ok (.getfield 54, 3) := by decide +kernel
theorem dX8_least_29 : decode cX8_least 29 = .ok (.aload_n 0, 1) := by decide +kernel
theorem dX8_least_30 : decode cX8_least 30 = .ok (.getfield 12, 3) := by decide +kernel
theorem dX8_least_33 : decode cX8_least 33 = .ok (.invokevirtual 187, 3) := by decide +kernel
theorem dX8_least_36 : decode cX8_least 36 = .ok (.iload_n 1, 1) := by decide +kernel
theorem dX8_least_37 : decode cX8_least 37 = .ok (.ifCond .ne 13, 3) := by decide +kernel
theorem dX8_least_40 : decode cX8_least 40 = .ok (.aload_n 0, 1) := by decide +kernel
theorem dX8_least_41 : decode cX8_least 41 = .ok (.getfield 54, 3) := by decide +kernel
theorem dX8_least_44 : decode cX8_least 44 = .ok (.getfield 190, 3) := by decide +kernel
theorem dX8_least_47 : decode cX8_least 47 = .ok (.goto 10, 3) := by decide +kernel
theorem dX8_least_50 : decode cX8_least 50 = .ok (.aload_n 0, 1) := by decide +kernel
theorem dX8_least_51 : decode cX8_least 51 = .ok (.getfield 54, 3) := by decide +kernel
theorem dX8_least_54 : decode cX8_least 54 = .ok (.getfield 193, 3) := by decide +kernel
theorem dX8_least_57 : decode cX8_least 57 = .ok (.ireturn, 1) := by decide +kernel
theorem dX8_covers_0 : decode cX8_covers 0 = .ok (.iload_n 1, 1) := by decide +kernel
theorem dX8_covers_1 : decode cX8_covers 1 = .ok (.ifCond .lt 10, 3) := by decide +kernel
theorem dX8_covers_4 : decode cX8_covers 4 = .ok (.iload_n 1, 1) := by decide +kernel
theorem dX8_covers_5 : decode cX8_covers 5 = .ok (.sipush 7000, 3) := by decide +kernel
theorem dX8_covers_8 : decode cX8_covers 8 = .ok (.if_icmp .le 6, 3) := by decide +kernel
theorem dX8_covers_11 : decode cX8_covers 11 = .ok (.bipush (-2), 2) := by decide +kernel
theorem dX8_covers_13 : decode cX8_covers 13 = .ok (.ireturn, 1) := by decide +kernel
theorem dX8_covers_14 : decode cX8_covers 14 = .ok (.aload_n 0, 1) := by decide +kernel
theorem dX8_covers_15 : decode cX8_covers 15 = .ok (.getfield 54, 3) := by decide +kernel
theorem dX8_covers_18 : decode cX8_covers 18 = .ok (.aload_n 0, 1) := by decide +kernel
theorem dX8_covers_19 : decode cX8_covers 19 = .ok (.getfield 12, 3) := by decide +kernel
theorem dX8_covers_22 : decode cX8_covers 22 = .ok (.iload_n 1, 1) := by decide +kernel
theorem dX8_covers_23 : decode cX8_covers 23 = .ok (.invokevirtual 196, 3) := by decide +kernel
theorem dX8_covers_26 : decode cX8_covers 26 = .ok (.ireturn, 1) := by decide +kernel
theorem dX8_tightCovers_0 : decode cX8_tightCovers 0 = .ok (.aload_n 0, 1) := by decide +kernel
theorem dX8_tightCovers_1 : decode cX8_tightCovers 1 = .ok (.getfield 54, 3) := by decide +kernel
theorem dX8_tightCovers_4 : decode cX8_tightCovers 4 = .ok (.aload_n 0, 1) := by decide +kernel
theorem dX8_tightCovers_5 : decode cX8_tightCovers 5 = .ok (.getfield 12, 3) := by decide +kernel
theorem dX8_tightCovers_8 : decode cX8_tightCovers 8 = .ok (.invokevirtual 200, 3) := by decide +kernel
theorem dX8_tightCovers_11 : decode cX8_tightCovers 11 = .ok (.ireturn, 1) := by decide +kernel
theorem dX8_staysUpTo_0 : decode cX8_staysUpTo 0 = .ok (.aload_n 0, 1) := by decide +kernel
theorem dX8_staysUpTo_1 : decode cX8_staysUpTo 1 = .ok (.getfield 12, 3) := by decide +kernel
theorem dX8_staysUpTo_4 : decode cX8_staysUpTo 4 = .ok (.iload_n 1, 1) := by decide +kernel
theorem dX8_staysUpTo_5 : decode cX8_staysUpTo 5 = .ok (.invokevirtual 81, 3) := by decide +kernel
theorem dX8_staysUpTo_8 : decode cX8_staysUpTo 8 = .ok (.ifCond .ne 5, 3) := by decide +kernel
theorem dX8_staysUpTo_11 : decode cX8_staysUpTo 11 = .ok (.iconst (-1), 1) := by decide +kernel
theorem dX8_staysUpTo_12 : decode cX8_staysUpTo 12 = .ok (.ireturn, 1) := by decide +kernel
theorem dX8_staysUpTo_13 : decode cX8_staysUpTo 13 = .ok (.aload_n 0, 1) := by decide +kernel
theorem dX8_staysUpTo_14 : decode cX8_staysUpTo 14 = .ok (.getfield 54, 3) := by decide +kernel
theorem dX8_staysUpTo_17 : decode cX8_staysUpTo 17 = .ok (.aload_n 0, 1) := by decide +kernel
theorem dX8_staysUpTo_18 : decode cX8_staysUpTo 18 = .ok (.getfield 12, 3) := by decide +kernel
theorem dX8_staysUpTo_21 : decode cX8_staysUpTo 21 = .ok (.iload_n 1, 1) := by decide +kernel
theorem dX8_staysUpTo_22 : decode cX8_staysUpTo 22 = .ok (.invokevirtual 204, 3) := by decide +kernel
theorem dX8_staysUpTo_25 : decode cX8_staysUpTo 25 = .ok (.ireturn, 1) := by decide +kernel
theorem dX8_dearest_0 : decode cX8_dearest 0 = .ok (.iload_n 1, 1) := by decide +kernel
theorem dX8_dearest_1 : decode cX8_dearest 1 = .ok (.ifCond .lt 8, 3) := by decide +kernel
theorem dX8_dearest_4 : decode cX8_dearest 4 = .ok (.iload_n 1, 1) := by decide +kernel
theorem dX8_dearest_5 : decode cX8_dearest 5 = .ok (.iconst 1, 1) := by decide +kernel
theorem dX8_dearest_6 : decode cX8_dearest 6 = .ok (.if_icmp .le 6, 3) := by decide +kernel
theorem dX8_dearest_9 : decode cX8_dearest 9 = .ok (.bipush (-2), 2) := by decide +kernel
theorem dX8_dearest_11 : decode cX8_dearest 11 = .ok (.ireturn, 1) := by decide +kernel
theorem dX8_dearest_12 : decode cX8_dearest 12 = .ok (.aload_n 0, 1) := by decide +kernel
theorem dX8_dearest_13 : decode cX8_dearest 13 = .ok (.getfield 12, 3) := by decide +kernel
theorem dX8_dearest_16 : decode cX8_dearest 16 = .ok (.invokevirtual 122, 3) := by decide +kernel
theorem dX8_dearest_19 : decode cX8_dearest 19 = .ok (.ifCond .ne 6, 3) := by decide +kernel
theorem dX8_dearest_22 : decode cX8_dearest 22 = .ok (.bipush (-5), 2) := by decide +kernel
theorem dX8_dearest_24 : decode cX8_dearest 24 = .ok (.ireturn, 1) := by decide +kernel
theorem dX8_dearest_25 : decode cX8_dearest 25 = .ok (.aload_n 0, 1) := by decide +kernel
theorem dX8_dearest_26 : decode cX8_dearest 26 = .ok (.getfield 12, 3) := by decide +kernel
theorem dX8_dearest_29 : decode cX8_dearest 29 = .ok (.getfield 63, 3) := by decide +kernel
theorem dX8_dearest_32 : decode cX8_dearest 32 = .ok (.ifCond .ne 6, 3) := by decide +kernel
theorem dX8_dearest_35 : decode cX8_dearest 35 = .ok (.bipush (-6), 2) := by decide +kernel
theorem dX8_dearest_37 : decode cX8_dearest 37 = .ok (.ireturn, 1) := by decide +kernel
theorem dX8_dearest_38 : decode cX8_dearest 38 = .ok (.aload_n 0, 1) := by decide +kernel
theorem dX8_dearest_39 : decode cX8_dearest 39 = .ok (.getfield 54, 3) := by decide +kernel
theorem dX8_dearest_42 : decode cX8_dearest 42 = .ok (.aload_n 0, 1) := by decide +kernel
theorem dX8_dearest_43 : decode cX8_dearest 43 = .ok (.getfield 12, 3) := by decide +kernel
theorem dX8_dearest_46 : decode cX8_dearest 46 = .ok (.invokevirtual 207, 3) := by decide +kernel
theorem dX8_dearest_49 : decode cX8_dearest 49 = .ok (.iload_n 1, 1) := by decide +kernel
theorem dX8_dearest_50 : decode cX8_dearest 50 = .ok (.ifCond .ne 13, 3) := by decide +kernel
theorem dX8_dearest_53 : decode cX8_dearest 53 = .ok (.aload_n 0, 1) := by decide +kernel
theorem dX8_dearest_54 : decode cX8_dearest 54 = .ok (.getfield 54, 3) := by decide +kernel
theorem dX8_dearest_57 : decode cX8_dearest 57 = .ok (.getfield 210, 3) := by decide +kernel
theorem dX8_dearest_60 : decode cX8_dearest 60 = .ok (.goto 10, 3) := by decide +kernel
theorem dX8_dearest_63 : decode cX8_dearest 63 = .ok (.aload_n 0, 1) := by decide +kernel
theorem dX8_dearest_64 : decode cX8_dearest 64 = .ok (.getfield 54, 3) := by decide +kernel
theorem dX8_dearest_67 : decode cX8_dearest 67 = .ok (.getfield 213, 3) := by decide +kernel
theorem dX8_dearest_70 : decode cX8_dearest 70 = .ok (.ireturn, 1) := by decide +kernel
theorem dX8_check_0 : decode cX8_check 0 = .ok (.iload_n 1, 1) := by decide +kernel
theorem dX8_check_1 : decode cX8_check 1 = .ok (.ifCond .lt 16, 3) := by decide +kernel
theorem dX8_check_4 : decode cX8_check 4 = .ok (.iload_n 1, 1) := by decide +kernel
theorem dX8_check_5 : decode cX8_check 5 = .ok (.iconst 1, 1) := by decide +kernel
theorem dX8_check_6 : decode cX8_check 6 = .ok (.aload_n 0, 1) := by decide +kernel
theorem dX8_check_7 : decode cX8_check 7 = .ok (.getfield 12, 3) := by decide +kernel
theorem dX8_check_10 : decode cX8_check 10 = .ok (.getfield 74, 3) := by decide +kernel
theorem dX8_check_13 : decode cX8_check 13 = .ok (.ishl, 1) := by decide +kernel
theorem dX8_check_14 : decode cX8_check 14 = .ok (.if_icmp .lt 5, 3) := by decide +kernel
theorem dX8_check_17 : decode cX8_check 17 = .ok (.iconst (-1), 1) := by decide +kernel
theorem dX8_check_18 : decode cX8_check 18 = .ok (.ireturn, 1) := by decide +kernel
theorem dX8_check_19 : decode cX8_check 19 = .ok (.aload_n 0, 1) := by decide +kernel
theorem dX8_check_20 : decode cX8_check 20 = .ok (.getfield 12, 3) := by decide +kernel
theorem dX8_check_23 : decode cX8_check 23 = .ok (.iload_n 1, 1) := by decide +kernel
theorem dX8_check_24 : decode cX8_check 24 = .ok (.invokevirtual 216, 3) := by decide +kernel
theorem dX8_check_27 : decode cX8_check 27 = .ok (.ifCond .eq 14, 3) := by decide +kernel
theorem dX8_check_30 : decode cX8_check 30 = .ok (.aload_n 0, 1) := by decide +kernel
theorem dX8_check_31 : decode cX8_check 31 = .ok (.getfield 12, 3) := by decide +kernel
theorem dX8_check_34 : decode cX8_check 34 = .ok (.iload_n 1, 1) := by decide +kernel
theorem dX8_check_35 : decode cX8_check 35 = .ok (.invokevirtual 161, 3) := by decide +kernel
theorem dX8_check_38 : decode cX8_check 38 = .ok (.goto 5, 3) := by decide +kernel
theorem dX8_check_41 : decode cX8_check 41 = .ok (.bipush (-6), 2) := by decide +kernel
theorem dX8_check_43 : decode cX8_check 43 = .ok (.ireturn, 1) := by decide +kernel
theorem dX8_undo_0 : decode cX8_undo 0 = .ok (.aload_n 0, 1) := by decide +kernel
theorem dX8_undo_1 : decode cX8_undo 1 = .ok (.getfield 19, 3) := by decide +kernel
theorem dX8_undo_4 : decode cX8_undo 4 = .ok (.getfield 157, 3) := by decide +kernel
theorem dX8_undo_7 : decode cX8_undo 7 = .ok (.ifCond .ne 6, 3) := by decide +kernel
theorem dX8_undo_10 : decode cX8_undo 10 = .ok (.bipush (-5), 2) := by decide +kernel
theorem dX8_undo_12 : decode cX8_undo 12 = .ok (.ireturn, 1) := by decide +kernel
theorem dX8_undo_13 : decode cX8_undo 13 = .ok (.aload_n 0, 1) := by decide +kernel
theorem dX8_undo_14 : decode cX8_undo 14 = .ok (.getfield 19, 3) := by decide +kernel
theorem dX8_undo_17 : decode cX8_undo 17 = .ok (.aload_n 0, 1) := by decide +kernel
theorem dX8_undo_18 : decode cX8_undo 18 = .ok (.getfield 12, 3) := by decide +kernel
theorem dX8_undo_21 : decode cX8_undo 21 = .ok (.invokevirtual 219, 3) := by decide +kernel
theorem dX8_undo_24 : decode cX8_undo 24 = .ok (.aload_n 0, 1) := by decide +kernel
theorem dX8_undo_25 : decode cX8_undo 25 = .ok (.getfield 19, 3) := by decide +kernel
theorem dX8_undo_28 : decode cX8_undo 28 = .ok (.getfield 157, 3) := by decide +kernel
theorem dX8_undo_31 : decode cX8_undo 31 = .ok (.ireturn, 1) := by decide +kernel
theorem dX8_save_0 : decode cX8_save 0 = .ok (.iload_n 1, 1) := by decide +kernel
theorem dX8_save_1 : decode cX8_save 1 = .ok (.ifCond .lt 8, 3) := by decide +kernel
theorem dX8_save_4 : decode cX8_save 4 = .ok (.iload_n 1, 1) := by decide +kernel
theorem dX8_save_5 : decode cX8_save 5 = .ok (.iconst 2, 1) := by decide +kernel
theorem dX8_save_6 : decode cX8_save 6 = .ok (.if_icmp .lt 6, 3) := by decide +kernel
theorem dX8_save_9 : decode cX8_save 9 = .ok (.bipush (-2), 2) := by decide +kernel
theorem dX8_save_11 : decode cX8_save 11 = .ok (.ireturn, 1) := by decide +kernel
theorem dX8_save_12 : decode cX8_save 12 = .ok (.aload_n 0, 1) := by decide +kernel
theorem dX8_save_13 : decode cX8_save 13 = .ok (.getfield 26, 3) := by decide +kernel
theorem dX8_save_16 : decode cX8_save 16 = .ok (.iload_n 1, 1) := by decide +kernel
theorem dX8_save_17 : decode cX8_save 17 = .ok (.aload_n 0, 1) := by decide +kernel
theorem dX8_save_18 : decode cX8_save 18 = .ok (.getfield 12, 3) := by decide +kernel
theorem dX8_save_21 : decode cX8_save 21 = .ok (.invokevirtual 222, 3) := by decide +kernel
theorem dX8_save_24 : decode cX8_save 24 = .ok (.aload_n 0, 1) := by decide +kernel
theorem dX8_save_25 : decode cX8_save 25 = .ok (.getfield 12, 3) := by decide +kernel
theorem dX8_save_28 : decode cX8_save 28 = .ok (.getfield 74, 3) := by decide +kernel
theorem dX8_save_31 : decode cX8_save 31 = .ok (.ireturn, 1) := by decide +kernel
theorem dX8_restore_0 : decode cX8_restore 0 = .ok (.iload_n 1, 1) := by decide +kernel
theorem dX8_restore_1 : decode cX8_restore 1 = .ok (.ifCond .lt 8, 3) := by decide +kernel
theorem dX8_restore_4 : decode cX8_restore 4 = .ok (.iload_n 1, 1) := by decide +kernel
theorem dX8_restore_5 : decode cX8_restore 5 = .ok (.iconst 2, 1) := by decide +kernel
theorem dX8_restore_6 : decode cX8_restore 6 = .ok (.if_icmp .lt 6, 3) := by decide +kernel
theorem dX8_restore_9 : decode cX8_restore 9 = .ok (.bipush (-2), 2) := by decide +kernel
theorem dX8_restore_11 : decode cX8_restore 11 = .ok (.ireturn, 1) := by decide +kernel
theorem dX8_restore_12 : decode cX8_restore 12 = .ok (.aload_n 0, 1) := by decide +kernel
theorem dX8_restore_13 : decode cX8_restore 13 = .ok (.getfield 26, 3) := by decide +kernel
theorem dX8_restore_16 : decode cX8_restore 16 = .ok (.iload_n 1, 1) := by decide +kernel
theorem dX8_restore_17 : decode cX8_restore 17 = .ok (.invokevirtual 226, 3) := by decide +kernel
theorem dX8_restore_20 : decode cX8_restore 20 = .ok (.ifCond .ne 6, 3) := by decide +kernel
theorem dX8_restore_23 : decode cX8_restore 23 = .ok (.bipush (-5), 2) := by decide +kernel
theorem dX8_restore_25 : decode cX8_restore 25 = .ok (.ireturn, 1) := by decide +kernel
theorem dX8_restore_26 : decode cX8_restore 26 = .ok (.aload_n 0, 1) := by decide +kernel
theorem dX8_restore_27 : decode cX8_restore 27 = .ok (.getfield 19, 3) := by decide +kernel
theorem dX8_restore_30 : decode cX8_restore 30 = .ok (.aload_n 0, 1) := by decide +kernel
theorem dX8_restore_31 : decode cX8_restore 31 = .ok (.getfield 12, 3) := by decide +kernel
theorem dX8_restore_34 : decode cX8_restore 34 = .ok (.invokevirtual 59, 3) := by decide +kernel
theorem dX8_restore_37 : decode cX8_restore 37 = .ok (.aload_n 0, 1) := by decide +kernel
theorem dX8_restore_38 : decode cX8_restore 38 = .ok (.getfield 26, 3) := by decide +kernel
theorem dX8_restore_41 : decode cX8_restore 41 = .ok (.iload_n 1, 1) := by decide +kernel
theorem dX8_restore_42 : decode cX8_restore 42 = .ok (.aload_n 0, 1) := by decide +kernel
theorem dX8_restore_43 : decode cX8_restore 43 = .ok (.getfield 12, 3) := by decide +kernel
theorem dX8_restore_46 : decode cX8_restore 46 = .ok (.invokevirtual 229, 3) := by decide +kernel
theorem dX8_restore_49 : decode cX8_restore 49 = .ok (.aload_n 0, 1) := by decide +kernel
theorem dX8_restore_50 : decode cX8_restore 50 = .ok (.getfield 12, 3) := by decide +kernel
theorem dX8_restore_53 : decode cX8_restore 53 = .ok (.getfield 74, 3) := by decide +kernel
theorem dX8_restore_56 : decode cX8_restore 56 = .ok (.ireturn, 1) := by decide +kernel
theorem dX8_has_0 : decode cX8_has 0 = .ok (.iload_n 0, 1) := by decide +kernel
theorem dX8_has_1 : decode cX8_has 1 = .ok (.iload_n 1, 1) := by decide +kernel
theorem dX8_has_2 : decode cX8_has 2 = .ok (.ishr, 1) := by decide +kernel
theorem dX8_has_3 : decode cX8_has 3 = .ok (.iconst 1, 1) := by decide +kernel
theorem dX8_has_4 : decode cX8_has 4 = .ok (.iand, 1) := by decide +kernel
theorem dX8_has_5 : decode cX8_has 5 = .ok (.ifCond .eq 7, 3) := by decide +kernel
theorem dX8_has_8 : decode cX8_has 8 = .ok (.iconst 1, 1) := by decide +kernel
theorem dX8_has_9 : decode cX8_has 9 = .ok (.goto 4, 3) := by decide +kernel
theorem dX8_has_12 : decode cX8_has 12 = .ok (.iconst 0, 1) := by decide +kernel
theorem dX8_has_13 : decode cX8_has 13 = .ok (.ireturn, 1) := by decide +kernel
theorem dX8_areSomeThings_0 : decode cX8_areSomeThings 0 = .ok (.iload_n 0, 1) := by decide +kernel
theorem dX8_areSomeThings_1 : decode cX8_areSomeThings 1 = .ok (.iconst 1, 1) := by decide +kernel
theorem dX8_areSomeThings_2 : decode cX8_areSomeThings 2 = .ok (.if_icmp .lt 13, 3) := by decide +kernel
theorem dX8_areSomeThings_5 : decode cX8_areSomeThings 5 = .ok (.iload_n 0, 1) := by decide +kernel
theorem dX8_areSomeThings_6 : decode cX8_areSomeThings 6 = .ok (.ldc 58, 2) := by decide +kernel
theorem dX8_areSomeThings_8 : decode cX8_areSomeThings 8 = .ok (.if_icmp .gt 7, 3) := by decide +kernel
theorem dX8_areSomeThings_11 : decode cX8_areSomeThings 11 = .ok (.iconst 1, 1) := by decide +kernel
theorem dX8_areSomeThings_12 : decode cX8_areSomeThings 12 = .ok (.goto 4, 3) := by decide +kernel
theorem dX8_areSomeThings_15 : decode cX8_areSomeThings 15 = .ok (.iconst 0, 1) := by decide +kernel
theorem dX8_areSomeThings_16 : decode cX8_areSomeThings 16 = .ok (.ireturn, 1) := by decide +kernel
theorem dX8_isPrice_0 : decode cX8_isPrice 0 = .ok (.iload_n 0, 1) := by decide +kernel
theorem dX8_isPrice_1 : decode cX8_isPrice 1 = .ok (.iconst 1, 1) := by decide +kernel
theorem dX8_isPrice_2 : decode cX8_isPrice 2 = .ok (.if_icmp .lt 14, 3) := by decide +kernel
theorem dX8_isPrice_5 : decode cX8_isPrice 5 = .ok (.iload_n 0, 1) := by decide +kernel
theorem dX8_isPrice_6 : decode cX8_isPrice 6 = .ok (.sipush 500, 3) := by decide +kernel
theorem dX8_isPrice_9 : decode cX8_isPrice 9 = .ok (.if_icmp .gt 7, 3) := by decide +kernel
theorem dX8_isPrice_12 : decode cX8_isPrice 12 = .ok (.iconst 1, 1) := by decide +kernel
theorem dX8_isPrice_13 : decode cX8_isPrice 13 = .ok (.goto 4, 3) := by decide +kernel
theorem dX8_isPrice_16 : decode cX8_isPrice 16 = .ok (.iconst 0, 1) := by decide +kernel
theorem dX8_isPrice_17 : decode cX8_isPrice 17 = .ok (.ireturn, 1) := by decide +kernel
theorem dX9_init_0 : decode cX9_init 0 = .ok (.aload_n 0, 1) := by decide +kernel
theorem dX9_init_1 : decode cX9_init 1 = .ok (.invokespecial 1, 3) := by decide +kernel
theorem dX9_init_4 : decode cX9_init 4 = .ok (.aload_n 0, 1) := by decide +kernel
theorem dX9_init_5 : decode cX9_init 5 = .ok (.bipush 60, 2) := by decide +kernel
theorem dX9_init_7 : decode cX9_init 7 = .ok (.newarray .int, 2) := by decide +kernel
theorem dX9_init_9 : decode cX9_init 9 = .ok (.putfield 7, 3) := by decide +kernel
theorem dX9_init_12 : decode cX9_init 12 = .ok (.aload_n 0, 1) := by decide +kernel
theorem dX9_init_13 : decode cX9_init 13 = .ok (.sipush 360, 3) := by decide +kernel
theorem dX9_init_16 : decode cX9_init 16 = .ok (.newarray .int, 2) := by decide +kernel
theorem dX9_init_18 : decode cX9_init 18 = .ok (.putfield 13, 3) := by decide +kernel
theorem dX9_init_21 : decode cX9_init 21 = .ok (.aload_n 0, 1) := by decide +kernel
theorem dX9_init_22 : decode cX9_init 22 = .ok (.bipush 120, 2) := by decide +kernel
theorem dX9_init_24 : decode cX9_init 24 = .ok (.newarray .int, 2) := by decide +kernel
theorem dX9_init_26 : decode cX9_init 26 = .ok (.putfield 16, 3) := by decide +kernel
theorem dX9_init_29 : decode cX9_init 29 = .ok (.aload_n 0, 1) := by decide +kernel
theorem dX9_init_30 : decode cX9_init 30 = .ok (.iconst 2, 1) := by decide +kernel
theorem dX9_init_31 : decode cX9_init 31 = .ok (.newarray .boolean, 2) := by decide +kernel
theorem dX9_init_33 : decode cX9_init 33 = .ok (.putfield 19, 3) := by decide +kernel
theorem dX9_init_36 : decode cX9_init 36 = .ok (.aload_n 0, 1) := by decide +kernel
theorem dX9_init_37 : decode cX9_init 37 = .ok (.bipush 80, 2) := by decide +kernel
theorem dX9_init_39 : decode cX9_init 39 = .ok (.newarray .int, 2) := by decide +kernel
theorem dX9_init_41 : decode cX9_init 41 = .ok (.putfield 23, 3) := by decide +kernel
theorem dX9_init_44 : decode cX9_init 44 = .ok (.aload_n 0, 1) := by decide +kernel
theorem dX9_init_45 : decode cX9_init 45 = .ok (.bipush 40, 2) := by decide +kernel
theorem dX9_init_47 : decode cX9_init 47 = .ok (.newarray .int, 2) := by decide +kernel
theorem dX9_init_49 : decode cX9_init 49 = .ok (.putfield 26, 3) := by decide +kernel
theorem dX9_init_52 : decode cX9_init 52 = .ok (.aload_n 0, 1) := by decide +kernel
theorem dX9_init_53 : decode cX9_init 53 = .ok (.bipush 40, 2) := by decide +kernel
theorem dX9_init_55 : decode cX9_init 55 = .ok (.newarray .int, 2) := by decide +kernel
theorem dX9_init_57 : decode cX9_init 57 = .ok (.putfield 29, 3) := by decide +kernel
theorem dX9_init_60 : decode cX9_init 60 = .ok (.aload_n 0, 1) := by decide +kernel
theorem dX9_init_61 : decode cX9_init 61 = .ok (.bipush 18, 2) := by decide +kernel
theorem dX9_init_63 : decode cX9_init 63 = .ok (.newarray .int, 2) := by decide +kernel
theorem dX9_init_65 : decode cX9_init 65 = .ok (.putfield 32, 3) := by decide +kernel
theorem dX9_init_68 : decode cX9_init 68 = .ok (.aload_n 0, 1) := by decide +kernel
theorem dX9_init_69 : decode cX9_init 69 = .ok (.bipush 14, 2) := by decide +kernel
theorem dX9_init_71 : decode cX9_init 71 = .ok (.newarray .int, 2) := by decide +kernel
theorem dX9_init_73 : decode cX9_init 73 = .ok (.putfield 35, 3) := by decide +kernel
theorem dX9_init_76 : decode cX9_init 76 = .ok (.return_, 1) := by decide +kernel
theorem dX9_in_0 : decode cX9_in 0 = .ok (.iload_n 0, 1) := by decide +kernel
theorem dX9_in_1 : decode cX9_in 1 = .ok (.iload_n 1, 1) := by decide +kernel
theorem dX9_in_2 : decode cX9_in 2 = .ok (.if_icmp .lt 12, 3) := by decide +kernel
theorem dX9_in_5 : decode cX9_in 5 = .ok (.iload_n 0, 1) := by decide +kernel
theorem dX9_in_6 : decode cX9_in 6 = .ok (.iload_n 2, 1) := by decide +kernel
theorem dX9_in_7 : decode cX9_in 7 = .ok (.if_icmp .gt 7, 3) := by decide +kernel
theorem dX9_in_10 : decode cX9_in 10 = .ok (.iconst 1, 1) := by decide +kernel
theorem dX9_in_11 : decode cX9_in 11 = .ok (.goto 4, 3) := by decide +kernel
theorem dX9_in_14 : decode cX9_in 14 = .ok (.iconst 0, 1) := by decide +kernel
theorem dX9_in_15 : decode cX9_in 15 = .ok (.ireturn, 1) := by decide +kernel
theorem dX9_has_0 : decode cX9_has 0 = .ok (.iload_n 0, 1) := by decide +kernel
theorem dX9_has_1 : decode cX9_has 1 = .ok (.iload_n 1, 1) := by decide +kernel
theorem dX9_has_2 : decode cX9_has 2 = .ok (.ishr, 1) := by decide +kernel
theorem dX9_has_3 : decode cX9_has 3 = .ok (.iconst 1, 1) := by decide +kernel
theorem dX9_has_4 : decode cX9_has 4 = .ok (.iand, 1) := by decide +kernel
theorem dX9_has_5 : decode cX9_has 5 = .ok (.iconst 1, 1) := by decide +kernel
theorem dX9_has_6 : decode cX9_has 6 = .ok (.if_icmp .ne 7, 3) := by decide +kernel
theorem dX9_has_9 : decode cX9_has 9 = .ok (.iconst 1, 1) := by decide +kernel
theorem dX9_has_10 : decode cX9_has 10 = .ok (.goto 4, 3) := by decide +kernel
theorem dX9_has_13 : decode cX9_has 13 = .ok (.iconst 0, 1) := by decide +kernel
theorem dX9_has_14 : decode cX9_has 14 = .ok (.ireturn, 1) := by decide +kernel
theorem dX9_size_0 : decode cX9_size 0 = .ok (.iconst 0, 1) := by decide +kernel
theorem dX9_size_1 : decode cX9_size 1 = .ok (.istore_n 1, 1) := by decide +kernel
theorem dX9_size_2 : decode cX9_size 2 = .ok (.iconst 0, 1) := by decide +kernel
theorem dX9_size_3 : decode cX9_size 3 = .ok (.istore_n 2, 1) := by decide +kernel
theorem dX9_size_4 : decode cX9_size 4 = .ok (.iload_n 2, 1) := by decide +kernel
theorem dX9_size_5 : decode cX9_size 5 = .ok (.bipush 18, 2) := by decide +kernel
theorem dX9_size_7 : decode cX9_size 7 = .ok (.if_icmp .ge 17, 3) := by decide +kernel
theorem dX9_size_10 : decode cX9_size 10 = .ok (.iload_n 1, 1) := by decide +kernel
theorem dX9_size_11 : decode cX9_size 11 = .ok (.iload_n 0, 1) := by decide +kernel
theorem dX9_size_12 : decode cX9_size 12 = .ok (.iload_n 2, 1) := by decide +kernel
theorem dX9_size_13 : decode cX9_size 13 = .ok (.ishr, 1) := by decide +kernel
theorem dX9_size_14 : decode cX9_size 14 = .ok (.iconst 1, 1) := by decide +kernel
theorem dX9_size_15 : decode cX9_size 15 = .ok (.iand, 1) := by decide +kernel
theorem dX9_size_16 : decode cX9_size 16 = .ok (.iadd, 1) := by decide +kernel
theorem dX9_size_17 : decode cX9_size 17 = .ok (.istore_n 1, 1) := by decide +kernel
theorem dX9_size_18 : decode cX9_size 18 = .ok (.iinc 2 1, 3) := by decide +kernel
theorem dX9_size_21 : decode cX9_size 21 = .ok (.goto (-17), 3) := by decide +kernel
theorem dX9_size_24 : decode cX9_size 24 = .ok (.iload_n 1, 1) := by decide +kernel
theorem dX9_size_25 : decode cX9_size 25 = .ok (.ireturn, 1) := by decide +kernel
theorem dX9_record_0 : decode cX9_record 0 = .ok (.aload_n 0, 1) := by decide +kernel
theorem dX9_record_1 : decode cX9_record 1 = .ok (.getfield 38, 3) := by decide +kernel
theorem dX9_record_4 : decode cX9_record 4 = .ok (.bipush 6, 2) := by decide +kernel
theorem dX9_record_6 : decode cX9_record 6 = .ok (.if_icmp .ne 38, 3) := by decide +kernel
theorem dX9_record_9 : decode cX9_record 9 = .ok (.iconst 0, 1) := by decide +kernel
theorem dX9_record_10 : decode cX9_record 10 = .ok (.istore_n 1, 1) := by decide +kernel
theorem dX9_record_11 : decode cX9_record 11 = .ok (.iload_n 1, 1) := by decide +kernel
theorem dX9_record_12 : decode cX9_record 12 = .ok (.sipush 300, 3) := by decide +kernel
theorem dX9_record_15 : decode cX9_record 15 = .ok (.if_icmp .ge 24, 3) := by decide +kernel
theorem dX9_record_18 : decode cX9_record 18 = .ok (.aload_n 0, 1) := by decide +kernel
theorem dX9_record_19 : decode cX9_record 19 = .ok (.getfield 13, 3) := by decide +kernel
theorem dX9_record_22 : decode cX9_record 22 = .ok (.iload_n 1, 1) := by decide +kernel
theorem dX9_record_23 : decode cX9_record 23 = .ok (.aload_n 0, 1) := by decide +kernel
theorem dX9_record_24 : decode cX9_record 24 = .ok (.getfield 13, 3) := by decide +kernel
theorem dX9_record_27 : decode cX9_record 27 = .ok (.iload_n 1, 1) := by decide +kernel
theorem dX9_record_28 : decode cX9_record 28 = .ok (.bipush 60, 2) := by decide +kernel
theorem dX9_record_30 : decode cX9_record 30 = .ok (.iadd, 1) := by decide +kernel
theorem dX9_record_31 : decode cX9_record 31 = .ok (.iaload, 1) := by decide +kernel
theorem dX9_record_32 : decode cX9_record 32 = .ok (.iastore, 1) := by decide +kernel
theorem dX9_record_33 : decode cX9_record 33 = .ok (.iinc 1 1, 3) := by decide +kernel
theorem dX9_record_36 : decode cX9_record 36 = .ok (.goto (-25), 3) := by decide +kernel
theorem dX9_record_39 : decode cX9_record 39 = .ok (.aload_n 0, 1) := by decide +kernel
theorem dX9_record_40 : decode cX9_record 40 = .ok (.iconst 5, 1) := by decide +kernel
theorem dX9_record_41 : decode cX9_record 41 = .ok (.putfield 38, 3) := by decide +kernel
theorem dX9_record_44 : decode cX9_record 44 = .ok (.iconst 0, 1) := by decide +kernel
theorem dX9_record_45 : decode cX9_record 45 = .ok (.istore_n 1, 1) := by decide +kernel
theorem dX9_record_46 : decode cX9_record 46 = .ok (.iload_n 1, 1) := by decide +kernel
theorem dX9_record_47 : decode cX9_record 47 = .ok (.bipush 60, 2) := by decide +kernel
theorem dX9_record_49 : decode cX9_record 49 = .ok (.if_icmp .ge 29, 3) := by decide +kernel
theorem dX9_record_52 : decode cX9_record 52 = .ok (.aload_n 0, 1) := by decide +kernel
theorem dX9_record_53 : decode cX9_record 53 = .ok (.getfield 13, 3) := by decide +kernel
theorem dX9_record_56 : decode cX9_record 56 = .ok (.aload_n 0, 1) := by decide +kernel
theorem dX9_record_57 : decode cX9_record 57 = .ok (.getfield 38, 3) := by decide +kernel
theorem dX9_record_60 : decode cX9_record 60 = .ok (.bipush 60, 2) := by decide +kernel
theorem dX9_record_62 : decode cX9_record 62 = .ok (.imul, 1) := by decide +kernel
theorem dX9_record_63 : decode cX9_record 63 = .ok (.iload_n 1, 1) := by decide +kernel
theorem dX9_record_64 : decode cX9_record 64 = .ok (.iadd, 1) := by decide +kernel
theorem dX9_record_65 : decode cX9_record 65 = .ok (.aload_n 0, 1) := by decide +kernel
theorem dX9_record_66 : decode cX9_record 66 = .ok (.getfield 7, 3) := by decide +kernel
theorem dX9_record_69 : decode cX9_record 69 = .ok (.iload_n 1, 1) := by decide +kernel
theorem dX9_record_70 : decode cX9_record 70 = .ok (.iaload, 1) := by decide +kernel
theorem dX9_record_71 : decode cX9_record 71 = .ok (.iastore, 1) := by decide +kernel
theorem dX9_record_72 : decode cX9_record 72 = .ok (.iinc 1 1, 3) := by decide +kernel
theorem dX9_record_75 : decode cX9_record 75 = .ok (.goto (-29), 3) := by decide +kernel
theorem dX9_record_78 : decode cX9_record 78 = .ok (.aload_n 0, 1) := by decide +kernel
theorem dX9_record_79 : decode cX9_record 79 = .ok (.dup, 1) := by decide +kernel
theorem dX9_record_80 : decode cX9_record 80 = .ok (.getfield 38, 3) := by decide +kernel
theorem dX9_record_83 : decode cX9_record 83 = .ok (.iconst 1, 1) := by decide +kernel
theorem dX9_record_84 : decode cX9_record 84 = .ok (.iadd, 1) := by decide +kernel
theorem dX9_record_85 : decode cX9_record 85 = .ok (.putfield 38, 3) := by decide +kernel
theorem dX9_record_88 : decode cX9_record 88 = .ok (.return_, 1) := by decide +kernel
theorem dX9_isSet_0 : decode cX9_isSet 0 = .ok (.iload_n 1, 1) := by decide +kernel
theorem dX9_isSet_1 : decode cX9_isSet 1 = .ok (.iconst 0, 1) := by decide +kernel
theorem dX9_isSet_2 : decode cX9_isSet 2 = .ok (.aload_n 0, 1) := by decide +kernel
theorem dX9_isSet_3 : decode cX9_isSet 3 = .ok (.getfield 7, 3) := by decide +kernel
theorem dX9_isSet_6 : decode cX9_isSet 6 = .ok (.iconst 0, 1) := by decide +kernel
theorem dX9_isSet_7 : decode cX9_isSet 7 = .ok (.iaload, 1) := by decide +kernel
theorem dX9_isSet_8 : decode cX9_isSet 8 = .ok (.iconst 1, 1) := by decide +kernel
theorem dX9_isSet_9 : decode cX9_isSet 9 = .ok (.isub, 1) := by decide +kernel
theorem dX9_isSet_10 : decode cX9_isSet 10 = .ok (.invokestatic 42, 3) := by decide +kernel
theorem dX9_isSet_13 : decode cX9_isSet 13 = .ok (.ireturn, 1) := by decide +kernel
theorem dX9_things_0 : decode cX9_things 0 = .ok (.aload_n 0, 1) := by decide +kernel
theorem dX9_things_1 : decode cX9_things 1 = .ok (.getfield 7, 3) := by decide +kernel
theorem dX9_things_4 : decode cX9_things 4 = .ok (.bipush 10, 2) := by decide +kernel
theorem dX9_things_6 : decode cX9_things 6 = .ok (.iconst 3, 1) := by decide +kernel
theorem dX9_things_7 : decode cX9_things 7 = .ok (.iload_n 1, 1) := by decide +kernel
theorem dX9_things_8 : decode cX9_things 8 = .ok (.imul, 1) := by decide +kernel
theorem dX9_things_9 : decode cX9_things 9 = .ok (.iadd, 1) := by decide +kernel
theorem dX9_things_10 : decode cX9_things 10 = .ok (.iaload, 1) := by decide +kernel
theorem dX9_things_11 : decode cX9_things 11 = .ok (.ireturn, 1) := by decide +kernel
theorem dX9_priceOf_0 : decode cX9_priceOf 0 = .ok (.aload_n 0, 1) := by decide +kernel
theorem dX9_priceOf_1 : decode cX9_priceOf 1 = .ok (.getfield 7, 3) := by decide +kernel
theorem dX9_priceOf_4 : decode cX9_priceOf 4 = .ok (.bipush 10, 2) := by decide +kernel
theorem dX9_priceOf_6 : decode cX9_priceOf 6 = .ok (.iconst 3, 1) := by decide +kernel
theorem dX9_priceOf_7 : decode cX9_priceOf 7 = .ok (.iload_n 1, 1) := by decide +kernel
theorem dX9_priceOf_8 : decode cX9_priceOf 8 = .ok (.imul, 1) := by decide +kernel
theorem dX9_priceOf_9 : decode cX9_priceOf 9 = .ok (.iadd, 1) := by decide +kernel
theorem dX9_priceOf_10 : decode cX9_priceOf 10 = .ok (.iconst 1, 1) := by decide +kernel
theorem dX9_priceOf_11 : decode cX9_priceOf 11 = .ok (.iadd, 1) := by decide +kernel
theorem dX9_priceOf_12 : decode cX9_priceOf 12 = .ok (.iaload, 1) := by decide +kernel
theorem dX9_priceOf_13 : decode cX9_priceOf 13 = .ok (.ireturn, 1) := by decide +kernel
theorem dX9_markOf_0 : decode cX9_markOf 0 = .ok (.aload_n 0, 1) := by decide +kernel
theorem dX9_markOf_1 : decode cX9_markOf 1 = .ok (.getfield 7, 3) := by decide +kernel
theorem dX9_markOf_4 : decode cX9_markOf 4 = .ok (.bipush 10, 2) := by decide +kernel
theorem dX9_markOf_6 : decode cX9_markOf 6 = .ok (.iconst 3, 1) := by decide +kernel
theorem dX9_markOf_7 : decode cX9_markOf 7 = .ok (.iload_n 1, 1) := by decide +kernel
theorem dX9_markOf_8 : decode cX9_markOf 8 = .ok (.imul, 1) := by decide +kernel
theorem dX9_markOf_9 : decode cX9_markOf 9 = .ok (.iadd, 1) := by decide +kernel
theorem dX9_markOf_10 : decode cX9_markOf 10 = .ok (.iconst 2, 1) := by decide +kernel
theorem dX9_markOf_11 : decode cX9_markOf 11 = .ok (.iadd, 1) := by decide +kernel
theorem dX9_markOf_12 : decode cX9_markOf 12 = .ok (.iaload, 1) := by decide +kernel
theorem dX9_markOf_13 : decode cX9_markOf 13 = .ok (.ireturn, 1) := by decide +kernel
theorem dX9_need_0 : decode cX9_need 0 = .ok (.iload_n 1, 1) := by decide +kernel
theorem dX9_need_1 : decode cX9_need 1 = .ok (.iconst 0, 1) := by decide +kernel
theorem dX9_need_2 : decode cX9_need 2 = .ok (.ldc 46, 2) := by decide +kernel
theorem dX9_need_4 : decode cX9_need 4 = .ok (.invokestatic 42, 3) := by decide +kernel
theorem dX9_need_7 : decode cX9_need 7 = .ok (.ifCond .ne 6, 3) := by decide +kernel
theorem dX9_need_10 : decode cX9_need 10 = .ok (.bipush (-2), 2) := by decide +kernel
theorem dX9_need_12 : decode cX9_need 12 = .ok (.ireturn, 1) := by decide +kernel
theorem dX9_need_13 : decode cX9_need 13 = .ok (.aload_n 0, 1) := by decide +kernel
theorem dX9_need_14 : decode cX9_need 14 = .ok (.invokevirtual 47, 3) := by decide +kernel
theorem dX9_need_17 : decode cX9_need 17 = .ok (.aload_n 0, 1) := by decide +kernel
theorem dX9_need_18 : decode cX9_need 18 = .ok (.getfield 7, 3) := by decide +kernel
theorem dX9_need_21 : decode cX9_need 21 = .ok (.iconst 1, 1) := by decide +kernel
theorem dX9_need_22 : decode cX9_need 22 = .ok (.iaload, 1) := by decide +kernel
theorem dX9_need_23 : decode cX9_need 23 = .ok (.istore_n 2, 1) := by decide +kernel
theorem dX9_need_24 : decode cX9_need 24 = .ok (.aload_n 0, 1) := by decide +kernel
theorem dX9_need_25 : decode cX9_need 25 = .ok (.getfield 7, 3) := by decide +kernel
theorem dX9_need_28 : decode cX9_need 28 = .ok (.iconst 1, 1) := by decide +kernel
theorem dX9_need_29 : decode cX9_need 29 = .ok (.iload_n 1, 1) := by decide +kernel
theorem dX9_need_30 : decode cX9_need 30 = .ok (.iastore, 1) := by decide +kernel
theorem dX9_need_31 : decode cX9_need 31 = .ok (.iload_n 2, 1) := by decide +kernel
theorem dX9_need_32 : decode cX9_need 32 = .ok (.ireturn, 1) := by decide +kernel
theorem dX9_make_0 : decode cX9_make 0 = .ok (.bipush 10, 2) := by decide +kernel
theorem dX9_make_2 : decode cX9_make 2 = .ok (.iconst 3, 1) := by decide +kernel
theorem dX9_make_3 : decode cX9_make 3 = .ok (.aload_n 0, 1) := by decide +kernel
theorem dX9_make_4 : decode cX9_make 4 = .ok (.getfield 7, 3) := by decide +kernel
theorem dX9_make_7 : decode cX9_make 7 = .ok (.iconst 0, 1) := by decide +kernel
theorem dX9_make_8 : decode cX9_make 8 = .ok (.iaload, 1) := by decide +kernel
theorem dX9_make_9 : decode cX9_make 9 = .ok (.imul, 1) := by decide +kernel
theorem dX9_make_10 : decode cX9_make 10 = .ok (.iadd, 1) := by decide +kernel
theorem dX9_make_11 : decode cX9_make 11 = .ok (.istore_n 3, 1) := by decide +kernel
theorem dX9_make_12 : decode cX9_make 12 = .ok (.aload_n 0, 1) := by decide +kernel
theorem dX9_make_13 : decode cX9_make 13 = .ok (.getfield 7, 3) := by decide +kernel
theorem dX9_make_16 : decode cX9_make 16 = .ok (.iload_n 3, 1) := by decide +kernel
theorem dX9_make_17 : decode cX9_make 17 = .ok (.iload_n 1, 1) := by decide +kernel
theorem dX9_make_18 : decode cX9_make 18 = .ok (.iastore, 1) := by decide +kernel
theorem dX9_make_19 : decode cX9_make 19 = .ok (.aload_n 0, 1) := by decide +kernel
theorem dX9_make_20 : decode cX9_make 20 = .ok (.getfield 7, 3) := by decide +kernel
theorem dX9_make_23 : decode cX9_make 23 = .ok (.iload_n 3, 1) := by decide +kernel
theorem dX9_make_24 : decode cX9_make 24 = .ok (.iconst 1, 1) := by decide +kernel
theorem dX9_make_25 : decode cX9_make 25 = .ok (.iadd, 1) := by decide +kernel
theorem dX9_make_26 : decode cX9_make 26 = .ok (.iload_n 2, 1) := by decide +kernel
theorem dX9_make_27 : decode cX9_make 27 = .ok (.iastore, 1) := by decide +kernel
theorem dX9_make_28 : decode cX9_make 28 = .ok (.aload_n 0, 1) := by decide +kernel
theorem dX9_make_29 : decode cX9_make 29 = .ok (.getfield 7, 3) := by decide +kernel
theorem dX9_make_32 : decode cX9_make 32 = .ok (.iload_n 3, 1) := by decide +kernel
theorem dX9_make_33 : decode cX9_make 33 = .ok (.iconst 2, 1) := by decide +kernel
theorem dX9_make_34 : decode cX9_make 34 = .ok (.iadd, 1) := by decide +kernel
theorem dX9_make_35 : decode cX9_make 35 = .ok (.iconst 0, 1) := by decide +kernel
theorem dX9_make_36 : decode cX9_make 36 = .ok (.iastore, 1) := by decide +kernel
theorem dX9_make_37 : decode cX9_make 37 = .ok (.aload_n 0, 1) := by decide +kernel
theorem dX9_make_38 : decode cX9_make 38 = .ok (.getfield 7, 3) := by decide +kernel
theorem dX9_make_41 : decode cX9_make 41 = .ok (.iconst 0, 1) := by decide +kernel
theorem dX9_make_42 : decode cX9_make 42 = .ok (.dup2, 1) := by decide +kernel
theorem dX9_make_43 : decode cX9_make 43 = .ok (.iaload, 1) := by decide +kernel
theorem dX9_make_44 : decode cX9_make 44 = .ok (.iconst 1, 1) := by decide +kernel
theorem dX9_make_45 : decode cX9_make 45 = .ok (.iadd, 1) := by decide +kernel
theorem dX9_make_46 : decode cX9_make 46 = .ok (.iastore, 1) := by decide +kernel
theorem dX9_make_47 : decode cX9_make 47 = .ok (.return_, 1) := by decide +kernel
theorem dX9_set_0 : decode cX9_set 0 = .ok (.iload_n 1, 1) := by decide +kernel
theorem dX9_set_1 : decode cX9_set 1 = .ok (.iconst 1, 1) := by decide +kernel
theorem dX9_set_2 : decode cX9_set 2 = .ok (.ldc 46, 2) := by decide +kernel
theorem dX9_set_4 : decode cX9_set 4 = .ok (.invokestatic 42, 3) := by decide +kernel
theorem dX9_set_7 : decode cX9_set 7 = .ok (.ifCond .eq 14, 3) := by decide +kernel
theorem dX9_set_10 : decode cX9_set 10 = .ok (.iload_n 2, 1) := by decide +kernel
theorem dX9_set_11 : decode cX9_set 11 = .ok (.iconst 1, 1) := by decide +kernel
theorem dX9_set_12 : decode cX9_set 12 = .ok (.sipush 500, 3) := by decide +kernel
theorem dX9_set_15 : decode cX9_set 15 = .ok (.invokestatic 42, 3) := by decide +kernel
theorem dX9_set_18 : decode cX9_set 18 = .ok (.ifCond .ne 6, 3) := by decide +kernel
theorem dX9_set_21 : decode cX9_set 21 = .ok (.bipush (-2), 2) := by decide +kernel
theorem dX9_set_23 : decode cX9_set 23 = .ok (.ireturn, 1) := by decide +kernel
theorem dX9_set_24 : decode cX9_set 24 = .ok (.aload_n 0, 1) := by decide +kernel
theorem dX9_set_25 : decode cX9_set 25 = .ok (.getfield 7, 3) := by decide +kernel
theorem dX9_set_28 : decode cX9_set 28 = .ok (.iconst 0, 1) := by decide +kernel
theorem dX9_set_29 : decode cX9_set 29 = .ok (.iaload, 1) := by decide +kernel
theorem dX9_set_30 : decode cX9_set 30 = .ok (.bipush 14, 2) := by decide +kernel
theorem dX9_set_32 : decode cX9_set 32 = .ok (.if_icmp .ne 6, 3) := by decide +kernel
theorem dX9_set_35 : decode cX9_set 35 = .ok (.bipush (-4), 2) := by decide +kernel
theorem dX9_set_37 : decode cX9_set 37 = .ok (.ireturn, 1) := by decide +kernel
theorem dX9_set_38 : decode cX9_set 38 = .ok (.aload_n 0, 1) := by decide +kernel
theorem dX9_set_39 : decode cX9_set 39 = .ok (.invokevirtual 47, 3) := by decide +kernel
theorem dX9_set_42 : decode cX9_set 42 = .ok (.aload_n 0, 1) := by decide +kernel
theorem dX9_set_43 : decode cX9_set 43 = .ok (.iload_n 1, 1) := by decide +kernel
theorem dX9_set_44 : decode cX9_set 44 = .ok (.iload_n 2, 1) := by decide +kernel
theorem dX9_set_45 : decode cX9_set 45 = .ok (.invokevirtual 50, 3) := by decide +kernel
theorem dX9_set_48 : decode cX9_set 48 = .ok (.aload_n 0, 1) := by decide +kernel
theorem dX9_set_49 : decode cX9_set 49 = .ok (.getfield 7, 3) := by decide +kernel
theorem dX9_set_52 : decode cX9_set 52 = .ok (.iconst 0, 1) := by decide +kernel
theorem dX9_set_53 : decode cX9_set 53 = .ok (.iaload, 1) := by decide +kernel
theorem dX9_set_54 : decode cX9_set 54 = .ok (.iconst 1, 1) := by decide +kernel
theorem dX9_set_55 : decode cX9_set 55 = .ok (.isub, 1) := by decide +kernel
theorem dX9_set_56 : decode cX9_set 56 = .ok (.ireturn, 1) := by decide +kernel
theorem dX9_price_0 : decode cX9_price 0 = .ok (.aload_n 0, 1) := by decide +kernel
theorem dX9_price_1 : decode cX9_price 1 = .ok (.iload_n 1, 1) := by decide +kernel
theorem dX9_price_2 : decode cX9_price 2 = .ok (.invokevirtual 54, 3) := by decide +kernel
theorem dX9_price_5 : decode cX9_price 5 = .ok (.ifCond .ne 5, 3) := by decide +kernel
theorem dX9_price_8 : decode cX9_price 8 = .ok (.iconst (-1), 1) := by decide +kernel
theorem dX9_price_9 : decode cX9_price 9 = .ok (.ireturn, 1) := by decide +kernel
theorem dX9_price_10 : decode cX9_price 10 = .ok (.iload_n 2, 1) := by decide +kernel
theorem dX9_price_11 : decode cX9_price 11 = .ok (.iconst 1, 1) := by decide +kernel
theorem dX9_price_12 : decode cX9_price 12 = .ok (.sipush 500, 3) := by decide +kernel
theorem dX9_price_15 : decode cX9_price 15 = .ok (.invokestatic 42, 3) := by decide +kernel
theorem dX9_price_18 : decode cX9_price 18 = .ok (.ifCond .ne 6, 3) := by decide +kernel
theorem dX9_price_21 : decode cX9_price 21 = .ok (.bipush (-2), 2) := by decide +kernel
theorem dX9_price_23 : decode cX9_price 23 = .ok (.ireturn, 1) := by decide +kernel
theorem dX9_price_24 : decode cX9_price 24 = .ok (.aload_n 0, 1) := by decide +kernel
theorem dX9_price_25 : decode cX9_price 25 = .ok (.invokevirtual 47, 3) := by decide +kernel
theorem dX9_price_28 : decode cX9_price 28 = .ok (.aload_n 0, 1) := by decide +kernel
theorem dX9_price_29 : decode cX9_price 29 = .ok (.iload_n 1, 1) := by decide +kernel
theorem dX9_price_30 : decode cX9_price 30 = .ok (.invokevirtual 58, 3) := by decide +kernel
theorem dX9_price_33 : decode cX9_price 33 = .ok (.istore_n 3, 1) := by decide +kernel
theorem dX9_price_34 : decode cX9_price 34 = .ok (.aload_n 0, 1) := by decide +kernel
theorem dX9_price_35 : decode cX9_price 35 = .ok (.getfield 7, 3) := by decide +kernel
theorem dX9_price_38 : decode cX9_price 38 = .ok (.bipush 10, 2) := by decide +kernel
theorem dX9_price_40 : decode cX9_price 40 = .ok (.iconst 3, 1) := by decide +kernel
theorem dX9_price_41 : decode cX9_price 41 = .ok (.iload_n 1, 1) := by decide +kernel
theorem dX9_price_42 : decode cX9_price 42 = .ok (.imul, 1) := by decide +kernel
theorem dX9_price_43 : decode cX9_price 43 = .ok (.iadd, 1) := by decide +kernel
theorem dX9_price_44 : decode cX9_price 44 = .ok (.iconst 1, 1) := by decide +kernel
theorem dX9_price_45 : decode cX9_price 45 = .ok (.iadd, 1) := by decide +kernel
theorem dX9_price_46 : decode cX9_price 46 = .ok (.iload_n 2, 1) := by decide +kernel
theorem dX9_price_47 : decode cX9_price 47 = .ok (.iastore, 1) := by decide +kernel
theorem dX9_price_48 : decode cX9_price 48 = .ok (.iload_n 3, 1) := by decide +kernel
theorem dX9_price_49 : decode cX9_price 49 = .ok (.ireturn, 1) := by decide +kernel
theorem dX9_mark_0 : decode cX9_mark 0 = .ok (.aload_n 0, 1) := by decide +kernel
theorem dX9_mark_1 : decode cX9_mark 1 = .ok (.iload_n 1, 1) := by decide +kernel
theorem dX9_mark_2 : decode cX9_mark 2 = .ok (.invokevirtual 54, 3) := by decide +kernel
theorem dX9_mark_5 : decode cX9_mark 5 = .ok (.ifCond .ne 5, 3) := by decide +kernel
theorem dX9_mark_8 : decode cX9_mark 8 = .ok (.iconst (-1), 1) := by decide +kernel
theorem dX9_mark_9 : decode cX9_mark 9 = .ok (.ireturn, 1) := by decide +kernel
theorem dX9_mark_10 : decode cX9_mark 10 = .ok (.iload_n 2, 1) := by decide +kernel
theorem dX9_mark_11 : decode cX9_mark 11 = .ok (.iconst 0, 1) := by decide +kernel
theorem dX9_mark_12 : decode cX9_mark 12 = .ok (.iconst 2, 1) := by decide +kernel
theorem dX9_mark_13 : decode cX9_mark 13 = .ok (.invokestatic 42, 3) := by decide +kernel
theorem dX9_mark_16 : decode cX9_mark 16 = .ok (.ifCond .ne 6, 3) := by decide +kernel
theorem dX9_mark_19 : decode cX9_mark 19 = .ok (.bipush (-2), 2) := by decide +kernel
theorem dX9_mark_21 : decode cX9_mark 21 = .ok (.ireturn, 1) := by decide +kernel
theorem dX9_mark_22 : decode cX9_mark 22 = .ok (.aload_n 0, 1) := by decide +kernel
theorem dX9_mark_23 : decode cX9_mark 23 = .ok (.invokevirtual 47, 3) := by decide +kernel
theorem dX9_mark_26 : decode cX9_mark 26 = .ok (.aload_n 0, 1) := by decide +kernel
theorem dX9_mark_27 : decode cX9_mark 27 = .ok (.iload_n 1, 1) := by decide +kernel
theorem dX9_mark_28 : decode cX9_mark 28 = .ok (.invokevirtual 62, 3) := by decide +kernel
theorem dX9_mark_31 : decode cX9_mark 31 = .ok (.istore_n 3, 1) := by decide +kernel
theorem dX9_mark_32 : decode cX9_mark 32 = .ok (.aload_n 0, 1) := by decide +kernel
theorem dX9_mark_33 : decode cX9_mark 33 = .ok (.getfield 7, 3) := by decide +kernel
theorem dX9_mark_36 : decode cX9_mark 36 = .ok (.bipush 10, 2) := by decide +kernel
theorem dX9_mark_38 : decode cX9_mark 38 = .ok (.iconst 3, 1) := by decide +kernel
theorem dX9_mark_39 : decode cX9_mark 39 = .ok (.iload_n 1, 1) := by decide +kernel
theorem dX9_mark_40 : decode cX9_mark 40 = .ok (.imul, 1) := by decide +kernel
theorem dX9_mark_41 : decode cX9_mark 41 = .ok (.iadd, 1) := by decide +kernel
theorem dX9_mark_42 : decode cX9_mark 42 = .ok (.iconst 2, 1) := by decide +kernel
theorem dX9_mark_43 : decode cX9_mark 43 = .ok (.iadd, 1) := by decide +kernel
theorem dX9_mark_44 : decode cX9_mark 44 = .ok (.iload_n 2, 1) := by decide +kernel
theorem dX9_mark_45 : decode cX9_mark 45 = .ok (.iastore, 1) := by decide +kernel
theorem dX9_mark_46 : decode cX9_mark 46 = .ok (.iload_n 3, 1) := by decide +kernel
theorem dX9_mark_47 : decode cX9_mark 47 = .ok (.ireturn, 1) := by decide +kernel
theorem dX9_turn_0 : decode cX9_turn 0 = .ok (.aload_n 0, 1) := by decide +kernel
theorem dX9_turn_1 : decode cX9_turn 1 = .ok (.iload_n 1, 1) := by decide +kernel
theorem dX9_turn_2 : decode cX9_turn 2 = .ok (.invokevirtual 54, 3) := by decide +kernel
theorem dX9_turn_5 : decode cX9_turn 5 = .ok (.ifCond .ne 5, 3) := by decide +kernel
theorem dX9_turn_8 : decode cX9_turn 8 = .ok (.iconst (-1), 1) := by decide +kernel
theorem dX9_turn_9 : decode cX9_turn 9 = .ok (.ireturn, 1) := by decide +kernel
theorem dX9_turn_10 : decode cX9_turn 10 = .ok (.iload_n 2, 1) := by decide +kernel
theorem dX9_turn_11 : decode cX9_turn 11 = .ok (.iconst 1, 1) := by decide +kernel
theorem dX9_turn_12 : decode cX9_turn 12 = .ok (.ldc 46, 2) := by decide +kernel
theorem dX9_turn_14 : decode cX9_turn 14 = .ok (.invokestatic 42, 3) := by decide +kernel
theorem dX9_turn_17 : decode cX9_turn 17 = .ok (.ifCond .ne 6, 3) := by decide +kernel
theorem dX9_turn_20 : decode cX9_turn 20 = .ok (.bipush (-2), 2) := by decide +kernel
theorem dX9_turn_22 : decode cX9_turn 22 = .ok (.ireturn, 1) := by decide +kernel
theorem dX9_turn_23 : decode cX9_turn 23 = .ok (.aload_n 0, 1) := by decide +kernel
theorem dX9_turn_24 : decode cX9_turn 24 = .ok (.iload_n 1, 1) := by decide +kernel
theorem dX9_turn_25 : decode cX9_turn 25 = .ok (.invokevirtual 65, 3) := by decide +kernel
theorem dX9_turn_28 : decode cX9_turn 28 = .ok (.iload_n 2, 1) := by decide +kernel
theorem dX9_turn_29 : decode cX9_turn 29 = .ok (.if_icmp .ne 6, 3) := by decide +kernel
theorem dX9_turn_32 : decode cX9_turn 32 = .ok (.bipush (-5), 2) := by decide +kernel
theorem dX9_turn_34 : decode cX9_turn 34 = .ok (.ireturn, 1) := by decide +kernel
theorem dX9_turn_35 : decode cX9_turn 35 = .ok (.aload_n 0, 1) := by decide +kernel
theorem dX9_turn_36 : decode cX9_turn 36 = .ok (.invokevirtual 47, 3) := by decide +kernel
theorem dX9_turn_39 : decode cX9_turn 39 = .ok (.aload_n 0, 1) := by decide +kernel
theorem dX9_turn_40 : decode cX9_turn 40 = .ok (.getfield 7, 3) := by decide +kernel
theorem dX9_turn_43 : decode cX9_turn 43 = .ok (.bipush 10, 2) := by decide +kernel
theorem dX9_turn_45 : decode cX9_turn 45 = .ok (.iconst 3, 1) := by decide +kernel
theorem dX9_turn_46 : decode cX9_turn 46 = .ok (.iload_n 1, 1) := by decide +kernel
theorem dX9_turn_47 : decode cX9_turn 47 = .ok (.imul, 1) := by decide +kernel
theorem dX9_turn_48 : decode cX9_turn 48 = .ok (.iadd, 1) := by decide +kernel
theorem dX9_turn_49 : decode cX9_turn 49 = .ok (.dup2, 1) := by decide +kernel
theorem dX9_turn_50 : decode cX9_turn 50 = .ok (.iaload, 1) := by decide +kernel
theorem dX9_turn_51 : decode cX9_turn 51 = .ok (.iload_n 2, 1) := by decide +kernel
theorem dX9_turn_52 : decode cX9_turn 52 = .ok (.ixor, 1) := by decide +kernel
theorem dX9_turn_53 : decode cX9_turn 53 = .ok (.iastore, 1) := by decide +kernel
theorem dX9_turn_54 : decode cX9_turn 54 = .ok (.aload_n 0, 1) := by decide +kernel
theorem dX9_turn_55 : decode cX9_turn 55 = .ok (.iload_n 1, 1) := by decide +kernel
theorem dX9_turn_56 : decode cX9_turn 56 = .ok (.invokevirtual 65, 3) := by decide +kernel
theorem dX9_turn_59 : decode cX9_turn 59 = .ok (.ireturn, 1) := by decide +kernel
theorem dX9_drop_0 : decode cX9_drop 0 = .ok (.aload_n 0, 1) := by decide +kernel
theorem dX9_drop_1 : decode cX9_drop 1 = .ok (.iload_n 1, 1) := by decide +kernel
theorem dX9_drop_2 : decode cX9_drop 2 = .ok (.invokevirtual 54, 3) := by decide +kernel
theorem dX9_drop_5 : decode cX9_drop 5 = .ok (.ifCond .ne 5, 3) := by decide +kernel
theorem dX9_drop_8 : decode cX9_drop 8 = .ok (.iconst (-1), 1) := by decide +kernel
theorem dX9_drop_9 : decode cX9_drop 9 = .ok (.ireturn, 1) := by decide +kernel
theorem dX9_drop_10 : decode cX9_drop 10 = .ok (.aload_n 0, 1) := by decide +kernel
theorem dX9_drop_11 : decode cX9_drop 11 = .ok (.invokevirtual 47, 3) := by decide +kernel
theorem dX9_drop_14 : decode cX9_drop 14 = .ok (.aload_n 0, 1) := by decide +kernel
theorem dX9_drop_15 : decode cX9_drop 15 = .ok (.getfield 7, 3) := by decide +kernel
theorem dX9_drop_18 : decode cX9_drop 18 = .ok (.iconst 0, 1) := by decide +kernel
theorem dX9_drop_19 : decode cX9_drop 19 = .ok (.dup2, 1) := by decide +kernel
theorem dX9_drop_20 : decode cX9_drop 20 = .ok (.iaload, 1) := by decide +kernel
theorem dX9_drop_21 : decode cX9_drop 21 = .ok (.iconst 1, 1) := by decide +kernel
theorem dX9_drop_22 : decode cX9_drop 22 = .ok (.isub, 1) := by decide +kernel
theorem dX9_drop_23 : decode cX9_drop 23 = .ok (.iastore, 1) := by decide +kernel
theorem dX9_drop_24 : decode cX9_drop 24 = .ok (.bipush 10, 2) := by decide +kernel
theorem dX9_drop_26 : decode cX9_drop 26 = .ok (.iconst 3, 1) := by decide +kernel
theorem dX9_drop_27 : decode cX9_drop 27 = .ok (.iload_n 1, 1) := by decide +kernel
theorem dX9_drop_28 : decode cX9_drop 28 = .ok (.imul, 1) := by decide +kernel
theorem dX9_drop_29 : decode cX9_drop 29 = .ok (.iadd, 1) := by decide +kernel
theorem dX9_drop_30 : decode cX9_drop 30 = .ok (.istore_n 2, 1) := by decide +kernel
theorem dX9_drop_31 : decode cX9_drop 31 = .ok (.iload_n 2, 1) := by decide +kernel
theorem dX9_drop_32 : decode cX9_drop 32 = .ok (.bipush 10, 2) := by decide +kernel
theorem dX9_drop_34 : decode cX9_drop 34 = .ok (.iconst 3, 1) := by decide +kernel
theorem dX9_drop_35 : decode cX9_drop 35 = .ok (.aload_n 0, 1) := by decide +kernel
theorem dX9_drop_36 : decode cX9_drop 36 = .ok (.getfield 7, 3) := by decide +kernel
theorem dX9_drop_39 : decode cX9_drop 39 = .ok (.iconst 0, 1) := by decide +kernel
theorem dX9_drop_40 : decode cX9_drop 40 = .ok (.iaload, 1) := by decide +kernel
theorem dX9_drop_41 : decode cX9_drop 41 = .ok (.imul, 1) := by decide +kernel
theorem dX9_drop_42 : decode cX9_drop 42 = .ok (.iadd, 1) := by decide +kernel
theorem dX9_drop_43 : decode cX9_drop 43 = .ok (.if_icmp .ge 23, 3) := by decide +kernel
theorem dX9_drop_46 : decode cX9_drop 46 = .ok (.aload_n 0, 1) := by decide +kernel
theorem dX9_drop_47 : decode cX9_drop 47 = .ok (.getfield 7, 3) := by decide +kernel
theorem dX9_drop_50 : decode cX9_drop 50 = .ok (.iload_n 2, 1) := by decide +kernel
theorem dX9_drop_51 : decode cX9_drop 51 = .ok (.aload_n 0, 1) := by decide +kernel
theorem dX9_drop_52 : decode cX9_drop 52 = .ok (.getfield 7, 3) := by decide +kernel
theorem dX9_drop_55 : decode cX9_drop 55 = .ok (.iload_n 2, 1) := by decide +kernel
theorem dX9_drop_56 : decode cX9_drop 56 = .ok (.iconst 3, 1) := by decide +kernel
theorem dX9_drop_57 : decode cX9_drop 57 = .ok (.iadd, 1) := by decide +kernel
theorem dX9_drop_58 : decode cX9_drop 58 = .ok (.iaload, 1) := by decide +kernel
theorem dX9_drop_59 : decode cX9_drop 59 = .ok (.iastore, 1) := by decide +kernel
theorem dX9_drop_60 : decode cX9_drop 60 = .ok (.iinc 2 1, 3) := by decide +kernel
theorem dX9_drop_63 : decode cX9_drop 63 = .ok (.goto (-32), 3) := by decide +kernel
theorem dX9_drop_66 : decode cX9_drop 66 = .ok (.aload_n 0, 1) := by decide +kernel
theorem dX9_drop_67 : decode cX9_drop 67 = .ok (.getfield 7, 3) := by decide +kernel
theorem dX9_drop_70 : decode cX9_drop 70 = .ok (.iconst 0, 1) := by decide +kernel
theorem dX9_drop_71 : decode cX9_drop 71 = .ok (.iaload, 1) := by decide +kernel
theorem dX9_drop_72 : decode cX9_drop 72 = .ok (.ireturn, 1) := by decide +kernel
theorem dX9_read_0 : decode cX9_read 0 = .ok (.aload_n 0, 1) := by decide +kernel
theorem dX9_read_1 : decode cX9_read 1 = .ok (.iconst 0, 1) := by decide +kernel
theorem dX9_read_2 : decode cX9_read 2 = .ok (.putfield 68, 3) := by decide +kernel
theorem dX9_read_5 : decode cX9_read 5 = .ok (.iconst 0, 1) := by decide +kernel
theorem dX9_read_6 : decode cX9_read 6 = .ok (.istore_n 1, 1) := by decide +kernel
theorem dX9_read_7 : decode cX9_read 7 = .ok (.iconst 0, 1) := by decide +kernel
theorem dX9_read_8 : decode cX9_read 8 = .ok (.istore_n 2, 1) := by decide +kernel
theorem dX9_read_9 : decode cX9_read 9 = .ok (.iconst 0, 1) := by decide +kernel
theorem dX9_read_10 : decode cX9_read 10 = .ok (.istore_n 3, 1) := by decide +kernel
theorem dX9_read_11 : decode cX9_read 11 = .ok (.iload_n 3, 1) := by decide +kernel
theorem dX9_read_12 : decode cX9_read 12 = .ok (.aload_n 0, 1) := by decide +kernel
theorem dX9_read_13 : decode cX9_read 13 = .ok (.getfield 71, 3) := by decide +kernel
theorem dX9_read_16 : decode cX9_read 16 = .ok (.if_icmp .ge 255, 3) := by decide +kernel
theorem dX9_read_19 : decode cX9_read 19 = .ok (.aload_n 0, 1) := by decide +kernel
theorem dX9_read_20 : decode cX9_read 20 = .ok (.getfield 23, 3) := by decide +kernel
theorem dX9_read_23 : decode cX9_read 23 = .ok (.iload_n 3, 1) := by decide +kernel
theorem dX9_read_24 : decode cX9_read 24 = .ok (.iaload, 1) := by decide +kernel
theorem dX9_read_25 : decode cX9_read 25 = .ok (.istore 4, 2) := by decide +kernel
theorem dX9_read_27 : decode cX9_read 27 = .ok (.iload 4, 2) := by decide +kernel
theorem dX9_read_29 : decode cX9_read 29 = .ok (.bipush 97, 2) := by decide +kernel
theorem dX9_read_31 : decode cX9_read 31 = .ok (.bipush 114, 2) := by decide +kernel
theorem dX9_read_33 : decode cX9_read 33 = .ok (.invokestatic 42, 3) := by decide +kernel
theorem dX9_read_36 : decode cX9_read 36 = .ok (.ifCond .eq 22, 3) := by decide +kernel
theorem dX9_read_39 : decode cX9_read 39 = .ok (.iload_n 1, 1) := by decide +kernel
theorem dX9_read_40 : decode cX9_read 40 = .ok (.ifCond .eq 14, 3) := by decide +kernel
theorem dX9_read_43 : decode cX9_read 43 = .ok (.iload_n 1, 1) := by decide +kernel
theorem dX9_read_44 : decode cX9_read 44 = .ok (.iconst 1, 1) := by decide +kernel
theorem dX9_read_45 : decode cX9_read 45 = .ok (.if_icmp .ne 13, 3) := by decide +kernel
theorem dX9_read_48 : decode cX9_read 48 = .ok (.iload 4, 2) := by decide +kernel
theorem dX9_read_50 : decode cX9_read 50 = .ok (.iload_n 2, 1) := by decide +kernel
theorem dX9_read_51 : decode cX9_read 51 = .ok (.if_icmp .le 7, 3) := by decide +kernel
theorem dX9_read_54 : decode cX9_read 54 = .ok (.iconst 1, 1) := by decide +kernel
theorem dX9_read_55 : decode cX9_read 55 = .ok (.goto 4, 3) := by decide +kernel
theorem dX9_read_58 : decode cX9_read 58 = .ok (.iconst 0, 1) := by decide +kernel
theorem dX9_read_59 : decode cX9_read 59 = .ok (.istore 5, 2) := by decide +kernel
theorem dX9_read_61 : decode cX9_read 61 = .ok (.iload_n 1, 1) := by decide +kernel
theorem dX9_read_62 : decode cX9_read 62 = .ok (.iconst 2, 1) := by decide +kernel
theorem dX9_read_63 : decode cX9_read 63 = .ok (.if_icmp .ne 15, 3) := by decide +kernel
theorem dX9_read_66 : decode cX9_read 66 = .ok (.iload 4, 2) := by decide +kernel
theorem dX9_read_68 : decode cX9_read 68 = .ok (.bipush 49, 2) := by decide +kernel
theorem dX9_read_70 : decode cX9_read 70 = .ok (.bipush 57, 2) := by decide +kernel
theorem dX9_read_72 : decode cX9_read 72 = .ok (.invokestatic 42, 3) := by decide +kernel
theorem dX9_read_75 : decode cX9_read 75 = .ok (.ifCond .ne 44, 3) := by decide +kernel
theorem dX9_read_78 : decode cX9_read 78 = .ok (.iload_n 1, 1) := by decide +kernel
theorem dX9_read_79 : decode cX9_read 79 = .ok (.iconst 3, 1) := by decide +kernel
theorem dX9_read_80 : decode cX9_read 80 = .ok (.if_icmp .ne 43, 3) := by decide +kernel
theorem dX9_read_83 : decode cX9_read 83 = .ok (.iload 4, 2) := by decide +kernel
theorem dX9_read_85 : decode cX9_read 85 = .ok (.bipush 48, 2) := by decide +kernel
theorem dX9_read_87 : decode cX9_read 87 = .ok (.bipush 57, 2) := by decide +kernel
theorem dX9_read_89 : decode cX9_read 89 = .ok (.invokestatic 42, 3) := by decide +kernel
theorem dX9_read_92 : decode cX9_read 92 = .ok (.ifCond .eq 31, 3) := by decide +kernel
theorem dX9_read_95 : decode cX9_read 95 = .ok (.bipush 10, 2) := by decide +kernel
theorem dX9_read_97 : decode cX9_read 97 = .ok (.aload_n 0, 1) := by decide +kernel
theorem dX9_read_98 : decode cX9_read 98 = .ok (.getfield 29, 3) := by decide +kernel
theorem dX9_read_101 : decode cX9_read 101 = .ok (.aload_n 0, 1) := by decide +kernel
theorem dX9_read_102 : decode cX9_read 102 = .ok (.getfield 68, 3) := by decide +kernel
theorem dX9_read_105 : decode cX9_read 105 = .ok (.iaload, 1) := by decide +kernel
theorem dX9_read_106 : decode cX9_read 106 = .ok (.imul, 1) := by decide +kernel
theorem dX9_read_107 : decode cX9_read 107 = .ok (.iload 4, 2) := by decide +kernel
theorem dX9_read_109 : decode cX9_read 109 = .ok (.iadd, 1) := by decide +kernel
theorem dX9_read_110 : decode cX9_read 110 = .ok (.bipush 48, 2) := by decide +kernel
theorem dX9_read_112 : decode cX9_read 112 = .ok (.isub, 1) := by decide +kernel
theorem dX9_read_113 : decode cX9_read 113 = .ok (.sipush 500, 3) := by decide +kernel
theorem dX9_read_116 : decode cX9_read 116 = .ok (.if_icmp .gt 7, 3) := by decide +kernel
theorem dX9_read_119 : decode cX9_read 119 = .ok (.iconst 1, 1) := by decide +kernel
theorem dX9_read_120 : decode cX9_read 120 = .ok (.goto 4, 3) := by decide +kernel
theorem dX9_read_123 : decode cX9_read 123 = .ok (.iconst 0, 1) := by decide +kernel
theorem dX9_read_124 : decode cX9_read 124 = .ok (.istore 6, 2) := by decide +kernel
theorem dX9_read_126 : decode cX9_read 126 = .ok (.iload 5, 2) := by decide +kernel
theorem dX9_read_128 : decode cX9_read 128 = .ok (.ifCond .eq 45, 3) := by decide +kernel
theorem dX9_read_131 : decode cX9_read 131 = .ok (.aload_n 0, 1) := by decide +kernel
theorem dX9_read_132 : decode cX9_read 132 = .ok (.getfield 26, 3) := by decide +kernel
theorem dX9_read_135 : decode cX9_read 135 = .ok (.aload_n 0, 1) := by decide +kernel
theorem dX9_read_136 : decode cX9_read 136 = .ok (.getfield 68, 3) := by decide +kernel
theorem dX9_read_139 : decode cX9_read 139 = .ok (.iload_n 1, 1) := by decide +kernel
theorem dX9_read_140 : decode cX9_read 140 = .ok (.ifCond .ne 7, 3) := by decide +kernel
theorem dX9_read_143 : decode cX9_read 143 = .ok (.iconst 0, 1) := by decide +kernel
theorem dX9_read_144 : decode cX9_read 144 = .ok (.goto 12, 3) := by decide +kernel
theorem dX9_read_147 : decode cX9_read 147 = .ok (.aload_n 0, 1) := by decide +kernel
theorem dX9_read_148 : decode cX9_read 148 = .ok (.getfield 26, 3) := by decide +kernel
theorem dX9_read_151 : decode cX9_read 151 = .ok (.aload_n 0, 1) := by decide +kernel
theorem dX9_read_152 : decode cX9_read 152 = .ok (.getfield 68, 3) := by decide +kernel
theorem dX9_read_155 : decode cX9_read 155 = .ok (.iaload, 1) := by decide +kernel
theorem dX9_read_156 : decode cX9_read 156 = .ok (.iconst 1, 1) := by decide +kernel
theorem dX9_read_157 : decode cX9_read 157 = .ok (.iload 4, 2) := by decide +kernel
theorem dX9_read_159 : decode cX9_read 159 = .ok (.bipush 97, 2) := by decide +kernel
theorem dX9_read_161 : decode cX9_read 161 = .ok (.isub, 1) := by decide +kernel
theorem dX9_read_162 : decode cX9_read 162 = .ok (.ishl, 1) := by decide +kernel
theorem dX9_read_163 : decode cX9_read 163 = .ok (.ior, 1) := by decide +kernel
theorem dX9_read_164 : decode cX9_read 164 = .ok (.iastore, 1) := by decide +kernel
theorem dX9_read_165 : decode cX9_read 165 = .ok (.iload 4, 2) := by decide +kernel
theorem dX9_read_167 : decode cX9_read 167 = .ok (.istore_n 2, 1) := by decide +kernel
theorem dX9_read_168 : decode cX9_read 168 = .ok (.iconst 1, 1) := by decide +kernel
theorem dX9_read_169 : decode cX9_read 169 = .ok (.istore_n 1, 1) := by decide +kernel
theorem dX9_read_170 : decode cX9_read 170 = .ok (.goto 95, 3) := by decide +kernel
theorem dX9_read_173 : decode cX9_read 173 = .ok (.iload 6, 2) := by decide +kernel
theorem dX9_read_175 : decode cX9_read 175 = .ok (.ifCond .eq 44, 3) := by decide +kernel
theorem dX9_read_178 : decode cX9_read 178 = .ok (.aload_n 0, 1) := by decide +kernel
theorem dX9_read_179 : decode cX9_read 179 = .ok (.getfield 29, 3) := by decide +kernel
theorem dX9_read_182 : decode cX9_read 182 = .ok (.aload_n 0, 1) := by decide +kernel
theorem dX9_read_183 : decode cX9_read 183 = .ok (.getfield 68, 3) := by decide +kernel
theorem dX9_read_186 : decode cX9_read 186 = .ok (.iload_n 1, 1) := by decide +kernel
theorem dX9_read_187 : decode cX9_read 187 = .ok (.iconst 2, 1) := by decide +kernel
theorem dX9_read_188 : decode cX9_read 188 = .ok (.if_icmp .ne 7, 3) := by decide +kernel
theorem dX9_read_191 : decode cX9_read 191 = .ok (.iconst 0, 1) := by decide +kernel
theorem dX9_read_192 : decode cX9_read 192 = .ok (.goto 15, 3) := by decide +kernel
theorem dX9_read_195 : decode cX9_read 195 = .ok (.bipush 10, 2) := by decide +kernel
theorem dX9_read_197 : decode cX9_read 197 = .ok (.aload_n 0, 1) := by decide +kernel
theorem dX9_read_198 : decode cX9_read 198 = .ok (.getfield 29, 3) := by decide +kernel
theorem dX9_read_201 : decode cX9_read 201 = .ok (.aload_n 0, 1) := by decide +kernel
theorem dX9_read_202 : decode cX9_read 202 = .ok (.getfield 68, 3) := by decide +kernel
theorem dX9_read_205 : decode cX9_read 205 = .ok (.iaload, 1) := by decide +kernel
theorem dX9_read_206 : decode cX9_read 206 = .ok (.imul, 1) := by decide +kernel
theorem dX9_read_207 : decode cX9_read 207 = .ok (.iload 4, 2) := by decide +kernel
theorem dX9_read_209 : decode cX9_read 209 = .ok (.iadd, 1) := by decide +kernel
theorem dX9_read_210 : decode cX9_read 210 = .ok (.bipush 48, 2) := by decide +kernel
theorem dX9_read_212 : decode cX9_read 212 = .ok (.isub, 1) := by decide +kernel
theorem dX9_read_213 : decode cX9_read 213 = .ok (.iastore, 1) := by decide +kernel
theorem dX9_read_214 : decode cX9_read 214 = .ok (.iconst 3, 1) := by decide +kernel
theorem dX9_read_215 : decode cX9_read 215 = .ok (.istore_n 1, 1) := by decide +kernel
theorem dX9_read_216 : decode cX9_read 216 = .ok (.goto 49, 3) := by decide +kernel
theorem dX9_read_219 : decode cX9_read 219 = .ok (.iload_n 1, 1) := by decide +kernel
theorem dX9_read_220 : decode cX9_read 220 = .ok (.iconst 1, 1) := by decide +kernel
theorem dX9_read_221 : decode cX9_read 221 = .ok (.if_icmp .ne 15, 3) := by decide +kernel
theorem dX9_read_224 : decode cX9_read 224 = .ok (.iload 4, 2) := by decide +kernel
theorem dX9_read_226 : decode cX9_read 226 = .ok (.bipush 61, 2) := by decide +kernel
theorem dX9_read_228 : decode cX9_read 228 = .ok (.if_icmp .ne 8, 3) := by decide +kernel
theorem dX9_read_231 : decode cX9_read 231 = .ok (.iconst 2, 1) := by decide +kernel
theorem dX9_read_232 : decode cX9_read 232 = .ok (.istore_n 1, 1) := by decide +kernel
theorem dX9_read_233 : decode cX9_read 233 = .ok (.goto 32, 3) := by decide +kernel
theorem dX9_read_236 : decode cX9_read 236 = .ok (.iload_n 1, 1) := by decide +kernel
theorem dX9_read_237 : decode cX9_read 237 = .ok (.iconst 3, 1) := by decide +kernel
theorem dX9_read_238 : decode cX9_read 238 = .ok (.if_icmp .ne 25, 3) := by decide +kernel
theorem dX9_read_241 : decode cX9_read 241 = .ok (.iload 4, 2) := by decide +kernel
theorem dX9_read_243 : decode cX9_read 243 = .ok (.bipush 59, 2) := by decide +kernel
theorem dX9_read_245 : decode cX9_read 245 = .ok (.if_icmp .ne 18, 3) := by decide +kernel
theorem dX9_read_248 : decode cX9_read 248 = .ok (.aload_n 0, 1) := by decide +kernel
theorem dX9_read_249 : decode cX9_read 249 = .ok (.dup, 1) := by decide +kernel
theorem dX9_read_250 : decode cX9_read 250 = .ok (.getfield 68, 3) := by decide +kernel
theorem dX9_read_253 : decode cX9_read 253 = .ok (.iconst 1, 1) := by decide +kernel
theorem dX9_read_254 : decode cX9_read 254 = .ok (.iadd, 1) := by decide +kernel
theorem dX9_read_255 : decode cX9_read 255 = .ok (.putfield 68, 3) := by decide +kernel
theorem dX9_read_258 : decode cX9_read 258 = .ok (.iconst 0, 1) := by decide +kernel
theorem dX9_read_259 : decode cX9_read 259 = .ok (.istore_n 1, 1) := by decide +kernel
theorem dX9_read_260 : decode cX9_read 260 = .ok (.goto 5, 3) := by decide +kernel
theorem dX9_read_263 : decode cX9_read 263 = .ok (.iload_n 3, 1) := by decide +kernel
theorem dX9_read_264 : decode cX9_read 264 = .ok (.ireturn, 1) := by decide +kernel
theorem dX9_read_265 : decode cX9_read 265 = .ok (.iinc 3 1, 3) := by decide +kernel
theorem dX9_read_268 : decode cX9_read 268 = .ok (.goto (-257), 3) := by decide +kernel
theorem dX9_read_271 : decode cX9_read 271 = .ok (.aload_n 0, 1) := by decide +kernel
theorem dX9_read_272 : decode cX9_read 272 = .ok (.dup, 1) := by decide +kernel
theorem dX9_read_273 : decode cX9_read 273 = .ok (.getfield 68, 3) := by decide +kernel
theorem dX9_read_276 : decode cX9_read 276 = .ok (.iload_n 1, 1) := by decide +kernel
theorem dX9_read_277 : decode cX9_read 277 = .ok (.iconst 3, 1) := by decide +kernel
theorem dX9_read_278 : decode cX9_read 278 = .ok (.if_icmp .ne 7, 3) := by decide +kernel
theorem dX9_read_281 : decode cX9_read 281 = .ok (.iconst 1, 1) := by decide +kernel
theorem dX9_read_282 : decode cX9_read 282 = .ok (.goto 4, 3) := by decide +kernel
theorem dX9_read_285 : decode cX9_read 285 = .ok (.iconst 0, 1) := by decide +kernel
theorem dX9_read_286 : decode cX9_read 286 = .ok (.iadd, 1) := by decide +kernel
theorem dX9_read_287 : decode cX9_read 287 = .ok (.putfield 68, 3) := by decide +kernel
theorem dX9_read_290 : decode cX9_read 290 = .ok (.iload_n 1, 1) := by decide +kernel
theorem dX9_read_291 : decode cX9_read 291 = .ok (.iconst 3, 1) := by decide +kernel
theorem dX9_read_292 : decode cX9_read 292 = .ok (.if_icmp .ne 8, 3) := by decide +kernel
theorem dX9_read_295 : decode cX9_read 295 = .ok (.bipush (-6), 2) := by decide +kernel
theorem dX9_read_297 : decode cX9_read 297 = .ok (.goto 7, 3) := by decide +kernel
theorem dX9_read_300 : decode cX9_read 300 = .ok (.aload_n 0, 1) := by decide +kernel
theorem dX9_read_301 : decode cX9_read 301 = .ok (.getfield 71, 3) := by decide +kernel
theorem dX9_read_304 : decode cX9_read 304 = .ok (.ireturn, 1) := by decide +kernel
theorem dX9_put_0 : decode cX9_put 0 = .ok (.iconst 0, 1) := by decide +kernel
theorem dX9_put_1 : decode cX9_put 1 = .ok (.istore_n 3, 1) := by decide +kernel
theorem dX9_put_2 : decode cX9_put 2 = .ok (.lload_n 1, 1) := by decide +kernel
theorem dX9_put_3 : decode cX9_put 3 = .ok (.lstore 4, 2) := by decide +kernel
theorem dX9_put_5 : decode cX9_put 5 = .ok (.lload 4, 2) := by decide +kernel
theorem dX9_put_7 : decode cX9_put 7 = .ok (.ldc2_w 74, 3) := by decide +kernel
theorem dX9_put_10 : decode cX9_put 10 = .ok (.land, 1) := by decide +kernel
theorem dX9_put_11 : decode cX9_put 11 = .ok (.lconst 0, 1) := by decide +kernel
theorem dX9_put_12 : decode cX9_put 12 = .ok (.lcmp, 1) := by decide +kernel
theorem dX9_put_13 : decode cX9_put 13 = .ok (.ifCond .eq 36, 3) := by decide +kernel
theorem dX9_put_16 : decode cX9_put 16 = .ok (.lload 4, 2) := by decide +kernel
theorem dX9_put_18 : decode cX9_put 18 = .ok (.ldc2_w 74, 3) := by decide +kernel
theorem dX9_put_21 : decode cX9_put 21 = .ok (.land, 1) := by decide +kernel
theorem dX9_put_22 : decode cX9_put 22 = .ok (.l2i, 1) := by decide +kernel
theorem dX9_put_23 : decode cX9_put 23 = .ok (.bipush 33, 2) := by decide +kernel
theorem dX9_put_25 : decode cX9_put 25 = .ok (.bipush 126, 2) := by decide +kernel
theorem dX9_put_27 : decode cX9_put 27 = .ok (.invokestatic 42, 3) := by decide +kernel
theorem dX9_put_30 : decode cX9_put 30 = .ok (.ifCond .ne 6, 3) := by decide +kernel
theorem dX9_put_33 : decode cX9_put 33 = .ok (.bipush (-2), 2) := by decide +kernel
theorem dX9_put_35 : decode cX9_put 35 = .ok (.ireturn, 1) := by decide +kernel
theorem dX9_put_36 : decode cX9_put 36 = .ok (.iinc 3 1, 3) := by decide +kernel
theorem dX9_put_39 : decode cX9_put 39 = .ok (.lload 4, 2) := by decide +kernel
theorem dX9_put_41 : decode cX9_put 41 = .ok (.bipush 8, 2) := by decide +kernel
theorem dX9_put_43 : decode cX9_put 43 = .ok (.lushr, 1) := by decide +kernel
theorem dX9_put_44 : decode cX9_put 44 = .ok (.lstore 4, 2) := by decide +kernel
theorem dX9_put_46 : decode cX9_put 46 = .ok (.goto (-41), 3) := by decide +kernel
theorem dX9_put_49 : decode cX9_put 49 = .ok (.lload 4, 2) := by decide +kernel
theorem dX9_put_51 : decode cX9_put 51 = .ok (.lconst 0, 1) := by decide +kernel
theorem dX9_put_52 : decode cX9_put 52 = .ok (.lcmp, 1) := by decide +kernel
theorem dX9_put_53 : decode cX9_put 53 = .ok (.ifCond .ne 7, 3) := by decide +kernel
theorem dX9_put_56 : decode cX9_put 56 = .ok (.iload_n 3, 1) := by decide +kernel
theorem dX9_put_57 : decode cX9_put 57 = .ok (.ifCond .ne 6, 3) := by decide +kernel
theorem dX9_put_60 : decode cX9_put 60 = .ok (.bipush (-2), 2) := by decide +kernel
theorem dX9_put_62 : decode cX9_put 62 = .ok (.ireturn, 1) := by decide +kernel
theorem dX9_put_63 : decode cX9_put 63 = .ok (.aload_n 0, 1) := by decide +kernel
theorem dX9_put_64 : decode cX9_put 64 = .ok (.getfield 71, 3) := by decide +kernel
theorem dX9_put_67 : decode cX9_put 67 = .ok (.iload_n 3, 1) := by decide +kernel
theorem dX9_put_68 : decode cX9_put 68 = .ok (.iadd, 1) := by decide +kernel
theorem dX9_put_69 : decode cX9_put 69 = .ok (.bipush 80, 2) := by decide +kernel
theorem dX9_put_71 : decode cX9_put 71 = .ok (.if_icmp .le 6, 3) := by decide +kernel
theorem dX9_put_74 : decode cX9_put 74 = .ok (.bipush (-4), 2) := by decide +kernel
theorem dX9_put_76 : decode cX9_put 76 = .ok (.ireturn, 1) := by decide +kernel
theorem dX9_put_77 : decode cX9_put 77 = .ok (.lload_n 1, 1) := by decide +kernel
theorem dX9_put_78 : decode cX9_put 78 = .ok (.lstore 4, 2) := by decide +kernel
theorem dX9_put_80 : decode cX9_put 80 = .ok (.iload_n 3, 1) := by decide +kernel
theorem dX9_put_81 : decode cX9_put 81 = .ok (.iconst 1, 1) := by decide +kernel
theorem dX9_put_82 : decode cX9_put 82 = .ok (.isub, 1) := by decide +kernel
theorem dX9_put_83 : decode cX9_put 83 = .ok (.istore 6, 2) := by decide +kernel
theorem dX9_put_85 : decode cX9_put 85 = .ok (.iload 6, 2) := by decide +kernel
theorem dX9_put_87 : decode cX9_put 87 = .ok (.ifCond .lt 35, 3) := by decide +kernel
theorem dX9_put_90 : decode cX9_put 90 = .ok (.aload_n 0, 1) := by decide +kernel
theorem dX9_put_91 : decode cX9_put 91 = .ok (.getfield 23, 3) := by decide +kernel
theorem dX9_put_94 : decode cX9_put 94 = .ok (.aload_n 0, 1) := by decide +kernel
theorem dX9_put_95 : decode cX9_put 95 = .ok (.getfield 71, 3) := by decide +kernel
theorem dX9_put_98 : decode cX9_put 98 = .ok (.iload 6, 2) := by decide +kernel
theorem dX9_put_100 : decode cX9_put 100 = .ok (.iadd, 1) := by decide +kernel
theorem dX9_put_101 : decode cX9_put 101 = .ok (.lload 4, 2) := by decide +kernel
theorem dX9_put_103 : decode cX9_put 103 = .ok (.ldc2_w 74, 3) := by decide +kernel
theorem dX9_put_106 : decode cX9_put 106 = .ok (.land, 1) := by decide +kernel
theorem dX9_put_107 : decode cX9_put 107 = .ok (.l2i, 1) := by decide +kernel
theorem dX9_put_108 : decode cX9_put 108 = .ok (.iastore, 1) := by decide +kernel
theorem dX9_put_109 : decode cX9_put 109 = .ok (.lload 4, 2) := by decide +kernel
theorem dX9_put_111 : decode cX9_put 111 = .ok (.bipush 8, 2) := by decide +kernel
theorem dX9_put_113 : decode cX9_put 113 = .ok (.lushr, 1) := by decide +kernel
theorem dX9_put_114 : decode cX9_put 114 = .ok (.lstore 4, 2) := by decide +kernel
theorem dX9_put_116 : decode cX9_put 116 = .ok (.iinc 6 (-1), 3) := by decide +kernel
theorem dX9_put_119 : decode cX9_put 119 = .ok (.goto (-34), 3) := by decide +kernel
theorem dX9_put_122 : decode cX9_put 122 = .ok (.aload_n 0, 1) := by decide +kernel
theorem dX9_put_123 : decode cX9_put 123 = .ok (.dup, 1) := by decide +kernel
theorem dX9_put_124 : decode cX9_put 124 = .ok (.getfield 71, 3) := by decide +kernel
theorem dX9_put_127 : decode cX9_put 127 = .ok (.iload_n 3, 1) := by decide +kernel
theorem dX9_put_128 : decode cX9_put 128 = .ok (.iadd, 1) := by decide +kernel
theorem dX9_put_129 : decode cX9_put 129 = .ok (.putfield 71, 3) := by decide +kernel
theorem dX9_put_132 : decode cX9_put 132 = .ok (.aload_n 0, 1) := by decide +kernel
theorem dX9_put_133 : decode cX9_put 133 = .ok (.getfield 71, 3) := by decide +kernel
theorem dX9_put_136 : decode cX9_put 136 = .ok (.ireturn, 1) := by decide +kernel
theorem dX9_wipe_0 : decode cX9_wipe 0 = .ok (.aload_n 0, 1) := by decide +kernel
theorem dX9_wipe_1 : decode cX9_wipe 1 = .ok (.getfield 71, 3) := by decide +kernel
theorem dX9_wipe_4 : decode cX9_wipe 4 = .ok (.istore_n 1, 1) := by decide +kernel
theorem dX9_wipe_5 : decode cX9_wipe 5 = .ok (.aload_n 0, 1) := by decide +kernel
theorem dX9_wipe_6 : decode cX9_wipe 6 = .ok (.iconst 0, 1) := by decide +kernel
theorem dX9_wipe_7 : decode cX9_wipe 7 = .ok (.putfield 71, 3) := by decide +kernel
theorem dX9_wipe_10 : decode cX9_wipe 10 = .ok (.iload_n 1, 1) := by decide +kernel
theorem dX9_wipe_11 : decode cX9_wipe 11 = .ok (.ireturn, 1) := by decide +kernel
theorem dX9_fault_0 : decode cX9_fault 0 = .ok (.aload_n 0, 1) := by decide +kernel
theorem dX9_fault_1 : decode cX9_fault 1 = .ok (.invokevirtual 76, 3) := by decide +kernel
theorem dX9_fault_4 : decode cX9_fault 4 = .ok (.ireturn, 1) := by decide +kernel
theorem dX9_load_0 : decode cX9_load 0 = .ok (.aload_n 0, 1) := by decide +kernel
theorem dX9_load_1 : decode cX9_load 1 = .ok (.invokevirtual 76, 3) := by decide +kernel
theorem dX9_load_4 : decode cX9_load 4 = .ok (.bipush (-6), 2) := by decide +kernel
theorem dX9_load_6 : decode cX9_load 6 = .ok (.if_icmp .eq 6, 3) := by decide +kernel
theorem dX9_load_9 : decode cX9_load 9 = .ok (.bipush (-3), 2) := by decide +kernel
theorem dX9_load_11 : decode cX9_load 11 = .ok (.ireturn, 1) := by decide +kernel
theorem dX9_load_12 : decode cX9_load 12 = .ok (.aload_n 0, 1) := by decide +kernel
theorem dX9_load_13 : decode cX9_load 13 = .ok (.getfield 7, 3) := by decide +kernel
theorem dX9_load_16 : decode cX9_load 16 = .ok (.iconst 0, 1) := by decide +kernel
theorem dX9_load_17 : decode cX9_load 17 = .ok (.iaload, 1) := by decide +kernel
theorem dX9_load_18 : decode cX9_load 18 = .ok (.aload_n 0, 1) := by decide +kernel
theorem dX9_load_19 : decode cX9_load 19 = .ok (.getfield 68, 3) := by decide +kernel
theorem dX9_load_22 : decode cX9_load 22 = .ok (.iadd, 1) := by decide +kernel
theorem dX9_load_23 : decode cX9_load 23 = .ok (.bipush 14, 2) := by decide +kernel
theorem dX9_load_25 : decode cX9_load 25 = .ok (.if_icmp .le 6, 3) := by decide +kernel
theorem dX9_load_28 : decode cX9_load 28 = .ok (.bipush (-4), 2) := by decide +kernel
theorem dX9_load_30 : decode cX9_load 30 = .ok (.ireturn, 1) := by decide +kernel
theorem dX9_load_31 : decode cX9_load 31 = .ok (.aload_n 0, 1) := by decide +kernel
theorem dX9_load_32 : decode cX9_load 32 = .ok (.invokevirtual 47, 3) := by decide +kernel
theorem dX9_load_35 : decode cX9_load 35 = .ok (.iconst 0, 1) := by decide +kernel
theorem dX9_load_36 : decode cX9_load 36 = .ok (.istore_n 1, 1) := by decide +kernel
theorem dX9_load_37 : decode cX9_load 37 = .ok (.iload_n 1, 1) := by decide +kernel
theorem dX9_load_38 : decode cX9_load 38 = .ok (.aload_n 0, 1) := by decide +kernel
theorem dX9_load_39 : decode cX9_load 39 = .ok (.getfield 68, 3) := by decide +kernel
theorem dX9_load_42 : decode cX9_load 42 = .ok (.if_icmp .ge 25, 3) := by decide +kernel
theorem dX9_load_45 : decode cX9_load 45 = .ok (.aload_n 0, 1) := by decide +kernel
theorem dX9_load_46 : decode cX9_load 46 = .ok (.aload_n 0, 1) := by decide +kernel
theorem dX9_load_47 : decode cX9_load 47 = .ok (.getfield 26, 3) := by decide +kernel
theorem dX9_load_50 : decode cX9_load 50 = .ok (.iload_n 1, 1) := by decide +kernel
theorem dX9_load_51 : decode cX9_load 51 = .ok (.iaload, 1) := by decide +kernel
theorem dX9_load_52 : decode cX9_load 52 = .ok (.aload_n 0, 1) := by decide +kernel
theorem dX9_load_53 : decode cX9_load 53 = .ok (.getfield 29, 3) := by decide +kernel
theorem dX9_load_56 : decode cX9_load 56 = .ok (.iload_n 1, 1) := by decide +kernel
theorem dX9_load_57 : decode cX9_load 57 = .ok (.iaload, 1) := by decide +kernel
theorem dX9_load_58 : decode cX9_load 58 = .ok (.invokevirtual 50, 3) := by decide +kernel
theorem dX9_load_61 : decode cX9_load 61 = .ok (.iinc 1 1, 3) := by decide +kernel
theorem dX9_load_64 : decode cX9_load 64 = .ok (.goto (-27), 3) := by decide +kernel
theorem dX9_load_67 : decode cX9_load 67 = .ok (.aload_n 0, 1) := by decide +kernel
theorem dX9_load_68 : decode cX9_load 68 = .ok (.iconst 0, 1) := by decide +kernel
theorem dX9_load_69 : decode cX9_load 69 = .ok (.putfield 71, 3) := by decide +kernel
theorem dX9_load_72 : decode cX9_load 72 = .ok (.aload_n 0, 1) := by decide +kernel
theorem dX9_load_73 : decode cX9_load 73 = .ok (.getfield 68, 3) := by decide +kernel
theorem dX9_load_76 : decode cX9_load 76 = .ok (.ireturn, 1) := by decide +kernel
theorem dX9_masks_0 : decode cX9_masks 0 = .ok (.iconst 1, 1) := by decide +kernel
theorem dX9_masks_1 : decode cX9_masks 1 = .ok (.aload_n 0, 1) := by decide +kernel
theorem dX9_masks_2 : decode cX9_masks 2 = .ok (.getfield 7, 3) := by decide +kernel
theorem dX9_masks_5 : decode cX9_masks 5 = .ok (.iconst 0, 1) := by decide +kernel
theorem dX9_masks_6 : decode cX9_masks 6 = .ok (.iaload, 1) := by decide +kernel
theorem dX9_masks_7 : decode cX9_masks 7 = .ok (.ishl, 1) := by decide +kernel
theorem dX9_masks_8 : decode cX9_masks 8 = .ok (.ireturn, 1) := by decide +kernel
theorem dX9_setsMarked_0 : decode cX9_setsMarked 0 = .ok (.iconst 0, 1) := by decide +kernel
theorem dX9_setsMarked_1 : decode cX9_setsMarked 1 = .ok (.istore_n 2, 1) := by decide +kernel
theorem dX9_setsMarked_2 : decode cX9_setsMarked 2 = .ok (.iconst 0, 1) := by decide +kernel
theorem dX9_setsMarked_3 : decode cX9_setsMarked 3 = .ok (.istore_n 3, 1) := by decide +kernel
theorem dX9_setsMarked_4 : decode cX9_setsMarked 4 = .ok (.iload_n 3, 1) := by decide +kernel
theorem dX9_setsMarked_5 : decode cX9_setsMarked 5 = .ok (.aload_n 0, 1) := by decide +kernel
theorem dX9_setsMarked_6 : decode cX9_setsMarked 6 = .ok (.getfield 7, 3) := by decide +kernel
theorem dX9_setsMarked_9 : decode cX9_setsMarked 9 = .ok (.iconst 0, 1) := by decide +kernel
theorem dX9_setsMarked_10 : decode cX9_setsMarked 10 = .ok (.iaload, 1) := by decide +kernel
theorem dX9_setsMarked_11 : decode cX9_setsMarked 11 = .ok (.if_icmp .ge 28, 3) := by decide +kernel
theorem dX9_setsMarked_14 : decode cX9_setsMarked 14 = .ok (.iload_n 2, 1) := by decide +kernel
theorem dX9_setsMarked_15 : decode cX9_setsMarked 15 = .ok (.aload_n 0, 1) := by decide +kernel
theorem dX9_setsMarked_16 : decode cX9_setsMarked 16 = .ok (.iload_n 3, 1) := by decide +kernel
theorem dX9_setsMarked_17 : decode cX9_setsMarked 17 = .ok (.invokevirtual 62, 3) := by decide +kernel
theorem dX9_setsMarked_20 : decode cX9_setsMarked 20 = .ok (.iload_n 1, 1) := by decide +kernel
theorem dX9_setsMarked_21 : decode cX9_setsMarked 21 = .ok (.if_icmp .ne 9, 3) := by decide +kernel
theorem dX9_setsMarked_24 : decode cX9_setsMarked 24 = .ok (.iconst 1, 1) := by decide +kernel
theorem dX9_setsMarked_25 : decode cX9_setsMarked 25 = .ok (.iload_n 3, 1) := by decide +kernel
theorem dX9_setsMarked_26 : decode cX9_setsMarked 26 = .ok (.ishl, 1) := by decide +kernel
theorem dX9_setsMarked_27 : decode cX9_setsMarked 27 = .ok (.goto 4, 3) := by decide +kernel
theorem dX9_setsMarked_30 : decode cX9_setsMarked 30 = .ok (.iconst 0, 1) := by decide +kernel
theorem dX9_setsMarked_31 : decode cX9_setsMarked 31 = .ok (.ior, 1) := by decide +kernel
theorem dX9_setsMarked_32 : decode cX9_setsMarked 32 = .ok (.istore_n 2, 1) := by decide +kernel
theorem dX9_setsMarked_33 : decode cX9_setsMarked 33 = .ok (.iinc 3 1, 3) := by decide +kernel
theorem dX9_setsMarked_36 : decode cX9_setsMarked 36 = .ok (.goto (-32), 3) := by decide +kernel
theorem dX9_setsMarked_39 : decode cX9_setsMarked 39 = .ok (.iload_n 2, 1) := by decide +kernel
theorem dX9_setsMarked_40 : decode cX9_setsMarked 40 = .ok (.ireturn, 1) := by decide +kernel
theorem dX9_thingsOf_0 : decode cX9_thingsOf 0 = .ok (.iconst 0, 1) := by decide +kernel
theorem dX9_thingsOf_1 : decode cX9_thingsOf 1 = .ok (.istore_n 2, 1) := by decide +kernel
theorem dX9_thingsOf_2 : decode cX9_thingsOf 2 = .ok (.iconst 0, 1) := by decide +kernel
theorem dX9_thingsOf_3 : decode cX9_thingsOf 3 = .ok (.istore_n 3, 1) := by decide +kernel
theorem dX9_thingsOf_4 : decode cX9_thingsOf 4 = .ok (.iload_n 3, 1) := by decide +kernel
theorem dX9_thingsOf_5 : decode cX9_thingsOf 5 = .ok (.aload_n 0, 1) := by decide +kernel
theorem dX9_thingsOf_6 : decode cX9_thingsOf 6 = .ok (.getfield 7, 3) := by decide +kernel
theorem dX9_thingsOf_9 : decode cX9_thingsOf 9 = .ok (.iconst 0, 1) := by decide +kernel
theorem dX9_thingsOf_10 : decode cX9_thingsOf 10 = .ok (.iaload, 1) := by decide +kernel
theorem dX9_thingsOf_11 : decode cX9_thingsOf 11 = .ok (.if_icmp .ge 29, 3) := by decide +kernel
theorem dX9_thingsOf_14 : decode cX9_thingsOf 14 = .ok (.iload_n 2, 1) := by decide +kernel
theorem dX9_thingsOf_15 : decode cX9_thingsOf 15 = .ok (.iload_n 1, 1) := by decide +kernel
theorem dX9_thingsOf_16 : decode cX9_thingsOf 16 = .ok (.iload_n 3, 1) := by decide +kernel
theorem dX9_thingsOf_17 : decode cX9_thingsOf 17 = .ok (.invokestatic 80, 3) := by decide +kernel
theorem dX9_thingsOf_20 : decode cX9_thingsOf 20 = .ok (.ifCond .eq 11, 3) := by decide +kernel
theorem dX9_thingsOf_23 : decode cX9_thingsOf 23 = .ok (.aload_n 0, 1) := by decide +kernel
theorem dX9_thingsOf_24 : decode cX9_thingsOf 24 = .ok (.iload_n 3, 1) := by decide +kernel
theorem dX9_thingsOf_25 : decode cX9_thingsOf 25 = .ok (.invokevirtual 65, 3) := by decide +kernel
theorem dX9_thingsOf_28 : decode cX9_thingsOf 28 = .ok (.goto 4, 3) := by decide +kernel
theorem dX9_thingsOf_31 : decode cX9_thingsOf 31 = .ok (.iconst 0, 1) := by decide +kernel
theorem dX9_thingsOf_32 : decode cX9_thingsOf 32 = .ok (.ior, 1) := by decide +kernel
theorem dX9_thingsOf_33 : decode cX9_thingsOf 33 = .ok (.istore_n 2, 1) := by decide +kernel
theorem dX9_thingsOf_34 : decode cX9_thingsOf 34 = .ok (.iinc 3 1, 3) := by decide +kernel
theorem dX9_thingsOf_37 : decode cX9_thingsOf 37 = .ok (.goto (-33), 3) := by decide +kernel
theorem dX9_thingsOf_40 : decode cX9_thingsOf 40 = .ok (.iload_n 2, 1) := by decide +kernel
theorem dX9_thingsOf_41 : decode cX9_thingsOf 41 = .ok (.ireturn, 1) := by decide +kernel
theorem dX9_pricesOf_0 : decode cX9_pricesOf 0 = .ok (.iconst 0, 1) := by decide +kernel
theorem dX9_pricesOf_1 : decode cX9_pricesOf 1 = .ok (.istore_n 2, 1) := by decide +kernel
theorem dX9_pricesOf_2 : decode cX9_pricesOf 2 = .ok (.iconst 0, 1) := by decide +kernel
theorem dX9_pricesOf_3 : decode cX9_pricesOf 3 = .ok (.istore_n 3, 1) := by decide +kernel
theorem dX9_pricesOf_4 : decode cX9_pricesOf 4 = .ok (.iload_n 3, 1) := by decide +kernel
theorem dX9_pricesOf_5 : decode cX9_pricesOf 5 = .ok (.aload_n 0, 1) := by decide +kernel
theorem dX9_pricesOf_6 : decode cX9_pricesOf 6 = .ok (.getfield 7, 3) := by decide +kernel
theorem dX9_pricesOf_9 : decode cX9_pricesOf 9 = .ok (.iconst 0, 1) := by decide +kernel
theorem dX9_pricesOf_10 : decode cX9_pricesOf 10 = .ok (.iaload, 1) := by decide +kernel
theorem dX9_pricesOf_11 : decode cX9_pricesOf 11 = .ok (.if_icmp .ge 29, 3) := by decide +kernel
theorem dX9_pricesOf_14 : decode cX9_pricesOf 14 = .ok (.iload_n 2, 1) := by decide +kernel
theorem dX9_pricesOf_15 : decode cX9_pricesOf 15 = .ok (.iload_n 1, 1) := by decide +kernel
theorem dX9_pricesOf_16 : decode cX9_pricesOf 16 = .ok (.iload_n 3, 1) := by decide +kernel
theorem dX9_pricesOf_17 : decode cX9_pricesOf 17 = .ok (.invokestatic 80, 3) := by decide +kernel
theorem dX9_pricesOf_20 : decode cX9_pricesOf 20 = .ok (.ifCond .eq 11, 3) := by decide +kernel
theorem dX9_pricesOf_23 : decode cX9_pricesOf 23 = .ok (.aload_n 0, 1) := by decide +kernel
theorem dX9_pricesOf_24 : decode cX9_pricesOf 24 = .ok (.iload_n 3, 1) := by decide +kernel
theorem dX9_pricesOf_25 : decode cX9_pricesOf 25 = .ok (.invokevirtual 58, 3) := by decide +kernel
theorem dX9_pricesOf_28 : decode cX9_pricesOf 28 = .ok (.goto 4, 3) := by decide +kernel
theorem dX9_pricesOf_31 : decode cX9_pricesOf 31 = .ok (.iconst 0, 1) := by decide +kernel
theorem dX9_pricesOf_32 : decode cX9_pricesOf 32 = .ok (.iadd, 1) := by decide +kernel
theorem dX9_pricesOf_33 : decode cX9_pricesOf 33 = .ok (.istore_n 2, 1) := by decide +kernel
theorem dX9_pricesOf_34 : decode cX9_pricesOf 34 = .ok (.iinc 3 1, 3) := by decide +kernel
theorem dX9_pricesOf_37 : decode cX9_pricesOf 37 = .ok (.goto (-33), 3) := by decide +kernel
theorem dX9_pricesOf_40 : decode cX9_pricesOf 40 = .ok (.iload_n 2, 1) := by decide +kernel
theorem dX9_pricesOf_41 : decode cX9_pricesOf 41 = .ok (.ireturn, 1) := by decide +kernel
theorem dX9_isCover_0 : decode cX9_isCover 0 = .ok (.aload_n 0, 1) := by decide +kernel
theorem dX9_isCover_1 : decode cX9_isCover 1 = .ok (.iconst 1, 1) := by decide +kernel
theorem dX9_isCover_2 : decode cX9_isCover 2 = .ok (.invokevirtual 84, 3) := by decide +kernel
theorem dX9_isCover_5 : decode cX9_isCover 5 = .ok (.istore_n 2, 1) := by decide +kernel
theorem dX9_isCover_6 : decode cX9_isCover 6 = .ok (.iload_n 1, 1) := by decide +kernel
theorem dX9_isCover_7 : decode cX9_isCover 7 = .ok (.aload_n 0, 1) := by decide +kernel
theorem dX9_isCover_8 : decode cX9_isCover 8 = .ok (.iconst 2, 1) := by decide +kernel
theorem dX9_isCover_9 : decode cX9_isCover 9 = .ok (.invokevirtual 84, 3) := by decide +kernel
theorem dX9_isCover_12 : decode cX9_isCover 12 = .ok (.iand, 1) := by decide +kernel
theorem dX9_isCover_13 : decode cX9_isCover 13 = .ok (.ifCond .ne 31, 3) := by decide +kernel
theorem dX9_isCover_16 : decode cX9_isCover 16 = .ok (.iload_n 1, 1) := by decide +kernel
theorem dX9_isCover_17 : decode cX9_isCover 17 = .ok (.iload_n 2, 1) := by decide +kernel
theorem dX9_isCover_18 : decode cX9_isCover 18 = .ok (.iand, 1) := by decide +kernel
theorem dX9_isCover_19 : decode cX9_isCover 19 = .ok (.iload_n 2, 1) := by decide +kernel
theorem dX9_isCover_20 : decode cX9_isCover 20 = .ok (.if_icmp .ne 24, 3) := by decide +kernel
theorem dX9_isCover_23 : decode cX9_isCover 23 = .ok (.aload_n 0, 1) := by decide +kernel
theorem dX9_isCover_24 : decode cX9_isCover 24 = .ok (.getfield 7, 3) := by decide +kernel
theorem dX9_isCover_27 : decode cX9_isCover 27 = .ok (.iconst 1, 1) := by decide +kernel
theorem dX9_isCover_28 : decode cX9_isCover 28 = .ok (.iaload, 1) := by decide +kernel
theorem dX9_isCover_29 : decode cX9_isCover 29 = .ok (.aload_n 0, 1) := by decide +kernel
theorem dX9_isCover_30 : decode cX9_isCover 30 = .ok (.iload_n 1, 1) := by decide +kernel
theorem dX9_isCover_31 : decode cX9_isCover 31 = .ok (.invokevirtual 87, 3) := by decide +kernel
theorem dX9_isCover_34 : decode cX9_isCover 34 = .ok (.iconst (-1), 1) := by decide +kernel
theorem dX9_isCover_35 : decode cX9_isCover 35 = .ok (.ixor, 1) := by decide +kernel
theorem dX9_isCover_36 : decode cX9_isCover 36 = .ok (.iand, 1) := by decide +kernel
theorem dX9_isCover_37 : decode cX9_isCover 37 = .ok (.ifCond .ne 7, 3) := by decide +kernel
theorem dX9_isCover_40 : decode cX9_isCover 40 = .ok (.iconst 1, 1) := by decide +kernel
theorem dX9_isCover_41 : decode cX9_isCover 41 = .ok (.goto 4, 3) := by decide +kernel
theorem dX9_isCover_44 : decode cX9_isCover 44 = .ok (.iconst 0, 1) := by decide +kernel
theorem dX9_isCover_45 : decode cX9_isCover 45 = .ok (.ireturn, 1) := by decide +kernel
theorem dX9_hasCover_0 : decode cX9_hasCover 0 = .ok (.aload_n 0, 1) := by decide +kernel
theorem dX9_hasCover_1 : decode cX9_hasCover 1 = .ok (.aload_n 0, 1) := by decide +kernel
theorem dX9_hasCover_2 : decode cX9_hasCover 2 = .ok (.invokevirtual 90, 3) := by decide +kernel
theorem dX9_hasCover_5 : decode cX9_hasCover 5 = .ok (.iconst 1, 1) := by decide +kernel
theorem dX9_hasCover_6 : decode cX9_hasCover 6 = .ok (.isub, 1) := by decide +kernel
theorem dX9_hasCover_7 : decode cX9_hasCover 7 = .ok (.aload_n 0, 1) := by decide +kernel
theorem dX9_hasCover_8 : decode cX9_hasCover 8 = .ok (.iconst 2, 1) := by decide +kernel
theorem dX9_hasCover_9 : decode cX9_hasCover 9 = .ok (.invokevirtual 84, 3) := by decide +kernel
theorem dX9_hasCover_12 : decode cX9_hasCover 12 = .ok (.iconst (-1), 1) := by decide +kernel
theorem dX9_hasCover_13 : decode cX9_hasCover 13 = .ok (.ixor, 1) := by decide +kernel
theorem dX9_hasCover_14 : decode cX9_hasCover 14 = .ok (.iand, 1) := by decide +kernel
theorem dX9_hasCover_15 : decode cX9_hasCover 15 = .ok (.invokevirtual 93, 3) := by decide +kernel
theorem dX9_hasCover_18 : decode cX9_hasCover 18 = .ok (.ireturn, 1) := by decide +kernel
theorem dX9_leastWith_0 : decode cX9_leastWith 0 = .ok (.bipush (-6), 2) := by decide +kernel
theorem dX9_leastWith_2 : decode cX9_leastWith 2 = .ok (.istore_n 3, 1) := by decide +kernel
theorem dX9_leastWith_3 : decode cX9_leastWith 3 = .ok (.iconst 0, 1) := by decide +kernel
theorem dX9_leastWith_4 : decode cX9_leastWith 4 = .ok (.istore 4, 2) := by decide +kernel
theorem dX9_leastWith_6 : decode cX9_leastWith 6 = .ok (.iconst 0, 1) := by decide +kernel
theorem dX9_leastWith_7 : decode cX9_leastWith 7 = .ok (.istore 5, 2) := by decide +kernel
theorem dX9_leastWith_9 : decode cX9_leastWith 9 = .ok (.iload 5, 2) := by decide +kernel
theorem dX9_leastWith_11 : decode cX9_leastWith 11 = .ok (.aload_n 0, 1) := by decide +kernel
theorem dX9_leastWith_12 : decode cX9_leastWith 12 = .ok (.invokevirtual 90, 3) := by decide +kernel
theorem dX9_leastWith_15 : decode cX9_leastWith 15 = .ok (.if_icmp .ge 59, 3) := by decide +kernel
theorem dX9_leastWith_18 : decode cX9_leastWith 18 = .ok (.iload 5, 2) := by decide +kernel
theorem dX9_leastWith_20 : decode cX9_leastWith 20 = .ok (.iload_n 1, 1) := by decide +kernel
theorem dX9_leastWith_21 : decode cX9_leastWith 21 = .ok (.iand, 1) := by decide +kernel
theorem dX9_leastWith_22 : decode cX9_leastWith 22 = .ok (.iload_n 1, 1) := by decide +kernel
theorem dX9_leastWith_23 : decode cX9_leastWith 23 = .ok (.if_icmp .ne 45, 3) := by decide +kernel
theorem dX9_leastWith_26 : decode cX9_leastWith 26 = .ok (.iload 5, 2) := by decide +kernel
theorem dX9_leastWith_28 : decode cX9_leastWith 28 = .ok (.iload_n 2, 1) := by decide +kernel
theorem dX9_leastWith_29 : decode cX9_leastWith 29 = .ok (.iand, 1) := by decide +kernel
theorem dX9_leastWith_30 : decode cX9_leastWith 30 = .ok (.ifCond .ne 38, 3) := by decide +kernel
theorem dX9_leastWith_33 : decode cX9_leastWith 33 = .ok (.aload_n 0, 1) := by decide +kernel
theorem dX9_leastWith_34 : decode cX9_leastWith 34 = .ok (.iload 5, 2) := by decide +kernel
theorem dX9_leastWith_36 : decode cX9_leastWith 36 = .ok (.invokevirtual 93, 3) := by decide +kernel
theorem dX9_leastWith_39 : decode cX9_leastWith 39 = .ok (.ifCond .eq 29, 3) := by decide +kernel
theorem dX9_leastWith_42 : decode cX9_leastWith 42 = .ok (.iload_n 3, 1) := by decide +kernel
theorem dX9_leastWith_43 : decode cX9_leastWith 43 = .ok (.ifCond .lt 14, 3) := by decide +kernel
theorem dX9_leastWith_46 : decode cX9_leastWith 46 = .ok (.aload_n 0, 1) := by decide +kernel
theorem dX9_leastWith_47 : decode cX9_leastWith 47 = .ok (.iload 5, 2) := by decide +kernel
theorem dX9_leastWith_49 : decode cX9_leastWith 49 = .ok (.invokevirtual 96, 3) := by decide +kernel
theorem dX9_leastWith_52 : decode cX9_leastWith 52 = .ok (.iload 4, 2) := by decide +kernel
theorem dX9_leastWith_54 : decode cX9_leastWith 54 = .ok (.if_icmp .ge 14, 3) := by decide +kernel
theorem dX9_leastWith_57 : decode cX9_leastWith 57 = .ok (.iload 5, 2) := by decide +kernel
theorem dX9_leastWith_59 : decode cX9_leastWith 59 = .ok (.istore_n 3, 1) := by decide +kernel
theorem dX9_leastWith_60 : decode cX9_leastWith 60 = .ok (.aload_n 0, 1) := by decide +kernel
theorem dX9_leastWith_61 : decode cX9_leastWith 61 = .ok (.iload 5, 2) := by decide +kernel
theorem dX9_leastWith_63 : decode cX9_leastWith 63 = .ok (.invokevirtual 96, 3) := by decide +kernel
theorem dX9_leastWith_66 : decode cX9_leastWith 66 = .ok (.istore 4, 2) := by decide +kernel
theorem dX9_leastWith_68 : decode cX9_leastWith 68 = .ok (.iinc 5 1, 3) := by decide +kernel
theorem dX9_leastWith_71 : decode cX9_leastWith 71 = .ok (.goto (-62), 3) := by decide +kernel
theorem dX9_leastWith_74 : decode cX9_leastWith 74 = .ok (.iload_n 3, 1) := by decide +kernel
theorem dX9_leastWith_75 : decode cX9_leastWith 75 = .ok (.ireturn, 1) := by decide +kernel
theorem dX9_filling_0 : decode cX9_filling 0 = .ok (.iconst 0, 1) := by decide +kernel
theorem dX9_filling_1 : decode cX9_filling 1 = .ok (.istore_n 2, 1) := by decide +kernel
theorem dX9_filling_2 : decode cX9_filling 2 = .ok (.iconst 0, 1) := by decide +kernel
theorem dX9_filling_3 : decode cX9_filling 3 = .ok (.istore_n 3, 1) := by decide +kernel
theorem dX9_filling_4 : decode cX9_filling 4 = .ok (.iload_n 3, 1) := by decide +kernel
theorem dX9_filling_5 : decode cX9_filling 5 = .ok (.bipush 18, 2) := by decide +kernel
theorem dX9_filling_7 : decode cX9_filling 7 = .ok (.if_icmp .ge 39, 3) := by decide +kernel
theorem dX9_filling_10 : decode cX9_filling 10 = .ok (.iload_n 2, 1) := by decide +kernel
theorem dX9_filling_11 : decode cX9_filling 11 = .ok (.aload_n 0, 1) := by decide +kernel
theorem dX9_filling_12 : decode cX9_filling 12 = .ok (.iload_n 1, 1) := by decide +kernel
theorem dX9_filling_13 : decode cX9_filling 13 = .ok (.invokevirtual 65, 3) := by decide +kernel
theorem dX9_filling_16 : decode cX9_filling 16 = .ok (.aload_n 0, 1) := by decide +kernel
theorem dX9_filling_17 : decode cX9_filling 17 = .ok (.getfield 99, 3) := by decide +kernel
theorem dX9_filling_20 : decode cX9_filling 20 = .ok (.iand, 1) := by decide +kernel
theorem dX9_filling_21 : decode cX9_filling 21 = .ok (.iload_n 3, 1) := by decide +kernel
theorem dX9_filling_22 : decode cX9_filling 22 = .ok (.invokestatic 80, 3) := by decide +kernel
theorem dX9_filling_25 : decode cX9_filling 25 = .ok (.ifCond .eq 12, 3) := by decide +kernel
theorem dX9_filling_28 : decode cX9_filling 28 = .ok (.aload_n 0, 1) := by decide +kernel
theorem dX9_filling_29 : decode cX9_filling 29 = .ok (.getfield 32, 3) := by decide +kernel
theorem dX9_filling_32 : decode cX9_filling 32 = .ok (.iload_n 3, 1) := by decide +kernel
theorem dX9_filling_33 : decode cX9_filling 33 = .ok (.iaload, 1) := by decide +kernel
theorem dX9_filling_34 : decode cX9_filling 34 = .ok (.goto 4, 3) := by decide +kernel
theorem dX9_filling_37 : decode cX9_filling 37 = .ok (.iconst 0, 1) := by decide +kernel
theorem dX9_filling_38 : decode cX9_filling 38 = .ok (.iadd, 1) := by decide +kernel
theorem dX9_filling_39 : decode cX9_filling 39 = .ok (.istore_n 2, 1) := by decide +kernel
theorem dX9_filling_40 : decode cX9_filling 40 = .ok (.iinc 3 1, 3) := by decide +kernel
theorem dX9_filling_43 : decode cX9_filling 43 = .ok (.goto (-39), 3) := by decide +kernel
theorem dX9_filling_46 : decode cX9_filling 46 = .ok (.iload_n 2, 1) := by decide +kernel
theorem dX9_filling_47 : decode cX9_filling 47 = .ok (.ireturn, 1) := by decide +kernel
theorem dX9_placeOf_0 : decode cX9_placeOf 0 = .ok (.bipush (-6), 2) := by decide +kernel
theorem dX9_placeOf_2 : decode cX9_placeOf 2 = .ok (.istore_n 2, 1) := by decide +kernel
theorem dX9_placeOf_3 : decode cX9_placeOf 3 = .ok (.iconst 0, 1) := by decide +kernel
theorem dX9_placeOf_4 : decode cX9_placeOf 4 = .ok (.istore_n 3, 1) := by decide +kernel
theorem dX9_placeOf_5 : decode cX9_placeOf 5 = .ok (.iload_n 3, 1) := by decide +kernel
theorem dX9_placeOf_6 : decode cX9_placeOf 6 = .ok (.aload_n 0, 1) := by decide +kernel
theorem dX9_placeOf_7 : decode cX9_placeOf 7 = .ok (.getfield 102, 3) := by decide +kernel
theorem dX9_placeOf_10 : decode cX9_placeOf 10 = .ok (.if_icmp .ge 25, 3) := by decide +kernel
theorem dX9_placeOf_13 : decode cX9_placeOf 13 = .ok (.aload_n 0, 1) := by decide +kernel
theorem dX9_placeOf_14 : decode cX9_placeOf 14 = .ok (.getfield 35, 3) := by decide +kernel
theorem dX9_placeOf_17 : decode cX9_placeOf 17 = .ok (.iload_n 3, 1) := by decide +kernel
theorem dX9_placeOf_18 : decode cX9_placeOf 18 = .ok (.iaload, 1) := by decide +kernel
theorem dX9_placeOf_19 : decode cX9_placeOf 19 = .ok (.iload_n 1, 1) := by decide +kernel
theorem dX9_placeOf_20 : decode cX9_placeOf 20 = .ok (.if_icmp .ne 7, 3) := by decide +kernel
theorem dX9_placeOf_23 : decode cX9_placeOf 23 = .ok (.iload_n 3, 1) := by decide +kernel
theorem dX9_placeOf_24 : decode cX9_placeOf 24 = .ok (.goto 4, 3) := by decide +kernel
theorem dX9_placeOf_27 : decode cX9_placeOf 27 = .ok (.iload_n 2, 1) := by decide +kernel
theorem dX9_placeOf_28 : decode cX9_placeOf 28 = .ok (.istore_n 2, 1) := by decide +kernel
theorem dX9_placeOf_29 : decode cX9_placeOf 29 = .ok (.iinc 3 1, 3) := by decide +kernel
theorem dX9_placeOf_32 : decode cX9_placeOf 32 = .ok (.goto (-27), 3) := by decide +kernel
theorem dX9_placeOf_35 : decode cX9_placeOf 35 = .ok (.iload_n 2, 1) := by decide +kernel
theorem dX9_placeOf_36 : decode cX9_placeOf 36 = .ok (.ireturn, 1) := by decide +kernel
theorem dX9_tightSets_0 : decode cX9_tightSets 0 = .ok (.iconst 0, 1) := by decide +kernel
theorem dX9_tightSets_1 : decode cX9_tightSets 1 = .ok (.istore_n 1, 1) := by decide +kernel
theorem dX9_tightSets_2 : decode cX9_tightSets 2 = .ok (.iconst 0, 1) := by decide +kernel
theorem dX9_tightSets_3 : decode cX9_tightSets 3 = .ok (.istore_n 2, 1) := by decide +kernel
theorem dX9_tightSets_4 : decode cX9_tightSets 4 = .ok (.iload_n 2, 1) := by decide +kernel
theorem dX9_tightSets_5 : decode cX9_tightSets 5 = .ok (.aload_n 0, 1) := by decide +kernel
theorem dX9_tightSets_6 : decode cX9_tightSets 6 = .ok (.getfield 102, 3) := by decide +kernel
theorem dX9_tightSets_9 : decode cX9_tightSets 9 = .ok (.if_icmp .ge 20, 3) := by decide +kernel
theorem dX9_tightSets_12 : decode cX9_tightSets 12 = .ok (.iload_n 1, 1) := by decide +kernel
theorem dX9_tightSets_13 : decode cX9_tightSets 13 = .ok (.iconst 1, 1) := by decide +kernel
theorem dX9_tightSets_14 : decode cX9_tightSets 14 = .ok (.aload_n 0, 1) := by decide +kernel
theorem dX9_tightSets_15 : decode cX9_tightSets 15 = .ok (.getfield 35, 3) := by decide +kernel
theorem dX9_tightSets_18 : decode cX9_tightSets 18 = .ok (.iload_n 2, 1) := by decide +kernel
theorem dX9_tightSets_19 : decode cX9_tightSets 19 = .ok (.iaload, 1) := by decide +kernel
theorem dX9_tightSets_20 : decode cX9_tightSets 20 = .ok (.ishl, 1) := by decide +kernel
theorem dX9_tightSets_21 : decode cX9_tightSets 21 = .ok (.ior, 1) := by decide +kernel
theorem dX9_tightSets_22 : decode cX9_tightSets 22 = .ok (.istore_n 1, 1) := by decide +kernel
theorem dX9_tightSets_23 : decode cX9_tightSets 23 = .ok (.iinc 2 1, 3) := by decide +kernel
theorem dX9_tightSets_26 : decode cX9_tightSets 26 = .ok (.goto (-22), 3) := by decide +kernel
theorem dX9_tightSets_29 : decode cX9_tightSets 29 = .ok (.iload_n 1, 1) := by decide +kernel
theorem dX9_tightSets_30 : decode cX9_tightSets 30 = .ok (.ireturn, 1) := by decide +kernel
theorem dX9_tighten_0 : decode cX9_tighten 0 = .ok (.iconst 0, 1) := by decide +kernel
theorem dX9_tighten_1 : decode cX9_tighten 1 = .ok (.istore_n 1, 1) := by decide +kernel
theorem dX9_tighten_2 : decode cX9_tighten 2 = .ok (.iload_n 1, 1) := by decide +kernel
theorem dX9_tighten_3 : decode cX9_tighten 3 = .ok (.aload_n 0, 1) := by decide +kernel
theorem dX9_tighten_4 : decode cX9_tighten 4 = .ok (.getfield 7, 3) := by decide +kernel
theorem dX9_tighten_7 : decode cX9_tighten 7 = .ok (.iconst 0, 1) := by decide +kernel
theorem dX9_tighten_8 : decode cX9_tighten 8 = .ok (.iaload, 1) := by decide +kernel
theorem dX9_tighten_9 : decode cX9_tighten 9 = .ok (.if_icmp .ge 58, 3) := by decide +kernel
theorem dX9_tighten_12 : decode cX9_tighten 12 = .ok (.aload_n 0, 1) := by decide +kernel
theorem dX9_tighten_13 : decode cX9_tighten 13 = .ok (.iload_n 1, 1) := by decide +kernel
theorem dX9_tighten_14 : decode cX9_tighten 14 = .ok (.invokevirtual 62, 3) := by decide +kernel
theorem dX9_tighten_17 : decode cX9_tighten 17 = .ok (.ifCond .ne 44, 3) := by decide +kernel
theorem dX9_tighten_20 : decode cX9_tighten 20 = .ok (.aload_n 0, 1) := by decide +kernel
theorem dX9_tighten_21 : decode cX9_tighten 21 = .ok (.iload_n 1, 1) := by decide +kernel
theorem dX9_tighten_22 : decode cX9_tighten 22 = .ok (.invokevirtual 105, 3) := by decide +kernel
theorem dX9_tighten_25 : decode cX9_tighten 25 = .ok (.ifCond .ge 36, 3) := by decide +kernel
theorem dX9_tighten_28 : decode cX9_tighten 28 = .ok (.aload_n 0, 1) := by decide +kernel
theorem dX9_tighten_29 : decode cX9_tighten 29 = .ok (.iload_n 1, 1) := by decide +kernel
theorem dX9_tighten_30 : decode cX9_tighten 30 = .ok (.invokevirtual 108, 3) := by decide +kernel
theorem dX9_tighten_33 : decode cX9_tighten 33 = .ok (.aload_n 0, 1) := by decide +kernel
theorem dX9_tighten_34 : decode cX9_tighten 34 = .ok (.iload_n 1, 1) := by decide +kernel
theorem dX9_tighten_35 : decode cX9_tighten 35 = .ok (.invokevirtual 58, 3) := by decide +kernel
theorem dX9_tighten_38 : decode cX9_tighten 38 = .ok (.if_icmp .ne 23, 3) := by decide +kernel
theorem dX9_tighten_41 : decode cX9_tighten 41 = .ok (.aload_n 0, 1) := by decide +kernel
theorem dX9_tighten_42 : decode cX9_tighten 42 = .ok (.getfield 35, 3) := by decide +kernel
theorem dX9_tighten_45 : decode cX9_tighten 45 = .ok (.aload_n 0, 1) := by decide +kernel
theorem dX9_tighten_46 : decode cX9_tighten 46 = .ok (.getfield 102, 3) := by decide +kernel
theorem dX9_tighten_49 : decode cX9_tighten 49 = .ok (.iload_n 1, 1) := by decide +kernel
theorem dX9_tighten_50 : decode cX9_tighten 50 = .ok (.iastore, 1) := by decide +kernel
theorem dX9_tighten_51 : decode cX9_tighten 51 = .ok (.aload_n 0, 1) := by decide +kernel
theorem dX9_tighten_52 : decode cX9_tighten 52 = .ok (.dup, 1) := by decide +kernel
theorem dX9_tighten_53 : decode cX9_tighten 53 = .ok (.getfield 102, 3) := by decide +kernel
theorem dX9_tighten_56 : decode cX9_tighten 56 = .ok (.iconst 1, 1) := by decide +kernel
theorem dX9_tighten_57 : decode cX9_tighten 57 = .ok (.iadd, 1) := by decide +kernel
theorem dX9_tighten_58 : decode cX9_tighten 58 = .ok (.putfield 102, 3) := by decide +kernel
theorem dX9_tighten_61 : decode cX9_tighten 61 = .ok (.iinc 1 1, 3) := by decide +kernel
theorem dX9_tighten_64 : decode cX9_tighten 64 = .ok (.goto (-62), 3) := by decide +kernel
theorem dX9_tighten_67 : decode cX9_tighten 67 = .ok (.return_, 1) := by decide +kernel
theorem dX9_layShares_0 : decode cX9_layShares 0 = .ok (.iconst 0, 1) := by decide +kernel
theorem dX9_layShares_1 : decode cX9_layShares 1 = .ok (.istore_n 1, 1) := by decide +kernel
theorem dX9_layShares_2 : decode cX9_layShares 2 = .ok (.iload_n 1, 1) := by decide +kernel
theorem dX9_layShares_3 : decode cX9_layShares 3 = .ok (.bipush 18, 2) := by decide +kernel
theorem dX9_layShares_5 : decode cX9_layShares 5 = .ok (.if_icmp .ge 16, 3) := by decide +kernel
theorem dX9_layShares_8 : decode cX9_layShares 8 = .ok (.aload_n 0, 1) := by decide +kernel
theorem dX9_layShares_9 : decode cX9_layShares 9 = .ok (.getfield 32, 3) := by decide +kernel
theorem dX9_layShares_12 : decode cX9_layShares 12 = .ok (.iload_n 1, 1) := by decide +kernel
theorem dX9_layShares_13 : decode cX9_layShares 13 = .ok (.iconst 0, 1) := by decide +kernel
theorem dX9_layShares_14 : decode cX9_layShares 14 = .ok (.iastore, 1) := by decide +kernel
theorem dX9_layShares_15 : decode cX9_layShares 15 = .ok (.iinc 1 1, 3) := by decide +kernel
theorem dX9_layShares_18 : decode cX9_layShares 18 = .ok (.goto (-16), 3) := by decide +kernel
theorem dX9_layShares_21 : decode cX9_layShares 21 = .ok (.aload_n 0, 1) := by decide +kernel
theorem dX9_layShares_22 : decode cX9_layShares 22 = .ok (.iconst 0, 1) := by decide +kernel
theorem dX9_layShares_23 : decode cX9_layShares 23 = .ok (.putfield 102, 3) := by decide +kernel
theorem dX9_layShares_26 : decode cX9_layShares 26 = .ok (.aload_n 0, 1) := by decide +kernel
theorem dX9_layShares_27 : decode cX9_layShares 27 = .ok (.iconst 0, 1) := by decide +kernel
theorem dX9_layShares_28 : decode cX9_layShares 28 = .ok (.putfield 111, 3) := by decide +kernel
theorem dX9_layShares_31 : decode cX9_layShares 31 = .ok (.aload_n 0, 1) := by decide +kernel
theorem dX9_layShares_32 : decode cX9_layShares 32 = .ok (.aload_n 0, 1) := by decide +kernel
theorem dX9_layShares_33 : decode cX9_layShares 33 = .ok (.getfield 7, 3) := by decide +kernel
theorem dX9_layShares_36 : decode cX9_layShares 36 = .ok (.iconst 1, 1) := by decide +kernel
theorem dX9_layShares_37 : decode cX9_layShares 37 = .ok (.iaload, 1) := by decide +kernel
theorem dX9_layShares_38 : decode cX9_layShares 38 = .ok (.aload_n 0, 1) := by decide +kernel
theorem dX9_layShares_39 : decode cX9_layShares 39 = .ok (.aload_n 0, 1) := by decide +kernel
theorem dX9_layShares_40 : decode cX9_layShares 40 = .ok (.iconst 1, 1) := by decide +kernel
theorem dX9_layShares_41 : decode cX9_layShares 41 = .ok (.invokevirtual 84, 3) := by decide +kernel
theorem dX9_layShares_44 : decode cX9_layShares 44 = .ok (.invokevirtual 87, 3) := by decide +kernel
theorem dX9_layShares_47 : decode cX9_layShares 47 = .ok (.iconst (-1), 1) := by decide +kernel
theorem dX9_layShares_48 : decode cX9_layShares 48 = .ok (.ixor, 1) := by decide +kernel
theorem dX9_layShares_49 : decode cX9_layShares 49 = .ok (.iand, 1) := by decide +kernel
theorem dX9_layShares_50 : decode cX9_layShares 50 = .ok (.putfield 99, 3) := by decide +kernel
theorem dX9_layShares_53 : decode cX9_layShares 53 = .ok (.aload_n 0, 1) := by decide +kernel
theorem dX9_layShares_54 : decode cX9_layShares 54 = .ok (.getfield 99, 3) := by decide +kernel
theorem dX9_layShares_57 : decode cX9_layShares 57 = .ok (.aload_n 0, 1) := by decide +kernel
theorem dX9_layShares_58 : decode cX9_layShares 58 = .ok (.aload_n 0, 1) := by decide +kernel
theorem dX9_layShares_59 : decode cX9_layShares 59 = .ok (.invokevirtual 114, 3) := by decide +kernel
theorem dX9_layShares_62 : decode cX9_layShares 62 = .ok (.invokevirtual 87, 3) := by decide +kernel
theorem dX9_layShares_65 : decode cX9_layShares 65 = .ok (.iconst (-1), 1) := by decide +kernel
theorem dX9_layShares_66 : decode cX9_layShares 66 = .ok (.ixor, 1) := by decide +kernel
theorem dX9_layShares_67 : decode cX9_layShares 67 = .ok (.iand, 1) := by decide +kernel
theorem dX9_layShares_68 : decode cX9_layShares 68 = .ok (.ifCond .eq 66, 3) := by decide +kernel
theorem dX9_layShares_71 : decode cX9_layShares 71 = .ok (.aload_n 0, 1) := by decide +kernel
theorem dX9_layShares_72 : decode cX9_layShares 72 = .ok (.dup, 1) := by decide +kernel
theorem dX9_layShares_73 : decode cX9_layShares 73 = .ok (.getfield 111, 3) := by decide +kernel
theorem dX9_layShares_76 : decode cX9_layShares 76 = .ok (.iconst 1, 1) := by decide +kernel
theorem dX9_layShares_77 : decode cX9_layShares 77 = .ok (.iadd, 1) := by decide +kernel
theorem dX9_layShares_78 : decode cX9_layShares 78 = .ok (.putfield 111, 3) := by decide +kernel
theorem dX9_layShares_81 : decode cX9_layShares 81 = .ok (.iconst 0, 1) := by decide +kernel
theorem dX9_layShares_82 : decode cX9_layShares 82 = .ok (.istore_n 1, 1) := by decide +kernel
theorem dX9_layShares_83 : decode cX9_layShares 83 = .ok (.iload_n 1, 1) := by decide +kernel
theorem dX9_layShares_84 : decode cX9_layShares 84 = .ok (.bipush 18, 2) := by decide +kernel
theorem dX9_layShares_86 : decode cX9_layShares 86 = .ok (.if_icmp .ge 45, 3) := by decide +kernel
theorem dX9_layShares_89 : decode cX9_layShares 89 = .ok (.aload_n 0, 1) := by decide +kernel
theorem dX9_layShares_90 : decode cX9_layShares 90 = .ok (.getfield 99, 3) := by decide +kernel
theorem dX9_layShares_93 : decode cX9_layShares 93 = .ok (.aload_n 0, 1) := by decide +kernel
theorem dX9_layShares_94 : decode cX9_layShares 94 = .ok (.aload_n 0, 1) := by decide +kernel
theorem dX9_layShares_95 : decode cX9_layShares 95 = .ok (.invokevirtual 114, 3) := by decide +kernel
theorem dX9_layShares_98 : decode cX9_layShares 98 = .ok (.invokevirtual 87, 3) := by decide +kernel
theorem dX9_layShares_101 : decode cX9_layShares 101 = .ok (.iconst (-1), 1) := by decide +kernel
theorem dX9_layShares_102 : decode cX9_layShares 102 = .ok (.ixor, 1) := by decide +kernel
theorem dX9_layShares_103 : decode cX9_layShares 103 = .ok (.iand, 1) := by decide +kernel
theorem dX9_layShares_104 : decode cX9_layShares 104 = .ok (.iload_n 1, 1) := by decide +kernel
theorem dX9_layShares_105 : decode cX9_layShares 105 = .ok (.invokestatic 80, 3) := by decide +kernel
theorem dX9_layShares_108 : decode cX9_layShares 108 = .ok (.ifCond .eq 17, 3) := by decide +kernel
theorem dX9_layShares_111 : decode cX9_layShares 111 = .ok (.aload_n 0, 1) := by decide +kernel
theorem dX9_layShares_112 : decode cX9_layShares 112 = .ok (.getfield 32, 3) := by decide +kernel
theorem dX9_layShares_115 : decode cX9_layShares 115 = .ok (.iload_n 1, 1) := by decide +kernel
theorem dX9_layShares_116 : decode cX9_layShares 116 = .ok (.dup2, 1) := by decide +kernel
theorem dX9_layShares_117 : decode cX9_layShares 117 = .ok (.iaload, 1) := by decide +kernel
theorem dX9_layShares_118 : decode cX9_layShares 118 = .ok (.iconst 1, 1) := by decide +kernel
theorem dX9_layShares_119 : decode cX9_layShares 119 = .ok (.iadd, 1) := by decide +kernel
theorem dX9_layShares_120 : decode cX9_layShares 120 = .ok (.iastore, 1) := by decide +kernel
theorem dX9_layShares_121 : decode cX9_layShares 121 = .ok (.aload_n 0, 1) := by decide +kernel
theorem dX9_layShares_122 : decode cX9_layShares 122 = .ok (.invokevirtual 117, 3) := by decide +kernel
theorem dX9_layShares_125 : decode cX9_layShares 125 = .ok (.iinc 1 1, 3) := by decide +kernel
theorem dX9_layShares_128 : decode cX9_layShares 128 = .ok (.goto (-45), 3) := by decide +kernel
theorem dX9_layShares_131 : decode cX9_layShares 131 = .ok (.goto (-78), 3) := by decide +kernel
theorem dX9_layShares_134 : decode cX9_layShares 134 = .ok (.aload_n 0, 1) := by decide +kernel
theorem dX9_layShares_135 : decode cX9_layShares 135 = .ok (.iconst 0, 1) := by decide +kernel
theorem dX9_layShares_136 : decode cX9_layShares 136 = .ok (.putfield 120, 3) := by decide +kernel
theorem dX9_layShares_139 : decode cX9_layShares 139 = .ok (.aload_n 0, 1) := by decide +kernel
theorem dX9_layShares_140 : decode cX9_layShares 140 = .ok (.getfield 102, 3) := by decide +kernel
theorem dX9_layShares_143 : decode cX9_layShares 143 = .ok (.iconst 1, 1) := by decide +kernel
theorem dX9_layShares_144 : decode cX9_layShares 144 = .ok (.isub, 1) := by decide +kernel
theorem dX9_layShares_145 : decode cX9_layShares 145 = .ok (.istore_n 1, 1) := by decide +kernel
theorem dX9_layShares_146 : decode cX9_layShares 146 = .ok (.iload_n 1, 1) := by decide +kernel
theorem dX9_layShares_147 : decode cX9_layShares 147 = .ok (.ifCond .lt 68, 3) := by decide +kernel
theorem dX9_layShares_150 : decode cX9_layShares 150 = .ok (.aload_n 0, 1) := by decide +kernel
theorem dX9_layShares_151 : decode cX9_layShares 151 = .ok (.invokevirtual 114, 3) := by decide +kernel
theorem dX9_layShares_154 : decode cX9_layShares 154 = .ok (.aload_n 0, 1) := by decide +kernel
theorem dX9_layShares_155 : decode cX9_layShares 155 = .ok (.getfield 120, 3) := by decide +kernel
theorem dX9_layShares_158 : decode cX9_layShares 158 = .ok (.iconst (-1), 1) := by decide +kernel
theorem dX9_layShares_159 : decode cX9_layShares 159 = .ok (.ixor, 1) := by decide +kernel
theorem dX9_layShares_160 : decode cX9_layShares 160 = .ok (.iand, 1) := by decide +kernel
theorem dX9_layShares_161 : decode cX9_layShares 161 = .ok (.iconst 1, 1) := by decide +kernel
theorem dX9_layShares_162 : decode cX9_layShares 162 = .ok (.aload_n 0, 1) := by decide +kernel
theorem dX9_layShares_163 : decode cX9_layShares 163 = .ok (.getfield 35, 3) := by decide +kernel
theorem dX9_layShares_166 : decode cX9_layShares 166 = .ok (.iload_n 1, 1) := by decide +kernel
theorem dX9_layShares_167 : decode cX9_layShares 167 = .ok (.iaload, 1) := by decide +kernel
theorem dX9_layShares_168 : decode cX9_layShares 168 = .ok (.ishl, 1) := by decide +kernel
theorem dX9_layShares_169 : decode cX9_layShares 169 = .ok (.iconst (-1), 1) := by decide +kernel
theorem dX9_layShares_170 : decode cX9_layShares 170 = .ok (.ixor, 1) := by decide +kernel
theorem dX9_layShares_171 : decode cX9_layShares 171 = .ok (.iand, 1) := by decide +kernel
theorem dX9_layShares_172 : decode cX9_layShares 172 = .ok (.istore_n 2, 1) := by decide +kernel
theorem dX9_layShares_173 : decode cX9_layShares 173 = .ok (.aload_n 0, 1) := by decide +kernel
theorem dX9_layShares_174 : decode cX9_layShares 174 = .ok (.dup, 1) := by decide +kernel
theorem dX9_layShares_175 : decode cX9_layShares 175 = .ok (.getfield 120, 3) := by decide +kernel
theorem dX9_layShares_178 : decode cX9_layShares 178 = .ok (.aload_n 0, 1) := by decide +kernel
theorem dX9_layShares_179 : decode cX9_layShares 179 = .ok (.getfield 99, 3) := by decide +kernel
theorem dX9_layShares_182 : decode cX9_layShares 182 = .ok (.aload_n 0, 1) := by decide +kernel
theorem dX9_layShares_183 : decode cX9_layShares 183 = .ok (.iload_n 2, 1) := by decide +kernel
theorem dX9_layShares_184 : decode cX9_layShares 184 = .ok (.invokevirtual 87, 3) := by decide +kernel
theorem dX9_layShares_187 : decode cX9_layShares 187 = .ok (.iconst (-1), 1) := by decide +kernel
theorem dX9_layShares_188 : decode cX9_layShares 188 = .ok (.ixor, 1) := by decide +kernel
theorem dX9_layShares_189 : decode cX9_layShares 189 = .ok (.iand, 1) := by decide +kernel
theorem dX9_layShares_190 : decode cX9_layShares 190 = .ok (.ifCond .ne 14, 3) := by decide +kernel
theorem dX9_layShares_193 : decode cX9_layShares 193 = .ok (.iconst 1, 1) := by decide +kernel
theorem dX9_layShares_194 : decode cX9_layShares 194 = .ok (.aload_n 0, 1) := by decide +kernel
theorem dX9_layShares_195 : decode cX9_layShares 195 = .ok (.getfield 35, 3) := by decide +kernel
theorem dX9_layShares_198 : decode cX9_layShares 198 = .ok (.iload_n 1, 1) := by decide +kernel
theorem dX9_layShares_199 : decode cX9_layShares 199 = .ok (.iaload, 1) := by decide +kernel
theorem dX9_layShares_200 : decode cX9_layShares 200 = .ok (.ishl, 1) := by decide +kernel
theorem dX9_layShares_201 : decode cX9_layShares 201 = .ok (.goto 4, 3) := by decide +kernel
theorem dX9_layShares_204 : decode cX9_layShares 204 = .ok (.iconst 0, 1) := by decide +kernel
theorem dX9_layShares_205 : decode cX9_layShares 205 = .ok (.ior, 1) := by decide +kernel
theorem dX9_layShares_206 : decode cX9_layShares 206 = .ok (.putfield 120, 3) := by decide +kernel
theorem dX9_layShares_209 : decode cX9_layShares 209 = .ok (.iinc 1 (-1), 3) := by decide +kernel
theorem dX9_layShares_212 : decode cX9_layShares 212 = .ok (.goto (-66), 3) := by decide +kernel
theorem dX9_layShares_215 : decode cX9_layShares 215 = .ok (.return_, 1) := by decide +kernel
theorem dX9_aloneOf_0 : decode cX9_aloneOf 0 = .ok (.aload_n 0, 1) := by decide +kernel
theorem dX9_aloneOf_1 : decode cX9_aloneOf 1 = .ok (.invokevirtual 90, 3) := by decide +kernel
theorem dX9_aloneOf_4 : decode cX9_aloneOf 4 = .ok (.iconst 1, 1) := by decide +kernel
theorem dX9_aloneOf_5 : decode cX9_aloneOf 5 = .ok (.isub, 1) := by decide +kernel
theorem dX9_aloneOf_6 : decode cX9_aloneOf 6 = .ok (.aload_n 0, 1) := by decide +kernel
theorem dX9_aloneOf_7 : decode cX9_aloneOf 7 = .ok (.iconst 2, 1) := by decide +kernel
theorem dX9_aloneOf_8 : decode cX9_aloneOf 8 = .ok (.invokevirtual 84, 3) := by decide +kernel
theorem dX9_aloneOf_11 : decode cX9_aloneOf 11 = .ok (.iconst (-1), 1) := by decide +kernel
theorem dX9_aloneOf_12 : decode cX9_aloneOf 12 = .ok (.ixor, 1) := by decide +kernel
theorem dX9_aloneOf_13 : decode cX9_aloneOf 13 = .ok (.iand, 1) := by decide +kernel
theorem dX9_aloneOf_14 : decode cX9_aloneOf 14 = .ok (.iconst 1, 1) := by decide +kernel
theorem dX9_aloneOf_15 : decode cX9_aloneOf 15 = .ok (.iload_n 1, 1) := by decide +kernel
theorem dX9_aloneOf_16 : decode cX9_aloneOf 16 = .ok (.ishl, 1) := by decide +kernel
theorem dX9_aloneOf_17 : decode cX9_aloneOf 17 = .ok (.iconst (-1), 1) := by decide +kernel
theorem dX9_aloneOf_18 : decode cX9_aloneOf 18 = .ok (.ixor, 1) := by decide +kernel
theorem dX9_aloneOf_19 : decode cX9_aloneOf 19 = .ok (.iand, 1) := by decide +kernel
theorem dX9_aloneOf_20 : decode cX9_aloneOf 20 = .ok (.istore_n 2, 1) := by decide +kernel
theorem dX9_aloneOf_21 : decode cX9_aloneOf 21 = .ok (.aload_n 0, 1) := by decide +kernel
theorem dX9_aloneOf_22 : decode cX9_aloneOf 22 = .ok (.iload_n 1, 1) := by decide +kernel
theorem dX9_aloneOf_23 : decode cX9_aloneOf 23 = .ok (.invokevirtual 62, 3) := by decide +kernel
theorem dX9_aloneOf_26 : decode cX9_aloneOf 26 = .ok (.iconst 2, 1) := by decide +kernel
theorem dX9_aloneOf_27 : decode cX9_aloneOf 27 = .ok (.if_icmp .ne 7, 3) := by decide +kernel
theorem dX9_aloneOf_30 : decode cX9_aloneOf 30 = .ok (.iconst 0, 1) := by decide +kernel
theorem dX9_aloneOf_31 : decode cX9_aloneOf 31 = .ok (.goto 23, 3) := by decide +kernel
theorem dX9_aloneOf_34 : decode cX9_aloneOf 34 = .ok (.aload_n 0, 1) := by decide +kernel
theorem dX9_aloneOf_35 : decode cX9_aloneOf 35 = .ok (.getfield 7, 3) := by decide +kernel
theorem dX9_aloneOf_38 : decode cX9_aloneOf 38 = .ok (.iconst 1, 1) := by decide +kernel
theorem dX9_aloneOf_39 : decode cX9_aloneOf 39 = .ok (.iaload, 1) := by decide +kernel
theorem dX9_aloneOf_40 : decode cX9_aloneOf 40 = .ok (.aload_n 0, 1) := by decide +kernel
theorem dX9_aloneOf_41 : decode cX9_aloneOf 41 = .ok (.iload_n 1, 1) := by decide +kernel
theorem dX9_aloneOf_42 : decode cX9_aloneOf 42 = .ok (.invokevirtual 65, 3) := by decide +kernel
theorem dX9_aloneOf_45 : decode cX9_aloneOf 45 = .ok (.iand, 1) := by decide +kernel
theorem dX9_aloneOf_46 : decode cX9_aloneOf 46 = .ok (.aload_n 0, 1) := by decide +kernel
theorem dX9_aloneOf_47 : decode cX9_aloneOf 47 = .ok (.iload_n 2, 1) := by decide +kernel
theorem dX9_aloneOf_48 : decode cX9_aloneOf 48 = .ok (.invokevirtual 87, 3) := by decide +kernel
theorem dX9_aloneOf_51 : decode cX9_aloneOf 51 = .ok (.iconst (-1), 1) := by decide +kernel
theorem dX9_aloneOf_52 : decode cX9_aloneOf 52 = .ok (.ixor, 1) := by decide +kernel
theorem dX9_aloneOf_53 : decode cX9_aloneOf 53 = .ok (.iand, 1) := by decide +kernel
theorem dX9_aloneOf_54 : decode cX9_aloneOf 54 = .ok (.ireturn, 1) := by decide +kernel
theorem dX9_ofSet_0 : decode cX9_ofSet 0 = .ok (.aload_n 0, 1) := by decide +kernel
theorem dX9_ofSet_1 : decode cX9_ofSet 1 = .ok (.iload_n 1, 1) := by decide +kernel
theorem dX9_ofSet_2 : decode cX9_ofSet 2 = .ok (.invokevirtual 54, 3) := by decide +kernel
theorem dX9_ofSet_5 : decode cX9_ofSet 5 = .ok (.ifCond .ne 5, 3) := by decide +kernel
theorem dX9_ofSet_8 : decode cX9_ofSet 8 = .ok (.iconst (-1), 1) := by decide +kernel
theorem dX9_ofSet_9 : decode cX9_ofSet 9 = .ok (.ireturn, 1) := by decide +kernel
theorem dX9_ofSet_10 : decode cX9_ofSet 10 = .ok (.iload_n 2, 1) := by decide +kernel
theorem dX9_ofSet_11 : decode cX9_ofSet 11 = .ok (.iconst 0, 1) := by decide +kernel
theorem dX9_ofSet_12 : decode cX9_ofSet 12 = .ok (.iconst 2, 1) := by decide +kernel
theorem dX9_ofSet_13 : decode cX9_ofSet 13 = .ok (.invokestatic 42, 3) := by decide +kernel
theorem dX9_ofSet_16 : decode cX9_ofSet 16 = .ok (.ifCond .eq 17, 3) := by decide +kernel
theorem dX9_ofSet_19 : decode cX9_ofSet 19 = .ok (.aload_n 0, 1) := by decide +kernel
theorem dX9_ofSet_20 : decode cX9_ofSet 20 = .ok (.getfield 7, 3) := by decide +kernel
theorem dX9_ofSet_23 : decode cX9_ofSet 23 = .ok (.bipush 10, 2) := by decide +kernel
theorem dX9_ofSet_25 : decode cX9_ofSet 25 = .ok (.iconst 3, 1) := by decide +kernel
theorem dX9_ofSet_26 : decode cX9_ofSet 26 = .ok (.iload_n 1, 1) := by decide +kernel
theorem dX9_ofSet_27 : decode cX9_ofSet 27 = .ok (.imul, 1) := by decide +kernel
theorem dX9_ofSet_28 : decode cX9_ofSet 28 = .ok (.iadd, 1) := by decide +kernel
theorem dX9_ofSet_29 : decode cX9_ofSet 29 = .ok (.iload_n 2, 1) := by decide +kernel
theorem dX9_ofSet_30 : decode cX9_ofSet 30 = .ok (.iadd, 1) := by decide +kernel
theorem dX9_ofSet_31 : decode cX9_ofSet 31 = .ok (.iaload, 1) := by decide +kernel
theorem dX9_ofSet_32 : decode cX9_ofSet 32 = .ok (.ireturn, 1) := by decide +kernel
theorem dX9_ofSet_33 : decode cX9_ofSet 33 = .ok (.iload_n 2, 1) := by decide +kernel
theorem dX9_ofSet_34 : decode cX9_ofSet 34 = .ok (.iconst 3, 1) := by decide +kernel
theorem dX9_ofSet_35 : decode cX9_ofSet 35 = .ok (.bipush 7, 2) := by decide +kernel
theorem dX9_ofSet_37 : decode cX9_ofSet 37 = .ok (.invokestatic 42, 3) := by decide +kernel
theorem dX9_ofSet_40 : decode cX9_ofSet 40 = .ok (.ifCond .ne 6, 3) := by decide +kernel
theorem dX9_ofSet_43 : decode cX9_ofSet 43 = .ok (.bipush (-2), 2) := by decide +kernel
theorem dX9_ofSet_45 : decode cX9_ofSet 45 = .ok (.ireturn, 1) := by decide +kernel
theorem dX9_ofSet_46 : decode cX9_ofSet 46 = .ok (.iload_n 2, 1) := by decide +kernel
theorem dX9_ofSet_47 : decode cX9_ofSet 47 = .ok (.bipush 7, 2) := by decide +kernel
theorem dX9_ofSet_49 : decode cX9_ofSet 49 = .ok (.if_icmp .ne 9, 3) := by decide +kernel
theorem dX9_ofSet_52 : decode cX9_ofSet 52 = .ok (.aload_n 0, 1) := by decide +kernel
theorem dX9_ofSet_53 : decode cX9_ofSet 53 = .ok (.iload_n 1, 1) := by decide +kernel
theorem dX9_ofSet_54 : decode cX9_ofSet 54 = .ok (.invokevirtual 123, 3) := by decide +kernel
theorem dX9_ofSet_57 : decode cX9_ofSet 57 = .ok (.ireturn, 1) := by decide +kernel
theorem dX9_ofSet_58 : decode cX9_ofSet 58 = .ok (.aload_n 0, 1) := by decide +kernel
theorem dX9_ofSet_59 : decode cX9_ofSet 59 = .ok (.invokevirtual 126, 3) := by decide +kernel
theorem dX9_ofSet_62 : decode cX9_ofSet 62 = .ok (.ifCond .ne 6, 3) := by decide +kernel
theorem dX9_ofSet_65 : decode cX9_ofSet 65 = .ok (.bipush (-5), 2) := by decide +kernel
theorem dX9_ofSet_67 : decode cX9_ofSet 67 = .ok (.ireturn, 1) := by decide +kernel
theorem dX9_ofSet_68 : decode cX9_ofSet 68 = .ok (.aload_n 0, 1) := by decide +kernel
theorem dX9_ofSet_69 : decode cX9_ofSet 69 = .ok (.invokevirtual 130, 3) := by decide +kernel
theorem dX9_ofSet_72 : decode cX9_ofSet 72 = .ok (.iload_n 2, 1) := by decide +kernel
theorem dX9_ofSet_73 : decode cX9_ofSet 73 = .ok (.tableswitch 65 3 5 #[27, 45, 59], 27) := by decide +kernel
theorem dX9_ofSet_100 : decode cX9_ofSet 100 = .ok (.aload_n 0, 1) := by decide +kernel
theorem dX9_ofSet_101 : decode cX9_ofSet 101 = .ok (.iload_n 1, 1) := by decide +kernel
theorem dX9_ofSet_102 : decode cX9_ofSet 102 = .ok (.invokevirtual 62, 3) := by decide +kernel
theorem dX9_ofSet_105 : decode cX9_ofSet 105 = .ok (.ifCond .ne 11, 3) := by decide +kernel
theorem dX9_ofSet_108 : decode cX9_ofSet 108 = .ok (.aload_n 0, 1) := by decide +kernel
theorem dX9_ofSet_109 : decode cX9_ofSet 109 = .ok (.iload_n 1, 1) := by decide +kernel
theorem dX9_ofSet_110 : decode cX9_ofSet 110 = .ok (.invokevirtual 108, 3) := by decide +kernel
theorem dX9_ofSet_113 : decode cX9_ofSet 113 = .ok (.goto 4, 3) := by decide +kernel
theorem dX9_ofSet_116 : decode cX9_ofSet 116 = .ok (.iconst 0, 1) := by decide +kernel
theorem dX9_ofSet_117 : decode cX9_ofSet 117 = .ok (.ireturn, 1) := by decide +kernel
theorem dX9_ofSet_118 : decode cX9_ofSet 118 = .ok (.aload_n 0, 1) := by decide +kernel
theorem dX9_ofSet_119 : decode cX9_ofSet 119 = .ok (.iload_n 1, 1) := by decide +kernel
theorem dX9_ofSet_120 : decode cX9_ofSet 120 = .ok (.invokevirtual 105, 3) := by decide +kernel
theorem dX9_ofSet_123 : decode cX9_ofSet 123 = .ok (.ifCond .ge 7, 3) := by decide +kernel
theorem dX9_ofSet_126 : decode cX9_ofSet 126 = .ok (.iconst 0, 1) := by decide +kernel
theorem dX9_ofSet_127 : decode cX9_ofSet 127 = .ok (.goto 4, 3) := by decide +kernel
theorem dX9_ofSet_130 : decode cX9_ofSet 130 = .ok (.iconst 1, 1) := by decide +kernel
theorem dX9_ofSet_131 : decode cX9_ofSet 131 = .ok (.ireturn, 1) := by decide +kernel
theorem dX9_ofSet_132 : decode cX9_ofSet 132 = .ok (.aload_n 0, 1) := by decide +kernel
theorem dX9_ofSet_133 : decode cX9_ofSet 133 = .ok (.iload_n 1, 1) := by decide +kernel
theorem dX9_ofSet_134 : decode cX9_ofSet 134 = .ok (.invokevirtual 105, 3) := by decide +kernel
theorem dX9_ofSet_137 : decode cX9_ofSet 137 = .ok (.ireturn, 1) := by decide +kernel
theorem dX9_ofSet_138 : decode cX9_ofSet 138 = .ok (.aload_n 0, 1) := by decide +kernel
theorem dX9_ofSet_139 : decode cX9_ofSet 139 = .ok (.getfield 120, 3) := by decide +kernel
theorem dX9_ofSet_142 : decode cX9_ofSet 142 = .ok (.iload_n 1, 1) := by decide +kernel
theorem dX9_ofSet_143 : decode cX9_ofSet 143 = .ok (.ishr, 1) := by decide +kernel
theorem dX9_ofSet_144 : decode cX9_ofSet 144 = .ok (.iconst 1, 1) := by decide +kernel
theorem dX9_ofSet_145 : decode cX9_ofSet 145 = .ok (.iand, 1) := by decide +kernel
theorem dX9_ofSet_146 : decode cX9_ofSet 146 = .ok (.ireturn, 1) := by decide +kernel
theorem dX9_setsWith_0 : decode cX9_setsWith 0 = .ok (.iconst 0, 1) := by decide +kernel
theorem dX9_setsWith_1 : decode cX9_setsWith 1 = .ok (.istore_n 2, 1) := by decide +kernel
theorem dX9_setsWith_2 : decode cX9_setsWith 2 = .ok (.iconst 0, 1) := by decide +kernel
theorem dX9_setsWith_3 : decode cX9_setsWith 3 = .ok (.istore_n 3, 1) := by decide +kernel
theorem dX9_setsWith_4 : decode cX9_setsWith 4 = .ok (.iload_n 3, 1) := by decide +kernel
theorem dX9_setsWith_5 : decode cX9_setsWith 5 = .ok (.aload_n 0, 1) := by decide +kernel
theorem dX9_setsWith_6 : decode cX9_setsWith 6 = .ok (.getfield 7, 3) := by decide +kernel
theorem dX9_setsWith_9 : decode cX9_setsWith 9 = .ok (.iconst 0, 1) := by decide +kernel
theorem dX9_setsWith_10 : decode cX9_setsWith 10 = .ok (.iaload, 1) := by decide +kernel
theorem dX9_setsWith_11 : decode cX9_setsWith 11 = .ok (.if_icmp .ge 31, 3) := by decide +kernel
theorem dX9_setsWith_14 : decode cX9_setsWith 14 = .ok (.iload_n 2, 1) := by decide +kernel
theorem dX9_setsWith_15 : decode cX9_setsWith 15 = .ok (.aload_n 0, 1) := by decide +kernel
theorem dX9_setsWith_16 : decode cX9_setsWith 16 = .ok (.iload_n 3, 1) := by decide +kernel
theorem dX9_setsWith_17 : decode cX9_setsWith 17 = .ok (.invokevirtual 65, 3) := by decide +kernel
theorem dX9_setsWith_20 : decode cX9_setsWith 20 = .ok (.iload_n 1, 1) := by decide +kernel
theorem dX9_setsWith_21 : decode cX9_setsWith 21 = .ok (.invokestatic 80, 3) := by decide +kernel
theorem dX9_setsWith_24 : decode cX9_setsWith 24 = .ok (.ifCond .eq 9, 3) := by decide +kernel
theorem dX9_setsWith_27 : decode cX9_setsWith 27 = .ok (.iconst 1, 1) := by decide +kernel
theorem dX9_setsWith_28 : decode cX9_setsWith 28 = .ok (.iload_n 3, 1) := by decide +kernel
theorem dX9_setsWith_29 : decode cX9_setsWith 29 = .ok (.ishl, 1) := by decide +kernel
theorem dX9_setsWith_30 : decode cX9_setsWith 30 = .ok (.goto 4, 3) := by decide +kernel
theorem dX9_setsWith_33 : decode cX9_setsWith 33 = .ok (.iconst 0, 1) := by decide +kernel
theorem dX9_setsWith_34 : decode cX9_setsWith 34 = .ok (.ior, 1) := by decide +kernel
theorem dX9_setsWith_35 : decode cX9_setsWith 35 = .ok (.istore_n 2, 1) := by decide +kernel
theorem dX9_setsWith_36 : decode cX9_setsWith 36 = .ok (.iinc 3 1, 3) := by decide +kernel
theorem dX9_setsWith_39 : decode cX9_setsWith 39 = .ok (.goto (-35), 3) := by decide +kernel
theorem dX9_setsWith_42 : decode cX9_setsWith 42 = .ok (.iload_n 2, 1) := by decide +kernel
theorem dX9_setsWith_43 : decode cX9_setsWith 43 = .ok (.ireturn, 1) := by decide +kernel
theorem dX9_ofThing_0 : decode cX9_ofThing 0 = .ok (.iload_n 1, 1) := by decide +kernel
theorem dX9_ofThing_1 : decode cX9_ofThing 1 = .ok (.iconst 0, 1) := by decide +kernel
theorem dX9_ofThing_2 : decode cX9_ofThing 2 = .ok (.bipush 17, 2) := by decide +kernel
theorem dX9_ofThing_4 : decode cX9_ofThing 4 = .ok (.invokestatic 42, 3) := by decide +kernel
theorem dX9_ofThing_7 : decode cX9_ofThing 7 = .ok (.ifCond .ne 5, 3) := by decide +kernel
theorem dX9_ofThing_10 : decode cX9_ofThing 10 = .ok (.iconst (-1), 1) := by decide +kernel
theorem dX9_ofThing_11 : decode cX9_ofThing 11 = .ok (.ireturn, 1) := by decide +kernel
theorem dX9_ofThing_12 : decode cX9_ofThing 12 = .ok (.iload_n 2, 1) := by decide +kernel
theorem dX9_ofThing_13 : decode cX9_ofThing 13 = .ok (.ifCond .eq 8, 3) := by decide +kernel
theorem dX9_ofThing_16 : decode cX9_ofThing 16 = .ok (.iload_n 2, 1) := by decide +kernel
theorem dX9_ofThing_17 : decode cX9_ofThing 17 = .ok (.iconst 1, 1) := by decide +kernel
theorem dX9_ofThing_18 : decode cX9_ofThing 18 = .ok (.if_icmp .ne 26, 3) := by decide +kernel
theorem dX9_ofThing_21 : decode cX9_ofThing 21 = .ok (.iload_n 2, 1) := by decide +kernel
theorem dX9_ofThing_22 : decode cX9_ofThing 22 = .ok (.ifCond .ne 16, 3) := by decide +kernel
theorem dX9_ofThing_25 : decode cX9_ofThing 25 = .ok (.aload_n 0, 1) := by decide +kernel
theorem dX9_ofThing_26 : decode cX9_ofThing 26 = .ok (.getfield 7, 3) := by decide +kernel
theorem dX9_ofThing_29 : decode cX9_ofThing 29 = .ok (.iconst 1, 1) := by decide +kernel
theorem dX9_ofThing_30 : decode cX9_ofThing 30 = .ok (.iaload, 1) := by decide +kernel
theorem dX9_ofThing_31 : decode cX9_ofThing 31 = .ok (.iload_n 1, 1) := by decide +kernel
theorem dX9_ofThing_32 : decode cX9_ofThing 32 = .ok (.ishr, 1) := by decide +kernel
theorem dX9_ofThing_33 : decode cX9_ofThing 33 = .ok (.iconst 1, 1) := by decide +kernel
theorem dX9_ofThing_34 : decode cX9_ofThing 34 = .ok (.iand, 1) := by decide +kernel
theorem dX9_ofThing_35 : decode cX9_ofThing 35 = .ok (.goto 8, 3) := by decide +kernel
theorem dX9_ofThing_38 : decode cX9_ofThing 38 = .ok (.aload_n 0, 1) := by decide +kernel
theorem dX9_ofThing_39 : decode cX9_ofThing 39 = .ok (.iload_n 1, 1) := by decide +kernel
theorem dX9_ofThing_40 : decode cX9_ofThing 40 = .ok (.invokevirtual 133, 3) := by decide +kernel
theorem dX9_ofThing_43 : decode cX9_ofThing 43 = .ok (.ireturn, 1) := by decide +kernel
theorem dX9_ofThing_44 : decode cX9_ofThing 44 = .ok (.iload_n 2, 1) := by decide +kernel
theorem dX9_ofThing_45 : decode cX9_ofThing 45 = .ok (.iconst 2, 1) := by decide +kernel
theorem dX9_ofThing_46 : decode cX9_ofThing 46 = .ok (.if_icmp .eq 6, 3) := by decide +kernel
theorem dX9_ofThing_49 : decode cX9_ofThing 49 = .ok (.bipush (-2), 2) := by decide +kernel
theorem dX9_ofThing_51 : decode cX9_ofThing 51 = .ok (.ireturn, 1) := by decide +kernel
theorem dX9_ofThing_52 : decode cX9_ofThing 52 = .ok (.aload_n 0, 1) := by decide +kernel
theorem dX9_ofThing_53 : decode cX9_ofThing 53 = .ok (.invokevirtual 126, 3) := by decide +kernel
theorem dX9_ofThing_56 : decode cX9_ofThing 56 = .ok (.ifCond .ne 6, 3) := by decide +kernel
theorem dX9_ofThing_59 : decode cX9_ofThing 59 = .ok (.bipush (-5), 2) := by decide +kernel
theorem dX9_ofThing_61 : decode cX9_ofThing 61 = .ok (.ireturn, 1) := by decide +kernel
theorem dX9_ofThing_62 : decode cX9_ofThing 62 = .ok (.aload_n 0, 1) := by decide +kernel
theorem dX9_ofThing_63 : decode cX9_ofThing 63 = .ok (.invokevirtual 130, 3) := by decide +kernel
theorem dX9_ofThing_66 : decode cX9_ofThing 66 = .ok (.aload_n 0, 1) := by decide +kernel
theorem dX9_ofThing_67 : decode cX9_ofThing 67 = .ok (.getfield 32, 3) := by decide +kernel
theorem dX9_ofThing_70 : decode cX9_ofThing 70 = .ok (.iload_n 1, 1) := by decide +kernel
theorem dX9_ofThing_71 : decode cX9_ofThing 71 = .ok (.iaload, 1) := by decide +kernel
theorem dX9_ofThing_72 : decode cX9_ofThing 72 = .ok (.ireturn, 1) := by decide +kernel
theorem dX9_mostSets_0 : decode cX9_mostSets 0 = .ok (.iconst 0, 1) := by decide +kernel
theorem dX9_mostSets_1 : decode cX9_mostSets 1 = .ok (.istore_n 1, 1) := by decide +kernel
theorem dX9_mostSets_2 : decode cX9_mostSets 2 = .ok (.iconst 0, 1) := by decide +kernel
theorem dX9_mostSets_3 : decode cX9_mostSets 3 = .ok (.istore_n 2, 1) := by decide +kernel
theorem dX9_mostSets_4 : decode cX9_mostSets 4 = .ok (.iload_n 2, 1) := by decide +kernel
theorem dX9_mostSets_5 : decode cX9_mostSets 5 = .ok (.bipush 18, 2) := by decide +kernel
theorem dX9_mostSets_7 : decode cX9_mostSets 7 = .ok (.if_icmp .ge 54, 3) := by decide +kernel
theorem dX9_mostSets_10 : decode cX9_mostSets 10 = .ok (.aload_n 0, 1) := by decide +kernel
theorem dX9_mostSets_11 : decode cX9_mostSets 11 = .ok (.getfield 7, 3) := by decide +kernel
theorem dX9_mostSets_14 : decode cX9_mostSets 14 = .ok (.iconst 1, 1) := by decide +kernel
theorem dX9_mostSets_15 : decode cX9_mostSets 15 = .ok (.iaload, 1) := by decide +kernel
theorem dX9_mostSets_16 : decode cX9_mostSets 16 = .ok (.iload_n 2, 1) := by decide +kernel
theorem dX9_mostSets_17 : decode cX9_mostSets 17 = .ok (.invokestatic 80, 3) := by decide +kernel
theorem dX9_mostSets_20 : decode cX9_mostSets 20 = .ok (.ifCond .eq 22, 3) := by decide +kernel
theorem dX9_mostSets_23 : decode cX9_mostSets 23 = .ok (.aload_n 0, 1) := by decide +kernel
theorem dX9_mostSets_24 : decode cX9_mostSets 24 = .ok (.iload_n 2, 1) := by decide +kernel
theorem dX9_mostSets_25 : decode cX9_mostSets 25 = .ok (.invokevirtual 133, 3) := by decide +kernel
theorem dX9_mostSets_28 : decode cX9_mostSets 28 = .ok (.aload_n 0, 1) := by decide +kernel
theorem dX9_mostSets_29 : decode cX9_mostSets 29 = .ok (.iconst 2, 1) := by decide +kernel
theorem dX9_mostSets_30 : decode cX9_mostSets 30 = .ok (.invokevirtual 84, 3) := by decide +kernel
theorem dX9_mostSets_33 : decode cX9_mostSets 33 = .ok (.iconst (-1), 1) := by decide +kernel
theorem dX9_mostSets_34 : decode cX9_mostSets 34 = .ok (.ixor, 1) := by decide +kernel
theorem dX9_mostSets_35 : decode cX9_mostSets 35 = .ok (.iand, 1) := by decide +kernel
theorem dX9_mostSets_36 : decode cX9_mostSets 36 = .ok (.invokestatic 136, 3) := by decide +kernel
theorem dX9_mostSets_39 : decode cX9_mostSets 39 = .ok (.goto 4, 3) := by decide +kernel
theorem dX9_mostSets_42 : decode cX9_mostSets 42 = .ok (.iconst 0, 1) := by decide +kernel
theorem dX9_mostSets_43 : decode cX9_mostSets 43 = .ok (.istore_n 3, 1) := by decide +kernel
theorem dX9_mostSets_44 : decode cX9_mostSets 44 = .ok (.iload_n 3, 1) := by decide +kernel
theorem dX9_mostSets_45 : decode cX9_mostSets 45 = .ok (.iload_n 1, 1) := by decide +kernel
theorem dX9_mostSets_46 : decode cX9_mostSets 46 = .ok (.if_icmp .le 7, 3) := by decide +kernel
theorem dX9_mostSets_49 : decode cX9_mostSets 49 = .ok (.iload_n 3, 1) := by decide +kernel
theorem dX9_mostSets_50 : decode cX9_mostSets 50 = .ok (.goto 4, 3) := by decide +kernel
theorem dX9_mostSets_53 : decode cX9_mostSets 53 = .ok (.iload_n 1, 1) := by decide +kernel
theorem dX9_mostSets_54 : decode cX9_mostSets 54 = .ok (.istore_n 1, 1) := by decide +kernel
theorem dX9_mostSets_55 : decode cX9_mostSets 55 = .ok (.iinc 2 1, 3) := by decide +kernel
theorem dX9_mostSets_58 : decode cX9_mostSets 58 = .ok (.goto (-54), 3) := by decide +kernel
theorem dX9_mostSets_61 : decode cX9_mostSets 61 = .ok (.iload_n 1, 1) := by decide +kernel
theorem dX9_mostSets_62 : decode cX9_mostSets 62 = .ok (.ireturn, 1) := by decide +kernel
theorem dX9_count_0 : decode cX9_count 0 = .ok (.iload_n 1, 1) := by decide +kernel
theorem dX9_count_1 : decode cX9_count 1 = .ok (.tableswitch 65 0 4 #[35, 35, 42, 55, 60], 35) := by decide +kernel
theorem dX9_count_36 : decode cX9_count 36 = .ok (.aload_n 0, 1) := by decide +kernel
theorem dX9_count_37 : decode cX9_count 37 = .ok (.getfield 7, 3) := by decide +kernel
theorem dX9_count_40 : decode cX9_count 40 = .ok (.iload_n 1, 1) := by decide +kernel
theorem dX9_count_41 : decode cX9_count 41 = .ok (.iaload, 1) := by decide +kernel
theorem dX9_count_42 : decode cX9_count 42 = .ok (.ireturn, 1) := by decide +kernel
theorem dX9_count_43 : decode cX9_count 43 = .ok (.aload_n 0, 1) := by decide +kernel
theorem dX9_count_44 : decode cX9_count 44 = .ok (.invokevirtual 126, 3) := by decide +kernel
theorem dX9_count_47 : decode cX9_count 47 = .ok (.ifCond .eq 7, 3) := by decide +kernel
theorem dX9_count_50 : decode cX9_count 50 = .ok (.iconst 1, 1) := by decide +kernel
theorem dX9_count_51 : decode cX9_count 51 = .ok (.goto 4, 3) := by decide +kernel
theorem dX9_count_54 : decode cX9_count 54 = .ok (.iconst 0, 1) := by decide +kernel
theorem dX9_count_55 : decode cX9_count 55 = .ok (.ireturn, 1) := by decide +kernel
theorem dX9_count_56 : decode cX9_count 56 = .ok (.aload_n 0, 1) := by decide +kernel
theorem dX9_count_57 : decode cX9_count 57 = .ok (.invokevirtual 139, 3) := by decide +kernel
theorem dX9_count_60 : decode cX9_count 60 = .ok (.ireturn, 1) := by decide +kernel
theorem dX9_count_61 : decode cX9_count 61 = .ok (.aload_n 0, 1) := by decide +kernel
theorem dX9_count_62 : decode cX9_count 62 = .ok (.getfield 71, 3) := by decide +kernel
theorem dX9_count_65 : decode cX9_count 65 = .ok (.ireturn, 1) := by decide +kernel
theorem dX9_count_66 : decode cX9_count 66 = .ok (.iload_n 1, 1) := by decide +kernel
theorem dX9_count_67 : decode cX9_count 67 = .ok (.iconst 5, 1) := by decide +kernel
theorem dX9_count_68 : decode cX9_count 68 = .ok (.if_icmp .ne 10, 3) := by decide +kernel
theorem dX9_count_71 : decode cX9_count 71 = .ok (.aload_n 0, 1) := by decide +kernel
theorem dX9_count_72 : decode cX9_count 72 = .ok (.getfield 38, 3) := by decide +kernel
theorem dX9_count_75 : decode cX9_count 75 = .ok (.goto 5, 3) := by decide +kernel
theorem dX9_count_78 : decode cX9_count 78 = .ok (.bipush (-2), 2) := by decide +kernel
theorem dX9_count_80 : decode cX9_count 80 = .ok (.ireturn, 1) := by decide +kernel
theorem dX9_shared_0 : decode cX9_shared 0 = .ok (.iload_n 1, 1) := by decide +kernel
theorem dX9_shared_1 : decode cX9_shared 1 = .ok (.iconst 0, 1) := by decide +kernel
theorem dX9_shared_2 : decode cX9_shared 2 = .ok (.iconst 5, 1) := by decide +kernel
theorem dX9_shared_3 : decode cX9_shared 3 = .ok (.invokestatic 42, 3) := by decide +kernel
theorem dX9_shared_6 : decode cX9_shared 6 = .ok (.ifCond .ne 6, 3) := by decide +kernel
theorem dX9_shared_9 : decode cX9_shared 9 = .ok (.bipush (-2), 2) := by decide +kernel
theorem dX9_shared_11 : decode cX9_shared 11 = .ok (.ireturn, 1) := by decide +kernel
theorem dX9_shared_12 : decode cX9_shared 12 = .ok (.aload_n 0, 1) := by decide +kernel
theorem dX9_shared_13 : decode cX9_shared 13 = .ok (.invokevirtual 126, 3) := by decide +kernel
theorem dX9_shared_16 : decode cX9_shared 16 = .ok (.ifCond .ne 6, 3) := by decide +kernel
theorem dX9_shared_19 : decode cX9_shared 19 = .ok (.bipush (-5), 2) := by decide +kernel
theorem dX9_shared_21 : decode cX9_shared 21 = .ok (.ireturn, 1) := by decide +kernel
theorem dX9_shared_22 : decode cX9_shared 22 = .ok (.aload_n 0, 1) := by decide +kernel
theorem dX9_shared_23 : decode cX9_shared 23 = .ok (.invokevirtual 130, 3) := by decide +kernel
theorem dX9_shared_26 : decode cX9_shared 26 = .ok (.aload_n 0, 1) := by decide +kernel
theorem dX9_shared_27 : decode cX9_shared 27 = .ok (.iconst 1, 1) := by decide +kernel
theorem dX9_shared_28 : decode cX9_shared 28 = .ok (.invokevirtual 84, 3) := by decide +kernel
theorem dX9_shared_31 : decode cX9_shared 31 = .ok (.aload_n 0, 1) := by decide +kernel
theorem dX9_shared_32 : decode cX9_shared 32 = .ok (.invokevirtual 114, 3) := by decide +kernel
theorem dX9_shared_35 : decode cX9_shared 35 = .ok (.aload_n 0, 1) := by decide +kernel
theorem dX9_shared_36 : decode cX9_shared 36 = .ok (.getfield 120, 3) := by decide +kernel
theorem dX9_shared_39 : decode cX9_shared 39 = .ok (.iconst (-1), 1) := by decide +kernel
theorem dX9_shared_40 : decode cX9_shared 40 = .ok (.ixor, 1) := by decide +kernel
theorem dX9_shared_41 : decode cX9_shared 41 = .ok (.iand, 1) := by decide +kernel
theorem dX9_shared_42 : decode cX9_shared 42 = .ok (.ior, 1) := by decide +kernel
theorem dX9_shared_43 : decode cX9_shared 43 = .ok (.istore_n 2, 1) := by decide +kernel
theorem dX9_shared_44 : decode cX9_shared 44 = .ok (.iconst 0, 1) := by decide +kernel
theorem dX9_shared_45 : decode cX9_shared 45 = .ok (.istore_n 3, 1) := by decide +kernel
theorem dX9_shared_46 : decode cX9_shared 46 = .ok (.iconst 0, 1) := by decide +kernel
theorem dX9_shared_47 : decode cX9_shared 47 = .ok (.istore 4, 2) := by decide +kernel
theorem dX9_shared_49 : decode cX9_shared 49 = .ok (.iload 4, 2) := by decide +kernel
theorem dX9_shared_51 : decode cX9_shared 51 = .ok (.bipush 18, 2) := by decide +kernel
theorem dX9_shared_53 : decode cX9_shared 53 = .ok (.if_icmp .ge 19, 3) := by decide +kernel
theorem dX9_shared_56 : decode cX9_shared 56 = .ok (.iload_n 3, 1) := by decide +kernel
theorem dX9_shared_57 : decode cX9_shared 57 = .ok (.aload_n 0, 1) := by decide +kernel
theorem dX9_shared_58 : decode cX9_shared 58 = .ok (.getfield 32, 3) := by decide +kernel
theorem dX9_shared_61 : decode cX9_shared 61 = .ok (.iload 4, 2) := by decide +kernel
theorem dX9_shared_63 : decode cX9_shared 63 = .ok (.iaload, 1) := by decide +kernel
theorem dX9_shared_64 : decode cX9_shared 64 = .ok (.iadd, 1) := by decide +kernel
theorem dX9_shared_65 : decode cX9_shared 65 = .ok (.istore_n 3, 1) := by decide +kernel
theorem dX9_shared_66 : decode cX9_shared 66 = .ok (.iinc 4 1, 3) := by decide +kernel
theorem dX9_shared_69 : decode cX9_shared 69 = .ok (.goto (-20), 3) := by decide +kernel
theorem dX9_shared_72 : decode cX9_shared 72 = .ok (.iload_n 1, 1) := by decide +kernel
theorem dX9_shared_73 : decode cX9_shared 73 = .ok (.tableswitch 65 0 4 #[35, 37, 43, 55, 60], 35) := by decide +kernel
theorem dX9_shared_108 : decode cX9_shared 108 = .ok (.iload_n 2, 1) := by decide +kernel
theorem dX9_shared_109 : decode cX9_shared 109 = .ok (.ireturn, 1) := by decide +kernel
theorem dX9_shared_110 : decode cX9_shared 110 = .ok (.aload_n 0, 1) := by decide +kernel
theorem dX9_shared_111 : decode cX9_shared 111 = .ok (.iload_n 2, 1) := by decide +kernel
theorem dX9_shared_112 : decode cX9_shared 112 = .ok (.invokevirtual 96, 3) := by decide +kernel
theorem dX9_shared_115 : decode cX9_shared 115 = .ok (.ireturn, 1) := by decide +kernel
theorem dX9_shared_116 : decode cX9_shared 116 = .ok (.iload_n 3, 1) := by decide +kernel
theorem dX9_shared_117 : decode cX9_shared 117 = .ok (.aload_n 0, 1) := by decide +kernel
theorem dX9_shared_118 : decode cX9_shared 118 = .ok (.aload_n 0, 1) := by decide +kernel
theorem dX9_shared_119 : decode cX9_shared 119 = .ok (.iconst 1, 1) := by decide +kernel
theorem dX9_shared_120 : decode cX9_shared 120 = .ok (.invokevirtual 84, 3) := by decide +kernel
theorem dX9_shared_123 : decode cX9_shared 123 = .ok (.invokevirtual 96, 3) := by decide +kernel
theorem dX9_shared_126 : decode cX9_shared 126 = .ok (.iadd, 1) := by decide +kernel
theorem dX9_shared_127 : decode cX9_shared 127 = .ok (.ireturn, 1) := by decide +kernel
theorem dX9_shared_128 : decode cX9_shared 128 = .ok (.aload_n 0, 1) := by decide +kernel
theorem dX9_shared_129 : decode cX9_shared 129 = .ok (.getfield 111, 3) := by decide +kernel
theorem dX9_shared_132 : decode cX9_shared 132 = .ok (.ireturn, 1) := by decide +kernel
theorem dX9_shared_133 : decode cX9_shared 133 = .ok (.aload_n 0, 1) := by decide +kernel
theorem dX9_shared_134 : decode cX9_shared 134 = .ok (.getfield 102, 3) := by decide +kernel
theorem dX9_shared_137 : decode cX9_shared 137 = .ok (.ireturn, 1) := by decide +kernel
theorem dX9_shared_138 : decode cX9_shared 138 = .ok (.aload_n 0, 1) := by decide +kernel
theorem dX9_shared_139 : decode cX9_shared 139 = .ok (.getfield 120, 3) := by decide +kernel
theorem dX9_shared_142 : decode cX9_shared 142 = .ok (.invokestatic 136, 3) := by decide +kernel
theorem dX9_shared_145 : decode cX9_shared 145 = .ok (.ireturn, 1) := by decide +kernel
theorem dX9_greedy_0 : decode cX9_greedy 0 = .ok (.iload_n 1, 1) := by decide +kernel
theorem dX9_greedy_1 : decode cX9_greedy 1 = .ok (.iconst 0, 1) := by decide +kernel
theorem dX9_greedy_2 : decode cX9_greedy 2 = .ok (.iconst 2, 1) := by decide +kernel
theorem dX9_greedy_3 : decode cX9_greedy 3 = .ok (.invokestatic 42, 3) := by decide +kernel
theorem dX9_greedy_6 : decode cX9_greedy 6 = .ok (.ifCond .ne 6, 3) := by decide +kernel
theorem dX9_greedy_9 : decode cX9_greedy 9 = .ok (.bipush (-2), 2) := by decide +kernel
theorem dX9_greedy_11 : decode cX9_greedy 11 = .ok (.ireturn, 1) := by decide +kernel
theorem dX9_greedy_12 : decode cX9_greedy 12 = .ok (.aload_n 0, 1) := by decide +kernel
theorem dX9_greedy_13 : decode cX9_greedy 13 = .ok (.invokevirtual 126, 3) := by decide +kernel
theorem dX9_greedy_16 : decode cX9_greedy 16 = .ok (.ifCond .ne 6, 3) := by decide +kernel
theorem dX9_greedy_19 : decode cX9_greedy 19 = .ok (.bipush (-5), 2) := by decide +kernel
theorem dX9_greedy_21 : decode cX9_greedy 21 = .ok (.ireturn, 1) := by decide +kernel
theorem dX9_greedy_22 : decode cX9_greedy 22 = .ok (.aload_n 0, 1) := by decide +kernel
theorem dX9_greedy_23 : decode cX9_greedy 23 = .ok (.iconst 1, 1) := by decide +kernel
theorem dX9_greedy_24 : decode cX9_greedy 24 = .ok (.invokevirtual 84, 3) := by decide +kernel
theorem dX9_greedy_27 : decode cX9_greedy 27 = .ok (.istore_n 2, 1) := by decide +kernel
theorem dX9_greedy_28 : decode cX9_greedy 28 = .ok (.bipush (-6), 2) := by decide +kernel
theorem dX9_greedy_30 : decode cX9_greedy 30 = .ok (.istore_n 3, 1) := by decide +kernel
theorem dX9_greedy_31 : decode cX9_greedy 31 = .ok (.aload_n 0, 1) := by decide +kernel
theorem dX9_greedy_32 : decode cX9_greedy 32 = .ok (.getfield 7, 3) := by decide +kernel
theorem dX9_greedy_35 : decode cX9_greedy 35 = .ok (.iconst 1, 1) := by decide +kernel
theorem dX9_greedy_36 : decode cX9_greedy 36 = .ok (.iaload, 1) := by decide +kernel
theorem dX9_greedy_37 : decode cX9_greedy 37 = .ok (.aload_n 0, 1) := by decide +kernel
theorem dX9_greedy_38 : decode cX9_greedy 38 = .ok (.iload_n 2, 1) := by decide +kernel
theorem dX9_greedy_39 : decode cX9_greedy 39 = .ok (.invokevirtual 87, 3) := by decide +kernel
theorem dX9_greedy_42 : decode cX9_greedy 42 = .ok (.iconst (-1), 1) := by decide +kernel
theorem dX9_greedy_43 : decode cX9_greedy 43 = .ok (.ixor, 1) := by decide +kernel
theorem dX9_greedy_44 : decode cX9_greedy 44 = .ok (.iand, 1) := by decide +kernel
theorem dX9_greedy_45 : decode cX9_greedy 45 = .ok (.istore 4, 2) := by decide +kernel
theorem dX9_greedy_47 : decode cX9_greedy 47 = .ok (.iload 4, 2) := by decide +kernel
theorem dX9_greedy_49 : decode cX9_greedy 49 = .ok (.ifCond .eq 118, 3) := by decide +kernel
theorem dX9_greedy_52 : decode cX9_greedy 52 = .ok (.bipush (-6), 2) := by decide +kernel
theorem dX9_greedy_54 : decode cX9_greedy 54 = .ok (.istore 5, 2) := by decide +kernel
theorem dX9_greedy_56 : decode cX9_greedy 56 = .ok (.iconst 0, 1) := by decide +kernel
theorem dX9_greedy_57 : decode cX9_greedy 57 = .ok (.istore 6, 2) := by decide +kernel
theorem dX9_greedy_59 : decode cX9_greedy 59 = .ok (.iconst 0, 1) := by decide +kernel
theorem dX9_greedy_60 : decode cX9_greedy 60 = .ok (.istore 7, 2) := by decide +kernel
theorem dX9_greedy_62 : decode cX9_greedy 62 = .ok (.iload 7, 2) := by decide +kernel
theorem dX9_greedy_64 : decode cX9_greedy 64 = .ok (.aload_n 0, 1) := by decide +kernel
theorem dX9_greedy_65 : decode cX9_greedy 65 = .ok (.getfield 7, 3) := by decide +kernel
theorem dX9_greedy_68 : decode cX9_greedy 68 = .ok (.iconst 0, 1) := by decide +kernel
theorem dX9_greedy_69 : decode cX9_greedy 69 = .ok (.iaload, 1) := by decide +kernel
theorem dX9_greedy_70 : decode cX9_greedy 70 = .ok (.if_icmp .ge 71, 3) := by decide +kernel
theorem dX9_greedy_73 : decode cX9_greedy 73 = .ok (.aload_n 0, 1) := by decide +kernel
theorem dX9_greedy_74 : decode cX9_greedy 74 = .ok (.iload 7, 2) := by decide +kernel
theorem dX9_greedy_76 : decode cX9_greedy 76 = .ok (.invokevirtual 65, 3) := by decide +kernel
theorem dX9_greedy_79 : decode cX9_greedy 79 = .ok (.iload 4, 2) := by decide +kernel
theorem dX9_greedy_81 : decode cX9_greedy 81 = .ok (.iand, 1) := by decide +kernel
theorem dX9_greedy_82 : decode cX9_greedy 82 = .ok (.invokestatic 136, 3) := by decide +kernel
theorem dX9_greedy_85 : decode cX9_greedy 85 = .ok (.istore 8, 2) := by decide +kernel
theorem dX9_greedy_87 : decode cX9_greedy 87 = .ok (.aload_n 0, 1) := by decide +kernel
theorem dX9_greedy_88 : decode cX9_greedy 88 = .ok (.iload 7, 2) := by decide +kernel
theorem dX9_greedy_90 : decode cX9_greedy 90 = .ok (.invokevirtual 62, 3) := by decide +kernel
theorem dX9_greedy_93 : decode cX9_greedy 93 = .ok (.ifCond .ne 42, 3) := by decide +kernel
theorem dX9_greedy_96 : decode cX9_greedy 96 = .ok (.iload 8, 2) := by decide +kernel
theorem dX9_greedy_98 : decode cX9_greedy 98 = .ok (.ifCond .le 37, 3) := by decide +kernel
theorem dX9_greedy_101 : decode cX9_greedy 101 = .ok (.iload 5, 2) := by decide +kernel
theorem dX9_greedy_103 : decode cX9_greedy 103 = .ok (.ifCond .lt 24, 3) := by decide +kernel
theorem dX9_greedy_106 : decode cX9_greedy 106 = .ok (.aload_n 0, 1) := by decide +kernel
theorem dX9_greedy_107 : decode cX9_greedy 107 = .ok (.iload 7, 2) := by decide +kernel
theorem dX9_greedy_109 : decode cX9_greedy 109 = .ok (.invokevirtual 58, 3) := by decide +kernel
theorem dX9_greedy_112 : decode cX9_greedy 112 = .ok (.iload 6, 2) := by decide +kernel
theorem dX9_greedy_114 : decode cX9_greedy 114 = .ok (.imul, 1) := by decide +kernel
theorem dX9_greedy_115 : decode cX9_greedy 115 = .ok (.aload_n 0, 1) := by decide +kernel
theorem dX9_greedy_116 : decode cX9_greedy 116 = .ok (.iload 5, 2) := by decide +kernel
theorem dX9_greedy_118 : decode cX9_greedy 118 = .ok (.invokevirtual 58, 3) := by decide +kernel
theorem dX9_greedy_121 : decode cX9_greedy 121 = .ok (.iload 8, 2) := by decide +kernel
theorem dX9_greedy_123 : decode cX9_greedy 123 = .ok (.imul, 1) := by decide +kernel
theorem dX9_greedy_124 : decode cX9_greedy 124 = .ok (.if_icmp .ge 11, 3) := by decide +kernel
theorem dX9_greedy_127 : decode cX9_greedy 127 = .ok (.iload 7, 2) := by decide +kernel
theorem dX9_greedy_129 : decode cX9_greedy 129 = .ok (.istore 5, 2) := by decide +kernel
theorem dX9_greedy_131 : decode cX9_greedy 131 = .ok (.iload 8, 2) := by decide +kernel
theorem dX9_greedy_133 : decode cX9_greedy 133 = .ok (.istore 6, 2) := by decide +kernel
theorem dX9_greedy_135 : decode cX9_greedy 135 = .ok (.iinc 7 1, 3) := by decide +kernel
theorem dX9_greedy_138 : decode cX9_greedy 138 = .ok (.goto (-76), 3) := by decide +kernel
theorem dX9_greedy_141 : decode cX9_greedy 141 = .ok (.iload_n 2, 1) := by decide +kernel
theorem dX9_greedy_142 : decode cX9_greedy 142 = .ok (.iconst 1, 1) := by decide +kernel
theorem dX9_greedy_143 : decode cX9_greedy 143 = .ok (.iload 5, 2) := by decide +kernel
theorem dX9_greedy_145 : decode cX9_greedy 145 = .ok (.ishl, 1) := by decide +kernel
theorem dX9_greedy_146 : decode cX9_greedy 146 = .ok (.ior, 1) := by decide +kernel
theorem dX9_greedy_147 : decode cX9_greedy 147 = .ok (.istore_n 2, 1) := by decide +kernel
theorem dX9_greedy_148 : decode cX9_greedy 148 = .ok (.iload 5, 2) := by decide +kernel
theorem dX9_greedy_150 : decode cX9_greedy 150 = .ok (.istore_n 3, 1) := by decide +kernel
theorem dX9_greedy_151 : decode cX9_greedy 151 = .ok (.iload 4, 2) := by decide +kernel
theorem dX9_greedy_153 : decode cX9_greedy 153 = .ok (.aload_n 0, 1) := by decide +kernel
theorem dX9_greedy_154 : decode cX9_greedy 154 = .ok (.iload 5, 2) := by decide +kernel
theorem dX9_greedy_156 : decode cX9_greedy 156 = .ok (.invokevirtual 65, 3) := by decide +kernel
theorem dX9_greedy_159 : decode cX9_greedy 159 = .ok (.iconst (-1), 1) := by decide +kernel
theorem dX9_greedy_160 : decode cX9_greedy 160 = .ok (.ixor, 1) := by decide +kernel
theorem dX9_greedy_161 : decode cX9_greedy 161 = .ok (.iand, 1) := by decide +kernel
theorem dX9_greedy_162 : decode cX9_greedy 162 = .ok (.istore 4, 2) := by decide +kernel
theorem dX9_greedy_164 : decode cX9_greedy 164 = .ok (.goto (-117), 3) := by decide +kernel
theorem dX9_greedy_167 : decode cX9_greedy 167 = .ok (.iload_n 1, 1) := by decide +kernel
theorem dX9_greedy_168 : decode cX9_greedy 168 = .ok (.ifCond .ne 7, 3) := by decide +kernel
theorem dX9_greedy_171 : decode cX9_greedy 171 = .ok (.iload_n 2, 1) := by decide +kernel
theorem dX9_greedy_172 : decode cX9_greedy 172 = .ok (.goto 17, 3) := by decide +kernel
theorem dX9_greedy_175 : decode cX9_greedy 175 = .ok (.iload_n 1, 1) := by decide +kernel
theorem dX9_greedy_176 : decode cX9_greedy 176 = .ok (.iconst 1, 1) := by decide +kernel
theorem dX9_greedy_177 : decode cX9_greedy 177 = .ok (.if_icmp .ne 11, 3) := by decide +kernel
theorem dX9_greedy_180 : decode cX9_greedy 180 = .ok (.aload_n 0, 1) := by decide +kernel
theorem dX9_greedy_181 : decode cX9_greedy 181 = .ok (.iload_n 2, 1) := by decide +kernel
theorem dX9_greedy_182 : decode cX9_greedy 182 = .ok (.invokevirtual 96, 3) := by decide +kernel
theorem dX9_greedy_185 : decode cX9_greedy 185 = .ok (.goto 4, 3) := by decide +kernel
theorem dX9_greedy_188 : decode cX9_greedy 188 = .ok (.iload_n 3, 1) := by decide +kernel
theorem dX9_greedy_189 : decode cX9_greedy 189 = .ok (.ireturn, 1) := by decide +kernel
theorem dX9_least_0 : decode cX9_least 0 = .ok (.iload_n 1, 1) := by decide +kernel
theorem dX9_least_1 : decode cX9_least 1 = .ok (.iconst 0, 1) := by decide +kernel
theorem dX9_least_2 : decode cX9_least 2 = .ok (.iconst 1, 1) := by decide +kernel
theorem dX9_least_3 : decode cX9_least 3 = .ok (.invokestatic 42, 3) := by decide +kernel
theorem dX9_least_6 : decode cX9_least 6 = .ok (.ifCond .ne 6, 3) := by decide +kernel
theorem dX9_least_9 : decode cX9_least 9 = .ok (.bipush (-2), 2) := by decide +kernel
theorem dX9_least_11 : decode cX9_least 11 = .ok (.ireturn, 1) := by decide +kernel
theorem dX9_least_12 : decode cX9_least 12 = .ok (.aload_n 0, 1) := by decide +kernel
theorem dX9_least_13 : decode cX9_least 13 = .ok (.iconst 0, 1) := by decide +kernel
theorem dX9_least_14 : decode cX9_least 14 = .ok (.iconst 0, 1) := by decide +kernel
theorem dX9_least_15 : decode cX9_least 15 = .ok (.invokevirtual 142, 3) := by decide +kernel
theorem dX9_least_18 : decode cX9_least 18 = .ok (.istore_n 2, 1) := by decide +kernel
theorem dX9_least_19 : decode cX9_least 19 = .ok (.iload_n 2, 1) := by decide +kernel
theorem dX9_least_20 : decode cX9_least 20 = .ok (.ifCond .ge 8, 3) := by decide +kernel
theorem dX9_least_23 : decode cX9_least 23 = .ok (.bipush (-5), 2) := by decide +kernel
theorem dX9_least_25 : decode cX9_least 25 = .ok (.goto 16, 3) := by decide +kernel
theorem dX9_least_28 : decode cX9_least 28 = .ok (.iload_n 1, 1) := by decide +kernel
theorem dX9_least_29 : decode cX9_least 29 = .ok (.ifCond .ne 7, 3) := by decide +kernel
theorem dX9_least_32 : decode cX9_least 32 = .ok (.iload_n 2, 1) := by decide +kernel
theorem dX9_least_33 : decode cX9_least 33 = .ok (.goto 8, 3) := by decide +kernel
theorem dX9_least_36 : decode cX9_least 36 = .ok (.aload_n 0, 1) := by decide +kernel
theorem dX9_least_37 : decode cX9_least 37 = .ok (.iload_n 2, 1) := by decide +kernel
theorem dX9_least_38 : decode cX9_least 38 = .ok (.invokevirtual 96, 3) := by decide +kernel
theorem dX9_least_41 : decode cX9_least 41 = .ok (.ireturn, 1) := by decide +kernel
theorem dX9_covers_0 : decode cX9_covers 0 = .ok (.iload_n 1, 1) := by decide +kernel
theorem dX9_covers_1 : decode cX9_covers 1 = .ok (.iconst 0, 1) := by decide +kernel
theorem dX9_covers_2 : decode cX9_covers 2 = .ok (.sipush 7000, 3) := by decide +kernel
theorem dX9_covers_5 : decode cX9_covers 5 = .ok (.invokestatic 42, 3) := by decide +kernel
theorem dX9_covers_8 : decode cX9_covers 8 = .ok (.ifCond .ne 6, 3) := by decide +kernel
theorem dX9_covers_11 : decode cX9_covers 11 = .ok (.bipush (-2), 2) := by decide +kernel
theorem dX9_covers_13 : decode cX9_covers 13 = .ok (.ireturn, 1) := by decide +kernel
theorem dX9_covers_14 : decode cX9_covers 14 = .ok (.iconst 0, 1) := by decide +kernel
theorem dX9_covers_15 : decode cX9_covers 15 = .ok (.istore_n 2, 1) := by decide +kernel
theorem dX9_covers_16 : decode cX9_covers 16 = .ok (.iconst 0, 1) := by decide +kernel
theorem dX9_covers_17 : decode cX9_covers 17 = .ok (.istore_n 3, 1) := by decide +kernel
theorem dX9_covers_18 : decode cX9_covers 18 = .ok (.iload_n 3, 1) := by decide +kernel
theorem dX9_covers_19 : decode cX9_covers 19 = .ok (.aload_n 0, 1) := by decide +kernel
theorem dX9_covers_20 : decode cX9_covers 20 = .ok (.invokevirtual 90, 3) := by decide +kernel
theorem dX9_covers_23 : decode cX9_covers 23 = .ok (.if_icmp .ge 34, 3) := by decide +kernel
theorem dX9_covers_26 : decode cX9_covers 26 = .ok (.iload_n 2, 1) := by decide +kernel
theorem dX9_covers_27 : decode cX9_covers 27 = .ok (.aload_n 0, 1) := by decide +kernel
theorem dX9_covers_28 : decode cX9_covers 28 = .ok (.iload_n 3, 1) := by decide +kernel
theorem dX9_covers_29 : decode cX9_covers 29 = .ok (.invokevirtual 93, 3) := by decide +kernel
theorem dX9_covers_32 : decode cX9_covers 32 = .ok (.ifCond .eq 16, 3) := by decide +kernel
theorem dX9_covers_35 : decode cX9_covers 35 = .ok (.aload_n 0, 1) := by decide +kernel
theorem dX9_covers_36 : decode cX9_covers 36 = .ok (.iload_n 3, 1) := by decide +kernel
theorem dX9_covers_37 : decode cX9_covers 37 = .ok (.invokevirtual 96, 3) := by decide +kernel
theorem dX9_covers_40 : decode cX9_covers 40 = .ok (.iload_n 1, 1) := by decide +kernel
theorem dX9_covers_41 : decode cX9_covers 41 = .ok (.if_icmp .gt 7, 3) := by decide +kernel
theorem dX9_covers_44 : decode cX9_covers 44 = .ok (.iconst 1, 1) := by decide +kernel
theorem dX9_covers_45 : decode cX9_covers 45 = .ok (.goto 4, 3) := by decide +kernel
theorem dX9_covers_48 : decode cX9_covers 48 = .ok (.iconst 0, 1) := by decide +kernel
theorem dX9_covers_49 : decode cX9_covers 49 = .ok (.iadd, 1) := by decide +kernel
theorem dX9_covers_50 : decode cX9_covers 50 = .ok (.istore_n 2, 1) := by decide +kernel
theorem dX9_covers_51 : decode cX9_covers 51 = .ok (.iinc 3 1, 3) := by decide +kernel
theorem dX9_covers_54 : decode cX9_covers 54 = .ok (.goto (-36), 3) := by decide +kernel
theorem dX9_covers_57 : decode cX9_covers 57 = .ok (.iload_n 2, 1) := by decide +kernel
theorem dX9_covers_58 : decode cX9_covers 58 = .ok (.ireturn, 1) := by decide +kernel
theorem dX9_canLeave_0 : decode cX9_canLeave 0 = .ok (.iconst 0, 1) := by decide +kernel
theorem dX9_canLeave_1 : decode cX9_canLeave 1 = .ok (.istore_n 2, 1) := by decide +kernel
theorem dX9_canLeave_2 : decode cX9_canLeave 2 = .ok (.iconst 0, 1) := by decide +kernel
theorem dX9_canLeave_3 : decode cX9_canLeave 3 = .ok (.istore_n 3, 1) := by decide +kernel
theorem dX9_canLeave_4 : decode cX9_canLeave 4 = .ok (.iload_n 3, 1) := by decide +kernel
theorem dX9_canLeave_5 : decode cX9_canLeave 5 = .ok (.aload_n 0, 1) := by decide +kernel
theorem dX9_canLeave_6 : decode cX9_canLeave 6 = .ok (.getfield 7, 3) := by decide +kernel
theorem dX9_canLeave_9 : decode cX9_canLeave 9 = .ok (.iconst 0, 1) := by decide +kernel
theorem dX9_canLeave_10 : decode cX9_canLeave 10 = .ok (.iaload, 1) := by decide +kernel
theorem dX9_canLeave_11 : decode cX9_canLeave 11 = .ok (.if_icmp .ge 41, 3) := by decide +kernel
theorem dX9_canLeave_14 : decode cX9_canLeave 14 = .ok (.iload_n 2, 1) := by decide +kernel
theorem dX9_canLeave_15 : decode cX9_canLeave 15 = .ok (.ifCond .ne 37, 3) := by decide +kernel
theorem dX9_canLeave_18 : decode cX9_canLeave 18 = .ok (.iload_n 1, 1) := by decide +kernel
theorem dX9_canLeave_19 : decode cX9_canLeave 19 = .ok (.iload_n 3, 1) := by decide +kernel
theorem dX9_canLeave_20 : decode cX9_canLeave 20 = .ok (.invokestatic 80, 3) := by decide +kernel
theorem dX9_canLeave_23 : decode cX9_canLeave 23 = .ok (.ifCond .eq 21, 3) := by decide +kernel
theorem dX9_canLeave_26 : decode cX9_canLeave 26 = .ok (.aload_n 0, 1) := by decide +kernel
theorem dX9_canLeave_27 : decode cX9_canLeave 27 = .ok (.iload_n 1, 1) := by decide +kernel
theorem dX9_canLeave_28 : decode cX9_canLeave 28 = .ok (.iconst 1, 1) := by decide +kernel
theorem dX9_canLeave_29 : decode cX9_canLeave 29 = .ok (.iload_n 3, 1) := by decide +kernel
theorem dX9_canLeave_30 : decode cX9_canLeave 30 = .ok (.ishl, 1) := by decide +kernel
theorem dX9_canLeave_31 : decode cX9_canLeave 31 = .ok (.iconst (-1), 1) := by decide +kernel
theorem dX9_canLeave_32 : decode cX9_canLeave 32 = .ok (.ixor, 1) := by decide +kernel
theorem dX9_canLeave_33 : decode cX9_canLeave 33 = .ok (.iand, 1) := by decide +kernel
theorem dX9_canLeave_34 : decode cX9_canLeave 34 = .ok (.invokevirtual 93, 3) := by decide +kernel
theorem dX9_canLeave_37 : decode cX9_canLeave 37 = .ok (.ifCond .eq 7, 3) := by decide +kernel
theorem dX9_canLeave_40 : decode cX9_canLeave 40 = .ok (.iconst 1, 1) := by decide +kernel
theorem dX9_canLeave_41 : decode cX9_canLeave 41 = .ok (.goto 4, 3) := by decide +kernel
theorem dX9_canLeave_44 : decode cX9_canLeave 44 = .ok (.iconst 0, 1) := by decide +kernel
theorem dX9_canLeave_45 : decode cX9_canLeave 45 = .ok (.istore_n 2, 1) := by decide +kernel
theorem dX9_canLeave_46 : decode cX9_canLeave 46 = .ok (.iinc 3 1, 3) := by decide +kernel
theorem dX9_canLeave_49 : decode cX9_canLeave 49 = .ok (.goto (-45), 3) := by decide +kernel
theorem dX9_canLeave_52 : decode cX9_canLeave 52 = .ok (.iload_n 2, 1) := by decide +kernel
theorem dX9_canLeave_53 : decode cX9_canLeave 53 = .ok (.ireturn, 1) := by decide +kernel
theorem dX9_tightCovers_0 : decode cX9_tightCovers 0 = .ok (.iconst 0, 1) := by decide +kernel
theorem dX9_tightCovers_1 : decode cX9_tightCovers 1 = .ok (.istore_n 1, 1) := by decide +kernel
theorem dX9_tightCovers_2 : decode cX9_tightCovers 2 = .ok (.iconst 0, 1) := by decide +kernel
theorem dX9_tightCovers_3 : decode cX9_tightCovers 3 = .ok (.istore_n 2, 1) := by decide +kernel
theorem dX9_tightCovers_4 : decode cX9_tightCovers 4 = .ok (.iload_n 2, 1) := by decide +kernel
theorem dX9_tightCovers_5 : decode cX9_tightCovers 5 = .ok (.aload_n 0, 1) := by decide +kernel
theorem dX9_tightCovers_6 : decode cX9_tightCovers 6 = .ok (.invokevirtual 90, 3) := by decide +kernel
theorem dX9_tightCovers_9 : decode cX9_tightCovers 9 = .ok (.if_icmp .ge 33, 3) := by decide +kernel
theorem dX9_tightCovers_12 : decode cX9_tightCovers 12 = .ok (.iload_n 1, 1) := by decide +kernel
theorem dX9_tightCovers_13 : decode cX9_tightCovers 13 = .ok (.aload_n 0, 1) := by decide +kernel
theorem dX9_tightCovers_14 : decode cX9_tightCovers 14 = .ok (.iload_n 2, 1) := by decide +kernel
theorem dX9_tightCovers_15 : decode cX9_tightCovers 15 = .ok (.invokevirtual 93, 3) := by decide +kernel
theorem dX9_tightCovers_18 : decode cX9_tightCovers 18 = .ok (.ifCond .eq 15, 3) := by decide +kernel
theorem dX9_tightCovers_21 : decode cX9_tightCovers 21 = .ok (.aload_n 0, 1) := by decide +kernel
theorem dX9_tightCovers_22 : decode cX9_tightCovers 22 = .ok (.iload_n 2, 1) := by decide +kernel
theorem dX9_tightCovers_23 : decode cX9_tightCovers 23 = .ok (.invokevirtual 146, 3) := by decide +kernel
theorem dX9_tightCovers_26 : decode cX9_tightCovers 26 = .ok (.ifCond .ne 7, 3) := by decide +kernel
theorem dX9_tightCovers_29 : decode cX9_tightCovers 29 = .ok (.iconst 1, 1) := by decide +kernel
theorem dX9_tightCovers_30 : decode cX9_tightCovers 30 = .ok (.goto 4, 3) := by decide +kernel
theorem dX9_tightCovers_33 : decode cX9_tightCovers 33 = .ok (.iconst 0, 1) := by decide +kernel
theorem dX9_tightCovers_34 : decode cX9_tightCovers 34 = .ok (.iadd, 1) := by decide +kernel
theorem dX9_tightCovers_35 : decode cX9_tightCovers 35 = .ok (.istore_n 1, 1) := by decide +kernel
theorem dX9_tightCovers_36 : decode cX9_tightCovers 36 = .ok (.iinc 2 1, 3) := by decide +kernel
theorem dX9_tightCovers_39 : decode cX9_tightCovers 39 = .ok (.goto (-35), 3) := by decide +kernel
theorem dX9_tightCovers_42 : decode cX9_tightCovers 42 = .ok (.iload_n 1, 1) := by decide +kernel
theorem dX9_tightCovers_43 : decode cX9_tightCovers 43 = .ok (.ireturn, 1) := by decide +kernel
theorem dX9_staysUpTo_0 : decode cX9_staysUpTo 0 = .ok (.aload_n 0, 1) := by decide +kernel
theorem dX9_staysUpTo_1 : decode cX9_staysUpTo 1 = .ok (.iload_n 1, 1) := by decide +kernel
theorem dX9_staysUpTo_2 : decode cX9_staysUpTo 2 = .ok (.invokevirtual 54, 3) := by decide +kernel
theorem dX9_staysUpTo_5 : decode cX9_staysUpTo 5 = .ok (.ifCond .ne 5, 3) := by decide +kernel
theorem dX9_staysUpTo_8 : decode cX9_staysUpTo 8 = .ok (.iconst (-1), 1) := by decide +kernel
theorem dX9_staysUpTo_9 : decode cX9_staysUpTo 9 = .ok (.ireturn, 1) := by decide +kernel
theorem dX9_staysUpTo_10 : decode cX9_staysUpTo 10 = .ok (.aload_n 0, 1) := by decide +kernel
theorem dX9_staysUpTo_11 : decode cX9_staysUpTo 11 = .ok (.iconst 1, 1) := by decide +kernel
theorem dX9_staysUpTo_12 : decode cX9_staysUpTo 12 = .ok (.iload_n 1, 1) := by decide +kernel
theorem dX9_staysUpTo_13 : decode cX9_staysUpTo 13 = .ok (.ishl, 1) := by decide +kernel
theorem dX9_staysUpTo_14 : decode cX9_staysUpTo 14 = .ok (.iconst 0, 1) := by decide +kernel
theorem dX9_staysUpTo_15 : decode cX9_staysUpTo 15 = .ok (.invokevirtual 142, 3) := by decide +kernel
theorem dX9_staysUpTo_18 : decode cX9_staysUpTo 18 = .ok (.istore_n 2, 1) := by decide +kernel
theorem dX9_staysUpTo_19 : decode cX9_staysUpTo 19 = .ok (.iload_n 2, 1) := by decide +kernel
theorem dX9_staysUpTo_20 : decode cX9_staysUpTo 20 = .ok (.ifCond .ge 6, 3) := by decide +kernel
theorem dX9_staysUpTo_23 : decode cX9_staysUpTo 23 = .ok (.bipush (-6), 2) := by decide +kernel
theorem dX9_staysUpTo_25 : decode cX9_staysUpTo 25 = .ok (.ireturn, 1) := by decide +kernel
theorem dX9_staysUpTo_26 : decode cX9_staysUpTo 26 = .ok (.aload_n 0, 1) := by decide +kernel
theorem dX9_staysUpTo_27 : decode cX9_staysUpTo 27 = .ok (.iconst 0, 1) := by decide +kernel
theorem dX9_staysUpTo_28 : decode cX9_staysUpTo 28 = .ok (.iconst 1, 1) := by decide +kernel
theorem dX9_staysUpTo_29 : decode cX9_staysUpTo 29 = .ok (.iload_n 1, 1) := by decide +kernel
theorem dX9_staysUpTo_30 : decode cX9_staysUpTo 30 = .ok (.ishl, 1) := by decide +kernel
theorem dX9_staysUpTo_31 : decode cX9_staysUpTo 31 = .ok (.invokevirtual 142, 3) := by decide +kernel
theorem dX9_staysUpTo_34 : decode cX9_staysUpTo 34 = .ok (.istore_n 3, 1) := by decide +kernel
theorem dX9_staysUpTo_35 : decode cX9_staysUpTo 35 = .ok (.iload_n 3, 1) := by decide +kernel
theorem dX9_staysUpTo_36 : decode cX9_staysUpTo 36 = .ok (.ifCond .ge 9, 3) := by decide +kernel
theorem dX9_staysUpTo_39 : decode cX9_staysUpTo 39 = .ok (.sipush 500, 3) := by decide +kernel
theorem dX9_staysUpTo_42 : decode cX9_staysUpTo 42 = .ok (.goto 20, 3) := by decide +kernel
theorem dX9_staysUpTo_45 : decode cX9_staysUpTo 45 = .ok (.aload_n 0, 1) := by decide +kernel
theorem dX9_staysUpTo_46 : decode cX9_staysUpTo 46 = .ok (.iload_n 3, 1) := by decide +kernel
theorem dX9_staysUpTo_47 : decode cX9_staysUpTo 47 = .ok (.invokevirtual 96, 3) := by decide +kernel
theorem dX9_staysUpTo_50 : decode cX9_staysUpTo 50 = .ok (.aload_n 0, 1) := by decide +kernel
theorem dX9_staysUpTo_51 : decode cX9_staysUpTo 51 = .ok (.iload_n 2, 1) := by decide +kernel
theorem dX9_staysUpTo_52 : decode cX9_staysUpTo 52 = .ok (.invokevirtual 96, 3) := by decide +kernel
theorem dX9_staysUpTo_55 : decode cX9_staysUpTo 55 = .ok (.isub, 1) := by decide +kernel
theorem dX9_staysUpTo_56 : decode cX9_staysUpTo 56 = .ok (.aload_n 0, 1) := by decide +kernel
theorem dX9_staysUpTo_57 : decode cX9_staysUpTo 57 = .ok (.iload_n 1, 1) := by decide +kernel
theorem dX9_staysUpTo_58 : decode cX9_staysUpTo 58 = .ok (.invokevirtual 58, 3) := by decide +kernel
theorem dX9_staysUpTo_61 : decode cX9_staysUpTo 61 = .ok (.iadd, 1) := by decide +kernel
theorem dX9_staysUpTo_62 : decode cX9_staysUpTo 62 = .ok (.istore 4, 2) := by decide +kernel
theorem dX9_staysUpTo_64 : decode cX9_staysUpTo 64 = .ok (.iload 4, 2) := by decide +kernel
theorem dX9_staysUpTo_66 : decode cX9_staysUpTo 66 = .ok (.iconst 1, 1) := by decide +kernel
theorem dX9_staysUpTo_67 : decode cX9_staysUpTo 67 = .ok (.if_icmp .ge 8, 3) := by decide +kernel
theorem dX9_staysUpTo_70 : decode cX9_staysUpTo 70 = .ok (.bipush (-6), 2) := by decide +kernel
theorem dX9_staysUpTo_72 : decode cX9_staysUpTo 72 = .ok (.goto 19, 3) := by decide +kernel
theorem dX9_staysUpTo_75 : decode cX9_staysUpTo 75 = .ok (.iload 4, 2) := by decide +kernel
theorem dX9_staysUpTo_77 : decode cX9_staysUpTo 77 = .ok (.sipush 500, 3) := by decide +kernel
theorem dX9_staysUpTo_80 : decode cX9_staysUpTo 80 = .ok (.if_icmp .le 9, 3) := by decide +kernel
theorem dX9_staysUpTo_83 : decode cX9_staysUpTo 83 = .ok (.sipush 500, 3) := by decide +kernel
theorem dX9_staysUpTo_86 : decode cX9_staysUpTo 86 = .ok (.goto 5, 3) := by decide +kernel
theorem dX9_staysUpTo_89 : decode cX9_staysUpTo 89 = .ok (.iload 4, 2) := by decide +kernel
theorem dX9_staysUpTo_91 : decode cX9_staysUpTo 91 = .ok (.ireturn, 1) := by decide +kernel
theorem dX9_dearest_0 : decode cX9_dearest 0 = .ok (.iload_n 1, 1) := by decide +kernel
theorem dX9_dearest_1 : decode cX9_dearest 1 = .ok (.iconst 0, 1) := by decide +kernel
theorem dX9_dearest_2 : decode cX9_dearest 2 = .ok (.iconst 1, 1) := by decide +kernel
theorem dX9_dearest_3 : decode cX9_dearest 3 = .ok (.invokestatic 42, 3) := by decide +kernel
theorem dX9_dearest_6 : decode cX9_dearest 6 = .ok (.ifCond .ne 6, 3) := by decide +kernel
theorem dX9_dearest_9 : decode cX9_dearest 9 = .ok (.bipush (-2), 2) := by decide +kernel
theorem dX9_dearest_11 : decode cX9_dearest 11 = .ok (.ireturn, 1) := by decide +kernel
theorem dX9_dearest_12 : decode cX9_dearest 12 = .ok (.aload_n 0, 1) := by decide +kernel
theorem dX9_dearest_13 : decode cX9_dearest 13 = .ok (.invokevirtual 126, 3) := by decide +kernel
theorem dX9_dearest_16 : decode cX9_dearest 16 = .ok (.ifCond .ne 6, 3) := by decide +kernel
theorem dX9_dearest_19 : decode cX9_dearest 19 = .ok (.bipush (-5), 2) := by decide +kernel
theorem dX9_dearest_21 : decode cX9_dearest 21 = .ok (.ireturn, 1) := by decide +kernel
theorem dX9_dearest_22 : decode cX9_dearest 22 = .ok (.aload_n 0, 1) := by decide +kernel
theorem dX9_dearest_23 : decode cX9_dearest 23 = .ok (.getfield 7, 3) := by decide +kernel
theorem dX9_dearest_26 : decode cX9_dearest 26 = .ok (.iconst 1, 1) := by decide +kernel
theorem dX9_dearest_27 : decode cX9_dearest 27 = .ok (.iaload, 1) := by decide +kernel
theorem dX9_dearest_28 : decode cX9_dearest 28 = .ok (.istore_n 2, 1) := by decide +kernel
theorem dX9_dearest_29 : decode cX9_dearest 29 = .ok (.bipush (-6), 2) := by decide +kernel
theorem dX9_dearest_31 : decode cX9_dearest 31 = .ok (.istore_n 3, 1) := by decide +kernel
theorem dX9_dearest_32 : decode cX9_dearest 32 = .ok (.iconst 0, 1) := by decide +kernel
theorem dX9_dearest_33 : decode cX9_dearest 33 = .ok (.istore 4, 2) := by decide +kernel
theorem dX9_dearest_35 : decode cX9_dearest 35 = .ok (.iconst 0, 1) := by decide +kernel
theorem dX9_dearest_36 : decode cX9_dearest 36 = .ok (.istore 5, 2) := by decide +kernel
theorem dX9_dearest_38 : decode cX9_dearest 38 = .ok (.iload 5, 2) := by decide +kernel
theorem dX9_dearest_40 : decode cX9_dearest 40 = .ok (.bipush 18, 2) := by decide +kernel
theorem dX9_dearest_42 : decode cX9_dearest 42 = .ok (.if_icmp .ge 62, 3) := by decide +kernel
theorem dX9_dearest_45 : decode cX9_dearest 45 = .ok (.iload_n 2, 1) := by decide +kernel
theorem dX9_dearest_46 : decode cX9_dearest 46 = .ok (.iload 5, 2) := by decide +kernel
theorem dX9_dearest_48 : decode cX9_dearest 48 = .ok (.invokestatic 80, 3) := by decide +kernel
theorem dX9_dearest_51 : decode cX9_dearest 51 = .ok (.ifCond .eq 47, 3) := by decide +kernel
theorem dX9_dearest_54 : decode cX9_dearest 54 = .ok (.aload_n 0, 1) := by decide +kernel
theorem dX9_dearest_55 : decode cX9_dearest 55 = .ok (.getfield 7, 3) := by decide +kernel
theorem dX9_dearest_58 : decode cX9_dearest 58 = .ok (.iconst 1, 1) := by decide +kernel
theorem dX9_dearest_59 : decode cX9_dearest 59 = .ok (.iload_n 2, 1) := by decide +kernel
theorem dX9_dearest_60 : decode cX9_dearest 60 = .ok (.iconst 1, 1) := by decide +kernel
theorem dX9_dearest_61 : decode cX9_dearest 61 = .ok (.iload 5, 2) := by decide +kernel
theorem dX9_dearest_63 : decode cX9_dearest 63 = .ok (.ishl, 1) := by decide +kernel
theorem dX9_dearest_64 : decode cX9_dearest 64 = .ok (.iconst (-1), 1) := by decide +kernel
theorem dX9_dearest_65 : decode cX9_dearest 65 = .ok (.ixor, 1) := by decide +kernel
theorem dX9_dearest_66 : decode cX9_dearest 66 = .ok (.iand, 1) := by decide +kernel
theorem dX9_dearest_67 : decode cX9_dearest 67 = .ok (.iastore, 1) := by decide +kernel
theorem dX9_dearest_68 : decode cX9_dearest 68 = .ok (.aload_n 0, 1) := by decide +kernel
theorem dX9_dearest_69 : decode cX9_dearest 69 = .ok (.aload_n 0, 1) := by decide +kernel
theorem dX9_dearest_70 : decode cX9_dearest 70 = .ok (.iconst 0, 1) := by decide +kernel
theorem dX9_dearest_71 : decode cX9_dearest 71 = .ok (.iconst 0, 1) := by decide +kernel
theorem dX9_dearest_72 : decode cX9_dearest 72 = .ok (.invokevirtual 142, 3) := by decide +kernel
theorem dX9_dearest_75 : decode cX9_dearest 75 = .ok (.invokevirtual 96, 3) := by decide +kernel
theorem dX9_dearest_78 : decode cX9_dearest 78 = .ok (.istore 6, 2) := by decide +kernel
theorem dX9_dearest_80 : decode cX9_dearest 80 = .ok (.iload_n 3, 1) := by decide +kernel
theorem dX9_dearest_81 : decode cX9_dearest 81 = .ok (.ifCond .lt 10, 3) := by decide +kernel
theorem dX9_dearest_84 : decode cX9_dearest 84 = .ok (.iload 6, 2) := by decide +kernel
theorem dX9_dearest_86 : decode cX9_dearest 86 = .ok (.iload 4, 2) := by decide +kernel
theorem dX9_dearest_88 : decode cX9_dearest 88 = .ok (.if_icmp .ge 10, 3) := by decide +kernel
theorem dX9_dearest_91 : decode cX9_dearest 91 = .ok (.iload 5, 2) := by decide +kernel
theorem dX9_dearest_93 : decode cX9_dearest 93 = .ok (.istore_n 3, 1) := by decide +kernel
theorem dX9_dearest_94 : decode cX9_dearest 94 = .ok (.iload 6, 2) := by decide +kernel
theorem dX9_dearest_96 : decode cX9_dearest 96 = .ok (.istore 4, 2) := by decide +kernel
theorem dX9_dearest_98 : decode cX9_dearest 98 = .ok (.iinc 5 1, 3) := by decide +kernel
theorem dX9_dearest_101 : decode cX9_dearest 101 = .ok (.goto (-63), 3) := by decide +kernel
theorem dX9_dearest_104 : decode cX9_dearest 104 = .ok (.aload_n 0, 1) := by decide +kernel
theorem dX9_dearest_105 : decode cX9_dearest 105 = .ok (.getfield 7, 3) := by decide +kernel
theorem dX9_dearest_108 : decode cX9_dearest 108 = .ok (.iconst 1, 1) := by decide +kernel
theorem dX9_dearest_109 : decode cX9_dearest 109 = .ok (.iload_n 2, 1) := by decide +kernel
theorem dX9_dearest_110 : decode cX9_dearest 110 = .ok (.iastore, 1) := by decide +kernel
theorem dX9_dearest_111 : decode cX9_dearest 111 = .ok (.iload_n 3, 1) := by decide +kernel
theorem dX9_dearest_112 : decode cX9_dearest 112 = .ok (.ifCond .lt 7, 3) := by decide +kernel
theorem dX9_dearest_115 : decode cX9_dearest 115 = .ok (.iload_n 1, 1) := by decide +kernel
theorem dX9_dearest_116 : decode cX9_dearest 116 = .ok (.ifCond .ne 7, 3) := by decide +kernel
theorem dX9_dearest_119 : decode cX9_dearest 119 = .ok (.iload_n 3, 1) := by decide +kernel
theorem dX9_dearest_120 : decode cX9_dearest 120 = .ok (.goto 5, 3) := by decide +kernel
theorem dX9_dearest_123 : decode cX9_dearest 123 = .ok (.iload 4, 2) := by decide +kernel
theorem dX9_dearest_125 : decode cX9_dearest 125 = .ok (.ireturn, 1) := by decide +kernel
theorem dX9_check_0 : decode cX9_check 0 = .ok (.iload_n 1, 1) := by decide +kernel
theorem dX9_check_1 : decode cX9_check 1 = .ok (.ifCond .lt 14, 3) := by decide +kernel
theorem dX9_check_4 : decode cX9_check 4 = .ok (.iload_n 1, 1) := by decide +kernel
theorem dX9_check_5 : decode cX9_check 5 = .ok (.aload_n 0, 1) := by decide +kernel
theorem dX9_check_6 : decode cX9_check 6 = .ok (.getfield 7, 3) := by decide +kernel
theorem dX9_check_9 : decode cX9_check 9 = .ok (.iconst 0, 1) := by decide +kernel
theorem dX9_check_10 : decode cX9_check 10 = .ok (.iaload, 1) := by decide +kernel
theorem dX9_check_11 : decode cX9_check 11 = .ok (.ishr, 1) := by decide +kernel
theorem dX9_check_12 : decode cX9_check 12 = .ok (.ifCond .eq 5, 3) := by decide +kernel
theorem dX9_check_15 : decode cX9_check 15 = .ok (.iconst (-1), 1) := by decide +kernel
theorem dX9_check_16 : decode cX9_check 16 = .ok (.ireturn, 1) := by decide +kernel
theorem dX9_check_17 : decode cX9_check 17 = .ok (.aload_n 0, 1) := by decide +kernel
theorem dX9_check_18 : decode cX9_check 18 = .ok (.iload_n 1, 1) := by decide +kernel
theorem dX9_check_19 : decode cX9_check 19 = .ok (.invokevirtual 93, 3) := by decide +kernel
theorem dX9_check_22 : decode cX9_check 22 = .ok (.ifCond .eq 11, 3) := by decide +kernel
theorem dX9_check_25 : decode cX9_check 25 = .ok (.aload_n 0, 1) := by decide +kernel
theorem dX9_check_26 : decode cX9_check 26 = .ok (.iload_n 1, 1) := by decide +kernel
theorem dX9_check_27 : decode cX9_check 27 = .ok (.invokevirtual 96, 3) := by decide +kernel
theorem dX9_check_30 : decode cX9_check 30 = .ok (.goto 5, 3) := by decide +kernel
theorem dX9_check_33 : decode cX9_check 33 = .ok (.bipush (-6), 2) := by decide +kernel
theorem dX9_check_35 : decode cX9_check 35 = .ok (.ireturn, 1) := by decide +kernel
theorem dX9_undo_0 : decode cX9_undo 0 = .ok (.aload_n 0, 1) := by decide +kernel
theorem dX9_undo_1 : decode cX9_undo 1 = .ok (.getfield 38, 3) := by decide +kernel
theorem dX9_undo_4 : decode cX9_undo 4 = .ok (.ifCond .ne 6, 3) := by decide +kernel
theorem dX9_undo_7 : decode cX9_undo 7 = .ok (.bipush (-5), 2) := by decide +kernel
theorem dX9_undo_9 : decode cX9_undo 9 = .ok (.ireturn, 1) := by decide +kernel
theorem dX9_undo_10 : decode cX9_undo 10 = .ok (.aload_n 0, 1) := by decide +kernel
theorem dX9_undo_11 : decode cX9_undo 11 = .ok (.dup, 1) := by decide +kernel
theorem dX9_undo_12 : decode cX9_undo 12 = .ok (.getfield 38, 3) := by decide +kernel
theorem dX9_undo_15 : decode cX9_undo 15 = .ok (.iconst 1, 1) := by decide +kernel
theorem dX9_undo_16 : decode cX9_undo 16 = .ok (.isub, 1) := by decide +kernel
theorem dX9_undo_17 : decode cX9_undo 17 = .ok (.putfield 38, 3) := by decide +kernel
theorem dX9_undo_20 : decode cX9_undo 20 = .ok (.iconst 0, 1) := by decide +kernel
theorem dX9_undo_21 : decode cX9_undo 21 = .ok (.istore_n 1, 1) := by decide +kernel
theorem dX9_undo_22 : decode cX9_undo 22 = .ok (.iload_n 1, 1) := by decide +kernel
theorem dX9_undo_23 : decode cX9_undo 23 = .ok (.bipush 60, 2) := by decide +kernel
theorem dX9_undo_25 : decode cX9_undo 25 = .ok (.if_icmp .ge 29, 3) := by decide +kernel
theorem dX9_undo_28 : decode cX9_undo 28 = .ok (.aload_n 0, 1) := by decide +kernel
theorem dX9_undo_29 : decode cX9_undo 29 = .ok (.getfield 7, 3) := by decide +kernel
theorem dX9_undo_32 : decode cX9_undo 32 = .ok (.iload_n 1, 1) := by decide +kernel
theorem dX9_undo_33 : decode cX9_undo 33 = .ok (.aload_n 0, 1) := by decide +kernel
theorem dX9_undo_34 : decode cX9_undo 34 = .ok (.getfield 13, 3) := by decide +kernel
theorem dX9_undo_37 : decode cX9_undo 37 = .ok (.aload_n 0, 1) := by decide +kernel
theorem dX9_undo_38 : decode cX9_undo 38 = .ok (.getfield 38, 3) := by decide +kernel
theorem dX9_undo_41 : decode cX9_undo 41 = .ok (.bipush 60, 2) := by decide +kernel
theorem dX9_undo_43 : decode cX9_undo 43 = .ok (.imul, 1) := by decide +kernel
theorem dX9_undo_44 : decode cX9_undo 44 = .ok (.iload_n 1, 1) := by decide +kernel
theorem dX9_undo_45 : decode cX9_undo 45 = .ok (.iadd, 1) := by decide +kernel
theorem dX9_undo_46 : decode cX9_undo 46 = .ok (.iaload, 1) := by decide +kernel
theorem dX9_undo_47 : decode cX9_undo 47 = .ok (.iastore, 1) := by decide +kernel
theorem dX9_undo_48 : decode cX9_undo 48 = .ok (.iinc 1 1, 3) := by decide +kernel
theorem dX9_undo_51 : decode cX9_undo 51 = .ok (.goto (-29), 3) := by decide +kernel
theorem dX9_undo_54 : decode cX9_undo 54 = .ok (.aload_n 0, 1) := by decide +kernel
theorem dX9_undo_55 : decode cX9_undo 55 = .ok (.getfield 38, 3) := by decide +kernel
theorem dX9_undo_58 : decode cX9_undo 58 = .ok (.ireturn, 1) := by decide +kernel
theorem dX9_save_0 : decode cX9_save 0 = .ok (.iload_n 1, 1) := by decide +kernel
theorem dX9_save_1 : decode cX9_save 1 = .ok (.iconst 0, 1) := by decide +kernel
theorem dX9_save_2 : decode cX9_save 2 = .ok (.iconst 1, 1) := by decide +kernel
theorem dX9_save_3 : decode cX9_save 3 = .ok (.invokestatic 42, 3) := by decide +kernel
theorem dX9_save_6 : decode cX9_save 6 = .ok (.ifCond .ne 6, 3) := by decide +kernel
theorem dX9_save_9 : decode cX9_save 9 = .ok (.bipush (-2), 2) := by decide +kernel
theorem dX9_save_11 : decode cX9_save 11 = .ok (.ireturn, 1) := by decide +kernel
theorem dX9_save_12 : decode cX9_save 12 = .ok (.iconst 0, 1) := by decide +kernel
theorem dX9_save_13 : decode cX9_save 13 = .ok (.istore_n 2, 1) := by decide +kernel
theorem dX9_save_14 : decode cX9_save 14 = .ok (.iload_n 2, 1) := by decide +kernel
theorem dX9_save_15 : decode cX9_save 15 = .ok (.bipush 60, 2) := by decide +kernel
theorem dX9_save_17 : decode cX9_save 17 = .ok (.if_icmp .ge 26, 3) := by decide +kernel
theorem dX9_save_20 : decode cX9_save 20 = .ok (.aload_n 0, 1) := by decide +kernel
theorem dX9_save_21 : decode cX9_save 21 = .ok (.getfield 16, 3) := by decide +kernel
theorem dX9_save_24 : decode cX9_save 24 = .ok (.iload_n 1, 1) := by decide +kernel
theorem dX9_save_25 : decode cX9_save 25 = .ok (.bipush 60, 2) := by decide +kernel
theorem dX9_save_27 : decode cX9_save 27 = .ok (.imul, 1) := by decide +kernel
theorem dX9_save_28 : decode cX9_save 28 = .ok (.iload_n 2, 1) := by decide +kernel
theorem dX9_save_29 : decode cX9_save 29 = .ok (.iadd, 1) := by decide +kernel
theorem dX9_save_30 : decode cX9_save 30 = .ok (.aload_n 0, 1) := by decide +kernel
theorem dX9_save_31 : decode cX9_save 31 = .ok (.getfield 7, 3) := by decide +kernel
theorem dX9_save_34 : decode cX9_save 34 = .ok (.iload_n 2, 1) := by decide +kernel
theorem dX9_save_35 : decode cX9_save 35 = .ok (.iaload, 1) := by decide +kernel
theorem dX9_save_36 : decode cX9_save 36 = .ok (.iastore, 1) := by decide +kernel
theorem dX9_save_37 : decode cX9_save 37 = .ok (.iinc 2 1, 3) := by decide +kernel
theorem dX9_save_40 : decode cX9_save 40 = .ok (.goto (-26), 3) := by decide +kernel
theorem dX9_save_43 : decode cX9_save 43 = .ok (.aload_n 0, 1) := by decide +kernel
theorem dX9_save_44 : decode cX9_save 44 = .ok (.getfield 19, 3) := by decide +kernel
theorem dX9_save_47 : decode cX9_save 47 = .ok (.iload_n 1, 1) := by decide +kernel
theorem dX9_save_48 : decode cX9_save 48 = .ok (.iconst 1, 1) := by decide +kernel
theorem dX9_save_49 : decode cX9_save 49 = .ok (.bastore, 1) := by decide +kernel
theorem dX9_save_50 : decode cX9_save 50 = .ok (.aload_n 0, 1) := by decide +kernel
theorem dX9_save_51 : decode cX9_save 51 = .ok (.getfield 7, 3) := by decide +kernel
theorem dX9_save_54 : decode cX9_save 54 = .ok (.iconst 0, 1) := by decide +kernel
theorem dX9_save_55 : decode cX9_save 55 = .ok (.iaload, 1) := by decide +kernel
theorem dX9_save_56 : decode cX9_save 56 = .ok (.ireturn, 1) := by decide +kernel
theorem dX9_restore_0 : decode cX9_restore 0 = .ok (.iload_n 1, 1) := by decide +kernel
theorem dX9_restore_1 : decode cX9_restore 1 = .ok (.iconst 0, 1) := by decide +kernel
theorem dX9_restore_2 : decode cX9_restore 2 = .ok (.iconst 1, 1) := by decide +kernel
theorem dX9_restore_3 : decode cX9_restore 3 = .ok (.invokestatic 42, 3) := by decide +kernel
theorem dX9_restore_6 : decode cX9_restore 6 = .ok (.ifCond .ne 6, 3) := by decide +kernel
theorem dX9_restore_9 : decode cX9_restore 9 = .ok (.bipush (-2), 2) := by decide +kernel
theorem dX9_restore_11 : decode cX9_restore 11 = .ok (.ireturn, 1) := by decide +kernel
theorem dX9_restore_12 : decode cX9_restore 12 = .ok (.aload_n 0, 1) := by decide +kernel
theorem dX9_restore_13 : decode cX9_restore 13 = .ok (.getfield 19, 3) := by decide +kernel
theorem dX9_restore_16 : decode cX9_restore 16 = .ok (.iload_n 1, 1) := by decide +kernel
theorem dX9_restore_17 : decode cX9_restore 17 = .ok (.baload, 1) := by decide +kernel
theorem dX9_restore_18 : decode cX9_restore 18 = .ok (.ifCond .ne 6, 3) := by decide +kernel
theorem dX9_restore_21 : decode cX9_restore 21 = .ok (.bipush (-5), 2) := by decide +kernel
theorem dX9_restore_23 : decode cX9_restore 23 = .ok (.ireturn, 1) := by decide +kernel
theorem dX9_restore_24 : decode cX9_restore 24 = .ok (.aload_n 0, 1) := by decide +kernel
theorem dX9_restore_25 : decode cX9_restore 25 = .ok (.invokevirtual 47, 3) := by decide +kernel
theorem dX9_restore_28 : decode cX9_restore 28 = .ok (.iconst 0, 1) := by decide +kernel
theorem dX9_restore_29 : decode cX9_restore 29 = .ok (.istore_n 2, 1) := by decide +kernel
theorem dX9_restore_30 : decode cX9_restore 30 = .ok (.iload_n 2, 1) := by decide +kernel
theorem dX9_restore_31 : decode cX9_restore 31 = .ok (.bipush 60, 2) := by decide +kernel
theorem dX9_restore_33 : decode cX9_restore 33 = .ok (.if_icmp .ge 26, 3) := by decide +kernel
theorem dX9_restore_36 : decode cX9_restore 36 = .ok (.aload_n 0, 1) := by decide +kernel
theorem dX9_restore_37 : decode cX9_restore 37 = .ok (.getfield 7, 3) := by decide +kernel
theorem dX9_restore_40 : decode cX9_restore 40 = .ok (.iload_n 2, 1) := by decide +kernel
theorem dX9_restore_41 : decode cX9_restore 41 = .ok (.aload_n 0, 1) := by decide +kernel
theorem dX9_restore_42 : decode cX9_restore 42 = .ok (.getfield 16, 3) := by decide +kernel
theorem dX9_restore_45 : decode cX9_restore 45 = .ok (.iload_n 1, 1) := by decide +kernel
theorem dX9_restore_46 : decode cX9_restore 46 = .ok (.bipush 60, 2) := by decide +kernel
theorem dX9_restore_48 : decode cX9_restore 48 = .ok (.imul, 1) := by decide +kernel
theorem dX9_restore_49 : decode cX9_restore 49 = .ok (.iload_n 2, 1) := by decide +kernel
theorem dX9_restore_50 : decode cX9_restore 50 = .ok (.iadd, 1) := by decide +kernel
theorem dX9_restore_51 : decode cX9_restore 51 = .ok (.iaload, 1) := by decide +kernel
theorem dX9_restore_52 : decode cX9_restore 52 = .ok (.iastore, 1) := by decide +kernel
theorem dX9_restore_53 : decode cX9_restore 53 = .ok (.iinc 2 1, 3) := by decide +kernel
theorem dX9_restore_56 : decode cX9_restore 56 = .ok (.goto (-26), 3) := by decide +kernel
theorem dX9_restore_59 : decode cX9_restore 59 = .ok (.aload_n 0, 1) := by decide +kernel
theorem dX9_restore_60 : decode cX9_restore 60 = .ok (.getfield 7, 3) := by decide +kernel
theorem dX9_restore_63 : decode cX9_restore 63 = .ok (.iconst 0, 1) := by decide +kernel
theorem dX9_restore_64 : decode cX9_restore 64 = .ok (.iaload, 1) := by decide +kernel
theorem dX9_restore_65 : decode cX9_restore 65 = .ok (.ireturn, 1) := by decide +kernel
theorem dJ6_numberOfTrailingZeros_0f7a4_0 : decode cJ6_numberOfTrailingZeros_0f7a4 0 = .ok (.iload_n 0, 1) := by decide +kernel
theorem dJ6_numberOfTrailingZeros_0f7a4_1 : decode cJ6_numberOfTrailingZeros_0f7a4 1 = .ok (.iconst (-1), 1) := by decide +kernel
theorem dJ6_numberOfTrailingZeros_0f7a4_2 : decode cJ6_numberOfTrailingZeros_0f7a4 2 = .ok (.ixor, 1) := by decide +kernel
theorem dJ6_numberOfTrailingZeros_0f7a4_3 : decode cJ6_numberOfTrailingZeros_0f7a4 3 = .ok (.iload_n 0, 1) := by decide +kernel
theorem dJ6_numberOfTrailingZeros_0f7a4_4 : decode cJ6_numberOfTrailingZeros_0f7a4 4 = .ok (.iconst 1, 1) := by decide +kernel
theorem dJ6_numberOfTrailingZeros_0f7a4_5 : decode cJ6_numberOfTrailingZeros_0f7a4 5 = .ok (.isub, 1) := by decide +kernel
theorem dJ6_numberOfTrailingZeros_0f7a4_6 : decode cJ6_numberOfTrailingZeros_0f7a4 6 = .ok (.iand, 1) := by decide +kernel
theorem dJ6_numberOfTrailingZeros_0f7a4_7 : decode cJ6_numberOfTrailingZeros_0f7a4 7 = .ok (.istore_n 0, 1) := by decide +kernel
theorem dJ6_numberOfTrailingZeros_0f7a4_8 : decode cJ6_numberOfTrailingZeros_0f7a4 8 = .ok (.iload_n 0, 1) := by decide +kernel
theorem dJ6_numberOfTrailingZeros_0f7a4_9 : decode cJ6_numberOfTrailingZeros_0f7a4 9 = .ok (.ifCond .gt 8, 3) := by decide +kernel
theorem dJ6_numberOfTrailingZeros_0f7a4_12 : decode cJ6_numberOfTrailingZeros_0f7a4 12 = .ok (.iload_n 0, 1) := by decide +kernel
theorem dJ6_numberOfTrailingZeros_0f7a4_13 : decode cJ6_numberOfTrailingZeros_0f7a4 13 = .ok (.bipush 32, 2) := by decide +kernel
theorem dJ6_numberOfTrailingZeros_0f7a4_15 : decode cJ6_numberOfTrailingZeros_0f7a4 15 = .ok (.iand, 1) := by decide +kernel
theorem dJ6_numberOfTrailingZeros_0f7a4_16 : decode cJ6_numberOfTrailingZeros_0f7a4 16 = .ok (.ireturn, 1) := by decide +kernel
theorem dJ6_numberOfTrailingZeros_0f7a4_17 : decode cJ6_numberOfTrailingZeros_0f7a4 17 = .ok (.iconst 1, 1) := by decide +kernel
theorem dJ6_numberOfTrailingZeros_0f7a4_18 : decode cJ6_numberOfTrailingZeros_0f7a4 18 = .ok (.istore_n 1, 1) := by decide +kernel
theorem dJ6_numberOfTrailingZeros_0f7a4_19 : decode cJ6_numberOfTrailingZeros_0f7a4 19 = .ok (.iload_n 0, 1) := by decide +kernel
theorem dJ6_numberOfTrailingZeros_0f7a4_20 : decode cJ6_numberOfTrailingZeros_0f7a4 20 = .ok (.ldc_w 264, 3) := by decide +kernel
theorem dJ6_numberOfTrailingZeros_0f7a4_23 : decode cJ6_numberOfTrailingZeros_0f7a4 23 = .ok (.if_icmp .le 11, 3) := by decide +kernel
theorem dJ6_numberOfTrailingZeros_0f7a4_26 : decode cJ6_numberOfTrailingZeros_0f7a4 26 = .ok (.iinc 1 16, 3) := by decide +kernel
theorem dJ6_numberOfTrailingZeros_0f7a4_29 : decode cJ6_numberOfTrailingZeros_0f7a4 29 = .ok (.iload_n 0, 1) := by decide +kernel
theorem dJ6_numberOfTrailingZeros_0f7a4_30 : decode cJ6_numberOfTrailingZeros_0f7a4 30 = .ok (.bipush 16, 2) := by decide +kernel
theorem dJ6_numberOfTrailingZeros_0f7a4_32 : decode cJ6_numberOfTrailingZeros_0f7a4 32 = .ok (.iushr, 1) := by decide +kernel
theorem dJ6_numberOfTrailingZeros_0f7a4_33 : decode cJ6_numberOfTrailingZeros_0f7a4 33 = .ok (.istore_n 0, 1) := by decide +kernel
theorem dJ6_numberOfTrailingZeros_0f7a4_34 : decode cJ6_numberOfTrailingZeros_0f7a4 34 = .ok (.iload_n 0, 1) := by decide +kernel
theorem dJ6_numberOfTrailingZeros_0f7a4_35 : decode cJ6_numberOfTrailingZeros_0f7a4 35 = .ok (.sipush 256, 3) := by decide +kernel
theorem dJ6_numberOfTrailingZeros_0f7a4_38 : decode cJ6_numberOfTrailingZeros_0f7a4 38 = .ok (.if_icmp .le 11, 3) := by decide +kernel
theorem dJ6_numberOfTrailingZeros_0f7a4_41 : decode cJ6_numberOfTrailingZeros_0f7a4 41 = .ok (.iinc 1 8, 3) := by decide +kernel
theorem dJ6_numberOfTrailingZeros_0f7a4_44 : decode cJ6_numberOfTrailingZeros_0f7a4 44 = .ok (.iload_n 0, 1) := by decide +kernel
theorem dJ6_numberOfTrailingZeros_0f7a4_45 : decode cJ6_numberOfTrailingZeros_0f7a4 45 = .ok (.bipush 8, 2) := by decide +kernel
theorem dJ6_numberOfTrailingZeros_0f7a4_47 : decode cJ6_numberOfTrailingZeros_0f7a4 47 = .ok (.iushr, 1) := by decide +kernel
theorem dJ6_numberOfTrailingZeros_0f7a4_48 : decode cJ6_numberOfTrailingZeros_0f7a4 48 = .ok (.istore_n 0, 1) := by decide +kernel
theorem dJ6_numberOfTrailingZeros_0f7a4_49 : decode cJ6_numberOfTrailingZeros_0f7a4 49 = .ok (.iload_n 0, 1) := by decide +kernel
theorem dJ6_numberOfTrailingZeros_0f7a4_50 : decode cJ6_numberOfTrailingZeros_0f7a4 50 = .ok (.bipush 16, 2) := by decide +kernel
theorem dJ6_numberOfTrailingZeros_0f7a4_52 : decode cJ6_numberOfTrailingZeros_0f7a4 52 = .ok (.if_icmp .le 10, 3) := by decide +kernel
theorem dJ6_numberOfTrailingZeros_0f7a4_55 : decode cJ6_numberOfTrailingZeros_0f7a4 55 = .ok (.iinc 1 4, 3) := by decide +kernel
theorem dJ6_numberOfTrailingZeros_0f7a4_58 : decode cJ6_numberOfTrailingZeros_0f7a4 58 = .ok (.iload_n 0, 1) := by decide +kernel
theorem dJ6_numberOfTrailingZeros_0f7a4_59 : decode cJ6_numberOfTrailingZeros_0f7a4 59 = .ok (.iconst 4, 1) := by decide +kernel
theorem dJ6_numberOfTrailingZeros_0f7a4_60 : decode cJ6_numberOfTrailingZeros_0f7a4 60 = .ok (.iushr, 1) := by decide +kernel
theorem dJ6_numberOfTrailingZeros_0f7a4_61 : decode cJ6_numberOfTrailingZeros_0f7a4 61 = .ok (.istore_n 0, 1) := by decide +kernel
theorem dJ6_numberOfTrailingZeros_0f7a4_62 : decode cJ6_numberOfTrailingZeros_0f7a4 62 = .ok (.iload_n 0, 1) := by decide +kernel
theorem dJ6_numberOfTrailingZeros_0f7a4_63 : decode cJ6_numberOfTrailingZeros_0f7a4 63 = .ok (.iconst 4, 1) := by decide +kernel
theorem dJ6_numberOfTrailingZeros_0f7a4_64 : decode cJ6_numberOfTrailingZeros_0f7a4 64 = .ok (.if_icmp .le 10, 3) := by decide +kernel
theorem dJ6_numberOfTrailingZeros_0f7a4_67 : decode cJ6_numberOfTrailingZeros_0f7a4 67 = .ok (.iinc 1 2, 3) := by decide +kernel
theorem dJ6_numberOfTrailingZeros_0f7a4_70 : decode cJ6_numberOfTrailingZeros_0f7a4 70 = .ok (.iload_n 0, 1) := by decide +kernel
theorem dJ6_numberOfTrailingZeros_0f7a4_71 : decode cJ6_numberOfTrailingZeros_0f7a4 71 = .ok (.iconst 2, 1) := by decide +kernel
theorem dJ6_numberOfTrailingZeros_0f7a4_72 : decode cJ6_numberOfTrailingZeros_0f7a4 72 = .ok (.iushr, 1) := by decide +kernel
theorem dJ6_numberOfTrailingZeros_0f7a4_73 : decode cJ6_numberOfTrailingZeros_0f7a4 73 = .ok (.istore_n 0, 1) := by decide +kernel
theorem dJ6_numberOfTrailingZeros_0f7a4_74 : decode cJ6_numberOfTrailingZeros_0f7a4 74 = .ok (.iload_n 1, 1) := by decide +kernel
theorem dJ6_numberOfTrailingZeros_0f7a4_75 : decode cJ6_numberOfTrailingZeros_0f7a4 75 = .ok (.iload_n 0, 1) := by decide +kernel
theorem dJ6_numberOfTrailingZeros_0f7a4_76 : decode cJ6_numberOfTrailingZeros_0f7a4 76 = .ok (.iconst 1, 1) := by decide +kernel
theorem dJ6_numberOfTrailingZeros_0f7a4_77 : decode cJ6_numberOfTrailingZeros_0f7a4 77 = .ok (.iushr, 1) := by decide +kernel
theorem dJ6_numberOfTrailingZeros_0f7a4_78 : decode cJ6_numberOfTrailingZeros_0f7a4 78 = .ok (.iadd, 1) := by decide +kernel
theorem dJ6_numberOfTrailingZeros_0f7a4_79 : decode cJ6_numberOfTrailingZeros_0f7a4 79 = .ok (.ireturn, 1) := by decide +kernel
theorem dJ6_bitCount_0f7a4_0 : decode cJ6_bitCount_0f7a4 0 = .ok (.iload_n 0, 1) := by decide +kernel
theorem dJ6_bitCount_0f7a4_1 : decode cJ6_bitCount_0f7a4 1 = .ok (.iload_n 0, 1) := by decide +kernel
theorem dJ6_bitCount_0f7a4_2 : decode cJ6_bitCount_0f7a4 2 = .ok (.iconst 1, 1) := by decide +kernel
theorem dJ6_bitCount_0f7a4_3 : decode cJ6_bitCount_0f7a4 3 = .ok (.iushr, 1) := by decide +kernel
theorem dJ6_bitCount_0f7a4_4 : decode cJ6_bitCount_0f7a4 4 = .ok (.ldc_w 265, 3) := by decide +kernel
theorem dJ6_bitCount_0f7a4_7 : decode cJ6_bitCount_0f7a4 7 = .ok (.iand, 1) := by decide +kernel
theorem dJ6_bitCount_0f7a4_8 : decode cJ6_bitCount_0f7a4 8 = .ok (.isub, 1) := by decide +kernel
theorem dJ6_bitCount_0f7a4_9 : decode cJ6_bitCount_0f7a4 9 = .ok (.istore_n 0, 1) := by decide +kernel
theorem dJ6_bitCount_0f7a4_10 : decode cJ6_bitCount_0f7a4 10 = .ok (.iload_n 0, 1) := by decide +kernel
theorem dJ6_bitCount_0f7a4_11 : decode cJ6_bitCount_0f7a4 11 = .ok (.ldc_w 266, 3) := by decide +kernel
theorem dJ6_bitCount_0f7a4_14 : decode cJ6_bitCount_0f7a4 14 = .ok (.iand, 1) := by decide +kernel
theorem dJ6_bitCount_0f7a4_15 : decode cJ6_bitCount_0f7a4 15 = .ok (.iload_n 0, 1) := by decide +kernel
theorem dJ6_bitCount_0f7a4_16 : decode cJ6_bitCount_0f7a4 16 = .ok (.iconst 2, 1) := by decide +kernel
theorem dJ6_bitCount_0f7a4_17 : decode cJ6_bitCount_0f7a4 17 = .ok (.iushr, 1) := by decide +kernel
theorem dJ6_bitCount_0f7a4_18 : decode cJ6_bitCount_0f7a4 18 = .ok (.ldc_w 266, 3) := by decide +kernel
theorem dJ6_bitCount_0f7a4_21 : decode cJ6_bitCount_0f7a4 21 = .ok (.iand, 1) := by decide +kernel
theorem dJ6_bitCount_0f7a4_22 : decode cJ6_bitCount_0f7a4 22 = .ok (.iadd, 1) := by decide +kernel
theorem dJ6_bitCount_0f7a4_23 : decode cJ6_bitCount_0f7a4 23 = .ok (.istore_n 0, 1) := by decide +kernel
theorem dJ6_bitCount_0f7a4_24 : decode cJ6_bitCount_0f7a4 24 = .ok (.iload_n 0, 1) := by decide +kernel
theorem dJ6_bitCount_0f7a4_25 : decode cJ6_bitCount_0f7a4 25 = .ok (.iload_n 0, 1) := by decide +kernel
theorem dJ6_bitCount_0f7a4_26 : decode cJ6_bitCount_0f7a4 26 = .ok (.iconst 4, 1) := by decide +kernel
theorem dJ6_bitCount_0f7a4_27 : decode cJ6_bitCount_0f7a4 27 = .ok (.iushr, 1) := by decide +kernel
theorem dJ6_bitCount_0f7a4_28 : decode cJ6_bitCount_0f7a4 28 = .ok (.iadd, 1) := by decide +kernel
theorem dJ6_bitCount_0f7a4_29 : decode cJ6_bitCount_0f7a4 29 = .ok (.ldc_w 267, 3) := by decide +kernel
theorem dJ6_bitCount_0f7a4_32 : decode cJ6_bitCount_0f7a4 32 = .ok (.iand, 1) := by decide +kernel
theorem dJ6_bitCount_0f7a4_33 : decode cJ6_bitCount_0f7a4 33 = .ok (.istore_n 0, 1) := by decide +kernel
theorem dJ6_bitCount_0f7a4_34 : decode cJ6_bitCount_0f7a4 34 = .ok (.iload_n 0, 1) := by decide +kernel
theorem dJ6_bitCount_0f7a4_35 : decode cJ6_bitCount_0f7a4 35 = .ok (.iload_n 0, 1) := by decide +kernel
theorem dJ6_bitCount_0f7a4_36 : decode cJ6_bitCount_0f7a4 36 = .ok (.bipush 8, 2) := by decide +kernel
theorem dJ6_bitCount_0f7a4_38 : decode cJ6_bitCount_0f7a4 38 = .ok (.iushr, 1) := by decide +kernel
theorem dJ6_bitCount_0f7a4_39 : decode cJ6_bitCount_0f7a4 39 = .ok (.iadd, 1) := by decide +kernel
theorem dJ6_bitCount_0f7a4_40 : decode cJ6_bitCount_0f7a4 40 = .ok (.istore_n 0, 1) := by decide +kernel
theorem dJ6_bitCount_0f7a4_41 : decode cJ6_bitCount_0f7a4 41 = .ok (.iload_n 0, 1) := by decide +kernel
theorem dJ6_bitCount_0f7a4_42 : decode cJ6_bitCount_0f7a4 42 = .ok (.iload_n 0, 1) := by decide +kernel
theorem dJ6_bitCount_0f7a4_43 : decode cJ6_bitCount_0f7a4 43 = .ok (.bipush 16, 2) := by decide +kernel
theorem dJ6_bitCount_0f7a4_45 : decode cJ6_bitCount_0f7a4 45 = .ok (.iushr, 1) := by decide +kernel
theorem dJ6_bitCount_0f7a4_46 : decode cJ6_bitCount_0f7a4 46 = .ok (.iadd, 1) := by decide +kernel
theorem dJ6_bitCount_0f7a4_47 : decode cJ6_bitCount_0f7a4 47 = .ok (.istore_n 0, 1) := by decide +kernel
theorem dJ6_bitCount_0f7a4_48 : decode cJ6_bitCount_0f7a4 48 = .ok (.iload_n 0, 1) := by decide +kernel
theorem dJ6_bitCount_0f7a4_49 : decode cJ6_bitCount_0f7a4 49 = .ok (.bipush 63, 2) := by decide +kernel
theorem dJ6_bitCount_0f7a4_51 : decode cJ6_bitCount_0f7a4 51 = .ok (.iand, 1) := by decide +kernel
theorem dJ6_bitCount_0f7a4_52 : decode cJ6_bitCount_0f7a4 52 = .ok (.ireturn, 1) := by decide +kernel
theorem dJ9_max_7cf53_0 : decode cJ9_max_7cf53 0 = .ok (.iload_n 0, 1) := by decide +kernel
theorem dJ9_max_7cf53_1 : decode cJ9_max_7cf53 1 = .ok (.iload_n 1, 1) := by decide +kernel
theorem dJ9_max_7cf53_2 : decode cJ9_max_7cf53 2 = .ok (.if_icmp .lt 7, 3) := by decide +kernel
theorem dJ9_max_7cf53_5 : decode cJ9_max_7cf53 5 = .ok (.iload_n 0, 1) := by decide +kernel
theorem dJ9_max_7cf53_6 : decode cJ9_max_7cf53 6 = .ok (.goto 4, 3) := by decide +kernel
theorem dJ9_max_7cf53_9 : decode cJ9_max_7cf53 9 = .ok (.iload_n 1, 1) := by decide +kernel
theorem dJ9_max_7cf53_10 : decode cJ9_max_7cf53 10 = .ok (.ireturn, 1) := by decide +kernel
theorem dJ9_min_7cf53_0 : decode cJ9_min_7cf53 0 = .ok (.iload_n 0, 1) := by decide +kernel
theorem dJ9_min_7cf53_1 : decode cJ9_min_7cf53 1 = .ok (.iload_n 1, 1) := by decide +kernel
theorem dJ9_min_7cf53_2 : decode cJ9_min_7cf53 2 = .ok (.if_icmp .gt 7, 3) := by decide +kernel
theorem dJ9_min_7cf53_5 : decode cJ9_min_7cf53 5 = .ok (.iload_n 0, 1) := by decide +kernel
theorem dJ9_min_7cf53_6 : decode cJ9_min_7cf53 6 = .ok (.goto 4, 3) := by decide +kernel
theorem dJ9_min_7cf53_9 : decode cJ9_min_7cf53 9 = .ok (.iload_n 1, 1) := by decide +kernel
theorem dJ9_min_7cf53_10 : decode cJ9_min_7cf53 10 = .ok (.ireturn, 1) := by decide +kernel
theorem dJ7_fill_53178_0 : decode cJ7_fill_53178 0 = .ok (.iconst 0, 1) := by decide +kernel
theorem dJ7_fill_53178_1 : decode cJ7_fill_53178 1 = .ok (.istore_n 2, 1) := by decide +kernel
theorem dJ7_fill_53178_2 : decode cJ7_fill_53178 2 = .ok (.aload_n 0, 1) := by decide +kernel
theorem dJ7_fill_53178_3 : decode cJ7_fill_53178 3 = .ok (.arraylength, 1) := by decide +kernel
theorem dJ7_fill_53178_4 : decode cJ7_fill_53178 4 = .ok (.istore_n 3, 1) := by decide +kernel
theorem dJ7_fill_53178_5 : decode cJ7_fill_53178 5 = .ok (.iload_n 2, 1) := by decide +kernel
theorem dJ7_fill_53178_6 : decode cJ7_fill_53178 6 = .ok (.iload_n 3, 1) := by decide +kernel
theorem dJ7_fill_53178_7 : decode cJ7_fill_53178 7 = .ok (.if_icmp .ge 13, 3) := by decide +kernel
theorem dJ7_fill_53178_10 : decode cJ7_fill_53178 10 = .ok (.aload_n 0, 1) := by decide +kernel
theorem dJ7_fill_53178_11 : decode cJ7_fill_53178 11 = .ok (.iload_n 2, 1) := by decide +kernel
theorem dJ7_fill_53178_12 : decode cJ7_fill_53178 12 = .ok (.iload_n 1, 1) := by decide +kernel
theorem dJ7_fill_53178_13 : decode cJ7_fill_53178 13 = .ok (.iastore, 1) := by decide +kernel
theorem dJ7_fill_53178_14 : decode cJ7_fill_53178 14 = .ok (.iinc 2 1, 3) := by decide +kernel
theorem dJ7_fill_53178_17 : decode cJ7_fill_53178 17 = .ok (.goto (-12), 3) := by decide +kernel
theorem dJ7_fill_53178_20 : decode cJ7_fill_53178 20 = .ok (.return_, 1) := by decide +kernel
theorem dL_law_0 : decode cL_law 0 = .ok (.new 7, 3) := by decide +kernel
theorem dL_law_3 : decode cL_law 3 = .ok (.dup, 1) := by decide +kernel
theorem dL_law_4 : decode cL_law 4 = .ok (.invokespecial 9, 3) := by decide +kernel
theorem dL_law_7 : decode cL_law 7 = .ok (.astore_n 1, 1) := by decide +kernel
theorem dL_law_8 : decode cL_law 8 = .ok (.new 10, 3) := by decide +kernel
theorem dL_law_11 : decode cL_law 11 = .ok (.dup, 1) := by decide +kernel
theorem dL_law_12 : decode cL_law 12 = .ok (.invokespecial 12, 3) := by decide +kernel
theorem dL_law_15 : decode cL_law 15 = .ok (.astore_n 2, 1) := by decide +kernel
theorem dL_law_16 : decode cL_law 16 = .ok (.iconst 0, 1) := by decide +kernel
theorem dL_law_17 : decode cL_law 17 = .ok (.istore_n 3, 1) := by decide +kernel
theorem dL_law_18 : decode cL_law 18 = .ok (.iload_n 3, 1) := by decide +kernel
theorem dL_law_19 : decode cL_law 19 = .ok (.aload_n 0, 1) := by decide +kernel
theorem dL_law_20 : decode cL_law 20 = .ok (.arraylength, 1) := by decide +kernel
theorem dL_law_21 : decode cL_law 21 = .ok (.iconst 3, 1) := by decide +kernel
theorem dL_law_22 : decode cL_law 22 = .ok (.isub, 1) := by decide +kernel
theorem dL_law_23 : decode cL_law 23 = .ok (.if_icmp .gt 719, 3) := by decide +kernel
theorem dL_law_26 : decode cL_law 26 = .ok (.aload_n 0, 1) := by decide +kernel
theorem dL_law_27 : decode cL_law 27 = .ok (.iload_n 3, 1) := by decide +kernel
theorem dL_law_28 : decode cL_law 28 = .ok (.iaload, 1) := by decide +kernel
theorem dL_law_29 : decode cL_law 29 = .ok (.bipush 31, 2) := by decide +kernel
theorem dL_law_31 : decode cL_law 31 = .ok (.iand, 1) := by decide +kernel
theorem dL_law_32 : decode cL_law 32 = .ok (.tableswitch 704 0 23 #[112, 135, 168, 201, 234, 267, 290, 343, 356, 369, 382, 415, 448, 471, 494, 517, 540, 563, 576, 599, 622, 645, 658, 681], 112) := by decide +kernel
theorem dL_law_144 : decode cL_law 144 = .ok (.aload_n 1, 1) := by decide +kernel
theorem dL_law_145 : decode cL_law 145 = .ok (.aload_n 0, 1) := by decide +kernel
theorem dL_law_146 : decode cL_law 146 = .ok (.iload_n 3, 1) := by decide +kernel
theorem dL_law_147 : decode cL_law 147 = .ok (.iconst 1, 1) := by decide +kernel
theorem dL_law_148 : decode cL_law 148 = .ok (.iadd, 1) := by decide +kernel
theorem dL_law_149 : decode cL_law 149 = .ok (.iaload, 1) := by decide +kernel
theorem dL_law_150 : decode cL_law 150 = .ok (.invokevirtual 13, 3) := by decide +kernel
theorem dL_law_153 : decode cL_law 153 = .ok (.aload_n 2, 1) := by decide +kernel
theorem dL_law_154 : decode cL_law 154 = .ok (.aload_n 0, 1) := by decide +kernel
theorem dL_law_155 : decode cL_law 155 = .ok (.iload_n 3, 1) := by decide +kernel
theorem dL_law_156 : decode cL_law 156 = .ok (.iconst 1, 1) := by decide +kernel
theorem dL_law_157 : decode cL_law 157 = .ok (.iadd, 1) := by decide +kernel
theorem dL_law_158 : decode cL_law 158 = .ok (.iaload, 1) := by decide +kernel
theorem dL_law_159 : decode cL_law 159 = .ok (.invokevirtual 17, 3) := by decide +kernel
theorem dL_law_162 : decode cL_law 162 = .ok (.if_icmp .eq 574, 3) := by decide +kernel
theorem dL_law_165 : decode cL_law 165 = .ok (.iconst 0, 1) := by decide +kernel
theorem dL_law_166 : decode cL_law 166 = .ok (.ireturn, 1) := by decide +kernel
theorem dL_law_167 : decode cL_law 167 = .ok (.aload_n 1, 1) := by decide +kernel
theorem dL_law_168 : decode cL_law 168 = .ok (.aload_n 0, 1) := by decide +kernel
theorem dL_law_169 : decode cL_law 169 = .ok (.iload_n 3, 1) := by decide +kernel
theorem dL_law_170 : decode cL_law 170 = .ok (.iconst 1, 1) := by decide +kernel
theorem dL_law_171 : decode cL_law 171 = .ok (.iadd, 1) := by decide +kernel
theorem dL_law_172 : decode cL_law 172 = .ok (.iaload, 1) := by decide +kernel
theorem dL_law_173 : decode cL_law 173 = .ok (.aload_n 0, 1) := by decide +kernel
theorem dL_law_174 : decode cL_law 174 = .ok (.iload_n 3, 1) := by decide +kernel
theorem dL_law_175 : decode cL_law 175 = .ok (.iconst 2, 1) := by decide +kernel
theorem dL_law_176 : decode cL_law 176 = .ok (.iadd, 1) := by decide +kernel
theorem dL_law_177 : decode cL_law 177 = .ok (.iaload, 1) := by decide +kernel
theorem dL_law_178 : decode cL_law 178 = .ok (.invokevirtual 18, 3) := by decide +kernel
theorem dL_law_181 : decode cL_law 181 = .ok (.aload_n 2, 1) := by decide +kernel
theorem dL_law_182 : decode cL_law 182 = .ok (.aload_n 0, 1) := by decide +kernel
theorem dL_law_183 : decode cL_law 183 = .ok (.iload_n 3, 1) := by decide +kernel
theorem dL_law_184 : decode cL_law 184 = .ok (.iconst 1, 1) := by decide +kernel
theorem dL_law_185 : decode cL_law 185 = .ok (.iadd, 1) := by decide +kernel
theorem dL_law_186 : decode cL_law 186 = .ok (.iaload, 1) := by decide +kernel
theorem dL_law_187 : decode cL_law 187 = .ok (.aload_n 0, 1) := by decide +kernel
theorem dL_law_188 : decode cL_law 188 = .ok (.iload_n 3, 1) := by decide +kernel
theorem dL_law_189 : decode cL_law 189 = .ok (.iconst 2, 1) := by decide +kernel
theorem dL_law_190 : decode cL_law 190 = .ok (.iadd, 1) := by decide +kernel
theorem dL_law_191 : decode cL_law 191 = .ok (.iaload, 1) := by decide +kernel
theorem dL_law_192 : decode cL_law 192 = .ok (.invokevirtual 22, 3) := by decide +kernel
theorem dL_law_195 : decode cL_law 195 = .ok (.if_icmp .eq 541, 3) := by decide +kernel
theorem dL_law_198 : decode cL_law 198 = .ok (.iconst 0, 1) := by decide +kernel
theorem dL_law_199 : decode cL_law 199 = .ok (.ireturn, 1) := by decide +kernel
theorem dL_law_200 : decode cL_law 200 = .ok (.aload_n 1, 1) := by decide +kernel
theorem dL_law_201 : decode cL_law 201 = .ok (.aload_n 0, 1) := by decide +kernel
theorem dL_law_202 : decode cL_law 202 = .ok (.iload_n 3, 1) := by decide +kernel
theorem dL_law_203 : decode cL_law 203 = .ok (.iconst 1, 1) := by decide +kernel
theorem dL_law_204 : decode cL_law 204 = .ok (.iadd, 1) := by decide +kernel
theorem dL_law_205 : decode cL_law 205 = .ok (.iaload, 1) := by decide +kernel
theorem dL_law_206 : decode cL_law 206 = .ok (.aload_n 0, 1) := by decide +kernel
theorem dL_law_207 : decode cL_law 207 = .ok (.iload_n 3, 1) := by decide +kernel
theorem dL_law_208 : decode cL_law 208 = .ok (.iconst 2, 1) := by decide +kernel
theorem dL_law_209 : decode cL_law 209 = .ok (.iadd, 1) := by decide +kernel
theorem dL_law_210 : decode cL_law 210 = .ok (.iaload, 1) := by decide +kernel
theorem dL_law_211 : decode cL_law 211 = .ok (.invokevirtual 23, 3) := by decide +kernel
theorem dL_law_214 : decode cL_law 214 = .ok (.aload_n 2, 1) := by decide +kernel
theorem dL_law_215 : decode cL_law 215 = .ok (.aload_n 0, 1) := by decide +kernel
theorem dL_law_216 : decode cL_law 216 = .ok (.iload_n 3, 1) := by decide +kernel
theorem dL_law_217 : decode cL_law 217 = .ok (.iconst 1, 1) := by decide +kernel
theorem dL_law_218 : decode cL_law 218 = .ok (.iadd, 1) := by decide +kernel
theorem dL_law_219 : decode cL_law 219 = .ok (.iaload, 1) := by decide +kernel
theorem dL_law_220 : decode cL_law 220 = .ok (.aload_n 0, 1) := by decide +kernel
theorem dL_law_221 : decode cL_law 221 = .ok (.iload_n 3, 1) := by decide +kernel
theorem dL_law_222 : decode cL_law 222 = .ok (.iconst 2, 1) := by decide +kernel
theorem dL_law_223 : decode cL_law 223 = .ok (.iadd, 1) := by decide +kernel
theorem dL_law_224 : decode cL_law 224 = .ok (.iaload, 1) := by decide +kernel
theorem dL_law_225 : decode cL_law 225 = .ok (.invokevirtual 26, 3) := by decide +kernel
theorem dL_law_228 : decode cL_law 228 = .ok (.if_icmp .eq 508, 3) := by decide +kernel
theorem dL_law_231 : decode cL_law 231 = .ok (.iconst 0, 1) := by decide +kernel
theorem dL_law_232 : decode cL_law 232 = .ok (.ireturn, 1) := by decide +kernel
theorem dL_law_233 : decode cL_law 233 = .ok (.aload_n 1, 1) := by decide +kernel
theorem dL_law_234 : decode cL_law 234 = .ok (.aload_n 0, 1) := by decide +kernel
theorem dL_law_235 : decode cL_law 235 = .ok (.iload_n 3, 1) := by decide +kernel
theorem dL_law_236 : decode cL_law 236 = .ok (.iconst 1, 1) := by decide +kernel
theorem dL_law_237 : decode cL_law 237 = .ok (.iadd, 1) := by decide +kernel
theorem dL_law_238 : decode cL_law 238 = .ok (.iaload, 1) := by decide +kernel
theorem dL_law_239 : decode cL_law 239 = .ok (.aload_n 0, 1) := by decide +kernel
theorem dL_law_240 : decode cL_law 240 = .ok (.iload_n 3, 1) := by decide +kernel
theorem dL_law_241 : decode cL_law 241 = .ok (.iconst 2, 1) := by decide +kernel
theorem dL_law_242 : decode cL_law 242 = .ok (.iadd, 1) := by decide +kernel
theorem dL_law_243 : decode cL_law 243 = .ok (.iaload, 1) := by decide +kernel
theorem dL_law_244 : decode cL_law 244 = .ok (.invokevirtual 27, 3) := by decide +kernel
theorem dL_law_247 : decode cL_law 247 = .ok (.aload_n 2, 1) := by decide +kernel
theorem dL_law_248 : decode cL_law 248 = .ok (.aload_n 0, 1) := by decide +kernel
theorem dL_law_249 : decode cL_law 249 = .ok (.iload_n 3, 1) := by decide +kernel
theorem dL_law_250 : decode cL_law 250 = .ok (.iconst 1, 1) := by decide +kernel
theorem dL_law_251 : decode cL_law 251 = .ok (.iadd, 1) := by decide +kernel
theorem dL_law_252 : decode cL_law 252 = .ok (.iaload, 1) := by decide +kernel
theorem dL_law_253 : decode cL_law 253 = .ok (.aload_n 0, 1) := by decide +kernel
theorem dL_law_254 : decode cL_law 254 = .ok (.iload_n 3, 1) := by decide +kernel
theorem dL_law_255 : decode cL_law 255 = .ok (.iconst 2, 1) := by decide +kernel
theorem dL_law_256 : decode cL_law 256 = .ok (.iadd, 1) := by decide +kernel
theorem dL_law_257 : decode cL_law 257 = .ok (.iaload, 1) := by decide +kernel
theorem dL_law_258 : decode cL_law 258 = .ok (.invokevirtual 30, 3) := by decide +kernel
theorem dL_law_261 : decode cL_law 261 = .ok (.if_icmp .eq 475, 3) := by decide +kernel
theorem dL_law_264 : decode cL_law 264 = .ok (.iconst 0, 1) := by decide +kernel
theorem dL_law_265 : decode cL_law 265 = .ok (.ireturn, 1) := by decide +kernel
theorem dL_law_266 : decode cL_law 266 = .ok (.aload_n 1, 1) := by decide +kernel
theorem dL_law_267 : decode cL_law 267 = .ok (.aload_n 0, 1) := by decide +kernel
theorem dL_law_268 : decode cL_law 268 = .ok (.iload_n 3, 1) := by decide +kernel
theorem dL_law_269 : decode cL_law 269 = .ok (.iconst 1, 1) := by decide +kernel
theorem dL_law_270 : decode cL_law 270 = .ok (.iadd, 1) := by decide +kernel
theorem dL_law_271 : decode cL_law 271 = .ok (.iaload, 1) := by decide +kernel
theorem dL_law_272 : decode cL_law 272 = .ok (.aload_n 0, 1) := by decide +kernel
theorem dL_law_273 : decode cL_law 273 = .ok (.iload_n 3, 1) := by decide +kernel
theorem dL_law_274 : decode cL_law 274 = .ok (.iconst 2, 1) := by decide +kernel
theorem dL_law_275 : decode cL_law 275 = .ok (.iadd, 1) := by decide +kernel
theorem dL_law_276 : decode cL_law 276 = .ok (.iaload, 1) := by decide +kernel
theorem dL_law_277 : decode cL_law 277 = .ok (.invokevirtual 31, 3) := by decide +kernel
theorem dL_law_280 : decode cL_law 280 = .ok (.aload_n 2, 1) := by decide +kernel
theorem dL_law_281 : decode cL_law 281 = .ok (.aload_n 0, 1) := by decide +kernel
theorem dL_law_282 : decode cL_law 282 = .ok (.iload_n 3, 1) := by decide +kernel
theorem dL_law_283 : decode cL_law 283 = .ok (.iconst 1, 1) := by decide +kernel
theorem dL_law_284 : decode cL_law 284 = .ok (.iadd, 1) := by decide +kernel
theorem dL_law_285 : decode cL_law 285 = .ok (.iaload, 1) := by decide +kernel
theorem dL_law_286 : decode cL_law 286 = .ok (.aload_n 0, 1) := by decide +kernel
theorem dL_law_287 : decode cL_law 287 = .ok (.iload_n 3, 1) := by decide +kernel
theorem dL_law_288 : decode cL_law 288 = .ok (.iconst 2, 1) := by decide +kernel
theorem dL_law_289 : decode cL_law 289 = .ok (.iadd, 1) := by decide +kernel
theorem dL_law_290 : decode cL_law 290 = .ok (.iaload, 1) := by decide +kernel
theorem dL_law_291 : decode cL_law 291 = .ok (.invokevirtual 34, 3) := by decide +kernel
theorem dL_law_294 : decode cL_law 294 = .ok (.if_icmp .eq 442, 3) := by decide +kernel
theorem dL_law_297 : decode cL_law 297 = .ok (.iconst 0, 1) := by decide +kernel
theorem dL_law_298 : decode cL_law 298 = .ok (.ireturn, 1) := by decide +kernel
theorem dL_law_299 : decode cL_law 299 = .ok (.aload_n 1, 1) := by decide +kernel
theorem dL_law_300 : decode cL_law 300 = .ok (.aload_n 0, 1) := by decide +kernel
theorem dL_law_301 : decode cL_law 301 = .ok (.iload_n 3, 1) := by decide +kernel
theorem dL_law_302 : decode cL_law 302 = .ok (.iconst 1, 1) := by decide +kernel
theorem dL_law_303 : decode cL_law 303 = .ok (.iadd, 1) := by decide +kernel
theorem dL_law_304 : decode cL_law 304 = .ok (.iaload, 1) := by decide +kernel
theorem dL_law_305 : decode cL_law 305 = .ok (.invokevirtual 35, 3) := by decide +kernel
theorem dL_law_308 : decode cL_law 308 = .ok (.aload_n 2, 1) := by decide +kernel
theorem dL_law_309 : decode cL_law 309 = .ok (.aload_n 0, 1) := by decide +kernel
theorem dL_law_310 : decode cL_law 310 = .ok (.iload_n 3, 1) := by decide +kernel
theorem dL_law_311 : decode cL_law 311 = .ok (.iconst 1, 1) := by decide +kernel
theorem dL_law_312 : decode cL_law 312 = .ok (.iadd, 1) := by decide +kernel
theorem dL_law_313 : decode cL_law 313 = .ok (.iaload, 1) := by decide +kernel
theorem dL_law_314 : decode cL_law 314 = .ok (.invokevirtual 38, 3) := by decide +kernel
theorem dL_law_317 : decode cL_law 317 = .ok (.if_icmp .eq 419, 3) := by decide +kernel
theorem dL_law_320 : decode cL_law 320 = .ok (.iconst 0, 1) := by decide +kernel
theorem dL_law_321 : decode cL_law 321 = .ok (.ireturn, 1) := by decide +kernel
theorem dL_law_322 : decode cL_law 322 = .ok (.aload_n 1, 1) := by decide +kernel
theorem dL_law_323 : decode cL_law 323 = .ok (.aload_n 0, 1) := by decide +kernel
theorem dL_law_324 : decode cL_law 324 = .ok (.iload_n 3, 1) := by decide +kernel
theorem dL_law_325 : decode cL_law 325 = .ok (.iconst 1, 1) := by decide +kernel
theorem dL_law_326 : decode cL_law 326 = .ok (.iadd, 1) := by decide +kernel
theorem dL_law_327 : decode cL_law 327 = .ok (.iaload, 1) := by decide +kernel
theorem dL_law_328 : decode cL_law 328 = .ok (.i2l, 1) := by decide +kernel
theorem dL_law_329 : decode cL_law 329 = .ok (.bipush 32, 2) := by decide +kernel
theorem dL_law_331 : decode cL_law 331 = .ok (.lshl, 1) := by decide +kernel
theorem dL_law_332 : decode cL_law 332 = .ok (.aload_n 0, 1) := by decide +kernel
theorem dL_law_333 : decode cL_law 333 = .ok (.iload_n 3, 1) := by decide +kernel
theorem dL_law_334 : decode cL_law 334 = .ok (.iconst 2, 1) := by decide +kernel
theorem dL_law_335 : decode cL_law 335 = .ok (.iadd, 1) := by decide +kernel
theorem dL_law_336 : decode cL_law 336 = .ok (.iaload, 1) := by decide +kernel
theorem dL_law_337 : decode cL_law 337 = .ok (.i2l, 1) := by decide +kernel
theorem dL_law_338 : decode cL_law 338 = .ok (.ldc2_w 39, 3) := by decide +kernel
theorem dL_law_341 : decode cL_law 341 = .ok (.land, 1) := by decide +kernel
theorem dL_law_342 : decode cL_law 342 = .ok (.lor, 1) := by decide +kernel
theorem dL_law_343 : decode cL_law 343 = .ok (.invokevirtual 41, 3) := by decide +kernel
theorem dL_law_346 : decode cL_law 346 = .ok (.aload_n 2, 1) := by decide +kernel
theorem dL_law_347 : decode cL_law 347 = .ok (.aload_n 0, 1) := by decide +kernel
theorem dL_law_348 : decode cL_law 348 = .ok (.iload_n 3, 1) := by decide +kernel
theorem dL_law_349 : decode cL_law 349 = .ok (.iconst 1, 1) := by decide +kernel
theorem dL_law_350 : decode cL_law 350 = .ok (.iadd, 1) := by decide +kernel
theorem dL_law_351 : decode cL_law 351 = .ok (.iaload, 1) := by decide +kernel
theorem dL_law_352 : decode cL_law 352 = .ok (.i2l, 1) := by decide +kernel
theorem dL_law_353 : decode cL_law 353 = .ok (.bipush 32, 2) := by decide +kernel
theorem dL_law_355 : decode cL_law 355 = .ok (.lshl, 1) := by decide +kernel
theorem dL_law_356 : decode cL_law 356 = .ok (.aload_n 0, 1) := by decide +kernel
theorem dL_law_357 : decode cL_law 357 = .ok (.iload_n 3, 1) := by decide +kernel
theorem dL_law_358 : decode cL_law 358 = .ok (.iconst 2, 1) := by decide +kernel
theorem dL_law_359 : decode cL_law 359 = .ok (.iadd, 1) := by decide +kernel
theorem dL_law_360 : decode cL_law 360 = .ok (.iaload, 1) := by decide +kernel
theorem dL_law_361 : decode cL_law 361 = .ok (.i2l, 1) := by decide +kernel
theorem dL_law_362 : decode cL_law 362 = .ok (.ldc2_w 39, 3) := by decide +kernel
theorem dL_law_365 : decode cL_law 365 = .ok (.land, 1) := by decide +kernel
theorem dL_law_366 : decode cL_law 366 = .ok (.lor, 1) := by decide +kernel
theorem dL_law_367 : decode cL_law 367 = .ok (.invokevirtual 45, 3) := by decide +kernel
theorem dL_law_370 : decode cL_law 370 = .ok (.if_icmp .eq 366, 3) := by decide +kernel
theorem dL_law_373 : decode cL_law 373 = .ok (.iconst 0, 1) := by decide +kernel
theorem dL_law_374 : decode cL_law 374 = .ok (.ireturn, 1) := by decide +kernel
theorem dL_law_375 : decode cL_law 375 = .ok (.aload_n 1, 1) := by decide +kernel
theorem dL_law_376 : decode cL_law 376 = .ok (.invokevirtual 46, 3) := by decide +kernel
theorem dL_law_379 : decode cL_law 379 = .ok (.aload_n 2, 1) := by decide +kernel
theorem dL_law_380 : decode cL_law 380 = .ok (.invokevirtual 50, 3) := by decide +kernel
theorem dL_law_383 : decode cL_law 383 = .ok (.if_icmp .eq 353, 3) := by decide +kernel
theorem dL_law_386 : decode cL_law 386 = .ok (.iconst 0, 1) := by decide +kernel
theorem dL_law_387 : decode cL_law 387 = .ok (.ireturn, 1) := by decide +kernel
theorem dL_law_388 : decode cL_law 388 = .ok (.aload_n 1, 1) := by decide +kernel
theorem dL_law_389 : decode cL_law 389 = .ok (.invokevirtual 51, 3) := by decide +kernel
theorem dL_law_392 : decode cL_law 392 = .ok (.aload_n 2, 1) := by decide +kernel
theorem dL_law_393 : decode cL_law 393 = .ok (.invokevirtual 54, 3) := by decide +kernel
theorem dL_law_396 : decode cL_law 396 = .ok (.if_icmp .eq 340, 3) := by decide +kernel
theorem dL_law_399 : decode cL_law 399 = .ok (.iconst 0, 1) := by decide +kernel
theorem dL_law_400 : decode cL_law 400 = .ok (.ireturn, 1) := by decide +kernel
theorem dL_law_401 : decode cL_law 401 = .ok (.aload_n 1, 1) := by decide +kernel
theorem dL_law_402 : decode cL_law 402 = .ok (.invokevirtual 55, 3) := by decide +kernel
theorem dL_law_405 : decode cL_law 405 = .ok (.aload_n 2, 1) := by decide +kernel
theorem dL_law_406 : decode cL_law 406 = .ok (.invokevirtual 58, 3) := by decide +kernel
theorem dL_law_409 : decode cL_law 409 = .ok (.if_icmp .eq 327, 3) := by decide +kernel
theorem dL_law_412 : decode cL_law 412 = .ok (.iconst 0, 1) := by decide +kernel
theorem dL_law_413 : decode cL_law 413 = .ok (.ireturn, 1) := by decide +kernel
theorem dL_law_414 : decode cL_law 414 = .ok (.aload_n 1, 1) := by decide +kernel
theorem dL_law_415 : decode cL_law 415 = .ok (.aload_n 0, 1) := by decide +kernel
theorem dL_law_416 : decode cL_law 416 = .ok (.iload_n 3, 1) := by decide +kernel
theorem dL_law_417 : decode cL_law 417 = .ok (.iconst 1, 1) := by decide +kernel
theorem dL_law_418 : decode cL_law 418 = .ok (.iadd, 1) := by decide +kernel
theorem dL_law_419 : decode cL_law 419 = .ok (.iaload, 1) := by decide +kernel
theorem dL_law_420 : decode cL_law 420 = .ok (.aload_n 0, 1) := by decide +kernel
theorem dL_law_421 : decode cL_law 421 = .ok (.iload_n 3, 1) := by decide +kernel
theorem dL_law_422 : decode cL_law 422 = .ok (.iconst 2, 1) := by decide +kernel
theorem dL_law_423 : decode cL_law 423 = .ok (.iadd, 1) := by decide +kernel
theorem dL_law_424 : decode cL_law 424 = .ok (.iaload, 1) := by decide +kernel
theorem dL_law_425 : decode cL_law 425 = .ok (.invokevirtual 59, 3) := by decide +kernel
theorem dL_law_428 : decode cL_law 428 = .ok (.aload_n 2, 1) := by decide +kernel
theorem dL_law_429 : decode cL_law 429 = .ok (.aload_n 0, 1) := by decide +kernel
theorem dL_law_430 : decode cL_law 430 = .ok (.iload_n 3, 1) := by decide +kernel
theorem dL_law_431 : decode cL_law 431 = .ok (.iconst 1, 1) := by decide +kernel
theorem dL_law_432 : decode cL_law 432 = .ok (.iadd, 1) := by decide +kernel
theorem dL_law_433 : decode cL_law 433 = .ok (.iaload, 1) := by decide +kernel
theorem dL_law_434 : decode cL_law 434 = .ok (.aload_n 0, 1) := by decide +kernel
theorem dL_law_435 : decode cL_law 435 = .ok (.iload_n 3, 1) := by decide +kernel
theorem dL_law_436 : decode cL_law 436 = .ok (.iconst 2, 1) := by decide +kernel
theorem dL_law_437 : decode cL_law 437 = .ok (.iadd, 1) := by decide +kernel
theorem dL_law_438 : decode cL_law 438 = .ok (.iaload, 1) := by decide +kernel
theorem dL_law_439 : decode cL_law 439 = .ok (.invokevirtual 62, 3) := by decide +kernel
theorem dL_law_442 : decode cL_law 442 = .ok (.if_icmp .eq 294, 3) := by decide +kernel
theorem dL_law_445 : decode cL_law 445 = .ok (.iconst 0, 1) := by decide +kernel
theorem dL_law_446 : decode cL_law 446 = .ok (.ireturn, 1) := by decide +kernel
theorem dL_law_447 : decode cL_law 447 = .ok (.aload_n 1, 1) := by decide +kernel
theorem dL_law_448 : decode cL_law 448 = .ok (.aload_n 0, 1) := by decide +kernel
theorem dL_law_449 : decode cL_law 449 = .ok (.iload_n 3, 1) := by decide +kernel
theorem dL_law_450 : decode cL_law 450 = .ok (.iconst 1, 1) := by decide +kernel
theorem dL_law_451 : decode cL_law 451 = .ok (.iadd, 1) := by decide +kernel
theorem dL_law_452 : decode cL_law 452 = .ok (.iaload, 1) := by decide +kernel
theorem dL_law_453 : decode cL_law 453 = .ok (.aload_n 0, 1) := by decide +kernel
theorem dL_law_454 : decode cL_law 454 = .ok (.iload_n 3, 1) := by decide +kernel
theorem dL_law_455 : decode cL_law 455 = .ok (.iconst 2, 1) := by decide +kernel
theorem dL_law_456 : decode cL_law 456 = .ok (.iadd, 1) := by decide +kernel
theorem dL_law_457 : decode cL_law 457 = .ok (.iaload, 1) := by decide +kernel
theorem dL_law_458 : decode cL_law 458 = .ok (.invokevirtual 63, 3) := by decide +kernel
theorem dL_law_461 : decode cL_law 461 = .ok (.aload_n 2, 1) := by decide +kernel
theorem dL_law_462 : decode cL_law 462 = .ok (.aload_n 0, 1) := by decide +kernel
theorem dL_law_463 : decode cL_law 463 = .ok (.iload_n 3, 1) := by decide +kernel
theorem dL_law_464 : decode cL_law 464 = .ok (.iconst 1, 1) := by decide +kernel
theorem dL_law_465 : decode cL_law 465 = .ok (.iadd, 1) := by decide +kernel
theorem dL_law_466 : decode cL_law 466 = .ok (.iaload, 1) := by decide +kernel
theorem dL_law_467 : decode cL_law 467 = .ok (.aload_n 0, 1) := by decide +kernel
theorem dL_law_468 : decode cL_law 468 = .ok (.iload_n 3, 1) := by decide +kernel
theorem dL_law_469 : decode cL_law 469 = .ok (.iconst 2, 1) := by decide +kernel
theorem dL_law_470 : decode cL_law 470 = .ok (.iadd, 1) := by decide +kernel
theorem dL_law_471 : decode cL_law 471 = .ok (.iaload, 1) := by decide +kernel
theorem dL_law_472 : decode cL_law 472 = .ok (.invokevirtual 66, 3) := by decide +kernel
theorem dL_law_475 : decode cL_law 475 = .ok (.if_icmp .eq 261, 3) := by decide +kernel
theorem dL_law_478 : decode cL_law 478 = .ok (.iconst 0, 1) := by decide +kernel
theorem dL_law_479 : decode cL_law 479 = .ok (.ireturn, 1) := by decide +kernel
theorem dL_law_480 : decode cL_law 480 = .ok (.aload_n 1, 1) := by decide +kernel
theorem dL_law_481 : decode cL_law 481 = .ok (.aload_n 0, 1) := by decide +kernel
theorem dL_law_482 : decode cL_law 482 = .ok (.iload_n 3, 1) := by decide +kernel
theorem dL_law_483 : decode cL_law 483 = .ok (.iconst 1, 1) := by decide +kernel
theorem dL_law_484 : decode cL_law 484 = .ok (.iadd, 1) := by decide +kernel
theorem dL_law_485 : decode cL_law 485 = .ok (.iaload, 1) := by decide +kernel
theorem dL_law_486 : decode cL_law 486 = .ok (.invokevirtual 67, 3) := by decide +kernel
theorem dL_law_489 : decode cL_law 489 = .ok (.aload_n 2, 1) := by decide +kernel
theorem dL_law_490 : decode cL_law 490 = .ok (.aload_n 0, 1) := by decide +kernel
theorem dL_law_491 : decode cL_law 491 = .ok (.iload_n 3, 1) := by decide +kernel
theorem dL_law_492 : decode cL_law 492 = .ok (.iconst 1, 1) := by decide +kernel
theorem dL_law_493 : decode cL_law 493 = .ok (.iadd, 1) := by decide +kernel
theorem dL_law_494 : decode cL_law 494 = .ok (.iaload, 1) := by decide +kernel
theorem dL_law_495 : decode cL_law 495 = .ok (.invokevirtual 70, 3) := by decide +kernel
theorem dL_law_498 : decode cL_law 498 = .ok (.if_icmp .eq 238, 3) := by decide +kernel
theorem dL_law_501 : decode cL_law 501 = .ok (.iconst 0, 1) := by decide +kernel
theorem dL_law_502 : decode cL_law 502 = .ok (.ireturn, 1) := by decide +kernel
theorem dL_law_503 : decode cL_law 503 = .ok (.aload_n 1, 1) := by decide +kernel
theorem dL_law_504 : decode cL_law 504 = .ok (.aload_n 0, 1) := by decide +kernel
theorem dL_law_505 : decode cL_law 505 = .ok (.iload_n 3, 1) := by decide +kernel
theorem dL_law_506 : decode cL_law 506 = .ok (.iconst 1, 1) := by decide +kernel
theorem dL_law_507 : decode cL_law 507 = .ok (.iadd, 1) := by decide +kernel
theorem dL_law_508 : decode cL_law 508 = .ok (.iaload, 1) := by decide +kernel
theorem dL_law_509 : decode cL_law 509 = .ok (.invokevirtual 71, 3) := by decide +kernel
theorem dL_law_512 : decode cL_law 512 = .ok (.aload_n 2, 1) := by decide +kernel
theorem dL_law_513 : decode cL_law 513 = .ok (.aload_n 0, 1) := by decide +kernel
theorem dL_law_514 : decode cL_law 514 = .ok (.iload_n 3, 1) := by decide +kernel
theorem dL_law_515 : decode cL_law 515 = .ok (.iconst 1, 1) := by decide +kernel
theorem dL_law_516 : decode cL_law 516 = .ok (.iadd, 1) := by decide +kernel
theorem dL_law_517 : decode cL_law 517 = .ok (.iaload, 1) := by decide +kernel
theorem dL_law_518 : decode cL_law 518 = .ok (.invokevirtual 74, 3) := by decide +kernel
theorem dL_law_521 : decode cL_law 521 = .ok (.if_icmp .eq 215, 3) := by decide +kernel
theorem dL_law_524 : decode cL_law 524 = .ok (.iconst 0, 1) := by decide +kernel
theorem dL_law_525 : decode cL_law 525 = .ok (.ireturn, 1) := by decide +kernel
theorem dL_law_526 : decode cL_law 526 = .ok (.aload_n 1, 1) := by decide +kernel
theorem dL_law_527 : decode cL_law 527 = .ok (.aload_n 0, 1) := by decide +kernel
theorem dL_law_528 : decode cL_law 528 = .ok (.iload_n 3, 1) := by decide +kernel
theorem dL_law_529 : decode cL_law 529 = .ok (.iconst 1, 1) := by decide +kernel
theorem dL_law_530 : decode cL_law 530 = .ok (.iadd, 1) := by decide +kernel
theorem dL_law_531 : decode cL_law 531 = .ok (.iaload, 1) := by decide +kernel
theorem dL_law_532 : decode cL_law 532 = .ok (.invokevirtual 75, 3) := by decide +kernel
theorem dL_law_535 : decode cL_law 535 = .ok (.aload_n 2, 1) := by decide +kernel
theorem dL_law_536 : decode cL_law 536 = .ok (.aload_n 0, 1) := by decide +kernel
theorem dL_law_537 : decode cL_law 537 = .ok (.iload_n 3, 1) := by decide +kernel
theorem dL_law_538 : decode cL_law 538 = .ok (.iconst 1, 1) := by decide +kernel
theorem dL_law_539 : decode cL_law 539 = .ok (.iadd, 1) := by decide +kernel
theorem dL_law_540 : decode cL_law 540 = .ok (.iaload, 1) := by decide +kernel
theorem dL_law_541 : decode cL_law 541 = .ok (.invokevirtual 78, 3) := by decide +kernel
theorem dL_law_544 : decode cL_law 544 = .ok (.if_icmp .eq 192, 3) := by decide +kernel
theorem dL_law_547 : decode cL_law 547 = .ok (.iconst 0, 1) := by decide +kernel
theorem dL_law_548 : decode cL_law 548 = .ok (.ireturn, 1) := by decide +kernel
theorem dL_law_549 : decode cL_law 549 = .ok (.aload_n 1, 1) := by decide +kernel
theorem dL_law_550 : decode cL_law 550 = .ok (.aload_n 0, 1) := by decide +kernel
theorem dL_law_551 : decode cL_law 551 = .ok (.iload_n 3, 1) := by decide +kernel
theorem dL_law_552 : decode cL_law 552 = .ok (.iconst 1, 1) := by decide +kernel
theorem dL_law_553 : decode cL_law 553 = .ok (.iadd, 1) := by decide +kernel
theorem dL_law_554 : decode cL_law 554 = .ok (.iaload, 1) := by decide +kernel
theorem dL_law_555 : decode cL_law 555 = .ok (.invokevirtual 79, 3) := by decide +kernel
theorem dL_law_558 : decode cL_law 558 = .ok (.aload_n 2, 1) := by decide +kernel
theorem dL_law_559 : decode cL_law 559 = .ok (.aload_n 0, 1) := by decide +kernel
theorem dL_law_560 : decode cL_law 560 = .ok (.iload_n 3, 1) := by decide +kernel
theorem dL_law_561 : decode cL_law 561 = .ok (.iconst 1, 1) := by decide +kernel
theorem dL_law_562 : decode cL_law 562 = .ok (.iadd, 1) := by decide +kernel
theorem dL_law_563 : decode cL_law 563 = .ok (.iaload, 1) := by decide +kernel
theorem dL_law_564 : decode cL_law 564 = .ok (.invokevirtual 82, 3) := by decide +kernel
theorem dL_law_567 : decode cL_law 567 = .ok (.if_icmp .eq 169, 3) := by decide +kernel
theorem dL_law_570 : decode cL_law 570 = .ok (.iconst 0, 1) := by decide +kernel
theorem dL_law_571 : decode cL_law 571 = .ok (.ireturn, 1) := by decide +kernel
theorem dL_law_572 : decode cL_law 572 = .ok (.aload_n 1, 1) := by decide +kernel
theorem dL_law_573 : decode cL_law 573 = .ok (.aload_n 0, 1) := by decide +kernel
theorem dL_law_574 : decode cL_law 574 = .ok (.iload_n 3, 1) := by decide +kernel
theorem dL_law_575 : decode cL_law 575 = .ok (.iconst 1, 1) := by decide +kernel
theorem dL_law_576 : decode cL_law 576 = .ok (.iadd, 1) := by decide +kernel
theorem dL_law_577 : decode cL_law 577 = .ok (.iaload, 1) := by decide +kernel
theorem dL_law_578 : decode cL_law 578 = .ok (.invokevirtual 83, 3) := by decide +kernel
theorem dL_law_581 : decode cL_law 581 = .ok (.aload_n 2, 1) := by decide +kernel
theorem dL_law_582 : decode cL_law 582 = .ok (.aload_n 0, 1) := by decide +kernel
theorem dL_law_583 : decode cL_law 583 = .ok (.iload_n 3, 1) := by decide +kernel
theorem dL_law_584 : decode cL_law 584 = .ok (.iconst 1, 1) := by decide +kernel
theorem dL_law_585 : decode cL_law 585 = .ok (.iadd, 1) := by decide +kernel
theorem dL_law_586 : decode cL_law 586 = .ok (.iaload, 1) := by decide +kernel
theorem dL_law_587 : decode cL_law 587 = .ok (.invokevirtual 86, 3) := by decide +kernel
theorem dL_law_590 : decode cL_law 590 = .ok (.if_icmp .eq 146, 3) := by decide +kernel
theorem dL_law_593 : decode cL_law 593 = .ok (.iconst 0, 1) := by decide +kernel
theorem dL_law_594 : decode cL_law 594 = .ok (.ireturn, 1) := by decide +kernel
theorem dL_law_595 : decode cL_law 595 = .ok (.aload_n 1, 1) := by decide +kernel
theorem dL_law_596 : decode cL_law 596 = .ok (.invokevirtual 87, 3) := by decide +kernel
theorem dL_law_599 : decode cL_law 599 = .ok (.aload_n 2, 1) := by decide +kernel
theorem dL_law_600 : decode cL_law 600 = .ok (.invokevirtual 90, 3) := by decide +kernel
theorem dL_law_603 : decode cL_law 603 = .ok (.if_icmp .eq 133, 3) := by decide +kernel
theorem dL_law_606 : decode cL_law 606 = .ok (.iconst 0, 1) := by decide +kernel
theorem dL_law_607 : decode cL_law 607 = .ok (.ireturn, 1) := by decide +kernel
theorem dL_law_608 : decode cL_law 608 = .ok (.aload_n 1, 1) := by decide +kernel
theorem dL_law_609 : decode cL_law 609 = .ok (.aload_n 0, 1) := by decide +kernel
theorem dL_law_610 : decode cL_law 610 = .ok (.iload_n 3, 1) := by decide +kernel
theorem dL_law_611 : decode cL_law 611 = .ok (.iconst 1, 1) := by decide +kernel
theorem dL_law_612 : decode cL_law 612 = .ok (.iadd, 1) := by decide +kernel
theorem dL_law_613 : decode cL_law 613 = .ok (.iaload, 1) := by decide +kernel
theorem dL_law_614 : decode cL_law 614 = .ok (.invokevirtual 91, 3) := by decide +kernel
theorem dL_law_617 : decode cL_law 617 = .ok (.aload_n 2, 1) := by decide +kernel
theorem dL_law_618 : decode cL_law 618 = .ok (.aload_n 0, 1) := by decide +kernel
theorem dL_law_619 : decode cL_law 619 = .ok (.iload_n 3, 1) := by decide +kernel
theorem dL_law_620 : decode cL_law 620 = .ok (.iconst 1, 1) := by decide +kernel
theorem dL_law_621 : decode cL_law 621 = .ok (.iadd, 1) := by decide +kernel
theorem dL_law_622 : decode cL_law 622 = .ok (.iaload, 1) := by decide +kernel
theorem dL_law_623 : decode cL_law 623 = .ok (.invokevirtual 94, 3) := by decide +kernel
theorem dL_law_626 : decode cL_law 626 = .ok (.if_icmp .eq 110, 3) := by decide +kernel
theorem dL_law_629 : decode cL_law 629 = .ok (.iconst 0, 1) := by decide +kernel
theorem dL_law_630 : decode cL_law 630 = .ok (.ireturn, 1) := by decide +kernel
theorem dL_law_631 : decode cL_law 631 = .ok (.aload_n 1, 1) := by decide +kernel
theorem dL_law_632 : decode cL_law 632 = .ok (.aload_n 0, 1) := by decide +kernel
theorem dL_law_633 : decode cL_law 633 = .ok (.iload_n 3, 1) := by decide +kernel
theorem dL_law_634 : decode cL_law 634 = .ok (.iconst 1, 1) := by decide +kernel
theorem dL_law_635 : decode cL_law 635 = .ok (.iadd, 1) := by decide +kernel
theorem dL_law_636 : decode cL_law 636 = .ok (.iaload, 1) := by decide +kernel
theorem dL_law_637 : decode cL_law 637 = .ok (.invokevirtual 95, 3) := by decide +kernel
theorem dL_law_640 : decode cL_law 640 = .ok (.aload_n 2, 1) := by decide +kernel
theorem dL_law_641 : decode cL_law 641 = .ok (.aload_n 0, 1) := by decide +kernel
theorem dL_law_642 : decode cL_law 642 = .ok (.iload_n 3, 1) := by decide +kernel
theorem dL_law_643 : decode cL_law 643 = .ok (.iconst 1, 1) := by decide +kernel
theorem dL_law_644 : decode cL_law 644 = .ok (.iadd, 1) := by decide +kernel
theorem dL_law_645 : decode cL_law 645 = .ok (.iaload, 1) := by decide +kernel
theorem dL_law_646 : decode cL_law 646 = .ok (.invokevirtual 98, 3) := by decide +kernel
theorem dL_law_649 : decode cL_law 649 = .ok (.if_icmp .eq 87, 3) := by decide +kernel
theorem dL_law_652 : decode cL_law 652 = .ok (.iconst 0, 1) := by decide +kernel
theorem dL_law_653 : decode cL_law 653 = .ok (.ireturn, 1) := by decide +kernel
theorem dL_law_654 : decode cL_law 654 = .ok (.aload_n 1, 1) := by decide +kernel
theorem dL_law_655 : decode cL_law 655 = .ok (.aload_n 0, 1) := by decide +kernel
theorem dL_law_656 : decode cL_law 656 = .ok (.iload_n 3, 1) := by decide +kernel
theorem dL_law_657 : decode cL_law 657 = .ok (.iconst 1, 1) := by decide +kernel
theorem dL_law_658 : decode cL_law 658 = .ok (.iadd, 1) := by decide +kernel
theorem dL_law_659 : decode cL_law 659 = .ok (.iaload, 1) := by decide +kernel
theorem dL_law_660 : decode cL_law 660 = .ok (.invokevirtual 99, 3) := by decide +kernel
theorem dL_law_663 : decode cL_law 663 = .ok (.aload_n 2, 1) := by decide +kernel
theorem dL_law_664 : decode cL_law 664 = .ok (.aload_n 0, 1) := by decide +kernel
theorem dL_law_665 : decode cL_law 665 = .ok (.iload_n 3, 1) := by decide +kernel
theorem dL_law_666 : decode cL_law 666 = .ok (.iconst 1, 1) := by decide +kernel
theorem dL_law_667 : decode cL_law 667 = .ok (.iadd, 1) := by decide +kernel
theorem dL_law_668 : decode cL_law 668 = .ok (.iaload, 1) := by decide +kernel
theorem dL_law_669 : decode cL_law 669 = .ok (.invokevirtual 102, 3) := by decide +kernel
theorem dL_law_672 : decode cL_law 672 = .ok (.if_icmp .eq 64, 3) := by decide +kernel
theorem dL_law_675 : decode cL_law 675 = .ok (.iconst 0, 1) := by decide +kernel
theorem dL_law_676 : decode cL_law 676 = .ok (.ireturn, 1) := by decide +kernel
theorem dL_law_677 : decode cL_law 677 = .ok (.aload_n 1, 1) := by decide +kernel
theorem dL_law_678 : decode cL_law 678 = .ok (.invokevirtual 103, 3) := by decide +kernel
theorem dL_law_681 : decode cL_law 681 = .ok (.aload_n 2, 1) := by decide +kernel
theorem dL_law_682 : decode cL_law 682 = .ok (.invokevirtual 106, 3) := by decide +kernel
theorem dL_law_685 : decode cL_law 685 = .ok (.if_icmp .eq 51, 3) := by decide +kernel
theorem dL_law_688 : decode cL_law 688 = .ok (.iconst 0, 1) := by decide +kernel
theorem dL_law_689 : decode cL_law 689 = .ok (.ireturn, 1) := by decide +kernel
theorem dL_law_690 : decode cL_law 690 = .ok (.aload_n 1, 1) := by decide +kernel
theorem dL_law_691 : decode cL_law 691 = .ok (.aload_n 0, 1) := by decide +kernel
theorem dL_law_692 : decode cL_law 692 = .ok (.iload_n 3, 1) := by decide +kernel
theorem dL_law_693 : decode cL_law 693 = .ok (.iconst 1, 1) := by decide +kernel
theorem dL_law_694 : decode cL_law 694 = .ok (.iadd, 1) := by decide +kernel
theorem dL_law_695 : decode cL_law 695 = .ok (.iaload, 1) := by decide +kernel
theorem dL_law_696 : decode cL_law 696 = .ok (.invokevirtual 107, 3) := by decide +kernel
theorem dL_law_699 : decode cL_law 699 = .ok (.aload_n 2, 1) := by decide +kernel
theorem dL_law_700 : decode cL_law 700 = .ok (.aload_n 0, 1) := by decide +kernel
theorem dL_law_701 : decode cL_law 701 = .ok (.iload_n 3, 1) := by decide +kernel
theorem dL_law_702 : decode cL_law 702 = .ok (.iconst 1, 1) := by decide +kernel
theorem dL_law_703 : decode cL_law 703 = .ok (.iadd, 1) := by decide +kernel
theorem dL_law_704 : decode cL_law 704 = .ok (.iaload, 1) := by decide +kernel
theorem dL_law_705 : decode cL_law 705 = .ok (.invokevirtual 110, 3) := by decide +kernel
theorem dL_law_708 : decode cL_law 708 = .ok (.if_icmp .eq 28, 3) := by decide +kernel
theorem dL_law_711 : decode cL_law 711 = .ok (.iconst 0, 1) := by decide +kernel
theorem dL_law_712 : decode cL_law 712 = .ok (.ireturn, 1) := by decide +kernel
theorem dL_law_713 : decode cL_law 713 = .ok (.aload_n 1, 1) := by decide +kernel
theorem dL_law_714 : decode cL_law 714 = .ok (.aload_n 0, 1) := by decide +kernel
theorem dL_law_715 : decode cL_law 715 = .ok (.iload_n 3, 1) := by decide +kernel
theorem dL_law_716 : decode cL_law 716 = .ok (.iconst 1, 1) := by decide +kernel
theorem dL_law_717 : decode cL_law 717 = .ok (.iadd, 1) := by decide +kernel
theorem dL_law_718 : decode cL_law 718 = .ok (.iaload, 1) := by decide +kernel
theorem dL_law_719 : decode cL_law 719 = .ok (.invokevirtual 111, 3) := by decide +kernel
theorem dL_law_722 : decode cL_law 722 = .ok (.aload_n 2, 1) := by decide +kernel
theorem dL_law_723 : decode cL_law 723 = .ok (.aload_n 0, 1) := by decide +kernel
theorem dL_law_724 : decode cL_law 724 = .ok (.iload_n 3, 1) := by decide +kernel
theorem dL_law_725 : decode cL_law 725 = .ok (.iconst 1, 1) := by decide +kernel
theorem dL_law_726 : decode cL_law 726 = .ok (.iadd, 1) := by decide +kernel
theorem dL_law_727 : decode cL_law 727 = .ok (.iaload, 1) := by decide +kernel
theorem dL_law_728 : decode cL_law 728 = .ok (.invokevirtual 114, 3) := by decide +kernel
theorem dL_law_731 : decode cL_law 731 = .ok (.if_icmp .eq 5, 3) := by decide +kernel
theorem dL_law_734 : decode cL_law 734 = .ok (.iconst 0, 1) := by decide +kernel
theorem dL_law_735 : decode cL_law 735 = .ok (.ireturn, 1) := by decide +kernel
theorem dL_law_736 : decode cL_law 736 = .ok (.iinc 3 3, 3) := by decide +kernel
theorem dL_law_739 : decode cL_law 739 = .ok (.goto (-721), 3) := by decide +kernel
theorem dL_law_742 : decode cL_law 742 = .ok (.iconst 1, 1) := by decide +kernel
theorem dL_law_743 : decode cL_law 743 = .ok (.ireturn, 1) := by decide +kernel
abbrev vwCl : List vw_C := [(RX0, TX0, 2), (RX1, TX1, 2), (RX2, TX2, 8), (RX3, TX3, 6), (RX4, TX4, 10), (RX5, TX5, 2), (RX6, TX6, 5), (RX7, TX7, 9), (RX8, TX8, 7), (RX9, TX9, 16)]
