/-! ===== BEGIN words of one list among another's, by their places ===== -/
theorem goodIn_r {big : List Cond} (ws : List Cond) (ps : List Nat) (hp : ws = ps.filterMap (fun i => big[i]?)) (h : ws.all goodWord = true) : GoodIn big ws := by
  intro w hw
  have h1 := List.all_eq_true.mp h w hw
  rw [hp] at hw
  obtain ⟨i, -, hi⟩ := List.mem_filterMap.mp hw
  have hm : w ∈ big := by first | exact List.mem_of_getElem? hi | exact List.getElem?_mem hi
  exact ⟨hm, good_of_word h1⟩
theorem goodIn_app {big a b : List Cond} (ha : GoodIn big a) (hb : GoodIn big b) : GoodIn big (a ++ b) := fun w h => (List.mem_append.mp h).elim (ha w) (hb w)
theorem goodIn_ca {big a b : List Cond} {c : Cond} (ha : GoodIn big (c :: a)) (hb : GoodIn big b) : GoodIn big (c :: (a ++ b)) := fun w h => (List.mem_cons.mp h).elim (fun e => ha w (List.mem_cons.mpr (Or.inl e))) (fun h => (List.mem_append.mp h).elim (fun h => ha w (List.mem_cons.mpr (Or.inr h))) (hb w))
theorem goodIn_sub {big ws : List Cond} (hm : ∀ w ∈ ws, w ∈ big) (h : ws.all goodWord = true) : GoodIn big ws := fun w hw => ⟨hm w hw, good_of_word (List.all_eq_true.mp h w hw)⟩
/-! ===== END ===== -/

/-! ===== BEGIN printed: names, fields, word lists, decode rows ===== -/
def RX0 : String := "CoverShares$Greedy"
def TX0 : u_T := fun k => match k with
  | 0 => ("CoverShares$Greedy", "chosen", "I", false)
  | _ => ("CoverShares$Greedy", "last", "I", false)
def tyX0 : Nat → FieldType := fun k => match k with
  | 0 => .int
  | _ => .int
abbrev wsX00 : List Cond := u_ws RX0 TX0 2
theorem nmX0 : ∀ a, a < 2 → ∀ b, b < 2 → a ≠ b → (TX0 a).2.1 ≠ (TX0 b).2.1 := by decide +kernel
theorem tyX0_ok : ∀ k, k < 2 → parseFieldDescriptor (TX0 k).2.2.1 = some (tyX0 k) := by decide +kernel
abbrev cX0_init : ByteArray := prog_2_method_1_code
def yX0_init : MethodName := ⟨RX0, "<init>", "()V"⟩
abbrev cX0_choose : ByteArray := prog_2_method_2_code
def yX0_choose : MethodName := ⟨RX0, "choose", "(LCoverShares$State;)V"⟩
abbrev cX0_bestByRate : ByteArray := prog_2_method_3_code
def yX0_bestByRate : MethodName := ⟨RX0, "bestByRate", "(LCoverShares$State;I)I"⟩
def RX1 : String := "CoverShares$History"
def TX1 : u_T := fun k => match k with
  | 0 => ("CoverShares$History", "size", "I", false)
  | _ => ("CoverShares$History", "states", "[LCoverShares$State;", true)
def tyX1 : Nat → FieldType := fun k => match k with
  | 0 => .int
  | _ => .array (.object "CoverShares$State")
abbrev wsX10 : List Cond := u_ws RX1 TX1 2
theorem nmX1 : ∀ a, a < 2 → ∀ b, b < 2 → a ≠ b → (TX1 a).2.1 ≠ (TX1 b).2.1 := by decide +kernel
theorem tyX1_ok : ∀ k, k < 2 → parseFieldDescriptor (TX1 k).2.2.1 = some (tyX1 k) := by decide +kernel
abbrev cX1_init : ByteArray := prog_3_method_1_code
def yX1_init : MethodName := ⟨RX1, "<init>", "()V"⟩
abbrev cX1_record : ByteArray := prog_3_method_2_code
def yX1_record : MethodName := ⟨RX1, "record", "(LCoverShares$State;)V"⟩
abbrev cX1_forgetOldest : ByteArray := prog_3_method_3_code
def yX1_forgetOldest : MethodName := ⟨RX1, "forgetOldest", "()V"⟩
def RX2 : String := "CoverShares$Pad"
def TX2 : u_T := fun k => match k with
  | 0 => ("CoverShares$Pad", "length", "I", false)
  | 1 => ("CoverShares$Pad", "signs", "[C", true)
  | 2 => ("CoverShares$Pad", "sets", "I", false)
  | 3 => ("CoverShares$Pad", "things", "[I", true)
  | 4 => ("CoverShares$Pad", "prices", "[I", true)
  | 5 => ("CoverShares$Pad", "inNumber", "Z", false)
  | 6 => ("CoverShares$Pad", "letters", "I", false)
  | _ => ("CoverShares$Pad", "number", "I", false)
def tyX2 : Nat → FieldType := fun k => match k with
  | 0 => .int
  | 1 => .array .char
  | 2 => .int
  | 3 => .array .int
  | 4 => .array .int
  | 5 => .boolean
  | 6 => .int
  | _ => .int
abbrev wsX20 : List Cond := u_ws RX2 TX2 8
theorem nmX2 : ∀ a, a < 8 → ∀ b, b < 8 → a ≠ b → (TX2 a).2.1 ≠ (TX2 b).2.1 := by decide +kernel
theorem tyX2_ok : ∀ k, k < 8 → parseFieldDescriptor (TX2 k).2.2.1 = some (tyX2 k) := by decide +kernel
abbrev cX2_init : ByteArray := prog_4_method_1_code
def yX2_init : MethodName := ⟨RX2, "<init>", "()V"⟩
def RX3 : String := "CoverShares$Search"
def TX3 : u_T := fun k => match k with
  | 0 => ("CoverShares$Search", "walk", "LCoverShares$Walk;", true)
  | 1 => ("CoverShares$Search", "leastSets", "I", false)
  | 2 => ("CoverShares$Search", "leastPrice", "I", false)
  | 3 => ("CoverShares$Search", "dearestThing", "I", false)
  | 4 => ("CoverShares$Search", "priceWithoutDearest", "I", false)
  | _ => ("CoverShares$Search", "leastMissingOne", "[I", true)
def tyX3 : Nat → FieldType := fun k => match k with
  | 0 => .object "CoverShares$Walk"
  | 1 => .int
  | 2 => .int
  | 3 => .int
  | 4 => .int
  | _ => .array .int
abbrev wsX30 : List Cond := u_ws RX3 TX3 6
theorem nmX3 : ∀ a, a < 6 → ∀ b, b < 6 → a ≠ b → (TX3 a).2.1 ≠ (TX3 b).2.1 := by decide +kernel
theorem tyX3_ok : ∀ k, k < 6 → parseFieldDescriptor (TX3 k).2.2.1 = some (tyX3 k) := by decide +kernel
abbrev cX3_init : ByteArray := prog_5_method_1_code
def yX3_init : MethodName := ⟨RX3, "<init>", "()V"⟩
abbrev cX3_findLeast : ByteArray := prog_5_method_2_code
def yX3_findLeast : MethodName := ⟨RX3, "findLeast", "(LCoverShares$State;)V"⟩
abbrev cX3_countUpTo : ByteArray := prog_5_method_3_code
def yX3_countUpTo : MethodName := ⟨RX3, "countUpTo", "(LCoverShares$State;I)I"⟩
abbrev cX3_countTight : ByteArray := prog_5_method_4_code
def yX3_countTight : MethodName := ⟨RX3, "countTight", "(LCoverShares$State;)I"⟩
abbrev cX3_findDearest : ByteArray := prog_5_method_6_code
def yX3_findDearest : MethodName := ⟨RX3, "findDearest", "(LCoverShares$State;)V"⟩
abbrev cX3_findLeastMissingOne : ByteArray := prog_5_method_7_code
def yX3_findLeastMissingOne : MethodName := ⟨RX3, "findLeastMissingOne", "(LCoverShares$State;)V"⟩
abbrev cX3_noteMissingOne : ByteArray := prog_5_method_8_code
def yX3_noteMissingOne : MethodName := ⟨RX3, "noteMissingOne", "(II)V"⟩
def RX4 : String := "CoverShares$Shares"
def TX4 : u_T := fun k => match k with
  | 0 => ("CoverShares$Shares", "open", "I", false)
  | 1 => ("CoverShares$Shares", "inTight", "I", false)
  | 2 => ("CoverShares$Shares", "rounds", "I", false)
  | 3 => ("CoverShares$Shares", "tight", "I", false)
  | 4 => ("CoverShares$Shares", "tightCount", "I", false)
  | 5 => ("CoverShares$Shares", "dropped", "I", false)
  | 6 => ("CoverShares$Shares", "raised", "[I", true)
  | 7 => ("CoverShares$Shares", "fillings", "[I", true)
  | 8 => ("CoverShares$Shares", "places", "[I", true)
  | _ => ("CoverShares$Shares", "order", "[I", true)
def tyX4 : Nat → FieldType := fun k => match k with
  | 0 => .int
  | 1 => .int
  | 2 => .int
  | 3 => .int
  | 4 => .int
  | 5 => .int
  | 6 => .array .int
  | 7 => .array .int
  | 8 => .array .int
  | _ => .array .int
abbrev wsX40 : List Cond := u_ws RX4 TX4 10
theorem nmX4 : ∀ a, a < 10 → ∀ b, b < 10 → a ≠ b → (TX4 a).2.1 ≠ (TX4 b).2.1 := by decide +kernel
theorem tyX4_ok : ∀ k, k < 10 → parseFieldDescriptor (TX4 k).2.2.1 = some (tyX4 k) := by decide +kernel
abbrev cX4_init : ByteArray := prog_6_method_1_code
def yX4_init : MethodName := ⟨RX4, "<init>", "()V"⟩
abbrev cX4_raiseAll : ByteArray := prog_6_method_2_code
def yX4_raiseAll : MethodName := ⟨RX4, "raiseAll", "(LCoverShares$State;)V"⟩
abbrev cX4_begin : ByteArray := prog_6_method_3_code
def yX4_begin : MethodName := ⟨RX4, "begin", "(LCoverShares$State;)V"⟩
abbrev cX4_makeRound : ByteArray := prog_6_method_4_code
def yX4_makeRound : MethodName := ⟨RX4, "makeRound", "(LCoverShares$State;)V"⟩
abbrev cX4_fillSetsWith : ByteArray := prog_6_method_5_code
def yX4_fillSetsWith : MethodName := ⟨RX4, "fillSetsWith", "(ILCoverShares$State;)V"⟩
abbrev cX4_becomeTight : ByteArray := prog_6_method_6_code
def yX4_becomeTight : MethodName := ⟨RX4, "becomeTight", "(II)V"⟩
abbrev cX4_dropInReverse : ByteArray := prog_6_method_7_code
def yX4_dropInReverse : MethodName := ⟨RX4, "dropInReverse", "(LCoverShares$State;)V"⟩
abbrev cX4_sum : ByteArray := prog_6_method_8_code
def yX4_sum : MethodName := ⟨RX4, "sum", "()I"⟩
def RX5 : String := "CoverShares$Slots"
def TX5 : u_T := fun k => match k with
  | 0 => ("CoverShares$Slots", "states", "[LCoverShares$State;", true)
  | _ => ("CoverShares$Slots", "kept", "[Z", true)
def tyX5 : Nat → FieldType := fun k => match k with
  | 0 => .array (.object "CoverShares$State")
  | _ => .array .boolean
abbrev wsX50 : List Cond := u_ws RX5 TX5 2
theorem nmX5 : ∀ a, a < 2 → ∀ b, b < 2 → a ≠ b → (TX5 a).2.1 ≠ (TX5 b).2.1 := by decide +kernel
theorem tyX5_ok : ∀ k, k < 2 → parseFieldDescriptor (TX5 k).2.2.1 = some (tyX5 k) := by decide +kernel
abbrev cX5_init : ByteArray := prog_7_method_1_code
def yX5_init : MethodName := ⟨RX5, "<init>", "()V"⟩
def RX6 : String := "CoverShares$State"
def TX6 : u_T := fun k => match k with
  | 0 => ("CoverShares$State", "needed", "I", false)
  | 1 => ("CoverShares$State", "size", "I", false)
  | 2 => ("CoverShares$State", "things", "[I", true)
  | 3 => ("CoverShares$State", "prices", "[I", true)
  | _ => ("CoverShares$State", "marks", "[I", true)
def tyX6 : Nat → FieldType := fun k => match k with
  | 0 => .int
  | 1 => .int
  | 2 => .array .int
  | 3 => .array .int
  | _ => .array .int
abbrev wsX60 : List Cond := u_ws RX6 TX6 5
theorem nmX6 : ∀ a, a < 5 → ∀ b, b < 5 → a ≠ b → (TX6 a).2.1 ≠ (TX6 b).2.1 := by decide +kernel
theorem tyX6_ok : ∀ k, k < 5 → parseFieldDescriptor (TX6 k).2.2.1 = some (tyX6 k) := by decide +kernel
abbrev cX6_init : ByteArray := prog_8_method_1_code
def yX6_init : MethodName := ⟨RX6, "<init>", "()V"⟩
abbrev cX6_copyFrom : ByteArray := prog_8_method_2_code
def yX6_copyFrom : MethodName := ⟨RX6, "copyFrom", "(LCoverShares$State;)V"⟩
abbrev cX6_hasSet : ByteArray := prog_8_method_3_code
def yX6_hasSet : MethodName := ⟨RX6, "hasSet", "(I)Z"⟩
abbrev cX6_append : ByteArray := prog_8_method_4_code
def yX6_append : MethodName := ⟨RX6, "append", "(II)V"⟩
abbrev cX6_remove : ByteArray := prog_8_method_5_code
def yX6_remove : MethodName := ⟨RX6, "remove", "(I)V"⟩
abbrev cX6_marked : ByteArray := prog_8_method_6_code
def yX6_marked : MethodName := ⟨RX6, "marked", "(I)I"⟩
abbrev cX6_notBarred : ByteArray := prog_8_method_7_code
def yX6_notBarred : MethodName := ⟨RX6, "notBarred", "()I"⟩
abbrev cX6_setsWith : ByteArray := prog_8_method_8_code
def yX6_setsWith : MethodName := ⟨RX6, "setsWith", "(I)I"⟩
abbrev cX6_thingsOf : ByteArray := prog_8_method_9_code
def yX6_thingsOf : MethodName := ⟨RX6, "thingsOf", "(I)I"⟩
abbrev cX6_priceOf : ByteArray := prog_8_method_10_code
def yX6_priceOf : MethodName := ⟨RX6, "priceOf", "(I)I"⟩
abbrev cX6_missingIn : ByteArray := prog_8_method_11_code
def yX6_missingIn : MethodName := ⟨RX6, "missingIn", "(I)I"⟩
abbrev cX6_hasCover : ByteArray := prog_8_method_12_code
def yX6_hasCover : MethodName := ⟨RX6, "hasCover", "()Z"⟩
abbrev cX6_isCover : ByteArray := prog_8_method_13_code
def yX6_isCover : MethodName := ⟨RX6, "isCover", "(I)Z"⟩
abbrev cX6_neededAlone : ByteArray := prog_8_method_14_code
def yX6_neededAlone : MethodName := ⟨RX6, "neededAlone", "(I)I"⟩
abbrev cX6_mostSetsWithOneThing : ByteArray := prog_8_method_15_code
def yX6_mostSetsWithOneThing : MethodName := ⟨RX6, "mostSetsWithOneThing", "()I"⟩
def RX7 : String := "CoverShares$Walk"
def TX7 : u_T := fun k => match k with
  | 0 => ("CoverShares$Walk", "needed", "I", false)
  | 1 => ("CoverShares$Walk", "free", "I", false)
  | 2 => ("CoverShares$Walk", "freeThings", "[I", true)
  | 3 => ("CoverShares$Walk", "freePrices", "[I", true)
  | 4 => ("CoverShares$Walk", "freeMasks", "[I", true)
  | 5 => ("CoverShares$Walk", "sets", "[I", true)
  | 6 => ("CoverShares$Walk", "prices", "[I", true)
  | 7 => ("CoverShares$Walk", "things", "[I", true)
  | _ => ("CoverShares$Walk", "thingsTwice", "[I", true)
def tyX7 : Nat → FieldType := fun k => match k with
  | 0 => .int
  | 1 => .int
  | 2 => .array .int
  | 3 => .array .int
  | 4 => .array .int
  | 5 => .array .int
  | 6 => .array .int
  | 7 => .array .int
  | _ => .array .int
abbrev wsX70 : List Cond := u_ws RX7 TX7 9
theorem nmX7 : ∀ a, a < 9 → ∀ b, b < 9 → a ≠ b → (TX7 a).2.1 ≠ (TX7 b).2.1 := by decide +kernel
theorem tyX7_ok : ∀ k, k < 9 → parseFieldDescriptor (TX7 k).2.2.1 = some (tyX7 k) := by decide +kernel
abbrev cX7_init : ByteArray := prog_9_method_1_code
def yX7_init : MethodName := ⟨RX7, "<init>", "()V"⟩
abbrev cX7_begin : ByteArray := prog_9_method_2_code
def yX7_begin : MethodName := ⟨RX7, "begin", "(LCoverShares$State;)I"⟩
abbrev cX7_noteFree : ByteArray := prog_9_method_3_code
def yX7_noteFree : MethodName := ⟨RX7, "noteFree", "(III)V"⟩
abbrev cX7_join : ByteArray := prog_9_method_4_code
def yX7_join : MethodName := ⟨RX7, "join", "(IIIII)V"⟩
abbrev cX7_goTo : ByteArray := prog_9_method_5_code
def yX7_goTo : MethodName := ⟨RX7, "goTo", "(I)V"⟩
abbrev cX7_chosen : ByteArray := prog_9_method_6_code
def yX7_chosen : MethodName := ⟨RX7, "chosen", "()I"⟩
abbrev cX7_sum : ByteArray := prog_9_method_7_code
def yX7_sum : MethodName := ⟨RX7, "sum", "()I"⟩
abbrev cX7_missing : ByteArray := prog_9_method_8_code
def yX7_missing : MethodName := ⟨RX7, "missing", "()I"⟩
abbrev cX7_isFullCover : ByteArray := prog_9_method_9_code
def yX7_isFullCover : MethodName := ⟨RX7, "isFullCover", "()Z"⟩
abbrev cX7_hasNoSpareSet : ByteArray := prog_9_method_10_code
def yX7_hasNoSpareSet : MethodName := ⟨RX7, "hasNoSpareSet", "()Z"⟩
def RX8 : String := "CoverShares"
def TX8 : u_T := fun k => match k with
  | 0 => ("CoverShares", "now", "LCoverShares$State;", true)
  | 1 => ("CoverShares", "history", "LCoverShares$History;", true)
  | 2 => ("CoverShares", "slots", "LCoverShares$Slots;", true)
  | 3 => ("CoverShares", "pad", "LCoverShares$Pad;", true)
  | 4 => ("CoverShares", "shares", "LCoverShares$Shares;", true)
  | 5 => ("CoverShares", "byRate", "LCoverShares$Greedy;", true)
  | _ => ("CoverShares", "search", "LCoverShares$Search;", true)
def tyX8 : Nat → FieldType := fun k => match k with
  | 0 => .object "CoverShares$State"
  | 1 => .object "CoverShares$History"
  | 2 => .object "CoverShares$Slots"
  | 3 => .object "CoverShares$Pad"
  | 4 => .object "CoverShares$Shares"
  | 5 => .object "CoverShares$Greedy"
  | _ => .object "CoverShares$Search"
abbrev wsX80 : List Cond := u_ws RX8 TX8 7
theorem nmX8 : ∀ a, a < 7 → ∀ b, b < 7 → a ≠ b → (TX8 a).2.1 ≠ (TX8 b).2.1 := by decide +kernel
theorem tyX8_ok : ∀ k, k < 7 → parseFieldDescriptor (TX8 k).2.2.1 = some (tyX8 k) := by decide +kernel
abbrev cX8_init : ByteArray := prog_1_method_1_code
def yX8_init : MethodName := ⟨RX8, "<init>", "()V"⟩
abbrev cX8_need : ByteArray := prog_1_method_2_code
def yX8_need : MethodName := ⟨RX8, "need", "(I)I"⟩
abbrev cX8_set : ByteArray := prog_1_method_3_code
def yX8_set : MethodName := ⟨RX8, "set", "(II)I"⟩
abbrev cX8_price : ByteArray := prog_1_method_4_code
def yX8_price : MethodName := ⟨RX8, "price", "(II)I"⟩
abbrev cX8_mark : ByteArray := prog_1_method_5_code
def yX8_mark : MethodName := ⟨RX8, "mark", "(II)I"⟩
abbrev cX8_turn : ByteArray := prog_1_method_6_code
def yX8_turn : MethodName := ⟨RX8, "turn", "(II)I"⟩
abbrev cX8_drop : ByteArray := prog_1_method_7_code
def yX8_drop : MethodName := ⟨RX8, "drop", "(I)I"⟩
abbrev cX8_ofSet : ByteArray := prog_1_method_12_code
def yX8_ofSet : MethodName := ⟨RX8, "ofSet", "(II)I"⟩
abbrev cX8_ofSetByShares : ByteArray := prog_1_method_13_code
def yX8_ofSetByShares : MethodName := ⟨RX8, "ofSetByShares", "(II)I"⟩
abbrev cX8_ofThing : ByteArray := prog_1_method_14_code
def yX8_ofThing : MethodName := ⟨RX8, "ofThing", "(II)I"⟩
abbrev cX8_shareOf : ByteArray := prog_1_method_15_code
def yX8_shareOf : MethodName := ⟨RX8, "shareOf", "(I)I"⟩
abbrev cX8_count : ByteArray := prog_1_method_16_code
def yX8_count : MethodName := ⟨RX8, "count", "(I)I"⟩
abbrev cX8_shared : ByteArray := prog_1_method_17_code
def yX8_shared : MethodName := ⟨RX8, "shared", "(I)I"⟩
abbrev cX8_greedy : ByteArray := prog_1_method_18_code
def yX8_greedy : MethodName := ⟨RX8, "greedy", "(I)I"⟩
abbrev cX8_least : ByteArray := prog_1_method_19_code
def yX8_least : MethodName := ⟨RX8, "least", "(I)I"⟩
abbrev cX8_covers : ByteArray := prog_1_method_20_code
def yX8_covers : MethodName := ⟨RX8, "covers", "(I)I"⟩
abbrev cX8_tightCovers : ByteArray := prog_1_method_21_code
def yX8_tightCovers : MethodName := ⟨RX8, "tightCovers", "()I"⟩
abbrev cX8_dearest : ByteArray := prog_1_method_23_code
def yX8_dearest : MethodName := ⟨RX8, "dearest", "(I)I"⟩
abbrev cX8_check : ByteArray := prog_1_method_24_code
def yX8_check : MethodName := ⟨RX8, "check", "(I)I"⟩
abbrev cX8_has : ByteArray := prog_1_method_28_code
def yX8_has : MethodName := ⟨RX8, "has", "(II)Z"⟩
abbrev cX8_areSomeThings : ByteArray := prog_1_method_29_code
def yX8_areSomeThings : MethodName := ⟨RX8, "areSomeThings", "(I)Z"⟩
abbrev cX8_isPrice : ByteArray := prog_1_method_30_code
def yX8_isPrice : MethodName := ⟨RX8, "isPrice", "(I)Z"⟩
def RX9 : String := "CoverSharesModel"
def TX9 : u_T := fun k => match k with
  | _ => ("", "", "", false)
def tyX9 : Nat → FieldType := fun k => match k with
  | _ => .int
abbrev wsX90 : List Cond := u_ws RX9 TX9 0
theorem nmX9 : ∀ a, a < 0 → ∀ b, b < 0 → a ≠ b → (TX9 a).2.1 ≠ (TX9 b).2.1 := by decide +kernel
theorem tyX9_ok : ∀ k, k < 0 → parseFieldDescriptor (TX9 k).2.2.1 = some (tyX9 k) := by decide +kernel
def RJ6 : String := "java/lang/Integer"
def TJ6 : u_T := fun k => match k with
  | _ => ("", "", "", false)
def tyJ6 : Nat → FieldType := fun k => match k with
  | _ => .int
abbrev wsJ60 : List Cond := u_ws RJ6 TJ6 0
theorem nmJ6 : ∀ a, a < 0 → ∀ b, b < 0 → a ≠ b → (TJ6 a).2.1 ≠ (TJ6 b).2.1 := by decide +kernel
theorem tyJ6_ok : ∀ k, k < 0 → parseFieldDescriptor (TJ6 k).2.2.1 = some (tyJ6 k) := by decide +kernel
abbrev cJ6_numberOfTrailingZeros_0f7a4 : ByteArray := prog_12_method_48_code
def yJ6_numberOfTrailingZeros_0f7a4 : MethodName := ⟨RJ6, "numberOfTrailingZeros", "(I)I"⟩
abbrev cJ6_bitCount_0f7a4 : ByteArray := prog_12_method_49_code
def yJ6_bitCount_0f7a4 : MethodName := ⟨RJ6, "bitCount", "(I)I"⟩
def RJ9 : String := "java/lang/Math"
def TJ9 : u_T := fun k => match k with
  | _ => ("", "", "", false)
def tyJ9 : Nat → FieldType := fun k => match k with
  | _ => .int
abbrev wsJ90 : List Cond := u_ws RJ9 TJ9 0
theorem nmJ9 : ∀ a, a < 0 → ∀ b, b < 0 → a ≠ b → (TJ9 a).2.1 ≠ (TJ9 b).2.1 := by decide +kernel
theorem tyJ9_ok : ∀ k, k < 0 → parseFieldDescriptor (TJ9 k).2.2.1 = some (tyJ9 k) := by decide +kernel
abbrev cJ9_max_7cf53 : ByteArray := prog_13_method_65_code
def yJ9_max_7cf53 : MethodName := ⟨RJ9, "max", "(II)I"⟩
abbrev cJ9_min_7cf53 : ByteArray := prog_13_method_69_code
def yJ9_min_7cf53 : MethodName := ⟨RJ9, "min", "(II)I"⟩
def RJ7 : String := "java/util/Arrays"
def TJ7 : u_T := fun k => match k with
  | _ => ("", "", "", false)
def tyJ7 : Nat → FieldType := fun k => match k with
  | _ => .int
abbrev wsJ70 : List Cond := u_ws RJ7 TJ7 0
theorem nmJ7 : ∀ a, a < 0 → ∀ b, b < 0 → a ≠ b → (TJ7 a).2.1 ≠ (TJ7 b).2.1 := by decide +kernel
theorem tyJ7_ok : ∀ k, k < 0 → parseFieldDescriptor (TJ7 k).2.2.1 = some (tyJ7 k) := by decide +kernel
abbrev cJ7_fill_53178 : ByteArray := prog_14_method_103_code
def yJ7_fill_53178 : MethodName := ⟨RJ7, "fill", "([II)V"⟩
def RL : String := "CoverSharesLaw"
abbrev cL_cell : ByteArray := method_2_code
def yL_cell : MethodName := ⟨RL, "cell", "([III)I"⟩
abbrev cL_has : ByteArray := method_3_code
def yL_has : MethodName := ⟨RL, "has", "(II)Z"⟩
abbrev cL_ones : ByteArray := method_4_code
def yL_ones : MethodName := ⟨RL, "ones", "(I)I"⟩
abbrev cL_union : ByteArray := method_5_code
def yL_union : MethodName := ⟨RL, "union", "(LCoverShares;I)I"⟩
abbrev cL_marked : ByteArray := method_6_code
def yL_marked : MethodName := ⟨RL, "marked", "(LCoverShares;I)I"⟩
abbrev cL_prices : ByteArray := method_7_code
def yL_prices : MethodName := ⟨RL, "prices", "(LCoverShares;I)I"⟩
abbrev cL_areShares : ByteArray := method_8_code
def yL_areShares : MethodName := ⟨RL, "areShares", "(LCoverShares;)Z"⟩
abbrev cL_isGreedy : ByteArray := method_9_code
def yL_isGreedy : MethodName := ⟨RL, "isGreedy", "(LCoverShares;)Z"⟩
abbrev cL_agree : ByteArray := method_10_code
def yL_agree : MethodName := ⟨RL, "agree", "(LCoverShares;)Z"⟩
abbrev cL_things : ByteArray := method_11_code
def yL_things : MethodName := ⟨RL, "things", "([II)I"⟩
abbrev cL_isMade : ByteArray := method_12_code
def yL_isMade : MethodName := ⟨RL, "isMade", "(LCoverShares;II)Z"⟩
abbrev cL_isTurned : ByteArray := method_13_code
def yL_isTurned : MethodName := ⟨RL, "isTurned", "(LCoverShares;II)Z"⟩
abbrev cL_isDropped : ByteArray := method_14_code
def yL_isDropped : MethodName := ⟨RL, "isDropped", "(LCoverShares;I)Z"⟩
abbrev cL_isAct : ByteArray := method_15_code
def yL_isAct : MethodName := ⟨RL, "isAct", "(LCoverShares;[II)Z"⟩
abbrev cL_law : ByteArray := code
def yL_law : MethodName := ⟨RL, "law", "([I)Z"⟩
theorem dX0_init_0 : decode cX0_init 0 = .ok (.aload_n 0, 1) := by decide +kernel
theorem dX0_init_1 : decode cX0_init 1 = .ok (.invokespecial 3, 3) := by decide +kernel
theorem dX0_init_4 : decode cX0_init 4 = .ok (.aload_n 0, 1) := by decide +kernel
theorem dX0_init_5 : decode cX0_init 5 = .ok (.iconst 0, 1) := by decide +kernel
theorem dX0_init_6 : decode cX0_init 6 = .ok (.putfield 9, 3) := by decide +kernel
theorem dX0_init_9 : decode cX0_init 9 = .ok (.aload_n 0, 1) := by decide +kernel
theorem dX0_init_10 : decode cX0_init 10 = .ok (.bipush (-6), 2) := by decide +kernel
theorem dX0_init_12 : decode cX0_init 12 = .ok (.putfield 15, 3) := by decide +kernel
theorem dX0_init_15 : decode cX0_init 15 = .ok (.return_, 1) := by decide +kernel
theorem dX0_choose_0 : decode cX0_choose 0 = .ok (.aload_n 0, 1) := by decide +kernel
theorem dX0_choose_1 : decode cX0_choose 1 = .ok (.aload_n 1, 1) := by decide +kernel
theorem dX0_choose_2 : decode cX0_choose 2 = .ok (.iconst 1, 1) := by decide +kernel
theorem dX0_choose_3 : decode cX0_choose 3 = .ok (.invokevirtual 18, 3) := by decide +kernel
theorem dX0_choose_6 : decode cX0_choose 6 = .ok (.putfield 9, 3) := by decide +kernel
theorem dX0_choose_9 : decode cX0_choose 9 = .ok (.aload_n 0, 1) := by decide +kernel
theorem dX0_choose_10 : decode cX0_choose 10 = .ok (.bipush (-6), 2) := by decide +kernel
theorem dX0_choose_12 : decode cX0_choose 12 = .ok (.putfield 15, 3) := by decide +kernel
theorem dX0_choose_15 : decode cX0_choose 15 = .ok (.iconst 0, 1) := by decide +kernel
theorem dX0_choose_16 : decode cX0_choose 16 = .ok (.istore_n 2, 1) := by decide +kernel
theorem dX0_choose_17 : decode cX0_choose 17 = .ok (.iload_n 2, 1) := by decide +kernel
theorem dX0_choose_18 : decode cX0_choose 18 = .ok (.bipush 14, 2) := by decide +kernel
theorem dX0_choose_20 : decode cX0_choose 20 = .ok (.if_icmp .ge 57, 3) := by decide +kernel
theorem dX0_choose_23 : decode cX0_choose 23 = .ok (.aload_n 1, 1) := by decide +kernel
theorem dX0_choose_24 : decode cX0_choose 24 = .ok (.aload_n 0, 1) := by decide +kernel
theorem dX0_choose_25 : decode cX0_choose 25 = .ok (.getfield 9, 3) := by decide +kernel
theorem dX0_choose_28 : decode cX0_choose 28 = .ok (.invokevirtual 24, 3) := by decide +kernel
theorem dX0_choose_31 : decode cX0_choose 31 = .ok (.ifCond .eq 46, 3) := by decide +kernel
theorem dX0_choose_34 : decode cX0_choose 34 = .ok (.aload_n 1, 1) := by decide +kernel
theorem dX0_choose_35 : decode cX0_choose 35 = .ok (.aload_n 1, 1) := by decide +kernel
theorem dX0_choose_36 : decode cX0_choose 36 = .ok (.aload_n 0, 1) := by decide +kernel
theorem dX0_choose_37 : decode cX0_choose 37 = .ok (.getfield 9, 3) := by decide +kernel
theorem dX0_choose_40 : decode cX0_choose 40 = .ok (.invokevirtual 24, 3) := by decide +kernel
theorem dX0_choose_43 : decode cX0_choose 43 = .ok (.invokestatic 27, 3) := by decide +kernel
theorem dX0_choose_46 : decode cX0_choose 46 = .ok (.istore_n 3, 1) := by decide +kernel
theorem dX0_choose_47 : decode cX0_choose 47 = .ok (.iload_n 3, 1) := by decide +kernel
theorem dX0_choose_48 : decode cX0_choose 48 = .ok (.bipush (-6), 2) := by decide +kernel
theorem dX0_choose_50 : decode cX0_choose 50 = .ok (.if_icmp .ne 4, 3) := by decide +kernel
theorem dX0_choose_53 : decode cX0_choose 53 = .ok (.return_, 1) := by decide +kernel
theorem dX0_choose_54 : decode cX0_choose 54 = .ok (.aload_n 0, 1) := by decide +kernel
theorem dX0_choose_55 : decode cX0_choose 55 = .ok (.dup, 1) := by decide +kernel
theorem dX0_choose_56 : decode cX0_choose 56 = .ok (.getfield 9, 3) := by decide +kernel
theorem dX0_choose_59 : decode cX0_choose 59 = .ok (.iconst 1, 1) := by decide +kernel
theorem dX0_choose_60 : decode cX0_choose 60 = .ok (.iload_n 3, 1) := by decide +kernel
theorem dX0_choose_61 : decode cX0_choose 61 = .ok (.ishl, 1) := by decide +kernel
theorem dX0_choose_62 : decode cX0_choose 62 = .ok (.ior, 1) := by decide +kernel
theorem dX0_choose_63 : decode cX0_choose 63 = .ok (.putfield 9, 3) := by decide +kernel
theorem dX0_choose_66 : decode cX0_choose 66 = .ok (.aload_n 0, 1) := by decide +kernel
theorem dX0_choose_67 : decode cX0_choose 67 = .ok (.iload_n 3, 1) := by decide +kernel
theorem dX0_choose_68 : decode cX0_choose 68 = .ok (.putfield 15, 3) := by decide +kernel
theorem dX0_choose_71 : decode cX0_choose 71 = .ok (.iinc 2 1, 3) := by decide +kernel
theorem dX0_choose_74 : decode cX0_choose 74 = .ok (.goto (-57), 3) := by decide +kernel
theorem dX0_choose_77 : decode cX0_choose 77 = .ok (.return_, 1) := by decide +kernel
theorem dX0_bestByRate_0 : decode cX0_bestByRate 0 = .ok (.bipush (-6), 2) := by decide +kernel
theorem dX0_bestByRate_2 : decode cX0_bestByRate 2 = .ok (.istore_n 2, 1) := by decide +kernel
theorem dX0_bestByRate_3 : decode cX0_bestByRate 3 = .ok (.iconst 0, 1) := by decide +kernel
theorem dX0_bestByRate_4 : decode cX0_bestByRate 4 = .ok (.istore_n 3, 1) := by decide +kernel
theorem dX0_bestByRate_5 : decode cX0_bestByRate 5 = .ok (.iconst 0, 1) := by decide +kernel
theorem dX0_bestByRate_6 : decode cX0_bestByRate 6 = .ok (.istore 4, 2) := by decide +kernel
theorem dX0_bestByRate_8 : decode cX0_bestByRate 8 = .ok (.iconst 0, 1) := by decide +kernel
theorem dX0_bestByRate_9 : decode cX0_bestByRate 9 = .ok (.istore 5, 2) := by decide +kernel
theorem dX0_bestByRate_11 : decode cX0_bestByRate 11 = .ok (.iload 5, 2) := by decide +kernel
theorem dX0_bestByRate_13 : decode cX0_bestByRate 13 = .ok (.aload_n 0, 1) := by decide +kernel
theorem dX0_bestByRate_14 : decode cX0_bestByRate 14 = .ok (.getfield 31, 3) := by decide +kernel
theorem dX0_bestByRate_17 : decode cX0_bestByRate 17 = .ok (.if_icmp .ge 79, 3) := by decide +kernel
theorem dX0_bestByRate_20 : decode cX0_bestByRate 20 = .ok (.aload_n 0, 1) := by decide +kernel
theorem dX0_bestByRate_21 : decode cX0_bestByRate 21 = .ok (.getfield 34, 3) := by decide +kernel
theorem dX0_bestByRate_24 : decode cX0_bestByRate 24 = .ok (.iload 5, 2) := by decide +kernel
theorem dX0_bestByRate_26 : decode cX0_bestByRate 26 = .ok (.iaload, 1) := by decide +kernel
theorem dX0_bestByRate_27 : decode cX0_bestByRate 27 = .ok (.iload_n 1, 1) := by decide +kernel
theorem dX0_bestByRate_28 : decode cX0_bestByRate 28 = .ok (.iand, 1) := by decide +kernel
theorem dX0_bestByRate_29 : decode cX0_bestByRate 29 = .ok (.invokestatic 38, 3) := by decide +kernel
theorem dX0_bestByRate_32 : decode cX0_bestByRate 32 = .ok (.istore 6, 2) := by decide +kernel
theorem dX0_bestByRate_34 : decode cX0_bestByRate 34 = .ok (.aload_n 0, 1) := by decide +kernel
theorem dX0_bestByRate_35 : decode cX0_bestByRate 35 = .ok (.getfield 43, 3) := by decide +kernel
theorem dX0_bestByRate_38 : decode cX0_bestByRate 38 = .ok (.iload 5, 2) := by decide +kernel
theorem dX0_bestByRate_40 : decode cX0_bestByRate 40 = .ok (.iaload, 1) := by decide +kernel
theorem dX0_bestByRate_41 : decode cX0_bestByRate 41 = .ok (.ifCond .ne 49, 3) := by decide +kernel
theorem dX0_bestByRate_44 : decode cX0_bestByRate 44 = .ok (.iload 6, 2) := by decide +kernel
theorem dX0_bestByRate_46 : decode cX0_bestByRate 46 = .ok (.ifCond .ne 6, 3) := by decide +kernel
theorem dX0_bestByRate_49 : decode cX0_bestByRate 49 = .ok (.goto 41, 3) := by decide +kernel
theorem dX0_bestByRate_52 : decode cX0_bestByRate 52 = .ok (.iload_n 2, 1) := by decide +kernel
theorem dX0_bestByRate_53 : decode cX0_bestByRate 53 = .ok (.bipush (-6), 2) := by decide +kernel
theorem dX0_bestByRate_55 : decode cX0_bestByRate 55 = .ok (.if_icmp .eq 20, 3) := by decide +kernel
theorem dX0_bestByRate_58 : decode cX0_bestByRate 58 = .ok (.aload_n 0, 1) := by decide +kernel
theorem dX0_bestByRate_59 : decode cX0_bestByRate 59 = .ok (.getfield 46, 3) := by decide +kernel
theorem dX0_bestByRate_62 : decode cX0_bestByRate 62 = .ok (.iload 5, 2) := by decide +kernel
theorem dX0_bestByRate_64 : decode cX0_bestByRate 64 = .ok (.iaload, 1) := by decide +kernel
theorem dX0_bestByRate_65 : decode cX0_bestByRate 65 = .ok (.iload 4, 2) := by decide +kernel
theorem dX0_bestByRate_67 : decode cX0_bestByRate 67 = .ok (.imul, 1) := by decide +kernel
theorem dX0_bestByRate_68 : decode cX0_bestByRate 68 = .ok (.iload_n 3, 1) := by decide +kernel
theorem dX0_bestByRate_69 : decode cX0_bestByRate 69 = .ok (.iload 6, 2) := by decide +kernel
theorem dX0_bestByRate_71 : decode cX0_bestByRate 71 = .ok (.imul, 1) := by decide +kernel
theorem dX0_bestByRate_72 : decode cX0_bestByRate 72 = .ok (.if_icmp .ge 18, 3) := by decide +kernel
theorem dX0_bestByRate_75 : decode cX0_bestByRate 75 = .ok (.iload 5, 2) := by decide +kernel
theorem dX0_bestByRate_77 : decode cX0_bestByRate 77 = .ok (.istore_n 2, 1) := by decide +kernel
theorem dX0_bestByRate_78 : decode cX0_bestByRate 78 = .ok (.aload_n 0, 1) := by decide +kernel
theorem dX0_bestByRate_79 : decode cX0_bestByRate 79 = .ok (.getfield 46, 3) := by decide +kernel
theorem dX0_bestByRate_82 : decode cX0_bestByRate 82 = .ok (.iload 5, 2) := by decide +kernel
theorem dX0_bestByRate_84 : decode cX0_bestByRate 84 = .ok (.iaload, 1) := by decide +kernel
theorem dX0_bestByRate_85 : decode cX0_bestByRate 85 = .ok (.istore_n 3, 1) := by decide +kernel
theorem dX0_bestByRate_86 : decode cX0_bestByRate 86 = .ok (.iload 6, 2) := by decide +kernel
theorem dX0_bestByRate_88 : decode cX0_bestByRate 88 = .ok (.istore 4, 2) := by decide +kernel
theorem dX0_bestByRate_90 : decode cX0_bestByRate 90 = .ok (.iinc 5 1, 3) := by decide +kernel
theorem dX0_bestByRate_93 : decode cX0_bestByRate 93 = .ok (.goto (-82), 3) := by decide +kernel
theorem dX0_bestByRate_96 : decode cX0_bestByRate 96 = .ok (.iload_n 2, 1) := by decide +kernel
theorem dX0_bestByRate_97 : decode cX0_bestByRate 97 = .ok (.ireturn, 1) := by decide +kernel
theorem dX1_init_0 : decode cX1_init 0 = .ok (.aload_n 0, 1) := by decide +kernel
theorem dX1_init_1 : decode cX1_init 1 = .ok (.invokespecial 1, 3) := by decide +kernel
theorem dX1_init_4 : decode cX1_init 4 = .ok (.aload_n 0, 1) := by decide +kernel
theorem dX1_init_5 : decode cX1_init 5 = .ok (.iconst 0, 1) := by decide +kernel
theorem dX1_init_6 : decode cX1_init 6 = .ok (.putfield 7, 3) := by decide +kernel
theorem dX1_init_9 : decode cX1_init 9 = .ok (.aload_n 0, 1) := by decide +kernel
theorem dX1_init_10 : decode cX1_init 10 = .ok (.bipush 6, 2) := by decide +kernel
theorem dX1_init_12 : decode cX1_init 12 = .ok (.anewarray 13, 3) := by decide +kernel
theorem dX1_init_15 : decode cX1_init 15 = .ok (.putfield 15, 3) := by decide +kernel
theorem dX1_init_18 : decode cX1_init 18 = .ok (.iconst 0, 1) := by decide +kernel
theorem dX1_init_19 : decode cX1_init 19 = .ok (.istore_n 1, 1) := by decide +kernel
theorem dX1_init_20 : decode cX1_init 20 = .ok (.iload_n 1, 1) := by decide +kernel
theorem dX1_init_21 : decode cX1_init 21 = .ok (.bipush 6, 2) := by decide +kernel
theorem dX1_init_23 : decode cX1_init 23 = .ok (.if_icmp .ge 22, 3) := by decide +kernel
theorem dX1_init_26 : decode cX1_init 26 = .ok (.aload_n 0, 1) := by decide +kernel
theorem dX1_init_27 : decode cX1_init 27 = .ok (.getfield 15, 3) := by decide +kernel
theorem dX1_init_30 : decode cX1_init 30 = .ok (.iload_n 1, 1) := by decide +kernel
theorem dX1_init_31 : decode cX1_init 31 = .ok (.new 13, 3) := by decide +kernel
theorem dX1_init_34 : decode cX1_init 34 = .ok (.dup, 1) := by decide +kernel
theorem dX1_init_35 : decode cX1_init 35 = .ok (.invokespecial 19, 3) := by decide +kernel
theorem dX1_init_38 : decode cX1_init 38 = .ok (.aastore, 1) := by decide +kernel
theorem dX1_init_39 : decode cX1_init 39 = .ok (.iinc 1 1, 3) := by decide +kernel
theorem dX1_init_42 : decode cX1_init 42 = .ok (.goto (-22), 3) := by decide +kernel
theorem dX1_init_45 : decode cX1_init 45 = .ok (.return_, 1) := by decide +kernel
theorem dX1_record_0 : decode cX1_record 0 = .ok (.aload_n 0, 1) := by decide +kernel
theorem dX1_record_1 : decode cX1_record 1 = .ok (.getfield 7, 3) := by decide +kernel
theorem dX1_record_4 : decode cX1_record 4 = .ok (.bipush 6, 2) := by decide +kernel
theorem dX1_record_6 : decode cX1_record 6 = .ok (.if_icmp .lt 7, 3) := by decide +kernel
theorem dX1_record_9 : decode cX1_record 9 = .ok (.aload_n 0, 1) := by decide +kernel
theorem dX1_record_10 : decode cX1_record 10 = .ok (.invokevirtual 20, 3) := by decide +kernel
theorem dX1_record_13 : decode cX1_record 13 = .ok (.aload_n 0, 1) := by decide +kernel
theorem dX1_record_14 : decode cX1_record 14 = .ok (.getfield 15, 3) := by decide +kernel
theorem dX1_record_17 : decode cX1_record 17 = .ok (.aload_n 0, 1) := by decide +kernel
theorem dX1_record_18 : decode cX1_record 18 = .ok (.getfield 7, 3) := by decide +kernel
theorem dX1_record_21 : decode cX1_record 21 = .ok (.aaload, 1) := by decide +kernel
theorem dX1_record_22 : decode cX1_record 22 = .ok (.aload_n 1, 1) := by decide +kernel
theorem dX1_record_23 : decode cX1_record 23 = .ok (.invokevirtual 23, 3) := by decide +kernel
theorem dX1_record_26 : decode cX1_record 26 = .ok (.aload_n 0, 1) := by decide +kernel
theorem dX1_record_27 : decode cX1_record 27 = .ok (.dup, 1) := by decide +kernel
theorem dX1_record_28 : decode cX1_record 28 = .ok (.getfield 7, 3) := by decide +kernel
theorem dX1_record_31 : decode cX1_record 31 = .ok (.iconst 1, 1) := by decide +kernel
theorem dX1_record_32 : decode cX1_record 32 = .ok (.iadd, 1) := by decide +kernel
theorem dX1_record_33 : decode cX1_record 33 = .ok (.putfield 7, 3) := by decide +kernel
theorem dX1_record_36 : decode cX1_record 36 = .ok (.return_, 1) := by decide +kernel
theorem dX1_forgetOldest_0 : decode cX1_forgetOldest 0 = .ok (.aload_n 0, 1) := by decide +kernel
theorem dX1_forgetOldest_1 : decode cX1_forgetOldest 1 = .ok (.getfield 15, 3) := by decide +kernel
theorem dX1_forgetOldest_4 : decode cX1_forgetOldest 4 = .ok (.iconst 0, 1) := by decide +kernel
theorem dX1_forgetOldest_5 : decode cX1_forgetOldest 5 = .ok (.aaload, 1) := by decide +kernel
theorem dX1_forgetOldest_6 : decode cX1_forgetOldest 6 = .ok (.astore_n 1, 1) := by decide +kernel
theorem dX1_forgetOldest_7 : decode cX1_forgetOldest 7 = .ok (.iconst 1, 1) := by decide +kernel
theorem dX1_forgetOldest_8 : decode cX1_forgetOldest 8 = .ok (.istore_n 2, 1) := by decide +kernel
theorem dX1_forgetOldest_9 : decode cX1_forgetOldest 9 = .ok (.iload_n 2, 1) := by decide +kernel
theorem dX1_forgetOldest_10 : decode cX1_forgetOldest 10 = .ok (.bipush 6, 2) := by decide +kernel
theorem dX1_forgetOldest_12 : decode cX1_forgetOldest 12 = .ok (.if_icmp .ge 23, 3) := by decide +kernel
theorem dX1_forgetOldest_15 : decode cX1_forgetOldest 15 = .ok (.aload_n 0, 1) := by decide +kernel
theorem dX1_forgetOldest_16 : decode cX1_forgetOldest 16 = .ok (.getfield 15, 3) := by decide +kernel
theorem dX1_forgetOldest_19 : decode cX1_forgetOldest 19 = .ok (.iload_n 2, 1) := by decide +kernel
theorem dX1_forgetOldest_20 : decode cX1_forgetOldest 20 = .ok (.iconst 1, 1) := by decide +kernel
theorem dX1_forgetOldest_21 : decode cX1_forgetOldest 21 = .ok (.isub, 1) := by decide +kernel
theorem dX1_forgetOldest_22 : decode cX1_forgetOldest 22 = .ok (.aload_n 0, 1) := by decide +kernel
theorem dX1_forgetOldest_23 : decode cX1_forgetOldest 23 = .ok (.getfield 15, 3) := by decide +kernel
theorem dX1_forgetOldest_26 : decode cX1_forgetOldest 26 = .ok (.iload_n 2, 1) := by decide +kernel
theorem dX1_forgetOldest_27 : decode cX1_forgetOldest 27 = .ok (.aaload, 1) := by decide +kernel
theorem dX1_forgetOldest_28 : decode cX1_forgetOldest 28 = .ok (.aastore, 1) := by decide +kernel
theorem dX1_forgetOldest_29 : decode cX1_forgetOldest 29 = .ok (.iinc 2 1, 3) := by decide +kernel
theorem dX1_forgetOldest_32 : decode cX1_forgetOldest 32 = .ok (.goto (-23), 3) := by decide +kernel
theorem dX1_forgetOldest_35 : decode cX1_forgetOldest 35 = .ok (.aload_n 0, 1) := by decide +kernel
theorem dX1_forgetOldest_36 : decode cX1_forgetOldest 36 = .ok (.getfield 15, 3) := by decide +kernel
theorem dX1_forgetOldest_39 : decode cX1_forgetOldest 39 = .ok (.iconst 5, 1) := by decide +kernel
theorem dX1_forgetOldest_40 : decode cX1_forgetOldest 40 = .ok (.aload_n 1, 1) := by decide +kernel
theorem dX1_forgetOldest_41 : decode cX1_forgetOldest 41 = .ok (.aastore, 1) := by decide +kernel
theorem dX1_forgetOldest_42 : decode cX1_forgetOldest 42 = .ok (.aload_n 0, 1) := by decide +kernel
theorem dX1_forgetOldest_43 : decode cX1_forgetOldest 43 = .ok (.iconst 5, 1) := by decide +kernel
theorem dX1_forgetOldest_44 : decode cX1_forgetOldest 44 = .ok (.putfield 7, 3) := by decide +kernel
theorem dX1_forgetOldest_47 : decode cX1_forgetOldest 47 = .ok (.return_, 1) := by decide +kernel
theorem dX2_init_0 : decode cX2_init 0 = .ok (.aload_n 0, 1) := by decide +kernel
theorem dX2_init_1 : decode cX2_init 1 = .ok (.invokespecial 5, 3) := by decide +kernel
theorem dX2_init_4 : decode cX2_init 4 = .ok (.aload_n 0, 1) := by decide +kernel
theorem dX2_init_5 : decode cX2_init 5 = .ok (.iconst 0, 1) := by decide +kernel
theorem dX2_init_6 : decode cX2_init 6 = .ok (.putfield 11, 3) := by decide +kernel
theorem dX2_init_9 : decode cX2_init 9 = .ok (.aload_n 0, 1) := by decide +kernel
theorem dX2_init_10 : decode cX2_init 10 = .ok (.bipush 80, 2) := by decide +kernel
theorem dX2_init_12 : decode cX2_init 12 = .ok (.newarray .char, 2) := by decide +kernel
theorem dX2_init_14 : decode cX2_init 14 = .ok (.putfield 15, 3) := by decide +kernel
theorem dX2_init_17 : decode cX2_init 17 = .ok (.aload_n 0, 1) := by decide +kernel
theorem dX2_init_18 : decode cX2_init 18 = .ok (.iconst 0, 1) := by decide +kernel
theorem dX2_init_19 : decode cX2_init 19 = .ok (.putfield 19, 3) := by decide +kernel
theorem dX2_init_22 : decode cX2_init 22 = .ok (.aload_n 0, 1) := by decide +kernel
theorem dX2_init_23 : decode cX2_init 23 = .ok (.bipush 21, 2) := by decide +kernel
theorem dX2_init_25 : decode cX2_init 25 = .ok (.newarray .int, 2) := by decide +kernel
theorem dX2_init_27 : decode cX2_init 27 = .ok (.putfield 22, 3) := by decide +kernel
theorem dX2_init_30 : decode cX2_init 30 = .ok (.aload_n 0, 1) := by decide +kernel
theorem dX2_init_31 : decode cX2_init 31 = .ok (.bipush 21, 2) := by decide +kernel
theorem dX2_init_33 : decode cX2_init 33 = .ok (.newarray .int, 2) := by decide +kernel
theorem dX2_init_35 : decode cX2_init 35 = .ok (.putfield 26, 3) := by decide +kernel
theorem dX2_init_38 : decode cX2_init 38 = .ok (.aload_n 0, 1) := by decide +kernel
theorem dX2_init_39 : decode cX2_init 39 = .ok (.iconst 0, 1) := by decide +kernel
theorem dX2_init_40 : decode cX2_init 40 = .ok (.putfield 29, 3) := by decide +kernel
theorem dX2_init_43 : decode cX2_init 43 = .ok (.aload_n 0, 1) := by decide +kernel
theorem dX2_init_44 : decode cX2_init 44 = .ok (.iconst 0, 1) := by decide +kernel
theorem dX2_init_45 : decode cX2_init 45 = .ok (.putfield 33, 3) := by decide +kernel
theorem dX2_init_48 : decode cX2_init 48 = .ok (.aload_n 0, 1) := by decide +kernel
theorem dX2_init_49 : decode cX2_init 49 = .ok (.iconst 0, 1) := by decide +kernel
theorem dX2_init_50 : decode cX2_init 50 = .ok (.putfield 36, 3) := by decide +kernel
theorem dX2_init_53 : decode cX2_init 53 = .ok (.return_, 1) := by decide +kernel
theorem dX3_init_0 : decode cX3_init 0 = .ok (.aload_n 0, 1) := by decide +kernel
theorem dX3_init_1 : decode cX3_init 1 = .ok (.invokespecial 3, 3) := by decide +kernel
theorem dX3_init_4 : decode cX3_init 4 = .ok (.aload_n 0, 1) := by decide +kernel
theorem dX3_init_5 : decode cX3_init 5 = .ok (.new 9, 3) := by decide +kernel
theorem dX3_init_8 : decode cX3_init 8 = .ok (.dup, 1) := by decide +kernel
theorem dX3_init_9 : decode cX3_init 9 = .ok (.invokespecial 11, 3) := by decide +kernel
theorem dX3_init_12 : decode cX3_init 12 = .ok (.putfield 12, 3) := by decide +kernel
theorem dX3_init_15 : decode cX3_init 15 = .ok (.aload_n 0, 1) := by decide +kernel
theorem dX3_init_16 : decode cX3_init 16 = .ok (.iconst 0, 1) := by decide +kernel
theorem dX3_init_17 : decode cX3_init 17 = .ok (.putfield 18, 3) := by decide +kernel
theorem dX3_init_20 : decode cX3_init 20 = .ok (.aload_n 0, 1) := by decide +kernel
theorem dX3_init_21 : decode cX3_init 21 = .ok (.iconst 0, 1) := by decide +kernel
theorem dX3_init_22 : decode cX3_init 22 = .ok (.putfield 22, 3) := by decide +kernel
theorem dX3_init_25 : decode cX3_init 25 = .ok (.aload_n 0, 1) := by decide +kernel
theorem dX3_init_26 : decode cX3_init 26 = .ok (.iconst 0, 1) := by decide +kernel
theorem dX3_init_27 : decode cX3_init 27 = .ok (.putfield 25, 3) := by decide +kernel
theorem dX3_init_30 : decode cX3_init 30 = .ok (.aload_n 0, 1) := by decide +kernel
theorem dX3_init_31 : decode cX3_init 31 = .ok (.iconst 0, 1) := by decide +kernel
theorem dX3_init_32 : decode cX3_init 32 = .ok (.putfield 28, 3) := by decide +kernel
theorem dX3_init_35 : decode cX3_init 35 = .ok (.aload_n 0, 1) := by decide +kernel
theorem dX3_init_36 : decode cX3_init 36 = .ok (.bipush 18, 2) := by decide +kernel
theorem dX3_init_38 : decode cX3_init 38 = .ok (.newarray .int, 2) := by decide +kernel
theorem dX3_init_40 : decode cX3_init 40 = .ok (.putfield 31, 3) := by decide +kernel
theorem dX3_init_43 : decode cX3_init 43 = .ok (.return_, 1) := by decide +kernel
theorem dX3_findLeast_0 : decode cX3_findLeast 0 = .ok (.aload_n 0, 1) := by decide +kernel
theorem dX3_findLeast_1 : decode cX3_findLeast 1 = .ok (.getfield 12, 3) := by decide +kernel
theorem dX3_findLeast_4 : decode cX3_findLeast 4 = .ok (.aload_n 1, 1) := by decide +kernel
theorem dX3_findLeast_5 : decode cX3_findLeast 5 = .ok (.invokevirtual 35, 3) := by decide +kernel
theorem dX3_findLeast_8 : decode cX3_findLeast 8 = .ok (.istore_n 2, 1) := by decide +kernel
theorem dX3_findLeast_9 : decode cX3_findLeast 9 = .ok (.aload_n 0, 1) := by decide +kernel
theorem dX3_findLeast_10 : decode cX3_findLeast 10 = .ok (.iconst 0, 1) := by decide +kernel
theorem dX3_findLeast_11 : decode cX3_findLeast 11 = .ok (.putfield 18, 3) := by decide +kernel
theorem dX3_findLeast_14 : decode cX3_findLeast 14 = .ok (.aload_n 0, 1) := by decide +kernel
theorem dX3_findLeast_15 : decode cX3_findLeast 15 = .ok (.ldc 39, 2) := by decide +kernel
theorem dX3_findLeast_17 : decode cX3_findLeast 17 = .ok (.putfield 22, 3) := by decide +kernel
theorem dX3_findLeast_20 : decode cX3_findLeast 20 = .ok (.iconst 0, 1) := by decide +kernel
theorem dX3_findLeast_21 : decode cX3_findLeast 21 = .ok (.istore_n 3, 1) := by decide +kernel
theorem dX3_findLeast_22 : decode cX3_findLeast 22 = .ok (.iload_n 3, 1) := by decide +kernel
theorem dX3_findLeast_23 : decode cX3_findLeast 23 = .ok (.iload_n 2, 1) := by decide +kernel
theorem dX3_findLeast_24 : decode cX3_findLeast 24 = .ok (.if_icmp .ge 63, 3) := by decide +kernel
theorem dX3_findLeast_27 : decode cX3_findLeast 27 = .ok (.aload_n 0, 1) := by decide +kernel
theorem dX3_findLeast_28 : decode cX3_findLeast 28 = .ok (.getfield 12, 3) := by decide +kernel
theorem dX3_findLeast_31 : decode cX3_findLeast 31 = .ok (.iload_n 3, 1) := by decide +kernel
theorem dX3_findLeast_32 : decode cX3_findLeast 32 = .ok (.invokevirtual 40, 3) := by decide +kernel
theorem dX3_findLeast_35 : decode cX3_findLeast 35 = .ok (.aload_n 0, 1) := by decide +kernel
theorem dX3_findLeast_36 : decode cX3_findLeast 36 = .ok (.getfield 12, 3) := by decide +kernel
theorem dX3_findLeast_39 : decode cX3_findLeast 39 = .ok (.invokevirtual 44, 3) := by decide +kernel
theorem dX3_findLeast_42 : decode cX3_findLeast 42 = .ok (.ifCond .eq 39, 3) := by decide +kernel
theorem dX3_findLeast_45 : decode cX3_findLeast 45 = .ok (.aload_n 0, 1) := by decide +kernel
theorem dX3_findLeast_46 : decode cX3_findLeast 46 = .ok (.getfield 12, 3) := by decide +kernel
theorem dX3_findLeast_49 : decode cX3_findLeast 49 = .ok (.invokevirtual 48, 3) := by decide +kernel
theorem dX3_findLeast_52 : decode cX3_findLeast 52 = .ok (.aload_n 0, 1) := by decide +kernel
theorem dX3_findLeast_53 : decode cX3_findLeast 53 = .ok (.getfield 22, 3) := by decide +kernel
theorem dX3_findLeast_56 : decode cX3_findLeast 56 = .ok (.if_icmp .ge 25, 3) := by decide +kernel
theorem dX3_findLeast_59 : decode cX3_findLeast 59 = .ok (.aload_n 0, 1) := by decide +kernel
theorem dX3_findLeast_60 : decode cX3_findLeast 60 = .ok (.aload_n 0, 1) := by decide +kernel
theorem dX3_findLeast_61 : decode cX3_findLeast 61 = .ok (.getfield 12, 3) := by decide +kernel
theorem dX3_findLeast_64 : decode cX3_findLeast 64 = .ok (.invokevirtual 52, 3) := by decide +kernel
theorem dX3_findLeast_67 : decode cX3_findLeast 67 = .ok (.putfield 18, 3) := by decide +kernel
theorem dX3_findLeast_70 : decode cX3_findLeast 70 = .ok (.aload_n 0, 1) := by decide +kernel
theorem dX3_findLeast_71 : decode cX3_findLeast 71 = .ok (.aload_n 0, 1) := by decide +kernel
theorem dX3_findLeast_72 : decode cX3_findLeast 72 = .ok (.getfield 12, 3) := by decide +kernel
theorem dX3_findLeast_75 : decode cX3_findLeast 75 = .ok (.invokevirtual 48, 3) := by decide +kernel
theorem dX3_findLeast_78 : decode cX3_findLeast 78 = .ok (.putfield 22, 3) := by decide +kernel
theorem dX3_findLeast_81 : decode cX3_findLeast 81 = .ok (.iinc 3 1, 3) := by decide +kernel
theorem dX3_findLeast_84 : decode cX3_findLeast 84 = .ok (.goto (-62), 3) := by decide +kernel
theorem dX3_findLeast_87 : decode cX3_findLeast 87 = .ok (.return_, 1) := by decide +kernel
theorem dX3_countUpTo_0 : decode cX3_countUpTo 0 = .ok (.aload_n 0, 1) := by decide +kernel
theorem dX3_countUpTo_1 : decode cX3_countUpTo 1 = .ok (.getfield 12, 3) := by decide +kernel
theorem dX3_countUpTo_4 : decode cX3_countUpTo 4 = .ok (.aload_n 1, 1) := by decide +kernel
theorem dX3_countUpTo_5 : decode cX3_countUpTo 5 = .ok (.invokevirtual 35, 3) := by decide +kernel
theorem dX3_countUpTo_8 : decode cX3_countUpTo 8 = .ok (.istore_n 3, 1) := by decide +kernel
theorem dX3_countUpTo_9 : decode cX3_countUpTo 9 = .ok (.iconst 0, 1) := by decide +kernel
theorem dX3_countUpTo_10 : decode cX3_countUpTo 10 = .ok (.istore 4, 2) := by decide +kernel
theorem dX3_countUpTo_12 : decode cX3_countUpTo 12 = .ok (.iconst 0, 1) := by decide +kernel
theorem dX3_countUpTo_13 : decode cX3_countUpTo 13 = .ok (.istore 5, 2) := by decide +kernel
theorem dX3_countUpTo_15 : decode cX3_countUpTo 15 = .ok (.iload 5, 2) := by decide +kernel
theorem dX3_countUpTo_17 : decode cX3_countUpTo 17 = .ok (.iload_n 3, 1) := by decide +kernel
theorem dX3_countUpTo_18 : decode cX3_countUpTo 18 = .ok (.if_icmp .ge 42, 3) := by decide +kernel
theorem dX3_countUpTo_21 : decode cX3_countUpTo 21 = .ok (.aload_n 0, 1) := by decide +kernel
theorem dX3_countUpTo_22 : decode cX3_countUpTo 22 = .ok (.getfield 12, 3) := by decide +kernel
theorem dX3_countUpTo_25 : decode cX3_countUpTo 25 = .ok (.iload 5, 2) := by decide +kernel
theorem dX3_countUpTo_27 : decode cX3_countUpTo 27 = .ok (.invokevirtual 40, 3) := by decide +kernel
theorem dX3_countUpTo_30 : decode cX3_countUpTo 30 = .ok (.aload_n 0, 1) := by decide +kernel
theorem dX3_countUpTo_31 : decode cX3_countUpTo 31 = .ok (.getfield 12, 3) := by decide +kernel
theorem dX3_countUpTo_34 : decode cX3_countUpTo 34 = .ok (.invokevirtual 44, 3) := by decide +kernel
theorem dX3_countUpTo_37 : decode cX3_countUpTo 37 = .ok (.ifCond .eq 17, 3) := by decide +kernel
theorem dX3_countUpTo_40 : decode cX3_countUpTo 40 = .ok (.aload_n 0, 1) := by decide +kernel
theorem dX3_countUpTo_41 : decode cX3_countUpTo 41 = .ok (.getfield 12, 3) := by decide +kernel
theorem dX3_countUpTo_44 : decode cX3_countUpTo 44 = .ok (.invokevirtual 48, 3) := by decide +kernel
theorem dX3_countUpTo_47 : decode cX3_countUpTo 47 = .ok (.iload_n 2, 1) := by decide +kernel
theorem dX3_countUpTo_48 : decode cX3_countUpTo 48 = .ok (.if_icmp .gt 6, 3) := by decide +kernel
theorem dX3_countUpTo_51 : decode cX3_countUpTo 51 = .ok (.iinc 4 1, 3) := by decide +kernel
theorem dX3_countUpTo_54 : decode cX3_countUpTo 54 = .ok (.iinc 5 1, 3) := by decide +kernel
theorem dX3_countUpTo_57 : decode cX3_countUpTo 57 = .ok (.goto (-42), 3) := by decide +kernel
theorem dX3_countUpTo_60 : decode cX3_countUpTo 60 = .ok (.iload 4, 2) := by decide +kernel
theorem dX3_countUpTo_62 : decode cX3_countUpTo 62 = .ok (.ireturn, 1) := by decide +kernel
theorem dX3_countTight_0 : decode cX3_countTight 0 = .ok (.aload_n 0, 1) := by decide +kernel
theorem dX3_countTight_1 : decode cX3_countTight 1 = .ok (.getfield 12, 3) := by decide +kernel
theorem dX3_countTight_4 : decode cX3_countTight 4 = .ok (.aload_n 1, 1) := by decide +kernel
theorem dX3_countTight_5 : decode cX3_countTight 5 = .ok (.invokevirtual 35, 3) := by decide +kernel
theorem dX3_countTight_8 : decode cX3_countTight 8 = .ok (.istore_n 2, 1) := by decide +kernel
theorem dX3_countTight_9 : decode cX3_countTight 9 = .ok (.iconst 0, 1) := by decide +kernel
theorem dX3_countTight_10 : decode cX3_countTight 10 = .ok (.istore_n 3, 1) := by decide +kernel
theorem dX3_countTight_11 : decode cX3_countTight 11 = .ok (.iconst 0, 1) := by decide +kernel
theorem dX3_countTight_12 : decode cX3_countTight 12 = .ok (.istore 4, 2) := by decide +kernel
theorem dX3_countTight_14 : decode cX3_countTight 14 = .ok (.iload 4, 2) := by decide +kernel
theorem dX3_countTight_16 : decode cX3_countTight 16 = .ok (.iload_n 2, 1) := by decide +kernel
theorem dX3_countTight_17 : decode cX3_countTight 17 = .ok (.if_icmp .ge 41, 3) := by decide +kernel
theorem dX3_countTight_20 : decode cX3_countTight 20 = .ok (.aload_n 0, 1) := by decide +kernel
theorem dX3_countTight_21 : decode cX3_countTight 21 = .ok (.getfield 12, 3) := by decide +kernel
theorem dX3_countTight_24 : decode cX3_countTight 24 = .ok (.iload 4, 2) := by decide +kernel
theorem dX3_countTight_26 : decode cX3_countTight 26 = .ok (.invokevirtual 40, 3) := by decide +kernel
theorem dX3_countTight_29 : decode cX3_countTight 29 = .ok (.aload_n 0, 1) := by decide +kernel
theorem dX3_countTight_30 : decode cX3_countTight 30 = .ok (.getfield 12, 3) := by decide +kernel
theorem dX3_countTight_33 : decode cX3_countTight 33 = .ok (.invokevirtual 44, 3) := by decide +kernel
theorem dX3_countTight_36 : decode cX3_countTight 36 = .ok (.ifCond .eq 16, 3) := by decide +kernel
theorem dX3_countTight_39 : decode cX3_countTight 39 = .ok (.aload_n 0, 1) := by decide +kernel
theorem dX3_countTight_40 : decode cX3_countTight 40 = .ok (.getfield 12, 3) := by decide +kernel
theorem dX3_countTight_43 : decode cX3_countTight 43 = .ok (.invokevirtual 55, 3) := by decide +kernel
theorem dX3_countTight_46 : decode cX3_countTight 46 = .ok (.ifCond .eq 6, 3) := by decide +kernel
theorem dX3_countTight_49 : decode cX3_countTight 49 = .ok (.iinc 3 1, 3) := by decide +kernel
theorem dX3_countTight_52 : decode cX3_countTight 52 = .ok (.iinc 4 1, 3) := by decide +kernel
theorem dX3_countTight_55 : decode cX3_countTight 55 = .ok (.goto (-41), 3) := by decide +kernel
theorem dX3_countTight_58 : decode cX3_countTight 58 = .ok (.iload_n 3, 1) := by decide +kernel
theorem dX3_countTight_59 : decode cX3_countTight 59 = .ok (.ireturn, 1) := by decide +kernel
theorem dX3_findDearest_0 : decode cX3_findDearest 0 = .ok (.aload_n 0, 1) := by decide +kernel
theorem dX3_findDearest_1 : decode cX3_findDearest 1 = .ok (.aload_n 1, 1) := by decide +kernel
theorem dX3_findDearest_2 : decode cX3_findDearest 2 = .ok (.invokevirtual 74, 3) := by decide +kernel
theorem dX3_findDearest_5 : decode cX3_findDearest 5 = .ok (.aload_n 0, 1) := by decide +kernel
theorem dX3_findDearest_6 : decode cX3_findDearest 6 = .ok (.bipush (-6), 2) := by decide +kernel
theorem dX3_findDearest_8 : decode cX3_findDearest 8 = .ok (.putfield 25, 3) := by decide +kernel
theorem dX3_findDearest_11 : decode cX3_findDearest 11 = .ok (.aload_n 0, 1) := by decide +kernel
theorem dX3_findDearest_12 : decode cX3_findDearest 12 = .ok (.ldc 39, 2) := by decide +kernel
theorem dX3_findDearest_14 : decode cX3_findDearest 14 = .ok (.putfield 28, 3) := by decide +kernel
theorem dX3_findDearest_17 : decode cX3_findDearest 17 = .ok (.iconst 0, 1) := by decide +kernel
theorem dX3_findDearest_18 : decode cX3_findDearest 18 = .ok (.istore_n 2, 1) := by decide +kernel
theorem dX3_findDearest_19 : decode cX3_findDearest 19 = .ok (.iload_n 2, 1) := by decide +kernel
theorem dX3_findDearest_20 : decode cX3_findDearest 20 = .ok (.bipush 18, 2) := by decide +kernel
theorem dX3_findDearest_22 : decode cX3_findDearest 22 = .ok (.if_icmp .ge 52, 3) := by decide +kernel
theorem dX3_findDearest_25 : decode cX3_findDearest 25 = .ok (.aload_n 0, 1) := by decide +kernel
theorem dX3_findDearest_26 : decode cX3_findDearest 26 = .ok (.getfield 22, 3) := by decide +kernel
theorem dX3_findDearest_29 : decode cX3_findDearest 29 = .ok (.aload_n 0, 1) := by decide +kernel
theorem dX3_findDearest_30 : decode cX3_findDearest 30 = .ok (.getfield 31, 3) := by decide +kernel
theorem dX3_findDearest_33 : decode cX3_findDearest 33 = .ok (.iload_n 2, 1) := by decide +kernel
theorem dX3_findDearest_34 : decode cX3_findDearest 34 = .ok (.iaload, 1) := by decide +kernel
theorem dX3_findDearest_35 : decode cX3_findDearest 35 = .ok (.invokestatic 62, 3) := by decide +kernel
theorem dX3_findDearest_38 : decode cX3_findDearest 38 = .ok (.istore_n 3, 1) := by decide +kernel
theorem dX3_findDearest_39 : decode cX3_findDearest 39 = .ok (.aload_n 1, 1) := by decide +kernel
theorem dX3_findDearest_40 : decode cX3_findDearest 40 = .ok (.getfield 78, 3) := by decide +kernel
theorem dX3_findDearest_43 : decode cX3_findDearest 43 = .ok (.iload_n 2, 1) := by decide +kernel
theorem dX3_findDearest_44 : decode cX3_findDearest 44 = .ok (.invokestatic 58, 3) := by decide +kernel
theorem dX3_findDearest_47 : decode cX3_findDearest 47 = .ok (.ifCond .eq 21, 3) := by decide +kernel
theorem dX3_findDearest_50 : decode cX3_findDearest 50 = .ok (.iload_n 3, 1) := by decide +kernel
theorem dX3_findDearest_51 : decode cX3_findDearest 51 = .ok (.aload_n 0, 1) := by decide +kernel
theorem dX3_findDearest_52 : decode cX3_findDearest 52 = .ok (.getfield 28, 3) := by decide +kernel
theorem dX3_findDearest_55 : decode cX3_findDearest 55 = .ok (.if_icmp .ge 13, 3) := by decide +kernel
theorem dX3_findDearest_58 : decode cX3_findDearest 58 = .ok (.aload_n 0, 1) := by decide +kernel
theorem dX3_findDearest_59 : decode cX3_findDearest 59 = .ok (.iload_n 2, 1) := by decide +kernel
theorem dX3_findDearest_60 : decode cX3_findDearest 60 = .ok (.putfield 25, 3) := by decide +kernel
theorem dX3_findDearest_63 : decode cX3_findDearest 63 = .ok (.aload_n 0, 1) := by decide +kernel
theorem dX3_findDearest_64 : decode cX3_findDearest 64 = .ok (.iload_n 3, 1) := by decide +kernel
theorem dX3_findDearest_65 : decode cX3_findDearest 65 = .ok (.putfield 28, 3) := by decide +kernel
theorem dX3_findDearest_68 : decode cX3_findDearest 68 = .ok (.iinc 2 1, 3) := by decide +kernel
theorem dX3_findDearest_71 : decode cX3_findDearest 71 = .ok (.goto (-52), 3) := by decide +kernel
theorem dX3_findDearest_74 : decode cX3_findDearest 74 = .ok (.return_, 1) := by decide +kernel
theorem dX3_findLeastMissingOne_0 : decode cX3_findLeastMissingOne 0 = .ok (.aload_n 0, 1) := by decide +kernel
theorem dX3_findLeastMissingOne_1 : decode cX3_findLeastMissingOne 1 = .ok (.getfield 12, 3) := by decide +kernel
theorem dX3_findLeastMissingOne_4 : decode cX3_findLeastMissingOne 4 = .ok (.aload_n 1, 1) := by decide +kernel
theorem dX3_findLeastMissingOne_5 : decode cX3_findLeastMissingOne 5 = .ok (.invokevirtual 35, 3) := by decide +kernel
theorem dX3_findLeastMissingOne_8 : decode cX3_findLeastMissingOne 8 = .ok (.istore_n 2, 1) := by decide +kernel
theorem dX3_findLeastMissingOne_9 : decode cX3_findLeastMissingOne 9 = .ok (.aload_n 0, 1) := by decide +kernel
theorem dX3_findLeastMissingOne_10 : decode cX3_findLeastMissingOne 10 = .ok (.ldc 39, 2) := by decide +kernel
theorem dX3_findLeastMissingOne_12 : decode cX3_findLeastMissingOne 12 = .ok (.putfield 22, 3) := by decide +kernel
theorem dX3_findLeastMissingOne_15 : decode cX3_findLeastMissingOne 15 = .ok (.aload_n 0, 1) := by decide +kernel
theorem dX3_findLeastMissingOne_16 : decode cX3_findLeastMissingOne 16 = .ok (.getfield 31, 3) := by decide +kernel
theorem dX3_findLeastMissingOne_19 : decode cX3_findLeastMissingOne 19 = .ok (.ldc 39, 2) := by decide +kernel
theorem dX3_findLeastMissingOne_21 : decode cX3_findLeastMissingOne 21 = .ok (.invokestatic 81, 3) := by decide +kernel
theorem dX3_findLeastMissingOne_24 : decode cX3_findLeastMissingOne 24 = .ok (.iconst 0, 1) := by decide +kernel
theorem dX3_findLeastMissingOne_25 : decode cX3_findLeastMissingOne 25 = .ok (.istore_n 3, 1) := by decide +kernel
theorem dX3_findLeastMissingOne_26 : decode cX3_findLeastMissingOne 26 = .ok (.iload_n 3, 1) := by decide +kernel
theorem dX3_findLeastMissingOne_27 : decode cX3_findLeastMissingOne 27 = .ok (.iload_n 2, 1) := by decide +kernel
theorem dX3_findLeastMissingOne_28 : decode cX3_findLeastMissingOne 28 = .ok (.if_icmp .ge 77, 3) := by decide +kernel
theorem dX3_findLeastMissingOne_31 : decode cX3_findLeastMissingOne 31 = .ok (.aload_n 0, 1) := by decide +kernel
theorem dX3_findLeastMissingOne_32 : decode cX3_findLeastMissingOne 32 = .ok (.getfield 12, 3) := by decide +kernel
theorem dX3_findLeastMissingOne_35 : decode cX3_findLeastMissingOne 35 = .ok (.iload_n 3, 1) := by decide +kernel
theorem dX3_findLeastMissingOne_36 : decode cX3_findLeastMissingOne 36 = .ok (.invokevirtual 40, 3) := by decide +kernel
theorem dX3_findLeastMissingOne_39 : decode cX3_findLeastMissingOne 39 = .ok (.aload_n 0, 1) := by decide +kernel
theorem dX3_findLeastMissingOne_40 : decode cX3_findLeastMissingOne 40 = .ok (.getfield 12, 3) := by decide +kernel
theorem dX3_findLeastMissingOne_43 : decode cX3_findLeastMissingOne 43 = .ok (.invokevirtual 87, 3) := by decide +kernel
theorem dX3_findLeastMissingOne_46 : decode cX3_findLeastMissingOne 46 = .ok (.istore 4, 2) := by decide +kernel
theorem dX3_findLeastMissingOne_48 : decode cX3_findLeastMissingOne 48 = .ok (.iload 4, 2) := by decide +kernel
theorem dX3_findLeastMissingOne_50 : decode cX3_findLeastMissingOne 50 = .ok (.ifCond .ne 24, 3) := by decide +kernel
theorem dX3_findLeastMissingOne_53 : decode cX3_findLeastMissingOne 53 = .ok (.aload_n 0, 1) := by decide +kernel
theorem dX3_findLeastMissingOne_54 : decode cX3_findLeastMissingOne 54 = .ok (.aload_n 0, 1) := by decide +kernel
theorem dX3_findLeastMissingOne_55 : decode cX3_findLeastMissingOne 55 = .ok (.getfield 22, 3) := by decide +kernel
theorem dX3_findLeastMissingOne_58 : decode cX3_findLeastMissingOne 58 = .ok (.aload_n 0, 1) := by decide +kernel
theorem dX3_findLeastMissingOne_59 : decode cX3_findLeastMissingOne 59 = .ok (.getfield 12, 3) := by decide +kernel
theorem dX3_findLeastMissingOne_62 : decode cX3_findLeastMissingOne 62 = .ok (.invokevirtual 48, 3) := by decide +kernel
theorem dX3_findLeastMissingOne_65 : decode cX3_findLeastMissingOne 65 = .ok (.invokestatic 62, 3) := by decide +kernel
theorem dX3_findLeastMissingOne_68 : decode cX3_findLeastMissingOne 68 = .ok (.putfield 22, 3) := by decide +kernel
theorem dX3_findLeastMissingOne_71 : decode cX3_findLeastMissingOne 71 = .ok (.goto 28, 3) := by decide +kernel
theorem dX3_findLeastMissingOne_74 : decode cX3_findLeastMissingOne 74 = .ok (.iload 4, 2) := by decide +kernel
theorem dX3_findLeastMissingOne_76 : decode cX3_findLeastMissingOne 76 = .ok (.invokestatic 90, 3) := by decide +kernel
theorem dX3_findLeastMissingOne_79 : decode cX3_findLeastMissingOne 79 = .ok (.iconst 1, 1) := by decide +kernel
theorem dX3_findLeastMissingOne_80 : decode cX3_findLeastMissingOne 80 = .ok (.if_icmp .ne 19, 3) := by decide +kernel
theorem dX3_findLeastMissingOne_83 : decode cX3_findLeastMissingOne 83 = .ok (.aload_n 0, 1) := by decide +kernel
theorem dX3_findLeastMissingOne_84 : decode cX3_findLeastMissingOne 84 = .ok (.iload 4, 2) := by decide +kernel
theorem dX3_findLeastMissingOne_86 : decode cX3_findLeastMissingOne 86 = .ok (.invokestatic 95, 3) := by decide +kernel
theorem dX3_findLeastMissingOne_89 : decode cX3_findLeastMissingOne 89 = .ok (.aload_n 0, 1) := by decide +kernel
theorem dX3_findLeastMissingOne_90 : decode cX3_findLeastMissingOne 90 = .ok (.getfield 12, 3) := by decide +kernel
theorem dX3_findLeastMissingOne_93 : decode cX3_findLeastMissingOne 93 = .ok (.invokevirtual 48, 3) := by decide +kernel
theorem dX3_findLeastMissingOne_96 : decode cX3_findLeastMissingOne 96 = .ok (.invokevirtual 98, 3) := by decide +kernel
theorem dX3_findLeastMissingOne_99 : decode cX3_findLeastMissingOne 99 = .ok (.iinc 3 1, 3) := by decide +kernel
theorem dX3_findLeastMissingOne_102 : decode cX3_findLeastMissingOne 102 = .ok (.goto (-76), 3) := by decide +kernel
theorem dX3_findLeastMissingOne_105 : decode cX3_findLeastMissingOne 105 = .ok (.return_, 1) := by decide +kernel
theorem dX3_noteMissingOne_0 : decode cX3_noteMissingOne 0 = .ok (.iload_n 1, 1) := by decide +kernel
theorem dX3_noteMissingOne_1 : decode cX3_noteMissingOne 1 = .ok (.bipush 18, 2) := by decide +kernel
theorem dX3_noteMissingOne_3 : decode cX3_noteMissingOne 3 = .ok (.if_icmp .ge 19, 3) := by decide +kernel
theorem dX3_noteMissingOne_6 : decode cX3_noteMissingOne 6 = .ok (.aload_n 0, 1) := by decide +kernel
theorem dX3_noteMissingOne_7 : decode cX3_noteMissingOne 7 = .ok (.getfield 31, 3) := by decide +kernel
theorem dX3_noteMissingOne_10 : decode cX3_noteMissingOne 10 = .ok (.iload_n 1, 1) := by decide +kernel
theorem dX3_noteMissingOne_11 : decode cX3_noteMissingOne 11 = .ok (.aload_n 0, 1) := by decide +kernel
theorem dX3_noteMissingOne_12 : decode cX3_noteMissingOne 12 = .ok (.getfield 31, 3) := by decide +kernel
theorem dX3_noteMissingOne_15 : decode cX3_noteMissingOne 15 = .ok (.iload_n 1, 1) := by decide +kernel
theorem dX3_noteMissingOne_16 : decode cX3_noteMissingOne 16 = .ok (.iaload, 1) := by decide +kernel
theorem dX3_noteMissingOne_17 : decode cX3_noteMissingOne 17 = .ok (.iload_n 2, 1) := by decide +kernel
theorem dX3_noteMissingOne_18 : decode cX3_noteMissingOne 18 = .ok (.invokestatic 62, 3) := by decide +kernel
theorem dX3_noteMissingOne_21 : decode cX3_noteMissingOne 21 = .ok (.iastore, 1) := by decide +kernel
theorem dX3_noteMissingOne_22 : decode cX3_noteMissingOne 22 = .ok (.return_, 1) := by decide +kernel
theorem dX4_init_0 : decode cX4_init 0 = .ok (.aload_n 0, 1) := by decide +kernel
theorem dX4_init_1 : decode cX4_init 1 = .ok (.invokespecial 3, 3) := by decide +kernel
theorem dX4_init_4 : decode cX4_init 4 = .ok (.aload_n 0, 1) := by decide +kernel
theorem dX4_init_5 : decode cX4_init 5 = .ok (.iconst 0, 1) := by decide +kernel
theorem dX4_init_6 : decode cX4_init 6 = .ok (.putfield 9, 3) := by decide +kernel
theorem dX4_init_9 : decode cX4_init 9 = .ok (.aload_n 0, 1) := by decide +kernel
theorem dX4_init_10 : decode cX4_init 10 = .ok (.iconst 0, 1) := by decide +kernel
theorem dX4_init_11 : decode cX4_init 11 = .ok (.putfield 15, 3) := by decide +kernel
theorem dX4_init_14 : decode cX4_init 14 = .ok (.aload_n 0, 1) := by decide +kernel
theorem dX4_init_15 : decode cX4_init 15 = .ok (.iconst 0, 1) := by decide +kernel
theorem dX4_init_16 : decode cX4_init 16 = .ok (.putfield 18, 3) := by decide +kernel
theorem dX4_init_19 : decode cX4_init 19 = .ok (.aload_n 0, 1) := by decide +kernel
theorem dX4_init_20 : decode cX4_init 20 = .ok (.iconst 0, 1) := by decide +kernel
theorem dX4_init_21 : decode cX4_init 21 = .ok (.putfield 21, 3) := by decide +kernel
theorem dX4_init_24 : decode cX4_init 24 = .ok (.aload_n 0, 1) := by decide +kernel
theorem dX4_init_25 : decode cX4_init 25 = .ok (.iconst 0, 1) := by decide +kernel
theorem dX4_init_26 : decode cX4_init 26 = .ok (.putfield 24, 3) := by decide +kernel
theorem dX4_init_29 : decode cX4_init 29 = .ok (.aload_n 0, 1) := by decide +kernel
theorem dX4_init_30 : decode cX4_init 30 = .ok (.iconst 0, 1) := by decide +kernel
theorem dX4_init_31 : decode cX4_init 31 = .ok (.putfield 27, 3) := by decide +kernel
theorem dX4_init_34 : decode cX4_init 34 = .ok (.aload_n 0, 1) := by decide +kernel
theorem dX4_init_35 : decode cX4_init 35 = .ok (.bipush 18, 2) := by decide +kernel
theorem dX4_init_37 : decode cX4_init 37 = .ok (.newarray .int, 2) := by decide +kernel
theorem dX4_init_39 : decode cX4_init 39 = .ok (.putfield 30, 3) := by decide +kernel
theorem dX4_init_42 : decode cX4_init 42 = .ok (.aload_n 0, 1) := by decide +kernel
theorem dX4_init_43 : decode cX4_init 43 = .ok (.bipush 14, 2) := by decide +kernel
theorem dX4_init_45 : decode cX4_init 45 = .ok (.newarray .int, 2) := by decide +kernel
theorem dX4_init_47 : decode cX4_init 47 = .ok (.putfield 34, 3) := by decide +kernel
theorem dX4_init_50 : decode cX4_init 50 = .ok (.aload_n 0, 1) := by decide +kernel
theorem dX4_init_51 : decode cX4_init 51 = .ok (.bipush 14, 2) := by decide +kernel
theorem dX4_init_53 : decode cX4_init 53 = .ok (.newarray .int, 2) := by decide +kernel
theorem dX4_init_55 : decode cX4_init 55 = .ok (.putfield 37, 3) := by decide +kernel
theorem dX4_init_58 : decode cX4_init 58 = .ok (.aload_n 0, 1) := by decide +kernel
theorem dX4_init_59 : decode cX4_init 59 = .ok (.bipush 14, 2) := by decide +kernel
theorem dX4_init_61 : decode cX4_init 61 = .ok (.newarray .int, 2) := by decide +kernel
theorem dX4_init_63 : decode cX4_init 63 = .ok (.putfield 40, 3) := by decide +kernel
theorem dX4_init_66 : decode cX4_init 66 = .ok (.return_, 1) := by decide +kernel
theorem dX4_raiseAll_0 : decode cX4_raiseAll 0 = .ok (.aload_n 0, 1) := by decide +kernel
theorem dX4_raiseAll_1 : decode cX4_raiseAll 1 = .ok (.aload_n 1, 1) := by decide +kernel
theorem dX4_raiseAll_2 : decode cX4_raiseAll 2 = .ok (.invokevirtual 43, 3) := by decide +kernel
theorem dX4_raiseAll_5 : decode cX4_raiseAll 5 = .ok (.iconst 0, 1) := by decide +kernel
theorem dX4_raiseAll_6 : decode cX4_raiseAll 6 = .ok (.istore_n 2, 1) := by decide +kernel
theorem dX4_raiseAll_7 : decode cX4_raiseAll 7 = .ok (.iload_n 2, 1) := by decide +kernel
theorem dX4_raiseAll_8 : decode cX4_raiseAll 8 = .ok (.sipush 500, 3) := by decide +kernel
theorem dX4_raiseAll_11 : decode cX4_raiseAll 11 = .ok (.if_icmp .ge 28, 3) := by decide +kernel
theorem dX4_raiseAll_14 : decode cX4_raiseAll 14 = .ok (.aload_n 0, 1) := by decide +kernel
theorem dX4_raiseAll_15 : decode cX4_raiseAll 15 = .ok (.getfield 9, 3) := by decide +kernel
theorem dX4_raiseAll_18 : decode cX4_raiseAll 18 = .ok (.aload_n 0, 1) := by decide +kernel
theorem dX4_raiseAll_19 : decode cX4_raiseAll 19 = .ok (.getfield 15, 3) := by decide +kernel
theorem dX4_raiseAll_22 : decode cX4_raiseAll 22 = .ok (.iconst (-1), 1) := by decide +kernel
theorem dX4_raiseAll_23 : decode cX4_raiseAll 23 = .ok (.ixor, 1) := by decide +kernel
theorem dX4_raiseAll_24 : decode cX4_raiseAll 24 = .ok (.iand, 1) := by decide +kernel
theorem dX4_raiseAll_25 : decode cX4_raiseAll 25 = .ok (.ifCond .eq 14, 3) := by decide +kernel
theorem dX4_raiseAll_28 : decode cX4_raiseAll 28 = .ok (.aload_n 0, 1) := by decide +kernel
theorem dX4_raiseAll_29 : decode cX4_raiseAll 29 = .ok (.aload_n 1, 1) := by decide +kernel
theorem dX4_raiseAll_30 : decode cX4_raiseAll 30 = .ok (.invokevirtual 47, 3) := by decide +kernel
theorem dX4_raiseAll_33 : decode cX4_raiseAll 33 = .ok (.iinc 2 1, 3) := by decide +kernel
theorem dX4_raiseAll_36 : decode cX4_raiseAll 36 = .ok (.goto (-29), 3) := by decide +kernel
theorem dX4_raiseAll_39 : decode cX4_raiseAll 39 = .ok (.aload_n 0, 1) := by decide +kernel
theorem dX4_raiseAll_40 : decode cX4_raiseAll 40 = .ok (.aload_n 1, 1) := by decide +kernel
theorem dX4_raiseAll_41 : decode cX4_raiseAll 41 = .ok (.invokevirtual 50, 3) := by decide +kernel
theorem dX4_raiseAll_44 : decode cX4_raiseAll 44 = .ok (.return_, 1) := by decide +kernel
theorem dX4_begin_0 : decode cX4_begin 0 = .ok (.aload_n 0, 1) := by decide +kernel
theorem dX4_begin_1 : decode cX4_begin 1 = .ok (.aload_n 1, 1) := by decide +kernel
theorem dX4_begin_2 : decode cX4_begin 2 = .ok (.aload_n 1, 1) := by decide +kernel
theorem dX4_begin_3 : decode cX4_begin 3 = .ok (.iconst 1, 1) := by decide +kernel
theorem dX4_begin_4 : decode cX4_begin 4 = .ok (.invokevirtual 53, 3) := by decide +kernel
theorem dX4_begin_7 : decode cX4_begin 7 = .ok (.invokevirtual 59, 3) := by decide +kernel
theorem dX4_begin_10 : decode cX4_begin 10 = .ok (.putfield 9, 3) := by decide +kernel
theorem dX4_begin_13 : decode cX4_begin 13 = .ok (.aload_n 0, 1) := by decide +kernel
theorem dX4_begin_14 : decode cX4_begin 14 = .ok (.iconst 0, 1) := by decide +kernel
theorem dX4_begin_15 : decode cX4_begin 15 = .ok (.putfield 15, 3) := by decide +kernel
theorem dX4_begin_18 : decode cX4_begin 18 = .ok (.aload_n 0, 1) := by decide +kernel
theorem dX4_begin_19 : decode cX4_begin 19 = .ok (.iconst 0, 1) := by decide +kernel
theorem dX4_begin_20 : decode cX4_begin 20 = .ok (.putfield 18, 3) := by decide +kernel
theorem dX4_begin_23 : decode cX4_begin 23 = .ok (.aload_n 0, 1) := by decide +kernel
theorem dX4_begin_24 : decode cX4_begin 24 = .ok (.iconst 0, 1) := by decide +kernel
theorem dX4_begin_25 : decode cX4_begin 25 = .ok (.putfield 21, 3) := by decide +kernel
theorem dX4_begin_28 : decode cX4_begin 28 = .ok (.aload_n 0, 1) := by decide +kernel
theorem dX4_begin_29 : decode cX4_begin 29 = .ok (.iconst 0, 1) := by decide +kernel
theorem dX4_begin_30 : decode cX4_begin 30 = .ok (.putfield 24, 3) := by decide +kernel
theorem dX4_begin_33 : decode cX4_begin 33 = .ok (.aload_n 0, 1) := by decide +kernel
theorem dX4_begin_34 : decode cX4_begin 34 = .ok (.iconst 0, 1) := by decide +kernel
theorem dX4_begin_35 : decode cX4_begin 35 = .ok (.putfield 27, 3) := by decide +kernel
theorem dX4_begin_38 : decode cX4_begin 38 = .ok (.aload_n 0, 1) := by decide +kernel
theorem dX4_begin_39 : decode cX4_begin 39 = .ok (.getfield 30, 3) := by decide +kernel
theorem dX4_begin_42 : decode cX4_begin 42 = .ok (.iconst 0, 1) := by decide +kernel
theorem dX4_begin_43 : decode cX4_begin 43 = .ok (.invokestatic 62, 3) := by decide +kernel
theorem dX4_begin_46 : decode cX4_begin 46 = .ok (.aload_n 0, 1) := by decide +kernel
theorem dX4_begin_47 : decode cX4_begin 47 = .ok (.getfield 34, 3) := by decide +kernel
theorem dX4_begin_50 : decode cX4_begin 50 = .ok (.iconst 0, 1) := by decide +kernel
theorem dX4_begin_51 : decode cX4_begin 51 = .ok (.invokestatic 62, 3) := by decide +kernel
theorem dX4_begin_54 : decode cX4_begin 54 = .ok (.aload_n 0, 1) := by decide +kernel
theorem dX4_begin_55 : decode cX4_begin 55 = .ok (.getfield 37, 3) := by decide +kernel
theorem dX4_begin_58 : decode cX4_begin 58 = .ok (.bipush (-6), 2) := by decide +kernel
theorem dX4_begin_60 : decode cX4_begin 60 = .ok (.invokestatic 62, 3) := by decide +kernel
theorem dX4_begin_63 : decode cX4_begin 63 = .ok (.return_, 1) := by decide +kernel
theorem dX4_makeRound_0 : decode cX4_makeRound 0 = .ok (.aload_n 0, 1) := by decide +kernel
theorem dX4_makeRound_1 : decode cX4_makeRound 1 = .ok (.dup, 1) := by decide +kernel
theorem dX4_makeRound_2 : decode cX4_makeRound 2 = .ok (.getfield 18, 3) := by decide +kernel
theorem dX4_makeRound_5 : decode cX4_makeRound 5 = .ok (.iconst 1, 1) := by decide +kernel
theorem dX4_makeRound_6 : decode cX4_makeRound 6 = .ok (.iadd, 1) := by decide +kernel
theorem dX4_makeRound_7 : decode cX4_makeRound 7 = .ok (.putfield 18, 3) := by decide +kernel
theorem dX4_makeRound_10 : decode cX4_makeRound 10 = .ok (.iconst 0, 1) := by decide +kernel
theorem dX4_makeRound_11 : decode cX4_makeRound 11 = .ok (.istore_n 2, 1) := by decide +kernel
theorem dX4_makeRound_12 : decode cX4_makeRound 12 = .ok (.iload_n 2, 1) := by decide +kernel
theorem dX4_makeRound_13 : decode cX4_makeRound 13 = .ok (.bipush 18, 2) := by decide +kernel
theorem dX4_makeRound_15 : decode cX4_makeRound 15 = .ok (.if_icmp .ge 43, 3) := by decide +kernel
theorem dX4_makeRound_18 : decode cX4_makeRound 18 = .ok (.aload_n 0, 1) := by decide +kernel
theorem dX4_makeRound_19 : decode cX4_makeRound 19 = .ok (.getfield 9, 3) := by decide +kernel
theorem dX4_makeRound_22 : decode cX4_makeRound 22 = .ok (.aload_n 0, 1) := by decide +kernel
theorem dX4_makeRound_23 : decode cX4_makeRound 23 = .ok (.getfield 15, 3) := by decide +kernel
theorem dX4_makeRound_26 : decode cX4_makeRound 26 = .ok (.iconst (-1), 1) := by decide +kernel
theorem dX4_makeRound_27 : decode cX4_makeRound 27 = .ok (.ixor, 1) := by decide +kernel
theorem dX4_makeRound_28 : decode cX4_makeRound 28 = .ok (.iand, 1) := by decide +kernel
theorem dX4_makeRound_29 : decode cX4_makeRound 29 = .ok (.iload_n 2, 1) := by decide +kernel
theorem dX4_makeRound_30 : decode cX4_makeRound 30 = .ok (.invokestatic 68, 3) := by decide +kernel
theorem dX4_makeRound_33 : decode cX4_makeRound 33 = .ok (.ifCond .eq 19, 3) := by decide +kernel
theorem dX4_makeRound_36 : decode cX4_makeRound 36 = .ok (.aload_n 0, 1) := by decide +kernel
theorem dX4_makeRound_37 : decode cX4_makeRound 37 = .ok (.getfield 30, 3) := by decide +kernel
theorem dX4_makeRound_40 : decode cX4_makeRound 40 = .ok (.iload_n 2, 1) := by decide +kernel
theorem dX4_makeRound_41 : decode cX4_makeRound 41 = .ok (.dup2, 1) := by decide +kernel
theorem dX4_makeRound_42 : decode cX4_makeRound 42 = .ok (.iaload, 1) := by decide +kernel
theorem dX4_makeRound_43 : decode cX4_makeRound 43 = .ok (.iconst 1, 1) := by decide +kernel
theorem dX4_makeRound_44 : decode cX4_makeRound 44 = .ok (.iadd, 1) := by decide +kernel
theorem dX4_makeRound_45 : decode cX4_makeRound 45 = .ok (.iastore, 1) := by decide +kernel
theorem dX4_makeRound_46 : decode cX4_makeRound 46 = .ok (.aload_n 0, 1) := by decide +kernel
theorem dX4_makeRound_47 : decode cX4_makeRound 47 = .ok (.iload_n 2, 1) := by decide +kernel
theorem dX4_makeRound_48 : decode cX4_makeRound 48 = .ok (.aload_n 1, 1) := by decide +kernel
theorem dX4_makeRound_49 : decode cX4_makeRound 49 = .ok (.invokevirtual 72, 3) := by decide +kernel
theorem dX4_makeRound_52 : decode cX4_makeRound 52 = .ok (.iinc 2 1, 3) := by decide +kernel
theorem dX4_makeRound_55 : decode cX4_makeRound 55 = .ok (.goto (-43), 3) := by decide +kernel
theorem dX4_makeRound_58 : decode cX4_makeRound 58 = .ok (.return_, 1) := by decide +kernel
theorem dX4_fillSetsWith_0 : decode cX4_fillSetsWith 0 = .ok (.iconst 0, 1) := by decide +kernel
theorem dX4_fillSetsWith_1 : decode cX4_fillSetsWith 1 = .ok (.istore_n 3, 1) := by decide +kernel
theorem dX4_fillSetsWith_2 : decode cX4_fillSetsWith 2 = .ok (.iload_n 3, 1) := by decide +kernel
theorem dX4_fillSetsWith_3 : decode cX4_fillSetsWith 3 = .ok (.aload_n 2, 1) := by decide +kernel
theorem dX4_fillSetsWith_4 : decode cX4_fillSetsWith 4 = .ok (.getfield 76, 3) := by decide +kernel
theorem dX4_fillSetsWith_7 : decode cX4_fillSetsWith 7 = .ok (.if_icmp .ge 67, 3) := by decide +kernel
theorem dX4_fillSetsWith_10 : decode cX4_fillSetsWith 10 = .ok (.aload_n 2, 1) := by decide +kernel
theorem dX4_fillSetsWith_11 : decode cX4_fillSetsWith 11 = .ok (.getfield 79, 3) := by decide +kernel
theorem dX4_fillSetsWith_14 : decode cX4_fillSetsWith 14 = .ok (.iload_n 3, 1) := by decide +kernel
theorem dX4_fillSetsWith_15 : decode cX4_fillSetsWith 15 = .ok (.iaload, 1) := by decide +kernel
theorem dX4_fillSetsWith_16 : decode cX4_fillSetsWith 16 = .ok (.ifCond .ne 52, 3) := by decide +kernel
theorem dX4_fillSetsWith_19 : decode cX4_fillSetsWith 19 = .ok (.aload_n 2, 1) := by decide +kernel
theorem dX4_fillSetsWith_20 : decode cX4_fillSetsWith 20 = .ok (.getfield 82, 3) := by decide +kernel
theorem dX4_fillSetsWith_23 : decode cX4_fillSetsWith 23 = .ok (.iload_n 3, 1) := by decide +kernel
theorem dX4_fillSetsWith_24 : decode cX4_fillSetsWith 24 = .ok (.iaload, 1) := by decide +kernel
theorem dX4_fillSetsWith_25 : decode cX4_fillSetsWith 25 = .ok (.iload_n 1, 1) := by decide +kernel
theorem dX4_fillSetsWith_26 : decode cX4_fillSetsWith 26 = .ok (.invokestatic 68, 3) := by decide +kernel
theorem dX4_fillSetsWith_29 : decode cX4_fillSetsWith 29 = .ok (.ifCond .eq 39, 3) := by decide +kernel
theorem dX4_fillSetsWith_32 : decode cX4_fillSetsWith 32 = .ok (.aload_n 0, 1) := by decide +kernel
theorem dX4_fillSetsWith_33 : decode cX4_fillSetsWith 33 = .ok (.getfield 34, 3) := by decide +kernel
theorem dX4_fillSetsWith_36 : decode cX4_fillSetsWith 36 = .ok (.iload_n 3, 1) := by decide +kernel
theorem dX4_fillSetsWith_37 : decode cX4_fillSetsWith 37 = .ok (.dup2, 1) := by decide +kernel
theorem dX4_fillSetsWith_38 : decode cX4_fillSetsWith 38 = .ok (.iaload, 1) := by decide +kernel
theorem dX4_fillSetsWith_39 : decode cX4_fillSetsWith 39 = .ok (.iconst 1, 1) := by decide +kernel
theorem dX4_fillSetsWith_40 : decode cX4_fillSetsWith 40 = .ok (.iadd, 1) := by decide +kernel
theorem dX4_fillSetsWith_41 : decode cX4_fillSetsWith 41 = .ok (.iastore, 1) := by decide +kernel
theorem dX4_fillSetsWith_42 : decode cX4_fillSetsWith 42 = .ok (.aload_n 0, 1) := by decide +kernel
theorem dX4_fillSetsWith_43 : decode cX4_fillSetsWith 43 = .ok (.getfield 34, 3) := by decide +kernel
theorem dX4_fillSetsWith_46 : decode cX4_fillSetsWith 46 = .ok (.iload_n 3, 1) := by decide +kernel
theorem dX4_fillSetsWith_47 : decode cX4_fillSetsWith 47 = .ok (.iaload, 1) := by decide +kernel
theorem dX4_fillSetsWith_48 : decode cX4_fillSetsWith 48 = .ok (.aload_n 2, 1) := by decide +kernel
theorem dX4_fillSetsWith_49 : decode cX4_fillSetsWith 49 = .ok (.getfield 85, 3) := by decide +kernel
theorem dX4_fillSetsWith_52 : decode cX4_fillSetsWith 52 = .ok (.iload_n 3, 1) := by decide +kernel
theorem dX4_fillSetsWith_53 : decode cX4_fillSetsWith 53 = .ok (.iaload, 1) := by decide +kernel
theorem dX4_fillSetsWith_54 : decode cX4_fillSetsWith 54 = .ok (.if_icmp .ne 14, 3) := by decide +kernel
theorem dX4_fillSetsWith_57 : decode cX4_fillSetsWith 57 = .ok (.aload_n 0, 1) := by decide +kernel
theorem dX4_fillSetsWith_58 : decode cX4_fillSetsWith 58 = .ok (.iload_n 3, 1) := by decide +kernel
theorem dX4_fillSetsWith_59 : decode cX4_fillSetsWith 59 = .ok (.aload_n 2, 1) := by decide +kernel
theorem dX4_fillSetsWith_60 : decode cX4_fillSetsWith 60 = .ok (.getfield 82, 3) := by decide +kernel
theorem dX4_fillSetsWith_63 : decode cX4_fillSetsWith 63 = .ok (.iload_n 3, 1) := by decide +kernel
theorem dX4_fillSetsWith_64 : decode cX4_fillSetsWith 64 = .ok (.iaload, 1) := by decide +kernel
theorem dX4_fillSetsWith_65 : decode cX4_fillSetsWith 65 = .ok (.invokevirtual 88, 3) := by decide +kernel
theorem dX4_fillSetsWith_68 : decode cX4_fillSetsWith 68 = .ok (.iinc 3 1, 3) := by decide +kernel
theorem dX4_fillSetsWith_71 : decode cX4_fillSetsWith 71 = .ok (.goto (-69), 3) := by decide +kernel
theorem dX4_fillSetsWith_74 : decode cX4_fillSetsWith 74 = .ok (.return_, 1) := by decide +kernel
theorem dX4_becomeTight_0 : decode cX4_becomeTight 0 = .ok (.aload_n 0, 1) := by decide +kernel
theorem dX4_becomeTight_1 : decode cX4_becomeTight 1 = .ok (.getfield 24, 3) := by decide +kernel
theorem dX4_becomeTight_4 : decode cX4_becomeTight 4 = .ok (.bipush 14, 2) := by decide +kernel
theorem dX4_becomeTight_6 : decode cX4_becomeTight 6 = .ok (.if_icmp .ge 55, 3) := by decide +kernel
theorem dX4_becomeTight_9 : decode cX4_becomeTight 9 = .ok (.aload_n 0, 1) := by decide +kernel
theorem dX4_becomeTight_10 : decode cX4_becomeTight 10 = .ok (.getfield 40, 3) := by decide +kernel
theorem dX4_becomeTight_13 : decode cX4_becomeTight 13 = .ok (.aload_n 0, 1) := by decide +kernel
theorem dX4_becomeTight_14 : decode cX4_becomeTight 14 = .ok (.getfield 24, 3) := by decide +kernel
theorem dX4_becomeTight_17 : decode cX4_becomeTight 17 = .ok (.iload_n 1, 1) := by decide +kernel
theorem dX4_becomeTight_18 : decode cX4_becomeTight 18 = .ok (.iastore, 1) := by decide +kernel
theorem dX4_becomeTight_19 : decode cX4_becomeTight 19 = .ok (.aload_n 0, 1) := by decide +kernel
theorem dX4_becomeTight_20 : decode cX4_becomeTight 20 = .ok (.getfield 37, 3) := by decide +kernel
theorem dX4_becomeTight_23 : decode cX4_becomeTight 23 = .ok (.iload_n 1, 1) := by decide +kernel
theorem dX4_becomeTight_24 : decode cX4_becomeTight 24 = .ok (.aload_n 0, 1) := by decide +kernel
theorem dX4_becomeTight_25 : decode cX4_becomeTight 25 = .ok (.getfield 24, 3) := by decide +kernel
theorem dX4_becomeTight_28 : decode cX4_becomeTight 28 = .ok (.iastore, 1) := by decide +kernel
theorem dX4_becomeTight_29 : decode cX4_becomeTight 29 = .ok (.aload_n 0, 1) := by decide +kernel
theorem dX4_becomeTight_30 : decode cX4_becomeTight 30 = .ok (.dup, 1) := by decide +kernel
theorem dX4_becomeTight_31 : decode cX4_becomeTight 31 = .ok (.getfield 24, 3) := by decide +kernel
theorem dX4_becomeTight_34 : decode cX4_becomeTight 34 = .ok (.iconst 1, 1) := by decide +kernel
theorem dX4_becomeTight_35 : decode cX4_becomeTight 35 = .ok (.iadd, 1) := by decide +kernel
theorem dX4_becomeTight_36 : decode cX4_becomeTight 36 = .ok (.putfield 24, 3) := by decide +kernel
theorem dX4_becomeTight_39 : decode cX4_becomeTight 39 = .ok (.aload_n 0, 1) := by decide +kernel
theorem dX4_becomeTight_40 : decode cX4_becomeTight 40 = .ok (.dup, 1) := by decide +kernel
theorem dX4_becomeTight_41 : decode cX4_becomeTight 41 = .ok (.getfield 21, 3) := by decide +kernel
theorem dX4_becomeTight_44 : decode cX4_becomeTight 44 = .ok (.iconst 1, 1) := by decide +kernel
theorem dX4_becomeTight_45 : decode cX4_becomeTight 45 = .ok (.iload_n 1, 1) := by decide +kernel
theorem dX4_becomeTight_46 : decode cX4_becomeTight 46 = .ok (.ishl, 1) := by decide +kernel
theorem dX4_becomeTight_47 : decode cX4_becomeTight 47 = .ok (.ior, 1) := by decide +kernel
theorem dX4_becomeTight_48 : decode cX4_becomeTight 48 = .ok (.putfield 21, 3) := by decide +kernel
theorem dX4_becomeTight_51 : decode cX4_becomeTight 51 = .ok (.aload_n 0, 1) := by decide +kernel
theorem dX4_becomeTight_52 : decode cX4_becomeTight 52 = .ok (.dup, 1) := by decide +kernel
theorem dX4_becomeTight_53 : decode cX4_becomeTight 53 = .ok (.getfield 15, 3) := by decide +kernel
theorem dX4_becomeTight_56 : decode cX4_becomeTight 56 = .ok (.iload_n 2, 1) := by decide +kernel
theorem dX4_becomeTight_57 : decode cX4_becomeTight 57 = .ok (.ior, 1) := by decide +kernel
theorem dX4_becomeTight_58 : decode cX4_becomeTight 58 = .ok (.putfield 15, 3) := by decide +kernel
theorem dX4_becomeTight_61 : decode cX4_becomeTight 61 = .ok (.return_, 1) := by decide +kernel
theorem dX4_dropInReverse_0 : decode cX4_dropInReverse 0 = .ok (.aload_n 0, 1) := by decide +kernel
theorem dX4_dropInReverse_1 : decode cX4_dropInReverse 1 = .ok (.getfield 24, 3) := by decide +kernel
theorem dX4_dropInReverse_4 : decode cX4_dropInReverse 4 = .ok (.iconst 1, 1) := by decide +kernel
theorem dX4_dropInReverse_5 : decode cX4_dropInReverse 5 = .ok (.isub, 1) := by decide +kernel
theorem dX4_dropInReverse_6 : decode cX4_dropInReverse 6 = .ok (.istore_n 2, 1) := by decide +kernel
theorem dX4_dropInReverse_7 : decode cX4_dropInReverse 7 = .ok (.iload_n 2, 1) := by decide +kernel
theorem dX4_dropInReverse_8 : decode cX4_dropInReverse 8 = .ok (.ifCond .lt 50, 3) := by decide +kernel
theorem dX4_dropInReverse_11 : decode cX4_dropInReverse 11 = .ok (.aload_n 0, 1) := by decide +kernel
theorem dX4_dropInReverse_12 : decode cX4_dropInReverse 12 = .ok (.getfield 27, 3) := by decide +kernel
theorem dX4_dropInReverse_15 : decode cX4_dropInReverse 15 = .ok (.iconst 1, 1) := by decide +kernel
theorem dX4_dropInReverse_16 : decode cX4_dropInReverse 16 = .ok (.aload_n 0, 1) := by decide +kernel
theorem dX4_dropInReverse_17 : decode cX4_dropInReverse 17 = .ok (.getfield 40, 3) := by decide +kernel
theorem dX4_dropInReverse_20 : decode cX4_dropInReverse 20 = .ok (.iload_n 2, 1) := by decide +kernel
theorem dX4_dropInReverse_21 : decode cX4_dropInReverse 21 = .ok (.iaload, 1) := by decide +kernel
theorem dX4_dropInReverse_22 : decode cX4_dropInReverse 22 = .ok (.ishl, 1) := by decide +kernel
theorem dX4_dropInReverse_23 : decode cX4_dropInReverse 23 = .ok (.ior, 1) := by decide +kernel
theorem dX4_dropInReverse_24 : decode cX4_dropInReverse 24 = .ok (.istore_n 3, 1) := by decide +kernel
theorem dX4_dropInReverse_25 : decode cX4_dropInReverse 25 = .ok (.aload_n 0, 1) := by decide +kernel
theorem dX4_dropInReverse_26 : decode cX4_dropInReverse 26 = .ok (.getfield 9, 3) := by decide +kernel
theorem dX4_dropInReverse_29 : decode cX4_dropInReverse 29 = .ok (.aload_n 1, 1) := by decide +kernel
theorem dX4_dropInReverse_30 : decode cX4_dropInReverse 30 = .ok (.aload_n 0, 1) := by decide +kernel
theorem dX4_dropInReverse_31 : decode cX4_dropInReverse 31 = .ok (.getfield 21, 3) := by decide +kernel
theorem dX4_dropInReverse_34 : decode cX4_dropInReverse 34 = .ok (.iload_n 3, 1) := by decide +kernel
theorem dX4_dropInReverse_35 : decode cX4_dropInReverse 35 = .ok (.iconst (-1), 1) := by decide +kernel
theorem dX4_dropInReverse_36 : decode cX4_dropInReverse 36 = .ok (.ixor, 1) := by decide +kernel
theorem dX4_dropInReverse_37 : decode cX4_dropInReverse 37 = .ok (.iand, 1) := by decide +kernel
theorem dX4_dropInReverse_38 : decode cX4_dropInReverse 38 = .ok (.invokevirtual 92, 3) := by decide +kernel
theorem dX4_dropInReverse_41 : decode cX4_dropInReverse 41 = .ok (.iconst (-1), 1) := by decide +kernel
theorem dX4_dropInReverse_42 : decode cX4_dropInReverse 42 = .ok (.ixor, 1) := by decide +kernel
theorem dX4_dropInReverse_43 : decode cX4_dropInReverse 43 = .ok (.iand, 1) := by decide +kernel
theorem dX4_dropInReverse_44 : decode cX4_dropInReverse 44 = .ok (.ifCond .ne 8, 3) := by decide +kernel
theorem dX4_dropInReverse_47 : decode cX4_dropInReverse 47 = .ok (.aload_n 0, 1) := by decide +kernel
theorem dX4_dropInReverse_48 : decode cX4_dropInReverse 48 = .ok (.iload_n 3, 1) := by decide +kernel
theorem dX4_dropInReverse_49 : decode cX4_dropInReverse 49 = .ok (.putfield 27, 3) := by decide +kernel
theorem dX4_dropInReverse_52 : decode cX4_dropInReverse 52 = .ok (.iinc 2 (-1), 3) := by decide +kernel
theorem dX4_dropInReverse_55 : decode cX4_dropInReverse 55 = .ok (.goto (-48), 3) := by decide +kernel
theorem dX4_dropInReverse_58 : decode cX4_dropInReverse 58 = .ok (.return_, 1) := by decide +kernel
theorem dX4_sum_0 : decode cX4_sum 0 = .ok (.iconst 0, 1) := by decide +kernel
theorem dX4_sum_1 : decode cX4_sum 1 = .ok (.istore_n 1, 1) := by decide +kernel
theorem dX4_sum_2 : decode cX4_sum 2 = .ok (.iconst 0, 1) := by decide +kernel
theorem dX4_sum_3 : decode cX4_sum 3 = .ok (.istore_n 2, 1) := by decide +kernel
theorem dX4_sum_4 : decode cX4_sum 4 = .ok (.iload_n 2, 1) := by decide +kernel
theorem dX4_sum_5 : decode cX4_sum 5 = .ok (.bipush 18, 2) := by decide +kernel
theorem dX4_sum_7 : decode cX4_sum 7 = .ok (.if_icmp .ge 18, 3) := by decide +kernel
theorem dX4_sum_10 : decode cX4_sum 10 = .ok (.iload_n 1, 1) := by decide +kernel
theorem dX4_sum_11 : decode cX4_sum 11 = .ok (.aload_n 0, 1) := by decide +kernel
theorem dX4_sum_12 : decode cX4_sum 12 = .ok (.getfield 30, 3) := by decide +kernel
theorem dX4_sum_15 : decode cX4_sum 15 = .ok (.iload_n 2, 1) := by decide +kernel
theorem dX4_sum_16 : decode cX4_sum 16 = .ok (.iaload, 1) := by decide +kernel
theorem dX4_sum_17 : decode cX4_sum 17 = .ok (.iadd, 1) := by decide +kernel
theorem dX4_sum_18 : decode cX4_sum 18 = .ok (.istore_n 1, 1) := by decide +kernel
theorem dX4_sum_19 : decode cX4_sum 19 = .ok (.iinc 2 1, 3) := by decide +kernel
theorem dX4_sum_22 : decode cX4_sum 22 = .ok (.goto (-18), 3) := by decide +kernel
theorem dX4_sum_25 : decode cX4_sum 25 = .ok (.iload_n 1, 1) := by decide +kernel
theorem dX4_sum_26 : decode cX4_sum 26 = .ok (.ireturn, 1) := by decide +kernel
theorem dX5_init_0 : decode cX5_init 0 = .ok (.aload_n 0, 1) := by decide +kernel
theorem dX5_init_1 : decode cX5_init 1 = .ok (.invokespecial 3, 3) := by decide +kernel
theorem dX5_init_4 : decode cX5_init 4 = .ok (.aload_n 0, 1) := by decide +kernel
theorem dX5_init_5 : decode cX5_init 5 = .ok (.iconst 2, 1) := by decide +kernel
theorem dX5_init_6 : decode cX5_init 6 = .ok (.anewarray 9, 3) := by decide +kernel
theorem dX5_init_9 : decode cX5_init 9 = .ok (.putfield 11, 3) := by decide +kernel
theorem dX5_init_12 : decode cX5_init 12 = .ok (.aload_n 0, 1) := by decide +kernel
theorem dX5_init_13 : decode cX5_init 13 = .ok (.iconst 2, 1) := by decide +kernel
theorem dX5_init_14 : decode cX5_init 14 = .ok (.newarray .boolean, 2) := by decide +kernel
theorem dX5_init_16 : decode cX5_init 16 = .ok (.putfield 17, 3) := by decide +kernel
theorem dX5_init_19 : decode cX5_init 19 = .ok (.iconst 0, 1) := by decide +kernel
theorem dX5_init_20 : decode cX5_init 20 = .ok (.istore_n 1, 1) := by decide +kernel
theorem dX5_init_21 : decode cX5_init 21 = .ok (.iload_n 1, 1) := by decide +kernel
theorem dX5_init_22 : decode cX5_init 22 = .ok (.iconst 2, 1) := by decide +kernel
theorem dX5_init_23 : decode cX5_init 23 = .ok (.if_icmp .ge 22, 3) := by decide +kernel
theorem dX5_init_26 : decode cX5_init 26 = .ok (.aload_n 0, 1) := by decide +kernel
theorem dX5_init_27 : decode cX5_init 27 = .ok (.getfield 11, 3) := by decide +kernel
theorem dX5_init_30 : decode cX5_init 30 = .ok (.iload_n 1, 1) := by decide +kernel
theorem dX5_init_31 : decode cX5_init 31 = .ok (.new 9, 3) := by decide +kernel
theorem dX5_init_34 : decode cX5_init 34 = .ok (.dup, 1) := by decide +kernel
theorem dX5_init_35 : decode cX5_init 35 = .ok (.invokespecial 21, 3) := by decide +kernel
theorem dX5_init_38 : decode cX5_init 38 = .ok (.aastore, 1) := by decide +kernel
theorem dX5_init_39 : decode cX5_init 39 = .ok (.iinc 1 1, 3) := by decide +kernel
theorem dX5_init_42 : decode cX5_init 42 = .ok (.goto (-21), 3) := by decide +kernel
theorem dX5_init_45 : decode cX5_init 45 = .ok (.return_, 1) := by decide +kernel
theorem dX6_init_0 : decode cX6_init 0 = .ok (.aload_n 0, 1) := by decide +kernel
theorem dX6_init_1 : decode cX6_init 1 = .ok (.invokespecial 3, 3) := by decide +kernel
theorem dX6_init_4 : decode cX6_init 4 = .ok (.aload_n 0, 1) := by decide +kernel
theorem dX6_init_5 : decode cX6_init 5 = .ok (.iconst 0, 1) := by decide +kernel
theorem dX6_init_6 : decode cX6_init 6 = .ok (.putfield 9, 3) := by decide +kernel
theorem dX6_init_9 : decode cX6_init 9 = .ok (.aload_n 0, 1) := by decide +kernel
theorem dX6_init_10 : decode cX6_init 10 = .ok (.iconst 0, 1) := by decide +kernel
theorem dX6_init_11 : decode cX6_init 11 = .ok (.putfield 15, 3) := by decide +kernel
theorem dX6_init_14 : decode cX6_init 14 = .ok (.aload_n 0, 1) := by decide +kernel
theorem dX6_init_15 : decode cX6_init 15 = .ok (.bipush 14, 2) := by decide +kernel
theorem dX6_init_17 : decode cX6_init 17 = .ok (.newarray .int, 2) := by decide +kernel
theorem dX6_init_19 : decode cX6_init 19 = .ok (.putfield 18, 3) := by decide +kernel
theorem dX6_init_22 : decode cX6_init 22 = .ok (.aload_n 0, 1) := by decide +kernel
theorem dX6_init_23 : decode cX6_init 23 = .ok (.bipush 14, 2) := by decide +kernel
theorem dX6_init_25 : decode cX6_init 25 = .ok (.newarray .int, 2) := by decide +kernel
theorem dX6_init_27 : decode cX6_init 27 = .ok (.putfield 22, 3) := by decide +kernel
theorem dX6_init_30 : decode cX6_init 30 = .ok (.aload_n 0, 1) := by decide +kernel
theorem dX6_init_31 : decode cX6_init 31 = .ok (.bipush 14, 2) := by decide +kernel
theorem dX6_init_33 : decode cX6_init 33 = .ok (.newarray .int, 2) := by decide +kernel
theorem dX6_init_35 : decode cX6_init 35 = .ok (.putfield 25, 3) := by decide +kernel
theorem dX6_init_38 : decode cX6_init 38 = .ok (.return_, 1) := by decide +kernel
theorem dX6_copyFrom_0 : decode cX6_copyFrom 0 = .ok (.aload_n 0, 1) := by decide +kernel
theorem dX6_copyFrom_1 : decode cX6_copyFrom 1 = .ok (.aload_n 1, 1) := by decide +kernel
theorem dX6_copyFrom_2 : decode cX6_copyFrom 2 = .ok (.getfield 9, 3) := by decide +kernel
theorem dX6_copyFrom_5 : decode cX6_copyFrom 5 = .ok (.putfield 9, 3) := by decide +kernel
theorem dX6_copyFrom_8 : decode cX6_copyFrom 8 = .ok (.aload_n 0, 1) := by decide +kernel
theorem dX6_copyFrom_9 : decode cX6_copyFrom 9 = .ok (.aload_n 1, 1) := by decide +kernel
theorem dX6_copyFrom_10 : decode cX6_copyFrom 10 = .ok (.getfield 15, 3) := by decide +kernel
theorem dX6_copyFrom_13 : decode cX6_copyFrom 13 = .ok (.putfield 15, 3) := by decide +kernel
theorem dX6_copyFrom_16 : decode cX6_copyFrom 16 = .ok (.iconst 0, 1) := by decide +kernel
theorem dX6_copyFrom_17 : decode cX6_copyFrom 17 = .ok (.istore_n 2, 1) := by decide +kernel
theorem dX6_copyFrom_18 : decode cX6_copyFrom 18 = .ok (.iload_n 2, 1) := by decide +kernel
theorem dX6_copyFrom_19 : decode cX6_copyFrom 19 = .ok (.bipush 14, 2) := by decide +kernel
theorem dX6_copyFrom_21 : decode cX6_copyFrom 21 = .ok (.if_icmp .ge 45, 3) := by decide +kernel
theorem dX6_copyFrom_24 : decode cX6_copyFrom 24 = .ok (.aload_n 0, 1) := by decide +kernel
theorem dX6_copyFrom_25 : decode cX6_copyFrom 25 = .ok (.getfield 18, 3) := by decide +kernel
theorem dX6_copyFrom_28 : decode cX6_copyFrom 28 = .ok (.iload_n 2, 1) := by decide +kernel
theorem dX6_copyFrom_29 : decode cX6_copyFrom 29 = .ok (.aload_n 1, 1) := by decide +kernel
theorem dX6_copyFrom_30 : decode cX6_copyFrom 30 = .ok (.getfield 18, 3) := by decide +kernel
theorem dX6_copyFrom_33 : decode cX6_copyFrom 33 = .ok (.iload_n 2, 1) := by decide +kernel
theorem dX6_copyFrom_34 : decode cX6_copyFrom 34 = .ok (.iaload, 1) := by decide +kernel
theorem dX6_copyFrom_35 : decode cX6_copyFrom 35 = .ok (.iastore, 1) := by decide +kernel
theorem dX6_copyFrom_36 : decode cX6_copyFrom 36 = .ok (.aload_n 0, 1) := by decide +kernel
theorem dX6_copyFrom_37 : decode cX6_copyFrom 37 = .ok (.getfield 22, 3) := by decide +kernel
theorem dX6_copyFrom_40 : decode cX6_copyFrom 40 = .ok (.iload_n 2, 1) := by decide +kernel
theorem dX6_copyFrom_41 : decode cX6_copyFrom 41 = .ok (.aload_n 1, 1) := by decide +kernel
theorem dX6_copyFrom_42 : decode cX6_copyFrom 42 = .ok (.getfield 22, 3) := by decide +kernel
theorem dX6_copyFrom_45 : decode cX6_copyFrom 45 = .ok (.iload_n 2, 1) := by decide +kernel
theorem dX6_copyFrom_46 : decode cX6_copyFrom 46 = .ok (.iaload, 1) := by decide +kernel
theorem dX6_copyFrom_47 : decode cX6_copyFrom 47 = .ok (.iastore, 1) := by decide +kernel
theorem dX6_copyFrom_48 : decode cX6_copyFrom 48 = .ok (.aload_n 0, 1) := by decide +kernel
theorem dX6_copyFrom_49 : decode cX6_copyFrom 49 = .ok (.getfield 25, 3) := by decide +kernel
theorem dX6_copyFrom_52 : decode cX6_copyFrom 52 = .ok (.iload_n 2, 1) := by decide +kernel
theorem dX6_copyFrom_53 : decode cX6_copyFrom 53 = .ok (.aload_n 1, 1) := by decide +kernel
theorem dX6_copyFrom_54 : decode cX6_copyFrom 54 = .ok (.getfield 25, 3) := by decide +kernel
theorem dX6_copyFrom_57 : decode cX6_copyFrom 57 = .ok (.iload_n 2, 1) := by decide +kernel
theorem dX6_copyFrom_58 : decode cX6_copyFrom 58 = .ok (.iaload, 1) := by decide +kernel
theorem dX6_copyFrom_59 : decode cX6_copyFrom 59 = .ok (.iastore, 1) := by decide +kernel
theorem dX6_copyFrom_60 : decode cX6_copyFrom 60 = .ok (.iinc 2 1, 3) := by decide +kernel
theorem dX6_copyFrom_63 : decode cX6_copyFrom 63 = .ok (.goto (-45), 3) := by decide +kernel
theorem dX6_copyFrom_66 : decode cX6_copyFrom 66 = .ok (.return_, 1) := by decide +kernel
theorem dX6_hasSet_0 : decode cX6_hasSet 0 = .ok (.iload_n 1, 1) := by decide +kernel
theorem dX6_hasSet_1 : decode cX6_hasSet 1 = .ok (.ifCond .lt 15, 3) := by decide +kernel
theorem dX6_hasSet_4 : decode cX6_hasSet 4 = .ok (.iload_n 1, 1) := by decide +kernel
theorem dX6_hasSet_5 : decode cX6_hasSet 5 = .ok (.aload_n 0, 1) := by decide +kernel
theorem dX6_hasSet_6 : decode cX6_hasSet 6 = .ok (.getfield 15, 3) := by decide +kernel
theorem dX6_hasSet_9 : decode cX6_hasSet 9 = .ok (.if_icmp .ge 7, 3) := by decide +kernel
theorem dX6_hasSet_12 : decode cX6_hasSet 12 = .ok (.iconst 1, 1) := by decide +kernel
theorem dX6_hasSet_13 : decode cX6_hasSet 13 = .ok (.goto 4, 3) := by decide +kernel
theorem dX6_hasSet_16 : decode cX6_hasSet 16 = .ok (.iconst 0, 1) := by decide +kernel
theorem dX6_hasSet_17 : decode cX6_hasSet 17 = .ok (.ireturn, 1) := by decide +kernel
theorem dX6_append_0 : decode cX6_append 0 = .ok (.aload_n 0, 1) := by decide +kernel
theorem dX6_append_1 : decode cX6_append 1 = .ok (.getfield 15, 3) := by decide +kernel
theorem dX6_append_4 : decode cX6_append 4 = .ok (.bipush 14, 2) := by decide +kernel
theorem dX6_append_6 : decode cX6_append 6 = .ok (.if_icmp .lt 4, 3) := by decide +kernel
theorem dX6_append_9 : decode cX6_append 9 = .ok (.return_, 1) := by decide +kernel
theorem dX6_append_10 : decode cX6_append 10 = .ok (.aload_n 0, 1) := by decide +kernel
theorem dX6_append_11 : decode cX6_append 11 = .ok (.getfield 18, 3) := by decide +kernel
theorem dX6_append_14 : decode cX6_append 14 = .ok (.aload_n 0, 1) := by decide +kernel
theorem dX6_append_15 : decode cX6_append 15 = .ok (.getfield 15, 3) := by decide +kernel
theorem dX6_append_18 : decode cX6_append 18 = .ok (.iload_n 1, 1) := by decide +kernel
theorem dX6_append_19 : decode cX6_append 19 = .ok (.iastore, 1) := by decide +kernel
theorem dX6_append_20 : decode cX6_append 20 = .ok (.aload_n 0, 1) := by decide +kernel
theorem dX6_append_21 : decode cX6_append 21 = .ok (.getfield 22, 3) := by decide +kernel
theorem dX6_append_24 : decode cX6_append 24 = .ok (.aload_n 0, 1) := by decide +kernel
theorem dX6_append_25 : decode cX6_append 25 = .ok (.getfield 15, 3) := by decide +kernel
theorem dX6_append_28 : decode cX6_append 28 = .ok (.iload_n 2, 1) := by decide +kernel
theorem dX6_append_29 : decode cX6_append 29 = .ok (.iastore, 1) := by decide +kernel
theorem dX6_append_30 : decode cX6_append 30 = .ok (.aload_n 0, 1) := by decide +kernel
theorem dX6_append_31 : decode cX6_append 31 = .ok (.getfield 25, 3) := by decide +kernel
theorem dX6_append_34 : decode cX6_append 34 = .ok (.aload_n 0, 1) := by decide +kernel
theorem dX6_append_35 : decode cX6_append 35 = .ok (.getfield 15, 3) := by decide +kernel
theorem dX6_append_38 : decode cX6_append 38 = .ok (.iconst 0, 1) := by decide +kernel
theorem dX6_append_39 : decode cX6_append 39 = .ok (.iastore, 1) := by decide +kernel
theorem dX6_append_40 : decode cX6_append 40 = .ok (.aload_n 0, 1) := by decide +kernel
theorem dX6_append_41 : decode cX6_append 41 = .ok (.dup, 1) := by decide +kernel
theorem dX6_append_42 : decode cX6_append 42 = .ok (.getfield 15, 3) := by decide +kernel
theorem dX6_append_45 : decode cX6_append 45 = .ok (.iconst 1, 1) := by decide +kernel
theorem dX6_append_46 : decode cX6_append 46 = .ok (.iadd, 1) := by decide +kernel
theorem dX6_append_47 : decode cX6_append 47 = .ok (.putfield 15, 3) := by decide +kernel
theorem dX6_append_50 : decode cX6_append 50 = .ok (.return_, 1) := by decide +kernel
theorem dX6_remove_0 : decode cX6_remove 0 = .ok (.iload_n 1, 1) := by decide +kernel
theorem dX6_remove_1 : decode cX6_remove 1 = .ok (.iconst 1, 1) := by decide +kernel
theorem dX6_remove_2 : decode cX6_remove 2 = .ok (.iadd, 1) := by decide +kernel
theorem dX6_remove_3 : decode cX6_remove 3 = .ok (.istore_n 2, 1) := by decide +kernel
theorem dX6_remove_4 : decode cX6_remove 4 = .ok (.iload_n 2, 1) := by decide +kernel
theorem dX6_remove_5 : decode cX6_remove 5 = .ok (.aload_n 0, 1) := by decide +kernel
theorem dX6_remove_6 : decode cX6_remove 6 = .ok (.getfield 15, 3) := by decide +kernel
theorem dX6_remove_9 : decode cX6_remove 9 = .ok (.if_icmp .ge 51, 3) := by decide +kernel
theorem dX6_remove_12 : decode cX6_remove 12 = .ok (.aload_n 0, 1) := by decide +kernel
theorem dX6_remove_13 : decode cX6_remove 13 = .ok (.getfield 18, 3) := by decide +kernel
theorem dX6_remove_16 : decode cX6_remove 16 = .ok (.iload_n 2, 1) := by decide +kernel
theorem dX6_remove_17 : decode cX6_remove 17 = .ok (.iconst 1, 1) := by decide +kernel
theorem dX6_remove_18 : decode cX6_remove 18 = .ok (.isub, 1) := by decide +kernel
theorem dX6_remove_19 : decode cX6_remove 19 = .ok (.aload_n 0, 1) := by decide +kernel
theorem dX6_remove_20 : decode cX6_remove 20 = .ok (.getfield 18, 3) := by decide +kernel
theorem dX6_remove_23 : decode cX6_remove 23 = .ok (.iload_n 2, 1) := by decide +kernel
theorem dX6_remove_24 : decode cX6_remove 24 = .ok (.iaload, 1) := by decide +kernel
theorem dX6_remove_25 : decode cX6_remove 25 = .ok (.iastore, 1) := by decide +kernel
theorem dX6_remove_26 : decode cX6_remove 26 = .ok (.aload_n 0, 1) := by decide +kernel
theorem dX6_remove_27 : decode cX6_remove 27 = .ok (.getfield 22, 3) := by decide +kernel
theorem dX6_remove_30 : decode cX6_remove 30 = .ok (.iload_n 2, 1) := by decide +kernel
theorem dX6_remove_31 : decode cX6_remove 31 = .ok (.iconst 1, 1) := by decide +kernel
theorem dX6_remove_32 : decode cX6_remove 32 = .ok (.isub, 1) := by decide +kernel
theorem dX6_remove_33 : decode cX6_remove 33 = .ok (.aload_n 0, 1) := by decide +kernel
theorem dX6_remove_34 : decode cX6_remove 34 = .ok (.getfield 22, 3) := by decide +kernel
theorem dX6_remove_37 : decode cX6_remove 37 = .ok (.iload_n 2, 1) := by decide +kernel
theorem dX6_remove_38 : decode cX6_remove 38 = .ok (.iaload, 1) := by decide +kernel
theorem dX6_remove_39 : decode cX6_remove 39 = .ok (.iastore, 1) := by decide +kernel
theorem dX6_remove_40 : decode cX6_remove 40 = .ok (.aload_n 0, 1) := by decide +kernel
theorem dX6_remove_41 : decode cX6_remove 41 = .ok (.getfield 25, 3) := by decide +kernel
theorem dX6_remove_44 : decode cX6_remove 44 = .ok (.iload_n 2, 1) := by decide +kernel
theorem dX6_remove_45 : decode cX6_remove 45 = .ok (.iconst 1, 1) := by decide +kernel
theorem dX6_remove_46 : decode cX6_remove 46 = .ok (.isub, 1) := by decide +kernel
theorem dX6_remove_47 : decode cX6_remove 47 = .ok (.aload_n 0, 1) := by decide +kernel
theorem dX6_remove_48 : decode cX6_remove 48 = .ok (.getfield 25, 3) := by decide +kernel
theorem dX6_remove_51 : decode cX6_remove 51 = .ok (.iload_n 2, 1) := by decide +kernel
theorem dX6_remove_52 : decode cX6_remove 52 = .ok (.iaload, 1) := by decide +kernel
theorem dX6_remove_53 : decode cX6_remove 53 = .ok (.iastore, 1) := by decide +kernel
theorem dX6_remove_54 : decode cX6_remove 54 = .ok (.iinc 2 1, 3) := by decide +kernel
theorem dX6_remove_57 : decode cX6_remove 57 = .ok (.goto (-53), 3) := by decide +kernel
theorem dX6_remove_60 : decode cX6_remove 60 = .ok (.aload_n 0, 1) := by decide +kernel
theorem dX6_remove_61 : decode cX6_remove 61 = .ok (.dup, 1) := by decide +kernel
theorem dX6_remove_62 : decode cX6_remove 62 = .ok (.getfield 15, 3) := by decide +kernel
theorem dX6_remove_65 : decode cX6_remove 65 = .ok (.iconst 1, 1) := by decide +kernel
theorem dX6_remove_66 : decode cX6_remove 66 = .ok (.isub, 1) := by decide +kernel
theorem dX6_remove_67 : decode cX6_remove 67 = .ok (.putfield 15, 3) := by decide +kernel
theorem dX6_remove_70 : decode cX6_remove 70 = .ok (.return_, 1) := by decide +kernel
theorem dX6_marked_0 : decode cX6_marked 0 = .ok (.iconst 0, 1) := by decide +kernel
theorem dX6_marked_1 : decode cX6_marked 1 = .ok (.istore_n 2, 1) := by decide +kernel
theorem dX6_marked_2 : decode cX6_marked 2 = .ok (.iconst 0, 1) := by decide +kernel
theorem dX6_marked_3 : decode cX6_marked 3 = .ok (.istore_n 3, 1) := by decide +kernel
theorem dX6_marked_4 : decode cX6_marked 4 = .ok (.iload_n 3, 1) := by decide +kernel
theorem dX6_marked_5 : decode cX6_marked 5 = .ok (.aload_n 0, 1) := by decide +kernel
theorem dX6_marked_6 : decode cX6_marked 6 = .ok (.getfield 15, 3) := by decide +kernel
theorem dX6_marked_9 : decode cX6_marked 9 = .ok (.if_icmp .ge 25, 3) := by decide +kernel
theorem dX6_marked_12 : decode cX6_marked 12 = .ok (.aload_n 0, 1) := by decide +kernel
theorem dX6_marked_13 : decode cX6_marked 13 = .ok (.getfield 25, 3) := by decide +kernel
theorem dX6_marked_16 : decode cX6_marked 16 = .ok (.iload_n 3, 1) := by decide +kernel
theorem dX6_marked_17 : decode cX6_marked 17 = .ok (.iaload, 1) := by decide +kernel
theorem dX6_marked_18 : decode cX6_marked 18 = .ok (.iload_n 1, 1) := by decide +kernel
theorem dX6_marked_19 : decode cX6_marked 19 = .ok (.if_icmp .ne 9, 3) := by decide +kernel
theorem dX6_marked_22 : decode cX6_marked 22 = .ok (.iload_n 2, 1) := by decide +kernel
theorem dX6_marked_23 : decode cX6_marked 23 = .ok (.iconst 1, 1) := by decide +kernel
theorem dX6_marked_24 : decode cX6_marked 24 = .ok (.iload_n 3, 1) := by decide +kernel
theorem dX6_marked_25 : decode cX6_marked 25 = .ok (.ishl, 1) := by decide +kernel
theorem dX6_marked_26 : decode cX6_marked 26 = .ok (.ior, 1) := by decide +kernel
theorem dX6_marked_27 : decode cX6_marked 27 = .ok (.istore_n 2, 1) := by decide +kernel
theorem dX6_marked_28 : decode cX6_marked 28 = .ok (.iinc 3 1, 3) := by decide +kernel
theorem dX6_marked_31 : decode cX6_marked 31 = .ok (.goto (-27), 3) := by decide +kernel
theorem dX6_marked_34 : decode cX6_marked 34 = .ok (.iload_n 2, 1) := by decide +kernel
theorem dX6_marked_35 : decode cX6_marked 35 = .ok (.ireturn, 1) := by decide +kernel
theorem dX6_notBarred_0 : decode cX6_notBarred 0 = .ok (.aload_n 0, 1) := by decide +kernel
theorem dX6_notBarred_1 : decode cX6_notBarred 1 = .ok (.iconst 0, 1) := by decide +kernel
theorem dX6_notBarred_2 : decode cX6_notBarred 2 = .ok (.invokevirtual 28, 3) := by decide +kernel
theorem dX6_notBarred_5 : decode cX6_notBarred 5 = .ok (.aload_n 0, 1) := by decide +kernel
theorem dX6_notBarred_6 : decode cX6_notBarred 6 = .ok (.iconst 1, 1) := by decide +kernel
theorem dX6_notBarred_7 : decode cX6_notBarred 7 = .ok (.invokevirtual 28, 3) := by decide +kernel
theorem dX6_notBarred_10 : decode cX6_notBarred 10 = .ok (.ior, 1) := by decide +kernel
theorem dX6_notBarred_11 : decode cX6_notBarred 11 = .ok (.ireturn, 1) := by decide +kernel
theorem dX6_setsWith_0 : decode cX6_setsWith 0 = .ok (.iconst 0, 1) := by decide +kernel
theorem dX6_setsWith_1 : decode cX6_setsWith 1 = .ok (.istore_n 2, 1) := by decide +kernel
theorem dX6_setsWith_2 : decode cX6_setsWith 2 = .ok (.iconst 0, 1) := by decide +kernel
theorem dX6_setsWith_3 : decode cX6_setsWith 3 = .ok (.istore_n 3, 1) := by decide +kernel
theorem dX6_setsWith_4 : decode cX6_setsWith 4 = .ok (.iload_n 3, 1) := by decide +kernel
theorem dX6_setsWith_5 : decode cX6_setsWith 5 = .ok (.aload_n 0, 1) := by decide +kernel
theorem dX6_setsWith_6 : decode cX6_setsWith 6 = .ok (.getfield 15, 3) := by decide +kernel
theorem dX6_setsWith_9 : decode cX6_setsWith 9 = .ok (.if_icmp .ge 28, 3) := by decide +kernel
theorem dX6_setsWith_12 : decode cX6_setsWith 12 = .ok (.aload_n 0, 1) := by decide +kernel
theorem dX6_setsWith_13 : decode cX6_setsWith 13 = .ok (.getfield 18, 3) := by decide +kernel
theorem dX6_setsWith_16 : decode cX6_setsWith 16 = .ok (.iload_n 3, 1) := by decide +kernel
theorem dX6_setsWith_17 : decode cX6_setsWith 17 = .ok (.iaload, 1) := by decide +kernel
theorem dX6_setsWith_18 : decode cX6_setsWith 18 = .ok (.iload_n 1, 1) := by decide +kernel
theorem dX6_setsWith_19 : decode cX6_setsWith 19 = .ok (.invokestatic 32, 3) := by decide +kernel
theorem dX6_setsWith_22 : decode cX6_setsWith 22 = .ok (.ifCond .eq 9, 3) := by decide +kernel
theorem dX6_setsWith_25 : decode cX6_setsWith 25 = .ok (.iload_n 2, 1) := by decide +kernel
theorem dX6_setsWith_26 : decode cX6_setsWith 26 = .ok (.iconst 1, 1) := by decide +kernel
theorem dX6_setsWith_27 : decode cX6_setsWith 27 = .ok (.iload_n 3, 1) := by decide +kernel
theorem dX6_setsWith_28 : decode cX6_setsWith 28 = .ok (.ishl, 1) := by decide +kernel
theorem dX6_setsWith_29 : decode cX6_setsWith 29 = .ok (.ior, 1) := by decide +kernel
theorem dX6_setsWith_30 : decode cX6_setsWith 30 = .ok (.istore_n 2, 1) := by decide +kernel
theorem dX6_setsWith_31 : decode cX6_setsWith 31 = .ok (.iinc 3 1, 3) := by decide +kernel
theorem dX6_setsWith_34 : decode cX6_setsWith 34 = .ok (.goto (-30), 3) := by decide +kernel
theorem dX6_setsWith_37 : decode cX6_setsWith 37 = .ok (.iload_n 2, 1) := by decide +kernel
theorem dX6_setsWith_38 : decode cX6_setsWith 38 = .ok (.ireturn, 1) := by decide +kernel
theorem dX6_thingsOf_0 : decode cX6_thingsOf 0 = .ok (.iconst 0, 1) := by decide +kernel
theorem dX6_thingsOf_1 : decode cX6_thingsOf 1 = .ok (.istore_n 2, 1) := by decide +kernel
theorem dX6_thingsOf_2 : decode cX6_thingsOf 2 = .ok (.iconst 0, 1) := by decide +kernel
theorem dX6_thingsOf_3 : decode cX6_thingsOf 3 = .ok (.istore_n 3, 1) := by decide +kernel
theorem dX6_thingsOf_4 : decode cX6_thingsOf 4 = .ok (.iload_n 3, 1) := by decide +kernel
theorem dX6_thingsOf_5 : decode cX6_thingsOf 5 = .ok (.aload_n 0, 1) := by decide +kernel
theorem dX6_thingsOf_6 : decode cX6_thingsOf 6 = .ok (.getfield 15, 3) := by decide +kernel
theorem dX6_thingsOf_9 : decode cX6_thingsOf 9 = .ok (.if_icmp .ge 26, 3) := by decide +kernel
theorem dX6_thingsOf_12 : decode cX6_thingsOf 12 = .ok (.iload_n 1, 1) := by decide +kernel
theorem dX6_thingsOf_13 : decode cX6_thingsOf 13 = .ok (.iload_n 3, 1) := by decide +kernel
theorem dX6_thingsOf_14 : decode cX6_thingsOf 14 = .ok (.invokestatic 32, 3) := by decide +kernel
theorem dX6_thingsOf_17 : decode cX6_thingsOf 17 = .ok (.ifCond .eq 12, 3) := by decide +kernel
theorem dX6_thingsOf_20 : decode cX6_thingsOf 20 = .ok (.iload_n 2, 1) := by decide +kernel
theorem dX6_thingsOf_21 : decode cX6_thingsOf 21 = .ok (.aload_n 0, 1) := by decide +kernel
theorem dX6_thingsOf_22 : decode cX6_thingsOf 22 = .ok (.getfield 18, 3) := by decide +kernel
theorem dX6_thingsOf_25 : decode cX6_thingsOf 25 = .ok (.iload_n 3, 1) := by decide +kernel
theorem dX6_thingsOf_26 : decode cX6_thingsOf 26 = .ok (.iaload, 1) := by decide +kernel
theorem dX6_thingsOf_27 : decode cX6_thingsOf 27 = .ok (.ior, 1) := by decide +kernel
theorem dX6_thingsOf_28 : decode cX6_thingsOf 28 = .ok (.istore_n 2, 1) := by decide +kernel
theorem dX6_thingsOf_29 : decode cX6_thingsOf 29 = .ok (.iinc 3 1, 3) := by decide +kernel
theorem dX6_thingsOf_32 : decode cX6_thingsOf 32 = .ok (.goto (-28), 3) := by decide +kernel
theorem dX6_thingsOf_35 : decode cX6_thingsOf 35 = .ok (.iload_n 2, 1) := by decide +kernel
theorem dX6_thingsOf_36 : decode cX6_thingsOf 36 = .ok (.ireturn, 1) := by decide +kernel
theorem dX6_priceOf_0 : decode cX6_priceOf 0 = .ok (.iconst 0, 1) := by decide +kernel
theorem dX6_priceOf_1 : decode cX6_priceOf 1 = .ok (.istore_n 2, 1) := by decide +kernel
theorem dX6_priceOf_2 : decode cX6_priceOf 2 = .ok (.iconst 0, 1) := by decide +kernel
theorem dX6_priceOf_3 : decode cX6_priceOf 3 = .ok (.istore_n 3, 1) := by decide +kernel
theorem dX6_priceOf_4 : decode cX6_priceOf 4 = .ok (.iload_n 3, 1) := by decide +kernel
theorem dX6_priceOf_5 : decode cX6_priceOf 5 = .ok (.aload_n 0, 1) := by decide +kernel
theorem dX6_priceOf_6 : decode cX6_priceOf 6 = .ok (.getfield 15, 3) := by decide +kernel
theorem dX6_priceOf_9 : decode cX6_priceOf 9 = .ok (.if_icmp .ge 26, 3) := by decide +kernel
theorem dX6_priceOf_12 : decode cX6_priceOf 12 = .ok (.iload_n 1, 1) := by decide +kernel
theorem dX6_priceOf_13 : decode cX6_priceOf 13 = .ok (.iload_n 3, 1) := by decide +kernel
theorem dX6_priceOf_14 : decode cX6_priceOf 14 = .ok (.invokestatic 32, 3) := by decide +kernel
theorem dX6_priceOf_17 : decode cX6_priceOf 17 = .ok (.ifCond .eq 12, 3) := by decide +kernel
theorem dX6_priceOf_20 : decode cX6_priceOf 20 = .ok (.iload_n 2, 1) := by decide +kernel
theorem dX6_priceOf_21 : decode cX6_priceOf 21 = .ok (.aload_n 0, 1) := by decide +kernel
theorem dX6_priceOf_22 : decode cX6_priceOf 22 = .ok (.getfield 22, 3) := by decide +kernel
theorem dX6_priceOf_25 : decode cX6_priceOf 25 = .ok (.iload_n 3, 1) := by decide +kernel
theorem dX6_priceOf_26 : decode cX6_priceOf 26 = .ok (.iaload, 1) := by decide +kernel
theorem dX6_priceOf_27 : decode cX6_priceOf 27 = .ok (.iadd, 1) := by decide +kernel
theorem dX6_priceOf_28 : decode cX6_priceOf 28 = .ok (.istore_n 2, 1) := by decide +kernel
theorem dX6_priceOf_29 : decode cX6_priceOf 29 = .ok (.iinc 3 1, 3) := by decide +kernel
theorem dX6_priceOf_32 : decode cX6_priceOf 32 = .ok (.goto (-28), 3) := by decide +kernel
theorem dX6_priceOf_35 : decode cX6_priceOf 35 = .ok (.iload_n 2, 1) := by decide +kernel
theorem dX6_priceOf_36 : decode cX6_priceOf 36 = .ok (.ireturn, 1) := by decide +kernel
theorem dX6_missingIn_0 : decode cX6_missingIn 0 = .ok (.aload_n 0, 1) := by decide +kernel
theorem dX6_missingIn_1 : decode cX6_missingIn 1 = .ok (.getfield 9, 3) := by decide +kernel
theorem dX6_missingIn_4 : decode cX6_missingIn 4 = .ok (.aload_n 0, 1) := by decide +kernel
theorem dX6_missingIn_5 : decode cX6_missingIn 5 = .ok (.iload_n 1, 1) := by decide +kernel
theorem dX6_missingIn_6 : decode cX6_missingIn 6 = .ok (.invokevirtual 36, 3) := by decide +kernel
theorem dX6_missingIn_9 : decode cX6_missingIn 9 = .ok (.iconst (-1), 1) := by decide +kernel
theorem dX6_missingIn_10 : decode cX6_missingIn 10 = .ok (.ixor, 1) := by decide +kernel
theorem dX6_missingIn_11 : decode cX6_missingIn 11 = .ok (.iand, 1) := by decide +kernel
theorem dX6_missingIn_12 : decode cX6_missingIn 12 = .ok (.ireturn, 1) := by decide +kernel
theorem dX6_hasCover_0 : decode cX6_hasCover 0 = .ok (.aload_n 0, 1) := by decide +kernel
theorem dX6_hasCover_1 : decode cX6_hasCover 1 = .ok (.aload_n 0, 1) := by decide +kernel
theorem dX6_hasCover_2 : decode cX6_hasCover 2 = .ok (.invokevirtual 39, 3) := by decide +kernel
theorem dX6_hasCover_5 : decode cX6_hasCover 5 = .ok (.invokevirtual 43, 3) := by decide +kernel
theorem dX6_hasCover_8 : decode cX6_hasCover 8 = .ok (.ifCond .ne 7, 3) := by decide +kernel
theorem dX6_hasCover_11 : decode cX6_hasCover 11 = .ok (.iconst 1, 1) := by decide +kernel
theorem dX6_hasCover_12 : decode cX6_hasCover 12 = .ok (.goto 4, 3) := by decide +kernel
theorem dX6_hasCover_15 : decode cX6_hasCover 15 = .ok (.iconst 0, 1) := by decide +kernel
theorem dX6_hasCover_16 : decode cX6_hasCover 16 = .ok (.ireturn, 1) := by decide +kernel
theorem dX6_isCover_0 : decode cX6_isCover 0 = .ok (.aload_n 0, 1) := by decide +kernel
theorem dX6_isCover_1 : decode cX6_isCover 1 = .ok (.iconst 1, 1) := by decide +kernel
theorem dX6_isCover_2 : decode cX6_isCover 2 = .ok (.invokevirtual 28, 3) := by decide +kernel
theorem dX6_isCover_5 : decode cX6_isCover 5 = .ok (.istore_n 2, 1) := by decide +kernel
theorem dX6_isCover_6 : decode cX6_isCover 6 = .ok (.iload_n 1, 1) := by decide +kernel
theorem dX6_isCover_7 : decode cX6_isCover 7 = .ok (.iload_n 2, 1) := by decide +kernel
theorem dX6_isCover_8 : decode cX6_isCover 8 = .ok (.iand, 1) := by decide +kernel
theorem dX6_isCover_9 : decode cX6_isCover 9 = .ok (.iload_n 2, 1) := by decide +kernel
theorem dX6_isCover_10 : decode cX6_isCover 10 = .ok (.if_icmp .ne 25, 3) := by decide +kernel
theorem dX6_isCover_13 : decode cX6_isCover 13 = .ok (.iload_n 1, 1) := by decide +kernel
theorem dX6_isCover_14 : decode cX6_isCover 14 = .ok (.aload_n 0, 1) := by decide +kernel
theorem dX6_isCover_15 : decode cX6_isCover 15 = .ok (.iconst 2, 1) := by decide +kernel
theorem dX6_isCover_16 : decode cX6_isCover 16 = .ok (.invokevirtual 28, 3) := by decide +kernel
theorem dX6_isCover_19 : decode cX6_isCover 19 = .ok (.iand, 1) := by decide +kernel
theorem dX6_isCover_20 : decode cX6_isCover 20 = .ok (.ifCond .ne 15, 3) := by decide +kernel
theorem dX6_isCover_23 : decode cX6_isCover 23 = .ok (.aload_n 0, 1) := by decide +kernel
theorem dX6_isCover_24 : decode cX6_isCover 24 = .ok (.iload_n 1, 1) := by decide +kernel
theorem dX6_isCover_25 : decode cX6_isCover 25 = .ok (.invokevirtual 43, 3) := by decide +kernel
theorem dX6_isCover_28 : decode cX6_isCover 28 = .ok (.ifCond .ne 7, 3) := by decide +kernel
theorem dX6_isCover_31 : decode cX6_isCover 31 = .ok (.iconst 1, 1) := by decide +kernel
theorem dX6_isCover_32 : decode cX6_isCover 32 = .ok (.goto 4, 3) := by decide +kernel
theorem dX6_isCover_35 : decode cX6_isCover 35 = .ok (.iconst 0, 1) := by decide +kernel
theorem dX6_isCover_36 : decode cX6_isCover 36 = .ok (.ireturn, 1) := by decide +kernel
theorem dX6_neededAlone_0 : decode cX6_neededAlone 0 = .ok (.aload_n 0, 1) := by decide +kernel
theorem dX6_neededAlone_1 : decode cX6_neededAlone 1 = .ok (.invokevirtual 39, 3) := by decide +kernel
theorem dX6_neededAlone_4 : decode cX6_neededAlone 4 = .ok (.istore_n 2, 1) := by decide +kernel
theorem dX6_neededAlone_5 : decode cX6_neededAlone 5 = .ok (.iload_n 2, 1) := by decide +kernel
theorem dX6_neededAlone_6 : decode cX6_neededAlone 6 = .ok (.iload_n 1, 1) := by decide +kernel
theorem dX6_neededAlone_7 : decode cX6_neededAlone 7 = .ok (.invokestatic 32, 3) := by decide +kernel
theorem dX6_neededAlone_10 : decode cX6_neededAlone 10 = .ok (.ifCond .ne 5, 3) := by decide +kernel
theorem dX6_neededAlone_13 : decode cX6_neededAlone 13 = .ok (.iconst 0, 1) := by decide +kernel
theorem dX6_neededAlone_14 : decode cX6_neededAlone 14 = .ok (.ireturn, 1) := by decide +kernel
theorem dX6_neededAlone_15 : decode cX6_neededAlone 15 = .ok (.aload_n 0, 1) := by decide +kernel
theorem dX6_neededAlone_16 : decode cX6_neededAlone 16 = .ok (.getfield 9, 3) := by decide +kernel
theorem dX6_neededAlone_19 : decode cX6_neededAlone 19 = .ok (.aload_n 0, 1) := by decide +kernel
theorem dX6_neededAlone_20 : decode cX6_neededAlone 20 = .ok (.getfield 18, 3) := by decide +kernel
theorem dX6_neededAlone_23 : decode cX6_neededAlone 23 = .ok (.iload_n 1, 1) := by decide +kernel
theorem dX6_neededAlone_24 : decode cX6_neededAlone 24 = .ok (.iaload, 1) := by decide +kernel
theorem dX6_neededAlone_25 : decode cX6_neededAlone 25 = .ok (.iand, 1) := by decide +kernel
theorem dX6_neededAlone_26 : decode cX6_neededAlone 26 = .ok (.aload_n 0, 1) := by decide +kernel
theorem dX6_neededAlone_27 : decode cX6_neededAlone 27 = .ok (.iload_n 2, 1) := by decide +kernel
theorem dX6_neededAlone_28 : decode cX6_neededAlone 28 = .ok (.iconst 1, 1) := by decide +kernel
theorem dX6_neededAlone_29 : decode cX6_neededAlone 29 = .ok (.iload_n 1, 1) := by decide +kernel
theorem dX6_neededAlone_30 : decode cX6_neededAlone 30 = .ok (.ishl, 1) := by decide +kernel
theorem dX6_neededAlone_31 : decode cX6_neededAlone 31 = .ok (.iconst (-1), 1) := by decide +kernel
theorem dX6_neededAlone_32 : decode cX6_neededAlone 32 = .ok (.ixor, 1) := by decide +kernel
theorem dX6_neededAlone_33 : decode cX6_neededAlone 33 = .ok (.iand, 1) := by decide +kernel
theorem dX6_neededAlone_34 : decode cX6_neededAlone 34 = .ok (.invokevirtual 36, 3) := by decide +kernel
theorem dX6_neededAlone_37 : decode cX6_neededAlone 37 = .ok (.iconst (-1), 1) := by decide +kernel
theorem dX6_neededAlone_38 : decode cX6_neededAlone 38 = .ok (.ixor, 1) := by decide +kernel
theorem dX6_neededAlone_39 : decode cX6_neededAlone 39 = .ok (.iand, 1) := by decide +kernel
theorem dX6_neededAlone_40 : decode cX6_neededAlone 40 = .ok (.ireturn, 1) := by decide +kernel
theorem dX6_mostSetsWithOneThing_0 : decode cX6_mostSetsWithOneThing 0 = .ok (.aload_n 0, 1) := by decide +kernel
theorem dX6_mostSetsWithOneThing_1 : decode cX6_mostSetsWithOneThing 1 = .ok (.invokevirtual 39, 3) := by decide +kernel
theorem dX6_mostSetsWithOneThing_4 : decode cX6_mostSetsWithOneThing 4 = .ok (.istore_n 1, 1) := by decide +kernel
theorem dX6_mostSetsWithOneThing_5 : decode cX6_mostSetsWithOneThing 5 = .ok (.iconst 0, 1) := by decide +kernel
theorem dX6_mostSetsWithOneThing_6 : decode cX6_mostSetsWithOneThing 6 = .ok (.istore_n 2, 1) := by decide +kernel
theorem dX6_mostSetsWithOneThing_7 : decode cX6_mostSetsWithOneThing 7 = .ok (.iconst 0, 1) := by decide +kernel
theorem dX6_mostSetsWithOneThing_8 : decode cX6_mostSetsWithOneThing 8 = .ok (.istore_n 3, 1) := by decide +kernel
theorem dX6_mostSetsWithOneThing_9 : decode cX6_mostSetsWithOneThing 9 = .ok (.iload_n 3, 1) := by decide +kernel
theorem dX6_mostSetsWithOneThing_10 : decode cX6_mostSetsWithOneThing 10 = .ok (.bipush 18, 2) := by decide +kernel
theorem dX6_mostSetsWithOneThing_12 : decode cX6_mostSetsWithOneThing 12 = .ok (.if_icmp .ge 35, 3) := by decide +kernel
theorem dX6_mostSetsWithOneThing_15 : decode cX6_mostSetsWithOneThing 15 = .ok (.aload_n 0, 1) := by decide +kernel
theorem dX6_mostSetsWithOneThing_16 : decode cX6_mostSetsWithOneThing 16 = .ok (.getfield 9, 3) := by decide +kernel
theorem dX6_mostSetsWithOneThing_19 : decode cX6_mostSetsWithOneThing 19 = .ok (.iload_n 3, 1) := by decide +kernel
theorem dX6_mostSetsWithOneThing_20 : decode cX6_mostSetsWithOneThing 20 = .ok (.invokestatic 32, 3) := by decide +kernel
theorem dX6_mostSetsWithOneThing_23 : decode cX6_mostSetsWithOneThing 23 = .ok (.ifCond .eq 18, 3) := by decide +kernel
theorem dX6_mostSetsWithOneThing_26 : decode cX6_mostSetsWithOneThing 26 = .ok (.iload_n 2, 1) := by decide +kernel
theorem dX6_mostSetsWithOneThing_27 : decode cX6_mostSetsWithOneThing 27 = .ok (.aload_n 0, 1) := by decide +kernel
theorem dX6_mostSetsWithOneThing_28 : decode cX6_mostSetsWithOneThing 28 = .ok (.iload_n 3, 1) := by decide +kernel
theorem dX6_mostSetsWithOneThing_29 : decode cX6_mostSetsWithOneThing 29 = .ok (.invokevirtual 46, 3) := by decide +kernel
theorem dX6_mostSetsWithOneThing_32 : decode cX6_mostSetsWithOneThing 32 = .ok (.iload_n 1, 1) := by decide +kernel
theorem dX6_mostSetsWithOneThing_33 : decode cX6_mostSetsWithOneThing 33 = .ok (.iand, 1) := by decide +kernel
theorem dX6_mostSetsWithOneThing_34 : decode cX6_mostSetsWithOneThing 34 = .ok (.invokestatic 49, 3) := by decide +kernel
theorem dX6_mostSetsWithOneThing_37 : decode cX6_mostSetsWithOneThing 37 = .ok (.invokestatic 54, 3) := by decide +kernel
theorem dX6_mostSetsWithOneThing_40 : decode cX6_mostSetsWithOneThing 40 = .ok (.istore_n 2, 1) := by decide +kernel
theorem dX6_mostSetsWithOneThing_41 : decode cX6_mostSetsWithOneThing 41 = .ok (.iinc 3 1, 3) := by decide +kernel
theorem dX6_mostSetsWithOneThing_44 : decode cX6_mostSetsWithOneThing 44 = .ok (.goto (-35), 3) := by decide +kernel
theorem dX6_mostSetsWithOneThing_47 : decode cX6_mostSetsWithOneThing 47 = .ok (.iload_n 2, 1) := by decide +kernel
theorem dX6_mostSetsWithOneThing_48 : decode cX6_mostSetsWithOneThing 48 = .ok (.ireturn, 1) := by decide +kernel
theorem dX7_init_0 : decode cX7_init 0 = .ok (.aload_n 0, 1) := by decide +kernel
theorem dX7_init_1 : decode cX7_init 1 = .ok (.invokespecial 3, 3) := by decide +kernel
theorem dX7_init_4 : decode cX7_init 4 = .ok (.aload_n 0, 1) := by decide +kernel
theorem dX7_init_5 : decode cX7_init 5 = .ok (.iconst 0, 1) := by decide +kernel
theorem dX7_init_6 : decode cX7_init 6 = .ok (.putfield 9, 3) := by decide +kernel
theorem dX7_init_9 : decode cX7_init 9 = .ok (.aload_n 0, 1) := by decide +kernel
theorem dX7_init_10 : decode cX7_init 10 = .ok (.iconst 0, 1) := by decide +kernel
theorem dX7_init_11 : decode cX7_init 11 = .ok (.putfield 15, 3) := by decide +kernel
theorem dX7_init_14 : decode cX7_init 14 = .ok (.aload_n 0, 1) := by decide +kernel
theorem dX7_init_15 : decode cX7_init 15 = .ok (.bipush 14, 2) := by decide +kernel
theorem dX7_init_17 : decode cX7_init 17 = .ok (.newarray .int, 2) := by decide +kernel
theorem dX7_init_19 : decode cX7_init 19 = .ok (.putfield 18, 3) := by decide +kernel
theorem dX7_init_22 : decode cX7_init 22 = .ok (.aload_n 0, 1) := by decide +kernel
theorem dX7_init_23 : decode cX7_init 23 = .ok (.bipush 14, 2) := by decide +kernel
theorem dX7_init_25 : decode cX7_init 25 = .ok (.newarray .int, 2) := by decide +kernel
theorem dX7_init_27 : decode cX7_init 27 = .ok (.putfield 22, 3) := by decide +kernel
theorem dX7_init_30 : decode cX7_init 30 = .ok (.aload_n 0, 1) := by decide +kernel
theorem dX7_init_31 : decode cX7_init 31 = .ok (.bipush 14, 2) := by decide +kernel
theorem dX7_init_33 : decode cX7_init 33 = .ok (.newarray .int, 2) := by decide +kernel
theorem dX7_init_35 : decode cX7_init 35 = .ok (.putfield 25, 3) := by decide +kernel
theorem dX7_init_38 : decode cX7_init 38 = .ok (.aload_n 0, 1) := by decide +kernel
theorem dX7_init_39 : decode cX7_init 39 = .ok (.bipush 15, 2) := by decide +kernel
theorem dX7_init_41 : decode cX7_init 41 = .ok (.newarray .int, 2) := by decide +kernel
theorem dX7_init_43 : decode cX7_init 43 = .ok (.putfield 28, 3) := by decide +kernel
theorem dX7_init_46 : decode cX7_init 46 = .ok (.aload_n 0, 1) := by decide +kernel
theorem dX7_init_47 : decode cX7_init 47 = .ok (.bipush 15, 2) := by decide +kernel
theorem dX7_init_49 : decode cX7_init 49 = .ok (.newarray .int, 2) := by decide +kernel
theorem dX7_init_51 : decode cX7_init 51 = .ok (.putfield 31, 3) := by decide +kernel
theorem dX7_init_54 : decode cX7_init 54 = .ok (.aload_n 0, 1) := by decide +kernel
theorem dX7_init_55 : decode cX7_init 55 = .ok (.bipush 15, 2) := by decide +kernel
theorem dX7_init_57 : decode cX7_init 57 = .ok (.newarray .int, 2) := by decide +kernel
theorem dX7_init_59 : decode cX7_init 59 = .ok (.putfield 34, 3) := by decide +kernel
theorem dX7_init_62 : decode cX7_init 62 = .ok (.aload_n 0, 1) := by decide +kernel
theorem dX7_init_63 : decode cX7_init 63 = .ok (.bipush 15, 2) := by decide +kernel
theorem dX7_init_65 : decode cX7_init 65 = .ok (.newarray .int, 2) := by decide +kernel
theorem dX7_init_67 : decode cX7_init 67 = .ok (.putfield 37, 3) := by decide +kernel
theorem dX7_init_70 : decode cX7_init 70 = .ok (.return_, 1) := by decide +kernel
theorem dX7_begin_0 : decode cX7_begin 0 = .ok (.aload_n 0, 1) := by decide +kernel
theorem dX7_begin_1 : decode cX7_begin 1 = .ok (.aload_n 1, 1) := by decide +kernel
theorem dX7_begin_2 : decode cX7_begin 2 = .ok (.getfield 40, 3) := by decide +kernel
theorem dX7_begin_5 : decode cX7_begin 5 = .ok (.putfield 9, 3) := by decide +kernel
theorem dX7_begin_8 : decode cX7_begin 8 = .ok (.aload_n 0, 1) := by decide +kernel
theorem dX7_begin_9 : decode cX7_begin 9 = .ok (.iconst 0, 1) := by decide +kernel
theorem dX7_begin_10 : decode cX7_begin 10 = .ok (.putfield 15, 3) := by decide +kernel
theorem dX7_begin_13 : decode cX7_begin 13 = .ok (.aload_n 0, 1) := by decide +kernel
theorem dX7_begin_14 : decode cX7_begin 14 = .ok (.getfield 28, 3) := by decide +kernel
theorem dX7_begin_17 : decode cX7_begin 17 = .ok (.iconst 0, 1) := by decide +kernel
theorem dX7_begin_18 : decode cX7_begin 18 = .ok (.invokestatic 43, 3) := by decide +kernel
theorem dX7_begin_21 : decode cX7_begin 21 = .ok (.aload_n 0, 1) := by decide +kernel
theorem dX7_begin_22 : decode cX7_begin 22 = .ok (.getfield 31, 3) := by decide +kernel
theorem dX7_begin_25 : decode cX7_begin 25 = .ok (.iconst 0, 1) := by decide +kernel
theorem dX7_begin_26 : decode cX7_begin 26 = .ok (.invokestatic 43, 3) := by decide +kernel
theorem dX7_begin_29 : decode cX7_begin 29 = .ok (.aload_n 0, 1) := by decide +kernel
theorem dX7_begin_30 : decode cX7_begin 30 = .ok (.getfield 34, 3) := by decide +kernel
theorem dX7_begin_33 : decode cX7_begin 33 = .ok (.iconst 0, 1) := by decide +kernel
theorem dX7_begin_34 : decode cX7_begin 34 = .ok (.invokestatic 43, 3) := by decide +kernel
theorem dX7_begin_37 : decode cX7_begin 37 = .ok (.aload_n 0, 1) := by decide +kernel
theorem dX7_begin_38 : decode cX7_begin 38 = .ok (.getfield 37, 3) := by decide +kernel
theorem dX7_begin_41 : decode cX7_begin 41 = .ok (.iconst 0, 1) := by decide +kernel
theorem dX7_begin_42 : decode cX7_begin 42 = .ok (.invokestatic 43, 3) := by decide +kernel
theorem dX7_begin_45 : decode cX7_begin 45 = .ok (.iconst 0, 1) := by decide +kernel
theorem dX7_begin_46 : decode cX7_begin 46 = .ok (.istore_n 2, 1) := by decide +kernel
theorem dX7_begin_47 : decode cX7_begin 47 = .ok (.iload_n 2, 1) := by decide +kernel
theorem dX7_begin_48 : decode cX7_begin 48 = .ok (.aload_n 1, 1) := by decide +kernel
theorem dX7_begin_49 : decode cX7_begin 49 = .ok (.getfield 49, 3) := by decide +kernel
theorem dX7_begin_52 : decode cX7_begin 52 = .ok (.if_icmp .ge 85, 3) := by decide +kernel
theorem dX7_begin_55 : decode cX7_begin 55 = .ok (.aload_n 1, 1) := by decide +kernel
theorem dX7_begin_56 : decode cX7_begin 56 = .ok (.getfield 52, 3) := by decide +kernel
theorem dX7_begin_59 : decode cX7_begin 59 = .ok (.iload_n 2, 1) := by decide +kernel
theorem dX7_begin_60 : decode cX7_begin 60 = .ok (.iaload, 1) := by decide +kernel
theorem dX7_begin_61 : decode cX7_begin 61 = .ok (.ifCond .ne 25, 3) := by decide +kernel
theorem dX7_begin_64 : decode cX7_begin 64 = .ok (.aload_n 0, 1) := by decide +kernel
theorem dX7_begin_65 : decode cX7_begin 65 = .ok (.iconst 1, 1) := by decide +kernel
theorem dX7_begin_66 : decode cX7_begin 66 = .ok (.iload_n 2, 1) := by decide +kernel
theorem dX7_begin_67 : decode cX7_begin 67 = .ok (.ishl, 1) := by decide +kernel
theorem dX7_begin_68 : decode cX7_begin 68 = .ok (.aload_n 1, 1) := by decide +kernel
theorem dX7_begin_69 : decode cX7_begin 69 = .ok (.getfield 55, 3) := by decide +kernel
theorem dX7_begin_72 : decode cX7_begin 72 = .ok (.iload_n 2, 1) := by decide +kernel
theorem dX7_begin_73 : decode cX7_begin 73 = .ok (.iaload, 1) := by decide +kernel
theorem dX7_begin_74 : decode cX7_begin 74 = .ok (.aload_n 1, 1) := by decide +kernel
theorem dX7_begin_75 : decode cX7_begin 75 = .ok (.getfield 56, 3) := by decide +kernel
theorem dX7_begin_78 : decode cX7_begin 78 = .ok (.iload_n 2, 1) := by decide +kernel
theorem dX7_begin_79 : decode cX7_begin 79 = .ok (.iaload, 1) := by decide +kernel
theorem dX7_begin_80 : decode cX7_begin 80 = .ok (.invokevirtual 57, 3) := by decide +kernel
theorem dX7_begin_83 : decode cX7_begin 83 = .ok (.goto 48, 3) := by decide +kernel
theorem dX7_begin_86 : decode cX7_begin 86 = .ok (.aload_n 1, 1) := by decide +kernel
theorem dX7_begin_87 : decode cX7_begin 87 = .ok (.getfield 52, 3) := by decide +kernel
theorem dX7_begin_90 : decode cX7_begin 90 = .ok (.iload_n 2, 1) := by decide +kernel
theorem dX7_begin_91 : decode cX7_begin 91 = .ok (.iaload, 1) := by decide +kernel
theorem dX7_begin_92 : decode cX7_begin 92 = .ok (.iconst 1, 1) := by decide +kernel
theorem dX7_begin_93 : decode cX7_begin 93 = .ok (.if_icmp .ne 38, 3) := by decide +kernel
theorem dX7_begin_96 : decode cX7_begin 96 = .ok (.iconst 0, 1) := by decide +kernel
theorem dX7_begin_97 : decode cX7_begin 97 = .ok (.istore_n 3, 1) := by decide +kernel
theorem dX7_begin_98 : decode cX7_begin 98 = .ok (.iload_n 3, 1) := by decide +kernel
theorem dX7_begin_99 : decode cX7_begin 99 = .ok (.bipush 14, 2) := by decide +kernel
theorem dX7_begin_101 : decode cX7_begin 101 = .ok (.if_icmp .gt 30, 3) := by decide +kernel
theorem dX7_begin_104 : decode cX7_begin 104 = .ok (.aload_n 0, 1) := by decide +kernel
theorem dX7_begin_105 : decode cX7_begin 105 = .ok (.iload_n 3, 1) := by decide +kernel
theorem dX7_begin_106 : decode cX7_begin 106 = .ok (.iload_n 3, 1) := by decide +kernel
theorem dX7_begin_107 : decode cX7_begin 107 = .ok (.iconst 1, 1) := by decide +kernel
theorem dX7_begin_108 : decode cX7_begin 108 = .ok (.iload_n 2, 1) := by decide +kernel
theorem dX7_begin_109 : decode cX7_begin 109 = .ok (.ishl, 1) := by decide +kernel
theorem dX7_begin_110 : decode cX7_begin 110 = .ok (.aload_n 1, 1) := by decide +kernel
theorem dX7_begin_111 : decode cX7_begin 111 = .ok (.getfield 55, 3) := by decide +kernel
theorem dX7_begin_114 : decode cX7_begin 114 = .ok (.iload_n 2, 1) := by decide +kernel
theorem dX7_begin_115 : decode cX7_begin 115 = .ok (.iaload, 1) := by decide +kernel
theorem dX7_begin_116 : decode cX7_begin 116 = .ok (.aload_n 1, 1) := by decide +kernel
theorem dX7_begin_117 : decode cX7_begin 117 = .ok (.getfield 56, 3) := by decide +kernel
theorem dX7_begin_120 : decode cX7_begin 120 = .ok (.iload_n 2, 1) := by decide +kernel
theorem dX7_begin_121 : decode cX7_begin 121 = .ok (.iaload, 1) := by decide +kernel
theorem dX7_begin_122 : decode cX7_begin 122 = .ok (.invokevirtual 61, 3) := by decide +kernel
theorem dX7_begin_125 : decode cX7_begin 125 = .ok (.iinc 3 1, 3) := by decide +kernel
theorem dX7_begin_128 : decode cX7_begin 128 = .ok (.goto (-30), 3) := by decide +kernel
theorem dX7_begin_131 : decode cX7_begin 131 = .ok (.iinc 2 1, 3) := by decide +kernel
theorem dX7_begin_134 : decode cX7_begin 134 = .ok (.goto (-87), 3) := by decide +kernel
theorem dX7_begin_137 : decode cX7_begin 137 = .ok (.iconst 1, 1) := by decide +kernel
theorem dX7_begin_138 : decode cX7_begin 138 = .ok (.aload_n 0, 1) := by decide +kernel
theorem dX7_begin_139 : decode cX7_begin 139 = .ok (.getfield 15, 3) := by decide +kernel
theorem dX7_begin_142 : decode cX7_begin 142 = .ok (.ishl, 1) := by decide +kernel
theorem dX7_begin_143 : decode cX7_begin 143 = .ok (.ireturn, 1) := by decide +kernel
theorem dX7_noteFree_0 : decode cX7_noteFree 0 = .ok (.aload_n 0, 1) := by decide +kernel
theorem dX7_noteFree_1 : decode cX7_noteFree 1 = .ok (.getfield 15, 3) := by decide +kernel
theorem dX7_noteFree_4 : decode cX7_noteFree 4 = .ok (.bipush 14, 2) := by decide +kernel
theorem dX7_noteFree_6 : decode cX7_noteFree 6 = .ok (.if_icmp .ge 43, 3) := by decide +kernel
theorem dX7_noteFree_9 : decode cX7_noteFree 9 = .ok (.aload_n 0, 1) := by decide +kernel
theorem dX7_noteFree_10 : decode cX7_noteFree 10 = .ok (.getfield 25, 3) := by decide +kernel
theorem dX7_noteFree_13 : decode cX7_noteFree 13 = .ok (.aload_n 0, 1) := by decide +kernel
theorem dX7_noteFree_14 : decode cX7_noteFree 14 = .ok (.getfield 15, 3) := by decide +kernel
theorem dX7_noteFree_17 : decode cX7_noteFree 17 = .ok (.iload_n 1, 1) := by decide +kernel
theorem dX7_noteFree_18 : decode cX7_noteFree 18 = .ok (.iastore, 1) := by decide +kernel
theorem dX7_noteFree_19 : decode cX7_noteFree 19 = .ok (.aload_n 0, 1) := by decide +kernel
theorem dX7_noteFree_20 : decode cX7_noteFree 20 = .ok (.getfield 18, 3) := by decide +kernel
theorem dX7_noteFree_23 : decode cX7_noteFree 23 = .ok (.aload_n 0, 1) := by decide +kernel
theorem dX7_noteFree_24 : decode cX7_noteFree 24 = .ok (.getfield 15, 3) := by decide +kernel
theorem dX7_noteFree_27 : decode cX7_noteFree 27 = .ok (.iload_n 2, 1) := by decide +kernel
theorem dX7_noteFree_28 : decode cX7_noteFree 28 = .ok (.iastore, 1) := by decide +kernel
theorem dX7_noteFree_29 : decode cX7_noteFree 29 = .ok (.aload_n 0, 1) := by decide +kernel
theorem dX7_noteFree_30 : decode cX7_noteFree 30 = .ok (.getfield 22, 3) := by decide +kernel
theorem dX7_noteFree_33 : decode cX7_noteFree 33 = .ok (.aload_n 0, 1) := by decide +kernel
theorem dX7_noteFree_34 : decode cX7_noteFree 34 = .ok (.getfield 15, 3) := by decide +kernel
theorem dX7_noteFree_37 : decode cX7_noteFree 37 = .ok (.iload_n 3, 1) := by decide +kernel
theorem dX7_noteFree_38 : decode cX7_noteFree 38 = .ok (.iastore, 1) := by decide +kernel
theorem dX7_noteFree_39 : decode cX7_noteFree 39 = .ok (.aload_n 0, 1) := by decide +kernel
theorem dX7_noteFree_40 : decode cX7_noteFree 40 = .ok (.dup, 1) := by decide +kernel
theorem dX7_noteFree_41 : decode cX7_noteFree 41 = .ok (.getfield 15, 3) := by decide +kernel
theorem dX7_noteFree_44 : decode cX7_noteFree 44 = .ok (.iconst 1, 1) := by decide +kernel
theorem dX7_noteFree_45 : decode cX7_noteFree 45 = .ok (.iadd, 1) := by decide +kernel
theorem dX7_noteFree_46 : decode cX7_noteFree 46 = .ok (.putfield 15, 3) := by decide +kernel
theorem dX7_noteFree_49 : decode cX7_noteFree 49 = .ok (.return_, 1) := by decide +kernel
theorem dX7_join_0 : decode cX7_join 0 = .ok (.aload_n 0, 1) := by decide +kernel
theorem dX7_join_1 : decode cX7_join 1 = .ok (.getfield 28, 3) := by decide +kernel
theorem dX7_join_4 : decode cX7_join 4 = .ok (.iload_n 1, 1) := by decide +kernel
theorem dX7_join_5 : decode cX7_join 5 = .ok (.aload_n 0, 1) := by decide +kernel
theorem dX7_join_6 : decode cX7_join 6 = .ok (.getfield 28, 3) := by decide +kernel
theorem dX7_join_9 : decode cX7_join 9 = .ok (.iload_n 2, 1) := by decide +kernel
theorem dX7_join_10 : decode cX7_join 10 = .ok (.iaload, 1) := by decide +kernel
theorem dX7_join_11 : decode cX7_join 11 = .ok (.iload_n 3, 1) := by decide +kernel
theorem dX7_join_12 : decode cX7_join 12 = .ok (.ior, 1) := by decide +kernel
theorem dX7_join_13 : decode cX7_join 13 = .ok (.iastore, 1) := by decide +kernel
theorem dX7_join_14 : decode cX7_join 14 = .ok (.aload_n 0, 1) := by decide +kernel
theorem dX7_join_15 : decode cX7_join 15 = .ok (.getfield 31, 3) := by decide +kernel
theorem dX7_join_18 : decode cX7_join 18 = .ok (.iload_n 1, 1) := by decide +kernel
theorem dX7_join_19 : decode cX7_join 19 = .ok (.aload_n 0, 1) := by decide +kernel
theorem dX7_join_20 : decode cX7_join 20 = .ok (.getfield 31, 3) := by decide +kernel
theorem dX7_join_23 : decode cX7_join 23 = .ok (.iload_n 2, 1) := by decide +kernel
theorem dX7_join_24 : decode cX7_join 24 = .ok (.iaload, 1) := by decide +kernel
theorem dX7_join_25 : decode cX7_join 25 = .ok (.iload 5, 2) := by decide +kernel
theorem dX7_join_27 : decode cX7_join 27 = .ok (.iadd, 1) := by decide +kernel
theorem dX7_join_28 : decode cX7_join 28 = .ok (.iastore, 1) := by decide +kernel
theorem dX7_join_29 : decode cX7_join 29 = .ok (.aload_n 0, 1) := by decide +kernel
theorem dX7_join_30 : decode cX7_join 30 = .ok (.getfield 37, 3) := by decide +kernel
theorem dX7_join_33 : decode cX7_join 33 = .ok (.iload_n 1, 1) := by decide +kernel
theorem dX7_join_34 : decode cX7_join 34 = .ok (.aload_n 0, 1) := by decide +kernel
theorem dX7_join_35 : decode cX7_join 35 = .ok (.getfield 37, 3) := by decide +kernel
theorem dX7_join_38 : decode cX7_join 38 = .ok (.iload_n 2, 1) := by decide +kernel
theorem dX7_join_39 : decode cX7_join 39 = .ok (.iaload, 1) := by decide +kernel
theorem dX7_join_40 : decode cX7_join 40 = .ok (.aload_n 0, 1) := by decide +kernel
theorem dX7_join_41 : decode cX7_join 41 = .ok (.getfield 34, 3) := by decide +kernel
theorem dX7_join_44 : decode cX7_join 44 = .ok (.iload_n 2, 1) := by decide +kernel
theorem dX7_join_45 : decode cX7_join 45 = .ok (.iaload, 1) := by decide +kernel
theorem dX7_join_46 : decode cX7_join 46 = .ok (.iload 4, 2) := by decide +kernel
theorem dX7_join_48 : decode cX7_join 48 = .ok (.iand, 1) := by decide +kernel
theorem dX7_join_49 : decode cX7_join 49 = .ok (.ior, 1) := by decide +kernel
theorem dX7_join_50 : decode cX7_join 50 = .ok (.iastore, 1) := by decide +kernel
theorem dX7_join_51 : decode cX7_join 51 = .ok (.aload_n 0, 1) := by decide +kernel
theorem dX7_join_52 : decode cX7_join 52 = .ok (.getfield 34, 3) := by decide +kernel
theorem dX7_join_55 : decode cX7_join 55 = .ok (.iload_n 1, 1) := by decide +kernel
theorem dX7_join_56 : decode cX7_join 56 = .ok (.aload_n 0, 1) := by decide +kernel
theorem dX7_join_57 : decode cX7_join 57 = .ok (.getfield 34, 3) := by decide +kernel
theorem dX7_join_60 : decode cX7_join 60 = .ok (.iload_n 2, 1) := by decide +kernel
theorem dX7_join_61 : decode cX7_join 61 = .ok (.iaload, 1) := by decide +kernel
theorem dX7_join_62 : decode cX7_join 62 = .ok (.iload 4, 2) := by decide +kernel
theorem dX7_join_64 : decode cX7_join 64 = .ok (.ior, 1) := by decide +kernel
theorem dX7_join_65 : decode cX7_join 65 = .ok (.iastore, 1) := by decide +kernel
theorem dX7_join_66 : decode cX7_join 66 = .ok (.return_, 1) := by decide +kernel
theorem dX7_goTo_0 : decode cX7_goTo 0 = .ok (.iload_n 1, 1) := by decide +kernel
theorem dX7_goTo_1 : decode cX7_goTo 1 = .ok (.invokestatic 65, 3) := by decide +kernel
theorem dX7_goTo_4 : decode cX7_goTo 4 = .ok (.istore_n 2, 1) := by decide +kernel
theorem dX7_goTo_5 : decode cX7_goTo 5 = .ok (.iload_n 2, 1) := by decide +kernel
theorem dX7_goTo_6 : decode cX7_goTo 6 = .ok (.aload_n 0, 1) := by decide +kernel
theorem dX7_goTo_7 : decode cX7_goTo 7 = .ok (.getfield 15, 3) := by decide +kernel
theorem dX7_goTo_10 : decode cX7_goTo 10 = .ok (.if_icmp .ge 9, 3) := by decide +kernel
theorem dX7_goTo_13 : decode cX7_goTo 13 = .ok (.iload_n 2, 1) := by decide +kernel
theorem dX7_goTo_14 : decode cX7_goTo 14 = .ok (.bipush 14, 2) := by decide +kernel
theorem dX7_goTo_16 : decode cX7_goTo 16 = .ok (.if_icmp .lt 4, 3) := by decide +kernel
theorem dX7_goTo_19 : decode cX7_goTo 19 = .ok (.return_, 1) := by decide +kernel
theorem dX7_goTo_20 : decode cX7_goTo 20 = .ok (.aload_n 0, 1) := by decide +kernel
theorem dX7_goTo_21 : decode cX7_goTo 21 = .ok (.iload_n 2, 1) := by decide +kernel
theorem dX7_goTo_22 : decode cX7_goTo 22 = .ok (.iload_n 2, 1) := by decide +kernel
theorem dX7_goTo_23 : decode cX7_goTo 23 = .ok (.iconst 1, 1) := by decide +kernel
theorem dX7_goTo_24 : decode cX7_goTo 24 = .ok (.iadd, 1) := by decide +kernel
theorem dX7_goTo_25 : decode cX7_goTo 25 = .ok (.aload_n 0, 1) := by decide +kernel
theorem dX7_goTo_26 : decode cX7_goTo 26 = .ok (.getfield 25, 3) := by decide +kernel
theorem dX7_goTo_29 : decode cX7_goTo 29 = .ok (.iload_n 2, 1) := by decide +kernel
theorem dX7_goTo_30 : decode cX7_goTo 30 = .ok (.iaload, 1) := by decide +kernel
theorem dX7_goTo_31 : decode cX7_goTo 31 = .ok (.aload_n 0, 1) := by decide +kernel
theorem dX7_goTo_32 : decode cX7_goTo 32 = .ok (.getfield 18, 3) := by decide +kernel
theorem dX7_goTo_35 : decode cX7_goTo 35 = .ok (.iload_n 2, 1) := by decide +kernel
theorem dX7_goTo_36 : decode cX7_goTo 36 = .ok (.iaload, 1) := by decide +kernel
theorem dX7_goTo_37 : decode cX7_goTo 37 = .ok (.aload_n 0, 1) := by decide +kernel
theorem dX7_goTo_38 : decode cX7_goTo 38 = .ok (.getfield 22, 3) := by decide +kernel
theorem dX7_goTo_41 : decode cX7_goTo 41 = .ok (.iload_n 2, 1) := by decide +kernel
theorem dX7_goTo_42 : decode cX7_goTo 42 = .ok (.iaload, 1) := by decide +kernel
theorem dX7_goTo_43 : decode cX7_goTo 43 = .ok (.invokevirtual 61, 3) := by decide +kernel
theorem dX7_goTo_46 : decode cX7_goTo 46 = .ok (.iconst 0, 1) := by decide +kernel
theorem dX7_goTo_47 : decode cX7_goTo 47 = .ok (.istore_n 3, 1) := by decide +kernel
theorem dX7_goTo_48 : decode cX7_goTo 48 = .ok (.iload_n 3, 1) := by decide +kernel
theorem dX7_goTo_49 : decode cX7_goTo 49 = .ok (.iload_n 2, 1) := by decide +kernel
theorem dX7_goTo_50 : decode cX7_goTo 50 = .ok (.if_icmp .ge 18, 3) := by decide +kernel
theorem dX7_goTo_53 : decode cX7_goTo 53 = .ok (.aload_n 0, 1) := by decide +kernel
theorem dX7_goTo_54 : decode cX7_goTo 54 = .ok (.iload_n 3, 1) := by decide +kernel
theorem dX7_goTo_55 : decode cX7_goTo 55 = .ok (.iload_n 2, 1) := by decide +kernel
theorem dX7_goTo_56 : decode cX7_goTo 56 = .ok (.iconst 0, 1) := by decide +kernel
theorem dX7_goTo_57 : decode cX7_goTo 57 = .ok (.iconst 0, 1) := by decide +kernel
theorem dX7_goTo_58 : decode cX7_goTo 58 = .ok (.iconst 0, 1) := by decide +kernel
theorem dX7_goTo_59 : decode cX7_goTo 59 = .ok (.invokevirtual 61, 3) := by decide +kernel
theorem dX7_goTo_62 : decode cX7_goTo 62 = .ok (.iinc 3 1, 3) := by decide +kernel
theorem dX7_goTo_65 : decode cX7_goTo 65 = .ok (.goto (-17), 3) := by decide +kernel
theorem dX7_goTo_68 : decode cX7_goTo 68 = .ok (.return_, 1) := by decide +kernel
theorem dX7_chosen_0 : decode cX7_chosen 0 = .ok (.aload_n 0, 1) := by decide +kernel
theorem dX7_chosen_1 : decode cX7_chosen 1 = .ok (.getfield 28, 3) := by decide +kernel
theorem dX7_chosen_4 : decode cX7_chosen 4 = .ok (.iconst 0, 1) := by decide +kernel
theorem dX7_chosen_5 : decode cX7_chosen 5 = .ok (.iaload, 1) := by decide +kernel
theorem dX7_chosen_6 : decode cX7_chosen 6 = .ok (.ireturn, 1) := by decide +kernel
theorem dX7_sum_0 : decode cX7_sum 0 = .ok (.aload_n 0, 1) := by decide +kernel
theorem dX7_sum_1 : decode cX7_sum 1 = .ok (.getfield 31, 3) := by decide +kernel
theorem dX7_sum_4 : decode cX7_sum 4 = .ok (.iconst 0, 1) := by decide +kernel
theorem dX7_sum_5 : decode cX7_sum 5 = .ok (.iaload, 1) := by decide +kernel
theorem dX7_sum_6 : decode cX7_sum 6 = .ok (.ireturn, 1) := by decide +kernel
theorem dX7_missing_0 : decode cX7_missing 0 = .ok (.aload_n 0, 1) := by decide +kernel
theorem dX7_missing_1 : decode cX7_missing 1 = .ok (.getfield 9, 3) := by decide +kernel
theorem dX7_missing_4 : decode cX7_missing 4 = .ok (.aload_n 0, 1) := by decide +kernel
theorem dX7_missing_5 : decode cX7_missing 5 = .ok (.getfield 34, 3) := by decide +kernel
theorem dX7_missing_8 : decode cX7_missing 8 = .ok (.iconst 0, 1) := by decide +kernel
theorem dX7_missing_9 : decode cX7_missing 9 = .ok (.iaload, 1) := by decide +kernel
theorem dX7_missing_10 : decode cX7_missing 10 = .ok (.iconst (-1), 1) := by decide +kernel
theorem dX7_missing_11 : decode cX7_missing 11 = .ok (.ixor, 1) := by decide +kernel
theorem dX7_missing_12 : decode cX7_missing 12 = .ok (.iand, 1) := by decide +kernel
theorem dX7_missing_13 : decode cX7_missing 13 = .ok (.ireturn, 1) := by decide +kernel
theorem dX7_isFullCover_0 : decode cX7_isFullCover 0 = .ok (.aload_n 0, 1) := by decide +kernel
theorem dX7_isFullCover_1 : decode cX7_isFullCover 1 = .ok (.invokevirtual 71, 3) := by decide +kernel
theorem dX7_isFullCover_4 : decode cX7_isFullCover 4 = .ok (.ifCond .ne 7, 3) := by decide +kernel
theorem dX7_isFullCover_7 : decode cX7_isFullCover 7 = .ok (.iconst 1, 1) := by decide +kernel
theorem dX7_isFullCover_8 : decode cX7_isFullCover 8 = .ok (.goto 4, 3) := by decide +kernel
theorem dX7_isFullCover_11 : decode cX7_isFullCover 11 = .ok (.iconst 0, 1) := by decide +kernel
theorem dX7_isFullCover_12 : decode cX7_isFullCover 12 = .ok (.ireturn, 1) := by decide +kernel
theorem dX7_hasNoSpareSet_0 : decode cX7_hasNoSpareSet 0 = .ok (.aload_n 0, 1) := by decide +kernel
theorem dX7_hasNoSpareSet_1 : decode cX7_hasNoSpareSet 1 = .ok (.getfield 9, 3) := by decide +kernel
theorem dX7_hasNoSpareSet_4 : decode cX7_hasNoSpareSet 4 = .ok (.aload_n 0, 1) := by decide +kernel
theorem dX7_hasNoSpareSet_5 : decode cX7_hasNoSpareSet 5 = .ok (.getfield 37, 3) := by decide +kernel
theorem dX7_hasNoSpareSet_8 : decode cX7_hasNoSpareSet 8 = .ok (.iconst 0, 1) := by decide +kernel
theorem dX7_hasNoSpareSet_9 : decode cX7_hasNoSpareSet 9 = .ok (.iaload, 1) := by decide +kernel
theorem dX7_hasNoSpareSet_10 : decode cX7_hasNoSpareSet 10 = .ok (.iconst (-1), 1) := by decide +kernel
theorem dX7_hasNoSpareSet_11 : decode cX7_hasNoSpareSet 11 = .ok (.ixor, 1) := by decide +kernel
theorem dX7_hasNoSpareSet_12 : decode cX7_hasNoSpareSet 12 = .ok (.iand, 1) := by decide +kernel
theorem dX7_hasNoSpareSet_13 : decode cX7_hasNoSpareSet 13 = .ok (.istore_n 1, 1) := by decide +kernel
theorem dX7_hasNoSpareSet_14 : decode cX7_hasNoSpareSet 14 = .ok (.iconst 0, 1) := by decide +kernel
theorem dX7_hasNoSpareSet_15 : decode cX7_hasNoSpareSet 15 = .ok (.istore_n 2, 1) := by decide +kernel
theorem dX7_hasNoSpareSet_16 : decode cX7_hasNoSpareSet 16 = .ok (.iload_n 2, 1) := by decide +kernel
theorem dX7_hasNoSpareSet_17 : decode cX7_hasNoSpareSet 17 = .ok (.aload_n 0, 1) := by decide +kernel
theorem dX7_hasNoSpareSet_18 : decode cX7_hasNoSpareSet 18 = .ok (.getfield 15, 3) := by decide +kernel
theorem dX7_hasNoSpareSet_21 : decode cX7_hasNoSpareSet 21 = .ok (.if_icmp .ge 44, 3) := by decide +kernel
theorem dX7_hasNoSpareSet_24 : decode cX7_hasNoSpareSet 24 = .ok (.iload_n 2, 1) := by decide +kernel
theorem dX7_hasNoSpareSet_25 : decode cX7_hasNoSpareSet 25 = .ok (.bipush 14, 2) := by decide +kernel
theorem dX7_hasNoSpareSet_27 : decode cX7_hasNoSpareSet 27 = .ok (.if_icmp .ge 38, 3) := by decide +kernel
theorem dX7_hasNoSpareSet_30 : decode cX7_hasNoSpareSet 30 = .ok (.aload_n 0, 1) := by decide +kernel
theorem dX7_hasNoSpareSet_31 : decode cX7_hasNoSpareSet 31 = .ok (.getfield 28, 3) := by decide +kernel
theorem dX7_hasNoSpareSet_34 : decode cX7_hasNoSpareSet 34 = .ok (.iconst 0, 1) := by decide +kernel
theorem dX7_hasNoSpareSet_35 : decode cX7_hasNoSpareSet 35 = .ok (.iaload, 1) := by decide +kernel
theorem dX7_hasNoSpareSet_36 : decode cX7_hasNoSpareSet 36 = .ok (.aload_n 0, 1) := by decide +kernel
theorem dX7_hasNoSpareSet_37 : decode cX7_hasNoSpareSet 37 = .ok (.getfield 25, 3) := by decide +kernel
theorem dX7_hasNoSpareSet_40 : decode cX7_hasNoSpareSet 40 = .ok (.iload_n 2, 1) := by decide +kernel
theorem dX7_hasNoSpareSet_41 : decode cX7_hasNoSpareSet 41 = .ok (.iaload, 1) := by decide +kernel
theorem dX7_hasNoSpareSet_42 : decode cX7_hasNoSpareSet 42 = .ok (.iand, 1) := by decide +kernel
theorem dX7_hasNoSpareSet_43 : decode cX7_hasNoSpareSet 43 = .ok (.ifCond .eq 16, 3) := by decide +kernel
theorem dX7_hasNoSpareSet_46 : decode cX7_hasNoSpareSet 46 = .ok (.aload_n 0, 1) := by decide +kernel
theorem dX7_hasNoSpareSet_47 : decode cX7_hasNoSpareSet 47 = .ok (.getfield 18, 3) := by decide +kernel
theorem dX7_hasNoSpareSet_50 : decode cX7_hasNoSpareSet 50 = .ok (.iload_n 2, 1) := by decide +kernel
theorem dX7_hasNoSpareSet_51 : decode cX7_hasNoSpareSet 51 = .ok (.iaload, 1) := by decide +kernel
theorem dX7_hasNoSpareSet_52 : decode cX7_hasNoSpareSet 52 = .ok (.iload_n 1, 1) := by decide +kernel
theorem dX7_hasNoSpareSet_53 : decode cX7_hasNoSpareSet 53 = .ok (.iand, 1) := by decide +kernel
theorem dX7_hasNoSpareSet_54 : decode cX7_hasNoSpareSet 54 = .ok (.ifCond .ne 5, 3) := by decide +kernel
theorem dX7_hasNoSpareSet_57 : decode cX7_hasNoSpareSet 57 = .ok (.iconst 0, 1) := by decide +kernel
theorem dX7_hasNoSpareSet_58 : decode cX7_hasNoSpareSet 58 = .ok (.ireturn, 1) := by decide +kernel
theorem dX7_hasNoSpareSet_59 : decode cX7_hasNoSpareSet 59 = .ok (.iinc 2 1, 3) := by decide +kernel
theorem dX7_hasNoSpareSet_62 : decode cX7_hasNoSpareSet 62 = .ok (.goto (-46), 3) := by decide +kernel
theorem dX7_hasNoSpareSet_65 : decode cX7_hasNoSpareSet 65 = .ok (.iconst 1, 1) := by decide +kernel
theorem dX7_hasNoSpareSet_66 : decode cX7_hasNoSpareSet 66 = .ok (.ireturn, 1) := by decide +kernel
theorem dX8_init_0 : decode cX8_init 0 = .ok (.aload_n 0, 1) := by decide +kernel
theorem dX8_init_1 : decode cX8_init 1 = .ok (.invokespecial 3, 3) := by decide +kernel
theorem dX8_init_4 : decode cX8_init 4 = .ok (.aload_n 0, 1) := by decide +kernel
theorem dX8_init_5 : decode cX8_init 5 = .ok (.new 9, 3) := by decide +kernel
theorem dX8_init_8 : decode cX8_init 8 = .ok (.dup, 1) := by decide +kernel
theorem dX8_init_9 : decode cX8_init 9 = .ok (.invokespecial 11, 3) := by decide +kernel
theorem dX8_init_12 : decode cX8_init 12 = .ok (.putfield 12, 3) := by decide +kernel
theorem dX8_init_15 : decode cX8_init 15 = .ok (.aload_n 0, 1) := by decide +kernel
theorem dX8_init_16 : decode cX8_init 16 = .ok (.new 16, 3) := by decide +kernel
theorem dX8_init_19 : decode cX8_init 19 = .ok (.dup, 1) := by decide +kernel
theorem dX8_init_20 : decode cX8_init 20 = .ok (.invokespecial 18, 3) := by decide +kernel
theorem dX8_init_23 : decode cX8_init 23 = .ok (.putfield 19, 3) := by decide +kernel
theorem dX8_init_26 : decode cX8_init 26 = .ok (.aload_n 0, 1) := by decide +kernel
theorem dX8_init_27 : decode cX8_init 27 = .ok (.new 23, 3) := by decide +kernel
theorem dX8_init_30 : decode cX8_init 30 = .ok (.dup, 1) := by decide +kernel
theorem dX8_init_31 : decode cX8_init 31 = .ok (.invokespecial 25, 3) := by decide +kernel
theorem dX8_init_34 : decode cX8_init 34 = .ok (.putfield 26, 3) := by decide +kernel
theorem dX8_init_37 : decode cX8_init 37 = .ok (.aload_n 0, 1) := by decide +kernel
theorem dX8_init_38 : decode cX8_init 38 = .ok (.new 30, 3) := by decide +kernel
theorem dX8_init_41 : decode cX8_init 41 = .ok (.dup, 1) := by decide +kernel
theorem dX8_init_42 : decode cX8_init 42 = .ok (.invokespecial 32, 3) := by decide +kernel
theorem dX8_init_45 : decode cX8_init 45 = .ok (.putfield 33, 3) := by decide +kernel
theorem dX8_init_48 : decode cX8_init 48 = .ok (.aload_n 0, 1) := by decide +kernel
theorem dX8_init_49 : decode cX8_init 49 = .ok (.new 37, 3) := by decide +kernel
theorem dX8_init_52 : decode cX8_init 52 = .ok (.dup, 1) := by decide +kernel
theorem dX8_init_53 : decode cX8_init 53 = .ok (.invokespecial 39, 3) := by decide +kernel
theorem dX8_init_56 : decode cX8_init 56 = .ok (.putfield 40, 3) := by decide +kernel
theorem dX8_init_59 : decode cX8_init 59 = .ok (.aload_n 0, 1) := by decide +kernel
theorem dX8_init_60 : decode cX8_init 60 = .ok (.new 44, 3) := by decide +kernel
theorem dX8_init_63 : decode cX8_init 63 = .ok (.dup, 1) := by decide +kernel
theorem dX8_init_64 : decode cX8_init 64 = .ok (.invokespecial 46, 3) := by decide +kernel
theorem dX8_init_67 : decode cX8_init 67 = .ok (.putfield 47, 3) := by decide +kernel
theorem dX8_init_70 : decode cX8_init 70 = .ok (.aload_n 0, 1) := by decide +kernel
theorem dX8_init_71 : decode cX8_init 71 = .ok (.new 51, 3) := by decide +kernel
theorem dX8_init_74 : decode cX8_init 74 = .ok (.dup, 1) := by decide +kernel
theorem dX8_init_75 : decode cX8_init 75 = .ok (.invokespecial 53, 3) := by decide +kernel
theorem dX8_init_78 : decode cX8_init 78 = .ok (.putfield 54, 3) := by decide +kernel
theorem dX8_init_81 : decode cX8_init 81 = .ok (.return_, 1) := by decide +kernel
theorem dX8_need_0 : decode cX8_need 0 = .ok (.iload_n 1, 1) := by decide +kernel
theorem dX8_need_1 : decode cX8_need 1 = .ok (.ifCond .lt 9, 3) := by decide +kernel
theorem dX8_need_4 : decode cX8_need 4 = .ok (.iload_n 1, 1) := by decide +kernel
theorem dX8_need_5 : decode cX8_need 5 = .ok (.ldc 58, 2) := by decide +kernel
theorem dX8_need_7 : decode cX8_need 7 = .ok (.if_icmp .le 6, 3) := by decide +kernel
theorem dX8_need_10 : decode cX8_need 10 = .ok (.bipush (-2), 2) := by decide +kernel
theorem dX8_need_12 : decode cX8_need 12 = .ok (.ireturn, 1) := by decide +kernel
theorem dX8_need_13 : decode cX8_need 13 = .ok (.aload_n 0, 1) := by decide +kernel
theorem dX8_need_14 : decode cX8_need 14 = .ok (.getfield 19, 3) := by decide +kernel
theorem dX8_need_17 : decode cX8_need 17 = .ok (.aload_n 0, 1) := by decide +kernel
theorem dX8_need_18 : decode cX8_need 18 = .ok (.getfield 12, 3) := by decide +kernel
theorem dX8_need_21 : decode cX8_need 21 = .ok (.invokevirtual 59, 3) := by decide +kernel
theorem dX8_need_24 : decode cX8_need 24 = .ok (.aload_n 0, 1) := by decide +kernel
theorem dX8_need_25 : decode cX8_need 25 = .ok (.getfield 12, 3) := by decide +kernel
theorem dX8_need_28 : decode cX8_need 28 = .ok (.getfield 63, 3) := by decide +kernel
theorem dX8_need_31 : decode cX8_need 31 = .ok (.istore_n 2, 1) := by decide +kernel
theorem dX8_need_32 : decode cX8_need 32 = .ok (.aload_n 0, 1) := by decide +kernel
theorem dX8_need_33 : decode cX8_need 33 = .ok (.getfield 12, 3) := by decide +kernel
theorem dX8_need_36 : decode cX8_need 36 = .ok (.iload_n 1, 1) := by decide +kernel
theorem dX8_need_37 : decode cX8_need 37 = .ok (.putfield 63, 3) := by decide +kernel
theorem dX8_need_40 : decode cX8_need 40 = .ok (.iload_n 2, 1) := by decide +kernel
theorem dX8_need_41 : decode cX8_need 41 = .ok (.ireturn, 1) := by decide +kernel
theorem dX8_set_0 : decode cX8_set 0 = .ok (.iload_n 1, 1) := by decide +kernel
theorem dX8_set_1 : decode cX8_set 1 = .ok (.invokestatic 67, 3) := by decide +kernel
theorem dX8_set_4 : decode cX8_set 4 = .ok (.ifCond .eq 10, 3) := by decide +kernel
theorem dX8_set_7 : decode cX8_set 7 = .ok (.iload_n 2, 1) := by decide +kernel
theorem dX8_set_8 : decode cX8_set 8 = .ok (.invokestatic 71, 3) := by decide +kernel
theorem dX8_set_11 : decode cX8_set 11 = .ok (.ifCond .ne 6, 3) := by decide +kernel
theorem dX8_set_14 : decode cX8_set 14 = .ok (.bipush (-2), 2) := by decide +kernel
theorem dX8_set_16 : decode cX8_set 16 = .ok (.ireturn, 1) := by decide +kernel
theorem dX8_set_17 : decode cX8_set 17 = .ok (.aload_n 0, 1) := by decide +kernel
theorem dX8_set_18 : decode cX8_set 18 = .ok (.getfield 12, 3) := by decide +kernel
theorem dX8_set_21 : decode cX8_set 21 = .ok (.getfield 74, 3) := by decide +kernel
theorem dX8_set_24 : decode cX8_set 24 = .ok (.bipush 14, 2) := by decide +kernel
theorem dX8_set_26 : decode cX8_set 26 = .ok (.if_icmp .lt 6, 3) := by decide +kernel
theorem dX8_set_29 : decode cX8_set 29 = .ok (.bipush (-4), 2) := by decide +kernel
theorem dX8_set_31 : decode cX8_set 31 = .ok (.ireturn, 1) := by decide +kernel
theorem dX8_set_32 : decode cX8_set 32 = .ok (.aload_n 0, 1) := by decide +kernel
theorem dX8_set_33 : decode cX8_set 33 = .ok (.getfield 19, 3) := by decide +kernel
theorem dX8_set_36 : decode cX8_set 36 = .ok (.aload_n 0, 1) := by decide +kernel
theorem dX8_set_37 : decode cX8_set 37 = .ok (.getfield 12, 3) := by decide +kernel
theorem dX8_set_40 : decode cX8_set 40 = .ok (.invokevirtual 59, 3) := by decide +kernel
theorem dX8_set_43 : decode cX8_set 43 = .ok (.aload_n 0, 1) := by decide +kernel
theorem dX8_set_44 : decode cX8_set 44 = .ok (.getfield 12, 3) := by decide +kernel
theorem dX8_set_47 : decode cX8_set 47 = .ok (.iload_n 1, 1) := by decide +kernel
theorem dX8_set_48 : decode cX8_set 48 = .ok (.iload_n 2, 1) := by decide +kernel
theorem dX8_set_49 : decode cX8_set 49 = .ok (.invokevirtual 77, 3) := by decide +kernel
theorem dX8_set_52 : decode cX8_set 52 = .ok (.aload_n 0, 1) := by decide +kernel
theorem dX8_set_53 : decode cX8_set 53 = .ok (.getfield 12, 3) := by decide +kernel
theorem dX8_set_56 : decode cX8_set 56 = .ok (.getfield 74, 3) := by decide +kernel
theorem dX8_set_59 : decode cX8_set 59 = .ok (.iconst 1, 1) := by decide +kernel
theorem dX8_set_60 : decode cX8_set 60 = .ok (.isub, 1) := by decide +kernel
theorem dX8_set_61 : decode cX8_set 61 = .ok (.ireturn, 1) := by decide +kernel
theorem dX8_price_0 : decode cX8_price 0 = .ok (.aload_n 0, 1) := by decide +kernel
theorem dX8_price_1 : decode cX8_price 1 = .ok (.getfield 12, 3) := by decide +kernel
theorem dX8_price_4 : decode cX8_price 4 = .ok (.iload_n 1, 1) := by decide +kernel
theorem dX8_price_5 : decode cX8_price 5 = .ok (.invokevirtual 81, 3) := by decide +kernel
theorem dX8_price_8 : decode cX8_price 8 = .ok (.ifCond .ne 5, 3) := by decide +kernel
theorem dX8_price_11 : decode cX8_price 11 = .ok (.iconst (-1), 1) := by decide +kernel
theorem dX8_price_12 : decode cX8_price 12 = .ok (.ireturn, 1) := by decide +kernel
theorem dX8_price_13 : decode cX8_price 13 = .ok (.iload_n 2, 1) := by decide +kernel
theorem dX8_price_14 : decode cX8_price 14 = .ok (.invokestatic 71, 3) := by decide +kernel
theorem dX8_price_17 : decode cX8_price 17 = .ok (.ifCond .ne 6, 3) := by decide +kernel
theorem dX8_price_20 : decode cX8_price 20 = .ok (.bipush (-2), 2) := by decide +kernel
theorem dX8_price_22 : decode cX8_price 22 = .ok (.ireturn, 1) := by decide +kernel
theorem dX8_price_23 : decode cX8_price 23 = .ok (.aload_n 0, 1) := by decide +kernel
theorem dX8_price_24 : decode cX8_price 24 = .ok (.getfield 19, 3) := by decide +kernel
theorem dX8_price_27 : decode cX8_price 27 = .ok (.aload_n 0, 1) := by decide +kernel
theorem dX8_price_28 : decode cX8_price 28 = .ok (.getfield 12, 3) := by decide +kernel
theorem dX8_price_31 : decode cX8_price 31 = .ok (.invokevirtual 59, 3) := by decide +kernel
theorem dX8_price_34 : decode cX8_price 34 = .ok (.aload_n 0, 1) := by decide +kernel
theorem dX8_price_35 : decode cX8_price 35 = .ok (.getfield 12, 3) := by decide +kernel
theorem dX8_price_38 : decode cX8_price 38 = .ok (.getfield 84, 3) := by decide +kernel
theorem dX8_price_41 : decode cX8_price 41 = .ok (.iload_n 1, 1) := by decide +kernel
theorem dX8_price_42 : decode cX8_price 42 = .ok (.iaload, 1) := by decide +kernel
theorem dX8_price_43 : decode cX8_price 43 = .ok (.istore_n 3, 1) := by decide +kernel
theorem dX8_price_44 : decode cX8_price 44 = .ok (.aload_n 0, 1) := by decide +kernel
theorem dX8_price_45 : decode cX8_price 45 = .ok (.getfield 12, 3) := by decide +kernel
theorem dX8_price_48 : decode cX8_price 48 = .ok (.getfield 84, 3) := by decide +kernel
theorem dX8_price_51 : decode cX8_price 51 = .ok (.iload_n 1, 1) := by decide +kernel
theorem dX8_price_52 : decode cX8_price 52 = .ok (.iload_n 2, 1) := by decide +kernel
theorem dX8_price_53 : decode cX8_price 53 = .ok (.iastore, 1) := by decide +kernel
theorem dX8_price_54 : decode cX8_price 54 = .ok (.iload_n 3, 1) := by decide +kernel
theorem dX8_price_55 : decode cX8_price 55 = .ok (.ireturn, 1) := by decide +kernel
theorem dX8_mark_0 : decode cX8_mark 0 = .ok (.aload_n 0, 1) := by decide +kernel
theorem dX8_mark_1 : decode cX8_mark 1 = .ok (.getfield 12, 3) := by decide +kernel
theorem dX8_mark_4 : decode cX8_mark 4 = .ok (.iload_n 1, 1) := by decide +kernel
theorem dX8_mark_5 : decode cX8_mark 5 = .ok (.invokevirtual 81, 3) := by decide +kernel
theorem dX8_mark_8 : decode cX8_mark 8 = .ok (.ifCond .ne 5, 3) := by decide +kernel
theorem dX8_mark_11 : decode cX8_mark 11 = .ok (.iconst (-1), 1) := by decide +kernel
theorem dX8_mark_12 : decode cX8_mark 12 = .ok (.ireturn, 1) := by decide +kernel
theorem dX8_mark_13 : decode cX8_mark 13 = .ok (.iload_n 2, 1) := by decide +kernel
theorem dX8_mark_14 : decode cX8_mark 14 = .ok (.ifCond .lt 8, 3) := by decide +kernel
theorem dX8_mark_17 : decode cX8_mark 17 = .ok (.iload_n 2, 1) := by decide +kernel
theorem dX8_mark_18 : decode cX8_mark 18 = .ok (.iconst 2, 1) := by decide +kernel
theorem dX8_mark_19 : decode cX8_mark 19 = .ok (.if_icmp .le 6, 3) := by decide +kernel
theorem dX8_mark_22 : decode cX8_mark 22 = .ok (.bipush (-2), 2) := by decide +kernel
theorem dX8_mark_24 : decode cX8_mark 24 = .ok (.ireturn, 1) := by decide +kernel
theorem dX8_mark_25 : decode cX8_mark 25 = .ok (.aload_n 0, 1) := by decide +kernel
theorem dX8_mark_26 : decode cX8_mark 26 = .ok (.getfield 19, 3) := by decide +kernel
theorem dX8_mark_29 : decode cX8_mark 29 = .ok (.aload_n 0, 1) := by decide +kernel
theorem dX8_mark_30 : decode cX8_mark 30 = .ok (.getfield 12, 3) := by decide +kernel
theorem dX8_mark_33 : decode cX8_mark 33 = .ok (.invokevirtual 59, 3) := by decide +kernel
theorem dX8_mark_36 : decode cX8_mark 36 = .ok (.aload_n 0, 1) := by decide +kernel
theorem dX8_mark_37 : decode cX8_mark 37 = .ok (.getfield 12, 3) := by decide +kernel
theorem dX8_mark_40 : decode cX8_mark 40 = .ok (.getfield 88, 3) := by decide +kernel
theorem dX8_mark_43 : decode cX8_mark 43 = .ok (.iload_n 1, 1) := by decide +kernel
theorem dX8_mark_44 : decode cX8_mark 44 = .ok (.iaload, 1) := by decide +kernel
theorem dX8_mark_45 : decode cX8_mark 45 = .ok (.istore_n 3, 1) := by decide +kernel
theorem dX8_mark_46 : decode cX8_mark 46 = .ok (.aload_n 0, 1) := by decide +kernel
theorem dX8_mark_47 : decode cX8_mark 47 = .ok (.getfield 12, 3) := by decide +kernel
theorem dX8_mark_50 : decode cX8_mark 50 = .ok (.getfield 88, 3) := by decide +kernel
theorem dX8_mark_53 : decode cX8_mark 53 = .ok (.iload_n 1, 1) := by decide +kernel
theorem dX8_mark_54 : decode cX8_mark 54 = .ok (.iload_n 2, 1) := by decide +kernel
theorem dX8_mark_55 : decode cX8_mark 55 = .ok (.iastore, 1) := by decide +kernel
theorem dX8_mark_56 : decode cX8_mark 56 = .ok (.iload_n 3, 1) := by decide +kernel
theorem dX8_mark_57 : decode cX8_mark 57 = .ok (.ireturn, 1) := by decide +kernel
theorem dX8_turn_0 : decode cX8_turn 0 = .ok (.aload_n 0, 1) := by decide +kernel
theorem dX8_turn_1 : decode cX8_turn 1 = .ok (.getfield 12, 3) := by decide +kernel
theorem dX8_turn_4 : decode cX8_turn 4 = .ok (.iload_n 1, 1) := by decide +kernel
theorem dX8_turn_5 : decode cX8_turn 5 = .ok (.invokevirtual 81, 3) := by decide +kernel
theorem dX8_turn_8 : decode cX8_turn 8 = .ok (.ifCond .ne 5, 3) := by decide +kernel
theorem dX8_turn_11 : decode cX8_turn 11 = .ok (.iconst (-1), 1) := by decide +kernel
theorem dX8_turn_12 : decode cX8_turn 12 = .ok (.ireturn, 1) := by decide +kernel
theorem dX8_turn_13 : decode cX8_turn 13 = .ok (.iload_n 2, 1) := by decide +kernel
theorem dX8_turn_14 : decode cX8_turn 14 = .ok (.invokestatic 67, 3) := by decide +kernel
theorem dX8_turn_17 : decode cX8_turn 17 = .ok (.ifCond .ne 6, 3) := by decide +kernel
theorem dX8_turn_20 : decode cX8_turn 20 = .ok (.bipush (-2), 2) := by decide +kernel
theorem dX8_turn_22 : decode cX8_turn 22 = .ok (.ireturn, 1) := by decide +kernel
theorem dX8_turn_23 : decode cX8_turn 23 = .ok (.aload_n 0, 1) := by decide +kernel
theorem dX8_turn_24 : decode cX8_turn 24 = .ok (.getfield 12, 3) := by decide +kernel
theorem dX8_turn_27 : decode cX8_turn 27 = .ok (.getfield 91, 3) := by decide +kernel
theorem dX8_turn_30 : decode cX8_turn 30 = .ok (.iload_n 1, 1) := by decide +kernel
theorem dX8_turn_31 : decode cX8_turn 31 = .ok (.iaload, 1) := by decide +kernel
theorem dX8_turn_32 : decode cX8_turn 32 = .ok (.iload_n 2, 1) := by decide +kernel
theorem dX8_turn_33 : decode cX8_turn 33 = .ok (.ixor, 1) := by decide +kernel
theorem dX8_turn_34 : decode cX8_turn 34 = .ok (.istore_n 3, 1) := by decide +kernel
theorem dX8_turn_35 : decode cX8_turn 35 = .ok (.iload_n 3, 1) := by decide +kernel
theorem dX8_turn_36 : decode cX8_turn 36 = .ok (.ifCond .ne 6, 3) := by decide +kernel
theorem dX8_turn_39 : decode cX8_turn 39 = .ok (.bipush (-5), 2) := by decide +kernel
theorem dX8_turn_41 : decode cX8_turn 41 = .ok (.ireturn, 1) := by decide +kernel
theorem dX8_turn_42 : decode cX8_turn 42 = .ok (.aload_n 0, 1) := by decide +kernel
theorem dX8_turn_43 : decode cX8_turn 43 = .ok (.getfield 19, 3) := by decide +kernel
theorem dX8_turn_46 : decode cX8_turn 46 = .ok (.aload_n 0, 1) := by decide +kernel
theorem dX8_turn_47 : decode cX8_turn 47 = .ok (.getfield 12, 3) := by decide +kernel
theorem dX8_turn_50 : decode cX8_turn 50 = .ok (.invokevirtual 59, 3) := by decide +kernel
theorem dX8_turn_53 : decode cX8_turn 53 = .ok (.aload_n 0, 1) := by decide +kernel
theorem dX8_turn_54 : decode cX8_turn 54 = .ok (.getfield 12, 3) := by decide +kernel
theorem dX8_turn_57 : decode cX8_turn 57 = .ok (.getfield 91, 3) := by decide +kernel
theorem dX8_turn_60 : decode cX8_turn 60 = .ok (.iload_n 1, 1) := by decide +kernel
theorem dX8_turn_61 : decode cX8_turn 61 = .ok (.iload_n 3, 1) := by decide +kernel
theorem dX8_turn_62 : decode cX8_turn 62 = .ok (.iastore, 1) := by decide +kernel
theorem dX8_turn_63 : decode cX8_turn 63 = .ok (.iload_n 3, 1) := by decide +kernel
theorem dX8_turn_64 : decode cX8_turn 64 = .ok (.ireturn, 1) := by decide +kernel
theorem dX8_drop_0 : decode cX8_drop 0 = .ok (.aload_n 0, 1) := by decide +kernel
theorem dX8_drop_1 : decode cX8_drop 1 = .ok (.getfield 12, 3) := by decide +kernel
theorem dX8_drop_4 : decode cX8_drop 4 = .ok (.iload_n 1, 1) := by decide +kernel
theorem dX8_drop_5 : decode cX8_drop 5 = .ok (.invokevirtual 81, 3) := by decide +kernel
theorem dX8_drop_8 : decode cX8_drop 8 = .ok (.ifCond .ne 5, 3) := by decide +kernel
theorem dX8_drop_11 : decode cX8_drop 11 = .ok (.iconst (-1), 1) := by decide +kernel
theorem dX8_drop_12 : decode cX8_drop 12 = .ok (.ireturn, 1) := by decide +kernel
theorem dX8_drop_13 : decode cX8_drop 13 = .ok (.aload_n 0, 1) := by decide +kernel
theorem dX8_drop_14 : decode cX8_drop 14 = .ok (.getfield 19, 3) := by decide +kernel
theorem dX8_drop_17 : decode cX8_drop 17 = .ok (.aload_n 0, 1) := by decide +kernel
theorem dX8_drop_18 : decode cX8_drop 18 = .ok (.getfield 12, 3) := by decide +kernel
theorem dX8_drop_21 : decode cX8_drop 21 = .ok (.invokevirtual 59, 3) := by decide +kernel
theorem dX8_drop_24 : decode cX8_drop 24 = .ok (.aload_n 0, 1) := by decide +kernel
theorem dX8_drop_25 : decode cX8_drop 25 = .ok (.getfield 12, 3) := by decide +kernel
theorem dX8_drop_28 : decode cX8_drop 28 = .ok (.iload_n 1, 1) := by decide +kernel
theorem dX8_drop_29 : decode cX8_drop 29 = .ok (.invokevirtual 94, 3) := by decide +kernel
theorem dX8_drop_32 : decode cX8_drop 32 = .ok (.aload_n 0, 1) := by decide +kernel
theorem dX8_drop_33 : decode cX8_drop 33 = .ok (.getfield 12, 3) := by decide +kernel
theorem dX8_drop_36 : decode cX8_drop 36 = .ok (.getfield 74, 3) := by decide +kernel
theorem dX8_drop_39 : decode cX8_drop 39 = .ok (.ireturn, 1) := by decide +kernel
theorem dX8_ofSet_0 : decode cX8_ofSet 0 = .ok (.aload_n 0, 1) := by decide +kernel
theorem dX8_ofSet_1 : decode cX8_ofSet 1 = .ok (.getfield 12, 3) := by decide +kernel
theorem dX8_ofSet_4 : decode cX8_ofSet 4 = .ok (.iload_n 1, 1) := by decide +kernel
theorem dX8_ofSet_5 : decode cX8_ofSet 5 = .ok (.invokevirtual 81, 3) := by decide +kernel
theorem dX8_ofSet_8 : decode cX8_ofSet 8 = .ok (.ifCond .ne 5, 3) := by decide +kernel
theorem dX8_ofSet_11 : decode cX8_ofSet 11 = .ok (.iconst (-1), 1) := by decide +kernel
theorem dX8_ofSet_12 : decode cX8_ofSet 12 = .ok (.ireturn, 1) := by decide +kernel
theorem dX8_ofSet_13 : decode cX8_ofSet 13 = .ok (.iload_n 2, 1) := by decide +kernel
theorem dX8_ofSet_14 : decode cX8_ofSet 14 = .ok (.tableswitch 92 0 7 #[46, 56, 66, 76, 76, 76, 76, 83], 46) := by decide +kernel
theorem dX8_ofSet_60 : decode cX8_ofSet 60 = .ok (.aload_n 0, 1) := by decide +kernel
theorem dX8_ofSet_61 : decode cX8_ofSet 61 = .ok (.getfield 12, 3) := by decide +kernel
theorem dX8_ofSet_64 : decode cX8_ofSet 64 = .ok (.getfield 91, 3) := by decide +kernel
theorem dX8_ofSet_67 : decode cX8_ofSet 67 = .ok (.iload_n 1, 1) := by decide +kernel
theorem dX8_ofSet_68 : decode cX8_ofSet 68 = .ok (.iaload, 1) := by decide +kernel
theorem dX8_ofSet_69 : decode cX8_ofSet 69 = .ok (.ireturn, 1) := by decide +kernel
theorem dX8_ofSet_70 : decode cX8_ofSet 70 = .ok (.aload_n 0, 1) := by decide +kernel
theorem dX8_ofSet_71 : decode cX8_ofSet 71 = .ok (.getfield 12, 3) := by decide +kernel
theorem dX8_ofSet_74 : decode cX8_ofSet 74 = .ok (.getfield 84, 3) := by decide +kernel
theorem dX8_ofSet_77 : decode cX8_ofSet 77 = .ok (.iload_n 1, 1) := by decide +kernel
theorem dX8_ofSet_78 : decode cX8_ofSet 78 = .ok (.iaload, 1) := by decide +kernel
theorem dX8_ofSet_79 : decode cX8_ofSet 79 = .ok (.ireturn, 1) := by decide +kernel
theorem dX8_ofSet_80 : decode cX8_ofSet 80 = .ok (.aload_n 0, 1) := by decide +kernel
theorem dX8_ofSet_81 : decode cX8_ofSet 81 = .ok (.getfield 12, 3) := by decide +kernel
theorem dX8_ofSet_84 : decode cX8_ofSet 84 = .ok (.getfield 88, 3) := by decide +kernel
theorem dX8_ofSet_87 : decode cX8_ofSet 87 = .ok (.iload_n 1, 1) := by decide +kernel
theorem dX8_ofSet_88 : decode cX8_ofSet 88 = .ok (.iaload, 1) := by decide +kernel
theorem dX8_ofSet_89 : decode cX8_ofSet 89 = .ok (.ireturn, 1) := by decide +kernel
theorem dX8_ofSet_90 : decode cX8_ofSet 90 = .ok (.aload_n 0, 1) := by decide +kernel
theorem dX8_ofSet_91 : decode cX8_ofSet 91 = .ok (.iload_n 1, 1) := by decide +kernel
theorem dX8_ofSet_92 : decode cX8_ofSet 92 = .ok (.iload_n 2, 1) := by decide +kernel
theorem dX8_ofSet_93 : decode cX8_ofSet 93 = .ok (.invokevirtual 114, 3) := by decide +kernel
theorem dX8_ofSet_96 : decode cX8_ofSet 96 = .ok (.ireturn, 1) := by decide +kernel
theorem dX8_ofSet_97 : decode cX8_ofSet 97 = .ok (.aload_n 0, 1) := by decide +kernel
theorem dX8_ofSet_98 : decode cX8_ofSet 98 = .ok (.getfield 12, 3) := by decide +kernel
theorem dX8_ofSet_101 : decode cX8_ofSet 101 = .ok (.iload_n 1, 1) := by decide +kernel
theorem dX8_ofSet_102 : decode cX8_ofSet 102 = .ok (.invokevirtual 118, 3) := by decide +kernel
theorem dX8_ofSet_105 : decode cX8_ofSet 105 = .ok (.ireturn, 1) := by decide +kernel
theorem dX8_ofSet_106 : decode cX8_ofSet 106 = .ok (.bipush (-2), 2) := by decide +kernel
theorem dX8_ofSet_108 : decode cX8_ofSet 108 = .ok (.ireturn, 1) := by decide +kernel
theorem dX8_ofSetByShares_0 : decode cX8_ofSetByShares 0 = .ok (.aload_n 0, 1) := by decide +kernel
theorem dX8_ofSetByShares_1 : decode cX8_ofSetByShares 1 = .ok (.getfield 12, 3) := by decide +kernel
theorem dX8_ofSetByShares_4 : decode cX8_ofSetByShares 4 = .ok (.invokevirtual 122, 3) := by decide +kernel
theorem dX8_ofSetByShares_7 : decode cX8_ofSetByShares 7 = .ok (.ifCond .ne 6, 3) := by decide +kernel
theorem dX8_ofSetByShares_10 : decode cX8_ofSetByShares 10 = .ok (.bipush (-5), 2) := by decide +kernel
theorem dX8_ofSetByShares_12 : decode cX8_ofSetByShares 12 = .ok (.ireturn, 1) := by decide +kernel
theorem dX8_ofSetByShares_13 : decode cX8_ofSetByShares 13 = .ok (.aload_n 0, 1) := by decide +kernel
theorem dX8_ofSetByShares_14 : decode cX8_ofSetByShares 14 = .ok (.getfield 40, 3) := by decide +kernel
theorem dX8_ofSetByShares_17 : decode cX8_ofSetByShares 17 = .ok (.aload_n 0, 1) := by decide +kernel
theorem dX8_ofSetByShares_18 : decode cX8_ofSetByShares 18 = .ok (.getfield 12, 3) := by decide +kernel
theorem dX8_ofSetByShares_21 : decode cX8_ofSetByShares 21 = .ok (.invokevirtual 126, 3) := by decide +kernel
theorem dX8_ofSetByShares_24 : decode cX8_ofSetByShares 24 = .ok (.iload_n 2, 1) := by decide +kernel
theorem dX8_ofSetByShares_25 : decode cX8_ofSetByShares 25 = .ok (.tableswitch 67 3 5 #[27, 37, 57], 27) := by decide +kernel
theorem dX8_ofSetByShares_52 : decode cX8_ofSetByShares 52 = .ok (.aload_n 0, 1) := by decide +kernel
theorem dX8_ofSetByShares_53 : decode cX8_ofSetByShares 53 = .ok (.getfield 40, 3) := by decide +kernel
theorem dX8_ofSetByShares_56 : decode cX8_ofSetByShares 56 = .ok (.getfield 129, 3) := by decide +kernel
theorem dX8_ofSetByShares_59 : decode cX8_ofSetByShares 59 = .ok (.iload_n 1, 1) := by decide +kernel
theorem dX8_ofSetByShares_60 : decode cX8_ofSetByShares 60 = .ok (.iaload, 1) := by decide +kernel
theorem dX8_ofSetByShares_61 : decode cX8_ofSetByShares 61 = .ok (.ireturn, 1) := by decide +kernel
theorem dX8_ofSetByShares_62 : decode cX8_ofSetByShares 62 = .ok (.aload_n 0, 1) := by decide +kernel
theorem dX8_ofSetByShares_63 : decode cX8_ofSetByShares 63 = .ok (.getfield 40, 3) := by decide +kernel
theorem dX8_ofSetByShares_66 : decode cX8_ofSetByShares 66 = .ok (.getfield 132, 3) := by decide +kernel
theorem dX8_ofSetByShares_69 : decode cX8_ofSetByShares 69 = .ok (.iload_n 1, 1) := by decide +kernel
theorem dX8_ofSetByShares_70 : decode cX8_ofSetByShares 70 = .ok (.invokestatic 135, 3) := by decide +kernel
theorem dX8_ofSetByShares_73 : decode cX8_ofSetByShares 73 = .ok (.ifCond .eq 7, 3) := by decide +kernel
theorem dX8_ofSetByShares_76 : decode cX8_ofSetByShares 76 = .ok (.iconst 1, 1) := by decide +kernel
theorem dX8_ofSetByShares_77 : decode cX8_ofSetByShares 77 = .ok (.goto 4, 3) := by decide +kernel
theorem dX8_ofSetByShares_80 : decode cX8_ofSetByShares 80 = .ok (.iconst 0, 1) := by decide +kernel
theorem dX8_ofSetByShares_81 : decode cX8_ofSetByShares 81 = .ok (.ireturn, 1) := by decide +kernel
theorem dX8_ofSetByShares_82 : decode cX8_ofSetByShares 82 = .ok (.aload_n 0, 1) := by decide +kernel
theorem dX8_ofSetByShares_83 : decode cX8_ofSetByShares 83 = .ok (.getfield 40, 3) := by decide +kernel
theorem dX8_ofSetByShares_86 : decode cX8_ofSetByShares 86 = .ok (.getfield 139, 3) := by decide +kernel
theorem dX8_ofSetByShares_89 : decode cX8_ofSetByShares 89 = .ok (.iload_n 1, 1) := by decide +kernel
theorem dX8_ofSetByShares_90 : decode cX8_ofSetByShares 90 = .ok (.iaload, 1) := by decide +kernel
theorem dX8_ofSetByShares_91 : decode cX8_ofSetByShares 91 = .ok (.ireturn, 1) := by decide +kernel
theorem dX8_ofSetByShares_92 : decode cX8_ofSetByShares 92 = .ok (.aload_n 0, 1) := by decide +kernel
theorem dX8_ofSetByShares_93 : decode cX8_ofSetByShares 93 = .ok (.getfield 40, 3) := by decide +kernel
theorem dX8_ofSetByShares_96 : decode cX8_ofSetByShares 96 = .ok (.getfield 142, 3) := by decide +kernel
theorem dX8_ofSetByShares_99 : decode cX8_ofSetByShares 99 = .ok (.iload_n 1, 1) := by decide +kernel
theorem dX8_ofSetByShares_100 : decode cX8_ofSetByShares 100 = .ok (.invokestatic 135, 3) := by decide +kernel
theorem dX8_ofSetByShares_103 : decode cX8_ofSetByShares 103 = .ok (.ifCond .eq 7, 3) := by decide +kernel
theorem dX8_ofSetByShares_106 : decode cX8_ofSetByShares 106 = .ok (.iconst 1, 1) := by decide +kernel
theorem dX8_ofSetByShares_107 : decode cX8_ofSetByShares 107 = .ok (.goto 4, 3) := by decide +kernel
theorem dX8_ofSetByShares_110 : decode cX8_ofSetByShares 110 = .ok (.iconst 0, 1) := by decide +kernel
theorem dX8_ofSetByShares_111 : decode cX8_ofSetByShares 111 = .ok (.ireturn, 1) := by decide +kernel
theorem dX8_ofThing_0 : decode cX8_ofThing 0 = .ok (.iload_n 1, 1) := by decide +kernel
theorem dX8_ofThing_1 : decode cX8_ofThing 1 = .ok (.ifCond .lt 9, 3) := by decide +kernel
theorem dX8_ofThing_4 : decode cX8_ofThing 4 = .ok (.iload_n 1, 1) := by decide +kernel
theorem dX8_ofThing_5 : decode cX8_ofThing 5 = .ok (.bipush 18, 2) := by decide +kernel
theorem dX8_ofThing_7 : decode cX8_ofThing 7 = .ok (.if_icmp .lt 5, 3) := by decide +kernel
theorem dX8_ofThing_10 : decode cX8_ofThing 10 = .ok (.iconst (-1), 1) := by decide +kernel
theorem dX8_ofThing_11 : decode cX8_ofThing 11 = .ok (.ireturn, 1) := by decide +kernel
theorem dX8_ofThing_12 : decode cX8_ofThing 12 = .ok (.iload_n 2, 1) := by decide +kernel
theorem dX8_ofThing_13 : decode cX8_ofThing 13 = .ok (.tableswitch 62 0 2 #[27, 47, 56], 27) := by decide +kernel
theorem dX8_ofThing_40 : decode cX8_ofThing 40 = .ok (.aload_n 0, 1) := by decide +kernel
theorem dX8_ofThing_41 : decode cX8_ofThing 41 = .ok (.getfield 12, 3) := by decide +kernel
theorem dX8_ofThing_44 : decode cX8_ofThing 44 = .ok (.getfield 63, 3) := by decide +kernel
theorem dX8_ofThing_47 : decode cX8_ofThing 47 = .ok (.iload_n 1, 1) := by decide +kernel
theorem dX8_ofThing_48 : decode cX8_ofThing 48 = .ok (.invokestatic 135, 3) := by decide +kernel
theorem dX8_ofThing_51 : decode cX8_ofThing 51 = .ok (.ifCond .eq 7, 3) := by decide +kernel
theorem dX8_ofThing_54 : decode cX8_ofThing 54 = .ok (.iconst 1, 1) := by decide +kernel
theorem dX8_ofThing_55 : decode cX8_ofThing 55 = .ok (.goto 4, 3) := by decide +kernel
theorem dX8_ofThing_58 : decode cX8_ofThing 58 = .ok (.iconst 0, 1) := by decide +kernel
theorem dX8_ofThing_59 : decode cX8_ofThing 59 = .ok (.ireturn, 1) := by decide +kernel
theorem dX8_ofThing_60 : decode cX8_ofThing 60 = .ok (.aload_n 0, 1) := by decide +kernel
theorem dX8_ofThing_61 : decode cX8_ofThing 61 = .ok (.getfield 12, 3) := by decide +kernel
theorem dX8_ofThing_64 : decode cX8_ofThing 64 = .ok (.iload_n 1, 1) := by decide +kernel
theorem dX8_ofThing_65 : decode cX8_ofThing 65 = .ok (.invokevirtual 145, 3) := by decide +kernel
theorem dX8_ofThing_68 : decode cX8_ofThing 68 = .ok (.ireturn, 1) := by decide +kernel
theorem dX8_ofThing_69 : decode cX8_ofThing 69 = .ok (.aload_n 0, 1) := by decide +kernel
theorem dX8_ofThing_70 : decode cX8_ofThing 70 = .ok (.iload_n 1, 1) := by decide +kernel
theorem dX8_ofThing_71 : decode cX8_ofThing 71 = .ok (.invokevirtual 148, 3) := by decide +kernel
theorem dX8_ofThing_74 : decode cX8_ofThing 74 = .ok (.ireturn, 1) := by decide +kernel
theorem dX8_ofThing_75 : decode cX8_ofThing 75 = .ok (.bipush (-2), 2) := by decide +kernel
theorem dX8_ofThing_77 : decode cX8_ofThing 77 = .ok (.ireturn, 1) := by decide +kernel
theorem dX8_shareOf_0 : decode cX8_shareOf 0 = .ok (.aload_n 0, 1) := by decide +kernel
theorem dX8_shareOf_1 : decode cX8_shareOf 1 = .ok (.getfield 12, 3) := by decide +kernel
theorem dX8_shareOf_4 : decode cX8_shareOf 4 = .ok (.invokevirtual 122, 3) := by decide +kernel
theorem dX8_shareOf_7 : decode cX8_shareOf 7 = .ok (.ifCond .ne 6, 3) := by decide +kernel
theorem dX8_shareOf_10 : decode cX8_shareOf 10 = .ok (.bipush (-5), 2) := by decide +kernel
theorem dX8_shareOf_12 : decode cX8_shareOf 12 = .ok (.ireturn, 1) := by decide +kernel
theorem dX8_shareOf_13 : decode cX8_shareOf 13 = .ok (.aload_n 0, 1) := by decide +kernel
theorem dX8_shareOf_14 : decode cX8_shareOf 14 = .ok (.getfield 40, 3) := by decide +kernel
theorem dX8_shareOf_17 : decode cX8_shareOf 17 = .ok (.aload_n 0, 1) := by decide +kernel
theorem dX8_shareOf_18 : decode cX8_shareOf 18 = .ok (.getfield 12, 3) := by decide +kernel
theorem dX8_shareOf_21 : decode cX8_shareOf 21 = .ok (.invokevirtual 126, 3) := by decide +kernel
theorem dX8_shareOf_24 : decode cX8_shareOf 24 = .ok (.aload_n 0, 1) := by decide +kernel
theorem dX8_shareOf_25 : decode cX8_shareOf 25 = .ok (.getfield 40, 3) := by decide +kernel
theorem dX8_shareOf_28 : decode cX8_shareOf 28 = .ok (.getfield 151, 3) := by decide +kernel
theorem dX8_shareOf_31 : decode cX8_shareOf 31 = .ok (.iload_n 1, 1) := by decide +kernel
theorem dX8_shareOf_32 : decode cX8_shareOf 32 = .ok (.iaload, 1) := by decide +kernel
theorem dX8_shareOf_33 : decode cX8_shareOf 33 = .ok (.ireturn, 1) := by decide +kernel
theorem dX8_count_0 : decode cX8_count 0 = .ok (.iload_n 1, 1) := by decide +kernel
theorem dX8_count_1 : decode cX8_count 1 = .ok (.tableswitch 95 0 5 #[39, 47, 55, 71, 79, 87], 39) := by decide +kernel
theorem dX8_count_40 : decode cX8_count 40 = .ok (.aload_n 0, 1) := by decide +kernel
theorem dX8_count_41 : decode cX8_count 41 = .ok (.getfield 12, 3) := by decide +kernel
theorem dX8_count_44 : decode cX8_count 44 = .ok (.getfield 74, 3) := by decide +kernel
theorem dX8_count_47 : decode cX8_count 47 = .ok (.ireturn, 1) := by decide +kernel
theorem dX8_count_48 : decode cX8_count 48 = .ok (.aload_n 0, 1) := by decide +kernel
theorem dX8_count_49 : decode cX8_count 49 = .ok (.getfield 12, 3) := by decide +kernel
theorem dX8_count_52 : decode cX8_count 52 = .ok (.getfield 63, 3) := by decide +kernel
theorem dX8_count_55 : decode cX8_count 55 = .ok (.ireturn, 1) := by decide +kernel
theorem dX8_count_56 : decode cX8_count 56 = .ok (.aload_n 0, 1) := by decide +kernel
theorem dX8_count_57 : decode cX8_count 57 = .ok (.getfield 12, 3) := by decide +kernel
theorem dX8_count_60 : decode cX8_count 60 = .ok (.invokevirtual 122, 3) := by decide +kernel
theorem dX8_count_63 : decode cX8_count 63 = .ok (.ifCond .eq 7, 3) := by decide +kernel
theorem dX8_count_66 : decode cX8_count 66 = .ok (.iconst 1, 1) := by decide +kernel
theorem dX8_count_67 : decode cX8_count 67 = .ok (.goto 4, 3) := by decide +kernel
theorem dX8_count_70 : decode cX8_count 70 = .ok (.iconst 0, 1) := by decide +kernel
theorem dX8_count_71 : decode cX8_count 71 = .ok (.ireturn, 1) := by decide +kernel
theorem dX8_count_72 : decode cX8_count 72 = .ok (.aload_n 0, 1) := by decide +kernel
theorem dX8_count_73 : decode cX8_count 73 = .ok (.getfield 12, 3) := by decide +kernel
theorem dX8_count_76 : decode cX8_count 76 = .ok (.invokevirtual 154, 3) := by decide +kernel
theorem dX8_count_79 : decode cX8_count 79 = .ok (.ireturn, 1) := by decide +kernel
theorem dX8_count_80 : decode cX8_count 80 = .ok (.aload_n 0, 1) := by decide +kernel
theorem dX8_count_81 : decode cX8_count 81 = .ok (.getfield 33, 3) := by decide +kernel
theorem dX8_count_84 : decode cX8_count 84 = .ok (.getfield 101, 3) := by decide +kernel
theorem dX8_count_87 : decode cX8_count 87 = .ok (.ireturn, 1) := by decide +kernel
theorem dX8_count_88 : decode cX8_count 88 = .ok (.aload_n 0, 1) := by decide +kernel
theorem dX8_count_89 : decode cX8_count 89 = .ok (.getfield 19, 3) := by decide +kernel
theorem dX8_count_92 : decode cX8_count 92 = .ok (.getfield 157, 3) := by decide +kernel
theorem dX8_count_95 : decode cX8_count 95 = .ok (.ireturn, 1) := by decide +kernel
theorem dX8_count_96 : decode cX8_count 96 = .ok (.bipush (-2), 2) := by decide +kernel
theorem dX8_count_98 : decode cX8_count 98 = .ok (.ireturn, 1) := by decide +kernel
theorem dX8_shared_0 : decode cX8_shared 0 = .ok (.iload_n 1, 1) := by decide +kernel
theorem dX8_shared_1 : decode cX8_shared 1 = .ok (.ifCond .lt 8, 3) := by decide +kernel
theorem dX8_shared_4 : decode cX8_shared 4 = .ok (.iload_n 1, 1) := by decide +kernel
theorem dX8_shared_5 : decode cX8_shared 5 = .ok (.iconst 5, 1) := by decide +kernel
theorem dX8_shared_6 : decode cX8_shared 6 = .ok (.if_icmp .le 6, 3) := by decide +kernel
theorem dX8_shared_9 : decode cX8_shared 9 = .ok (.bipush (-2), 2) := by decide +kernel
theorem dX8_shared_11 : decode cX8_shared 11 = .ok (.ireturn, 1) := by decide +kernel
theorem dX8_shared_12 : decode cX8_shared 12 = .ok (.aload_n 0, 1) := by decide +kernel
theorem dX8_shared_13 : decode cX8_shared 13 = .ok (.getfield 12, 3) := by decide +kernel
theorem dX8_shared_16 : decode cX8_shared 16 = .ok (.invokevirtual 122, 3) := by decide +kernel
theorem dX8_shared_19 : decode cX8_shared 19 = .ok (.ifCond .ne 6, 3) := by decide +kernel
theorem dX8_shared_22 : decode cX8_shared 22 = .ok (.bipush (-5), 2) := by decide +kernel
theorem dX8_shared_24 : decode cX8_shared 24 = .ok (.ireturn, 1) := by decide +kernel
theorem dX8_shared_25 : decode cX8_shared 25 = .ok (.aload_n 0, 1) := by decide +kernel
theorem dX8_shared_26 : decode cX8_shared 26 = .ok (.getfield 40, 3) := by decide +kernel
theorem dX8_shared_29 : decode cX8_shared 29 = .ok (.aload_n 0, 1) := by decide +kernel
theorem dX8_shared_30 : decode cX8_shared 30 = .ok (.getfield 12, 3) := by decide +kernel
theorem dX8_shared_33 : decode cX8_shared 33 = .ok (.invokevirtual 126, 3) := by decide +kernel
theorem dX8_shared_36 : decode cX8_shared 36 = .ok (.aload_n 0, 1) := by decide +kernel
theorem dX8_shared_37 : decode cX8_shared 37 = .ok (.getfield 12, 3) := by decide +kernel
theorem dX8_shared_40 : decode cX8_shared 40 = .ok (.iconst 1, 1) := by decide +kernel
theorem dX8_shared_41 : decode cX8_shared 41 = .ok (.invokevirtual 158, 3) := by decide +kernel
theorem dX8_shared_44 : decode cX8_shared 44 = .ok (.istore_n 2, 1) := by decide +kernel
theorem dX8_shared_45 : decode cX8_shared 45 = .ok (.iload_n 2, 1) := by decide +kernel
theorem dX8_shared_46 : decode cX8_shared 46 = .ok (.aload_n 0, 1) := by decide +kernel
theorem dX8_shared_47 : decode cX8_shared 47 = .ok (.getfield 40, 3) := by decide +kernel
theorem dX8_shared_50 : decode cX8_shared 50 = .ok (.getfield 132, 3) := by decide +kernel
theorem dX8_shared_53 : decode cX8_shared 53 = .ok (.aload_n 0, 1) := by decide +kernel
theorem dX8_shared_54 : decode cX8_shared 54 = .ok (.getfield 40, 3) := by decide +kernel
theorem dX8_shared_57 : decode cX8_shared 57 = .ok (.getfield 142, 3) := by decide +kernel
theorem dX8_shared_60 : decode cX8_shared 60 = .ok (.iconst (-1), 1) := by decide +kernel
theorem dX8_shared_61 : decode cX8_shared 61 = .ok (.ixor, 1) := by decide +kernel
theorem dX8_shared_62 : decode cX8_shared 62 = .ok (.iand, 1) := by decide +kernel
theorem dX8_shared_63 : decode cX8_shared 63 = .ok (.ior, 1) := by decide +kernel
theorem dX8_shared_64 : decode cX8_shared 64 = .ok (.istore_n 3, 1) := by decide +kernel
theorem dX8_shared_65 : decode cX8_shared 65 = .ok (.iload_n 1, 1) := by decide +kernel
theorem dX8_shared_66 : decode cX8_shared 66 = .ok (.tableswitch 78 0 4 #[34, 36, 45, 62, 70], 34) := by decide +kernel
theorem dX8_shared_100 : decode cX8_shared 100 = .ok (.iload_n 3, 1) := by decide +kernel
theorem dX8_shared_101 : decode cX8_shared 101 = .ok (.ireturn, 1) := by decide +kernel
theorem dX8_shared_102 : decode cX8_shared 102 = .ok (.aload_n 0, 1) := by decide +kernel
theorem dX8_shared_103 : decode cX8_shared 103 = .ok (.getfield 12, 3) := by decide +kernel
theorem dX8_shared_106 : decode cX8_shared 106 = .ok (.iload_n 3, 1) := by decide +kernel
theorem dX8_shared_107 : decode cX8_shared 107 = .ok (.invokevirtual 161, 3) := by decide +kernel
theorem dX8_shared_110 : decode cX8_shared 110 = .ok (.ireturn, 1) := by decide +kernel
theorem dX8_shared_111 : decode cX8_shared 111 = .ok (.aload_n 0, 1) := by decide +kernel
theorem dX8_shared_112 : decode cX8_shared 112 = .ok (.getfield 40, 3) := by decide +kernel
theorem dX8_shared_115 : decode cX8_shared 115 = .ok (.invokevirtual 164, 3) := by decide +kernel
theorem dX8_shared_118 : decode cX8_shared 118 = .ok (.aload_n 0, 1) := by decide +kernel
theorem dX8_shared_119 : decode cX8_shared 119 = .ok (.getfield 12, 3) := by decide +kernel
theorem dX8_shared_122 : decode cX8_shared 122 = .ok (.iload_n 2, 1) := by decide +kernel
theorem dX8_shared_123 : decode cX8_shared 123 = .ok (.invokevirtual 161, 3) := by decide +kernel
theorem dX8_shared_126 : decode cX8_shared 126 = .ok (.iadd, 1) := by decide +kernel
theorem dX8_shared_127 : decode cX8_shared 127 = .ok (.ireturn, 1) := by decide +kernel
theorem dX8_shared_128 : decode cX8_shared 128 = .ok (.aload_n 0, 1) := by decide +kernel
theorem dX8_shared_129 : decode cX8_shared 129 = .ok (.getfield 40, 3) := by decide +kernel
theorem dX8_shared_132 : decode cX8_shared 132 = .ok (.getfield 167, 3) := by decide +kernel
theorem dX8_shared_135 : decode cX8_shared 135 = .ok (.ireturn, 1) := by decide +kernel
theorem dX8_shared_136 : decode cX8_shared 136 = .ok (.aload_n 0, 1) := by decide +kernel
theorem dX8_shared_137 : decode cX8_shared 137 = .ok (.getfield 40, 3) := by decide +kernel
theorem dX8_shared_140 : decode cX8_shared 140 = .ok (.getfield 170, 3) := by decide +kernel
theorem dX8_shared_143 : decode cX8_shared 143 = .ok (.ireturn, 1) := by decide +kernel
theorem dX8_shared_144 : decode cX8_shared 144 = .ok (.aload_n 0, 1) := by decide +kernel
theorem dX8_shared_145 : decode cX8_shared 145 = .ok (.getfield 40, 3) := by decide +kernel
theorem dX8_shared_148 : decode cX8_shared 148 = .ok (.getfield 142, 3) := by decide +kernel
theorem dX8_shared_151 : decode cX8_shared 151 = .ok (.invokestatic 173, 3) := by decide +kernel
theorem dX8_shared_154 : decode cX8_shared 154 = .ok (.ireturn, 1) := by decide +kernel
theorem dX8_greedy_0 : decode cX8_greedy 0 = .ok (.iload_n 1, 1) := by decide +kernel
theorem dX8_greedy_1 : decode cX8_greedy 1 = .ok (.ifCond .lt 8, 3) := by decide +kernel
theorem dX8_greedy_4 : decode cX8_greedy 4 = .ok (.iload_n 1, 1) := by decide +kernel
theorem dX8_greedy_5 : decode cX8_greedy 5 = .ok (.iconst 2, 1) := by decide +kernel
theorem dX8_greedy_6 : decode cX8_greedy 6 = .ok (.if_icmp .le 6, 3) := by decide +kernel
theorem dX8_greedy_9 : decode cX8_greedy 9 = .ok (.bipush (-2), 2) := by decide +kernel
theorem dX8_greedy_11 : decode cX8_greedy 11 = .ok (.ireturn, 1) := by decide +kernel
theorem dX8_greedy_12 : decode cX8_greedy 12 = .ok (.aload_n 0, 1) := by decide +kernel
theorem dX8_greedy_13 : decode cX8_greedy 13 = .ok (.getfield 12, 3) := by decide +kernel
theorem dX8_greedy_16 : decode cX8_greedy 16 = .ok (.invokevirtual 122, 3) := by decide +kernel
theorem dX8_greedy_19 : decode cX8_greedy 19 = .ok (.ifCond .ne 6, 3) := by decide +kernel
theorem dX8_greedy_22 : decode cX8_greedy 22 = .ok (.bipush (-5), 2) := by decide +kernel
theorem dX8_greedy_24 : decode cX8_greedy 24 = .ok (.ireturn, 1) := by decide +kernel
theorem dX8_greedy_25 : decode cX8_greedy 25 = .ok (.aload_n 0, 1) := by decide +kernel
theorem dX8_greedy_26 : decode cX8_greedy 26 = .ok (.getfield 47, 3) := by decide +kernel
theorem dX8_greedy_29 : decode cX8_greedy 29 = .ok (.aload_n 0, 1) := by decide +kernel
theorem dX8_greedy_30 : decode cX8_greedy 30 = .ok (.getfield 12, 3) := by decide +kernel
theorem dX8_greedy_33 : decode cX8_greedy 33 = .ok (.invokevirtual 178, 3) := by decide +kernel
theorem dX8_greedy_36 : decode cX8_greedy 36 = .ok (.iload_n 1, 1) := by decide +kernel
theorem dX8_greedy_37 : decode cX8_greedy 37 = .ok (.lookupswitch 50 #[(0, 27), (1, 35)], 27) := by decide +kernel
theorem dX8_greedy_64 : decode cX8_greedy 64 = .ok (.aload_n 0, 1) := by decide +kernel
theorem dX8_greedy_65 : decode cX8_greedy 65 = .ok (.getfield 47, 3) := by decide +kernel
theorem dX8_greedy_68 : decode cX8_greedy 68 = .ok (.getfield 181, 3) := by decide +kernel
theorem dX8_greedy_71 : decode cX8_greedy 71 = .ok (.ireturn, 1) := by decide +kernel
theorem dX8_greedy_72 : decode cX8_greedy 72 = .ok (.aload_n 0, 1) := by decide +kernel
theorem dX8_greedy_73 : decode cX8_greedy 73 = .ok (.getfield 12, 3) := by decide +kernel
theorem dX8_greedy_76 : decode cX8_greedy 76 = .ok (.aload_n 0, 1) := by decide +kernel
theorem dX8_greedy_77 : decode cX8_greedy 77 = .ok (.getfield 47, 3) := by decide +kernel
theorem dX8_greedy_80 : decode cX8_greedy 80 = .ok (.getfield 181, 3) := by decide +kernel
theorem dX8_greedy_83 : decode cX8_greedy 83 = .ok (.invokevirtual 161, 3) := by decide +kernel
theorem dX8_greedy_86 : decode cX8_greedy 86 = .ok (.ireturn, 1) := by decide +kernel
theorem dX8_greedy_87 : decode cX8_greedy 87 = .ok (.aload_n 0, 1) := by decide +kernel
theorem dX8_greedy_88 : decode cX8_greedy 88 = .ok (.getfield 47, 3) := by decide +kernel
theorem dX8_greedy_91 : decode cX8_greedy 91 = .ok (.getfield 184, 3) := by decide +kernel
theorem dX8_greedy_94 : decode cX8_greedy 94 = .ok (.ireturn, 1) := by decide +kernel
theorem dX8_least_0 : decode cX8_least 0 = .ok (.iload_n 1, 1) := by decide +kernel
theorem dX8_least_1 : decode cX8_least 1 = .ok (.ifCond .lt 8, 3) := by decide +kernel
theorem dX8_least_4 : decode cX8_least 4 = .ok (.iload_n 1, 1) := by decide +kernel
theorem dX8_least_5 : decode cX8_least 5 = .ok (.iconst 1, 1) := by decide +kernel
theorem dX8_least_6 : decode cX8_least 6 = .ok (.if_icmp .le 6, 3) := by decide +kernel
theorem dX8_least_9 : decode cX8_least 9 = .ok (.bipush (-2), 2) := by decide +kernel
theorem dX8_least_11 : decode cX8_least 11 = .ok (.ireturn, 1) := by decide +kernel
theorem dX8_least_12 : decode cX8_least 12 = .ok (.aload_n 0, 1) := by decide +kernel
theorem dX8_least_13 : decode cX8_least 13 = .ok (.getfield 12, 3) := by decide +kernel
theorem dX8_least_16 : decode cX8_least 16 = .ok (.invokevirtual 122, 3) := by decide +kernel
theorem dX8_least_19 : decode cX8_least 19 = .ok (.ifCond .ne 6, 3) := by decide +kernel
theorem dX8_least_22 : decode cX8_least 22 = .ok (.bipush (-5), 2) := by decide +kernel
theorem dX8_least_24 : decode cX8_least 24 = .ok (.ireturn, 1) := by decide +kernel
theorem dX8_least_25 : decode cX8_least 25 = .ok (.aload_n 0, 1) := by decide +kernel
theorem dX8_least_26 : decode cX8_least 26 = .ok (.getfield 54, 3) := by decide +kernel
theorem dX8_least_29 : decode cX8_least 29 = .ok (.aload_n 0, 1) := by decide +kernel
theorem dX8_least_30 : decode cX8_least 30 = .ok (.getfield 12, 3) := by decide +kernel
theorem dX8_least_33 : decode cX8_least 33 = .ok (.invokevirtual 187, 3) := by decide +kernel
theorem dX8_least_36 : decode cX8_least 36 = .ok (.iload_n 1, 1) := by decide +kernel
theorem dX8_least_37 : decode cX8_least 37 = .ok (.ifCond .ne 13, 3) := by decide +kernel
theorem dX8_least_40 : decode cX8_least 40 = .ok (.aload_n 0, 1) := by decide +kernel
theorem dX8_least_41 : decode cX8_least 41 = .ok (.getfield 54, 3) := by decide +kernel
theorem dX8_least_44 : decode cX8_least 44 = .ok (.getfield 190, 3) := by decide +kernel
theorem dX8_least_47 : decode cX8_least 47 = .ok (.goto 10, 3) := by decide +kernel
theorem dX8_least_50 : decode cX8_least 50 = .ok (.aload_n 0, 1) := by decide +kernel
theorem dX8_least_51 : decode cX8_least 51 = .ok (.getfield 54, 3) := by decide +kernel
theorem dX8_least_54 : decode cX8_least 54 = .ok (.getfield 193, 3) := by decide +kernel
theorem dX8_least_57 : decode cX8_least 57 = .ok (.ireturn, 1) := by decide +kernel
theorem dX8_covers_0 : decode cX8_covers 0 = .ok (.iload_n 1, 1) := by decide +kernel
theorem dX8_covers_1 : decode cX8_covers 1 = .ok (.ifCond .lt 10, 3) := by decide +kernel
theorem dX8_covers_4 : decode cX8_covers 4 = .ok (.iload_n 1, 1) := by decide +kernel
theorem dX8_covers_5 : decode cX8_covers 5 = .ok (.sipush 7000, 3) := by decide +kernel
theorem dX8_covers_8 : decode cX8_covers 8 = .ok (.if_icmp .le 6, 3) := by decide +kernel
theorem dX8_covers_11 : decode cX8_covers 11 = .ok (.bipush (-2), 2) := by decide +kernel
theorem dX8_covers_13 : decode cX8_covers 13 = .ok (.ireturn, 1) := by decide +kernel
theorem dX8_covers_14 : decode cX8_covers 14 = .ok (.aload_n 0, 1) := by decide +kernel
theorem dX8_covers_15 : decode cX8_covers 15 = .ok (.getfield 54, 3) := by decide +kernel
theorem dX8_covers_18 : decode cX8_covers 18 = .ok (.aload_n 0, 1) := by decide +kernel
theorem dX8_covers_19 : decode cX8_covers 19 = .ok (.getfield 12, 3) := by decide +kernel
theorem dX8_covers_22 : decode cX8_covers 22 = .ok (.iload_n 1, 1) := by decide +kernel
theorem dX8_covers_23 : decode cX8_covers 23 = .ok (.invokevirtual 196, 3) := by decide +kernel
theorem dX8_covers_26 : decode cX8_covers 26 = .ok (.ireturn, 1) := by decide +kernel
theorem dX8_tightCovers_0 : decode cX8_tightCovers 0 = .ok (.aload_n 0, 1) := by decide +kernel
theorem dX8_tightCovers_1 : decode cX8_tightCovers 1 = .ok (.getfield 54, 3) := by decide +kernel
theorem dX8_tightCovers_4 : decode cX8_tightCovers 4 = .ok (.aload_n 0, 1) := by decide +kernel
theorem dX8_tightCovers_5 : decode cX8_tightCovers 5 = .ok (.getfield 12, 3) := by decide +kernel
theorem dX8_tightCovers_8 : decode cX8_tightCovers 8 = .ok (.invokevirtual 200, 3) := by decide +kernel
theorem dX8_tightCovers_11 : decode cX8_tightCovers 11 = .ok (.ireturn, 1) := by decide +kernel
theorem dX8_dearest_0 : decode cX8_dearest 0 = .ok (.iload_n 1, 1) := by decide +kernel
theorem dX8_dearest_1 : decode cX8_dearest 1 = .ok (.ifCond .lt 8, 3) := by decide +kernel
theorem dX8_dearest_4 : decode cX8_dearest 4 = .ok (.iload_n 1, 1) := by decide +kernel
theorem dX8_dearest_5 : decode cX8_dearest 5 = .ok (.iconst 1, 1) := by decide +kernel
theorem dX8_dearest_6 : decode cX8_dearest 6 = .ok (.if_icmp .le 6, 3) := by decide +kernel
theorem dX8_dearest_9 : decode cX8_dearest 9 = .ok (.bipush (-2), 2) := by decide +kernel
theorem dX8_dearest_11 : decode cX8_dearest 11 = .ok (.ireturn, 1) := by decide +kernel
theorem dX8_dearest_12 : decode cX8_dearest 12 = .ok (.aload_n 0, 1) := by decide +kernel
theorem dX8_dearest_13 : decode cX8_dearest 13 = .ok (.getfield 12, 3) := by decide +kernel
theorem dX8_dearest_16 : decode cX8_dearest 16 = .ok (.invokevirtual 122, 3) := by decide +kernel
theorem dX8_dearest_19 : decode cX8_dearest 19 = .ok (.ifCond .ne 6, 3) := by decide +kernel
theorem dX8_dearest_22 : decode cX8_dearest 22 = .ok (.bipush (-5), 2) := by decide +kernel
theorem dX8_dearest_24 : decode cX8_dearest 24 = .ok (.ireturn, 1) := by decide +kernel
theorem dX8_dearest_25 : decode cX8_dearest 25 = .ok (.aload_n 0, 1) := by decide +kernel
theorem dX8_dearest_26 : decode cX8_dearest 26 = .ok (.getfield 12, 3) := by decide +kernel
theorem dX8_dearest_29 : decode cX8_dearest 29 = .ok (.getfield 63, 3) := by decide +kernel
theorem dX8_dearest_32 : decode cX8_dearest 32 = .ok (.ifCond .ne 6, 3) := by decide +kernel
theorem dX8_dearest_35 : decode cX8_dearest 35 = .ok (.bipush (-6), 2) := by decide +kernel
theorem dX8_dearest_37 : decode cX8_dearest 37 = .ok (.ireturn, 1) := by decide +kernel
theorem dX8_dearest_38 : decode cX8_dearest 38 = .ok (.aload_n 0, 1) := by decide +kernel
theorem dX8_dearest_39 : decode cX8_dearest 39 = .ok (.getfield 54, 3) := by decide +kernel
theorem dX8_dearest_42 : decode cX8_dearest 42 = .ok (.aload_n 0, 1) := by decide +kernel
theorem dX8_dearest_43 : decode cX8_dearest 43 = .ok (.getfield 12, 3) := by decide +kernel
theorem dX8_dearest_46 : decode cX8_dearest 46 = .ok (.invokevirtual 207, 3) := by decide +kernel
theorem dX8_dearest_49 : decode cX8_dearest 49 = .ok (.iload_n 1, 1) := by decide +kernel
theorem dX8_dearest_50 : decode cX8_dearest 50 = .ok (.ifCond .ne 13, 3) := by decide +kernel
theorem dX8_dearest_53 : decode cX8_dearest 53 = .ok (.aload_n 0, 1) := by decide +kernel
theorem dX8_dearest_54 : decode cX8_dearest 54 = .ok (.getfield 54, 3) := by decide +kernel
theorem dX8_dearest_57 : decode cX8_dearest 57 = .ok (.getfield 210, 3) := by decide +kernel
theorem dX8_dearest_60 : decode cX8_dearest 60 = .ok (.goto 10, 3) := by decide +kernel
theorem dX8_dearest_63 : decode cX8_dearest 63 = .ok (.aload_n 0, 1) := by decide +kernel
theorem dX8_dearest_64 : decode cX8_dearest 64 = .ok (.getfield 54, 3) := by decide +kernel
theorem dX8_dearest_67 : decode cX8_dearest 67 = .ok (.getfield 213, 3) := by decide +kernel
theorem dX8_dearest_70 : decode cX8_dearest 70 = .ok (.ireturn, 1) := by decide +kernel
theorem dX8_check_0 : decode cX8_check 0 = .ok (.iload_n 1, 1) := by decide +kernel
theorem dX8_check_1 : decode cX8_check 1 = .ok (.ifCond .lt 16, 3) := by decide +kernel
theorem dX8_check_4 : decode cX8_check 4 = .ok (.iload_n 1, 1) := by decide +kernel
theorem dX8_check_5 : decode cX8_check 5 = .ok (.iconst 1, 1) := by decide +kernel
theorem dX8_check_6 : decode cX8_check 6 = .ok (.aload_n 0, 1) := by decide +kernel
theorem dX8_check_7 : decode cX8_check 7 = .ok (.getfield 12, 3) := by decide +kernel
theorem dX8_check_10 : decode cX8_check 10 = .ok (.getfield 74, 3) := by decide +kernel
theorem dX8_check_13 : decode cX8_check 13 = .ok (.ishl, 1) := by decide +kernel
theorem dX8_check_14 : decode cX8_check 14 = .ok (.if_icmp .lt 5, 3) := by decide +kernel
theorem dX8_check_17 : decode cX8_check 17 = .ok (.iconst (-1), 1) := by decide +kernel
theorem dX8_check_18 : decode cX8_check 18 = .ok (.ireturn, 1) := by decide +kernel
theorem dX8_check_19 : decode cX8_check 19 = .ok (.aload_n 0, 1) := by decide +kernel
theorem dX8_check_20 : decode cX8_check 20 = .ok (.getfield 12, 3) := by decide +kernel
theorem dX8_check_23 : decode cX8_check 23 = .ok (.iload_n 1, 1) := by decide +kernel
theorem dX8_check_24 : decode cX8_check 24 = .ok (.invokevirtual 216, 3) := by decide +kernel
theorem dX8_check_27 : decode cX8_check 27 = .ok (.ifCond .eq 14, 3) := by decide +kernel
theorem dX8_check_30 : decode cX8_check 30 = .ok (.aload_n 0, 1) := by decide +kernel
theorem dX8_check_31 : decode cX8_check 31 = .ok (.getfield 12, 3) := by decide +kernel
theorem dX8_check_34 : decode cX8_check 34 = .ok (.iload_n 1, 1) := by decide +kernel
theorem dX8_check_35 : decode cX8_check 35 = .ok (.invokevirtual 161, 3) := by decide +kernel
theorem dX8_check_38 : decode cX8_check 38 = .ok (.goto 5, 3) := by decide +kernel
theorem dX8_check_41 : decode cX8_check 41 = .ok (.bipush (-6), 2) := by decide +kernel
theorem dX8_check_43 : decode cX8_check 43 = .ok (.ireturn, 1) := by decide +kernel
theorem dX8_has_0 : decode cX8_has 0 = .ok (.iload_n 0, 1) := by decide +kernel
theorem dX8_has_1 : decode cX8_has 1 = .ok (.iload_n 1, 1) := by decide +kernel
theorem dX8_has_2 : decode cX8_has 2 = .ok (.ishr, 1) := by decide +kernel
theorem dX8_has_3 : decode cX8_has 3 = .ok (.iconst 1, 1) := by decide +kernel
theorem dX8_has_4 : decode cX8_has 4 = .ok (.iand, 1) := by decide +kernel
theorem dX8_has_5 : decode cX8_has 5 = .ok (.ifCond .eq 7, 3) := by decide +kernel
theorem dX8_has_8 : decode cX8_has 8 = .ok (.iconst 1, 1) := by decide +kernel
theorem dX8_has_9 : decode cX8_has 9 = .ok (.goto 4, 3) := by decide +kernel
theorem dX8_has_12 : decode cX8_has 12 = .ok (.iconst 0, 1) := by decide +kernel
theorem dX8_has_13 : decode cX8_has 13 = .ok (.ireturn, 1) := by decide +kernel
theorem dX8_areSomeThings_0 : decode cX8_areSomeThings 0 = .ok (.iload_n 0, 1) := by decide +kernel
theorem dX8_areSomeThings_1 : decode cX8_areSomeThings 1 = .ok (.iconst 1, 1) := by decide +kernel
theorem dX8_areSomeThings_2 : decode cX8_areSomeThings 2 = .ok (.if_icmp .lt 13, 3) := by decide +kernel
theorem dX8_areSomeThings_5 : decode cX8_areSomeThings 5 = .ok (.iload_n 0, 1) := by decide +kernel
theorem dX8_areSomeThings_6 : decode cX8_areSomeThings 6 = .ok (.ldc 58, 2) := by decide +kernel
theorem dX8_areSomeThings_8 : decode cX8_areSomeThings 8 = .ok (.if_icmp .gt 7, 3) := by decide +kernel
theorem dX8_areSomeThings_11 : decode cX8_areSomeThings 11 = .ok (.iconst 1, 1) := by decide +kernel
theorem dX8_areSomeThings_12 : decode cX8_areSomeThings 12 = .ok (.goto 4, 3) := by decide +kernel
theorem dX8_areSomeThings_15 : decode cX8_areSomeThings 15 = .ok (.iconst 0, 1) := by decide +kernel
theorem dX8_areSomeThings_16 : decode cX8_areSomeThings 16 = .ok (.ireturn, 1) := by decide +kernel
theorem dX8_isPrice_0 : decode cX8_isPrice 0 = .ok (.iload_n 0, 1) := by decide +kernel
theorem dX8_isPrice_1 : decode cX8_isPrice 1 = .ok (.iconst 1, 1) := by decide +kernel
theorem dX8_isPrice_2 : decode cX8_isPrice 2 = .ok (.if_icmp .lt 14, 3) := by decide +kernel
theorem dX8_isPrice_5 : decode cX8_isPrice 5 = .ok (.iload_n 0, 1) := by decide +kernel
theorem dX8_isPrice_6 : decode cX8_isPrice 6 = .ok (.sipush 500, 3) := by decide +kernel
theorem dX8_isPrice_9 : decode cX8_isPrice 9 = .ok (.if_icmp .gt 7, 3) := by decide +kernel
theorem dX8_isPrice_12 : decode cX8_isPrice 12 = .ok (.iconst 1, 1) := by decide +kernel
theorem dX8_isPrice_13 : decode cX8_isPrice 13 = .ok (.goto 4, 3) := by decide +kernel
theorem dX8_isPrice_16 : decode cX8_isPrice 16 = .ok (.iconst 0, 1) := by decide +kernel
theorem dX8_isPrice_17 : decode cX8_isPrice 17 = .ok (.ireturn, 1) := by decide +kernel
theorem dJ6_numberOfTrailingZeros_0f7a4_0 : decode cJ6_numberOfTrailingZeros_0f7a4 0 = .ok (.iload_n 0, 1) := by decide +kernel
theorem dJ6_numberOfTrailingZeros_0f7a4_1 : decode cJ6_numberOfTrailingZeros_0f7a4 1 = .ok (.iconst (-1), 1) := by decide +kernel
theorem dJ6_numberOfTrailingZeros_0f7a4_2 : decode cJ6_numberOfTrailingZeros_0f7a4 2 = .ok (.ixor, 1) := by decide +kernel
theorem dJ6_numberOfTrailingZeros_0f7a4_3 : decode cJ6_numberOfTrailingZeros_0f7a4 3 = .ok (.iload_n 0, 1) := by decide +kernel
theorem dJ6_numberOfTrailingZeros_0f7a4_4 : decode cJ6_numberOfTrailingZeros_0f7a4 4 = .ok (.iconst 1, 1) := by decide +kernel
theorem dJ6_numberOfTrailingZeros_0f7a4_5 : decode cJ6_numberOfTrailingZeros_0f7a4 5 = .ok (.isub, 1) := by decide +kernel
theorem dJ6_numberOfTrailingZeros_0f7a4_6 : decode cJ6_numberOfTrailingZeros_0f7a4 6 = .ok (.iand, 1) := by decide +kernel
theorem dJ6_numberOfTrailingZeros_0f7a4_7 : decode cJ6_numberOfTrailingZeros_0f7a4 7 = .ok (.istore_n 0, 1) := by decide +kernel
theorem dJ6_numberOfTrailingZeros_0f7a4_8 : decode cJ6_numberOfTrailingZeros_0f7a4 8 = .ok (.iload_n 0, 1) := by decide +kernel
theorem dJ6_numberOfTrailingZeros_0f7a4_9 : decode cJ6_numberOfTrailingZeros_0f7a4 9 = .ok (.ifCond .gt 8, 3) := by decide +kernel
theorem dJ6_numberOfTrailingZeros_0f7a4_12 : decode cJ6_numberOfTrailingZeros_0f7a4 12 = .ok (.iload_n 0, 1) := by decide +kernel
theorem dJ6_numberOfTrailingZeros_0f7a4_13 : decode cJ6_numberOfTrailingZeros_0f7a4 13 = .ok (.bipush 32, 2) := by decide +kernel
theorem dJ6_numberOfTrailingZeros_0f7a4_15 : decode cJ6_numberOfTrailingZeros_0f7a4 15 = .ok (.iand, 1) := by decide +kernel
theorem dJ6_numberOfTrailingZeros_0f7a4_16 : decode cJ6_numberOfTrailingZeros_0f7a4 16 = .ok (.ireturn, 1) := by decide +kernel
theorem dJ6_numberOfTrailingZeros_0f7a4_17 : decode cJ6_numberOfTrailingZeros_0f7a4 17 = .ok (.iconst 1, 1) := by decide +kernel
theorem dJ6_numberOfTrailingZeros_0f7a4_18 : decode cJ6_numberOfTrailingZeros_0f7a4 18 = .ok (.istore_n 1, 1) := by decide +kernel
theorem dJ6_numberOfTrailingZeros_0f7a4_19 : decode cJ6_numberOfTrailingZeros_0f7a4 19 = .ok (.iload_n 0, 1) := by decide +kernel
theorem dJ6_numberOfTrailingZeros_0f7a4_20 : decode cJ6_numberOfTrailingZeros_0f7a4 20 = .ok (.ldc_w 264, 3) := by decide +kernel
theorem dJ6_numberOfTrailingZeros_0f7a4_23 : decode cJ6_numberOfTrailingZeros_0f7a4 23 = .ok (.if_icmp .le 11, 3) := by decide +kernel
theorem dJ6_numberOfTrailingZeros_0f7a4_26 : decode cJ6_numberOfTrailingZeros_0f7a4 26 = .ok (.iinc 1 16, 3) := by decide +kernel
theorem dJ6_numberOfTrailingZeros_0f7a4_29 : decode cJ6_numberOfTrailingZeros_0f7a4 29 = .ok (.iload_n 0, 1) := by decide +kernel
theorem dJ6_numberOfTrailingZeros_0f7a4_30 : decode cJ6_numberOfTrailingZeros_0f7a4 30 = .ok (.bipush 16, 2) := by decide +kernel
theorem dJ6_numberOfTrailingZeros_0f7a4_32 : decode cJ6_numberOfTrailingZeros_0f7a4 32 = .ok (.iushr, 1) := by decide +kernel
theorem dJ6_numberOfTrailingZeros_0f7a4_33 : decode cJ6_numberOfTrailingZeros_0f7a4 33 = .ok (.istore_n 0, 1) := by decide +kernel
theorem dJ6_numberOfTrailingZeros_0f7a4_34 : decode cJ6_numberOfTrailingZeros_0f7a4 34 = .ok (.iload_n 0, 1) := by decide +kernel
theorem dJ6_numberOfTrailingZeros_0f7a4_35 : decode cJ6_numberOfTrailingZeros_0f7a4 35 = .ok (.sipush 256, 3) := by decide +kernel
theorem dJ6_numberOfTrailingZeros_0f7a4_38 : decode cJ6_numberOfTrailingZeros_0f7a4 38 = .ok (.if_icmp .le 11, 3) := by decide +kernel
theorem dJ6_numberOfTrailingZeros_0f7a4_41 : decode cJ6_numberOfTrailingZeros_0f7a4 41 = .ok (.iinc 1 8, 3) := by decide +kernel
theorem dJ6_numberOfTrailingZeros_0f7a4_44 : decode cJ6_numberOfTrailingZeros_0f7a4 44 = .ok (.iload_n 0, 1) := by decide +kernel
theorem dJ6_numberOfTrailingZeros_0f7a4_45 : decode cJ6_numberOfTrailingZeros_0f7a4 45 = .ok (.bipush 8, 2) := by decide +kernel
theorem dJ6_numberOfTrailingZeros_0f7a4_47 : decode cJ6_numberOfTrailingZeros_0f7a4 47 = .ok (.iushr, 1) := by decide +kernel
theorem dJ6_numberOfTrailingZeros_0f7a4_48 : decode cJ6_numberOfTrailingZeros_0f7a4 48 = .ok (.istore_n 0, 1) := by decide +kernel
theorem dJ6_numberOfTrailingZeros_0f7a4_49 : decode cJ6_numberOfTrailingZeros_0f7a4 49 = .ok (.iload_n 0, 1) := by decide +kernel
theorem dJ6_numberOfTrailingZeros_0f7a4_50 : decode cJ6_numberOfTrailingZeros_0f7a4 50 = .ok (.bipush 16, 2) := by decide +kernel
theorem dJ6_numberOfTrailingZeros_0f7a4_52 : decode cJ6_numberOfTrailingZeros_0f7a4 52 = .ok (.if_icmp .le 10, 3) := by decide +kernel
theorem dJ6_numberOfTrailingZeros_0f7a4_55 : decode cJ6_numberOfTrailingZeros_0f7a4 55 = .ok (.iinc 1 4, 3) := by decide +kernel
theorem dJ6_numberOfTrailingZeros_0f7a4_58 : decode cJ6_numberOfTrailingZeros_0f7a4 58 = .ok (.iload_n 0, 1) := by decide +kernel
theorem dJ6_numberOfTrailingZeros_0f7a4_59 : decode cJ6_numberOfTrailingZeros_0f7a4 59 = .ok (.iconst 4, 1) := by decide +kernel
theorem dJ6_numberOfTrailingZeros_0f7a4_60 : decode cJ6_numberOfTrailingZeros_0f7a4 60 = .ok (.iushr, 1) := by decide +kernel
theorem dJ6_numberOfTrailingZeros_0f7a4_61 : decode cJ6_numberOfTrailingZeros_0f7a4 61 = .ok (.istore_n 0, 1) := by decide +kernel
theorem dJ6_numberOfTrailingZeros_0f7a4_62 : decode cJ6_numberOfTrailingZeros_0f7a4 62 = .ok (.iload_n 0, 1) := by decide +kernel
theorem dJ6_numberOfTrailingZeros_0f7a4_63 : decode cJ6_numberOfTrailingZeros_0f7a4 63 = .ok (.iconst 4, 1) := by decide +kernel
theorem dJ6_numberOfTrailingZeros_0f7a4_64 : decode cJ6_numberOfTrailingZeros_0f7a4 64 = .ok (.if_icmp .le 10, 3) := by decide +kernel
theorem dJ6_numberOfTrailingZeros_0f7a4_67 : decode cJ6_numberOfTrailingZeros_0f7a4 67 = .ok (.iinc 1 2, 3) := by decide +kernel
theorem dJ6_numberOfTrailingZeros_0f7a4_70 : decode cJ6_numberOfTrailingZeros_0f7a4 70 = .ok (.iload_n 0, 1) := by decide +kernel
theorem dJ6_numberOfTrailingZeros_0f7a4_71 : decode cJ6_numberOfTrailingZeros_0f7a4 71 = .ok (.iconst 2, 1) := by decide +kernel
theorem dJ6_numberOfTrailingZeros_0f7a4_72 : decode cJ6_numberOfTrailingZeros_0f7a4 72 = .ok (.iushr, 1) := by decide +kernel
theorem dJ6_numberOfTrailingZeros_0f7a4_73 : decode cJ6_numberOfTrailingZeros_0f7a4 73 = .ok (.istore_n 0, 1) := by decide +kernel
theorem dJ6_numberOfTrailingZeros_0f7a4_74 : decode cJ6_numberOfTrailingZeros_0f7a4 74 = .ok (.iload_n 1, 1) := by decide +kernel
theorem dJ6_numberOfTrailingZeros_0f7a4_75 : decode cJ6_numberOfTrailingZeros_0f7a4 75 = .ok (.iload_n 0, 1) := by decide +kernel
theorem dJ6_numberOfTrailingZeros_0f7a4_76 : decode cJ6_numberOfTrailingZeros_0f7a4 76 = .ok (.iconst 1, 1) := by decide +kernel
theorem dJ6_numberOfTrailingZeros_0f7a4_77 : decode cJ6_numberOfTrailingZeros_0f7a4 77 = .ok (.iushr, 1) := by decide +kernel
theorem dJ6_numberOfTrailingZeros_0f7a4_78 : decode cJ6_numberOfTrailingZeros_0f7a4 78 = .ok (.iadd, 1) := by decide +kernel
theorem dJ6_numberOfTrailingZeros_0f7a4_79 : decode cJ6_numberOfTrailingZeros_0f7a4 79 = .ok (.ireturn, 1) := by decide +kernel
theorem dJ6_bitCount_0f7a4_0 : decode cJ6_bitCount_0f7a4 0 = .ok (.iload_n 0, 1) := by decide +kernel
theorem dJ6_bitCount_0f7a4_1 : decode cJ6_bitCount_0f7a4 1 = .ok (.iload_n 0, 1) := by decide +kernel
theorem dJ6_bitCount_0f7a4_2 : decode cJ6_bitCount_0f7a4 2 = .ok (.iconst 1, 1) := by decide +kernel
theorem dJ6_bitCount_0f7a4_3 : decode cJ6_bitCount_0f7a4 3 = .ok (.iushr, 1) := by decide +kernel
theorem dJ6_bitCount_0f7a4_4 : decode cJ6_bitCount_0f7a4 4 = .ok (.ldc_w 265, 3) := by decide +kernel
theorem dJ6_bitCount_0f7a4_7 : decode cJ6_bitCount_0f7a4 7 = .ok (.iand, 1) := by decide +kernel
theorem dJ6_bitCount_0f7a4_8 : decode cJ6_bitCount_0f7a4 8 = .ok (.isub, 1) := by decide +kernel
theorem dJ6_bitCount_0f7a4_9 : decode cJ6_bitCount_0f7a4 9 = .ok (.istore_n 0, 1) := by decide +kernel
theorem dJ6_bitCount_0f7a4_10 : decode cJ6_bitCount_0f7a4 10 = .ok (.iload_n 0, 1) := by decide +kernel
theorem dJ6_bitCount_0f7a4_11 : decode cJ6_bitCount_0f7a4 11 = .ok (.ldc_w 266, 3) := by decide +kernel
theorem dJ6_bitCount_0f7a4_14 : decode cJ6_bitCount_0f7a4 14 = .ok (.iand, 1) := by decide +kernel
theorem dJ6_bitCount_0f7a4_15 : decode cJ6_bitCount_0f7a4 15 = .ok (.iload_n 0, 1) := by decide +kernel
theorem dJ6_bitCount_0f7a4_16 : decode cJ6_bitCount_0f7a4 16 = .ok (.iconst 2, 1) := by decide +kernel
theorem dJ6_bitCount_0f7a4_17 : decode cJ6_bitCount_0f7a4 17 = .ok (.iushr, 1) := by decide +kernel
theorem dJ6_bitCount_0f7a4_18 : decode cJ6_bitCount_0f7a4 18 = .ok (.ldc_w 266, 3) := by decide +kernel
theorem dJ6_bitCount_0f7a4_21 : decode cJ6_bitCount_0f7a4 21 = .ok (.iand, 1) := by decide +kernel
theorem dJ6_bitCount_0f7a4_22 : decode cJ6_bitCount_0f7a4 22 = .ok (.iadd, 1) := by decide +kernel
theorem dJ6_bitCount_0f7a4_23 : decode cJ6_bitCount_0f7a4 23 = .ok (.istore_n 0, 1) := by decide +kernel
theorem dJ6_bitCount_0f7a4_24 : decode cJ6_bitCount_0f7a4 24 = .ok (.iload_n 0, 1) := by decide +kernel
theorem dJ6_bitCount_0f7a4_25 : decode cJ6_bitCount_0f7a4 25 = .ok (.iload_n 0, 1) := by decide +kernel
theorem dJ6_bitCount_0f7a4_26 : decode cJ6_bitCount_0f7a4 26 = .ok (.iconst 4, 1) := by decide +kernel
theorem dJ6_bitCount_0f7a4_27 : decode cJ6_bitCount_0f7a4 27 = .ok (.iushr, 1) := by decide +kernel
theorem dJ6_bitCount_0f7a4_28 : decode cJ6_bitCount_0f7a4 28 = .ok (.iadd, 1) := by decide +kernel
theorem dJ6_bitCount_0f7a4_29 : decode cJ6_bitCount_0f7a4 29 = .ok (.ldc_w 267, 3) := by decide +kernel
theorem dJ6_bitCount_0f7a4_32 : decode cJ6_bitCount_0f7a4 32 = .ok (.iand, 1) := by decide +kernel
theorem dJ6_bitCount_0f7a4_33 : decode cJ6_bitCount_0f7a4 33 = .ok (.istore_n 0, 1) := by decide +kernel
theorem dJ6_bitCount_0f7a4_34 : decode cJ6_bitCount_0f7a4 34 = .ok (.iload_n 0, 1) := by decide +kernel
theorem dJ6_bitCount_0f7a4_35 : decode cJ6_bitCount_0f7a4 35 = .ok (.iload_n 0, 1) := by decide +kernel
theorem dJ6_bitCount_0f7a4_36 : decode cJ6_bitCount_0f7a4 36 = .ok (.bipush 8, 2) := by decide +kernel
theorem dJ6_bitCount_0f7a4_38 : decode cJ6_bitCount_0f7a4 38 = .ok (.iushr, 1) := by decide +kernel
theorem dJ6_bitCount_0f7a4_39 : decode cJ6_bitCount_0f7a4 39 = .ok (.iadd, 1) := by decide +kernel
theorem dJ6_bitCount_0f7a4_40 : decode cJ6_bitCount_0f7a4 40 = .ok (.istore_n 0, 1) := by decide +kernel
theorem dJ6_bitCount_0f7a4_41 : decode cJ6_bitCount_0f7a4 41 = .ok (.iload_n 0, 1) := by decide +kernel
theorem dJ6_bitCount_0f7a4_42 : decode cJ6_bitCount_0f7a4 42 = .ok (.iload_n 0, 1) := by decide +kernel
theorem dJ6_bitCount_0f7a4_43 : decode cJ6_bitCount_0f7a4 43 = .ok (.bipush 16, 2) := by decide +kernel
theorem dJ6_bitCount_0f7a4_45 : decode cJ6_bitCount_0f7a4 45 = .ok (.iushr, 1) := by decide +kernel
theorem dJ6_bitCount_0f7a4_46 : decode cJ6_bitCount_0f7a4 46 = .ok (.iadd, 1) := by decide +kernel
theorem dJ6_bitCount_0f7a4_47 : decode cJ6_bitCount_0f7a4 47 = .ok (.istore_n 0, 1) := by decide +kernel
theorem dJ6_bitCount_0f7a4_48 : decode cJ6_bitCount_0f7a4 48 = .ok (.iload_n 0, 1) := by decide +kernel
theorem dJ6_bitCount_0f7a4_49 : decode cJ6_bitCount_0f7a4 49 = .ok (.bipush 63, 2) := by decide +kernel
theorem dJ6_bitCount_0f7a4_51 : decode cJ6_bitCount_0f7a4 51 = .ok (.iand, 1) := by decide +kernel
theorem dJ6_bitCount_0f7a4_52 : decode cJ6_bitCount_0f7a4 52 = .ok (.ireturn, 1) := by decide +kernel
theorem dJ9_max_7cf53_0 : decode cJ9_max_7cf53 0 = .ok (.iload_n 0, 1) := by decide +kernel
theorem dJ9_max_7cf53_1 : decode cJ9_max_7cf53 1 = .ok (.iload_n 1, 1) := by decide +kernel
theorem dJ9_max_7cf53_2 : decode cJ9_max_7cf53 2 = .ok (.if_icmp .lt 7, 3) := by decide +kernel
theorem dJ9_max_7cf53_5 : decode cJ9_max_7cf53 5 = .ok (.iload_n 0, 1) := by decide +kernel
theorem dJ9_max_7cf53_6 : decode cJ9_max_7cf53 6 = .ok (.goto 4, 3) := by decide +kernel
theorem dJ9_max_7cf53_9 : decode cJ9_max_7cf53 9 = .ok (.iload_n 1, 1) := by decide +kernel
theorem dJ9_max_7cf53_10 : decode cJ9_max_7cf53 10 = .ok (.ireturn, 1) := by decide +kernel
theorem dJ9_min_7cf53_0 : decode cJ9_min_7cf53 0 = .ok (.iload_n 0, 1) := by decide +kernel
theorem dJ9_min_7cf53_1 : decode cJ9_min_7cf53 1 = .ok (.iload_n 1, 1) := by decide +kernel
theorem dJ9_min_7cf53_2 : decode cJ9_min_7cf53 2 = .ok (.if_icmp .gt 7, 3) := by decide +kernel
theorem dJ9_min_7cf53_5 : decode cJ9_min_7cf53 5 = .ok (.iload_n 0, 1) := by decide +kernel
theorem dJ9_min_7cf53_6 : decode cJ9_min_7cf53 6 = .ok (.goto 4, 3) := by decide +kernel
theorem dJ9_min_7cf53_9 : decode cJ9_min_7cf53 9 = .ok (.iload_n 1, 1) := by decide +kernel
theorem dJ9_min_7cf53_10 : decode cJ9_min_7cf53 10 = .ok (.ireturn, 1) := by decide +kernel
theorem dJ7_fill_53178_0 : decode cJ7_fill_53178 0 = .ok (.iconst 0, 1) := by decide +kernel
theorem dJ7_fill_53178_1 : decode cJ7_fill_53178 1 = .ok (.istore_n 2, 1) := by decide +kernel
theorem dJ7_fill_53178_2 : decode cJ7_fill_53178 2 = .ok (.aload_n 0, 1) := by decide +kernel
theorem dJ7_fill_53178_3 : decode cJ7_fill_53178 3 = .ok (.arraylength, 1) := by decide +kernel
theorem dJ7_fill_53178_4 : decode cJ7_fill_53178 4 = .ok (.istore_n 3, 1) := by decide +kernel
theorem dJ7_fill_53178_5 : decode cJ7_fill_53178 5 = .ok (.iload_n 2, 1) := by decide +kernel
theorem dJ7_fill_53178_6 : decode cJ7_fill_53178 6 = .ok (.iload_n 3, 1) := by decide +kernel
theorem dJ7_fill_53178_7 : decode cJ7_fill_53178 7 = .ok (.if_icmp .ge 13, 3) := by decide +kernel
theorem dJ7_fill_53178_10 : decode cJ7_fill_53178 10 = .ok (.aload_n 0, 1) := by decide +kernel
theorem dJ7_fill_53178_11 : decode cJ7_fill_53178 11 = .ok (.iload_n 2, 1) := by decide +kernel
theorem dJ7_fill_53178_12 : decode cJ7_fill_53178 12 = .ok (.iload_n 1, 1) := by decide +kernel
theorem dJ7_fill_53178_13 : decode cJ7_fill_53178 13 = .ok (.iastore, 1) := by decide +kernel
theorem dJ7_fill_53178_14 : decode cJ7_fill_53178 14 = .ok (.iinc 2 1, 3) := by decide +kernel
theorem dJ7_fill_53178_17 : decode cJ7_fill_53178 17 = .ok (.goto (-12), 3) := by decide +kernel
theorem dJ7_fill_53178_20 : decode cJ7_fill_53178 20 = .ok (.return_, 1) := by decide +kernel
theorem dL_cell_0 : decode cL_cell 0 = .ok (.aload_n 0, 1) := by decide +kernel
theorem dL_cell_1 : decode cL_cell 1 = .ok (.arraylength, 1) := by decide +kernel
theorem dL_cell_2 : decode cL_cell 2 = .ok (.ifCond .ne 12, 3) := by decide +kernel
theorem dL_cell_5 : decode cL_cell 5 = .ok (.iload_n 1, 1) := by decide +kernel
theorem dL_cell_6 : decode cL_cell 6 = .ok (.bipush 37, 2) := by decide +kernel
theorem dL_cell_8 : decode cL_cell 8 = .ok (.imul, 1) := by decide +kernel
theorem dL_cell_9 : decode cL_cell 9 = .ok (.iconst 5, 1) := by decide +kernel
theorem dL_cell_10 : decode cL_cell 10 = .ok (.iadd, 1) := by decide +kernel
theorem dL_cell_11 : decode cL_cell 11 = .ok (.goto 17, 3) := by decide +kernel
theorem dL_cell_14 : decode cL_cell 14 = .ok (.aload_n 0, 1) := by decide +kernel
theorem dL_cell_15 : decode cL_cell 15 = .ok (.iload_n 1, 1) := by decide +kernel
theorem dL_cell_16 : decode cL_cell 16 = .ok (.aload_n 0, 1) := by decide +kernel
theorem dL_cell_17 : decode cL_cell 17 = .ok (.arraylength, 1) := by decide +kernel
theorem dL_cell_18 : decode cL_cell 18 = .ok (.irem, 1) := by decide +kernel
theorem dL_cell_19 : decode cL_cell 19 = .ok (.iaload, 1) := by decide +kernel
theorem dL_cell_20 : decode cL_cell 20 = .ok (.iload_n 1, 1) := by decide +kernel
theorem dL_cell_21 : decode cL_cell 21 = .ok (.bipush 7, 2) := by decide +kernel
theorem dL_cell_23 : decode cL_cell 23 = .ok (.irem, 1) := by decide +kernel
theorem dL_cell_24 : decode cL_cell 24 = .ok (.ishr, 1) := by decide +kernel
theorem dL_cell_25 : decode cL_cell 25 = .ok (.ldc 7, 2) := by decide +kernel
theorem dL_cell_27 : decode cL_cell 27 = .ok (.iand, 1) := by decide +kernel
theorem dL_cell_28 : decode cL_cell 28 = .ok (.iload_n 2, 1) := by decide +kernel
theorem dL_cell_29 : decode cL_cell 29 = .ok (.irem, 1) := by decide +kernel
theorem dL_cell_30 : decode cL_cell 30 = .ok (.ireturn, 1) := by decide +kernel
theorem dL_has_0 : decode cL_has 0 = .ok (.iload_n 0, 1) := by decide +kernel
theorem dL_has_1 : decode cL_has 1 = .ok (.iload_n 1, 1) := by decide +kernel
theorem dL_has_2 : decode cL_has 2 = .ok (.ishr, 1) := by decide +kernel
theorem dL_has_3 : decode cL_has 3 = .ok (.iconst 1, 1) := by decide +kernel
theorem dL_has_4 : decode cL_has 4 = .ok (.iand, 1) := by decide +kernel
theorem dL_has_5 : decode cL_has 5 = .ok (.iconst 1, 1) := by decide +kernel
theorem dL_has_6 : decode cL_has 6 = .ok (.if_icmp .ne 7, 3) := by decide +kernel
theorem dL_has_9 : decode cL_has 9 = .ok (.iconst 1, 1) := by decide +kernel
theorem dL_has_10 : decode cL_has 10 = .ok (.goto 4, 3) := by decide +kernel
theorem dL_has_13 : decode cL_has 13 = .ok (.iconst 0, 1) := by decide +kernel
theorem dL_has_14 : decode cL_has 14 = .ok (.ireturn, 1) := by decide +kernel
theorem dL_ones_0 : decode cL_ones 0 = .ok (.iconst 0, 1) := by decide +kernel
theorem dL_ones_1 : decode cL_ones 1 = .ok (.istore_n 1, 1) := by decide +kernel
theorem dL_ones_2 : decode cL_ones 2 = .ok (.iconst 0, 1) := by decide +kernel
theorem dL_ones_3 : decode cL_ones 3 = .ok (.istore_n 2, 1) := by decide +kernel
theorem dL_ones_4 : decode cL_ones 4 = .ok (.iload_n 2, 1) := by decide +kernel
theorem dL_ones_5 : decode cL_ones 5 = .ok (.bipush 18, 2) := by decide +kernel
theorem dL_ones_7 : decode cL_ones 7 = .ok (.if_icmp .ge 17, 3) := by decide +kernel
theorem dL_ones_10 : decode cL_ones 10 = .ok (.iload_n 1, 1) := by decide +kernel
theorem dL_ones_11 : decode cL_ones 11 = .ok (.iload_n 0, 1) := by decide +kernel
theorem dL_ones_12 : decode cL_ones 12 = .ok (.iload_n 2, 1) := by decide +kernel
theorem dL_ones_13 : decode cL_ones 13 = .ok (.ishr, 1) := by decide +kernel
theorem dL_ones_14 : decode cL_ones 14 = .ok (.iconst 1, 1) := by decide +kernel
theorem dL_ones_15 : decode cL_ones 15 = .ok (.iand, 1) := by decide +kernel
theorem dL_ones_16 : decode cL_ones 16 = .ok (.iadd, 1) := by decide +kernel
theorem dL_ones_17 : decode cL_ones 17 = .ok (.istore_n 1, 1) := by decide +kernel
theorem dL_ones_18 : decode cL_ones 18 = .ok (.iinc 2 1, 3) := by decide +kernel
theorem dL_ones_21 : decode cL_ones 21 = .ok (.goto (-17), 3) := by decide +kernel
theorem dL_ones_24 : decode cL_ones 24 = .ok (.iload_n 1, 1) := by decide +kernel
theorem dL_ones_25 : decode cL_ones 25 = .ok (.ireturn, 1) := by decide +kernel
theorem dL_union_0 : decode cL_union 0 = .ok (.iconst 0, 1) := by decide +kernel
theorem dL_union_1 : decode cL_union 1 = .ok (.istore_n 2, 1) := by decide +kernel
theorem dL_union_2 : decode cL_union 2 = .ok (.iconst 0, 1) := by decide +kernel
theorem dL_union_3 : decode cL_union 3 = .ok (.istore_n 3, 1) := by decide +kernel
theorem dL_union_4 : decode cL_union 4 = .ok (.iload_n 3, 1) := by decide +kernel
theorem dL_union_5 : decode cL_union 5 = .ok (.aload_n 0, 1) := by decide +kernel
theorem dL_union_6 : decode cL_union 6 = .ok (.iconst 0, 1) := by decide +kernel
theorem dL_union_7 : decode cL_union 7 = .ok (.invokevirtual 8, 3) := by decide +kernel
theorem dL_union_10 : decode cL_union 10 = .ok (.if_icmp .ge 30, 3) := by decide +kernel
theorem dL_union_13 : decode cL_union 13 = .ok (.iload_n 2, 1) := by decide +kernel
theorem dL_union_14 : decode cL_union 14 = .ok (.iload_n 1, 1) := by decide +kernel
theorem dL_union_15 : decode cL_union 15 = .ok (.iload_n 3, 1) := by decide +kernel
theorem dL_union_16 : decode cL_union 16 = .ok (.invokestatic 14, 3) := by decide +kernel
theorem dL_union_19 : decode cL_union 19 = .ok (.ifCond .eq 12, 3) := by decide +kernel
theorem dL_union_22 : decode cL_union 22 = .ok (.aload_n 0, 1) := by decide +kernel
theorem dL_union_23 : decode cL_union 23 = .ok (.iload_n 3, 1) := by decide +kernel
theorem dL_union_24 : decode cL_union 24 = .ok (.iconst 0, 1) := by decide +kernel
theorem dL_union_25 : decode cL_union 25 = .ok (.invokevirtual 20, 3) := by decide +kernel
theorem dL_union_28 : decode cL_union 28 = .ok (.goto 4, 3) := by decide +kernel
theorem dL_union_31 : decode cL_union 31 = .ok (.iconst 0, 1) := by decide +kernel
theorem dL_union_32 : decode cL_union 32 = .ok (.ior, 1) := by decide +kernel
theorem dL_union_33 : decode cL_union 33 = .ok (.istore_n 2, 1) := by decide +kernel
theorem dL_union_34 : decode cL_union 34 = .ok (.iinc 3 1, 3) := by decide +kernel
theorem dL_union_37 : decode cL_union 37 = .ok (.goto (-33), 3) := by decide +kernel
theorem dL_union_40 : decode cL_union 40 = .ok (.iload_n 2, 1) := by decide +kernel
theorem dL_union_41 : decode cL_union 41 = .ok (.ireturn, 1) := by decide +kernel
theorem dL_marked_0 : decode cL_marked 0 = .ok (.iconst 0, 1) := by decide +kernel
theorem dL_marked_1 : decode cL_marked 1 = .ok (.istore_n 2, 1) := by decide +kernel
theorem dL_marked_2 : decode cL_marked 2 = .ok (.iconst 0, 1) := by decide +kernel
theorem dL_marked_3 : decode cL_marked 3 = .ok (.istore_n 3, 1) := by decide +kernel
theorem dL_marked_4 : decode cL_marked 4 = .ok (.iload_n 3, 1) := by decide +kernel
theorem dL_marked_5 : decode cL_marked 5 = .ok (.aload_n 0, 1) := by decide +kernel
theorem dL_marked_6 : decode cL_marked 6 = .ok (.iconst 0, 1) := by decide +kernel
theorem dL_marked_7 : decode cL_marked 7 = .ok (.invokevirtual 8, 3) := by decide +kernel
theorem dL_marked_10 : decode cL_marked 10 = .ok (.if_icmp .ge 29, 3) := by decide +kernel
theorem dL_marked_13 : decode cL_marked 13 = .ok (.iload_n 2, 1) := by decide +kernel
theorem dL_marked_14 : decode cL_marked 14 = .ok (.aload_n 0, 1) := by decide +kernel
theorem dL_marked_15 : decode cL_marked 15 = .ok (.iload_n 3, 1) := by decide +kernel
theorem dL_marked_16 : decode cL_marked 16 = .ok (.iconst 2, 1) := by decide +kernel
theorem dL_marked_17 : decode cL_marked 17 = .ok (.invokevirtual 20, 3) := by decide +kernel
theorem dL_marked_20 : decode cL_marked 20 = .ok (.iload_n 1, 1) := by decide +kernel
theorem dL_marked_21 : decode cL_marked 21 = .ok (.if_icmp .ne 9, 3) := by decide +kernel
theorem dL_marked_24 : decode cL_marked 24 = .ok (.iconst 1, 1) := by decide +kernel
theorem dL_marked_25 : decode cL_marked 25 = .ok (.iload_n 3, 1) := by decide +kernel
theorem dL_marked_26 : decode cL_marked 26 = .ok (.ishl, 1) := by decide +kernel
theorem dL_marked_27 : decode cL_marked 27 = .ok (.goto 4, 3) := by decide +kernel
theorem dL_marked_30 : decode cL_marked 30 = .ok (.iconst 0, 1) := by decide +kernel
theorem dL_marked_31 : decode cL_marked 31 = .ok (.ior, 1) := by decide +kernel
theorem dL_marked_32 : decode cL_marked 32 = .ok (.istore_n 2, 1) := by decide +kernel
theorem dL_marked_33 : decode cL_marked 33 = .ok (.iinc 3 1, 3) := by decide +kernel
theorem dL_marked_36 : decode cL_marked 36 = .ok (.goto (-32), 3) := by decide +kernel
theorem dL_marked_39 : decode cL_marked 39 = .ok (.iload_n 2, 1) := by decide +kernel
theorem dL_marked_40 : decode cL_marked 40 = .ok (.ireturn, 1) := by decide +kernel
theorem dL_prices_0 : decode cL_prices 0 = .ok (.iconst 0, 1) := by decide +kernel
theorem dL_prices_1 : decode cL_prices 1 = .ok (.istore_n 2, 1) := by decide +kernel
theorem dL_prices_2 : decode cL_prices 2 = .ok (.iconst 0, 1) := by decide +kernel
theorem dL_prices_3 : decode cL_prices 3 = .ok (.istore_n 3, 1) := by decide +kernel
theorem dL_prices_4 : decode cL_prices 4 = .ok (.iload_n 3, 1) := by decide +kernel
theorem dL_prices_5 : decode cL_prices 5 = .ok (.aload_n 0, 1) := by decide +kernel
theorem dL_prices_6 : decode cL_prices 6 = .ok (.iconst 0, 1) := by decide +kernel
theorem dL_prices_7 : decode cL_prices 7 = .ok (.invokevirtual 8, 3) := by decide +kernel
theorem dL_prices_10 : decode cL_prices 10 = .ok (.if_icmp .ge 30, 3) := by decide +kernel
theorem dL_prices_13 : decode cL_prices 13 = .ok (.iload_n 2, 1) := by decide +kernel
theorem dL_prices_14 : decode cL_prices 14 = .ok (.iload_n 1, 1) := by decide +kernel
theorem dL_prices_15 : decode cL_prices 15 = .ok (.iload_n 3, 1) := by decide +kernel
theorem dL_prices_16 : decode cL_prices 16 = .ok (.invokestatic 14, 3) := by decide +kernel
theorem dL_prices_19 : decode cL_prices 19 = .ok (.ifCond .eq 12, 3) := by decide +kernel
theorem dL_prices_22 : decode cL_prices 22 = .ok (.aload_n 0, 1) := by decide +kernel
theorem dL_prices_23 : decode cL_prices 23 = .ok (.iload_n 3, 1) := by decide +kernel
theorem dL_prices_24 : decode cL_prices 24 = .ok (.iconst 1, 1) := by decide +kernel
theorem dL_prices_25 : decode cL_prices 25 = .ok (.invokevirtual 20, 3) := by decide +kernel
theorem dL_prices_28 : decode cL_prices 28 = .ok (.goto 4, 3) := by decide +kernel
theorem dL_prices_31 : decode cL_prices 31 = .ok (.iconst 0, 1) := by decide +kernel
theorem dL_prices_32 : decode cL_prices 32 = .ok (.iadd, 1) := by decide +kernel
theorem dL_prices_33 : decode cL_prices 33 = .ok (.istore_n 2, 1) := by decide +kernel
theorem dL_prices_34 : decode cL_prices 34 = .ok (.iinc 3 1, 3) := by decide +kernel
theorem dL_prices_37 : decode cL_prices 37 = .ok (.goto (-33), 3) := by decide +kernel
theorem dL_prices_40 : decode cL_prices 40 = .ok (.iload_n 2, 1) := by decide +kernel
theorem dL_prices_41 : decode cL_prices 41 = .ok (.ireturn, 1) := by decide +kernel
theorem dL_areShares_0 : decode cL_areShares 0 = .ok (.aload_n 0, 1) := by decide +kernel
theorem dL_areShares_1 : decode cL_areShares 1 = .ok (.iconst 0, 1) := by decide +kernel
theorem dL_areShares_2 : decode cL_areShares 2 = .ok (.invokevirtual 8, 3) := by decide +kernel
theorem dL_areShares_5 : decode cL_areShares 5 = .ok (.istore_n 1, 1) := by decide +kernel
theorem dL_areShares_6 : decode cL_areShares 6 = .ok (.aload_n 0, 1) := by decide +kernel
theorem dL_areShares_7 : decode cL_areShares 7 = .ok (.iconst 1, 1) := by decide +kernel
theorem dL_areShares_8 : decode cL_areShares 8 = .ok (.invokevirtual 8, 3) := by decide +kernel
theorem dL_areShares_11 : decode cL_areShares 11 = .ok (.istore_n 2, 1) := by decide +kernel
theorem dL_areShares_12 : decode cL_areShares 12 = .ok (.aload_n 0, 1) := by decide +kernel
theorem dL_areShares_13 : decode cL_areShares 13 = .ok (.iconst 1, 1) := by decide +kernel
theorem dL_areShares_14 : decode cL_areShares 14 = .ok (.invokestatic 24, 3) := by decide +kernel
theorem dL_areShares_17 : decode cL_areShares 17 = .ok (.istore_n 3, 1) := by decide +kernel
theorem dL_areShares_18 : decode cL_areShares 18 = .ok (.aload_n 0, 1) := by decide +kernel
theorem dL_areShares_19 : decode cL_areShares 19 = .ok (.iconst 0, 1) := by decide +kernel
theorem dL_areShares_20 : decode cL_areShares 20 = .ok (.invokestatic 24, 3) := by decide +kernel
theorem dL_areShares_23 : decode cL_areShares 23 = .ok (.istore 4, 2) := by decide +kernel
theorem dL_areShares_25 : decode cL_areShares 25 = .ok (.iload_n 2, 1) := by decide +kernel
theorem dL_areShares_26 : decode cL_areShares 26 = .ok (.aload_n 0, 1) := by decide +kernel
theorem dL_areShares_27 : decode cL_areShares 27 = .ok (.iload_n 3, 1) := by decide +kernel
theorem dL_areShares_28 : decode cL_areShares 28 = .ok (.invokestatic 28, 3) := by decide +kernel
theorem dL_areShares_31 : decode cL_areShares 31 = .ok (.iconst (-1), 1) := by decide +kernel
theorem dL_areShares_32 : decode cL_areShares 32 = .ok (.ixor, 1) := by decide +kernel
theorem dL_areShares_33 : decode cL_areShares 33 = .ok (.iand, 1) := by decide +kernel
theorem dL_areShares_34 : decode cL_areShares 34 = .ok (.istore 5, 2) := by decide +kernel
theorem dL_areShares_36 : decode cL_areShares 36 = .ok (.bipush 18, 2) := by decide +kernel
theorem dL_areShares_38 : decode cL_areShares 38 = .ok (.newarray .int, 2) := by decide +kernel
theorem dL_areShares_40 : decode cL_areShares 40 = .ok (.astore 6, 2) := by decide +kernel
theorem dL_areShares_42 : decode cL_areShares 42 = .ok (.bipush 14, 2) := by decide +kernel
theorem dL_areShares_44 : decode cL_areShares 44 = .ok (.newarray .int, 2) := by decide +kernel
theorem dL_areShares_46 : decode cL_areShares 46 = .ok (.astore 7, 2) := by decide +kernel
theorem dL_areShares_48 : decode cL_areShares 48 = .ok (.bipush 14, 2) := by decide +kernel
theorem dL_areShares_50 : decode cL_areShares 50 = .ok (.newarray .int, 2) := by decide +kernel
theorem dL_areShares_52 : decode cL_areShares 52 = .ok (.astore 8, 2) := by decide +kernel
theorem dL_areShares_54 : decode cL_areShares 54 = .ok (.iconst 0, 1) := by decide +kernel
theorem dL_areShares_55 : decode cL_areShares 55 = .ok (.istore 9, 2) := by decide +kernel
theorem dL_areShares_57 : decode cL_areShares 57 = .ok (.iconst 0, 1) := by decide +kernel
theorem dL_areShares_58 : decode cL_areShares 58 = .ok (.istore 10, 2) := by decide +kernel
theorem dL_areShares_60 : decode cL_areShares 60 = .ok (.iconst 0, 1) := by decide +kernel
theorem dL_areShares_61 : decode cL_areShares 61 = .ok (.istore 11, 2) := by decide +kernel
theorem dL_areShares_63 : decode cL_areShares 63 = .ok (.iconst 0, 1) := by decide +kernel
theorem dL_areShares_64 : decode cL_areShares 64 = .ok (.istore 12, 2) := by decide +kernel
theorem dL_areShares_66 : decode cL_areShares 66 = .ok (.iconst 0, 1) := by decide +kernel
theorem dL_areShares_67 : decode cL_areShares 67 = .ok (.istore 13, 2) := by decide +kernel
theorem dL_areShares_69 : decode cL_areShares 69 = .ok (.iload 13, 2) := by decide +kernel
theorem dL_areShares_71 : decode cL_areShares 71 = .ok (.iload_n 1, 1) := by decide +kernel
theorem dL_areShares_72 : decode cL_areShares 72 = .ok (.if_icmp .ge 28, 3) := by decide +kernel
theorem dL_areShares_75 : decode cL_areShares 75 = .ok (.aload 7, 2) := by decide +kernel
theorem dL_areShares_77 : decode cL_areShares 77 = .ok (.iload 13, 2) := by decide +kernel
theorem dL_areShares_79 : decode cL_areShares 79 = .ok (.aload_n 0, 1) := by decide +kernel
theorem dL_areShares_80 : decode cL_areShares 80 = .ok (.iload 13, 2) := by decide +kernel
theorem dL_areShares_82 : decode cL_areShares 82 = .ok (.iconst 1, 1) := by decide +kernel
theorem dL_areShares_83 : decode cL_areShares 83 = .ok (.invokevirtual 20, 3) := by decide +kernel
theorem dL_areShares_86 : decode cL_areShares 86 = .ok (.iastore, 1) := by decide +kernel
theorem dL_areShares_87 : decode cL_areShares 87 = .ok (.aload 8, 2) := by decide +kernel
theorem dL_areShares_89 : decode cL_areShares 89 = .ok (.iload 13, 2) := by decide +kernel
theorem dL_areShares_91 : decode cL_areShares 91 = .ok (.bipush (-6), 2) := by decide +kernel
theorem dL_areShares_93 : decode cL_areShares 93 = .ok (.iastore, 1) := by decide +kernel
theorem dL_areShares_94 : decode cL_areShares 94 = .ok (.iinc 13 1, 3) := by decide +kernel
theorem dL_areShares_97 : decode cL_areShares 97 = .ok (.goto (-28), 3) := by decide +kernel
theorem dL_areShares_100 : decode cL_areShares 100 = .ok (.iconst 0, 1) := by decide +kernel
theorem dL_areShares_101 : decode cL_areShares 101 = .ok (.istore 13, 2) := by decide +kernel
theorem dL_areShares_103 : decode cL_areShares 103 = .ok (.iload 5, 2) := by decide +kernel
theorem dL_areShares_105 : decode cL_areShares 105 = .ok (.iload 13, 2) := by decide +kernel
theorem dL_areShares_107 : decode cL_areShares 107 = .ok (.iconst (-1), 1) := by decide +kernel
theorem dL_areShares_108 : decode cL_areShares 108 = .ok (.ixor, 1) := by decide +kernel
theorem dL_areShares_109 : decode cL_areShares 109 = .ok (.iand, 1) := by decide +kernel
theorem dL_areShares_110 : decode cL_areShares 110 = .ok (.ifCond .eq 162, 3) := by decide +kernel
theorem dL_areShares_113 : decode cL_areShares 113 = .ok (.iinc 11 1, 3) := by decide +kernel
theorem dL_areShares_116 : decode cL_areShares 116 = .ok (.iconst 0, 1) := by decide +kernel
theorem dL_areShares_117 : decode cL_areShares 117 = .ok (.istore 14, 2) := by decide +kernel
theorem dL_areShares_119 : decode cL_areShares 119 = .ok (.iload 14, 2) := by decide +kernel
theorem dL_areShares_121 : decode cL_areShares 121 = .ok (.bipush 18, 2) := by decide +kernel
theorem dL_areShares_123 : decode cL_areShares 123 = .ok (.if_icmp .ge 146, 3) := by decide +kernel
theorem dL_areShares_126 : decode cL_areShares 126 = .ok (.iload 5, 2) := by decide +kernel
theorem dL_areShares_128 : decode cL_areShares 128 = .ok (.iload 13, 2) := by decide +kernel
theorem dL_areShares_130 : decode cL_areShares 130 = .ok (.iconst (-1), 1) := by decide +kernel
theorem dL_areShares_131 : decode cL_areShares 131 = .ok (.ixor, 1) := by decide +kernel
theorem dL_areShares_132 : decode cL_areShares 132 = .ok (.iand, 1) := by decide +kernel
theorem dL_areShares_133 : decode cL_areShares 133 = .ok (.iload 14, 2) := by decide +kernel
theorem dL_areShares_135 : decode cL_areShares 135 = .ok (.invokestatic 14, 3) := by decide +kernel
theorem dL_areShares_138 : decode cL_areShares 138 = .ok (.ifCond .eq 125, 3) := by decide +kernel
theorem dL_areShares_141 : decode cL_areShares 141 = .ok (.aload 6, 2) := by decide +kernel
theorem dL_areShares_143 : decode cL_areShares 143 = .ok (.iload 14, 2) := by decide +kernel
theorem dL_areShares_145 : decode cL_areShares 145 = .ok (.dup2, 1) := by decide +kernel
theorem dL_areShares_146 : decode cL_areShares 146 = .ok (.iaload, 1) := by decide +kernel
theorem dL_areShares_147 : decode cL_areShares 147 = .ok (.iconst 1, 1) := by decide +kernel
theorem dL_areShares_148 : decode cL_areShares 148 = .ok (.iadd, 1) := by decide +kernel
theorem dL_areShares_149 : decode cL_areShares 149 = .ok (.iastore, 1) := by decide +kernel
theorem dL_areShares_150 : decode cL_areShares 150 = .ok (.iinc 12 1, 3) := by decide +kernel
theorem dL_areShares_153 : decode cL_areShares 153 = .ok (.iconst 0, 1) := by decide +kernel
theorem dL_areShares_154 : decode cL_areShares 154 = .ok (.istore 15, 2) := by decide +kernel
theorem dL_areShares_156 : decode cL_areShares 156 = .ok (.iload 15, 2) := by decide +kernel
theorem dL_areShares_158 : decode cL_areShares 158 = .ok (.iload_n 1, 1) := by decide +kernel
theorem dL_areShares_159 : decode cL_areShares 159 = .ok (.if_icmp .ge 104, 3) := by decide +kernel
theorem dL_areShares_162 : decode cL_areShares 162 = .ok (.aload 7, 2) := by decide +kernel
theorem dL_areShares_164 : decode cL_areShares 164 = .ok (.iload 15, 2) := by decide +kernel
theorem dL_areShares_166 : decode cL_areShares 166 = .ok (.dup2, 1) := by decide +kernel
theorem dL_areShares_167 : decode cL_areShares 167 = .ok (.iaload, 1) := by decide +kernel
theorem dL_areShares_168 : decode cL_areShares 168 = .ok (.iload 4, 2) := by decide +kernel
theorem dL_areShares_170 : decode cL_areShares 170 = .ok (.iload 15, 2) := by decide +kernel
theorem dL_areShares_172 : decode cL_areShares 172 = .ok (.invokestatic 14, 3) := by decide +kernel
theorem dL_areShares_175 : decode cL_areShares 175 = .ok (.ifCond .eq 22, 3) := by decide +kernel
theorem dL_areShares_178 : decode cL_areShares 178 = .ok (.aload_n 0, 1) := by decide +kernel
theorem dL_areShares_179 : decode cL_areShares 179 = .ok (.iload 15, 2) := by decide +kernel
theorem dL_areShares_181 : decode cL_areShares 181 = .ok (.iconst 0, 1) := by decide +kernel
theorem dL_areShares_182 : decode cL_areShares 182 = .ok (.invokevirtual 20, 3) := by decide +kernel
theorem dL_areShares_185 : decode cL_areShares 185 = .ok (.iload 14, 2) := by decide +kernel
theorem dL_areShares_187 : decode cL_areShares 187 = .ok (.invokestatic 14, 3) := by decide +kernel
theorem dL_areShares_190 : decode cL_areShares 190 = .ok (.ifCond .eq 7, 3) := by decide +kernel
theorem dL_areShares_193 : decode cL_areShares 193 = .ok (.iconst 1, 1) := by decide +kernel
theorem dL_areShares_194 : decode cL_areShares 194 = .ok (.goto 4, 3) := by decide +kernel
theorem dL_areShares_197 : decode cL_areShares 197 = .ok (.iconst 0, 1) := by decide +kernel
theorem dL_areShares_198 : decode cL_areShares 198 = .ok (.isub, 1) := by decide +kernel
theorem dL_areShares_199 : decode cL_areShares 199 = .ok (.iastore, 1) := by decide +kernel
theorem dL_areShares_200 : decode cL_areShares 200 = .ok (.iload 4, 2) := by decide +kernel
theorem dL_areShares_202 : decode cL_areShares 202 = .ok (.iload 15, 2) := by decide +kernel
theorem dL_areShares_204 : decode cL_areShares 204 = .ok (.invokestatic 14, 3) := by decide +kernel
theorem dL_areShares_207 : decode cL_areShares 207 = .ok (.ifCond .eq 50, 3) := by decide +kernel
theorem dL_areShares_210 : decode cL_areShares 210 = .ok (.aload 7, 2) := by decide +kernel
theorem dL_areShares_212 : decode cL_areShares 212 = .ok (.iload 15, 2) := by decide +kernel
theorem dL_areShares_214 : decode cL_areShares 214 = .ok (.iaload, 1) := by decide +kernel
theorem dL_areShares_215 : decode cL_areShares 215 = .ok (.ifCond .ne 42, 3) := by decide +kernel
theorem dL_areShares_218 : decode cL_areShares 218 = .ok (.aload 8, 2) := by decide +kernel
theorem dL_areShares_220 : decode cL_areShares 220 = .ok (.iload 15, 2) := by decide +kernel
theorem dL_areShares_222 : decode cL_areShares 222 = .ok (.iaload, 1) := by decide +kernel
theorem dL_areShares_223 : decode cL_areShares 223 = .ok (.ifCond .ge 34, 3) := by decide +kernel
theorem dL_areShares_226 : decode cL_areShares 226 = .ok (.aload 8, 2) := by decide +kernel
theorem dL_areShares_228 : decode cL_areShares 228 = .ok (.iload 15, 2) := by decide +kernel
theorem dL_areShares_230 : decode cL_areShares 230 = .ok (.iload 10, 2) := by decide +kernel
theorem dL_areShares_232 : decode cL_areShares 232 = .ok (.iastore, 1) := by decide +kernel
theorem dL_areShares_233 : decode cL_areShares 233 = .ok (.iinc 10 1, 3) := by decide +kernel
theorem dL_areShares_236 : decode cL_areShares 236 = .ok (.iload 9, 2) := by decide +kernel
theorem dL_areShares_238 : decode cL_areShares 238 = .ok (.iconst 1, 1) := by decide +kernel
theorem dL_areShares_239 : decode cL_areShares 239 = .ok (.iload 15, 2) := by decide +kernel
theorem dL_areShares_241 : decode cL_areShares 241 = .ok (.ishl, 1) := by decide +kernel
theorem dL_areShares_242 : decode cL_areShares 242 = .ok (.ior, 1) := by decide +kernel
theorem dL_areShares_243 : decode cL_areShares 243 = .ok (.istore 9, 2) := by decide +kernel
theorem dL_areShares_245 : decode cL_areShares 245 = .ok (.iload 13, 2) := by decide +kernel
theorem dL_areShares_247 : decode cL_areShares 247 = .ok (.aload_n 0, 1) := by decide +kernel
theorem dL_areShares_248 : decode cL_areShares 248 = .ok (.iload 15, 2) := by decide +kernel
theorem dL_areShares_250 : decode cL_areShares 250 = .ok (.iconst 0, 1) := by decide +kernel
theorem dL_areShares_251 : decode cL_areShares 251 = .ok (.invokevirtual 20, 3) := by decide +kernel
theorem dL_areShares_254 : decode cL_areShares 254 = .ok (.ior, 1) := by decide +kernel
theorem dL_areShares_255 : decode cL_areShares 255 = .ok (.istore 13, 2) := by decide +kernel
theorem dL_areShares_257 : decode cL_areShares 257 = .ok (.iinc 15 1, 3) := by decide +kernel
theorem dL_areShares_260 : decode cL_areShares 260 = .ok (.goto (-104), 3) := by decide +kernel
theorem dL_areShares_263 : decode cL_areShares 263 = .ok (.iinc 14 1, 3) := by decide +kernel
theorem dL_areShares_266 : decode cL_areShares 266 = .ok (.goto (-147), 3) := by decide +kernel
theorem dL_areShares_269 : decode cL_areShares 269 = .ok (.goto (-166), 3) := by decide +kernel
theorem dL_areShares_272 : decode cL_areShares 272 = .ok (.iconst 0, 1) := by decide +kernel
theorem dL_areShares_273 : decode cL_areShares 273 = .ok (.istore 14, 2) := by decide +kernel
theorem dL_areShares_275 : decode cL_areShares 275 = .ok (.iload 10, 2) := by decide +kernel
theorem dL_areShares_277 : decode cL_areShares 277 = .ok (.iconst 1, 1) := by decide +kernel
theorem dL_areShares_278 : decode cL_areShares 278 = .ok (.isub, 1) := by decide +kernel
theorem dL_areShares_279 : decode cL_areShares 279 = .ok (.istore 15, 2) := by decide +kernel
theorem dL_areShares_281 : decode cL_areShares 281 = .ok (.iload 15, 2) := by decide +kernel
theorem dL_areShares_283 : decode cL_areShares 283 = .ok (.ifCond .lt 69, 3) := by decide +kernel
theorem dL_areShares_286 : decode cL_areShares 286 = .ok (.iconst 0, 1) := by decide +kernel
theorem dL_areShares_287 : decode cL_areShares 287 = .ok (.istore 16, 2) := by decide +kernel
theorem dL_areShares_289 : decode cL_areShares 289 = .ok (.iload 16, 2) := by decide +kernel
theorem dL_areShares_291 : decode cL_areShares 291 = .ok (.iload_n 1, 1) := by decide +kernel
theorem dL_areShares_292 : decode cL_areShares 292 = .ok (.if_icmp .ge 54, 3) := by decide +kernel
theorem dL_areShares_295 : decode cL_areShares 295 = .ok (.aload 8, 2) := by decide +kernel
theorem dL_areShares_297 : decode cL_areShares 297 = .ok (.iload 16, 2) := by decide +kernel
theorem dL_areShares_299 : decode cL_areShares 299 = .ok (.iaload, 1) := by decide +kernel
theorem dL_areShares_300 : decode cL_areShares 300 = .ok (.iload 15, 2) := by decide +kernel
theorem dL_areShares_302 : decode cL_areShares 302 = .ok (.if_icmp .ne 38, 3) := by decide +kernel
theorem dL_areShares_305 : decode cL_areShares 305 = .ok (.iload 5, 2) := by decide +kernel
theorem dL_areShares_307 : decode cL_areShares 307 = .ok (.aload_n 0, 1) := by decide +kernel
theorem dL_areShares_308 : decode cL_areShares 308 = .ok (.iload 9, 2) := by decide +kernel
theorem dL_areShares_310 : decode cL_areShares 310 = .ok (.iload 14, 2) := by decide +kernel
theorem dL_areShares_312 : decode cL_areShares 312 = .ok (.iconst (-1), 1) := by decide +kernel
theorem dL_areShares_313 : decode cL_areShares 313 = .ok (.ixor, 1) := by decide +kernel
theorem dL_areShares_314 : decode cL_areShares 314 = .ok (.iand, 1) := by decide +kernel
theorem dL_areShares_315 : decode cL_areShares 315 = .ok (.iconst 1, 1) := by decide +kernel
theorem dL_areShares_316 : decode cL_areShares 316 = .ok (.iload 16, 2) := by decide +kernel
theorem dL_areShares_318 : decode cL_areShares 318 = .ok (.ishl, 1) := by decide +kernel
theorem dL_areShares_319 : decode cL_areShares 319 = .ok (.iconst (-1), 1) := by decide +kernel
theorem dL_areShares_320 : decode cL_areShares 320 = .ok (.ixor, 1) := by decide +kernel
theorem dL_areShares_321 : decode cL_areShares 321 = .ok (.iand, 1) := by decide +kernel
theorem dL_areShares_322 : decode cL_areShares 322 = .ok (.invokestatic 28, 3) := by decide +kernel
theorem dL_areShares_325 : decode cL_areShares 325 = .ok (.iconst (-1), 1) := by decide +kernel
theorem dL_areShares_326 : decode cL_areShares 326 = .ok (.ixor, 1) := by decide +kernel
theorem dL_areShares_327 : decode cL_areShares 327 = .ok (.iand, 1) := by decide +kernel
theorem dL_areShares_328 : decode cL_areShares 328 = .ok (.ifCond .ne 12, 3) := by decide +kernel
theorem dL_areShares_331 : decode cL_areShares 331 = .ok (.iload 14, 2) := by decide +kernel
theorem dL_areShares_333 : decode cL_areShares 333 = .ok (.iconst 1, 1) := by decide +kernel
theorem dL_areShares_334 : decode cL_areShares 334 = .ok (.iload 16, 2) := by decide +kernel
theorem dL_areShares_336 : decode cL_areShares 336 = .ok (.ishl, 1) := by decide +kernel
theorem dL_areShares_337 : decode cL_areShares 337 = .ok (.ior, 1) := by decide +kernel
theorem dL_areShares_338 : decode cL_areShares 338 = .ok (.istore 14, 2) := by decide +kernel
theorem dL_areShares_340 : decode cL_areShares 340 = .ok (.iinc 16 1, 3) := by decide +kernel
theorem dL_areShares_343 : decode cL_areShares 343 = .ok (.goto (-54), 3) := by decide +kernel
theorem dL_areShares_346 : decode cL_areShares 346 = .ok (.iinc 15 (-1), 3) := by decide +kernel
theorem dL_areShares_349 : decode cL_areShares 349 = .ok (.goto (-68), 3) := by decide +kernel
theorem dL_areShares_352 : decode cL_areShares 352 = .ok (.iconst 0, 1) := by decide +kernel
theorem dL_areShares_353 : decode cL_areShares 353 = .ok (.istore 15, 2) := by decide +kernel
theorem dL_areShares_355 : decode cL_areShares 355 = .ok (.iload 15, 2) := by decide +kernel
theorem dL_areShares_357 : decode cL_areShares 357 = .ok (.bipush 18, 2) := by decide +kernel
theorem dL_areShares_359 : decode cL_areShares 359 = .ok (.if_icmp .ge 26, 3) := by decide +kernel
theorem dL_areShares_362 : decode cL_areShares 362 = .ok (.aload_n 0, 1) := by decide +kernel
theorem dL_areShares_363 : decode cL_areShares 363 = .ok (.iload 15, 2) := by decide +kernel
theorem dL_areShares_365 : decode cL_areShares 365 = .ok (.iconst 2, 1) := by decide +kernel
theorem dL_areShares_366 : decode cL_areShares 366 = .ok (.invokevirtual 31, 3) := by decide +kernel
theorem dL_areShares_369 : decode cL_areShares 369 = .ok (.aload 6, 2) := by decide +kernel
theorem dL_areShares_371 : decode cL_areShares 371 = .ok (.iload 15, 2) := by decide +kernel
theorem dL_areShares_373 : decode cL_areShares 373 = .ok (.iaload, 1) := by decide +kernel
theorem dL_areShares_374 : decode cL_areShares 374 = .ok (.if_icmp .eq 5, 3) := by decide +kernel
theorem dL_areShares_377 : decode cL_areShares 377 = .ok (.iconst 0, 1) := by decide +kernel
theorem dL_areShares_378 : decode cL_areShares 378 = .ok (.ireturn, 1) := by decide +kernel
theorem dL_areShares_379 : decode cL_areShares 379 = .ok (.iinc 15 1, 3) := by decide +kernel
theorem dL_areShares_382 : decode cL_areShares 382 = .ok (.goto (-27), 3) := by decide +kernel
theorem dL_areShares_385 : decode cL_areShares 385 = .ok (.iconst 0, 1) := by decide +kernel
theorem dL_areShares_386 : decode cL_areShares 386 = .ok (.istore 15, 2) := by decide +kernel
theorem dL_areShares_388 : decode cL_areShares 388 = .ok (.iload 15, 2) := by decide +kernel
theorem dL_areShares_390 : decode cL_areShares 390 = .ok (.iload_n 1, 1) := by decide +kernel
theorem dL_areShares_391 : decode cL_areShares 391 = .ok (.if_icmp .ge 102, 3) := by decide +kernel
theorem dL_areShares_394 : decode cL_areShares 394 = .ok (.iload 4, 2) := by decide +kernel
theorem dL_areShares_396 : decode cL_areShares 396 = .ok (.iload 15, 2) := by decide +kernel
theorem dL_areShares_398 : decode cL_areShares 398 = .ok (.invokestatic 14, 3) := by decide +kernel
theorem dL_areShares_401 : decode cL_areShares 401 = .ok (.istore 16, 2) := by decide +kernel
theorem dL_areShares_403 : decode cL_areShares 403 = .ok (.aload_n 0, 1) := by decide +kernel
theorem dL_areShares_404 : decode cL_areShares 404 = .ok (.iload 15, 2) := by decide +kernel
theorem dL_areShares_406 : decode cL_areShares 406 = .ok (.iconst 3, 1) := by decide +kernel
theorem dL_areShares_407 : decode cL_areShares 407 = .ok (.invokevirtual 20, 3) := by decide +kernel
theorem dL_areShares_410 : decode cL_areShares 410 = .ok (.iload 16, 2) := by decide +kernel
theorem dL_areShares_412 : decode cL_areShares 412 = .ok (.ifCond .eq 19, 3) := by decide +kernel
theorem dL_areShares_415 : decode cL_areShares 415 = .ok (.aload_n 0, 1) := by decide +kernel
theorem dL_areShares_416 : decode cL_areShares 416 = .ok (.iload 15, 2) := by decide +kernel
theorem dL_areShares_418 : decode cL_areShares 418 = .ok (.iconst 1, 1) := by decide +kernel
theorem dL_areShares_419 : decode cL_areShares 419 = .ok (.invokevirtual 20, 3) := by decide +kernel
theorem dL_areShares_422 : decode cL_areShares 422 = .ok (.aload 7, 2) := by decide +kernel
theorem dL_areShares_424 : decode cL_areShares 424 = .ok (.iload 15, 2) := by decide +kernel
theorem dL_areShares_426 : decode cL_areShares 426 = .ok (.iaload, 1) := by decide +kernel
theorem dL_areShares_427 : decode cL_areShares 427 = .ok (.isub, 1) := by decide +kernel
theorem dL_areShares_428 : decode cL_areShares 428 = .ok (.goto 4, 3) := by decide +kernel
theorem dL_areShares_431 : decode cL_areShares 431 = .ok (.iconst 0, 1) := by decide +kernel
theorem dL_areShares_432 : decode cL_areShares 432 = .ok (.if_icmp .ne 53, 3) := by decide +kernel
theorem dL_areShares_435 : decode cL_areShares 435 = .ok (.aload_n 0, 1) := by decide +kernel
theorem dL_areShares_436 : decode cL_areShares 436 = .ok (.iload 15, 2) := by decide +kernel
theorem dL_areShares_438 : decode cL_areShares 438 = .ok (.iconst 4, 1) := by decide +kernel
theorem dL_areShares_439 : decode cL_areShares 439 = .ok (.invokevirtual 20, 3) := by decide +kernel
theorem dL_areShares_442 : decode cL_areShares 442 = .ok (.iload 9, 2) := by decide +kernel
theorem dL_areShares_444 : decode cL_areShares 444 = .ok (.iload 15, 2) := by decide +kernel
theorem dL_areShares_446 : decode cL_areShares 446 = .ok (.ishr, 1) := by decide +kernel
theorem dL_areShares_447 : decode cL_areShares 447 = .ok (.iconst 1, 1) := by decide +kernel
theorem dL_areShares_448 : decode cL_areShares 448 = .ok (.iand, 1) := by decide +kernel
theorem dL_areShares_449 : decode cL_areShares 449 = .ok (.if_icmp .ne 36, 3) := by decide +kernel
theorem dL_areShares_452 : decode cL_areShares 452 = .ok (.aload_n 0, 1) := by decide +kernel
theorem dL_areShares_453 : decode cL_areShares 453 = .ok (.iload 15, 2) := by decide +kernel
theorem dL_areShares_455 : decode cL_areShares 455 = .ok (.iconst 5, 1) := by decide +kernel
theorem dL_areShares_456 : decode cL_areShares 456 = .ok (.invokevirtual 20, 3) := by decide +kernel
theorem dL_areShares_459 : decode cL_areShares 459 = .ok (.aload 8, 2) := by decide +kernel
theorem dL_areShares_461 : decode cL_areShares 461 = .ok (.iload 15, 2) := by decide +kernel
theorem dL_areShares_463 : decode cL_areShares 463 = .ok (.iaload, 1) := by decide +kernel
theorem dL_areShares_464 : decode cL_areShares 464 = .ok (.if_icmp .ne 21, 3) := by decide +kernel
theorem dL_areShares_467 : decode cL_areShares 467 = .ok (.aload_n 0, 1) := by decide +kernel
theorem dL_areShares_468 : decode cL_areShares 468 = .ok (.iload 15, 2) := by decide +kernel
theorem dL_areShares_470 : decode cL_areShares 470 = .ok (.bipush 6, 2) := by decide +kernel
theorem dL_areShares_472 : decode cL_areShares 472 = .ok (.invokevirtual 20, 3) := by decide +kernel
theorem dL_areShares_475 : decode cL_areShares 475 = .ok (.iload 14, 2) := by decide +kernel
theorem dL_areShares_477 : decode cL_areShares 477 = .ok (.iload 15, 2) := by decide +kernel
theorem dL_areShares_479 : decode cL_areShares 479 = .ok (.ishr, 1) := by decide +kernel
theorem dL_areShares_480 : decode cL_areShares 480 = .ok (.iconst 1, 1) := by decide +kernel
theorem dL_areShares_481 : decode cL_areShares 481 = .ok (.iand, 1) := by decide +kernel
theorem dL_areShares_482 : decode cL_areShares 482 = .ok (.if_icmp .eq 5, 3) := by decide +kernel
theorem dL_areShares_485 : decode cL_areShares 485 = .ok (.iconst 0, 1) := by decide +kernel
theorem dL_areShares_486 : decode cL_areShares 486 = .ok (.ireturn, 1) := by decide +kernel
theorem dL_areShares_487 : decode cL_areShares 487 = .ok (.iinc 15 1, 3) := by decide +kernel
theorem dL_areShares_490 : decode cL_areShares 490 = .ok (.goto (-102), 3) := by decide +kernel
theorem dL_areShares_493 : decode cL_areShares 493 = .ok (.iload_n 3, 1) := by decide +kernel
theorem dL_areShares_494 : decode cL_areShares 494 = .ok (.iload 9, 2) := by decide +kernel
theorem dL_areShares_496 : decode cL_areShares 496 = .ok (.iload 14, 2) := by decide +kernel
theorem dL_areShares_498 : decode cL_areShares 498 = .ok (.iconst (-1), 1) := by decide +kernel
theorem dL_areShares_499 : decode cL_areShares 499 = .ok (.ixor, 1) := by decide +kernel
theorem dL_areShares_500 : decode cL_areShares 500 = .ok (.iand, 1) := by decide +kernel
theorem dL_areShares_501 : decode cL_areShares 501 = .ok (.ior, 1) := by decide +kernel
theorem dL_areShares_502 : decode cL_areShares 502 = .ok (.istore 15, 2) := by decide +kernel
theorem dL_areShares_504 : decode cL_areShares 504 = .ok (.aload_n 0, 1) := by decide +kernel
theorem dL_areShares_505 : decode cL_areShares 505 = .ok (.iconst 0, 1) := by decide +kernel
theorem dL_areShares_506 : decode cL_areShares 506 = .ok (.invokevirtual 34, 3) := by decide +kernel
theorem dL_areShares_509 : decode cL_areShares 509 = .ok (.iload 15, 2) := by decide +kernel
theorem dL_areShares_511 : decode cL_areShares 511 = .ok (.if_icmp .ne 70, 3) := by decide +kernel
theorem dL_areShares_514 : decode cL_areShares 514 = .ok (.aload_n 0, 1) := by decide +kernel
theorem dL_areShares_515 : decode cL_areShares 515 = .ok (.iconst 1, 1) := by decide +kernel
theorem dL_areShares_516 : decode cL_areShares 516 = .ok (.invokevirtual 34, 3) := by decide +kernel
theorem dL_areShares_519 : decode cL_areShares 519 = .ok (.aload_n 0, 1) := by decide +kernel
theorem dL_areShares_520 : decode cL_areShares 520 = .ok (.iload 15, 2) := by decide +kernel
theorem dL_areShares_522 : decode cL_areShares 522 = .ok (.invokestatic 37, 3) := by decide +kernel
theorem dL_areShares_525 : decode cL_areShares 525 = .ok (.if_icmp .ne 56, 3) := by decide +kernel
theorem dL_areShares_528 : decode cL_areShares 528 = .ok (.aload_n 0, 1) := by decide +kernel
theorem dL_areShares_529 : decode cL_areShares 529 = .ok (.iconst 2, 1) := by decide +kernel
theorem dL_areShares_530 : decode cL_areShares 530 = .ok (.invokevirtual 34, 3) := by decide +kernel
theorem dL_areShares_533 : decode cL_areShares 533 = .ok (.iload 12, 2) := by decide +kernel
theorem dL_areShares_535 : decode cL_areShares 535 = .ok (.aload_n 0, 1) := by decide +kernel
theorem dL_areShares_536 : decode cL_areShares 536 = .ok (.iload_n 3, 1) := by decide +kernel
theorem dL_areShares_537 : decode cL_areShares 537 = .ok (.invokestatic 37, 3) := by decide +kernel
theorem dL_areShares_540 : decode cL_areShares 540 = .ok (.iadd, 1) := by decide +kernel
theorem dL_areShares_541 : decode cL_areShares 541 = .ok (.if_icmp .ne 40, 3) := by decide +kernel
theorem dL_areShares_544 : decode cL_areShares 544 = .ok (.aload_n 0, 1) := by decide +kernel
theorem dL_areShares_545 : decode cL_areShares 545 = .ok (.iconst 3, 1) := by decide +kernel
theorem dL_areShares_546 : decode cL_areShares 546 = .ok (.invokevirtual 34, 3) := by decide +kernel
theorem dL_areShares_549 : decode cL_areShares 549 = .ok (.iload 11, 2) := by decide +kernel
theorem dL_areShares_551 : decode cL_areShares 551 = .ok (.if_icmp .ne 30, 3) := by decide +kernel
theorem dL_areShares_554 : decode cL_areShares 554 = .ok (.aload_n 0, 1) := by decide +kernel
theorem dL_areShares_555 : decode cL_areShares 555 = .ok (.iconst 4, 1) := by decide +kernel
theorem dL_areShares_556 : decode cL_areShares 556 = .ok (.invokevirtual 34, 3) := by decide +kernel
theorem dL_areShares_559 : decode cL_areShares 559 = .ok (.iload 10, 2) := by decide +kernel
theorem dL_areShares_561 : decode cL_areShares 561 = .ok (.if_icmp .ne 20, 3) := by decide +kernel
theorem dL_areShares_564 : decode cL_areShares 564 = .ok (.aload_n 0, 1) := by decide +kernel
theorem dL_areShares_565 : decode cL_areShares 565 = .ok (.iconst 5, 1) := by decide +kernel
theorem dL_areShares_566 : decode cL_areShares 566 = .ok (.invokevirtual 34, 3) := by decide +kernel
theorem dL_areShares_569 : decode cL_areShares 569 = .ok (.iload 14, 2) := by decide +kernel
theorem dL_areShares_571 : decode cL_areShares 571 = .ok (.invokestatic 40, 3) := by decide +kernel
theorem dL_areShares_574 : decode cL_areShares 574 = .ok (.if_icmp .ne 7, 3) := by decide +kernel
theorem dL_areShares_577 : decode cL_areShares 577 = .ok (.iconst 1, 1) := by decide +kernel
theorem dL_areShares_578 : decode cL_areShares 578 = .ok (.goto 4, 3) := by decide +kernel
theorem dL_areShares_581 : decode cL_areShares 581 = .ok (.iconst 0, 1) := by decide +kernel
theorem dL_areShares_582 : decode cL_areShares 582 = .ok (.istore 16, 2) := by decide +kernel
theorem dL_areShares_584 : decode cL_areShares 584 = .ok (.aload_n 0, 1) := by decide +kernel
theorem dL_areShares_585 : decode cL_areShares 585 = .ok (.iconst 3, 1) := by decide +kernel
theorem dL_areShares_586 : decode cL_areShares 586 = .ok (.invokevirtual 8, 3) := by decide +kernel
theorem dL_areShares_589 : decode cL_areShares 589 = .ok (.iconst 1, 1) := by decide +kernel
theorem dL_areShares_590 : decode cL_areShares 590 = .ok (.if_icmp .le 11, 3) := by decide +kernel
theorem dL_areShares_593 : decode cL_areShares 593 = .ok (.aload_n 0, 1) := by decide +kernel
theorem dL_areShares_594 : decode cL_areShares 594 = .ok (.iconst 3, 1) := by decide +kernel
theorem dL_areShares_595 : decode cL_areShares 595 = .ok (.invokevirtual 8, 3) := by decide +kernel
theorem dL_areShares_598 : decode cL_areShares 598 = .ok (.goto 4, 3) := by decide +kernel
theorem dL_areShares_601 : decode cL_areShares 601 = .ok (.iconst 1, 1) := by decide +kernel
theorem dL_areShares_602 : decode cL_areShares 602 = .ok (.istore 17, 2) := by decide +kernel
theorem dL_areShares_604 : decode cL_areShares 604 = .ok (.iload 16, 2) := by decide +kernel
theorem dL_areShares_606 : decode cL_areShares 606 = .ok (.ifCond .eq 79, 3) := by decide +kernel
theorem dL_areShares_609 : decode cL_areShares 609 = .ok (.aload_n 0, 1) := by decide +kernel
theorem dL_areShares_610 : decode cL_areShares 610 = .ok (.iload 15, 2) := by decide +kernel
theorem dL_areShares_612 : decode cL_areShares 612 = .ok (.invokevirtual 43, 3) := by decide +kernel
theorem dL_areShares_615 : decode cL_areShares 615 = .ok (.aload_n 0, 1) := by decide +kernel
theorem dL_areShares_616 : decode cL_areShares 616 = .ok (.iconst 1, 1) := by decide +kernel
theorem dL_areShares_617 : decode cL_areShares 617 = .ok (.invokevirtual 34, 3) := by decide +kernel
theorem dL_areShares_620 : decode cL_areShares 620 = .ok (.if_icmp .ne 65, 3) := by decide +kernel
theorem dL_areShares_623 : decode cL_areShares 623 = .ok (.aload_n 0, 1) := by decide +kernel
theorem dL_areShares_624 : decode cL_areShares 624 = .ok (.iconst 2, 1) := by decide +kernel
theorem dL_areShares_625 : decode cL_areShares 625 = .ok (.invokevirtual 34, 3) := by decide +kernel
theorem dL_areShares_628 : decode cL_areShares 628 = .ok (.aload_n 0, 1) := by decide +kernel
theorem dL_areShares_629 : decode cL_areShares 629 = .ok (.iconst 1, 1) := by decide +kernel
theorem dL_areShares_630 : decode cL_areShares 630 = .ok (.invokevirtual 46, 3) := by decide +kernel
theorem dL_areShares_633 : decode cL_areShares 633 = .ok (.if_icmp .gt 52, 3) := by decide +kernel
theorem dL_areShares_636 : decode cL_areShares 636 = .ok (.aload_n 0, 1) := by decide +kernel
theorem dL_areShares_637 : decode cL_areShares 637 = .ok (.iconst 1, 1) := by decide +kernel
theorem dL_areShares_638 : decode cL_areShares 638 = .ok (.invokevirtual 46, 3) := by decide +kernel
theorem dL_areShares_641 : decode cL_areShares 641 = .ok (.aload_n 0, 1) := by decide +kernel
theorem dL_areShares_642 : decode cL_areShares 642 = .ok (.iconst 1, 1) := by decide +kernel
theorem dL_areShares_643 : decode cL_areShares 643 = .ok (.invokevirtual 34, 3) := by decide +kernel
theorem dL_areShares_646 : decode cL_areShares 646 = .ok (.if_icmp .gt 39, 3) := by decide +kernel
theorem dL_areShares_649 : decode cL_areShares 649 = .ok (.aload_n 0, 1) := by decide +kernel
theorem dL_areShares_650 : decode cL_areShares 650 = .ok (.iconst 1, 1) := by decide +kernel
theorem dL_areShares_651 : decode cL_areShares 651 = .ok (.invokevirtual 46, 3) := by decide +kernel
theorem dL_areShares_654 : decode cL_areShares 654 = .ok (.aload_n 0, 1) := by decide +kernel
theorem dL_areShares_655 : decode cL_areShares 655 = .ok (.iconst 1, 1) := by decide +kernel
theorem dL_areShares_656 : decode cL_areShares 656 = .ok (.invokevirtual 49, 3) := by decide +kernel
theorem dL_areShares_659 : decode cL_areShares 659 = .ok (.if_icmp .gt 26, 3) := by decide +kernel
theorem dL_areShares_662 : decode cL_areShares 662 = .ok (.aload_n 0, 1) := by decide +kernel
theorem dL_areShares_663 : decode cL_areShares 663 = .ok (.iconst 1, 1) := by decide +kernel
theorem dL_areShares_664 : decode cL_areShares 664 = .ok (.invokevirtual 34, 3) := by decide +kernel
theorem dL_areShares_667 : decode cL_areShares 667 = .ok (.aload_n 0, 1) := by decide +kernel
theorem dL_areShares_668 : decode cL_areShares 668 = .ok (.iload_n 3, 1) := by decide +kernel
theorem dL_areShares_669 : decode cL_areShares 669 = .ok (.invokestatic 37, 3) := by decide +kernel
theorem dL_areShares_672 : decode cL_areShares 672 = .ok (.isub, 1) := by decide +kernel
theorem dL_areShares_673 : decode cL_areShares 673 = .ok (.iload 17, 2) := by decide +kernel
theorem dL_areShares_675 : decode cL_areShares 675 = .ok (.iload 12, 2) := by decide +kernel
theorem dL_areShares_677 : decode cL_areShares 677 = .ok (.imul, 1) := by decide +kernel
theorem dL_areShares_678 : decode cL_areShares 678 = .ok (.if_icmp .gt 7, 3) := by decide +kernel
theorem dL_areShares_681 : decode cL_areShares 681 = .ok (.iconst 1, 1) := by decide +kernel
theorem dL_areShares_682 : decode cL_areShares 682 = .ok (.goto 4, 3) := by decide +kernel
theorem dL_areShares_685 : decode cL_areShares 685 = .ok (.iconst 0, 1) := by decide +kernel
theorem dL_areShares_686 : decode cL_areShares 686 = .ok (.ireturn, 1) := by decide +kernel
theorem dL_isGreedy_0 : decode cL_isGreedy 0 = .ok (.aload_n 0, 1) := by decide +kernel
theorem dL_isGreedy_1 : decode cL_isGreedy 1 = .ok (.iconst 0, 1) := by decide +kernel
theorem dL_isGreedy_2 : decode cL_isGreedy 2 = .ok (.invokevirtual 8, 3) := by decide +kernel
theorem dL_isGreedy_5 : decode cL_isGreedy 5 = .ok (.istore_n 1, 1) := by decide +kernel
theorem dL_isGreedy_6 : decode cL_isGreedy 6 = .ok (.aload_n 0, 1) := by decide +kernel
theorem dL_isGreedy_7 : decode cL_isGreedy 7 = .ok (.iconst 0, 1) := by decide +kernel
theorem dL_isGreedy_8 : decode cL_isGreedy 8 = .ok (.invokestatic 24, 3) := by decide +kernel
theorem dL_isGreedy_11 : decode cL_isGreedy 11 = .ok (.istore_n 2, 1) := by decide +kernel
theorem dL_isGreedy_12 : decode cL_isGreedy 12 = .ok (.aload_n 0, 1) := by decide +kernel
theorem dL_isGreedy_13 : decode cL_isGreedy 13 = .ok (.iconst 1, 1) := by decide +kernel
theorem dL_isGreedy_14 : decode cL_isGreedy 14 = .ok (.invokestatic 24, 3) := by decide +kernel
theorem dL_isGreedy_17 : decode cL_isGreedy 17 = .ok (.istore_n 3, 1) := by decide +kernel
theorem dL_isGreedy_18 : decode cL_isGreedy 18 = .ok (.bipush (-6), 2) := by decide +kernel
theorem dL_isGreedy_20 : decode cL_isGreedy 20 = .ok (.istore 4, 2) := by decide +kernel
theorem dL_isGreedy_22 : decode cL_isGreedy 22 = .ok (.aload_n 0, 1) := by decide +kernel
theorem dL_isGreedy_23 : decode cL_isGreedy 23 = .ok (.iconst 1, 1) := by decide +kernel
theorem dL_isGreedy_24 : decode cL_isGreedy 24 = .ok (.invokevirtual 8, 3) := by decide +kernel
theorem dL_isGreedy_27 : decode cL_isGreedy 27 = .ok (.aload_n 0, 1) := by decide +kernel
theorem dL_isGreedy_28 : decode cL_isGreedy 28 = .ok (.iload_n 3, 1) := by decide +kernel
theorem dL_isGreedy_29 : decode cL_isGreedy 29 = .ok (.invokestatic 28, 3) := by decide +kernel
theorem dL_isGreedy_32 : decode cL_isGreedy 32 = .ok (.iconst (-1), 1) := by decide +kernel
theorem dL_isGreedy_33 : decode cL_isGreedy 33 = .ok (.ixor, 1) := by decide +kernel
theorem dL_isGreedy_34 : decode cL_isGreedy 34 = .ok (.iand, 1) := by decide +kernel
theorem dL_isGreedy_35 : decode cL_isGreedy 35 = .ok (.istore 5, 2) := by decide +kernel
theorem dL_isGreedy_37 : decode cL_isGreedy 37 = .ok (.iload 5, 2) := by decide +kernel
theorem dL_isGreedy_39 : decode cL_isGreedy 39 = .ok (.ifCond .eq 146, 3) := by decide +kernel
theorem dL_isGreedy_42 : decode cL_isGreedy 42 = .ok (.iconst (-1), 1) := by decide +kernel
theorem dL_isGreedy_43 : decode cL_isGreedy 43 = .ok (.istore 6, 2) := by decide +kernel
theorem dL_isGreedy_45 : decode cL_isGreedy 45 = .ok (.iconst 0, 1) := by decide +kernel
theorem dL_isGreedy_46 : decode cL_isGreedy 46 = .ok (.istore 7, 2) := by decide +kernel
theorem dL_isGreedy_48 : decode cL_isGreedy 48 = .ok (.iload 7, 2) := by decide +kernel
theorem dL_isGreedy_50 : decode cL_isGreedy 50 = .ok (.iload_n 1, 1) := by decide +kernel
theorem dL_isGreedy_51 : decode cL_isGreedy 51 = .ok (.if_icmp .ge 99, 3) := by decide +kernel
theorem dL_isGreedy_54 : decode cL_isGreedy 54 = .ok (.aload_n 0, 1) := by decide +kernel
theorem dL_isGreedy_55 : decode cL_isGreedy 55 = .ok (.iload 7, 2) := by decide +kernel
theorem dL_isGreedy_57 : decode cL_isGreedy 57 = .ok (.iconst 0, 1) := by decide +kernel
theorem dL_isGreedy_58 : decode cL_isGreedy 58 = .ok (.invokevirtual 20, 3) := by decide +kernel
theorem dL_isGreedy_61 : decode cL_isGreedy 61 = .ok (.iload 5, 2) := by decide +kernel
theorem dL_isGreedy_63 : decode cL_isGreedy 63 = .ok (.iand, 1) := by decide +kernel
theorem dL_isGreedy_64 : decode cL_isGreedy 64 = .ok (.invokestatic 40, 3) := by decide +kernel
theorem dL_isGreedy_67 : decode cL_isGreedy 67 = .ok (.istore 8, 2) := by decide +kernel
theorem dL_isGreedy_69 : decode cL_isGreedy 69 = .ok (.iload_n 2, 1) := by decide +kernel
theorem dL_isGreedy_70 : decode cL_isGreedy 70 = .ok (.iload 7, 2) := by decide +kernel
theorem dL_isGreedy_72 : decode cL_isGreedy 72 = .ok (.invokestatic 14, 3) := by decide +kernel
theorem dL_isGreedy_75 : decode cL_isGreedy 75 = .ok (.ifCond .eq 69, 3) := by decide +kernel
theorem dL_isGreedy_78 : decode cL_isGreedy 78 = .ok (.iload 8, 2) := by decide +kernel
theorem dL_isGreedy_80 : decode cL_isGreedy 80 = .ok (.ifCond .le 64, 3) := by decide +kernel
theorem dL_isGreedy_83 : decode cL_isGreedy 83 = .ok (.iload 6, 2) := by decide +kernel
theorem dL_isGreedy_85 : decode cL_isGreedy 85 = .ok (.ifCond .ge 7, 3) := by decide +kernel
theorem dL_isGreedy_88 : decode cL_isGreedy 88 = .ok (.iconst 0, 1) := by decide +kernel
theorem dL_isGreedy_89 : decode cL_isGreedy 89 = .ok (.goto 16, 3) := by decide +kernel
theorem dL_isGreedy_92 : decode cL_isGreedy 92 = .ok (.aload_n 0, 1) := by decide +kernel
theorem dL_isGreedy_93 : decode cL_isGreedy 93 = .ok (.iload 6, 2) := by decide +kernel
theorem dL_isGreedy_95 : decode cL_isGreedy 95 = .ok (.iconst 0, 1) := by decide +kernel
theorem dL_isGreedy_96 : decode cL_isGreedy 96 = .ok (.invokevirtual 20, 3) := by decide +kernel
theorem dL_isGreedy_99 : decode cL_isGreedy 99 = .ok (.iload 5, 2) := by decide +kernel
theorem dL_isGreedy_101 : decode cL_isGreedy 101 = .ok (.iand, 1) := by decide +kernel
theorem dL_isGreedy_102 : decode cL_isGreedy 102 = .ok (.invokestatic 40, 3) := by decide +kernel
theorem dL_isGreedy_105 : decode cL_isGreedy 105 = .ok (.istore 9, 2) := by decide +kernel
theorem dL_isGreedy_107 : decode cL_isGreedy 107 = .ok (.iload 6, 2) := by decide +kernel
theorem dL_isGreedy_109 : decode cL_isGreedy 109 = .ok (.ifCond .lt 26, 3) := by decide +kernel
theorem dL_isGreedy_112 : decode cL_isGreedy 112 = .ok (.aload_n 0, 1) := by decide +kernel
theorem dL_isGreedy_113 : decode cL_isGreedy 113 = .ok (.iload 7, 2) := by decide +kernel
theorem dL_isGreedy_115 : decode cL_isGreedy 115 = .ok (.iconst 1, 1) := by decide +kernel
theorem dL_isGreedy_116 : decode cL_isGreedy 116 = .ok (.invokevirtual 20, 3) := by decide +kernel
theorem dL_isGreedy_119 : decode cL_isGreedy 119 = .ok (.iload 9, 2) := by decide +kernel
theorem dL_isGreedy_121 : decode cL_isGreedy 121 = .ok (.imul, 1) := by decide +kernel
theorem dL_isGreedy_122 : decode cL_isGreedy 122 = .ok (.aload_n 0, 1) := by decide +kernel
theorem dL_isGreedy_123 : decode cL_isGreedy 123 = .ok (.iload 6, 2) := by decide +kernel
theorem dL_isGreedy_125 : decode cL_isGreedy 125 = .ok (.iconst 1, 1) := by decide +kernel
theorem dL_isGreedy_126 : decode cL_isGreedy 126 = .ok (.invokevirtual 20, 3) := by decide +kernel
theorem dL_isGreedy_129 : decode cL_isGreedy 129 = .ok (.iload 8, 2) := by decide +kernel
theorem dL_isGreedy_131 : decode cL_isGreedy 131 = .ok (.imul, 1) := by decide +kernel
theorem dL_isGreedy_132 : decode cL_isGreedy 132 = .ok (.if_icmp .ge 8, 3) := by decide +kernel
theorem dL_isGreedy_135 : decode cL_isGreedy 135 = .ok (.iload 7, 2) := by decide +kernel
theorem dL_isGreedy_137 : decode cL_isGreedy 137 = .ok (.goto 5, 3) := by decide +kernel
theorem dL_isGreedy_140 : decode cL_isGreedy 140 = .ok (.iload 6, 2) := by decide +kernel
theorem dL_isGreedy_142 : decode cL_isGreedy 142 = .ok (.istore 6, 2) := by decide +kernel
theorem dL_isGreedy_144 : decode cL_isGreedy 144 = .ok (.iinc 7 1, 3) := by decide +kernel
theorem dL_isGreedy_147 : decode cL_isGreedy 147 = .ok (.goto (-99), 3) := by decide +kernel
theorem dL_isGreedy_150 : decode cL_isGreedy 150 = .ok (.iload 6, 2) := by decide +kernel
theorem dL_isGreedy_152 : decode cL_isGreedy 152 = .ok (.ifCond .ge 5, 3) := by decide +kernel
theorem dL_isGreedy_155 : decode cL_isGreedy 155 = .ok (.iconst 0, 1) := by decide +kernel
theorem dL_isGreedy_156 : decode cL_isGreedy 156 = .ok (.ireturn, 1) := by decide +kernel
theorem dL_isGreedy_157 : decode cL_isGreedy 157 = .ok (.iload_n 3, 1) := by decide +kernel
theorem dL_isGreedy_158 : decode cL_isGreedy 158 = .ok (.iconst 1, 1) := by decide +kernel
theorem dL_isGreedy_159 : decode cL_isGreedy 159 = .ok (.iload 6, 2) := by decide +kernel
theorem dL_isGreedy_161 : decode cL_isGreedy 161 = .ok (.ishl, 1) := by decide +kernel
theorem dL_isGreedy_162 : decode cL_isGreedy 162 = .ok (.ior, 1) := by decide +kernel
theorem dL_isGreedy_163 : decode cL_isGreedy 163 = .ok (.istore_n 3, 1) := by decide +kernel
theorem dL_isGreedy_164 : decode cL_isGreedy 164 = .ok (.iload 6, 2) := by decide +kernel
theorem dL_isGreedy_166 : decode cL_isGreedy 166 = .ok (.istore 4, 2) := by decide +kernel
theorem dL_isGreedy_168 : decode cL_isGreedy 168 = .ok (.iload 5, 2) := by decide +kernel
theorem dL_isGreedy_170 : decode cL_isGreedy 170 = .ok (.aload_n 0, 1) := by decide +kernel
theorem dL_isGreedy_171 : decode cL_isGreedy 171 = .ok (.iload 6, 2) := by decide +kernel
theorem dL_isGreedy_173 : decode cL_isGreedy 173 = .ok (.iconst 0, 1) := by decide +kernel
theorem dL_isGreedy_174 : decode cL_isGreedy 174 = .ok (.invokevirtual 20, 3) := by decide +kernel
theorem dL_isGreedy_177 : decode cL_isGreedy 177 = .ok (.iconst (-1), 1) := by decide +kernel
theorem dL_isGreedy_178 : decode cL_isGreedy 178 = .ok (.ixor, 1) := by decide +kernel
theorem dL_isGreedy_179 : decode cL_isGreedy 179 = .ok (.iand, 1) := by decide +kernel
theorem dL_isGreedy_180 : decode cL_isGreedy 180 = .ok (.istore 5, 2) := by decide +kernel
theorem dL_isGreedy_182 : decode cL_isGreedy 182 = .ok (.goto (-145), 3) := by decide +kernel
theorem dL_isGreedy_185 : decode cL_isGreedy 185 = .ok (.aload_n 0, 1) := by decide +kernel
theorem dL_isGreedy_186 : decode cL_isGreedy 186 = .ok (.iconst 0, 1) := by decide +kernel
theorem dL_isGreedy_187 : decode cL_isGreedy 187 = .ok (.invokevirtual 49, 3) := by decide +kernel
theorem dL_isGreedy_190 : decode cL_isGreedy 190 = .ok (.iload_n 3, 1) := by decide +kernel
theorem dL_isGreedy_191 : decode cL_isGreedy 191 = .ok (.if_icmp .ne 43, 3) := by decide +kernel
theorem dL_isGreedy_194 : decode cL_isGreedy 194 = .ok (.aload_n 0, 1) := by decide +kernel
theorem dL_isGreedy_195 : decode cL_isGreedy 195 = .ok (.iconst 1, 1) := by decide +kernel
theorem dL_isGreedy_196 : decode cL_isGreedy 196 = .ok (.invokevirtual 49, 3) := by decide +kernel
theorem dL_isGreedy_199 : decode cL_isGreedy 199 = .ok (.aload_n 0, 1) := by decide +kernel
theorem dL_isGreedy_200 : decode cL_isGreedy 200 = .ok (.iload_n 3, 1) := by decide +kernel
theorem dL_isGreedy_201 : decode cL_isGreedy 201 = .ok (.invokestatic 37, 3) := by decide +kernel
theorem dL_isGreedy_204 : decode cL_isGreedy 204 = .ok (.if_icmp .ne 30, 3) := by decide +kernel
theorem dL_isGreedy_207 : decode cL_isGreedy 207 = .ok (.aload_n 0, 1) := by decide +kernel
theorem dL_isGreedy_208 : decode cL_isGreedy 208 = .ok (.iconst 2, 1) := by decide +kernel
theorem dL_isGreedy_209 : decode cL_isGreedy 209 = .ok (.invokevirtual 49, 3) := by decide +kernel
theorem dL_isGreedy_212 : decode cL_isGreedy 212 = .ok (.iload 4, 2) := by decide +kernel
theorem dL_isGreedy_214 : decode cL_isGreedy 214 = .ok (.if_icmp .ne 20, 3) := by decide +kernel
theorem dL_isGreedy_217 : decode cL_isGreedy 217 = .ok (.aload_n 0, 1) := by decide +kernel
theorem dL_isGreedy_218 : decode cL_isGreedy 218 = .ok (.iload_n 3, 1) := by decide +kernel
theorem dL_isGreedy_219 : decode cL_isGreedy 219 = .ok (.invokevirtual 43, 3) := by decide +kernel
theorem dL_isGreedy_222 : decode cL_isGreedy 222 = .ok (.aload_n 0, 1) := by decide +kernel
theorem dL_isGreedy_223 : decode cL_isGreedy 223 = .ok (.iload_n 3, 1) := by decide +kernel
theorem dL_isGreedy_224 : decode cL_isGreedy 224 = .ok (.invokestatic 37, 3) := by decide +kernel
theorem dL_isGreedy_227 : decode cL_isGreedy 227 = .ok (.if_icmp .ne 7, 3) := by decide +kernel
theorem dL_isGreedy_230 : decode cL_isGreedy 230 = .ok (.iconst 1, 1) := by decide +kernel
theorem dL_isGreedy_231 : decode cL_isGreedy 231 = .ok (.goto 4, 3) := by decide +kernel
theorem dL_isGreedy_234 : decode cL_isGreedy 234 = .ok (.iconst 0, 1) := by decide +kernel
theorem dL_isGreedy_235 : decode cL_isGreedy 235 = .ok (.ireturn, 1) := by decide +kernel
theorem dL_agree_0 : decode cL_agree 0 = .ok (.aload_n 0, 1) := by decide +kernel
theorem dL_agree_1 : decode cL_agree 1 = .ok (.iconst 0, 1) := by decide +kernel
theorem dL_agree_2 : decode cL_agree 2 = .ok (.invokevirtual 8, 3) := by decide +kernel
theorem dL_agree_5 : decode cL_agree 5 = .ok (.istore_n 1, 1) := by decide +kernel
theorem dL_agree_6 : decode cL_agree 6 = .ok (.aload_n 0, 1) := by decide +kernel
theorem dL_agree_7 : decode cL_agree 7 = .ok (.iconst 2, 1) := by decide +kernel
theorem dL_agree_8 : decode cL_agree 8 = .ok (.invokestatic 24, 3) := by decide +kernel
theorem dL_agree_11 : decode cL_agree 11 = .ok (.istore_n 2, 1) := by decide +kernel
theorem dL_agree_12 : decode cL_agree 12 = .ok (.iconst 1, 1) := by decide +kernel
theorem dL_agree_13 : decode cL_agree 13 = .ok (.iload_n 1, 1) := by decide +kernel
theorem dL_agree_14 : decode cL_agree 14 = .ok (.ishl, 1) := by decide +kernel
theorem dL_agree_15 : decode cL_agree 15 = .ok (.iconst 1, 1) := by decide +kernel
theorem dL_agree_16 : decode cL_agree 16 = .ok (.isub, 1) := by decide +kernel
theorem dL_agree_17 : decode cL_agree 17 = .ok (.iload_n 2, 1) := by decide +kernel
theorem dL_agree_18 : decode cL_agree 18 = .ok (.iconst (-1), 1) := by decide +kernel
theorem dL_agree_19 : decode cL_agree 19 = .ok (.ixor, 1) := by decide +kernel
theorem dL_agree_20 : decode cL_agree 20 = .ok (.iand, 1) := by decide +kernel
theorem dL_agree_21 : decode cL_agree 21 = .ok (.istore_n 3, 1) := by decide +kernel
theorem dL_agree_22 : decode cL_agree 22 = .ok (.aload_n 0, 1) := by decide +kernel
theorem dL_agree_23 : decode cL_agree 23 = .ok (.iconst 1, 1) := by decide +kernel
theorem dL_agree_24 : decode cL_agree 24 = .ok (.invokevirtual 8, 3) := by decide +kernel
theorem dL_agree_27 : decode cL_agree 27 = .ok (.istore 4, 2) := by decide +kernel
theorem dL_agree_29 : decode cL_agree 29 = .ok (.iload 4, 2) := by decide +kernel
theorem dL_agree_31 : decode cL_agree 31 = .ok (.aload_n 0, 1) := by decide +kernel
theorem dL_agree_32 : decode cL_agree 32 = .ok (.iload_n 3, 1) := by decide +kernel
theorem dL_agree_33 : decode cL_agree 33 = .ok (.invokestatic 28, 3) := by decide +kernel
theorem dL_agree_36 : decode cL_agree 36 = .ok (.iconst (-1), 1) := by decide +kernel
theorem dL_agree_37 : decode cL_agree 37 = .ok (.ixor, 1) := by decide +kernel
theorem dL_agree_38 : decode cL_agree 38 = .ok (.iand, 1) := by decide +kernel
theorem dL_agree_39 : decode cL_agree 39 = .ok (.ifCond .ne 7, 3) := by decide +kernel
theorem dL_agree_42 : decode cL_agree 42 = .ok (.iconst 1, 1) := by decide +kernel
theorem dL_agree_43 : decode cL_agree 43 = .ok (.goto 4, 3) := by decide +kernel
theorem dL_agree_46 : decode cL_agree 46 = .ok (.iconst 0, 1) := by decide +kernel
theorem dL_agree_47 : decode cL_agree 47 = .ok (.istore 5, 2) := by decide +kernel
theorem dL_agree_49 : decode cL_agree 49 = .ok (.iconst 0, 1) := by decide +kernel
theorem dL_agree_50 : decode cL_agree 50 = .ok (.istore 6, 2) := by decide +kernel
theorem dL_agree_52 : decode cL_agree 52 = .ok (.iconst 0, 1) := by decide +kernel
theorem dL_agree_53 : decode cL_agree 53 = .ok (.istore 7, 2) := by decide +kernel
theorem dL_agree_55 : decode cL_agree 55 = .ok (.iload 7, 2) := by decide +kernel
theorem dL_agree_57 : decode cL_agree 57 = .ok (.bipush 18, 2) := by decide +kernel
theorem dL_agree_59 : decode cL_agree 59 = .ok (.if_icmp .ge 127, 3) := by decide +kernel
theorem dL_agree_62 : decode cL_agree 62 = .ok (.iconst 0, 1) := by decide +kernel
theorem dL_agree_63 : decode cL_agree 63 = .ok (.istore 8, 2) := by decide +kernel
theorem dL_agree_65 : decode cL_agree 65 = .ok (.iconst 0, 1) := by decide +kernel
theorem dL_agree_66 : decode cL_agree 66 = .ok (.istore 9, 2) := by decide +kernel
theorem dL_agree_68 : decode cL_agree 68 = .ok (.iload 9, 2) := by decide +kernel
theorem dL_agree_70 : decode cL_agree 70 = .ok (.iload_n 1, 1) := by decide +kernel
theorem dL_agree_71 : decode cL_agree 71 = .ok (.if_icmp .ge 37, 3) := by decide +kernel
theorem dL_agree_74 : decode cL_agree 74 = .ok (.iload 8, 2) := by decide +kernel
theorem dL_agree_76 : decode cL_agree 76 = .ok (.aload_n 0, 1) := by decide +kernel
theorem dL_agree_77 : decode cL_agree 77 = .ok (.iload 9, 2) := by decide +kernel
theorem dL_agree_79 : decode cL_agree 79 = .ok (.iconst 0, 1) := by decide +kernel
theorem dL_agree_80 : decode cL_agree 80 = .ok (.invokevirtual 20, 3) := by decide +kernel
theorem dL_agree_83 : decode cL_agree 83 = .ok (.iload 7, 2) := by decide +kernel
theorem dL_agree_85 : decode cL_agree 85 = .ok (.invokestatic 14, 3) := by decide +kernel
theorem dL_agree_88 : decode cL_agree 88 = .ok (.ifCond .eq 10, 3) := by decide +kernel
theorem dL_agree_91 : decode cL_agree 91 = .ok (.iconst 1, 1) := by decide +kernel
theorem dL_agree_92 : decode cL_agree 92 = .ok (.iload 9, 2) := by decide +kernel
theorem dL_agree_94 : decode cL_agree 94 = .ok (.ishl, 1) := by decide +kernel
theorem dL_agree_95 : decode cL_agree 95 = .ok (.goto 4, 3) := by decide +kernel
theorem dL_agree_98 : decode cL_agree 98 = .ok (.iconst 0, 1) := by decide +kernel
theorem dL_agree_99 : decode cL_agree 99 = .ok (.ior, 1) := by decide +kernel
theorem dL_agree_100 : decode cL_agree 100 = .ok (.istore 8, 2) := by decide +kernel
theorem dL_agree_102 : decode cL_agree 102 = .ok (.iinc 9 1, 3) := by decide +kernel
theorem dL_agree_105 : decode cL_agree 105 = .ok (.goto (-37), 3) := by decide +kernel
theorem dL_agree_108 : decode cL_agree 108 = .ok (.iload 4, 2) := by decide +kernel
theorem dL_agree_110 : decode cL_agree 110 = .ok (.iload 7, 2) := by decide +kernel
theorem dL_agree_112 : decode cL_agree 112 = .ok (.invokestatic 14, 3) := by decide +kernel
theorem dL_agree_115 : decode cL_agree 115 = .ok (.ifCond .eq 15, 3) := by decide +kernel
theorem dL_agree_118 : decode cL_agree 118 = .ok (.iload 8, 2) := by decide +kernel
theorem dL_agree_120 : decode cL_agree 120 = .ok (.iload_n 2, 1) := by decide +kernel
theorem dL_agree_121 : decode cL_agree 121 = .ok (.iconst (-1), 1) := by decide +kernel
theorem dL_agree_122 : decode cL_agree 122 = .ok (.ixor, 1) := by decide +kernel
theorem dL_agree_123 : decode cL_agree 123 = .ok (.iand, 1) := by decide +kernel
theorem dL_agree_124 : decode cL_agree 124 = .ok (.invokestatic 40, 3) := by decide +kernel
theorem dL_agree_127 : decode cL_agree 127 = .ok (.goto 4, 3) := by decide +kernel
theorem dL_agree_130 : decode cL_agree 130 = .ok (.iconst 0, 1) := by decide +kernel
theorem dL_agree_131 : decode cL_agree 131 = .ok (.istore 9, 2) := by decide +kernel
theorem dL_agree_133 : decode cL_agree 133 = .ok (.iload 9, 2) := by decide +kernel
theorem dL_agree_135 : decode cL_agree 135 = .ok (.iload 6, 2) := by decide +kernel
theorem dL_agree_137 : decode cL_agree 137 = .ok (.if_icmp .le 8, 3) := by decide +kernel
theorem dL_agree_140 : decode cL_agree 140 = .ok (.iload 9, 2) := by decide +kernel
theorem dL_agree_142 : decode cL_agree 142 = .ok (.goto 5, 3) := by decide +kernel
theorem dL_agree_145 : decode cL_agree 145 = .ok (.iload 6, 2) := by decide +kernel
theorem dL_agree_147 : decode cL_agree 147 = .ok (.istore 6, 2) := by decide +kernel
theorem dL_agree_149 : decode cL_agree 149 = .ok (.aload_n 0, 1) := by decide +kernel
theorem dL_agree_150 : decode cL_agree 150 = .ok (.iload 7, 2) := by decide +kernel
theorem dL_agree_152 : decode cL_agree 152 = .ok (.iconst 0, 1) := by decide +kernel
theorem dL_agree_153 : decode cL_agree 153 = .ok (.invokevirtual 31, 3) := by decide +kernel
theorem dL_agree_156 : decode cL_agree 156 = .ok (.iload 4, 2) := by decide +kernel
theorem dL_agree_158 : decode cL_agree 158 = .ok (.iload 7, 2) := by decide +kernel
theorem dL_agree_160 : decode cL_agree 160 = .ok (.ishr, 1) := by decide +kernel
theorem dL_agree_161 : decode cL_agree 161 = .ok (.iconst 1, 1) := by decide +kernel
theorem dL_agree_162 : decode cL_agree 162 = .ok (.iand, 1) := by decide +kernel
theorem dL_agree_163 : decode cL_agree 163 = .ok (.if_icmp .ne 15, 3) := by decide +kernel
theorem dL_agree_166 : decode cL_agree 166 = .ok (.aload_n 0, 1) := by decide +kernel
theorem dL_agree_167 : decode cL_agree 167 = .ok (.iload 7, 2) := by decide +kernel
theorem dL_agree_169 : decode cL_agree 169 = .ok (.iconst 1, 1) := by decide +kernel
theorem dL_agree_170 : decode cL_agree 170 = .ok (.invokevirtual 31, 3) := by decide +kernel
theorem dL_agree_173 : decode cL_agree 173 = .ok (.iload 8, 2) := by decide +kernel
theorem dL_agree_175 : decode cL_agree 175 = .ok (.if_icmp .eq 5, 3) := by decide +kernel
theorem dL_agree_178 : decode cL_agree 178 = .ok (.iconst 0, 1) := by decide +kernel
theorem dL_agree_179 : decode cL_agree 179 = .ok (.ireturn, 1) := by decide +kernel
theorem dL_agree_180 : decode cL_agree 180 = .ok (.iinc 7 1, 3) := by decide +kernel
theorem dL_agree_183 : decode cL_agree 183 = .ok (.goto (-128), 3) := by decide +kernel
theorem dL_agree_186 : decode cL_agree 186 = .ok (.iconst 0, 1) := by decide +kernel
theorem dL_agree_187 : decode cL_agree 187 = .ok (.istore 7, 2) := by decide +kernel
theorem dL_agree_189 : decode cL_agree 189 = .ok (.iload 7, 2) := by decide +kernel
theorem dL_agree_191 : decode cL_agree 191 = .ok (.iload_n 1, 1) := by decide +kernel
theorem dL_agree_192 : decode cL_agree 192 = .ok (.if_icmp .ge 94, 3) := by decide +kernel
theorem dL_agree_195 : decode cL_agree 195 = .ok (.iload_n 2, 1) := by decide +kernel
theorem dL_agree_196 : decode cL_agree 196 = .ok (.iload 7, 2) := by decide +kernel
theorem dL_agree_198 : decode cL_agree 198 = .ok (.invokestatic 14, 3) := by decide +kernel
theorem dL_agree_201 : decode cL_agree 201 = .ok (.ifCond .eq 7, 3) := by decide +kernel
theorem dL_agree_204 : decode cL_agree 204 = .ok (.iconst 0, 1) := by decide +kernel
theorem dL_agree_205 : decode cL_agree 205 = .ok (.goto 28, 3) := by decide +kernel
theorem dL_agree_208 : decode cL_agree 208 = .ok (.iload 4, 2) := by decide +kernel
theorem dL_agree_210 : decode cL_agree 210 = .ok (.aload_n 0, 1) := by decide +kernel
theorem dL_agree_211 : decode cL_agree 211 = .ok (.iload 7, 2) := by decide +kernel
theorem dL_agree_213 : decode cL_agree 213 = .ok (.iconst 0, 1) := by decide +kernel
theorem dL_agree_214 : decode cL_agree 214 = .ok (.invokevirtual 20, 3) := by decide +kernel
theorem dL_agree_217 : decode cL_agree 217 = .ok (.iand, 1) := by decide +kernel
theorem dL_agree_218 : decode cL_agree 218 = .ok (.aload_n 0, 1) := by decide +kernel
theorem dL_agree_219 : decode cL_agree 219 = .ok (.iload_n 3, 1) := by decide +kernel
theorem dL_agree_220 : decode cL_agree 220 = .ok (.iconst 1, 1) := by decide +kernel
theorem dL_agree_221 : decode cL_agree 221 = .ok (.iload 7, 2) := by decide +kernel
theorem dL_agree_223 : decode cL_agree 223 = .ok (.ishl, 1) := by decide +kernel
theorem dL_agree_224 : decode cL_agree 224 = .ok (.iconst (-1), 1) := by decide +kernel
theorem dL_agree_225 : decode cL_agree 225 = .ok (.ixor, 1) := by decide +kernel
theorem dL_agree_226 : decode cL_agree 226 = .ok (.iand, 1) := by decide +kernel
theorem dL_agree_227 : decode cL_agree 227 = .ok (.invokestatic 28, 3) := by decide +kernel
theorem dL_agree_230 : decode cL_agree 230 = .ok (.iconst (-1), 1) := by decide +kernel
theorem dL_agree_231 : decode cL_agree 231 = .ok (.ixor, 1) := by decide +kernel
theorem dL_agree_232 : decode cL_agree 232 = .ok (.iand, 1) := by decide +kernel
theorem dL_agree_233 : decode cL_agree 233 = .ok (.istore 8, 2) := by decide +kernel
theorem dL_agree_235 : decode cL_agree 235 = .ok (.aload_n 0, 1) := by decide +kernel
theorem dL_agree_236 : decode cL_agree 236 = .ok (.iload 7, 2) := by decide +kernel
theorem dL_agree_238 : decode cL_agree 238 = .ok (.bipush 7, 2) := by decide +kernel
theorem dL_agree_240 : decode cL_agree 240 = .ok (.invokevirtual 20, 3) := by decide +kernel
theorem dL_agree_243 : decode cL_agree 243 = .ok (.iload 8, 2) := by decide +kernel
theorem dL_agree_245 : decode cL_agree 245 = .ok (.if_icmp .ne 33, 3) := by decide +kernel
theorem dL_agree_248 : decode cL_agree 248 = .ok (.iload 5, 2) := by decide +kernel
theorem dL_agree_250 : decode cL_agree 250 = .ok (.ifCond .ne 30, 3) := by decide +kernel
theorem dL_agree_253 : decode cL_agree 253 = .ok (.aload_n 0, 1) := by decide +kernel
theorem dL_agree_254 : decode cL_agree 254 = .ok (.iload 7, 2) := by decide +kernel
theorem dL_agree_256 : decode cL_agree 256 = .ok (.iconst 3, 1) := by decide +kernel
theorem dL_agree_257 : decode cL_agree 257 = .ok (.invokevirtual 20, 3) := by decide +kernel
theorem dL_agree_260 : decode cL_agree 260 = .ok (.bipush (-5), 2) := by decide +kernel
theorem dL_agree_262 : decode cL_agree 262 = .ok (.if_icmp .ne 16, 3) := by decide +kernel
theorem dL_agree_265 : decode cL_agree 265 = .ok (.aload_n 0, 1) := by decide +kernel
theorem dL_agree_266 : decode cL_agree 266 = .ok (.iload 7, 2) := by decide +kernel
theorem dL_agree_268 : decode cL_agree 268 = .ok (.bipush 6, 2) := by decide +kernel
theorem dL_agree_270 : decode cL_agree 270 = .ok (.invokevirtual 20, 3) := by decide +kernel
theorem dL_agree_273 : decode cL_agree 273 = .ok (.bipush (-5), 2) := by decide +kernel
theorem dL_agree_275 : decode cL_agree 275 = .ok (.if_icmp .eq 5, 3) := by decide +kernel
theorem dL_agree_278 : decode cL_agree 278 = .ok (.iconst 0, 1) := by decide +kernel
theorem dL_agree_279 : decode cL_agree 279 = .ok (.ireturn, 1) := by decide +kernel
theorem dL_agree_280 : decode cL_agree 280 = .ok (.iinc 7 1, 3) := by decide +kernel
theorem dL_agree_283 : decode cL_agree 283 = .ok (.goto (-94), 3) := by decide +kernel
theorem dL_agree_286 : decode cL_agree 286 = .ok (.aload_n 0, 1) := by decide +kernel
theorem dL_agree_287 : decode cL_agree 287 = .ok (.iconst 2, 1) := by decide +kernel
theorem dL_agree_288 : decode cL_agree 288 = .ok (.invokevirtual 8, 3) := by decide +kernel
theorem dL_agree_291 : decode cL_agree 291 = .ok (.iload 5, 2) := by decide +kernel
theorem dL_agree_293 : decode cL_agree 293 = .ok (.ifCond .eq 7, 3) := by decide +kernel
theorem dL_agree_296 : decode cL_agree 296 = .ok (.iconst 1, 1) := by decide +kernel
theorem dL_agree_297 : decode cL_agree 297 = .ok (.goto 4, 3) := by decide +kernel
theorem dL_agree_300 : decode cL_agree 300 = .ok (.iconst 0, 1) := by decide +kernel
theorem dL_agree_301 : decode cL_agree 301 = .ok (.if_icmp .ne 36, 3) := by decide +kernel
theorem dL_agree_304 : decode cL_agree 304 = .ok (.aload_n 0, 1) := by decide +kernel
theorem dL_agree_305 : decode cL_agree 305 = .ok (.iconst 3, 1) := by decide +kernel
theorem dL_agree_306 : decode cL_agree 306 = .ok (.invokevirtual 8, 3) := by decide +kernel
theorem dL_agree_309 : decode cL_agree 309 = .ok (.iload 6, 2) := by decide +kernel
theorem dL_agree_311 : decode cL_agree 311 = .ok (.if_icmp .ne 26, 3) := by decide +kernel
theorem dL_agree_314 : decode cL_agree 314 = .ok (.aload_n 0, 1) := by decide +kernel
theorem dL_agree_315 : decode cL_agree 315 = .ok (.iload_n 3, 1) := by decide +kernel
theorem dL_agree_316 : decode cL_agree 316 = .ok (.invokevirtual 43, 3) := by decide +kernel
theorem dL_agree_319 : decode cL_agree 319 = .ok (.iload 5, 2) := by decide +kernel
theorem dL_agree_321 : decode cL_agree 321 = .ok (.ifCond .eq 11, 3) := by decide +kernel
theorem dL_agree_324 : decode cL_agree 324 = .ok (.aload_n 0, 1) := by decide +kernel
theorem dL_agree_325 : decode cL_agree 325 = .ok (.iload_n 3, 1) := by decide +kernel
theorem dL_agree_326 : decode cL_agree 326 = .ok (.invokestatic 37, 3) := by decide +kernel
theorem dL_agree_329 : decode cL_agree 329 = .ok (.goto 5, 3) := by decide +kernel
theorem dL_agree_332 : decode cL_agree 332 = .ok (.bipush (-6), 2) := by decide +kernel
theorem dL_agree_334 : decode cL_agree 334 = .ok (.if_icmp .eq 5, 3) := by decide +kernel
theorem dL_agree_337 : decode cL_agree 337 = .ok (.iconst 0, 1) := by decide +kernel
theorem dL_agree_338 : decode cL_agree 338 = .ok (.ireturn, 1) := by decide +kernel
theorem dL_agree_339 : decode cL_agree 339 = .ok (.iload 5, 2) := by decide +kernel
theorem dL_agree_341 : decode cL_agree 341 = .ok (.ifCond .ne 77, 3) := by decide +kernel
theorem dL_agree_344 : decode cL_agree 344 = .ok (.aload_n 0, 1) := by decide +kernel
theorem dL_agree_345 : decode cL_agree 345 = .ok (.iconst 0, 1) := by decide +kernel
theorem dL_agree_346 : decode cL_agree 346 = .ok (.invokevirtual 34, 3) := by decide +kernel
theorem dL_agree_349 : decode cL_agree 349 = .ok (.bipush (-5), 2) := by decide +kernel
theorem dL_agree_351 : decode cL_agree 351 = .ok (.if_icmp .ne 65, 3) := by decide +kernel
theorem dL_agree_354 : decode cL_agree 354 = .ok (.aload_n 0, 1) := by decide +kernel
theorem dL_agree_355 : decode cL_agree 355 = .ok (.iconst 0, 1) := by decide +kernel
theorem dL_agree_356 : decode cL_agree 356 = .ok (.invokevirtual 49, 3) := by decide +kernel
theorem dL_agree_359 : decode cL_agree 359 = .ok (.bipush (-5), 2) := by decide +kernel
theorem dL_agree_361 : decode cL_agree 361 = .ok (.if_icmp .ne 55, 3) := by decide +kernel
theorem dL_agree_364 : decode cL_agree 364 = .ok (.aload_n 0, 1) := by decide +kernel
theorem dL_agree_365 : decode cL_agree 365 = .ok (.iconst 0, 1) := by decide +kernel
theorem dL_agree_366 : decode cL_agree 366 = .ok (.invokevirtual 46, 3) := by decide +kernel
theorem dL_agree_369 : decode cL_agree 369 = .ok (.bipush (-5), 2) := by decide +kernel
theorem dL_agree_371 : decode cL_agree 371 = .ok (.if_icmp .ne 45, 3) := by decide +kernel
theorem dL_agree_374 : decode cL_agree 374 = .ok (.aload_n 0, 1) := by decide +kernel
theorem dL_agree_375 : decode cL_agree 375 = .ok (.iconst 0, 1) := by decide +kernel
theorem dL_agree_376 : decode cL_agree 376 = .ok (.iconst 2, 1) := by decide +kernel
theorem dL_agree_377 : decode cL_agree 377 = .ok (.invokevirtual 31, 3) := by decide +kernel
theorem dL_agree_380 : decode cL_agree 380 = .ok (.bipush (-5), 2) := by decide +kernel
theorem dL_agree_382 : decode cL_agree 382 = .ok (.if_icmp .ne 34, 3) := by decide +kernel
theorem dL_agree_385 : decode cL_agree 385 = .ok (.aload_n 0, 1) := by decide +kernel
theorem dL_agree_386 : decode cL_agree 386 = .ok (.sipush 7000, 3) := by decide +kernel
theorem dL_agree_389 : decode cL_agree 389 = .ok (.invokevirtual 52, 3) := by decide +kernel
theorem dL_agree_392 : decode cL_agree 392 = .ok (.ifCond .ne 24, 3) := by decide +kernel
theorem dL_agree_395 : decode cL_agree 395 = .ok (.aload_n 0, 1) := by decide +kernel
theorem dL_agree_396 : decode cL_agree 396 = .ok (.invokevirtual 55, 3) := by decide +kernel
theorem dL_agree_399 : decode cL_agree 399 = .ok (.ifCond .ne 17, 3) := by decide +kernel
theorem dL_agree_402 : decode cL_agree 402 = .ok (.aload_n 0, 1) := by decide +kernel
theorem dL_agree_403 : decode cL_agree 403 = .ok (.iconst 0, 1) := by decide +kernel
theorem dL_agree_404 : decode cL_agree 404 = .ok (.invokevirtual 59, 3) := by decide +kernel
theorem dL_agree_407 : decode cL_agree 407 = .ok (.bipush (-5), 2) := by decide +kernel
theorem dL_agree_409 : decode cL_agree 409 = .ok (.if_icmp .ne 7, 3) := by decide +kernel
theorem dL_agree_412 : decode cL_agree 412 = .ok (.iconst 1, 1) := by decide +kernel
theorem dL_agree_413 : decode cL_agree 413 = .ok (.goto 4, 3) := by decide +kernel
theorem dL_agree_416 : decode cL_agree 416 = .ok (.iconst 0, 1) := by decide +kernel
theorem dL_agree_417 : decode cL_agree 417 = .ok (.ireturn, 1) := by decide +kernel
theorem dL_agree_418 : decode cL_agree 418 = .ok (.aload_n 0, 1) := by decide +kernel
theorem dL_agree_419 : decode cL_agree 419 = .ok (.invokestatic 62, 3) := by decide +kernel
theorem dL_agree_422 : decode cL_agree 422 = .ok (.ifCond .eq 31, 3) := by decide +kernel
theorem dL_agree_425 : decode cL_agree 425 = .ok (.aload_n 0, 1) := by decide +kernel
theorem dL_agree_426 : decode cL_agree 426 = .ok (.invokestatic 66, 3) := by decide +kernel
theorem dL_agree_429 : decode cL_agree 429 = .ok (.ifCond .eq 24, 3) := by decide +kernel
theorem dL_agree_432 : decode cL_agree 432 = .ok (.aload_n 0, 1) := by decide +kernel
theorem dL_agree_433 : decode cL_agree 433 = .ok (.aload_n 0, 1) := by decide +kernel
theorem dL_agree_434 : decode cL_agree 434 = .ok (.iconst 0, 1) := by decide +kernel
theorem dL_agree_435 : decode cL_agree 435 = .ok (.invokevirtual 46, 3) := by decide +kernel
theorem dL_agree_438 : decode cL_agree 438 = .ok (.invokevirtual 43, 3) := by decide +kernel
theorem dL_agree_441 : decode cL_agree 441 = .ok (.aload_n 0, 1) := by decide +kernel
theorem dL_agree_442 : decode cL_agree 442 = .ok (.iconst 1, 1) := by decide +kernel
theorem dL_agree_443 : decode cL_agree 443 = .ok (.invokevirtual 46, 3) := by decide +kernel
theorem dL_agree_446 : decode cL_agree 446 = .ok (.if_icmp .ne 7, 3) := by decide +kernel
theorem dL_agree_449 : decode cL_agree 449 = .ok (.iconst 1, 1) := by decide +kernel
theorem dL_agree_450 : decode cL_agree 450 = .ok (.goto 4, 3) := by decide +kernel
theorem dL_agree_453 : decode cL_agree 453 = .ok (.iconst 0, 1) := by decide +kernel
theorem dL_agree_454 : decode cL_agree 454 = .ok (.ireturn, 1) := by decide +kernel
theorem dL_things_0 : decode cL_things 0 = .ok (.aload_n 0, 1) := by decide +kernel
theorem dL_things_1 : decode cL_things 1 = .ok (.iload_n 1, 1) := by decide +kernel
theorem dL_things_2 : decode cL_things 2 = .ok (.iconst 3, 1) := by decide +kernel
theorem dL_things_3 : decode cL_things 3 = .ok (.invokestatic 69, 3) := by decide +kernel
theorem dL_things_6 : decode cL_things 6 = .ok (.ifCond .ne 17, 3) := by decide +kernel
theorem dL_things_9 : decode cL_things 9 = .ok (.iconst 1, 1) := by decide +kernel
theorem dL_things_10 : decode cL_things 10 = .ok (.aload_n 0, 1) := by decide +kernel
theorem dL_things_11 : decode cL_things 11 = .ok (.iload_n 1, 1) := by decide +kernel
theorem dL_things_12 : decode cL_things 12 = .ok (.iconst 1, 1) := by decide +kernel
theorem dL_things_13 : decode cL_things 13 = .ok (.iadd, 1) := by decide +kernel
theorem dL_things_14 : decode cL_things 14 = .ok (.ldc 73, 2) := by decide +kernel
theorem dL_things_16 : decode cL_things 16 = .ok (.invokestatic 69, 3) := by decide +kernel
theorem dL_things_19 : decode cL_things 19 = .ok (.iadd, 1) := by decide +kernel
theorem dL_things_20 : decode cL_things 20 = .ok (.goto 40, 3) := by decide +kernel
theorem dL_things_23 : decode cL_things 23 = .ok (.iconst 1, 1) := by decide +kernel
theorem dL_things_24 : decode cL_things 24 = .ok (.aload_n 0, 1) := by decide +kernel
theorem dL_things_25 : decode cL_things 25 = .ok (.iload_n 1, 1) := by decide +kernel
theorem dL_things_26 : decode cL_things 26 = .ok (.iconst 1, 1) := by decide +kernel
theorem dL_things_27 : decode cL_things 27 = .ok (.iadd, 1) := by decide +kernel
theorem dL_things_28 : decode cL_things 28 = .ok (.sipush 255, 3) := by decide +kernel
theorem dL_things_31 : decode cL_things 31 = .ok (.invokestatic 69, 3) := by decide +kernel
theorem dL_things_34 : decode cL_things 34 = .ok (.iadd, 1) := by decide +kernel
theorem dL_things_35 : decode cL_things 35 = .ok (.sipush 256, 3) := by decide +kernel
theorem dL_things_38 : decode cL_things 38 = .ok (.aload_n 0, 1) := by decide +kernel
theorem dL_things_39 : decode cL_things 39 = .ok (.iload_n 1, 1) := by decide +kernel
theorem dL_things_40 : decode cL_things 40 = .ok (.iconst 2, 1) := by decide +kernel
theorem dL_things_41 : decode cL_things 41 = .ok (.iadd, 1) := by decide +kernel
theorem dL_things_42 : decode cL_things 42 = .ok (.sipush 256, 3) := by decide +kernel
theorem dL_things_45 : decode cL_things 45 = .ok (.invokestatic 69, 3) := by decide +kernel
theorem dL_things_48 : decode cL_things 48 = .ok (.iadd, 1) := by decide +kernel
theorem dL_things_49 : decode cL_things 49 = .ok (.iand, 1) := by decide +kernel
theorem dL_things_50 : decode cL_things 50 = .ok (.iconst 1, 1) := by decide +kernel
theorem dL_things_51 : decode cL_things 51 = .ok (.aload_n 0, 1) := by decide +kernel
theorem dL_things_52 : decode cL_things 52 = .ok (.iload_n 1, 1) := by decide +kernel
theorem dL_things_53 : decode cL_things 53 = .ok (.bipush 9, 2) := by decide +kernel
theorem dL_things_55 : decode cL_things 55 = .ok (.invokestatic 69, 3) := by decide +kernel
theorem dL_things_58 : decode cL_things 58 = .ok (.ishl, 1) := by decide +kernel
theorem dL_things_59 : decode cL_things 59 = .ok (.ior, 1) := by decide +kernel
theorem dL_things_60 : decode cL_things 60 = .ok (.ireturn, 1) := by decide +kernel
theorem dL_isMade_0 : decode cL_isMade 0 = .ok (.aload_n 0, 1) := by decide +kernel
theorem dL_isMade_1 : decode cL_isMade 1 = .ok (.iconst 0, 1) := by decide +kernel
theorem dL_isMade_2 : decode cL_isMade 2 = .ok (.invokevirtual 8, 3) := by decide +kernel
theorem dL_isMade_5 : decode cL_isMade 5 = .ok (.istore_n 3, 1) := by decide +kernel
theorem dL_isMade_6 : decode cL_isMade 6 = .ok (.aload_n 0, 1) := by decide +kernel
theorem dL_isMade_7 : decode cL_isMade 7 = .ok (.iload_n 1, 1) := by decide +kernel
theorem dL_isMade_8 : decode cL_isMade 8 = .ok (.iload_n 2, 1) := by decide +kernel
theorem dL_isMade_9 : decode cL_isMade 9 = .ok (.invokevirtual 74, 3) := by decide +kernel
theorem dL_isMade_12 : decode cL_isMade 12 = .ok (.istore 4, 2) := by decide +kernel
theorem dL_isMade_14 : decode cL_isMade 14 = .ok (.iload_n 3, 1) := by decide +kernel
theorem dL_isMade_15 : decode cL_isMade 15 = .ok (.bipush 14, 2) := by decide +kernel
theorem dL_isMade_17 : decode cL_isMade 17 = .ok (.if_icmp .ne 28, 3) := by decide +kernel
theorem dL_isMade_20 : decode cL_isMade 20 = .ok (.iload 4, 2) := by decide +kernel
theorem dL_isMade_22 : decode cL_isMade 22 = .ok (.bipush (-4), 2) := by decide +kernel
theorem dL_isMade_24 : decode cL_isMade 24 = .ok (.if_icmp .ne 17, 3) := by decide +kernel
theorem dL_isMade_27 : decode cL_isMade 27 = .ok (.aload_n 0, 1) := by decide +kernel
theorem dL_isMade_28 : decode cL_isMade 28 = .ok (.iconst 0, 1) := by decide +kernel
theorem dL_isMade_29 : decode cL_isMade 29 = .ok (.invokevirtual 8, 3) := by decide +kernel
theorem dL_isMade_32 : decode cL_isMade 32 = .ok (.bipush 14, 2) := by decide +kernel
theorem dL_isMade_34 : decode cL_isMade 34 = .ok (.if_icmp .ne 7, 3) := by decide +kernel
theorem dL_isMade_37 : decode cL_isMade 37 = .ok (.iconst 1, 1) := by decide +kernel
theorem dL_isMade_38 : decode cL_isMade 38 = .ok (.goto 47, 3) := by decide +kernel
theorem dL_isMade_41 : decode cL_isMade 41 = .ok (.iconst 0, 1) := by decide +kernel
theorem dL_isMade_42 : decode cL_isMade 42 = .ok (.goto 43, 3) := by decide +kernel
theorem dL_isMade_45 : decode cL_isMade 45 = .ok (.iload 4, 2) := by decide +kernel
theorem dL_isMade_47 : decode cL_isMade 47 = .ok (.iload_n 3, 1) := by decide +kernel
theorem dL_isMade_48 : decode cL_isMade 48 = .ok (.if_icmp .ne 36, 3) := by decide +kernel
theorem dL_isMade_51 : decode cL_isMade 51 = .ok (.aload_n 0, 1) := by decide +kernel
theorem dL_isMade_52 : decode cL_isMade 52 = .ok (.iload_n 3, 1) := by decide +kernel
theorem dL_isMade_53 : decode cL_isMade 53 = .ok (.iconst 0, 1) := by decide +kernel
theorem dL_isMade_54 : decode cL_isMade 54 = .ok (.invokevirtual 20, 3) := by decide +kernel
theorem dL_isMade_57 : decode cL_isMade 57 = .ok (.iload_n 1, 1) := by decide +kernel
theorem dL_isMade_58 : decode cL_isMade 58 = .ok (.if_icmp .ne 26, 3) := by decide +kernel
theorem dL_isMade_61 : decode cL_isMade 61 = .ok (.aload_n 0, 1) := by decide +kernel
theorem dL_isMade_62 : decode cL_isMade 62 = .ok (.iload_n 3, 1) := by decide +kernel
theorem dL_isMade_63 : decode cL_isMade 63 = .ok (.iconst 1, 1) := by decide +kernel
theorem dL_isMade_64 : decode cL_isMade 64 = .ok (.invokevirtual 20, 3) := by decide +kernel
theorem dL_isMade_67 : decode cL_isMade 67 = .ok (.iload_n 2, 1) := by decide +kernel
theorem dL_isMade_68 : decode cL_isMade 68 = .ok (.if_icmp .ne 16, 3) := by decide +kernel
theorem dL_isMade_71 : decode cL_isMade 71 = .ok (.aload_n 0, 1) := by decide +kernel
theorem dL_isMade_72 : decode cL_isMade 72 = .ok (.iload_n 3, 1) := by decide +kernel
theorem dL_isMade_73 : decode cL_isMade 73 = .ok (.iconst 2, 1) := by decide +kernel
theorem dL_isMade_74 : decode cL_isMade 74 = .ok (.invokevirtual 20, 3) := by decide +kernel
theorem dL_isMade_77 : decode cL_isMade 77 = .ok (.ifCond .ne 7, 3) := by decide +kernel
theorem dL_isMade_80 : decode cL_isMade 80 = .ok (.iconst 1, 1) := by decide +kernel
theorem dL_isMade_81 : decode cL_isMade 81 = .ok (.goto 4, 3) := by decide +kernel
theorem dL_isMade_84 : decode cL_isMade 84 = .ok (.iconst 0, 1) := by decide +kernel
theorem dL_isMade_85 : decode cL_isMade 85 = .ok (.ireturn, 1) := by decide +kernel
theorem dL_isTurned_0 : decode cL_isTurned 0 = .ok (.iload_n 1, 1) := by decide +kernel
theorem dL_isTurned_1 : decode cL_isTurned 1 = .ok (.aload_n 0, 1) := by decide +kernel
theorem dL_isTurned_2 : decode cL_isTurned 2 = .ok (.iconst 0, 1) := by decide +kernel
theorem dL_isTurned_3 : decode cL_isTurned 3 = .ok (.invokevirtual 8, 3) := by decide +kernel
theorem dL_isTurned_6 : decode cL_isTurned 6 = .ok (.if_icmp .lt 19, 3) := by decide +kernel
theorem dL_isTurned_9 : decode cL_isTurned 9 = .ok (.aload_n 0, 1) := by decide +kernel
theorem dL_isTurned_10 : decode cL_isTurned 10 = .ok (.iload_n 1, 1) := by decide +kernel
theorem dL_isTurned_11 : decode cL_isTurned 11 = .ok (.iload_n 2, 1) := by decide +kernel
theorem dL_isTurned_12 : decode cL_isTurned 12 = .ok (.invokevirtual 77, 3) := by decide +kernel
theorem dL_isTurned_15 : decode cL_isTurned 15 = .ok (.iconst (-1), 1) := by decide +kernel
theorem dL_isTurned_16 : decode cL_isTurned 16 = .ok (.if_icmp .ne 7, 3) := by decide +kernel
theorem dL_isTurned_19 : decode cL_isTurned 19 = .ok (.iconst 1, 1) := by decide +kernel
theorem dL_isTurned_20 : decode cL_isTurned 20 = .ok (.goto 4, 3) := by decide +kernel
theorem dL_isTurned_23 : decode cL_isTurned 23 = .ok (.iconst 0, 1) := by decide +kernel
theorem dL_isTurned_24 : decode cL_isTurned 24 = .ok (.ireturn, 1) := by decide +kernel
theorem dL_isTurned_25 : decode cL_isTurned 25 = .ok (.aload_n 0, 1) := by decide +kernel
theorem dL_isTurned_26 : decode cL_isTurned 26 = .ok (.iload_n 1, 1) := by decide +kernel
theorem dL_isTurned_27 : decode cL_isTurned 27 = .ok (.iconst 0, 1) := by decide +kernel
theorem dL_isTurned_28 : decode cL_isTurned 28 = .ok (.invokevirtual 20, 3) := by decide +kernel
theorem dL_isTurned_31 : decode cL_isTurned 31 = .ok (.istore_n 3, 1) := by decide +kernel
theorem dL_isTurned_32 : decode cL_isTurned 32 = .ok (.aload_n 0, 1) := by decide +kernel
theorem dL_isTurned_33 : decode cL_isTurned 33 = .ok (.iload_n 1, 1) := by decide +kernel
theorem dL_isTurned_34 : decode cL_isTurned 34 = .ok (.iload_n 2, 1) := by decide +kernel
theorem dL_isTurned_35 : decode cL_isTurned 35 = .ok (.invokevirtual 77, 3) := by decide +kernel
theorem dL_isTurned_38 : decode cL_isTurned 38 = .ok (.istore 4, 2) := by decide +kernel
theorem dL_isTurned_40 : decode cL_isTurned 40 = .ok (.iload_n 3, 1) := by decide +kernel
theorem dL_isTurned_41 : decode cL_isTurned 41 = .ok (.iload_n 2, 1) := by decide +kernel
theorem dL_isTurned_42 : decode cL_isTurned 42 = .ok (.if_icmp .ne 28, 3) := by decide +kernel
theorem dL_isTurned_45 : decode cL_isTurned 45 = .ok (.iload 4, 2) := by decide +kernel
theorem dL_isTurned_47 : decode cL_isTurned 47 = .ok (.bipush (-5), 2) := by decide +kernel
theorem dL_isTurned_49 : decode cL_isTurned 49 = .ok (.if_icmp .ne 17, 3) := by decide +kernel
theorem dL_isTurned_52 : decode cL_isTurned 52 = .ok (.aload_n 0, 1) := by decide +kernel
theorem dL_isTurned_53 : decode cL_isTurned 53 = .ok (.iload_n 1, 1) := by decide +kernel
theorem dL_isTurned_54 : decode cL_isTurned 54 = .ok (.iconst 0, 1) := by decide +kernel
theorem dL_isTurned_55 : decode cL_isTurned 55 = .ok (.invokevirtual 20, 3) := by decide +kernel
theorem dL_isTurned_58 : decode cL_isTurned 58 = .ok (.iload_n 3, 1) := by decide +kernel
theorem dL_isTurned_59 : decode cL_isTurned 59 = .ok (.if_icmp .ne 7, 3) := by decide +kernel
theorem dL_isTurned_62 : decode cL_isTurned 62 = .ok (.iconst 1, 1) := by decide +kernel
theorem dL_isTurned_63 : decode cL_isTurned 63 = .ok (.goto 31, 3) := by decide +kernel
theorem dL_isTurned_66 : decode cL_isTurned 66 = .ok (.iconst 0, 1) := by decide +kernel
theorem dL_isTurned_67 : decode cL_isTurned 67 = .ok (.goto 27, 3) := by decide +kernel
theorem dL_isTurned_70 : decode cL_isTurned 70 = .ok (.iload 4, 2) := by decide +kernel
theorem dL_isTurned_72 : decode cL_isTurned 72 = .ok (.iload_n 3, 1) := by decide +kernel
theorem dL_isTurned_73 : decode cL_isTurned 73 = .ok (.iload_n 2, 1) := by decide +kernel
theorem dL_isTurned_74 : decode cL_isTurned 74 = .ok (.ixor, 1) := by decide +kernel
theorem dL_isTurned_75 : decode cL_isTurned 75 = .ok (.if_icmp .ne 18, 3) := by decide +kernel
theorem dL_isTurned_78 : decode cL_isTurned 78 = .ok (.aload_n 0, 1) := by decide +kernel
theorem dL_isTurned_79 : decode cL_isTurned 79 = .ok (.iload_n 1, 1) := by decide +kernel
theorem dL_isTurned_80 : decode cL_isTurned 80 = .ok (.iconst 0, 1) := by decide +kernel
theorem dL_isTurned_81 : decode cL_isTurned 81 = .ok (.invokevirtual 20, 3) := by decide +kernel
theorem dL_isTurned_84 : decode cL_isTurned 84 = .ok (.iload 4, 2) := by decide +kernel
theorem dL_isTurned_86 : decode cL_isTurned 86 = .ok (.if_icmp .ne 7, 3) := by decide +kernel
theorem dL_isTurned_89 : decode cL_isTurned 89 = .ok (.iconst 1, 1) := by decide +kernel
theorem dL_isTurned_90 : decode cL_isTurned 90 = .ok (.goto 4, 3) := by decide +kernel
theorem dL_isTurned_93 : decode cL_isTurned 93 = .ok (.iconst 0, 1) := by decide +kernel
theorem dL_isTurned_94 : decode cL_isTurned 94 = .ok (.ireturn, 1) := by decide +kernel
theorem dL_isDropped_0 : decode cL_isDropped 0 = .ok (.aload_n 0, 1) := by decide +kernel
theorem dL_isDropped_1 : decode cL_isDropped 1 = .ok (.iconst 0, 1) := by decide +kernel
theorem dL_isDropped_2 : decode cL_isDropped 2 = .ok (.invokevirtual 8, 3) := by decide +kernel
theorem dL_isDropped_5 : decode cL_isDropped 5 = .ok (.istore_n 2, 1) := by decide +kernel
theorem dL_isDropped_6 : decode cL_isDropped 6 = .ok (.iload_n 1, 1) := by decide +kernel
theorem dL_isDropped_7 : decode cL_isDropped 7 = .ok (.iload_n 2, 1) := by decide +kernel
theorem dL_isDropped_8 : decode cL_isDropped 8 = .ok (.if_icmp .lt 18, 3) := by decide +kernel
theorem dL_isDropped_11 : decode cL_isDropped 11 = .ok (.aload_n 0, 1) := by decide +kernel
theorem dL_isDropped_12 : decode cL_isDropped 12 = .ok (.iload_n 1, 1) := by decide +kernel
theorem dL_isDropped_13 : decode cL_isDropped 13 = .ok (.invokevirtual 80, 3) := by decide +kernel
theorem dL_isDropped_16 : decode cL_isDropped 16 = .ok (.iconst (-1), 1) := by decide +kernel
theorem dL_isDropped_17 : decode cL_isDropped 17 = .ok (.if_icmp .ne 7, 3) := by decide +kernel
theorem dL_isDropped_20 : decode cL_isDropped 20 = .ok (.iconst 1, 1) := by decide +kernel
theorem dL_isDropped_21 : decode cL_isDropped 21 = .ok (.goto 4, 3) := by decide +kernel
theorem dL_isDropped_24 : decode cL_isDropped 24 = .ok (.iconst 0, 1) := by decide +kernel
theorem dL_isDropped_25 : decode cL_isDropped 25 = .ok (.ireturn, 1) := by decide +kernel
theorem dL_isDropped_26 : decode cL_isDropped 26 = .ok (.iload_n 1, 1) := by decide +kernel
theorem dL_isDropped_27 : decode cL_isDropped 27 = .ok (.iconst 1, 1) := by decide +kernel
theorem dL_isDropped_28 : decode cL_isDropped 28 = .ok (.iadd, 1) := by decide +kernel
theorem dL_isDropped_29 : decode cL_isDropped 29 = .ok (.iload_n 2, 1) := by decide +kernel
theorem dL_isDropped_30 : decode cL_isDropped 30 = .ok (.if_icmp .ge 14, 3) := by decide +kernel
theorem dL_isDropped_33 : decode cL_isDropped 33 = .ok (.aload_n 0, 1) := by decide +kernel
theorem dL_isDropped_34 : decode cL_isDropped 34 = .ok (.iload_n 1, 1) := by decide +kernel
theorem dL_isDropped_35 : decode cL_isDropped 35 = .ok (.iconst 1, 1) := by decide +kernel
theorem dL_isDropped_36 : decode cL_isDropped 36 = .ok (.iadd, 1) := by decide +kernel
theorem dL_isDropped_37 : decode cL_isDropped 37 = .ok (.iconst 0, 1) := by decide +kernel
theorem dL_isDropped_38 : decode cL_isDropped 38 = .ok (.invokevirtual 20, 3) := by decide +kernel
theorem dL_isDropped_41 : decode cL_isDropped 41 = .ok (.goto 4, 3) := by decide +kernel
theorem dL_isDropped_44 : decode cL_isDropped 44 = .ok (.iconst 0, 1) := by decide +kernel
theorem dL_isDropped_45 : decode cL_isDropped 45 = .ok (.istore_n 3, 1) := by decide +kernel
theorem dL_isDropped_46 : decode cL_isDropped 46 = .ok (.iload_n 1, 1) := by decide +kernel
theorem dL_isDropped_47 : decode cL_isDropped 47 = .ok (.iconst 1, 1) := by decide +kernel
theorem dL_isDropped_48 : decode cL_isDropped 48 = .ok (.iadd, 1) := by decide +kernel
theorem dL_isDropped_49 : decode cL_isDropped 49 = .ok (.iload_n 2, 1) := by decide +kernel
theorem dL_isDropped_50 : decode cL_isDropped 50 = .ok (.if_icmp .ge 14, 3) := by decide +kernel
theorem dL_isDropped_53 : decode cL_isDropped 53 = .ok (.aload_n 0, 1) := by decide +kernel
theorem dL_isDropped_54 : decode cL_isDropped 54 = .ok (.iload_n 1, 1) := by decide +kernel
theorem dL_isDropped_55 : decode cL_isDropped 55 = .ok (.iconst 1, 1) := by decide +kernel
theorem dL_isDropped_56 : decode cL_isDropped 56 = .ok (.iadd, 1) := by decide +kernel
theorem dL_isDropped_57 : decode cL_isDropped 57 = .ok (.iconst 1, 1) := by decide +kernel
theorem dL_isDropped_58 : decode cL_isDropped 58 = .ok (.invokevirtual 20, 3) := by decide +kernel
theorem dL_isDropped_61 : decode cL_isDropped 61 = .ok (.goto 4, 3) := by decide +kernel
theorem dL_isDropped_64 : decode cL_isDropped 64 = .ok (.iconst 0, 1) := by decide +kernel
theorem dL_isDropped_65 : decode cL_isDropped 65 = .ok (.istore 4, 2) := by decide +kernel
theorem dL_isDropped_67 : decode cL_isDropped 67 = .ok (.aload_n 0, 1) := by decide +kernel
theorem dL_isDropped_68 : decode cL_isDropped 68 = .ok (.iload_n 1, 1) := by decide +kernel
theorem dL_isDropped_69 : decode cL_isDropped 69 = .ok (.invokevirtual 80, 3) := by decide +kernel
theorem dL_isDropped_72 : decode cL_isDropped 72 = .ok (.iload_n 2, 1) := by decide +kernel
theorem dL_isDropped_73 : decode cL_isDropped 73 = .ok (.iconst 1, 1) := by decide +kernel
theorem dL_isDropped_74 : decode cL_isDropped 74 = .ok (.isub, 1) := by decide +kernel
theorem dL_isDropped_75 : decode cL_isDropped 75 = .ok (.if_icmp .ne 46, 3) := by decide +kernel
theorem dL_isDropped_78 : decode cL_isDropped 78 = .ok (.aload_n 0, 1) := by decide +kernel
theorem dL_isDropped_79 : decode cL_isDropped 79 = .ok (.iconst 0, 1) := by decide +kernel
theorem dL_isDropped_80 : decode cL_isDropped 80 = .ok (.invokevirtual 8, 3) := by decide +kernel
theorem dL_isDropped_83 : decode cL_isDropped 83 = .ok (.iload_n 2, 1) := by decide +kernel
theorem dL_isDropped_84 : decode cL_isDropped 84 = .ok (.iconst 1, 1) := by decide +kernel
theorem dL_isDropped_85 : decode cL_isDropped 85 = .ok (.isub, 1) := by decide +kernel
theorem dL_isDropped_86 : decode cL_isDropped 86 = .ok (.if_icmp .ne 35, 3) := by decide +kernel
theorem dL_isDropped_89 : decode cL_isDropped 89 = .ok (.iload_n 1, 1) := by decide +kernel
theorem dL_isDropped_90 : decode cL_isDropped 90 = .ok (.iconst 1, 1) := by decide +kernel
theorem dL_isDropped_91 : decode cL_isDropped 91 = .ok (.iadd, 1) := by decide +kernel
theorem dL_isDropped_92 : decode cL_isDropped 92 = .ok (.iload_n 2, 1) := by decide +kernel
theorem dL_isDropped_93 : decode cL_isDropped 93 = .ok (.if_icmp .eq 24, 3) := by decide +kernel
theorem dL_isDropped_96 : decode cL_isDropped 96 = .ok (.aload_n 0, 1) := by decide +kernel
theorem dL_isDropped_97 : decode cL_isDropped 97 = .ok (.iload_n 1, 1) := by decide +kernel
theorem dL_isDropped_98 : decode cL_isDropped 98 = .ok (.iconst 0, 1) := by decide +kernel
theorem dL_isDropped_99 : decode cL_isDropped 99 = .ok (.invokevirtual 20, 3) := by decide +kernel
theorem dL_isDropped_102 : decode cL_isDropped 102 = .ok (.iload_n 3, 1) := by decide +kernel
theorem dL_isDropped_103 : decode cL_isDropped 103 = .ok (.if_icmp .ne 18, 3) := by decide +kernel
theorem dL_isDropped_106 : decode cL_isDropped 106 = .ok (.aload_n 0, 1) := by decide +kernel
theorem dL_isDropped_107 : decode cL_isDropped 107 = .ok (.iload_n 1, 1) := by decide +kernel
theorem dL_isDropped_108 : decode cL_isDropped 108 = .ok (.iconst 1, 1) := by decide +kernel
theorem dL_isDropped_109 : decode cL_isDropped 109 = .ok (.invokevirtual 20, 3) := by decide +kernel
theorem dL_isDropped_112 : decode cL_isDropped 112 = .ok (.iload 4, 2) := by decide +kernel
theorem dL_isDropped_114 : decode cL_isDropped 114 = .ok (.if_icmp .ne 7, 3) := by decide +kernel
theorem dL_isDropped_117 : decode cL_isDropped 117 = .ok (.iconst 1, 1) := by decide +kernel
theorem dL_isDropped_118 : decode cL_isDropped 118 = .ok (.goto 4, 3) := by decide +kernel
theorem dL_isDropped_121 : decode cL_isDropped 121 = .ok (.iconst 0, 1) := by decide +kernel
theorem dL_isDropped_122 : decode cL_isDropped 122 = .ok (.ireturn, 1) := by decide +kernel
theorem dL_isAct_0 : decode cL_isAct 0 = .ok (.aload_n 0, 1) := by decide +kernel
theorem dL_isAct_1 : decode cL_isAct 1 = .ok (.iconst 0, 1) := by decide +kernel
theorem dL_isAct_2 : decode cL_isAct 2 = .ok (.invokevirtual 8, 3) := by decide +kernel
theorem dL_isAct_5 : decode cL_isAct 5 = .ok (.istore_n 3, 1) := by decide +kernel
theorem dL_isAct_6 : decode cL_isAct 6 = .ok (.aload_n 1, 1) := by decide +kernel
theorem dL_isAct_7 : decode cL_isAct 7 = .ok (.iload_n 2, 1) := by decide +kernel
theorem dL_isAct_8 : decode cL_isAct 8 = .ok (.iconst 1, 1) := by decide +kernel
theorem dL_isAct_9 : decode cL_isAct 9 = .ok (.iadd, 1) := by decide +kernel
theorem dL_isAct_10 : decode cL_isAct 10 = .ok (.iload_n 3, 1) := by decide +kernel
theorem dL_isAct_11 : decode cL_isAct 11 = .ok (.iconst 1, 1) := by decide +kernel
theorem dL_isAct_12 : decode cL_isAct 12 = .ok (.iadd, 1) := by decide +kernel
theorem dL_isAct_13 : decode cL_isAct 13 = .ok (.invokestatic 69, 3) := by decide +kernel
theorem dL_isAct_16 : decode cL_isAct 16 = .ok (.istore 4, 2) := by decide +kernel
theorem dL_isAct_18 : decode cL_isAct 18 = .ok (.aload_n 1, 1) := by decide +kernel
theorem dL_isAct_19 : decode cL_isAct 19 = .ok (.iload_n 2, 1) := by decide +kernel
theorem dL_isAct_20 : decode cL_isAct 20 = .ok (.bipush 10, 2) := by decide +kernel
theorem dL_isAct_22 : decode cL_isAct 22 = .ok (.invokestatic 69, 3) := by decide +kernel
theorem dL_isAct_25 : decode cL_isAct 25 = .ok (.tableswitch 313 0 8 #[51, 51, 105, 105, 167, 167, 225, 299, 299], 51) := by decide +kernel
theorem dL_isAct_76 : decode cL_isAct 76 = .ok (.iload_n 3, 1) := by decide +kernel
theorem dL_isAct_77 : decode cL_isAct 77 = .ok (.bipush 8, 2) := by decide +kernel
theorem dL_isAct_79 : decode cL_isAct 79 = .ok (.if_icmp .gt 45, 3) := by decide +kernel
theorem dL_isAct_82 : decode cL_isAct 82 = .ok (.aload_n 0, 1) := by decide +kernel
theorem dL_isAct_83 : decode cL_isAct 83 = .ok (.aload_n 1, 1) := by decide +kernel
theorem dL_isAct_84 : decode cL_isAct 84 = .ok (.iload_n 2, 1) := by decide +kernel
theorem dL_isAct_85 : decode cL_isAct 85 = .ok (.iconst 1, 1) := by decide +kernel
theorem dL_isAct_86 : decode cL_isAct 86 = .ok (.iadd, 1) := by decide +kernel
theorem dL_isAct_87 : decode cL_isAct 87 = .ok (.invokestatic 83, 3) := by decide +kernel
theorem dL_isAct_90 : decode cL_isAct 90 = .ok (.iconst 1, 1) := by decide +kernel
theorem dL_isAct_91 : decode cL_isAct 91 = .ok (.aload_n 1, 1) := by decide +kernel
theorem dL_isAct_92 : decode cL_isAct 92 = .ok (.iload_n 2, 1) := by decide +kernel
theorem dL_isAct_93 : decode cL_isAct 93 = .ok (.iconst 4, 1) := by decide +kernel
theorem dL_isAct_94 : decode cL_isAct 94 = .ok (.iadd, 1) := by decide +kernel
theorem dL_isAct_95 : decode cL_isAct 95 = .ok (.aload_n 1, 1) := by decide +kernel
theorem dL_isAct_96 : decode cL_isAct 96 = .ok (.iload_n 2, 1) := by decide +kernel
theorem dL_isAct_97 : decode cL_isAct 97 = .ok (.iconst 5, 1) := by decide +kernel
theorem dL_isAct_98 : decode cL_isAct 98 = .ok (.iadd, 1) := by decide +kernel
theorem dL_isAct_99 : decode cL_isAct 99 = .ok (.iconst 4, 1) := by decide +kernel
theorem dL_isAct_100 : decode cL_isAct 100 = .ok (.invokestatic 69, 3) := by decide +kernel
theorem dL_isAct_103 : decode cL_isAct 103 = .ok (.ifCond .ne 9, 3) := by decide +kernel
theorem dL_isAct_106 : decode cL_isAct 106 = .ok (.sipush 500, 3) := by decide +kernel
theorem dL_isAct_109 : decode cL_isAct 109 = .ok (.goto 5, 3) := by decide +kernel
theorem dL_isAct_112 : decode cL_isAct 112 = .ok (.bipush 30, 2) := by decide +kernel
theorem dL_isAct_114 : decode cL_isAct 114 = .ok (.invokestatic 69, 3) := by decide +kernel
theorem dL_isAct_117 : decode cL_isAct 117 = .ok (.iadd, 1) := by decide +kernel
theorem dL_isAct_118 : decode cL_isAct 118 = .ok (.invokestatic 87, 3) := by decide +kernel
theorem dL_isAct_121 : decode cL_isAct 121 = .ok (.ifCond .eq 7, 3) := by decide +kernel
theorem dL_isAct_124 : decode cL_isAct 124 = .ok (.iconst 1, 1) := by decide +kernel
theorem dL_isAct_125 : decode cL_isAct 125 = .ok (.goto 4, 3) := by decide +kernel
theorem dL_isAct_128 : decode cL_isAct 128 = .ok (.iconst 0, 1) := by decide +kernel
theorem dL_isAct_129 : decode cL_isAct 129 = .ok (.ireturn, 1) := by decide +kernel
theorem dL_isAct_130 : decode cL_isAct 130 = .ok (.aload_n 0, 1) := by decide +kernel
theorem dL_isAct_131 : decode cL_isAct 131 = .ok (.iconst 1, 1) := by decide +kernel
theorem dL_isAct_132 : decode cL_isAct 132 = .ok (.invokevirtual 8, 3) := by decide +kernel
theorem dL_isAct_135 : decode cL_isAct 135 = .ok (.istore 5, 2) := by decide +kernel
theorem dL_isAct_137 : decode cL_isAct 137 = .ok (.aload_n 1, 1) := by decide +kernel
theorem dL_isAct_138 : decode cL_isAct 138 = .ok (.iload_n 2, 1) := by decide +kernel
theorem dL_isAct_139 : decode cL_isAct 139 = .ok (.iconst 2, 1) := by decide +kernel
theorem dL_isAct_140 : decode cL_isAct 140 = .ok (.iadd, 1) := by decide +kernel
theorem dL_isAct_141 : decode cL_isAct 141 = .ok (.aload_n 1, 1) := by decide +kernel
theorem dL_isAct_142 : decode cL_isAct 142 = .ok (.iload_n 2, 1) := by decide +kernel
theorem dL_isAct_143 : decode cL_isAct 143 = .ok (.iconst 3, 1) := by decide +kernel
theorem dL_isAct_144 : decode cL_isAct 144 = .ok (.iadd, 1) := by decide +kernel
theorem dL_isAct_145 : decode cL_isAct 145 = .ok (.iconst 5, 1) := by decide +kernel
theorem dL_isAct_146 : decode cL_isAct 146 = .ok (.invokestatic 69, 3) := by decide +kernel
theorem dL_isAct_149 : decode cL_isAct 149 = .ok (.ifCond .ne 8, 3) := by decide +kernel
theorem dL_isAct_152 : decode cL_isAct 152 = .ok (.ldc 91, 2) := by decide +kernel
theorem dL_isAct_154 : decode cL_isAct 154 = .ok (.goto 6, 3) := by decide +kernel
theorem dL_isAct_157 : decode cL_isAct 157 = .ok (.sipush 512, 3) := by decide +kernel
theorem dL_isAct_160 : decode cL_isAct 160 = .ok (.invokestatic 69, 3) := by decide +kernel
theorem dL_isAct_163 : decode cL_isAct 163 = .ok (.istore 6, 2) := by decide +kernel
theorem dL_isAct_165 : decode cL_isAct 165 = .ok (.aload_n 0, 1) := by decide +kernel
theorem dL_isAct_166 : decode cL_isAct 166 = .ok (.iload 6, 2) := by decide +kernel
theorem dL_isAct_168 : decode cL_isAct 168 = .ok (.invokevirtual 92, 3) := by decide +kernel
theorem dL_isAct_171 : decode cL_isAct 171 = .ok (.iload 5, 2) := by decide +kernel
theorem dL_isAct_173 : decode cL_isAct 173 = .ok (.if_icmp .ne 17, 3) := by decide +kernel
theorem dL_isAct_176 : decode cL_isAct 176 = .ok (.aload_n 0, 1) := by decide +kernel
theorem dL_isAct_177 : decode cL_isAct 177 = .ok (.iconst 1, 1) := by decide +kernel
theorem dL_isAct_178 : decode cL_isAct 178 = .ok (.invokevirtual 8, 3) := by decide +kernel
theorem dL_isAct_181 : decode cL_isAct 181 = .ok (.iload 6, 2) := by decide +kernel
theorem dL_isAct_183 : decode cL_isAct 183 = .ok (.if_icmp .ne 7, 3) := by decide +kernel
theorem dL_isAct_186 : decode cL_isAct 186 = .ok (.iconst 1, 1) := by decide +kernel
theorem dL_isAct_187 : decode cL_isAct 187 = .ok (.goto 4, 3) := by decide +kernel
theorem dL_isAct_190 : decode cL_isAct 190 = .ok (.iconst 0, 1) := by decide +kernel
theorem dL_isAct_191 : decode cL_isAct 191 = .ok (.ireturn, 1) := by decide +kernel
theorem dL_isAct_192 : decode cL_isAct 192 = .ok (.aload_n 1, 1) := by decide +kernel
theorem dL_isAct_193 : decode cL_isAct 193 = .ok (.iload_n 2, 1) := by decide +kernel
theorem dL_isAct_194 : decode cL_isAct 194 = .ok (.iconst 2, 1) := by decide +kernel
theorem dL_isAct_195 : decode cL_isAct 195 = .ok (.iadd, 1) := by decide +kernel
theorem dL_isAct_196 : decode cL_isAct 196 = .ok (.iconst 5, 1) := by decide +kernel
theorem dL_isAct_197 : decode cL_isAct 197 = .ok (.invokestatic 69, 3) := by decide +kernel
theorem dL_isAct_200 : decode cL_isAct 200 = .ok (.istore 7, 2) := by decide +kernel
theorem dL_isAct_202 : decode cL_isAct 202 = .ok (.iload 4, 2) := by decide +kernel
theorem dL_isAct_204 : decode cL_isAct 204 = .ok (.iload_n 3, 1) := by decide +kernel
theorem dL_isAct_205 : decode cL_isAct 205 = .ok (.if_icmp .ge 13, 3) := by decide +kernel
theorem dL_isAct_208 : decode cL_isAct 208 = .ok (.aload_n 0, 1) := by decide +kernel
theorem dL_isAct_209 : decode cL_isAct 209 = .ok (.iload 4, 2) := by decide +kernel
theorem dL_isAct_211 : decode cL_isAct 211 = .ok (.iconst 2, 1) := by decide +kernel
theorem dL_isAct_212 : decode cL_isAct 212 = .ok (.invokevirtual 20, 3) := by decide +kernel
theorem dL_isAct_215 : decode cL_isAct 215 = .ok (.goto 4, 3) := by decide +kernel
theorem dL_isAct_218 : decode cL_isAct 218 = .ok (.iconst (-1), 1) := by decide +kernel
theorem dL_isAct_219 : decode cL_isAct 219 = .ok (.istore 8, 2) := by decide +kernel
theorem dL_isAct_221 : decode cL_isAct 221 = .ok (.aload_n 0, 1) := by decide +kernel
theorem dL_isAct_222 : decode cL_isAct 222 = .ok (.iload 4, 2) := by decide +kernel
theorem dL_isAct_224 : decode cL_isAct 224 = .ok (.iload 7, 2) := by decide +kernel
theorem dL_isAct_226 : decode cL_isAct 226 = .ok (.iconst 3, 1) := by decide +kernel
theorem dL_isAct_227 : decode cL_isAct 227 = .ok (.if_icmp .ge 8, 3) := by decide +kernel
theorem dL_isAct_230 : decode cL_isAct 230 = .ok (.iload 7, 2) := by decide +kernel
theorem dL_isAct_232 : decode cL_isAct 232 = .ok (.goto 4, 3) := by decide +kernel
theorem dL_isAct_235 : decode cL_isAct 235 = .ok (.iconst 0, 1) := by decide +kernel
theorem dL_isAct_236 : decode cL_isAct 236 = .ok (.invokevirtual 95, 3) := by decide +kernel
theorem dL_isAct_239 : decode cL_isAct 239 = .ok (.iload 8, 2) := by decide +kernel
theorem dL_isAct_241 : decode cL_isAct 241 = .ok (.if_icmp .ne 7, 3) := by decide +kernel
theorem dL_isAct_244 : decode cL_isAct 244 = .ok (.iconst 1, 1) := by decide +kernel
theorem dL_isAct_245 : decode cL_isAct 245 = .ok (.goto 4, 3) := by decide +kernel
theorem dL_isAct_248 : decode cL_isAct 248 = .ok (.iconst 0, 1) := by decide +kernel
theorem dL_isAct_249 : decode cL_isAct 249 = .ok (.ireturn, 1) := by decide +kernel
theorem dL_isAct_250 : decode cL_isAct 250 = .ok (.iload 4, 2) := by decide +kernel
theorem dL_isAct_252 : decode cL_isAct 252 = .ok (.iload_n 3, 1) := by decide +kernel
theorem dL_isAct_253 : decode cL_isAct 253 = .ok (.if_icmp .ge 13, 3) := by decide +kernel
theorem dL_isAct_256 : decode cL_isAct 256 = .ok (.aload_n 0, 1) := by decide +kernel
theorem dL_isAct_257 : decode cL_isAct 257 = .ok (.iload 4, 2) := by decide +kernel
theorem dL_isAct_259 : decode cL_isAct 259 = .ok (.iconst 1, 1) := by decide +kernel
theorem dL_isAct_260 : decode cL_isAct 260 = .ok (.invokevirtual 20, 3) := by decide +kernel
theorem dL_isAct_263 : decode cL_isAct 263 = .ok (.goto 4, 3) := by decide +kernel
theorem dL_isAct_266 : decode cL_isAct 266 = .ok (.iconst (-1), 1) := by decide +kernel
theorem dL_isAct_267 : decode cL_isAct 267 = .ok (.istore 9, 2) := by decide +kernel
theorem dL_isAct_269 : decode cL_isAct 269 = .ok (.aload_n 0, 1) := by decide +kernel
theorem dL_isAct_270 : decode cL_isAct 270 = .ok (.iload 4, 2) := by decide +kernel
theorem dL_isAct_272 : decode cL_isAct 272 = .ok (.iconst 1, 1) := by decide +kernel
theorem dL_isAct_273 : decode cL_isAct 273 = .ok (.aload_n 1, 1) := by decide +kernel
theorem dL_isAct_274 : decode cL_isAct 274 = .ok (.iload_n 2, 1) := by decide +kernel
theorem dL_isAct_275 : decode cL_isAct 275 = .ok (.iconst 2, 1) := by decide +kernel
theorem dL_isAct_276 : decode cL_isAct 276 = .ok (.iadd, 1) := by decide +kernel
theorem dL_isAct_277 : decode cL_isAct 277 = .ok (.bipush 40, 2) := by decide +kernel
theorem dL_isAct_279 : decode cL_isAct 279 = .ok (.invokestatic 69, 3) := by decide +kernel
theorem dL_isAct_282 : decode cL_isAct 282 = .ok (.iadd, 1) := by decide +kernel
theorem dL_isAct_283 : decode cL_isAct 283 = .ok (.invokevirtual 98, 3) := by decide +kernel
theorem dL_isAct_286 : decode cL_isAct 286 = .ok (.iload 9, 2) := by decide +kernel
theorem dL_isAct_288 : decode cL_isAct 288 = .ok (.if_icmp .ne 34, 3) := by decide +kernel
theorem dL_isAct_291 : decode cL_isAct 291 = .ok (.iload 4, 2) := by decide +kernel
theorem dL_isAct_293 : decode cL_isAct 293 = .ok (.iload_n 3, 1) := by decide +kernel
theorem dL_isAct_294 : decode cL_isAct 294 = .ok (.if_icmp .eq 24, 3) := by decide +kernel
theorem dL_isAct_297 : decode cL_isAct 297 = .ok (.aload_n 0, 1) := by decide +kernel
theorem dL_isAct_298 : decode cL_isAct 298 = .ok (.iload 4, 2) := by decide +kernel
theorem dL_isAct_300 : decode cL_isAct 300 = .ok (.iconst 1, 1) := by decide +kernel
theorem dL_isAct_301 : decode cL_isAct 301 = .ok (.invokevirtual 20, 3) := by decide +kernel
theorem dL_isAct_304 : decode cL_isAct 304 = .ok (.iconst 1, 1) := by decide +kernel
theorem dL_isAct_305 : decode cL_isAct 305 = .ok (.aload_n 1, 1) := by decide +kernel
theorem dL_isAct_306 : decode cL_isAct 306 = .ok (.iload_n 2, 1) := by decide +kernel
theorem dL_isAct_307 : decode cL_isAct 307 = .ok (.iconst 2, 1) := by decide +kernel
theorem dL_isAct_308 : decode cL_isAct 308 = .ok (.iadd, 1) := by decide +kernel
theorem dL_isAct_309 : decode cL_isAct 309 = .ok (.bipush 40, 2) := by decide +kernel
theorem dL_isAct_311 : decode cL_isAct 311 = .ok (.invokestatic 69, 3) := by decide +kernel
theorem dL_isAct_314 : decode cL_isAct 314 = .ok (.iadd, 1) := by decide +kernel
theorem dL_isAct_315 : decode cL_isAct 315 = .ok (.if_icmp .ne 7, 3) := by decide +kernel
theorem dL_isAct_318 : decode cL_isAct 318 = .ok (.iconst 1, 1) := by decide +kernel
theorem dL_isAct_319 : decode cL_isAct 319 = .ok (.goto 4, 3) := by decide +kernel
theorem dL_isAct_322 : decode cL_isAct 322 = .ok (.iconst 0, 1) := by decide +kernel
theorem dL_isAct_323 : decode cL_isAct 323 = .ok (.ireturn, 1) := by decide +kernel
theorem dL_isAct_324 : decode cL_isAct 324 = .ok (.aload_n 0, 1) := by decide +kernel
theorem dL_isAct_325 : decode cL_isAct 325 = .ok (.iload 4, 2) := by decide +kernel
theorem dL_isAct_327 : decode cL_isAct 327 = .ok (.aload_n 1, 1) := by decide +kernel
theorem dL_isAct_328 : decode cL_isAct 328 = .ok (.iload_n 2, 1) := by decide +kernel
theorem dL_isAct_329 : decode cL_isAct 329 = .ok (.iconst 2, 1) := by decide +kernel
theorem dL_isAct_330 : decode cL_isAct 330 = .ok (.iadd, 1) := by decide +kernel
theorem dL_isAct_331 : decode cL_isAct 331 = .ok (.invokestatic 83, 3) := by decide +kernel
theorem dL_isAct_334 : decode cL_isAct 334 = .ok (.invokestatic 101, 3) := by decide +kernel
theorem dL_isAct_337 : decode cL_isAct 337 = .ok (.ireturn, 1) := by decide +kernel
theorem dL_isAct_338 : decode cL_isAct 338 = .ok (.iload_n 3, 1) := by decide +kernel
theorem dL_isAct_339 : decode cL_isAct 339 = .ok (.iconst 3, 1) := by decide +kernel
theorem dL_isAct_340 : decode cL_isAct 340 = .ok (.if_icmp .lt 12, 3) := by decide +kernel
theorem dL_isAct_343 : decode cL_isAct 343 = .ok (.aload_n 0, 1) := by decide +kernel
theorem dL_isAct_344 : decode cL_isAct 344 = .ok (.iload 4, 2) := by decide +kernel
theorem dL_isAct_346 : decode cL_isAct 346 = .ok (.invokestatic 104, 3) := by decide +kernel
theorem dL_isAct_349 : decode cL_isAct 349 = .ok (.ifCond .eq 7, 3) := by decide +kernel
theorem dL_isAct_352 : decode cL_isAct 352 = .ok (.iconst 1, 1) := by decide +kernel
theorem dL_isAct_353 : decode cL_isAct 353 = .ok (.goto 4, 3) := by decide +kernel
theorem dL_isAct_356 : decode cL_isAct 356 = .ok (.iconst 0, 1) := by decide +kernel
theorem dL_isAct_357 : decode cL_isAct 357 = .ok (.ireturn, 1) := by decide +kernel
theorem dL_law_0 : decode cL_law 0 = .ok (.new 9, 3) := by decide +kernel
theorem dL_law_3 : decode cL_law 3 = .ok (.dup, 1) := by decide +kernel
theorem dL_law_4 : decode cL_law 4 = .ok (.invokespecial 108, 3) := by decide +kernel
theorem dL_law_7 : decode cL_law 7 = .ok (.astore_n 1, 1) := by decide +kernel
theorem dL_law_8 : decode cL_law 8 = .ok (.iconst 0, 1) := by decide +kernel
theorem dL_law_9 : decode cL_law 9 = .ok (.istore_n 2, 1) := by decide +kernel
theorem dL_law_10 : decode cL_law 10 = .ok (.iload_n 2, 1) := by decide +kernel
theorem dL_law_11 : decode cL_law 11 = .ok (.bipush 6, 2) := by decide +kernel
theorem dL_law_13 : decode cL_law 13 = .ok (.if_icmp .ge 37, 3) := by decide +kernel
theorem dL_law_16 : decode cL_law 16 = .ok (.aload_n 1, 1) := by decide +kernel
theorem dL_law_17 : decode cL_law 17 = .ok (.aload_n 0, 1) := by decide +kernel
theorem dL_law_18 : decode cL_law 18 = .ok (.iconst 3, 1) := by decide +kernel
theorem dL_law_19 : decode cL_law 19 = .ok (.iload_n 2, 1) := by decide +kernel
theorem dL_law_20 : decode cL_law 20 = .ok (.imul, 1) := by decide +kernel
theorem dL_law_21 : decode cL_law 21 = .ok (.invokestatic 83, 3) := by decide +kernel
theorem dL_law_24 : decode cL_law 24 = .ok (.iconst 1, 1) := by decide +kernel
theorem dL_law_25 : decode cL_law 25 = .ok (.aload_n 0, 1) := by decide +kernel
theorem dL_law_26 : decode cL_law 26 = .ok (.bipush 18, 2) := by decide +kernel
theorem dL_law_28 : decode cL_law 28 = .ok (.iload_n 2, 1) := by decide +kernel
theorem dL_law_29 : decode cL_law 29 = .ok (.iadd, 1) := by decide +kernel
theorem dL_law_30 : decode cL_law 30 = .ok (.bipush 25, 2) := by decide +kernel
theorem dL_law_32 : decode cL_law 32 = .ok (.invokestatic 69, 3) := by decide +kernel
theorem dL_law_35 : decode cL_law 35 = .ok (.iadd, 1) := by decide +kernel
theorem dL_law_36 : decode cL_law 36 = .ok (.invokestatic 87, 3) := by decide +kernel
theorem dL_law_39 : decode cL_law 39 = .ok (.ifCond .ne 5, 3) := by decide +kernel
theorem dL_law_42 : decode cL_law 42 = .ok (.iconst 0, 1) := by decide +kernel
theorem dL_law_43 : decode cL_law 43 = .ok (.ireturn, 1) := by decide +kernel
theorem dL_law_44 : decode cL_law 44 = .ok (.iinc 2 1, 3) := by decide +kernel
theorem dL_law_47 : decode cL_law 47 = .ok (.goto (-37), 3) := by decide +kernel
theorem dL_law_50 : decode cL_law 50 = .ok (.aload_n 1, 1) := by decide +kernel
theorem dL_law_51 : decode cL_law 51 = .ok (.aload_n 0, 1) := by decide +kernel
theorem dL_law_52 : decode cL_law 52 = .ok (.bipush 24, 2) := by decide +kernel
theorem dL_law_54 : decode cL_law 54 = .ok (.sipush 512, 3) := by decide +kernel
theorem dL_law_57 : decode cL_law 57 = .ok (.invokestatic 69, 3) := by decide +kernel
theorem dL_law_60 : decode cL_law 60 = .ok (.invokevirtual 92, 3) := by decide +kernel
theorem dL_law_63 : decode cL_law 63 = .ok (.pop, 1) := by decide +kernel
theorem dL_law_64 : decode cL_law 64 = .ok (.iconst 0, 1) := by decide +kernel
theorem dL_law_65 : decode cL_law 65 = .ok (.istore_n 2, 1) := by decide +kernel
theorem dL_law_66 : decode cL_law 66 = .ok (.iload_n 2, 1) := by decide +kernel
theorem dL_law_67 : decode cL_law 67 = .ok (.bipush 30, 2) := by decide +kernel
theorem dL_law_69 : decode cL_law 69 = .ok (.if_icmp .ge 33, 3) := by decide +kernel
theorem dL_law_72 : decode cL_law 72 = .ok (.aload_n 1, 1) := by decide +kernel
theorem dL_law_73 : decode cL_law 73 = .ok (.aload_n 0, 1) := by decide +kernel
theorem dL_law_74 : decode cL_law 74 = .ok (.bipush 25, 2) := by decide +kernel
theorem dL_law_76 : decode cL_law 76 = .ok (.bipush 6, 2) := by decide +kernel
theorem dL_law_78 : decode cL_law 78 = .ok (.iload_n 2, 1) := by decide +kernel
theorem dL_law_79 : decode cL_law 79 = .ok (.imul, 1) := by decide +kernel
theorem dL_law_80 : decode cL_law 80 = .ok (.iadd, 1) := by decide +kernel
theorem dL_law_81 : decode cL_law 81 = .ok (.invokestatic 109, 3) := by decide +kernel
theorem dL_law_84 : decode cL_law 84 = .ok (.ifCond .eq 10, 3) := by decide +kernel
theorem dL_law_87 : decode cL_law 87 = .ok (.aload_n 1, 1) := by decide +kernel
theorem dL_law_88 : decode cL_law 88 = .ok (.invokestatic 113, 3) := by decide +kernel
theorem dL_law_91 : decode cL_law 91 = .ok (.ifCond .ne 5, 3) := by decide +kernel
theorem dL_law_94 : decode cL_law 94 = .ok (.iconst 0, 1) := by decide +kernel
theorem dL_law_95 : decode cL_law 95 = .ok (.ireturn, 1) := by decide +kernel
theorem dL_law_96 : decode cL_law 96 = .ok (.iinc 2 1, 3) := by decide +kernel
theorem dL_law_99 : decode cL_law 99 = .ok (.goto (-33), 3) := by decide +kernel
theorem dL_law_102 : decode cL_law 102 = .ok (.iconst 1, 1) := by decide +kernel
theorem dL_law_103 : decode cL_law 103 = .ok (.ireturn, 1) := by decide +kernel
abbrev vwCl : List vw_C := [(RX0, TX0, 2), (RX1, TX1, 2), (RX2, TX2, 8), (RX3, TX3, 6), (RX4, TX4, 10), (RX5, TX5, 2), (RX6, TX6, 5), (RX7, TX7, 9), (RX8, TX8, 7)]
