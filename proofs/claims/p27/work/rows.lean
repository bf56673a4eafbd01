section
-- ===== PART A: goes FIRST, ahead of the names: the tables' words, and 'selects' of the private methods out of them =====
/-- a private method of a class that the tables say can be made, by its rows of tables_1 -/
def lw_okq (q : MethodName × Nat) : Prop := (q.1.cls ≠ "java/lang/invoke/MethodHandle" ∧ q.1.cls ≠ "java/lang/invoke/VarHandle") ∧ Cond.instantiable q.1.cls q.2 ∈ tables_1 ∧ Cond.privateMethod q.1 ∈ tables_1 ∧ Cond.instanceMethod q.1 ∈ tables_1
theorem lw_p0 : lw_okq (⟨"CoverShares$History", "forgetOldest", "()V"⟩, 2) := ⟨⟨by decide +kernel, by decide +kernel⟩, List.mem_of_getElem? (i := 64) (by decide +kernel), List.mem_of_getElem? (i := 283) (by decide +kernel), List.mem_of_getElem? (i := 284) (by decide +kernel)⟩
theorem lw_p1 : lw_okq (⟨"CoverShares", "ofSetByShares", "(II)I"⟩, 7) := ⟨⟨by decide +kernel, by decide +kernel⟩, List.mem_of_getElem? (i := 14) (by decide +kernel), List.mem_of_getElem? (i := 353) (by decide +kernel), List.mem_of_getElem? (i := 354) (by decide +kernel)⟩
theorem lw_p2 : lw_okq (⟨"CoverShares$Shares", "begin", "(LCoverShares$State;)V"⟩, 10) := ⟨⟨by decide +kernel, by decide +kernel⟩, List.mem_of_getElem? (i := 130) (by decide +kernel), List.mem_of_getElem? (i := 361) (by decide +kernel), List.mem_of_getElem? (i := 362) (by decide +kernel)⟩
theorem lw_p3 : lw_okq (⟨"CoverShares$Shares", "makeRound", "(LCoverShares$State;)V"⟩, 10) := ⟨⟨by decide +kernel, by decide +kernel⟩, List.mem_of_getElem? (i := 130) (by decide +kernel), List.mem_of_getElem? (i := 370) (by decide +kernel), List.mem_of_getElem? (i := 371) (by decide +kernel)⟩
theorem lw_p4 : lw_okq (⟨"CoverShares$Shares", "fillSetsWith", "(ILCoverShares$State;)V"⟩, 10) := ⟨⟨by decide +kernel, by decide +kernel⟩, List.mem_of_getElem? (i := 130) (by decide +kernel), List.mem_of_getElem? (i := 375) (by decide +kernel), List.mem_of_getElem? (i := 376) (by decide +kernel)⟩
theorem lw_p5 : lw_okq (⟨"CoverShares$Shares", "becomeTight", "(II)V"⟩, 10) := ⟨⟨by decide +kernel, by decide +kernel⟩, List.mem_of_getElem? (i := 130) (by decide +kernel), List.mem_of_getElem? (i := 379) (by decide +kernel), List.mem_of_getElem? (i := 380) (by decide +kernel)⟩
theorem lw_p6 : lw_okq (⟨"CoverShares$Shares", "dropInReverse", "(LCoverShares$State;)V"⟩, 10) := ⟨⟨by decide +kernel, by decide +kernel⟩, List.mem_of_getElem? (i := 130) (by decide +kernel), List.mem_of_getElem? (i := 383) (by decide +kernel), List.mem_of_getElem? (i := 384) (by decide +kernel)⟩
theorem lw_p7 : lw_okq (⟨"CoverShares", "shareOf", "(I)I"⟩, 7) := ⟨⟨by decide +kernel, by decide +kernel⟩, List.mem_of_getElem? (i := 14) (by decide +kernel), List.mem_of_getElem? (i := 407) (by decide +kernel), List.mem_of_getElem? (i := 408) (by decide +kernel)⟩
theorem lw_p8 : lw_okq (⟨"CoverShares$Walk", "noteFree", "(III)V"⟩, 9) := ⟨⟨by decide +kernel, by decide +kernel⟩, List.mem_of_getElem? (i := 195) (by decide +kernel), List.mem_of_getElem? (i := 463) (by decide +kernel), List.mem_of_getElem? (i := 464) (by decide +kernel)⟩
theorem lw_p9 : lw_okq (⟨"CoverShares$Walk", "join", "(IIIII)V"⟩, 9) := ⟨⟨by decide +kernel, by decide +kernel⟩, List.mem_of_getElem? (i := 195) (by decide +kernel), List.mem_of_getElem? (i := 467) (by decide +kernel), List.mem_of_getElem? (i := 468) (by decide +kernel)⟩
theorem lw_p10 : lw_okq (⟨"CoverShares$Search", "findLeastMissingOne", "(LCoverShares$State;)V"⟩, 6) := ⟨⟨by decide +kernel, by decide +kernel⟩, List.mem_of_getElem? (i := 189) (by decide +kernel), List.mem_of_getElem? (i := 524) (by decide +kernel), List.mem_of_getElem? (i := 525) (by decide +kernel)⟩
theorem lw_p11 : lw_okq (⟨"CoverShares$Search", "noteMissingOne", "(II)V"⟩, 6) := ⟨⟨by decide +kernel, by decide +kernel⟩, List.mem_of_getElem? (i := 189) (by decide +kernel), List.mem_of_getElem? (i := 535) (by decide +kernel), List.mem_of_getElem? (i := 536) (by decide +kernel)⟩
def lw_privs_1 : List (MethodName × Nat) := [(⟨"CoverShares$History", "forgetOldest", "()V"⟩, 2), (⟨"CoverShares", "ofSetByShares", "(II)I"⟩, 7), (⟨"CoverShares$Shares", "begin", "(LCoverShares$State;)V"⟩, 10), (⟨"CoverShares$Shares", "makeRound", "(LCoverShares$State;)V"⟩, 10), (⟨"CoverShares$Shares", "fillSetsWith", "(ILCoverShares$State;)V"⟩, 10), (⟨"CoverShares$Shares", "becomeTight", "(II)V"⟩, 10), (⟨"CoverShares$Shares", "dropInReverse", "(LCoverShares$State;)V"⟩, 10), (⟨"CoverShares", "shareOf", "(I)I"⟩, 7), (⟨"CoverShares$Walk", "noteFree", "(III)V"⟩, 9), (⟨"CoverShares$Walk", "join", "(IIIII)V"⟩, 9), (⟨"CoverShares$Search", "findLeastMissingOne", "(LCoverShares$State;)V"⟩, 6), (⟨"CoverShares$Search", "noteMissingOne", "(II)V"⟩, 6)]
theorem lw_r1 : ∀ q ∈ lw_privs_1, lw_okq q := List.forall_mem_cons.mpr ⟨lw_p0, List.forall_mem_cons.mpr ⟨lw_p1, List.forall_mem_cons.mpr ⟨lw_p2, List.forall_mem_cons.mpr ⟨lw_p3, List.forall_mem_cons.mpr ⟨lw_p4, List.forall_mem_cons.mpr ⟨lw_p5, List.forall_mem_cons.mpr ⟨lw_p6, List.forall_mem_cons.mpr ⟨lw_p7, List.forall_mem_cons.mpr ⟨lw_p8, List.forall_mem_cons.mpr ⟨lw_p9, List.forall_mem_cons.mpr ⟨lw_p10, List.forall_mem_cons.mpr ⟨lw_p11, fun _ h => absurd h List.not_mem_nil⟩⟩⟩⟩⟩⟩⟩⟩⟩⟩⟩⟩
def lw_privs : List (MethodName × Nat) := lw_privs_1
def lw_tbl : List Cond := k2_sels lw_privs ++ tables_1
theorem lw_privs_ok : ∀ q ∈ lw_privs, lw_okq q := lw_r1
end
section
/-! ===== BEGIN words of one list among another's, by their places ===== -/
theorem goodIn_r {big : List Cond} (ws : List Cond) (ps : List Nat) (hp : ws = ps.filterMap (fun i => big[i]?)) (h : ws.all goodWord = true) : GoodIn big ws := by
  intro w hw
  have h1 := List.all_eq_true.mp h w hw
  rw [hp] at hw
  obtain ⟨i, -, hi⟩ := List.mem_filterMap.mp hw
  have hm : w ∈ big := by first | exact List.mem_of_getElem? hi | exact List.getElem?_mem hi
  exact ⟨hm, good_of_word h1⟩
theorem goodIn_app {big a b : List Cond} (ha : GoodIn big a) (hb : GoodIn big b) : GoodIn big (a ++ b) := fun w h => (List.mem_append.mp h).elim (ha w) (hb w)
theorem goodIn_ca {big a b : List Cond} {c : Cond} (ha : GoodIn big (c :: a)) (hb : GoodIn big b) : GoodIn big (c :: (a ++ b)) := fun w h => (List.mem_cons.mp h).elim (fun e => ha w (List.mem_cons.mpr (Or.inl e))) (fun h => (List.mem_append.mp h).elim (fun h => ha w (List.mem_cons.mpr (Or.inr h))) (hb w))
theorem goodIn_sub {big ws : List Cond} (hm : ∀ w ∈ ws, w ∈ big) (h : ws.all goodWord = true) : GoodIn big ws := fun w hw => ⟨hm w hw, good_of_word (List.all_eq_true.mp h w hw)⟩
/-! ===== END ===== -/

/-! ===== BEGIN printed: names, fields, word lists, decode rows ===== -/
def RX0 : String := "CoverShares$Greedy"
def TX0 : u_T := fun k => match k with
  | 0 => ("CoverShares$Greedy", "chosen", "I", false)
  | _ => ("CoverShares$Greedy", "last", "I", false)
def tyX0 : Nat → FieldType := fun k => match k with
  | 0 => .int
  | _ => .int
abbrev wsX00 : List Cond := u_ws RX0 TX0 2
theorem nmX0 : ∀ a, a < 2 → ∀ b, b < 2 → a ≠ b → (TX0 a).2.1 ≠ (TX0 b).2.1 := by decide +kernel
theorem tyX0_ok : ∀ k, k < 2 → parseFieldDescriptor (TX0 k).2.2.1 = some (tyX0 k) := by decide +kernel
abbrev cX0_init : ByteArray := prog_2_method_1_code
def yX0_init : MethodName := ⟨RX0, "<init>", "()V"⟩
abbrev cX0_choose : ByteArray := prog_2_method_2_code
def yX0_choose : MethodName := ⟨RX0, "choose", "(LCoverShares$State;)V"⟩
abbrev cX0_bestByRate : ByteArray := prog_2_method_3_code
def yX0_bestByRate : MethodName := ⟨RX0, "bestByRate", "(LCoverShares$State;I)I"⟩
def RX1 : String := "CoverShares$History"
def TX1 : u_T := fun k => match k with
  | 0 => ("CoverShares$History", "size", "I", false)
  | _ => ("CoverShares$History", "states", "[LCoverShares$State;", true)
def tyX1 : Nat → FieldType := fun k => match k with
  | 0 => .int
  | _ => .array (.object "CoverShares$State")
abbrev wsX10 : List Cond := u_ws RX1 TX1 2
theorem nmX1 : ∀ a, a < 2 → ∀ b, b < 2 → a ≠ b → (TX1 a).2.1 ≠ (TX1 b).2.1 := by decide +kernel
theorem tyX1_ok : ∀ k, k < 2 → parseFieldDescriptor (TX1 k).2.2.1 = some (tyX1 k) := by decide +kernel
abbrev cX1_init : ByteArray := prog_3_method_1_code
def yX1_init : MethodName := ⟨RX1, "<init>", "()V"⟩
abbrev cX1_record : ByteArray := prog_3_method_2_code
def yX1_record : MethodName := ⟨RX1, "record", "(LCoverShares$State;)V"⟩
abbrev cX1_forgetOldest : ByteArray := prog_3_method_3_code
def yX1_forgetOldest : MethodName := ⟨RX1, "forgetOldest", "()V"⟩
def RX2 : String := "CoverShares$Pad"
def TX2 : u_T := fun k => match k with
  | 0 => ("CoverShares$Pad", "length", "I", false)
  | 1 => ("CoverShares$Pad", "signs", "[C", true)
  | 2 => ("CoverShares$Pad", "sets", "I", false)
  | 3 => ("CoverShares$Pad", "things", "[I", true)
  | 4 => ("CoverShares$Pad", "prices", "[I", true)
  | 5 => ("CoverShares$Pad", "inNumber", "Z", false)
  | 6 => ("CoverShares$Pad", "letters", "I", false)
  | _ => ("CoverShares$Pad", "number", "I", false)
def tyX2 : Nat → FieldType := fun k => match k with
  | 0 => .int
  | 1 => .array .char
  | 2 => .int
  | 3 => .array .int
  | 4 => .array .int
  | 5 => .boolean
  | 6 => .int
  | _ => .int
abbrev wsX20 : List Cond := u_ws RX2 TX2 8
theorem nmX2 : ∀ a, a < 8 → ∀ b, b < 8 → a ≠ b → (TX2 a).2.1 ≠ (TX2 b).2.1 := by decide +kernel
theorem tyX2_ok : ∀ k, k < 8 → parseFieldDescriptor (TX2 k).2.2.1 = some (tyX2 k) := by decide +kernel
abbrev cX2_init : ByteArray := prog_4_method_1_code
def yX2_init : MethodName := ⟨RX2, "<init>", "()V"⟩
def RX3 : String := "CoverShares$Search"
def TX3 : u_T := fun k => match k with
  | 0 => ("CoverShares$Search", "walk", "LCoverShares$Walk;", true)
  | 1 => ("CoverShares$Search", "leastSets", "I", false)
  | 2 => ("CoverShares$Search", "leastPrice", "I", false)
  | 3 => ("CoverShares$Search", "dearestThing", "I", false)
  | 4 => ("CoverShares$Search", "priceWithoutDearest", "I", false)
  | _ => ("CoverShares$Search", "leastMissingOne", "[I", true)
def tyX3 : Nat → FieldType := fun k => match k with
  | 0 => .object "CoverShares$Walk"
  | 1 => .int
  | 2 => .int
  | 3 => .int
  | 4 => .int
  | _ => .array .int
abbrev wsX30 : List Cond := u_ws RX3 TX3 6
theorem nmX3 : ∀ a, a < 6 → ∀ b, b < 6 → a ≠ b → (TX3 a).2.1 ≠ (TX3 b).2.1 := by decide +kernel
theorem tyX3_ok : ∀ k, k < 6 → parseFieldDescriptor (TX3 k).2.2.1 = some (tyX3 k) := by decide +kernel
abbrev cX3_init : ByteArray := prog_5_method_1_code
def yX3_init : MethodName := ⟨RX3, "<init>", "()V"⟩
abbrev cX3_findLeast : ByteArray := prog_5_method_2_code
def yX3_findLeast : MethodName := ⟨RX3, "findLeast", "(LCoverShares$State;)V"⟩
abbrev cX3_countUpTo : ByteArray := prog_5_method_3_code
def yX3_countUpTo : MethodName := ⟨RX3, "countUpTo", "(LCoverShares$State;I)I"⟩
abbrev cX3_countTight : ByteArray := prog_5_method_4_code
def yX3_countTight : MethodName := ⟨RX3, "countTight", "(LCoverShares$State;)I"⟩
abbrev cX3_findDearest : ByteArray := prog_5_method_6_code
def yX3_findDearest : MethodName := ⟨RX3, "findDearest", "(LCoverShares$State;)V"⟩
abbrev cX3_findLeastMissingOne : ByteArray := prog_5_method_7_code
def yX3_findLeastMissingOne : MethodName := ⟨RX3, "findLeastMissingOne", "(LCoverShares$State;)V"⟩
abbrev cX3_noteMissingOne : ByteArray := prog_5_method_8_code
def yX3_noteMissingOne : MethodName := ⟨RX3, "noteMissingOne", "(II)V"⟩
def RX4 : String := "CoverShares$Shares"
def TX4 : u_T := fun k => match k with
  | 0 => ("CoverShares$Shares", "open", "I", false)
  | 1 => ("CoverShares$Shares", "inTight", "I", false)
  | 2 => ("CoverShares$Shares", "rounds", "I", false)
  | 3 => ("CoverShares$Shares", "tight", "I", false)
  | 4 => ("CoverShares$Shares", "tightCount", "I", false)
  | 5 => ("CoverShares$Shares", "dropped", "I", false)
  | 6 => ("CoverShares$Shares", "raised", "[I", true)
  | 7 => ("CoverShares$Shares", "fillings", "[I", true)
  | 8 => ("CoverShares$Shares", "places", "[I", true)
  | _ => ("CoverShares$Shares", "order", "[I", true)
def tyX4 : Nat → FieldType := fun k => match k with
  | 0 => .int
  | 1 => .int
  | 2 => .int
  | 3 => .int
  | 4 => .int
  | 5 => .int
  | 6 => .array .int
  | 7 => .array .int
  | 8 => .array .int
  | _ => .array .int
abbrev wsX40 : List Cond := u_ws RX4 TX4 10
theorem nmX4 : ∀ a, a < 10 → ∀ b, b < 10 → a ≠ b → (TX4 a).2.1 ≠ (TX4 b).2.1 := by decide +kernel
theorem tyX4_ok : ∀ k, k < 10 → parseFieldDescriptor (TX4 k).2.2.1 = some (tyX4 k) := by decide +kernel
abbrev cX4_init : ByteArray := prog_6_method_1_code
def yX4_init : MethodName := ⟨RX4, "<init>", "()V"⟩
abbrev cX4_raiseAll : ByteArray := prog_6_method_2_code
def yX4_raiseAll : MethodName := ⟨RX4, "raiseAll", "(LCoverShares$State;)V"⟩
abbrev cX4_begin : ByteArray := prog_6_method_3_code
def yX4_begin : MethodName := ⟨RX4, "begin", "(LCoverShares$State;)V"⟩
abbrev cX4_makeRound : ByteArray := prog_6_method_4_code
def yX4_makeRound : MethodName := ⟨RX4, "makeRound", "(LCoverShares$State;)V"⟩
abbrev cX4_fillSetsWith : ByteArray := prog_6_method_5_code
def yX4_fillSetsWith : MethodName := ⟨RX4, "fillSetsWith", "(ILCoverShares$State;)V"⟩
abbrev cX4_becomeTight : ByteArray := prog_6_method_6_code
def yX4_becomeTight : MethodName := ⟨RX4, "becomeTight", "(II)V"⟩
abbrev cX4_dropInReverse : ByteArray := prog_6_method_7_code
def yX4_dropInReverse : MethodName := ⟨RX4, "dropInReverse", "(LCoverShares$State;)V"⟩
abbrev cX4_sum : ByteArray := prog_6_method_8_code
def yX4_sum : MethodName := ⟨RX4, "sum", "()I"⟩
def RX5 : String := "CoverShares$Slots"
def TX5 : u_T := fun k => match k with
  | 0 => ("CoverShares$Slots", "states", "[LCoverShares$State;", true)
  | _ => ("CoverShares$Slots", "kept", "[Z", true)
def tyX5 : Nat → FieldType := fun k => match k with
  | 0 => .array (.object "CoverShares$State")
  | _ => .array .boolean
abbrev wsX50 : List Cond := u_ws RX5 TX5 2
theorem nmX5 : ∀ a, a < 2 → ∀ b, b < 2 → a ≠ b → (TX5 a).2.1 ≠ (TX5 b).2.1 := by decide +kernel
theorem tyX5_ok : ∀ k, k < 2 → parseFieldDescriptor (TX5 k).2.2.1 = some (tyX5 k) := by decide +kernel
abbrev cX5_init : ByteArray := prog_7_method_1_code
def yX5_init : MethodName := ⟨RX5, "<init>", "()V"⟩
def RX6 : String := "CoverShares$State"
def TX6 : u_T := fun k => match k with
  | 0 => ("CoverShares$State", "needed", "I", false)
  | 1 => ("CoverShares$State", "size", "I", false)
  | 2 => ("CoverShares$State", "things", "[I", true)
  | 3 => ("CoverShares$State", "prices", "[I", true)
  | _ => ("CoverShares$State", "marks", "[I", true)
def tyX6 : Nat → FieldType := fun k => match k with
  | 0 => .int
  | 1 => .int
  | 2 => .array .int
  | 3 => .array .int
  | _ => .array .int
abbrev wsX60 : List Cond := u_ws RX6 TX6 5
theorem nmX6 : ∀ a, a < 5 → ∀ b, b < 5 → a ≠ b → (TX6 a).2.1 ≠ (TX6 b).2.1 := by decide +kernel
theorem tyX6_ok : ∀ k, k < 5 → parseFieldDescriptor (TX6 k).2.2.1 = some (tyX6 k) := by decide +kernel
abbrev cX6_init : ByteArray := prog_8_method_1_code
def yX6_init : MethodName := ⟨RX6, "<init>", "()V"⟩
abbrev cX6_copyFrom : ByteArray := prog_8_method_2_code
def yX6_copyFrom : MethodName := ⟨RX6, "copyFrom", "(LCoverShares$State;)V"⟩
abbrev cX6_hasSet : ByteArray := prog_8_method_3_code
def yX6_hasSet : MethodName := ⟨RX6, "hasSet", "(I)Z"⟩
abbrev cX6_append : ByteArray := prog_8_method_4_code
def yX6_append : MethodName := ⟨RX6, "append", "(II)V"⟩
abbrev cX6_remove : ByteArray := prog_8_method_5_code
def yX6_remove : MethodName := ⟨RX6, "remove", "(I)V"⟩
abbrev cX6_marked : ByteArray := prog_8_method_6_code
def yX6_marked : MethodName := ⟨RX6, "marked", "(I)I"⟩
abbrev cX6_notBarred : ByteArray := prog_8_method_7_code
def yX6_notBarred : MethodName := ⟨RX6, "notBarred", "()I"⟩
abbrev cX6_setsWith : ByteArray := prog_8_method_8_code
def yX6_setsWith : MethodName := ⟨RX6, "setsWith", "(I)I"⟩
abbrev cX6_thingsOf : ByteArray := prog_8_method_9_code
def yX6_thingsOf : MethodName := ⟨RX6, "thingsOf", "(I)I"⟩
abbrev cX6_priceOf : ByteArray := prog_8_method_10_code
def yX6_priceOf : MethodName := ⟨RX6, "priceOf", "(I)I"⟩
abbrev cX6_missingIn : ByteArray := prog_8_method_11_code
def yX6_missingIn : MethodName := ⟨RX6, "missingIn", "(I)I"⟩
abbrev cX6_hasCover : ByteArray := prog_8_method_12_code
def yX6_hasCover : MethodName := ⟨RX6, "hasCover", "()Z"⟩
abbrev cX6_isCover : ByteArray := prog_8_method_13_code
def yX6_isCover : MethodName := ⟨RX6, "isCover", "(I)Z"⟩
abbrev cX6_neededAlone : ByteArray := prog_8_method_14_code
def yX6_neededAlone : MethodName := ⟨RX6, "neededAlone", "(I)I"⟩
abbrev cX6_mostSetsWithOneThing : ByteArray := prog_8_method_15_code
def yX6_mostSetsWithOneThing : MethodName := ⟨RX6, "mostSetsWithOneThing", "()I"⟩
def RX7 : String := "CoverShares$Walk"
def TX7 : u_T := fun k => match k with
  | 0 => ("CoverShares$Walk", "needed", "I", false)
  | 1 => ("CoverShares$Walk", "free", "I", false)
  | 2 => ("CoverShares$Walk", "freeThings", "[I", true)
  | 3 => ("CoverShares$Walk", "freePrices", "[I", true)
  | 4 => ("CoverShares$Walk", "freeMasks", "[I", true)
  | 5 => ("CoverShares$Walk", "sets", "[I", true)
  | 6 => ("CoverShares$Walk", "prices", "[I", true)
  | 7 => ("CoverShares$Walk", "things", "[I", true)
  | _ => ("CoverShares$Walk", "thingsTwice", "[I", true)
def tyX7 : Nat → FieldType := fun k => match k with
  | 0 => .int
  | 1 => .int
  | 2 => .array .int
  | 3 => .array .int
  | 4 => .array .int
  | 5 => .array .int
  | 6 => .array .int
  | 7 => .array .int
  | _ => .array .int
abbrev wsX70 : List Cond := u_ws RX7 TX7 9
theorem nmX7 : ∀ a, a < 9 → ∀ b, b < 9 → a ≠ b → (TX7 a).2.1 ≠ (TX7 b).2.1 := by decide +kernel
theorem tyX7_ok : ∀ k, k < 9 → parseFieldDescriptor (TX7 k).2.2.1 = some (tyX7 k) := by decide +kernel
abbrev cX7_init : ByteArray := prog_9_method_1_code
def yX7_init : MethodName := ⟨RX7, "<init>", "()V"⟩
abbrev cX7_begin : ByteArray := prog_9_method_2_code
def yX7_begin : MethodName := ⟨RX7, "begin", "(LCoverShares$State;)I"⟩
abbrev cX7_noteFree : ByteArray := prog_9_method_3_code
def yX7_noteFree : MethodName := ⟨RX7, "noteFree", "(III)V"⟩
abbrev cX7_join : ByteArray := prog_9_method_4_code
def yX7_join : MethodName := ⟨RX7, "join", "(IIIII)V"⟩
abbrev cX7_goTo : ByteArray := prog_9_method_5_code
def yX7_goTo : MethodName := ⟨RX7, "goTo", "(I)V"⟩
abbrev cX7_chosen : ByteArray := prog_9_method_6_code
def yX7_chosen : MethodName := ⟨RX7, "chosen", "()I"⟩
abbrev cX7_sum : ByteArray := prog_9_method_7_code
def yX7_sum : MethodName := ⟨RX7, "sum", "()I"⟩
abbrev cX7_missing : ByteArray := prog_9_method_8_code
def yX7_missing : MethodName := ⟨RX7, "missing", "()I"⟩
abbrev cX7_isFullCover : ByteArray := prog_9_method_9_code
def yX7_isFullCover : MethodName := ⟨RX7, "isFullCover", "()Z"⟩
abbrev cX7_hasNoSpareSet : ByteArray := prog_9_method_10_code
def yX7_hasNoSpareSet : MethodName := ⟨RX7, "hasNoSpareSet", "()Z"⟩
def RX8 : String := "CoverShares"
def TX8 : u_T := fun k => match k with
  | 0 => ("CoverShares", "now", "LCoverShares$State;", true)
  | 1 => ("CoverShares", "history", "LCoverShares$History;", true)
  | 2 => ("CoverShares", "slots", "LCoverShares$Slots;", true)
  | 3 => ("CoverShares", "pad", "LCoverShares$Pad;", true)
  | 4 => ("CoverShares", "shares", "LCoverShares$Shares;", true)
  | 5 => ("CoverShares", "byRate", "LCoverShares$Greedy;", true)
  | _ => ("CoverShares", "search", "LCoverShares$Search;", true)
def tyX8 : Nat → FieldType := fun k => match k with
  | 0 => .object "CoverShares$State"
  | 1 => .object "CoverShares$History"
  | 2 => .object "CoverShares$Slots"
  | 3 => .object "CoverShares$Pad"
  | 4 => .object "CoverShares$Shares"
  | 5 => .object "CoverShares$Greedy"
  | _ => .object "CoverShares$Search"
abbrev wsX80 : List Cond := u_ws RX8 TX8 7
theorem nmX8 : ∀ a, a < 7 → ∀ b, b < 7 → a ≠ b → (TX8 a).2.1 ≠ (TX8 b).2.1 := by decide +kernel
theorem tyX8_ok : ∀ k, k < 7 → parseFieldDescriptor (TX8 k).2.2.1 = some (tyX8 k) := by decide +kernel
abbrev cX8_init : ByteArray := prog_1_method_1_code
def yX8_init : MethodName := ⟨RX8, "<init>", "()V"⟩
abbrev cX8_need : ByteArray := prog_1_method_2_code
def yX8_need : MethodName := ⟨RX8, "need", "(I)I"⟩
abbrev cX8_set : ByteArray := prog_1_method_3_code
def yX8_set : MethodName := ⟨RX8, "set", "(II)I"⟩
abbrev cX8_price : ByteArray := prog_1_method_4_code
def yX8_price : MethodName := ⟨RX8, "price", "(II)I"⟩
abbrev cX8_mark : ByteArray := prog_1_method_5_code
def yX8_mark : MethodName := ⟨RX8, "mark", "(II)I"⟩
abbrev cX8_turn : ByteArray := prog_1_method_6_code
def yX8_turn : MethodName := ⟨RX8, "turn", "(II)I"⟩
abbrev cX8_drop : ByteArray := prog_1_method_7_code
def yX8_drop : MethodName := ⟨RX8, "drop", "(I)I"⟩
abbrev cX8_ofSet : ByteArray := prog_1_method_12_code
def yX8_ofSet : MethodName := ⟨RX8, "ofSet", "(II)I"⟩
abbrev cX8_ofSetByShares : ByteArray := prog_1_method_13_code
def yX8_ofSetByShares : MethodName := ⟨RX8, "ofSetByShares", "(II)I"⟩
abbrev cX8_ofThing : ByteArray := prog_1_method_14_code
def yX8_ofThing : MethodName := ⟨RX8, "ofThing", "(II)I"⟩
abbrev cX8_shareOf : ByteArray := prog_1_method_15_code
def yX8_shareOf : MethodName := ⟨RX8, "shareOf", "(I)I"⟩
abbrev cX8_count : ByteArray := prog_1_method_16_code
def yX8_count : MethodName := ⟨RX8, "count", "(I)I"⟩
abbrev cX8_shared : ByteArray := prog_1_method_17_code
def yX8_shared : MethodName := ⟨RX8, "shared", "(I)I"⟩
abbrev cX8_greedy : ByteArray := prog_1_method_18_code
def yX8_greedy : MethodName := ⟨RX8, "greedy", "(I)I"⟩
abbrev cX8_least : ByteArray := prog_1_method_19_code
def yX8_least : MethodName := ⟨RX8, "least", "(I)I"⟩
abbrev cX8_covers : ByteArray := prog_1_method_20_code
def yX8_covers : MethodName := ⟨RX8, "covers", "(I)I"⟩
abbrev cX8_tightCovers : ByteArray := prog_1_method_21_code
def yX8_tightCovers : MethodName := ⟨RX8, "tightCovers", "()I"⟩
abbrev cX8_dearest : ByteArray := prog_1_method_23_code
def yX8_dearest : MethodName := ⟨RX8, "dearest", "(I)I"⟩
abbrev cX8_check : ByteArray := prog_1_method_24_code
def yX8_check : MethodName := ⟨RX8, "check", "(I)I"⟩
abbrev cX8_has : ByteArray := prog_1_method_28_code
def yX8_has : MethodName := ⟨RX8, "has", "(II)Z"⟩
abbrev cX8_areSomeThings : ByteArray := prog_1_method_29_code
def yX8_areSomeThings : MethodName := ⟨RX8, "areSomeThings", "(I)Z"⟩
abbrev cX8_isPrice : ByteArray := prog_1_method_30_code
def yX8_isPrice : MethodName := ⟨RX8, "isPrice", "(I)Z"⟩
def RX9 : String := "CoverSharesModel"
def TX9 : u_T := fun k => match k with
  | _ => ("", "", "", false)
def tyX9 : Nat → FieldType := fun k => match k with
  | _ => .int
abbrev wsX90 : List Cond := u_ws RX9 TX9 0
theorem nmX9 : ∀ a, a < 0 → ∀ b, b < 0 → a ≠ b → (TX9 a).2.1 ≠ (TX9 b).2.1 := by decide +kernel
theorem tyX9_ok : ∀ k, k < 0 → parseFieldDescriptor (TX9 k).2.2.1 = some (tyX9 k) := by decide +kernel
def RJ6 : String := "java/lang/Integer"
def TJ6 : u_T := fun k => match k with
  | _ => ("", "", "", false)
def tyJ6 : Nat → FieldType := fun k => match k with
  | _ => .int
abbrev wsJ60 : List Cond := u_ws RJ6 TJ6 0
theorem nmJ6 : ∀ a, a < 0 → ∀ b, b < 0 → a ≠ b → (TJ6 a).2.1 ≠ (TJ6 b).2.1 := by decide +kernel
theorem tyJ6_ok : ∀ k, k < 0 → parseFieldDescriptor (TJ6 k).2.2.1 = some (tyJ6 k) := by decide +kernel
abbrev cJ6_numberOfTrailingZeros_0f7a4 : ByteArray := prog_12_method_48_code
def yJ6_numberOfTrailingZeros_0f7a4 : MethodName := ⟨RJ6, "numberOfTrailingZeros", "(I)I"⟩
abbrev cJ6_bitCount_0f7a4 : ByteArray := prog_12_method_49_code
def yJ6_bitCount_0f7a4 : MethodName := ⟨RJ6, "bitCount", "(I)I"⟩
def RJ9 : String := "java/lang/Math"
def TJ9 : u_T := fun k => match k with
  | _ => ("", "", "", false)
def tyJ9 : Nat → FieldType := fun k => match k with
  | _ => .int
abbrev wsJ90 : List Cond := u_ws RJ9 TJ9 0
theorem nmJ9 : ∀ a, a < 0 → ∀ b, b < 0 → a ≠ b → (TJ9 a).2.1 ≠ (TJ9 b).2.1 := by decide +kernel
theorem tyJ9_ok : ∀ k, k < 0 → parseFieldDescriptor (TJ9 k).2.2.1 = some (tyJ9 k) := by decide +kernel
abbrev cJ9_max_7cf53 : ByteArray := prog_13_method_65_code
def yJ9_max_7cf53 : MethodName := ⟨RJ9, "max", "(II)I"⟩
abbrev cJ9_min_7cf53 : ByteArray := prog_13_method_69_code
def yJ9_min_7cf53 : MethodName := ⟨RJ9, "min", "(II)I"⟩
def RJ7 : String := "java/util/Arrays"
def TJ7 : u_T := fun k => match k with
  | _ => ("", "", "", false)
def tyJ7 : Nat → FieldType := fun k => match k with
  | _ => .int
abbrev wsJ70 : List Cond := u_ws RJ7 TJ7 0
theorem nmJ7 : ∀ a, a < 0 → ∀ b, b < 0 → a ≠ b → (TJ7 a).2.1 ≠ (TJ7 b).2.1 := by decide +kernel
theorem tyJ7_ok : ∀ k, k < 0 → parseFieldDescriptor (TJ7 k).2.2.1 = some (tyJ7 k) := by decide +kernel
abbrev cJ7_fill_53178 : ByteArray := prog_14_method_103_code
def yJ7_fill_53178 : MethodName := ⟨RJ7, "fill", "([II)V"⟩
def RL : String := "CoverSharesLaw"
abbrev cL_cell : ByteArray := method_2_code
def yL_cell : MethodName := ⟨RL, "cell", "([III)I"⟩
abbrev cL_has : ByteArray := method_3_code
def yL_has : MethodName := ⟨RL, "has", "(II)Z"⟩
abbrev cL_ones : ByteArray := method_4_code
def yL_ones : MethodName := ⟨RL, "ones", "(I)I"⟩
abbrev cL_union : ByteArray := method_5_code
def yL_union : MethodName := ⟨RL, "union", "(LCoverShares;I)I"⟩
abbrev cL_marked : ByteArray := method_6_code
def yL_marked : MethodName := ⟨RL, "marked", "(LCoverShares;I)I"⟩
abbrev cL_prices : ByteArray := method_7_code
def yL_prices : MethodName := ⟨RL, "prices", "(LCoverShares;I)I"⟩
abbrev cL_areShares : ByteArray := method_8_code
def yL_areShares : MethodName := ⟨RL, "areShares", "(LCoverShares;)Z"⟩
abbrev cL_isGreedy : ByteArray := method_9_code
def yL_isGreedy : MethodName := ⟨RL, "isGreedy", "(LCoverShares;)Z"⟩
abbrev cL_agree : ByteArray := method_10_code
def yL_agree : MethodName := ⟨RL, "agree", "(LCoverShares;)Z"⟩
abbrev cL_things : ByteArray := method_11_code
def yL_things : MethodName := ⟨RL, "things", "([II)I"⟩
abbrev cL_isMade : ByteArray := method_12_code
def yL_isMade : MethodName := ⟨RL, "isMade", "(LCoverShares;II)Z"⟩
abbrev cL_isTurned : ByteArray := method_13_code
def yL_isTurned : MethodName := ⟨RL, "isTurned", "(LCoverShares;II)Z"⟩
abbrev cL_isDropped : ByteArray := method_14_code
def yL_isDropped : MethodName := ⟨RL, "isDropped", "(LCoverShares;I)Z"⟩
abbrev cL_isAct : ByteArray := method_15_code
def yL_isAct : MethodName := ⟨RL, "isAct", "(LCoverShares;[II)Z"⟩
abbrev cL_law : ByteArray := code
def yL_law : MethodName := ⟨RL, "law", "([I)Z"⟩
theorem dX0_init_0 : decode cX0_init 0 = .ok (.aload_n 0, 1) := by decide +kernel
theorem dX0_init_1 : decode cX0_init 1 = .ok (.invokespecial 3, 3) := by decide +kernel
theorem dX0_init_4 : decode cX0_init 4 = .ok (.aload_n 0, 1) := by decide +kernel
theorem dX0_init_5 : decode cX0_init 5 = .ok (.iconst 0, 1) := by decide +kernel
theorem dX0_init_6 : decode cX0_init 6 = .ok (.putfield 9, 3) := by decide +kernel
theorem dX0_init_9 : decode cX0_init 9 = .ok (.aload_n 0, 1) := by decide +kernel
theorem dX0_init_10 : decode cX0_init 10 = .ok (.bipush (-6), 2) := by decide +kernel
theorem dX0_init_12 : decode cX0_init 12 = .ok (.putfield 15, 3) := by decide +kernel
theorem dX0_init_15 : decode cX0_init 15 = .ok (.return_, 1) := by decide +kernel
theorem dX0_choose_0 : decode cX0_choose 0 = .ok (.aload_n 0, 1) := by decide +kernel
theorem dX0_choose_1 : decode cX0_choose 1 = .ok (.aload_n 1, 1) := by decide +kernel
theorem dX0_choose_2 : decode cX0_choose 2 = .ok (.iconst 1, 1) := by decide +kernel
theorem dX0_choose_3 : decode cX0_choose 3 = .ok (.invokevirtual 18, 3) := by decide +kernel
theorem dX0_choose_6 : decode cX0_choose 6 = .ok (.putfield 9, 3) := by decide +kernel
theorem dX0_choose_9 : decode cX0_choose 9 = .ok (.aload_n 0, 1) := by decide +kernel
theorem dX0_choose_10 : decode cX0_choose 10 = .ok (.bipush (-6), 2) := by decide +kernel
theorem dX0_choose_12 : decode cX0_choose 12 = .ok (.putfield 15, 3) := by decide +kernel
theorem dX0_choose_15 : decode cX0_choose 15 = .ok (.iconst 0, 1) := by decide +kernel
theorem dX0_choose_16 : decode cX0_choose 16 = .ok (.istore_n 2, 1) := by decide +kernel
theorem dX0_choose_17 : decode cX0_choose 17 = .ok (.iload_n 2, 1) := by decide +kernel
theorem dX0_choose_18 : decode cX0_choose 18 = .ok (.bipush 14, 2) := by decide +kernel
theorem dX0_choose_20 : decode cX0_choose 20 = .ok (.if_icmp .ge 57, 3) := by decide +kernel
theorem dX0_choose_23 : decode cX0_choose 23 = .ok (.aload_n 1, 1) := by decide +kernel
theorem dX0_choose_24 : decode cX0_choose 24 = .ok (.aload_n 0, 1) := by decide +kernel
theorem dX0_choose_25 : decode cX0_choose 25 = .ok (.getfield 9, 3) := by decide +kernel
theorem dX0_choose_28 : decode cX0_choose 28 = .ok (.invokevirtual 24, 3) := by decide +kernel
theorem dX0_choose_31 : decode cX0_choose 31 = .ok (.ifCond .eq 46, 3) := by decide +kernel
theorem dX0_choose_34 : decode cX0_choose 34 = .ok (.aload_n 1, 1) := by decide +kernel
theorem dX0_choose_35 : decode cX0_choose 35 = .ok (.aload_n 1, 1) := by decide +kernel
theorem dX0_choose_36 : decode cX0_choose 36 = .ok (.aload_n 0, 1) := by decide +kernel
theorem dX0_choose_37 : decode cX0_choose 37 = .ok (.getfield 9, 3) := by decide +kernel
theorem dX0_choose_40 : decode cX0_choose 40 = .ok (.invokevirtual 24, 3) := by decide +kernel
theorem dX0_choose_43 : decode cX0_choose 43 = .ok (.invokestatic 27, 3) := by decide +kernel
theorem dX0_choose_46 : decode cX0_choose 46 = .ok (.istore_n 3, 1) := by decide +kernel
theorem dX0_choose_47 : decode cX0_choose 47 = .ok (.iload_n 3, 1) := by decide +kernel
theorem dX0_choose_48 : decode cX0_choose 48 = .ok (.bipush (-6), 2) := by decide +kernel
theorem dX0_choose_50 : decode cX0_choose 50 = .ok (.if_icmp .ne 4, 3) := by decide +kernel
theorem dX0_choose_53 : decode cX0_choose 53 = .ok (.return_, 1) := by decide +kernel
theorem dX0_choose_54 : decode cX0_choose 54 = .ok (.aload_n 0, 1) := by decide +kernel
theorem dX0_choose_55 : decode cX0_choose 55 = .ok (.dup, 1) := by decide +kernel
theorem dX0_choose_56 : decode cX0_choose 56 = .ok (.getfield 9, 3) := by decide +kernel
theorem dX0_choose_59 : decode cX0_choose 59 = .ok (.iconst 1, 1) := by decide +kernel
theorem dX0_choose_60 : decode cX0_choose 60 = .ok (.iload_n 3, 1) := by decide +kernel
theorem dX0_choose_61 : decode cX0_choose 61 = .ok (.ishl, 1) := by decide +kernel
theorem dX0_choose_62 : decode cX0_choose 62 = .ok (.ior, 1) := by decide +kernel
theorem dX0_choose_63 : decode cX0_choose 63 = .ok (.putfield 9, 3) := by decide +kernel
theorem dX0_choose_66 : decode cX0_choose 66 = .ok (.aload_n 0, 1) := by decide +kernel
theorem dX0_choose_67 : decode cX0_choose 67 = .ok (.iload_n 3, 1) := by decide +kernel
theorem dX0_choose_68 : decode cX0_choose 68 = .ok (.putfield 15, 3) := by decide +kernel
theorem dX0_choose_71 : decode cX0_choose 71 = .ok (.iinc 2 1, 3) := by decide +kernel
theorem dX0_choose_74 : decode cX0_choose 74 = .ok (.goto (-57), 3) := by decide +kernel
theorem dX0_choose_77 : decode cX0_choose 77 = .ok (.return_, 1) := by decide +kernel
theorem dX0_bestByRate_0 : decode cX0_bestByRate 0 = .ok (.bipush (-6), 2) := by decide +kernel
theorem dX0_bestByRate_2 : decode cX0_bestByRate 2 = .ok (.istore_n 2, 1) := by decide +kernel
theorem dX0_bestByRate_3 : decode cX0_bestByRate 3 = .ok (.iconst 0, 1) := by decide +kernel
theorem dX0_bestByRate_4 : decode cX0_bestByRate 4 = .ok (.istore_n 3, 1) := by decide +kernel
theorem dX0_bestByRate_5 : decode cX0_bestByRate 5 = .ok (.iconst 0, 1) := by decide +kernel
theorem dX0_bestByRate_6 : decode cX0_bestByRate 6 = .ok (.istore 4, 2) := by decide +kernel
theorem dX0_bestByRate_8 : decode cX0_bestByRate 8 = .ok (.iconst 0, 1) := by decide +kernel
theorem dX0_bestByRate_9 : decode cX0_bestByRate 9 = .ok (.istore 5, 2) := by decide +kernel
theorem dX0_bestByRate_11 : decode cX0_bestByRate 11 = .ok (.iload 5, 2) := by decide +kernel
theorem dX0_bestByRate_13 : decode cX0_bestByRate 13 = .ok (.aload_n 0, 1) := by decide +kernel
theorem dX0_bestByRate_14 : decode cX0_bestByRate 14 = .ok (.getfield 31, 3) := by decide +kernel
theorem dX0_bestByRate_17 : decode cX0_bestByRate 17 = .ok (.if_icmp .ge 79, 3) := by decide +kernel
theorem dX0_bestByRate_20 : decode cX0_bestByRate 20 = .ok (.aload_n 0, 1) := by decide +kernel
theorem dX0_bestByRate_21 : decode cX0_bestByRate 21 = .ok (.getfield 34, 3) := by decide +kernel
theorem dX0_bestByRate_24 : decode cX0_bestByRate 24 = .ok (.iload 5, 2) := by decide +kernel
theorem dX0_bestByRate_26 : decode cX0_bestByRate 26 = .ok (.iaload, 1) := by decide +kernel
theorem dX0_bestByRate_27 : decode cX0_bestByRate 27 = .ok (.iload_n 1, 1) := by decide +kernel
theorem dX0_bestByRate_28 : decode cX0_bestByRate 28 = .ok (.iand, 1) := by decide +kernel
theorem dX0_bestByRate_29 : decode cX0_bestByRate 29 = .ok (.invokestatic 38, 3) := by decide +kernel
theorem dX0_bestByRate_32 : decode cX0_bestByRate 32 = .ok (.istore 6, 2) := by decide +kernel
theorem dX0_bestByRate_34 : decode cX0_bestByRate 34 = .ok (.aload_n 0, 1) := by decide +kernel
theorem dX0_bestByRate_35 : decode cX0_bestByRate 35 = .ok (.getfield 43, 3) := by decide +kernel
theorem dX0_bestByRate_38 : decode cX0_bestByRate 38 = .ok (.iload 5, 2) := by decide +kernel
theorem dX0_bestByRate_40 : decode cX0_bestByRate 40 = .ok (.iaload, 1) := by decide +kernel
theorem dX0_bestByRate_41 : decode cX0_bestByRate 41 = .ok (.ifCond .ne 49, 3) := by decide +kernel
theorem dX0_bestByRate_44 : decode cX0_bestByRate 44 = .ok (.iload 6, 2) := by decide +kernel
theorem dX0_bestByRate_46 : decode cX0_bestByRate 46 = .ok (.ifCond .ne 6, 3) := by decide +kernel
theorem dX0_bestByRate_49 : decode cX0_bestByRate 49 = .ok (.goto 41, 3) := by decide +kernel
theorem dX0_bestByRate_52 : decode cX0_bestByRate 52 = .ok (.iload_n 2, 1) := by decide +kernel
theorem dX0_bestByRate_53 : decode cX0_bestByRate 53 = .ok (.bipush (-6), 2) := by decide +kernel
theorem dX0_bestByRate_55 : decode cX0_bestByRate 55 = .ok (.if_icmp .eq 20, 3) := by decide +kernel
theorem dX0_bestByRate_58 : decode cX0_bestByRate 58 = .ok (.aload_n 0, 1) := by decide +kernel
theorem dX0_bestByRate_59 : decode cX0_bestByRate 59 = .ok (.getfield 46, 3) := by decide +kernel
theorem dX0_bestByRate_62 : decode cX0_bestByRate 62 = .ok (.iload 5, 2) := by decide +kernel
theorem dX0_bestByRate_64 : decode cX0_bestByRate 64 = .ok (.iaload, 1) := by decide +kernel
theorem dX0_bestByRate_65 : decode cX0_bestByRate 65 = .ok (.iload 4, 2) := by decide +kernel
theorem dX0_bestByRate_67 : decode cX0_bestByRate 67 = .ok (.imul, 1) := by decide +kernel
theorem dX0_bestByRate_68 : decode cX0_bestByRate 68 = .ok (.iload_n 3, 1) := by decide +kernel
theorem dX0_bestByRate_69 : decode cX0_bestByRate 69 = .ok (.iload 6, 2) := by decide +kernel
theorem dX0_bestByRate_71 : decode cX0_bestByRate 71 = .ok (.imul, 1) := by decide +kernel
theorem dX0_bestByRate_72 : decode cX0_bestByRate 72 = .ok (.if_icmp .ge 18, 3) := by decide +kernel
theorem dX0_bestByRate_75 : decode cX0_bestByRate 75 = .ok (.iload 5, 2) := by decide +kernel
theorem dX0_bestByRate_77 : decode cX0_bestByRate 77 = .ok (.istore_n 2, 1) := by decide +kernel
theorem dX0_bestByRate_78 : decode cX0_bestByRate 78 = .ok (.aload_n 0, 1) := by decide +kernel
theorem dX0_bestByRate_79 : decode cX0_bestByRate 79 = .ok (.getfield 46, 3) := by decide +kernel
theorem dX0_bestByRate_82 : decode cX0_bestByRate 82 = .ok (.iload 5, 2) := by decide +kernel
theorem dX0_bestByRate_84 : decode cX0_bestByRate 84 = .ok (.iaload, 1) := by decide +kernel
theorem dX0_bestByRate_85 : decode cX0_bestByRate 85 = .ok (.istore_n 3, 1) := by decide +kernel
theorem dX0_bestByRate_86 : decode cX0_bestByRate 86 = .ok (.iload 6, 2) := by decide +kernel
theorem dX0_bestByRate_88 : decode cX0_bestByRate 88 = .ok (.istore 4, 2) := by decide +kernel
theorem dX0_bestByRate_90 : decode cX0_bestByRate 90 = .ok (.iinc 5 1, 3) := by decide +kernel
theorem dX0_bestByRate_93 : decode cX0_bestByRate 93 = .ok (.goto (-82), 3) := by decide +kernel
theorem dX0_bestByRate_96 : decode cX0_bestByRate 96 = .ok (.iload_n 2, 1) := by decide +kernel
theorem dX0_bestByRate_97 : decode cX0_bestByRate 97 = .ok (.ireturn, 1) := by decide +kernel
theorem dX1_init_0 : decode cX1_init 0 = .ok (.aload_n 0, 1) := by decide +kernel
theorem dX1_init_1 : decode cX1_init 1 = .ok (.invokespecial 1, 3) := by decide +kernel
theorem dX1_init_4 : decode cX1_init 4 = .ok (.aload_n 0, 1) := by decide +kernel
theorem dX1_init_5 : decode cX1_init 5 = .ok (.iconst 0, 1) := by decide +kernel
theorem dX1_init_6 : decode cX1_init 6 = .ok (.putfield 7, 3) := by decide +kernel
theorem dX1_init_9 : decode cX1_init 9 = .ok (.aload_n 0, 1) := by decide +kernel
theorem dX1_init_10 : decode cX1_init 10 = .ok (.bipush 6, 2) := by decide +kernel
theorem dX1_init_12 : decode cX1_init 12 = .ok (.anewarray 13, 3) := by decide +kernel
theorem dX1_init_15 : decode cX1_init 15 = .ok (.putfield 15, 3) := by decide +kernel
theorem dX1_init_18 : decode cX1_init 18 = .ok (.iconst 0, 1) := by decide +kernel
theorem dX1_init_19 : decode cX1_init 19 = .ok (.istore_n 1, 1) := by decide +kernel
theorem dX1_init_20 : decode cX1_init 20 = .ok (.iload_n 1, 1) := by decide +kernel
theorem dX1_init_21 : decode cX1_init 21 = .ok (.bipush 6, 2) := by decide +kernel
theorem dX1_init_23 : decode cX1_init 23 = .ok (.if_icmp .ge 22, 3) := by decide +kernel
theorem dX1_init_26 : decode cX1_init 26 = .ok (.aload_n 0, 1) := by decide +kernel
theorem dX1_init_27 : decode cX1_init 27 = .ok (.getfield 15, 3) := by decide +kernel
theorem dX1_init_30 : decode cX1_init 30 = .ok (.iload_n 1, 1) := by decide +kernel
theorem dX1_init_31 : decode cX1_init 31 = .ok (.new 13, 3) := by decide +kernel
theorem dX1_init_34 : decode cX1_init 34 = .ok (.dup, 1) := by decide +kernel
theorem dX1_init_35 : decode cX1_init 35 = .ok (.invokespecial 19, 3) := by decide +kernel
theorem dX1_init_38 : decode cX1_init 38 = .ok (.aastore, 1) := by decide +kernel
theorem dX1_init_39 : decode cX1_init 39 = .ok (.iinc 1 1, 3) := by decide +kernel
theorem dX1_init_42 : decode cX1_init 42 = .ok (.goto (-22), 3) := by decide +kernel
theorem dX1_init_45 : decode cX1_init 45 = .ok (.return_, 1) := by decide +kernel
theorem dX1_record_0 : decode cX1_record 0 = .ok (.aload_n 0, 1) := by decide +kernel
theorem dX1_record_1 : decode cX1_record 1 = .ok (.getfield 7, 3) := by decide +kernel
theorem dX1_record_4 : decode cX1_record 4 = .ok (.bipush 6, 2) := by decide +kernel
theorem dX1_record_6 : decode cX1_record 6 = .ok (.if_icmp .lt 7, 3) := by decide +kernel
theorem dX1_record_9 : decode cX1_record 9 = .ok (.aload_n 0, 1) := by decide +kernel
theorem dX1_record_10 : decode cX1_record 10 = .ok (.invokevirtual 20, 3) := by decide +kernel
theorem dX1_record_13 : decode cX1_record 13 = .ok (.aload_n 0, 1) := by decide +kernel
theorem dX1_record_14 : decode cX1_record 14 = .ok (.getfield 15, 3) := by decide +kernel
theorem dX1_record_17 : decode cX1_record 17 = .ok (.aload_n 0, 1) := by decide +kernel
theorem dX1_record_18 : decode cX1_record 18 = .ok (.getfield 7, 3) := by decide +kernel
theorem dX1_record_21 : decode cX1_record 21 = .ok (.aaload, 1) := by decide +kernel
theorem dX1_record_22 : decode cX1_record 22 = .ok (.aload_n 1, 1) := by decide +kernel
theorem dX1_record_23 : decode cX1_record 23 = .ok (.invokevirtual 23, 3) := by decide +kernel
theorem dX1_record_26 : decode cX1_record 26 = .ok (.aload_n 0, 1) := by decide +kernel
theorem dX1_record_27 : decode cX1_record 27 = .ok (.dup, 1) := by decide +kernel
theorem dX1_record_28 : decode cX1_record 28 = .ok (.getfield 7, 3) := by decide +kernel
theorem dX1_record_31 : decode cX1_record 31 = .ok (.iconst 1, 1) := by decide +kernel
theorem dX1_record_32 : decode cX1_record 32 = .ok (.iadd, 1) := by decide +kernel
theorem dX1_record_33 : decode cX1_record 33 = .ok (.putfield 7, 3) := by decide +kernel
theorem dX1_record_36 : decode cX1_record 36 = .ok (.return_, 1) := by decide +kernel
theorem dX1_forgetOldest_0 : decode cX1_forgetOldest 0 = .ok (.aload_n 0, 1) := by decide +kernel
theorem dX1_forgetOldest_1 : decode cX1_forgetOldest 1 = .ok (.getfield 15, 3) := by decide +kernel
theorem dX1_forgetOldest_4 : decode cX1_forgetOldest 4 = .ok (.iconst 0, 1) := by decide +kernel
theorem dX1_forgetOldest_5 : decode cX1_forgetOldest 5 = .ok (.aaload, 1) := by decide +kernel
theorem dX1_forgetOldest_6 : decode cX1_forgetOldest 6 = .ok (.astore_n 1, 1) := by decide +kernel
theorem dX1_forgetOldest_7 : decode cX1_forgetOldest 7 = .ok (.iconst 1, 1) := by decide +kernel
theorem dX1_forgetOldest_8 : decode cX1_forgetOldest 8 = .ok (.istore_n 2, 1) := by decide +kernel
theorem dX1_forgetOldest_9 : decode cX1_forgetOldest 9 = .ok (.iload_n 2, 1) := by decide +kernel
theorem dX1_forgetOldest_10 : decode cX1_forgetOldest 10 = .ok (.bipush 6, 2) := by decide +kernel
theorem dX1_forgetOldest_12 : decode cX1_forgetOldest 12 = .ok (.if_icmp .ge 23, 3) := by decide +kernel
theorem dX1_forgetOldest_15 : decode cX1_forgetOldest 15 = .ok (.aload_n 0, 1) := by decide +kernel
theorem dX1_forgetOldest_16 : decode cX1_forgetOldest 16 = .ok (.getfield 15, 3) := by decide +kernel
theorem dX1_forgetOldest_19 : decode cX1_forgetOldest 19 = .ok (.iload_n 2, 1) := by decide +kernel
theorem dX1_forgetOldest_20 : decode cX1_forgetOldest 20 = .ok (.iconst 1, 1) := by decide +kernel
theorem dX1_forgetOldest_21 : decode cX1_forgetOldest 21 = .ok (.isub, 1) := by decide +kernel
theorem dX1_forgetOldest_22 : decode cX1_forgetOldest 22 = .ok (.aload_n 0, 1) := by decide +kernel
theorem dX1_forgetOldest_23 : decode cX1_forgetOldest 23 = .ok (.getfield 15, 3) := by decide +kernel
theorem dX1_forgetOldest_26 : decode cX1_forgetOldest 26 = .ok (.iload_n 2, 1) := by decide +kernel
theorem dX1_forgetOldest_27 : decode cX1_forgetOldest 27 = .ok (.aaload, 1) := by decide +kernel
theorem dX1_forgetOldest_28 : decode cX1_forgetOldest 28 = .ok (.aastore, 1) := by decide +kernel
theorem dX1_forgetOldest_29 : decode cX1_forgetOldest 29 = .ok (.iinc 2 1, 3) := by decide +kernel
theorem dX1_forgetOldest_32 : decode cX1_forgetOldest 32 = .ok (.goto (-23), 3) := by decide +kernel
theorem dX1_forgetOldest_35 : decode cX1_forgetOldest 35 = .ok (.aload_n 0, 1) := by decide +kernel
theorem dX1_forgetOldest_36 : decode cX1_forgetOldest 36 = .ok (.getfield 15, 3) := by decide +kernel
theorem dX1_forgetOldest_39 : decode cX1_forgetOldest 39 = .ok (.iconst 5, 1) := by decide +kernel
theorem dX1_forgetOldest_40 : decode cX1_forgetOldest 40 = .ok (.aload_n 1, 1) := by decide +kernel
theorem dX1_forgetOldest_41 : decode cX1_forgetOldest 41 = .ok (.aastore, 1) := by decide +kernel
theorem dX1_forgetOldest_42 : decode cX1_forgetOldest 42 = .ok (.aload_n 0, 1) := by decide +kernel
theorem dX1_forgetOldest_43 : decode cX1_forgetOldest 43 = .ok (.iconst 5, 1) := by decide +kernel
theorem dX1_forgetOldest_44 : decode cX1_forgetOldest 44 = .ok (.putfield 7, 3) := by decide +kernel
theorem dX1_forgetOldest_47 : decode cX1_forgetOldest 47 = .ok (.return_, 1) := by decide +kernel
theorem dX2_init_0 : decode cX2_init 0 = .ok (.aload_n 0, 1) := by decide +kernel
theorem dX2_init_1 : decode cX2_init 1 = .ok (.invokespecial 5, 3) := by decide +kernel
theorem dX2_init_4 : decode cX2_init 4 = .ok (.aload_n 0, 1) := by decide +kernel
theorem dX2_init_5 : decode cX2_init 5 = .ok (.iconst 0, 1) := by decide +kernel
theorem dX2_init_6 : decode cX2_init 6 = .ok (.putfield 11, 3) := by decide +kernel
theorem dX2_init_9 : decode cX2_init 9 = .ok (.aload_n 0, 1) := by decide +kernel
theorem dX2_init_10 : decode cX2_init 10 = .ok (.bipush 80, 2) := by decide +kernel
theorem dX2_init_12 : decode cX2_init 12 = .ok (.newarray .char, 2) := by decide +kernel
theorem dX2_init_14 : decode cX2_init 14 = .ok (.putfield 15, 3) := by decide +kernel
theorem dX2_init_17 : decode cX2_init 17 = .ok (.aload_n 0, 1) := by decide +kernel
theorem dX2_init_18 : decode cX2_init 18 = .ok (.iconst 0, 1) := by decide +kernel
theorem dX2_init_19 : decode cX2_init 19 = .ok (.putfield 19, 3) := by decide +kernel
theorem dX2_init_22 : decode cX2_init 22 = .ok (.aload_n 0, 1) := by decide +kernel
theorem dX2_init_23 : decode cX2_init 23 = .ok (.bipush 21, 2) := by decide +kernel
theorem dX2_init_25 : decode cX2_init 25 = .ok (.newarray .int, 2) := by decide +kernel
theorem dX2_init_27 : decode cX2_init 27 = .ok (.putfield 22, 3) := by decide +kernel
theorem dX2_init_30 : decode cX2_init 30 = .ok (.aload_n 0, 1) := by decide +kernel
theorem dX2_init_31 : decode cX2_init 31 = .ok (.bipush 21, 2) := by decide +kernel
theorem dX2_init_33 : decode cX2_init 33 = .ok (.newarray .int, 2) := by decide +kernel
theorem dX2_init_35 : decode cX2_init 35 = .ok (.putfield 26, 3) := by decide +kernel
theorem dX2_init_38 : decode cX2_init 38 = .ok (.aload_n 0, 1) := by decide +kernel
theorem dX2_init_39 : decode cX2_init 39 = .ok (.iconst 0, 1) := by decide +kernel
theorem dX2_init_40 : decode cX2_init 40 = .ok (.putfield 29, 3) := by decide +kernel
theorem dX2_init_43 : decode cX2_init 43 = .ok (.aload_n 0, 1) := by decide +kernel
theorem dX2_init_44 : decode cX2_init 44 = .ok (.iconst 0, 1) := by decide +kernel
theorem dX2_init_45 : decode cX2_init 45 = .ok (.putfield 33, 3) := by decide +kernel
theorem dX2_init_48 : decode cX2_init 48 = .ok (.aload_n 0, 1) := by decide +kernel
theorem dX2_init_49 : decode cX2_init 49 = .ok (.iconst 0, 1) := by decide +kernel
theorem dX2_init_50 : decode cX2_init 50 = .ok (.putfield 36, 3) := by decide +kernel
theorem dX2_init_53 : decode cX2_init 53 = .ok (.return_, 1) := by decide +kernel
theorem dX3_init_0 : decode cX3_init 0 = .ok (.aload_n 0, 1) := by decide +kernel
theorem dX3_init_1 : decode cX3_init 1 = .ok (.invokespecial 3, 3) := by decide +kernel
theorem dX3_init_4 : decode cX3_init 4 = .ok (.aload_n 0, 1) := by decide +kernel
theorem dX3_init_5 : decode cX3_init 5 = .ok (.new 9, 3) := by decide +kernel
theorem dX3_init_8 : decode cX3_init 8 = .ok (.dup, 1) := by decide +kernel
theorem dX3_init_9 : decode cX3_init 9 = .ok (.invokespecial 11, 3) := by decide +kernel
theorem dX3_init_12 : decode cX3_init 12 = .ok (.putfield 12, 3) := by decide +kernel
theorem dX3_init_15 : decode cX3_init 15 = .ok (.aload_n 0, 1) := by decide +kernel
theorem dX3_init_16 : decode cX3_init 16 = .ok (.iconst 0, 1) := by decide +kernel
theorem dX3_init_17 : decode cX3_init 17 = .ok (.putfield 18, 3) := by decide +kernel
theorem dX3_init_20 : decode cX3_init 20 = .ok (.aload_n 0, 1) := by decide +kernel
theorem dX3_init_21 : decode cX3_init 21 = .ok (.iconst 0, 1) := by decide +kernel
theorem dX3_init_22 : decode cX3_init 22 = .ok (.putfield 22, 3) := by decide +kernel
theorem dX3_init_25 : decode cX3_init 25 = .ok (.aload_n 0, 1) := by decide +kernel
theorem dX3_init_26 : decode cX3_init 26 = .ok (.iconst 0, 1) := by decide +kernel
theorem dX3_init_27 : decode cX3_init 27 = .ok (.putfield 25, 3) := by decide +kernel
theorem dX3_init_30 : decode cX3_init 30 = .ok (.aload_n 0, 1) := by decide +kernel
theorem dX3_init_31 : decode cX3_init 31 = .ok (.iconst 0, 1) := by decide +kernel
theorem dX3_init_32 : decode cX3_init 32 = .ok (.putfield 28, 3) := by decide +kernel
theorem dX3_init_35 : decode cX3_init 35 = .ok (.aload_n 0, 1) := by decide +kernel
theorem dX3_init_36 : decode cX3_init 36 = .ok (.bipush 18, 2) := by decide +kernel
theorem dX3_init_38 : decode cX3_init 38 = .ok (.newarray .int, 2) := by decide +kernel
theorem dX3_init_40 : decode cX3_init 40 = .ok (.putfield 31, 3) := by decide +kernel
theorem dX3_init_43 : decode cX3_init 43 = .ok (.return_, 1) := by decide +kernel
theorem dX3_findLeast_0 : decode cX3_findLeast 0 = .ok (.aload_n 0, 1) := by decide +kernel
theorem dX3_findLeast_1 : decode cX3_findLeast 1 = .ok (.getfield 12, 3) := by decide +kernel
theorem dX3_findLeast_4 : decode cX3_findLeast 4 = .ok (.aload_n 1, 1) := by decide +kernel
theorem dX3_findLeast_5 : decode cX3_findLeast 5 = .ok (.invokevirtual 35, 3) := by decide +kernel
theorem dX3_findLeast_8 : decode cX3_findLeast 8 = .ok (.istore_n 2, 1) := by decide +kernel
theorem dX3_findLeast_9 : decode cX3_findLeast 9 = .ok (.aload_n 0, 1) := by decide +kernel
theorem dX3_findLeast_10 : decode cX3_findLeast 10 = .ok (.iconst 0, 1) := by decide +kernel
theorem dX3_findLeast_11 : decode cX3_findLeast 11 = .ok (.putfield 18, 3) := by decide +kernel
theorem dX3_findLeast_14 : decode cX3_findLeast 14 = .ok (.aload_n 0, 1) := by decide +kernel
theorem dX3_findLeast_15 : decode cX3_findLeast 15 = .ok (.ldc 39, 2) := by decide +kernel
theorem dX3_findLeast_17 : decode cX3_findLeast 17 = .ok (.putfield 22, 3) := by decide +kernel
theorem dX3_findLeast_20 : decode cX3_findLeast 20 = .ok (.iconst 0, 1) := by decide +kernel
theorem dX3_findLeast_21 : decode cX3_findLeast 21 = .ok (.istore_n 3, 1) := by decide +kernel
theorem dX3_findLeast_22 : decode cX3_findLeast 22 = .ok (.iload_n 3, 1) := by decide +kernel
theorem dX3_findLeast_23 : decode cX3_findLeast 23 = .ok (.iload_n 2, 1) := by decide +kernel
theorem dX3_findLeast_24 : decode cX3_findLeast 24 = .ok (.if_icmp .ge 63, 3) := by decide +kernel
theorem dX3_findLeast_27 : decode cX3_findLeast 27 = .ok (.aload_n 0, 1) := by decide +kernel
theorem dX3_findLeast_28 : decode cX3_findLeast 28 = .ok (.getfield 12, 3) := by decide +kernel
theorem dX3_findLeast_31 : decode cX3_findLeast 31 = .ok (.iload_n 3, 1) := by decide +kernel
theorem dX3_findLeast_32 : decode cX3_findLeast 32 = .ok (.invokevirtual 40, 3) := by decide +kernel
theorem dX3_findLeast_35 : decode cX3_findLeast 35 = .ok (.aload_n 0, 1) := by decide +kernel
theorem dX3_findLeast_36 : decode cX3_findLeast 36 = .ok (.getfield 12, 3) := by decide +kernel
theorem dX3_findLeast_39 : decode cX3_findLeast 39 = .ok (.invokevirtual 44, 3) := by decide +kernel
theorem dX3_findLeast_42 : decode cX3_findLeast 42 = .ok (.ifCond .eq 39, 3) := by decide +kernel
theorem dX3_findLeast_45 : decode cX3_findLeast 45 = .ok (.aload_n 0, 1) := by decide +kernel
theorem dX3_findLeast_46 : decode cX3_findLeast 46 = .ok (.getfield 12, 3) := by decide +kernel
theorem dX3_findLeast_49 : decode cX3_findLeast 49 = .ok (.invokevirtual 48, 3) := by decide +kernel
theorem dX3_findLeast_52 : decode cX3_findLeast 52 = .ok (.aload_n 0, 1) := by decide +kernel
theorem dX3_findLeast_53 : decode cX3_findLeast 53 = .ok (.getfield 22, 3) := by decide +kernel
theorem dX3_findLeast_56 : decode cX3_findLeast 56 = .ok (.if_icmp .ge 25, 3) := by decide +kernel
theorem dX3_findLeast_59 : decode cX3_findLeast 59 = .ok (.aload_n 0, 1) := by decide +kernel
theorem dX3_findLeast_60 : decode cX3_findLeast 60 = .ok (.aload_n 0, 1) := by decide +kernel
theorem dX3_findLeast_61 : decode cX3_findLeast 61 = .ok (.getfield 12, 3) := by decide +kernel
theorem dX3_findLeast_64 : decode cX3_findLeast 64 = .ok (.invokevirtual 52, 3) := by decide +kernel
theorem dX3_findLeast_67 : decode cX3_findLeast 67 = .ok (.putfield 18, 3) := by decide +kernel
theorem dX3_findLeast_70 : decode cX3_findLeast 70 = .ok (.aload_n 0, 1) := by decide +kernel
theorem dX3_findLeast_71 : decode cX3_findLeast 71 = .ok (.aload_n 0, 1) := by decide +kernel
theorem dX3_findLeast_72 : decode cX3_findLeast 72 = .ok (.getfield 12, 3) := by decide +kernel
theorem dX3_findLeast_75 : decode cX3_findLeast 75 = .ok (.invokevirtual 48, 3) := by decide +kernel
theorem dX3_findLeast_78 : decode cX3_findLeast 78 = .ok (.putfield 22, 3) := by decide +kernel
theorem dX3_findLeast_81 : decode cX3_findLeast 81 = .ok (.iinc 3 1, 3) := by decide +kernel
theorem dX3_findLeast_84 : decode cX3_findLeast 84 = .ok (.goto (-62), 3) := by decide +kernel
theorem dX3_findLeast_87 : decode cX3_findLeast 87 = .ok (.return_, 1) := by decide +kernel
theorem dX3_countUpTo_0 : decode cX3_countUpTo 0 = .ok (.aload_n 0, 1) := by decide +kernel
theorem dX3_countUpTo_1 : decode cX3_countUpTo 1 = .ok (.getfield 12, 3) := by decide +kernel
theorem dX3_countUpTo_4 : decode cX3_countUpTo 4 = .ok (.aload_n 1, 1) := by decide +kernel
theorem dX3_countUpTo_5 : decode cX3_countUpTo 5 = .ok (.invokevirtual 35, 3) := by decide +kernel
theorem dX3_countUpTo_8 : decode cX3_countUpTo 8 = .ok (.istore_n 3, 1) := by decide +kernel
theorem dX3_countUpTo_9 : decode cX3_countUpTo 9 = .ok (.iconst 0, 1) := by decide +kernel
theorem dX3_countUpTo_10 : decode cX3_countUpTo 10 = .ok (.istore 4, 2) := by decide +kernel
theorem dX3_countUpTo_12 : decode cX3_countUpTo 12 = .ok (.iconst 0, 1) := by decide +kernel
theorem dX3_countUpTo_13 : decode cX3_countUpTo 13 = .ok (.istore 5, 2) := by decide +kernel
theorem dX3_countUpTo_15 : decode cX3_countUpTo 15 = .ok (.iload 5, 2) := by decide +kernel
theorem dX3_countUpTo_17 : decode cX3_countUpTo 17 = .ok (.iload_n 3, 1) := by decide +kernel
theorem dX3_countUpTo_18 : decode cX3_countUpTo 18 = .ok (.if_icmp .ge 42, 3) := by decide +kernel
theorem dX3_countUpTo_21 : decode cX3_countUpTo 21 = .ok (.aload_n 0, 1) := by decide +kernel
theorem dX3_countUpTo_22 : decode cX3_countUpTo 22 = .ok (.getfield 12, 3) := by decide +kernel
theorem dX3_countUpTo_25 : decode cX3_countUpTo 25 = .ok (.iload 5, 2) := by decide +kernel
theorem dX3_countUpTo_27 : decode cX3_countUpTo 27 = .ok (.invokevirtual 40, 3) := by decide +kernel
theorem dX3_countUpTo_30 : decode cX3_countUpTo 30 = .ok (.aload_n 0, 1) := by decide +kernel
theorem dX3_countUpTo_31 : decode cX3_countUpTo 31 = .ok (.getfield 12, 3) := by decide +kernel
theorem dX3_countUpTo_34 : decode cX3_countUpTo 34 = .ok (.invokevirtual 44, 3) := by decide +kernel
theorem dX3_countUpTo_37 : decode cX3_countUpTo 37 = .ok (.ifCond .eq 17, 3) := by decide +kernel
theorem dX3_countUpTo_40 : decode cX3_countUpTo 40 = .ok (.aload_n 0, 1) := by decide +kernel
theorem dX3_countUpTo_41 : decode cX3_countUpTo 41 = .ok (.getfield 12, 3) := by decide +kernel
theorem dX3_countUpTo_44 : decode cX3_countUpTo 44 = .ok (.invokevirtual 48, 3) := by decide +kernel
theorem dX3_countUpTo_47 : decode cX3_countUpTo 47 = .ok (.iload_n 2, 1) := by decide +kernel
theorem dX3_countUpTo_48 : decode cX3_countUpTo 48 = .ok (.if_icmp .gt 6, 3) := by decide +kernel
theorem dX3_countUpTo_51 : decode cX3_countUpTo 51 = .ok (.iinc 4 1, 3) := by decide +kernel
theorem dX3_countUpTo_54 : decode cX3_countUpTo 54 = .ok (.iinc 5 1, 3) := by decide +kernel
theorem dX3_countUpTo_57 : decode cX3_countUpTo 57 = .ok (.goto (-42), 3) := by decide +kernel
theorem dX3_countUpTo_60 : decode cX3_countUpTo 60 = .ok (.iload 4, 2) := by decide +kernel
theorem dX3_countUpTo_62 : decode cX3_countUpTo 62 = .ok (.ireturn, 1) := by decide +kernel
theorem dX3_countTight_0 : decode cX3_countTight 0 = .ok (.aload_n 0, 1) := by decide +kernel
theorem dX3_countTight_1 : decode cX3_countTight 1 = .ok (.getfield 12, 3) := by decide +kernel
theorem dX3_countTight_4 : decode cX3_countTight 4 = .ok (.aload_n 1, 1) := by decide +kernel
theorem dX3_countTight_5 : decode cX3_countTight 5 = .ok (.invokevirtual 35, 3) := by decide +kernel
theorem dX3_countTight_8 : decode cX3_countTight 8 = .ok (.istore_n 2, 1) := by decide +kernel
theorem dX3_countTight_9 : decode cX3_countTight 9 = .ok (.iconst 0, 1) := by decide +kernel
theorem dX3_countTight_10 : decode cX3_countTight 10 = .ok (.istore_n 3, 1) := by decide +kernel
theorem dX3_countTight_11 : decode cX3_countTight 11 = .ok (.iconst 0, 1) := by decide +kernel
theorem dX3_countTight_12 : decode cX3_countTight 12 = .ok (.istore 4, 2) := by decide +kernel
theorem dX3_countTight_14 : decode cX3_countTight 14 = .ok (.iload 4, 2) := by decide +kernel
theorem dX3_countTight_16 : decode cX3_countTight 16 = .ok (.iload_n 2, 1) := by decide +kernel
theorem dX3_countTight_17 : decode cX3_countTight 17 = .ok (.if_icmp .ge 41, 3) := by decide +kernel
theorem dX3_countTight_20 : decode cX3_countTight 20 = .ok (.aload_n 0, 1) := by decide +kernel
theorem dX3_countTight_21 : decode cX3_countTight 21 = .ok (.getfield 12, 3) := by decide +kernel
theorem dX3_countTight_24 : decode cX3_countTight 24 = .ok (.iload 4, 2) := by decide +kernel
theorem dX3_countTight_26 : decode cX3_countTight 26 = .ok (.invokevirtual 40, 3) := by decide +kernel
theorem dX3_countTight_29 : decode cX3_countTight 29 = .ok (.aload_n 0, 1) := by decide +kernel
theorem dX3_countTight_30 : decode cX3_countTight 30 = .ok (.getfield 12, 3) := by decide +kernel
theorem dX3_countTight_33 : decode cX3_countTight 33 = .ok (.invokevirtual 44, 3) := by decide +kernel
theorem dX3_countTight_36 : decode cX3_countTight 36 = .ok (.ifCond .eq 16, 3) := by decide +kernel
theorem dX3_countTight_39 : decode cX3_countTight 39 = .ok (.aload_n 0, 1) := by decide +kernel
theorem dX3_countTight_40 : decode cX3_countTight 40 = .ok (.getfield 12, 3) := by decide +kernel
theorem dX3_countTight_43 : decode cX3_countTight 43 = .ok (.invokevirtual 55, 3) := by decide +kernel
theorem dX3_countTight_46 : decode cX3_countTight 46 = .ok (.ifCond .eq 6, 3) := by decide +kernel
theorem dX3_countTight_49 : decode cX3_countTight 49 = .ok (.iinc 3 1, 3) := by decide +kernel
theorem dX3_countTight_52 : decode cX3_countTight 52 = .ok (.iinc 4 1, 3) := by decide +kernel
theorem dX3_countTight_55 : decode cX3_countTight 55 = .ok (.goto (-41), 3) := by decide +kernel
theorem dX3_countTight_58 : decode cX3_countTight 58 = .ok (.iload_n 3, 1) := by decide +kernel
theorem dX3_countTight_59 : decode cX3_countTight 59 = .ok (.ireturn, 1) := by decide +kernel
theorem dX3_findDearest_0 : decode cX3_findDearest 0 = .ok (.aload_n 0, 1) := by decide +kernel
theorem dX3_findDearest_1 : decode cX3_findDearest 1 = .ok (.aload_n 1, 1) := by decide +kernel
theorem dX3_findDearest_2 : decode cX3_findDearest 2 = .ok (.invokevirtual 74, 3) := by decide +kernel
theorem dX3_findDearest_5 : decode cX3_findDearest 5 = .ok (.aload_n 0, 1) := by decide +kernel
theorem dX3_findDearest_6 : decode cX3_findDearest 6 = .ok (.bipush (-6), 2) := by decide +kernel
theorem dX3_findDearest_8 : decode cX3_findDearest 8 = .ok (.putfield 25, 3) := by decide +kernel
theorem dX3_findDearest_11 : decode cX3_findDearest 11 = .ok (.aload_n 0, 1) := by decide +kernel
theorem dX3_findDearest_12 : decode cX3_findDearest 12 = .ok (.ldc 39, 2) := by decide +kernel
theorem dX3_findDearest_14 : decode cX3_findDearest 14 = .ok (.putfield 28, 3) := by decide +kernel
theorem dX3_findDearest_17 : decode cX3_findDearest 17 = .ok (.iconst 0, 1) := by decide +kernel
theorem dX3_findDearest_18 : decode cX3_findDearest 18 = .ok (.istore_n 2, 1) := by decide +kernel
theorem dX3_findDearest_19 : decode cX3_findDearest 19 = .ok (.iload_n 2, 1) := by decide +kernel
theorem dX3_findDearest_20 : decode cX3_findDearest 20 = .ok (.bipush 18, 2) := by decide +kernel
theorem dX3_findDearest_22 : decode cX3_findDearest 22 = .ok (.if_icmp .ge 52, 3) := by decide +kernel
theorem dX3_findDearest_25 : decode cX3_findDearest 25 = .ok (.aload_n 0, 1) := by decide +kernel
theorem dX3_findDearest_26 : decode cX3_findDearest 26 = .ok (.getfield 22, 3) := by decide +kernel
theorem dX3_findDearest_29 : decode cX3_findDearest 29 = .ok (.aload_n 0, 1) := by decide +kernel
theorem dX3_findDearest_30 : decode cX3_findDearest 30 = .ok (.getfield 31, 3) := by decide +kernel
theorem dX3_findDearest_33 : decode cX3_findDearest 33 = .ok (.iload_n 2, 1) := by decide +kernel
theorem dX3_findDearest_34 : decode cX3_findDearest 34 = .ok (.iaload, 1) := by decide +kernel
theorem dX3_findDearest_35 : decode cX3_findDearest 35 = .ok (.invokestatic 62, 3) := by decide +kernel
theorem dX3_findDearest_38 : decode cX3_findDearest 38 = .ok (.istore_n 3, 1) := by decide +kernel
theorem dX3_findDearest_39 : decode cX3_findDearest 39 = .ok (.aload_n 1, 1) := by decide +kernel
theorem dX3_findDearest_40 : decode cX3_findDearest 40 = .ok (.getfield 78, 3) := by decide +kernel
theorem dX3_findDearest_43 : decode cX3_findDearest 43 = .ok (.iload_n 2, 1) := by decide +kernel
theorem dX3_findDearest_44 : decode cX3_findDearest 44 = .ok (.invokestatic 58, 3) := by decide +kernel
theorem dX3_findDearest_47 : decode cX3_findDearest 47 = .ok (.ifCond .eq 21, 3) := by decide +kernel
theorem dX3_findDearest_50 : decode cX3_findDearest 50 = .ok (.iload_n 3, 1) := by decide +kernel
theorem dX3_findDearest_51 : decode cX3_findDearest 51 = .ok (.aload_n 0, 1) := by decide +kernel
theorem dX3_findDearest_52 : decode cX3_findDearest 52 = .ok (.getfield 28, 3) := by decide +kernel
theorem dX3_findDearest_55 : decode cX3_findDearest 55 = .ok (.if_icmp .ge 13, 3) := by decide +kernel
theorem dX3_findDearest_58 : decode cX3_findDearest 58 = .ok (.aload_n 0, 1) := by decide +kernel
theorem dX3_findDearest_59 : decode cX3_findDearest 59 = .ok (.iload_n 2, 1) := by decide +kernel
theorem dX3_findDearest_60 : decode cX3_findDearest 60 = .ok (.putfield 25, 3) := by decide +kernel
theorem dX3_findDearest_63 : decode cX3_findDearest 63 = .ok (.aload_n 0, 1) := by decide +kernel
theorem dX3_findDearest_64 : decode cX3_findDearest 64 = .ok (.iload_n 3, 1) := by decide +kernel
theorem dX3_findDearest_65 : decode cX3_findDearest 65 = .ok (.putfield 28, 3) := by decide +kernel
theorem dX3_findDearest_68 : decode cX3_findDearest 68 = .ok (.iinc 2 1, 3) := by decide +kernel
theorem dX3_findDearest_71 : decode cX3_findDearest 71 = .ok (.goto (-52), 3) := by decide +kernel
theorem dX3_findDearest_74 : decode cX3_findDearest 74 = .ok (.return_, 1) := by decide +kernel
theorem dX3_findLeastMissingOne_0 : decode cX3_findLeastMissingOne 0 = .ok (.aload_n 0, 1) := by decide +kernel
theorem dX3_findLeastMissingOne_1 : decode cX3_findLeastMissingOne 1 = .ok (.getfield 12, 3) := by decide +kernel
theorem dX3_findLeastMissingOne_4 : decode cX3_findLeastMissingOne 4 = .ok (.aload_n 1, 1) := by decide +kernel
theorem dX3_findLeastMissingOne_5 : decode cX3_findLeastMissingOne 5 = .ok (.invokevirtual 35, 3) := by decide +kernel
theorem dX3_findLeastMissingOne_8 : decode cX3_findLeastMissingOne 8 = .ok (.istore_n 2, 1) := by decide +kernel
theorem dX3_findLeastMissingOne_9 : decode cX3_findLeastMissingOne 9 = .ok (.aload_n 0, 1) := by decide +kernel
theorem dX3_findLeastMissingOne_10 : decode cX3_findLeastMissingOne 10 = .ok (.ldc 39, 2) := by decide +kernel
theorem dX3_findLeastMissingOne_12 : decode cX3_findLeastMissingOne 12 = .ok (.putfield 22, 3) := by decide +kernel
theorem dX3_findLeastMissingOne_15 : decode cX3_findLeastMissingOne 15 = .ok (.aload_n 0, 1) := by decide +kernel
theorem dX3_findLeastMissingOne_16 : decode cX3_findLeastMissingOne 16 = .ok (.getfield 31, 3) := by decide +kernel
theorem dX3_findLeastMissingOne_19 : decode cX3_findLeastMissingOne 19 = .ok (.ldc 39, 2) := by decide +kernel
theorem dX3_findLeastMissingOne_21 : decode cX3_findLeastMissingOne 21 = .ok (.invokestatic 81, 3) := by decide +kernel
theorem dX3_findLeastMissingOne_24 : decode cX3_findLeastMissingOne 24 = .ok (.iconst 0, 1) := by decide +kernel
theorem dX3_findLeastMissingOne_25 : decode cX3_findLeastMissingOne 25 = .ok (.istore_n 3, 1) := by decide +kernel
theorem dX3_findLeastMissingOne_26 : decode cX3_findLeastMissingOne 26 = .ok (.iload_n 3, 1) := by decide +kernel
theorem dX3_findLeastMissingOne_27 : decode cX3_findLeastMissingOne 27 = .ok (.iload_n 2, 1) := by decide +kernel
theorem dX3_findLeastMissingOne_28 : decode cX3_findLeastMissingOne 28 = .ok (.if_icmp .ge 77, 3) := by decide +kernel
theorem dX3_findLeastMissingOne_31 : decode cX3_findLeastMissingOne 31 = .ok (.aload_n 0, 1) := by decide +kernel
theorem dX3_findLeastMissingOne_32 : decode cX3_findLeastMissingOne 32 = .ok (.getfield 12, 3) := by decide +kernel
theorem dX3_findLeastMissingOne_35 : decode cX3_findLeastMissingOne 35 = .ok (.iload_n 3, 1) := by decide +kernel
theorem dX3_findLeastMissingOne_36 : decode cX3_findLeastMissingOne 36 = .ok (.invokevirtual 40, 3) := by decide +kernel
theorem dX3_findLeastMissingOne_39 : decode cX3_findLeastMissingOne 39 = .ok (.aload_n 0, 1) := by decide +kernel
theorem dX3_findLeastMissingOne_40 : decode cX3_findLeastMissingOne 40 = .ok (.getfield 12, 3) := by decide +kernel
theorem dX3_findLeastMissingOne_43 : decode cX3_findLeastMissingOne 43 = .ok (.invokevirtual 87, 3) := by decide +kernel
theorem dX3_findLeastMissingOne_46 : decode cX3_findLeastMissingOne 46 = .ok (.istore 4, 2) := by decide +kernel
theorem dX3_findLeastMissingOne_48 : decode cX3_findLeastMissingOne 48 = .ok (.iload 4, 2) := by decide +kernel
theorem dX3_findLeastMissingOne_50 : decode cX3_findLeastMissingOne 50 = .ok (.ifCond .ne 24, 3) := by decide +kernel
theorem dX3_findLeastMissingOne_53 : decode cX3_findLeastMissingOne 53 = .ok (.aload_n 0, 1) := by decide +kernel
theorem dX3_findLeastMissingOne_54 : decode cX3_findLeastMissingOne 54 = .ok (.aload_n 0, 1) := by decide +kernel
theorem dX3_findLeastMissingOne_55 : decode cX3_findLeastMissingOne 55 = .ok (.getfield 22, 3) := by decide +kernel
theorem dX3_findLeastMissingOne_58 : decode cX3_findLeastMissingOne 58 = .ok (.aload_n 0, 1) := by decide +kernel
theorem dX3_findLeastMissingOne_59 : decode cX3_findLeastMissingOne 59 = .ok (.getfield 12, 3) := by decide +kernel
theorem dX3_findLeastMissingOne_62 : decode cX3_findLeastMissingOne 62 = .ok (.invokevirtual 48, 3) := by decide +kernel
theorem dX3_findLeastMissingOne_65 : decode cX3_findLeastMissingOne 65 = .ok (.invokestatic 62, 3) := by decide +kernel
theorem dX3_findLeastMissingOne_68 : decode cX3_findLeastMissingOne 68 = .ok (.putfield 22, 3) := by decide +kernel
theorem dX3_findLeastMissingOne_71 : decode cX3_findLeastMissingOne 71 = .ok (.goto 28, 3) := by decide +kernel
theorem dX3_findLeastMissingOne_74 : decode cX3_findLeastMissingOne 74 = .ok (.iload 4, 2) := by decide +kernel
theorem dX3_findLeastMissingOne_76 : decode cX3_findLeastMissingOne 76 = .ok (.invokestatic 90, 3) := by decide +kernel
theorem dX3_findLeastMissingOne_79 : decode cX3_findLeastMissingOne 79 = .ok (.iconst 1, 1) := by decide +kernel
theorem dX3_findLeastMissingOne_80 : decode cX3_findLeastMissingOne 80 = .ok (.if_icmp .ne 19, 3) := by decide +kernel
theorem dX3_findLeastMissingOne_83 : decode cX3_findLeastMissingOne 83 = .ok (.aload_n 0, 1) := by decide +kernel
theorem dX3_findLeastMissingOne_84 : decode cX3_findLeastMissingOne 84 = .ok (.iload 4, 2) := by decide +kernel
theorem dX3_findLeastMissingOne_86 : decode cX3_findLeastMissingOne 86 = .ok (.invokestatic 95, 3) := by decide +kernel
theorem dX3_findLeastMissingOne_89 : decode cX3_findLeastMissingOne 89 = .ok (.aload_n 0, 1) := by decide +kernel
theorem dX3_findLeastMissingOne_90 : decode cX3_findLeastMissingOne 90 = .ok (.getfield 12, 3) := by decide +kernel
theorem dX3_findLeastMissingOne_93 : decode cX3_findLeastMissingOne 93 = .ok (.invokevirtual 48, 3) := by decide +kernel
theorem dX3_findLeastMissingOne_96 : decode cX3_findLeastMissingOne 96 = .ok (.invokevirtual 98, 3) := by decide +kernel
theorem dX3_findLeastMissingOne_99 : decode cX3_findLeastMissingOne 99 = .ok (.iinc 3 1, 3) := by decide +kernel
theorem dX3_findLeastMissingOne_102 : decode cX3_findLeastMissingOne 102 = .ok (.goto (-76), 3) := by decide +kernel
theorem dX3_findLeastMissingOne_105 : decode cX3_findLeastMissingOne 105 = .ok (.return_, 1) := by decide +kernel
theorem dX3_noteMissingOne_0 : decode cX3_noteMissingOne 0 = .ok (.iload_n 1, 1) := by decide +kernel
theorem dX3_noteMissingOne_1 : decode cX3_noteMissingOne 1 = .ok (.bipush 18, 2) := by decide +kernel
theorem dX3_noteMissingOne_3 : decode cX3_noteMissingOne 3 = .ok (.if_icmp .ge 19, 3) := by decide +kernel
theorem dX3_noteMissingOne_6 : decode cX3_noteMissingOne 6 = .ok (.aload_n 0, 1) := by decide +kernel
theorem dX3_noteMissingOne_7 : decode cX3_noteMissingOne 7 = .ok (.getfield 31, 3) := by decide +kernel
theorem dX3_noteMissingOne_10 : decode cX3_noteMissingOne 10 = .ok (.iload_n 1, 1) := by decide +kernel
theorem dX3_noteMissingOne_11 : decode cX3_noteMissingOne 11 = .ok (.aload_n 0, 1) := by decide +kernel
theorem dX3_noteMissingOne_12 : decode cX3_noteMissingOne 12 = .ok (.getfield 31, 3) := by decide +kernel
theorem dX3_noteMissingOne_15 : decode cX3_noteMissingOne 15 = .ok (.iload_n 1, 1) := by decide +kernel
theorem dX3_noteMissingOne_16 : decode cX3_noteMissingOne 16 = .ok (.iaload, 1) := by decide +kernel
theorem dX3_noteMissingOne_17 : decode cX3_noteMissingOne 17 = .ok (.iload_n 2, 1) := by decide +kernel
theorem dX3_noteMissingOne_18 : decode cX3_noteMissingOne 18 = .ok (.invokestatic 62, 3) := by decide +kernel
theorem dX3_noteMissingOne_21 : decode cX3_noteMissingOne 21 = .ok (.iastore, 1) := by decide +kernel
theorem dX3_noteMissingOne_22 : decode cX3_noteMissingOne 22 = .ok (.return_, 1) := by decide +kernel
theorem dX4_init_0 : decode cX4_init 0 = .ok (.aload_n 0, 1) := by decide +kernel
theorem dX4_init_1 : decode cX4_init 1 = .ok (.invokespecial 3, 3) := by decide +kernel
theorem dX4_init_4 : decode cX4_init 4 = .ok (.aload_n 0, 1) := by decide +kernel
theorem dX4_init_5 : decode cX4_init 5 = .ok (.iconst 0, 1) := by decide +kernel
theorem dX4_init_6 : decode cX4_init 6 = .ok (.putfield 9, 3) := by decide +kernel
theorem dX4_init_9 : decode cX4_init 9 = .ok (.aload_n 0, 1) := by decide +kernel
theorem dX4_init_10 : decode cX4_init 10 = .ok (.iconst 0, 1) := by decide +kernel
theorem dX4_init_11 : decode cX4_init 11 = .ok (.putfield 15, 3) := by decide +kernel
theorem dX4_init_14 : decode cX4_init 14 = .ok (.aload_n 0, 1) := by decide +kernel
theorem dX4_init_15 : decode cX4_init 15 = .ok (.iconst 0, 1) := by decide +kernel
theorem dX4_init_16 : decode cX4_init 16 = .ok (.putfield 18, 3) := by decide +kernel
theorem dX4_init_19 : decode cX4_init 19 = .ok (.aload_n 0, 1) := by decide +kernel
theorem dX4_init_20 : decode cX4_init 20 = .ok (.iconst 0, 1) := by decide +kernel
theorem dX4_init_21 : decode cX4_init 21 = .ok (.putfield 21, 3) := by decide +kernel
theorem dX4_init_24 : decode cX4_init 24 = .ok (.aload_n 0, 1) := by decide +kernel
theorem dX4_init_25 : decode cX4_init 25 = .ok (.iconst 0, 1) := by decide +kernel
theorem dX4_init_26 : decode cX4_init 26 = .ok (.putfield 24, 3) := by decide +kernel
theorem dX4_init_29 : decode cX4_init 29 = .ok (.aload_n 0, 1) := by decide +kernel
theorem dX4_init_30 : decode cX4_init 30 = .ok (.iconst 0, 1) := by decide +kernel
theorem dX4_init_31 : decode cX4_init 31 = .ok (.putfield 27, 3) := by decide +kernel
theorem dX4_init_34 : decode cX4_init 34 = .ok (.aload_n 0, 1) := by decide +kernel
theorem dX4_init_35 : decode cX4_init 35 = .ok (.bipush 18, 2) := by decide +kernel
theorem dX4_init_37 : decode cX4_init 37 = .ok (.newarray .int, 2) := by decide +kernel
theorem dX4_init_39 : decode cX4_init 39 = .ok (.putfield 30, 3) := by decide +kernel
theorem dX4_init_42 : decode cX4_init 42 = .ok (.aload_n 0, 1) := by decide +kernel
theorem dX4_init_43 : decode cX4_init 43 = .ok (.bipush 14, 2) := by decide +kernel
theorem dX4_init_45 : decode cX4_init 45 = .ok (.newarray .int, 2) := by decide +kernel
theorem dX4_init_47 : decode cX4_init 47 = .ok (.putfield 34, 3) := by decide +kernel
theorem dX4_init_50 : decode cX4_init 50 = .ok (.aload_n 0, 1) := by decide +kernel
theorem dX4_init_51 : decode cX4_init 51 = .ok (.bipush 14, 2) := by decide +kernel
theorem dX4_init_53 : decode cX4_init 53 = .ok (.newarray .int, 2) := by decide +kernel
theorem dX4_init_55 : decode cX4_init 55 = .ok (.putfield 37, 3) := by decide +kernel
theorem dX4_init_58 : decode cX4_init 58 = .ok (.aload_n 0, 1) := by decide +kernel
theorem dX4_init_59 : decode cX4_init 59 = .ok (.bipush 14, 2) := by decide +kernel
theorem dX4_init_61 : decode cX4_init 61 = .ok (.newarray .int, 2) := by decide +kernel
theorem dX4_init_63 : decode cX4_init 63 = .ok (.putfield 40, 3) := by decide +kernel
theorem dX4_init_66 : decode cX4_init 66 = .ok (.return_, 1) := by decide +kernel
theorem dX4_raiseAll_0 : decode cX4_raiseAll 0 = .ok (.aload_n 0, 1) := by decide +kernel
theorem dX4_raiseAll_1 : decode cX4_raiseAll 1 = .ok (.aload_n 1, 1) := by decide +kernel
theorem dX4_raiseAll_2 : decode cX4_raiseAll 2 = .ok (.invokevirtual 43, 3) := by decide +kernel
theorem dX4_raiseAll_5 : decode cX4_raiseAll 5 = .ok (.iconst 0, 1) := by decide +kernel
theorem dX4_raiseAll_6 : decode cX4_raiseAll 6 = .ok (.istore_n 2, 1) := by decide +kernel
theorem dX4_raiseAll_7 : decode cX4_raiseAll 7 = .ok (.iload_n 2, 1) := by decide +kernel
theorem dX4_raiseAll_8 : decode cX4_raiseAll 8 = .ok (.sipush 500, 3) := by decide +kernel
theorem dX4_raiseAll_11 : decode cX4_raiseAll 11 = .ok (.if_icmp .ge 28, 3) := by decide +kernel
theorem dX4_raiseAll_14 : decode cX4_raiseAll 14 = .ok (.aload_n 0, 1) := by decide +kernel
theorem dX4_raiseAll_15 : decode cX4_raiseAll 15 = .ok (.getfield 9, 3) := by decide +kernel
theorem dX4_raiseAll_18 : decode cX4_raiseAll 18 = .ok (.aload_n 0, 1) := by decide +kernel
theorem dX4_raiseAll_19 : decode cX4_raiseAll 19 = .ok (.getfield 15, 3) := by decide +kernel
theorem dX4_raiseAll_22 : decode cX4_raiseAll 22 = .ok (.iconst (-1), 1) := by decide +kernel
theorem dX4_raiseAll_23 : decode cX4_raiseAll 23 = .ok (.ixor, 1) := by decide +kernel
theorem dX4_raiseAll_24 : decode cX4_raiseAll 24 = .ok (.iand, 1) := by decide +kernel
theorem dX4_raiseAll_25 : decode cX4_raiseAll 25 = .ok (.ifCond .eq 14, 3) := by decide +kernel
theorem dX4_raiseAll_28 : decode cX4_raiseAll 28 = .ok (.aload_n 0, 1) := by decide +kernel
theorem dX4_raiseAll_29 : decode cX4_raiseAll 29 = .ok (.aload_n 1, 1) := by decide +kernel
theorem dX4_raiseAll_30 : decode cX4_raiseAll 30 = .ok (.invokevirtual 47, 3) := by decide +kernel
theorem dX4_raiseAll_33 : decode cX4_raiseAll 33 = .ok (.iinc 2 1, 3) := by decide +kernel
theorem dX4_raiseAll_36 : decode cX4_raiseAll 36 = .ok (.goto (-29), 3) := by decide +kernel
theorem dX4_raiseAll_39 : decode cX4_raiseAll 39 = .ok (.aload_n 0, 1) := by decide +kernel
theorem dX4_raiseAll_40 : decode cX4_raiseAll 40 = .ok (.aload_n 1, 1) := by decide +kernel
theorem dX4_raiseAll_41 : decode cX4_raiseAll 41 = .ok (.invokevirtual 50, 3) := by decide +kernel
theorem dX4_raiseAll_44 : decode cX4_raiseAll 44 = .ok (.return_, 1) := by decide +kernel
theorem dX4_begin_0 : decode cX4_begin 0 = .ok (.aload_n 0, 1) := by decide +kernel
theorem dX4_begin_1 : decode cX4_begin 1 = .ok (.aload_n 1, 1) := by decide +kernel
theorem dX4_begin_2 : decode cX4_begin 2 = .ok (.aload_n 1, 1) := by decide +kernel
theorem dX4_begin_3 : decode cX4_begin 3 = .ok (.iconst 1, 1) := by decide +kernel
theorem dX4_begin_4 : decode cX4_begin 4 = .ok (.invokevirtual 53, 3) := by decide +kernel
theorem dX4_begin_7 : decode cX4_begin 7 = .ok (.invokevirtual 59, 3) := by decide +kernel
theorem dX4_begin_10 : decode cX4_begin 10 = .ok (.putfield 9, 3) := by decide +kernel
theorem dX4_begin_13 : decode cX4_begin 13 = .ok (.aload_n 0, 1) := by decide +kernel
theorem dX4_begin_14 : decode cX4_begin 14 = .ok (.iconst 0, 1) := by decide +kernel
theorem dX4_begin_15 : decode cX4_begin 15 = .ok (.putfield 15, 3) := by decide +kernel
theorem dX4_begin_18 : decode cX4_begin 18 = .ok (.aload_n 0, 1) := by decide +kernel
theorem dX4_begin_19 : decode cX4_begin 19 = .ok (.iconst 0, 1) := by decide +kernel
theorem dX4_begin_20 : decode cX4_begin 20 = .ok (.putfield 18, 3) := by decide +kernel
theorem dX4_begin_23 : decode cX4_begin 23 = .ok (.aload_n 0, 1) := by decide +kernel
theorem dX4_begin_24 : decode cX4_begin 24 = .ok (.iconst 0, 1) := by decide +kernel
theorem dX4_begin_25 : decode cX4_begin 25 = .ok (.putfield 21, 3) := by decide +kernel
theorem dX4_begin_28 : decode cX4_begin 28 = .ok (.aload_n 0, 1) := by decide +kernel
theorem dX4_begin_29 : decode cX4_begin 29 = .ok (.iconst 0, 1) := by decide +kernel
theorem dX4_begin_30 : decode cX4_begin 30 = .ok (.putfield 24, 3) := by decide +kernel
theorem dX4_begin_33 : decode cX4_begin 33 = .ok (.aload_n 0, 1) := by decide +kernel
theorem dX4_begin_34 : decode cX4_begin 34 = .ok (.iconst 0, 1) := by decide +kernel
theorem dX4_begin_35 : decode cX4_begin 35 = .ok (.putfield 27, 3) := by decide +kernel
theorem dX4_begin_38 : decode cX4_begin 38 = .ok (.aload_n 0, 1) := by decide +kernel
theorem dX4_begin_39 : decode cX4_begin 39 = .ok (.getfield 30, 3) := by decide +kernel
theorem dX4_begin_42 : decode cX4_begin 42 = .ok (.iconst 0, 1) := by decide +kernel
theorem dX4_begin_43 : decode cX4_begin 43 = .ok (.invokestatic 62, 3) := by decide +kernel
theorem dX4_begin_46 : decode cX4_begin 46 = .ok (.aload_n 0, 1) := by decide +kernel
theorem dX4_begin_47 : decode cX4_begin 47 = .ok (.getfield 34, 3) := by decide +kernel
theorem dX4_begin_50 : decode cX4_begin 50 = .ok (.iconst 0, 1) := by decide +kernel
theorem dX4_begin_51 : decode cX4_begin 51 = .ok (.invokestatic 62, 3) := by decide +kernel
theorem dX4_begin_54 : decode cX4_begin 54 = .ok (.aload_n 0, 1) := by decide +kernel
theorem dX4_begin_55 : decode cX4_begin 55 = .ok (.getfield 37, 3) := by decide +kernel
theorem dX4_begin_58 : decode cX4_begin 58 = .ok (.bipush (-6), 2) := by decide +kernel
theorem dX4_begin_60 : decode cX4_begin 60 = .ok (.invokestatic 62, 3) := by decide +kernel
theorem dX4_begin_63 : decode cX4_begin 63 = .ok (.return_, 1) := by decide +kernel
theorem dX4_makeRound_0 : decode cX4_makeRound 0 = .ok (.aload_n 0, 1) := by decide +kernel
theorem dX4_makeRound_1 : decode cX4_makeRound 1 = .ok (.dup, 1) := by decide +kernel
theorem dX4_makeRound_2 : decode cX4_makeRound 2 = .ok (.getfield 18, 3) := by decide +kernel
theorem dX4_makeRound_5 : decode cX4_makeRound 5 = .ok (.iconst 1, 1) := by decide +kernel
theorem dX4_makeRound_6 : decode cX4_makeRound 6 = .ok (.iadd, 1) := by decide +kernel
theorem dX4_makeRound_7 : decode cX4_makeRound 7 = .ok (.putfield 18, 3) := by decide +kernel
theorem dX4_makeRound_10 : decode cX4_makeRound 10 = .ok (.iconst 0, 1) := by decide +kernel
theorem dX4_makeRound_11 : decode cX4_makeRound 11 = .ok (.istore_n 2, 1) := by decide +kernel
theorem dX4_makeRound_12 : decode cX4_makeRound 12 = .ok (.iload_n 2, 1) := by decide +kernel
theorem dX4_makeRound_13 : decode cX4_makeRound 13 = .ok (.bipush 18, 2) := by decide +kernel
theorem dX4_makeRound_15 : decode cX4_makeRound 15 = .ok (.if_icmp .ge 43, 3) := by decide +kernel
theorem dX4_makeRound_18 : decode cX4_makeRound 18 = .ok (.aload_n 0, 1) := by decide +kernel
theorem dX4_makeRound_19 : decode cX4_makeRound 19 = .ok (.getfield 9, 3) := by decide +kernel
theorem dX4_makeRound_22 : decode cX4_makeRound 22 = .ok (.aload_n 0, 1) := by decide +kernel
theorem dX4_makeRound_23 : decode cX4_makeRound 23 = .ok (.getfield 15, 3) := by decide +kernel
theorem dX4_makeRound_26 : decode cX4_makeRound 26 = .ok (.iconst (-1), 1) := by decide +kernel
theorem dX4_makeRound_27 : decode cX4_makeRound 27 = .ok (.ixor, 1) := by decide +kernel
theorem dX4_makeRound_28 : decode cX4_makeRound 28 = .ok (.iand, 1) := by decide +kernel
theorem dX4_makeRound_29 : decode cX4_makeRound 29 = .ok (.iload_n 2, 1) := by decide +kernel
theorem dX4_makeRound_30 : decode cX4_makeRound 30 = .ok (.invokestatic 68, 3) := by decide +kernel
theorem dX4_makeRound_33 : decode cX4_makeRound 33 = .ok (.ifCond .eq 19, 3) := by decide +kernel
theorem dX4_makeRound_36 : decode cX4_makeRound 36 = .ok (.aload_n 0, 1) := by decide +kernel
theorem dX4_makeRound_37 : decode cX4_makeRound 37 = .ok (.getfield 30, 3) := by decide +kernel
theorem dX4_makeRound_40 : decode cX4_makeRound 40 = .ok (.iload_n 2, 1) := by decide +kernel
theorem dX4_makeRound_41 : decode cX4_makeRound 41 = .ok (.dup2, 1) := by decide +kernel
theorem dX4_makeRound_42 : decode cX4_makeRound 42 = .ok (.iaload, 1) := by decide +kernel
theorem dX4_makeRound_43 : decode cX4_makeRound 43 = .ok (.iconst 1, 1) := by decide +kernel
theorem dX4_makeRound_44 : decode cX4_makeRound 44 = .ok (.iadd, 1) := by decide +kernel
theorem dX4_makeRound_45 : decode cX4_makeRound 45 = .ok (.iastore, 1) := by decide +kernel
theorem dX4_makeRound_46 : decode cX4_makeRound 46 = .ok (.aload_n 0, 1) := by decide +kernel
theorem dX4_makeRound_47 : decode cX4_makeRound 47 = .ok (.iload_n 2, 1) := by decide +kernel
theorem dX4_makeRound_48 : decode cX4_makeRound 48 = .ok (.aload_n 1, 1) := by decide +kernel
theorem dX4_makeRound_49 : decode cX4_makeRound 49 = .ok (.invokevirtual 72, 3) := by decide +kernel
theorem dX4_makeRound_52 : decode cX4_makeRound 52 = .ok (.iinc 2 1, 3) := by decide +kernel
theorem dX4_makeRound_55 : decode cX4_makeRound 55 = .ok (.goto (-43), 3) := by decide +kernel
theorem dX4_makeRound_58 : decode cX4_makeRound 58 = .ok (.return_, 1) := by decide +kernel
theorem dX4_fillSetsWith_0 : decode cX4_fillSetsWith 0 = .ok (.iconst 0, 1) := by decide +kernel
theorem dX4_fillSetsWith_1 : decode cX4_fillSetsWith 1 = .ok (.istore_n 3, 1) := by decide +kernel
theorem dX4_fillSetsWith_2 : decode cX4_fillSetsWith 2 = .ok (.iload_n 3, 1) := by decide +kernel
theorem dX4_fillSetsWith_3 : decode cX4_fillSetsWith 3 = .ok (.aload_n 2, 1) := by decide +kernel
theorem dX4_fillSetsWith_4 : decode cX4_fillSetsWith 4 = .ok (.getfield 76, 3) := by decide +kernel
theorem dX4_fillSetsWith_7 : decode cX4_fillSetsWith 7 = .ok (.if_icmp .ge 67, 3) := by decide +kernel
theorem dX4_fillSetsWith_10 : decode cX4_fillSetsWith 10 = .ok (.aload_n 2, 1) := by decide +kernel
theorem dX4_fillSetsWith_11 : decode cX4_fillSetsWith 11 = .ok (.getfield 79, 3) := by decide +kernel
theorem dX4_fillSetsWith_14 : decode cX4_fillSetsWith 14 = .ok (.iload_n 3, 1) := by decide +kernel
theorem dX4_fillSetsWith_15 : decode cX4_fillSetsWith 15 = .ok (.iaload, 1) := by decide +kernel
theorem dX4_fillSetsWith_16 : decode cX4_fillSetsWith 16 = .ok (.ifCond .ne 52, 3) := by decide +kernel
theorem dX4_fillSetsWith_19 : decode cX4_fillSetsWith 19 = .ok (.aload_n 2, 1) := by decide +kernel
theorem dX4_fillSetsWith_20 : decode cX4_fillSetsWith 20 = .ok (.getfield 82, 3) := by decide +kernel
theorem dX4_fillSetsWith_23 : decode cX4_fillSetsWith 23 = .ok (.iload_n 3, 1) := by decide +kernel
theorem dX4_fillSetsWith_24 : decode cX4_fillSetsWith 24 = .ok (.iaload, 1) := by decide +kernel
theorem dX4_fillSetsWith_25 : decode cX4_fillSetsWith 25 = .ok (.iload_n 1, 1) := by decide +kernel
theorem dX4_fillSetsWith_26 : decode cX4_fillSetsWith 26 = .ok (.invokestatic 68, 3) := by decide +kernel
theorem dX4_fillSetsWith_29 : decode cX4_fillSetsWith 29 = .ok (.ifCond .eq 39, 3) := by decide +kernel
theorem dX4_fillSetsWith_32 : decode cX4_fillSetsWith 32 = .ok (.aload_n 0, 1) := by decide +kernel
theorem dX4_fillSetsWith_33 : decode cX4_fillSetsWith 33 = .ok (.getfield 34, 3) := by decide +kernel
theorem dX4_fillSetsWith_36 : decode cX4_fillSetsWith 36 = .ok (.iload_n 3, 1) := by decide +kernel
theorem dX4_fillSetsWith_37 : decode cX4_fillSetsWith 37 = .ok (.dup2, 1) := by decide +kernel
theorem dX4_fillSetsWith_38 : decode cX4_fillSetsWith 38 = .ok (.iaload, 1) := by decide +kernel
theorem dX4_fillSetsWith_39 : decode cX4_fillSetsWith 39 = .ok (.iconst 1, 1) := by decide +kernel
theorem dX4_fillSetsWith_40 : decode cX4_fillSetsWith 40 = .ok (.iadd, 1) := by decide +kernel
theorem dX4_fillSetsWith_41 : decode cX4_fillSetsWith 41 = .ok (.iastore, 1) := by decide +kernel
theorem dX4_fillSetsWith_42 : decode cX4_fillSetsWith 42 = .ok (.aload_n 0, 1) := by decide +kernel
theorem dX4_fillSetsWith_43 : decode cX4_fillSetsWith 43 = .ok (.getfield 34, 3) := by decide +kernel
theorem dX4_fillSetsWith_46 : decode cX4_fillSetsWith 46 = .ok (.iload_n 3, 1) := by decide +kernel
theorem dX4_fillSetsWith_47 : decode cX4_fillSetsWith 47 = .ok (.iaload, 1) := by decide +kernel
theorem dX4_fillSetsWith_48 : decode cX4_fillSetsWith 48 = .ok (.aload_n 2, 1) := by decide +kernel
theorem dX4_fillSetsWith_49 : decode cX4_fillSetsWith 49 = .ok (.getfield 85, 3) := by decide +kernel
theorem dX4_fillSetsWith_52 : decode cX4_fillSetsWith 52 = .ok (.iload_n 3, 1) := by decide +kernel
theorem dX4_fillSetsWith_53 : decode cX4_fillSetsWith 53 = .ok (.iaload, 1) := by decide +kernel
theorem dX4_fillSetsWith_54 : decode cX4_fillSetsWith 54 = .ok (.if_icmp .ne 14, 3) := by decide +kernel
theorem dX4_fillSetsWith_57 : decode cX4_fillSetsWith 57 = .ok (.aload_n 0, 1) := by decide +kernel
theorem dX4_fillSetsWith_58 : decode cX4_fillSetsWith 58 = .ok (.iload_n 3, 1) := by decide +kernel
theorem dX4_fillSetsWith_59 : decode cX4_fillSetsWith 59 = .ok (.aload_n 2, 1) := by decide +kernel
theorem dX4_fillSetsWith_60 : decode cX4_fillSetsWith 60 = .ok (.getfield 82, 3) := by decide +kernel
theorem dX4_fillSetsWith_63 : decode cX4_fillSetsWith 63 = .ok (.iload_n 3, 1) := by decide +kernel
theorem dX4_fillSetsWith_64 : decode cX4_fillSetsWith 64 = .ok (.iaload, 1) := by decide +kernel
theorem dX4_fillSetsWith_65 : decode cX4_fillSetsWith 65 = .ok (.invokevirtual 88, 3) := by decide +kernel
theorem dX4_fillSetsWith_68 : decode cX4_fillSetsWith 68 = .ok (.iinc 3 1, 3) := by decide +kernel
theorem dX4_fillSetsWith_71 : decode cX4_fillSetsWith 71 = .ok (.goto (-69), 3) := by decide +kernel
theorem dX4_fillSetsWith_74 : decode cX4_fillSetsWith 74 = .ok (.return_, 1) := by decide +kernel
theorem dX4_becomeTight_0 : decode cX4_becomeTight 0 = .ok (.aload_n 0, 1) := by decide +kernel
theorem dX4_becomeTight_1 : decode cX4_becomeTight 1 = .ok (.getfield 24, 3) := by decide +kernel
theorem dX4_becomeTight_4 : decode cX4_becomeTight 4 = .ok (.bipush 14, 2) := by decide +kernel
theorem dX4_becomeTight_6 : decode cX4_becomeTight 6 = .ok (.if_icmp .ge 55, 3) := by decide +kernel
theorem dX4_becomeTight_9 : decode cX4_becomeTight 9 = .ok (.aload_n 0, 1) := by decide +kernel
theorem dX4_becomeTight_10 : decode cX4_becomeTight 10 = .ok (.getfield 40, 3) := by decide +kernel
theorem dX4_becomeTight_13 : decode cX4_becomeTight 13 = .ok (.aload_n 0, 1) := by decide +kernel
theorem dX4_becomeTight_14 : decode cX4_becomeTight 14 = .ok (.getfield 24, 3) := by decide +kernel
theorem dX4_becomeTight_17 : decode cX4_becomeTight 17 = .ok (.iload_n 1, 1) := by decide +kernel
theorem dX4_becomeTight_18 : decode cX4_becomeTight 18 = .ok (.iastore, 1) := by decide +kernel
theorem dX4_becomeTight_19 : decode cX4_becomeTight 19 = .ok (.aload_n 0, 1) := by decide +kernel
theorem dX4_becomeTight_20 : decode cX4_becomeTight 20 = .ok (.getfield 37, 3) := by decide +kernel
theorem dX4_becomeTight_23 : decode cX4_becomeTight 23 = .ok (.iload_n 1, 1) := by decide +kernel
theorem dX4_becomeTight_24 : decode cX4_becomeTight 24 = .ok (.aload_n 0, 1) := by decide +kernel
theorem dX4_becomeTight_25 : decode cX4_becomeTight 25 = .ok (.getfield 24, 3) := by decide +kernel
theorem dX4_becomeTight_28 : decode cX4_becomeTight 28 = .ok (.iastore, 1) := by decide +kernel
theorem dX4_becomeTight_29 : decode cX4_becomeTight 29 = .ok (.aload_n 0, 1) := by decide +kernel
theorem dX4_becomeTight_30 : decode cX4_becomeTight 30 = .ok (.dup, 1) := by decide +kernel
theorem dX4_becomeTight_31 : decode cX4_becomeTight 31 = .ok (.getfield 24, 3) := by decide +kernel
theorem dX4_becomeTight_34 : decode cX4_becomeTight 34 = .ok (.iconst 1, 1) := by decide +kernel
theorem dX4_becomeTight_35 : decode cX4_becomeTight 35 = .ok (.iadd, 1) := by decide +kernel
theorem dX4_becomeTight_36 : decode cX4_becomeTight 36 = .ok (.putfield 24, 3) := by decide +kernel
theorem dX4_becomeTight_39 : decode cX4_becomeTight 39 = .ok (.aload_n 0, 1) := by decide +kernel
theorem dX4_becomeTight_40 : decode cX4_becomeTight 40 = .ok (.dup, 1) := by decide +kernel
theorem dX4_becomeTight_41 : decode cX4_becomeTight 41 = .ok (.getfield 21, 3) := by decide +kernel
theorem dX4_becomeTight_44 : decode cX4_becomeTight 44 = .ok (.iconst 1, 1) := by decide +kernel
theorem dX4_becomeTight_45 : decode cX4_becomeTight 45 = .ok (.iload_n 1, 1) := by decide +kernel
theorem dX4_becomeTight_46 : decode cX4_becomeTight 46 = .ok (.ishl, 1) := by decide +kernel
theorem dX4_becomeTight_47 : decode cX4_becomeTight 47 = .ok (.ior, 1) := by decide +kernel
theorem dX4_becomeTight_48 : decode cX4_becomeTight 48 = .ok (.putfield 21, 3) := by decide +kernel
theorem dX4_becomeTight_51 : decode cX4_becomeTight 51 = .ok (.aload_n 0, 1) := by decide +kernel
theorem dX4_becomeTight_52 : decode cX4_becomeTight 52 = .ok (.dup, 1) := by decide +kernel
theorem dX4_becomeTight_53 : decode cX4_becomeTight 53 = .ok (.getfield 15, 3) := by decide +kernel
theorem dX4_becomeTight_56 : decode cX4_becomeTight 56 = .ok (.iload_n 2, 1) := by decide +kernel
theorem dX4_becomeTight_57 : decode cX4_becomeTight 57 = .ok (.ior, 1) := by decide +kernel
theorem dX4_becomeTight_58 : decode cX4_becomeTight 58 = .ok (.putfield 15, 3) := by decide +kernel
theorem dX4_becomeTight_61 : decode cX4_becomeTight 61 = .ok (.return_, 1) := by decide +kernel
theorem dX4_dropInReverse_0 : decode cX4_dropInReverse 0 = .ok (.aload_n 0, 1) := by decide +kernel
theorem dX4_dropInReverse_1 : decode cX4_dropInReverse 1 = .ok (.getfield 24, 3) := by decide +kernel
theorem dX4_dropInReverse_4 : decode cX4_dropInReverse 4 = .ok (.iconst 1, 1) := by decide +kernel
theorem dX4_dropInReverse_5 : decode cX4_dropInReverse 5 = .ok (.isub, 1) := by decide +kernel
theorem dX4_dropInReverse_6 : decode cX4_dropInReverse 6 = .ok (.istore_n 2, 1) := by decide +kernel
theorem dX4_dropInReverse_7 : decode cX4_dropInReverse 7 = .ok (.iload_n 2, 1) := by decide +kernel
theorem dX4_dropInReverse_8 : decode cX4_dropInReverse 8 = .ok (.ifCond .lt 50, 3) := by decide +kernel
theorem dX4_dropInReverse_11 : decode cX4_dropInReverse 11 = .ok (.aload_n 0, 1) := by decide +kernel
theorem dX4_dropInReverse_12 : decode cX4_dropInReverse 12 = .ok (.getfield 27, 3) := by decide +kernel
theorem dX4_dropInReverse_15 : decode cX4_dropInReverse 15 = .ok (.iconst 1, 1) := by decide +kernel
theorem dX4_dropInReverse_16 : decode cX4_dropInReverse 16 = .ok (.aload_n 0, 1) := by decide +kernel
theorem dX4_dropInReverse_17 : decode cX4_dropInReverse 17 = .ok (.getfield 40, 3) := by decide +kernel
theorem dX4_dropInReverse_20 : decode cX4_dropInReverse 20 = .ok (.iload_n 2, 1) := by decide +kernel
theorem dX4_dropInReverse_21 : decode cX4_dropInReverse 21 = .ok (.iaload, 1) := by decide +kernel
theorem dX4_dropInReverse_22 : decode cX4_dropInReverse 22 = .ok (.ishl, 1) := by decide +kernel
theorem dX4_dropInReverse_23 : decode cX4_dropInReverse 23 = .ok (.ior, 1) := by decide +kernel
theorem dX4_dropInReverse_24 : decode cX4_dropInReverse 24 = .ok (.istore_n 3, 1) := by decide +kernel
theorem dX4_dropInReverse_25 : decode cX4_dropInReverse 25 = .ok (.aload_n 0, 1) := by decide +kernel
theorem dX4_dropInReverse_26 : decode cX4_dropInReverse 26 = .ok (.getfield 9, 3) := by decide +kernel
theorem dX4_dropInReverse_29 : decode cX4_dropInReverse 29 = .ok (.aload_n 1, 1) := by decide +kernel
theorem dX4_dropInReverse_30 : decode cX4_dropInReverse 30 = .ok (.aload_n 0, 1) := by decide +kernel
theorem dX4_dropInReverse_31 : decode cX4_dropInReverse 31 = .ok (.getfield 21, 3) := by decide +kernel
theorem dX4_dropInReverse_34 : decode cX4_dropInReverse 34 = .ok (.iload_n 3, 1) := by decide +kernel
theorem dX4_dropInReverse_35 : decode cX4_dropInReverse 35 = .ok (.iconst (-1), 1) := by decide +kernel
theorem dX4_dropInReverse_36 : decode cX4_dropInReverse 36 = .ok (.ixor, 1) := by decide +kernel
theorem dX4_dropInReverse_37 : decode cX4_dropInReverse 37 = .ok (.iand, 1) := by decide +kernel
theorem dX4_dropInReverse_38 : decode cX4_dropInReverse 38 = .ok (.invokevirtual 92, 3) := by decide +kernel
theorem dX4_dropInReverse_41 : decode cX4_dropInReverse 41 = .ok (.iconst (-1), 1) := by decide +kernel
theorem dX4_dropInReverse_42 : decode cX4_dropInReverse 42 = .ok (.ixor, 1) := by decide +kernel
theorem dX4_dropInReverse_43 : decode cX4_dropInReverse 43 = .ok (.iand, 1) := by decide +kernel
theorem dX4_dropInReverse_44 : decode cX4_dropInReverse 44 = .ok (.ifCond .ne 8, 3) := by decide +kernel
theorem dX4_dropInReverse_47 : decode cX4_dropInReverse 47 = .ok (.aload_n 0, 1) := by decide +kernel
theorem dX4_dropInReverse_48 : decode cX4_dropInReverse 48 = .ok (.iload_n 3, 1) := by decide +kernel
theorem dX4_dropInReverse_49 : decode cX4_dropInReverse 49 = .ok (.putfield 27, 3) := by decide +kernel
theorem dX4_dropInReverse_52 : decode cX4_dropInReverse 52 = .ok (.iinc 2 (-1), 3) := by decide +kernel
theorem dX4_dropInReverse_55 : decode cX4_dropInReverse 55 = .ok (.goto (-48), 3) := by decide +kernel
theorem dX4_dropInReverse_58 : decode cX4_dropInReverse 58 = .ok (.return_, 1) := by decide +kernel
theorem dX4_sum_0 : decode cX4_sum 0 = .ok (.iconst 0, 1) := by decide +kernel
theorem dX4_sum_1 : decode cX4_sum 1 = .ok (.istore_n 1, 1) := by decide +kernel
theorem dX4_sum_2 : decode cX4_sum 2 = .ok (.iconst 0, 1) := by decide +kernel
theorem dX4_sum_3 : decode cX4_sum 3 = .ok (.istore_n 2, 1) := by decide +kernel
theorem dX4_sum_4 : decode cX4_sum 4 = .ok (.iload_n 2, 1) := by decide +kernel
theorem dX4_sum_5 : decode cX4_sum 5 = .ok (.bipush 18, 2) := by decide +kernel
theorem dX4_sum_7 : decode cX4_sum 7 = .ok (.if_icmp .ge 18, 3) := by decide +kernel
theorem dX4_sum_10 : decode cX4_sum 10 = .ok (.iload_n 1, 1) := by decide +kernel
theorem dX4_sum_11 : decode cX4_sum 11 = .ok (.aload_n 0, 1) := by decide +kernel
theorem dX4_sum_12 : decode cX4_sum 12 = .ok (.getfield 30, 3) := by decide +kernel
theorem dX4_sum_15 : decode cX4_sum 15 = .ok (.iload_n 2, 1) := by decide +kernel
theorem dX4_sum_16 : decode cX4_sum 16 = .ok (.iaload, 1) := by decide +kernel
theorem dX4_sum_17 : decode cX4_sum 17 = .ok (.iadd, 1) := by decide +kernel
theorem dX4_sum_18 : decode cX4_sum 18 = .ok (.istore_n 1, 1) := by decide +kernel
theorem dX4_sum_19 : decode cX4_sum 19 = .ok (.iinc 2 1, 3) := by decide +kernel
theorem dX4_sum_22 : decode cX4_sum 22 = .ok (.goto (-18), 3) := by decide +kernel
theorem dX4_sum_25 : decode cX4_sum 25 = .ok (.iload_n 1, 1) := by decide +kernel
theorem dX4_sum_26 : decode cX4_sum 26 = .ok (.ireturn, 1) := by decide +kernel
theorem dX5_init_0 : decode cX5_init 0 = .ok (.aload_n 0, 1) := by decide +kernel
theorem dX5_init_1 : decode cX5_init 1 = .ok (.invokespecial 3, 3) := by decide +kernel
theorem dX5_init_4 : decode cX5_init 4 = .ok (.aload_n 0, 1) := by decide +kernel
theorem dX5_init_5 : decode cX5_init 5 = .ok (.iconst 2, 1) := by decide +kernel
theorem dX5_init_6 : decode cX5_init 6 = .ok (.anewarray 9, 3) := by decide +kernel
theorem dX5_init_9 : decode cX5_init 9 = .ok (.putfield 11, 3) := by decide +kernel
theorem dX5_init_12 : decode cX5_init 12 = .ok (.aload_n 0, 1) := by decide +kernel
theorem dX5_init_13 : decode cX5_init 13 = .ok (.iconst 2, 1) := by decide +kernel
theorem dX5_init_14 : decode cX5_init 14 = .ok (.newarray .boolean, 2) := by decide +kernel
theorem dX5_init_16 : decode cX5_init 16 = .ok (.putfield 17, 3) := by decide +kernel
theorem dX5_init_19 : decode cX5_init 19 = .ok (.iconst 0, 1) := by decide +kernel
theorem dX5_init_20 : decode cX5_init 20 = .ok (.istore_n 1, 1) := by decide +kernel
theorem dX5_init_21 : decode cX5_init 21 = .ok (.iload_n 1, 1) := by decide +kernel
theorem dX5_init_22 : decode cX5_init 22 = .ok (.iconst 2, 1) := by decide +kernel
theorem dX5_init_23 : decode cX5_init 23 = .ok (.if_icmp .ge 22, 3) := by decide +kernel
theorem dX5_init_26 : decode cX5_init 26 = .ok (.aload_n 0, 1) := by decide +kernel
theorem dX5_init_27 : decode cX5_init 27 = .ok (.getfield 11, 3) := by decide +kernel
theorem dX5_init_30 : decode cX5_init 30 = .ok (.iload_n 1, 1) := by decide +kernel
theorem dX5_init_31 : decode cX5_init 31 = .ok (.new 9, 3) := by decide +kernel
theorem dX5_init_34 : decode cX5_init 34 = .ok (.dup, 1) := by decide +kernel
theorem dX5_init_35 : decode cX5_init 35 = .ok (.invokespecial 21, 3) := by decide +kernel
theorem dX5_init_38 : decode cX5_init 38 = .ok (.aastore, 1) := by decide +kernel
theorem dX5_init_39 : decode cX5_init 39 = .ok (.iinc 1 1, 3) := by decide +kernel
theorem dX5_init_42 : decode cX5_init 42 = .ok (.goto (-21), 3) := by decide +kernel
theorem dX5_init_45 : decode cX5_init 45 = .ok (.return_, 1) := by decide +kernel
theorem dX6_init_0 : decode cX6_init 0 = .ok (.aload_n 0, 1) := by decide +kernel
theorem dX6_init_1 : decode cX6_init 1 = .ok (.invokespecial 3, 3) := by decide +kernel
theorem dX6_init_4 : decode cX6_init 4 = .ok (.aload_n 0, 1) := by decide +kernel
theorem dX6_init_5 : decode cX6_init 5 = .ok (.iconst 0, 1) := by decide +kernel
theorem dX6_init_6 : decode cX6_init 6 = .ok (.putfield 9, 3) := by decide +kernel
theorem dX6_init_9 : decode cX6_init 9 = .ok (.aload_n 0, 1) := by decide +kernel
theorem dX6_init_10 : decode cX6_init 10 = .ok (.iconst 0, 1) := by decide +kernel
theorem dX6_init_11 : decode cX6_init 11 = .ok (.putfield 15, 3) := by decide +kernel
theorem dX6_init_14 : decode cX6_init 14 = .ok (.aload_n 0, 1) := by decide +kernel
theorem dX6_init_15 : decode cX6_init 15 = .ok (.bipush 14, 2) := by decide +kernel
theorem dX6_init_17 : decode cX6_init 17 = .ok (.newarray .int, 2) := by decide +kernel
theorem dX6_init_19 : decode cX6_init 19 = .ok (.putfield 18, 3) := by decide +kernel
theorem dX6_init_22 : decode cX6_init 22 = .ok (.aload_n 0, 1) := by decide +kernel
theorem dX6_init_23 : decode cX6_init 23 = .ok (.bipush 14, 2) := by decide +kernel
theorem dX6_init_25 : decode cX6_init 25 = .ok (.newarray .int, 2) := by decide +kernel
theorem dX6_init_27 : decode cX6_init 27 = .ok (.putfield 22, 3) := by decide +kernel
theorem dX6_init_30 : decode cX6_init 30 = .ok (.aload_n 0, 1) := by decide +kernel
theorem dX6_init_31 : decode cX6_init 31 = .ok (.bipush 14, 2) := by decide +kernel
theorem dX6_init_33 : decode cX6_init 33 = .ok (.newarray .int, 2) := by decide +kernel
theorem dX6_init_35 : decode cX6_init 35 = .ok (.putfield 25, 3) := by decide +kernel
theorem dX6_init_38 : decode cX6_init 38 = .ok (.return_, 1) := by decide +kernel
theorem dX6_copyFrom_0 : decode cX6_copyFrom 0 = .ok (.aload_n 0, 1) := by decide +kernel
theorem dX6_copyFrom_1 : decode cX6_copyFrom 1 = .ok (.aload_n 1, 1) := by decide +kernel
theorem dX6_copyFrom_2 : decode cX6_copyFrom 2 = .ok (.getfield 9, 3) := by decide +kernel
theorem dX6_copyFrom_5 : decode cX6_copyFrom 5 = .ok (.putfield 9, 3) := by decide +kernel
theorem dX6_copyFrom_8 : decode cX6_copyFrom 8 = .ok (.aload_n 0, 1) := by decide +kernel
theorem dX6_copyFrom_9 : decode cX6_copyFrom 9 = .ok (.aload_n 1, 1) := by decide +kernel
theorem dX6_copyFrom_10 : decode cX6_copyFrom 10 = .ok (.getfield 15, 3) := by decide +kernel
theorem dX6_copyFrom_13 : decode cX6_copyFrom 13 = .ok (.putfield 15, 3) := by decide +kernel
theorem dX6_copyFrom_16 : decode cX6_copyFrom 16 = .ok (.iconst 0, 1) := by decide +kernel
theorem dX6_copyFrom_17 : decode cX6_copyFrom 17 = .ok (.istore_n 2, 1) := by decide +kernel
theorem dX6_copyFrom_18 : decode cX6_copyFrom 18 = .ok (.iload_n 2, 1) := by decide +kernel
theorem dX6_copyFrom_19 : decode cX6_copyFrom 19 = .ok (.bipush 14, 2) := by decide +kernel
theorem dX6_copyFrom_21 : decode cX6_copyFrom 21 = .ok (.if_icmp .ge 45, 3) := by decide +kernel
theorem dX6_copyFrom_24 : decode cX6_copyFrom 24 = .ok (.aload_n 0, 1) := by decide +kernel
theorem dX6_copyFrom_25 : decode cX6_copyFrom 25 = .ok (.getfield 18, 3) := by decide +kernel
theorem dX6_copyFrom_28 : decode cX6_copyFrom 28 = .ok (.iload_n 2, 1) := by decide +kernel
theorem dX6_copyFrom_29 : decode cX6_copyFrom 29 = .ok (.aload_n 1, 1) := by decide +kernel
theorem dX6_copyFrom_30 : decode cX6_copyFrom 30 = .ok (.getfield 18, 3) := by decide +kernel
theorem dX6_copyFrom_33 : decode cX6_copyFrom 33 = .ok (.iload_n 2, 1) := by decide +kernel
theorem dX6_copyFrom_34 : decode cX6_copyFrom 34 = .ok (.iaload, 1) := by decide +kernel
theorem dX6_copyFrom_35 : decode cX6_copyFrom 35 = .ok (.iastore, 1) := by decide +kernel
theorem dX6_copyFrom_36 : decode cX6_copyFrom 36 = .ok (.aload_n 0, 1) := by decide +kernel
theorem dX6_copyFrom_37 : decode cX6_copyFrom 37 = .ok (.getfield 22, 3) := by decide +kernel
theorem dX6_copyFrom_40 : decode cX6_copyFrom 40 = .ok (.iload_n 2, 1) := by decide +kernel
theorem dX6_copyFrom_41 : decode cX6_copyFrom 41 = .ok (.aload_n 1, 1) := by decide +kernel
theorem dX6_copyFrom_42 : decode cX6_copyFrom 42 = .ok (.getfield 22, 3) := by decide +kernel
theorem dX6_copyFrom_45 : decode cX6_copyFrom 45 = .ok (.iload_n 2, 1) := by decide +kernel
theorem dX6_copyFrom_46 : decode cX6_copyFrom 46 = .ok (.iaload, 1) := by decide +kernel
theorem dX6_copyFrom_47 : decode cX6_copyFrom 47 = .ok (.iastore, 1) := by decide +kernel
theorem dX6_copyFrom_48 : decode cX6_copyFrom 48 = .ok (.aload_n 0, 1) := by decide +kernel
theorem dX6_copyFrom_49 : decode cX6_copyFrom 49 = .ok (.getfield 25, 3) := by decide +kernel
theorem dX6_copyFrom_52 : decode cX6_copyFrom 52 = .ok (.iload_n 2, 1) := by decide +kernel
theorem dX6_copyFrom_53 : decode cX6_copyFrom 53 = .ok (.aload_n 1, 1) := by decide +kernel
theorem dX6_copyFrom_54 : decode cX6_copyFrom 54 = .ok (.getfield 25, 3) := by decide +kernel
theorem dX6_copyFrom_57 : decode cX6_copyFrom 57 = .ok (.iload_n 2, 1) := by decide +kernel
theorem dX6_copyFrom_58 : decode cX6_copyFrom 58 = .ok (.iaload, 1) := by decide +kernel
theorem dX6_copyFrom_59 : decode cX6_copyFrom 59 = .ok (.iastore, 1) := by decide +kernel
theorem dX6_copyFrom_60 : decode cX6_copyFrom 60 = .ok (.iinc 2 1, 3) := by decide +kernel
theorem dX6_copyFrom_63 : decode cX6_copyFrom 63 = .ok (.goto (-45), 3) := by decide +kernel
theorem dX6_copyFrom_66 : decode cX6_copyFrom 66 = .ok (.return_, 1) := by decide +kernel
theorem dX6_hasSet_0 : decode cX6_hasSet 0 = .ok (.iload_n 1, 1) := by decide +kernel
theorem dX6_hasSet_1 : decode cX6_hasSet 1 = .ok (.ifCond .lt 15, 3) := by decide +kernel
theorem dX6_hasSet_4 : decode cX6_hasSet 4 = .ok (.iload_n 1, 1) := by decide +kernel
theorem dX6_hasSet_5 : decode cX6_hasSet 5 = .ok (.aload_n 0, 1) := by decide +kernel
theorem dX6_hasSet_6 : decode cX6_hasSet 6 = .ok (.getfield 15, 3) := by decide +kernel
theorem dX6_hasSet_9 : decode cX6_hasSet 9 = .ok (.if_icmp .ge 7, 3) := by decide +kernel
theorem dX6_hasSet_12 : decode cX6_hasSet 12 = .ok (.iconst 1, 1) := by decide +kernel
theorem dX6_hasSet_13 : decode cX6_hasSet 13 = .ok (.goto 4, 3) := by decide +kernel
theorem dX6_hasSet_16 : decode cX6_hasSet 16 = .ok (.iconst 0, 1) := by decide +kernel
theorem dX6_hasSet_17 : decode cX6_hasSet 17 = .ok (.ireturn, 1) := by decide +kernel
theorem dX6_append_0 : decode cX6_append 0 = .ok (.aload_n 0, 1) := by decide +kernel
theorem dX6_append_1 : decode cX6_append 1 = .ok (.getfield 15, 3) := by decide +kernel
theorem dX6_append_4 : decode cX6_append 4 = .ok (.bipush 14, 2) := by decide +kernel
theorem dX6_append_6 : decode cX6_append 6 = .ok (.if_icmp .lt 4, 3) := by decide +kernel
theorem dX6_append_9 : decode cX6_append 9 = .ok (.return_, 1) := by decide +kernel
theorem dX6_append_10 : decode cX6_append 10 = .ok (.aload_n 0, 1) := by decide +kernel
theorem dX6_append_11 : decode cX6_append 11 = .ok (.getfield 18, 3) := by decide +kernel
theorem dX6_append_14 : decode cX6_append 14 = .ok (.aload_n 0, 1) := by decide +kernel
theorem dX6_append_15 : decode cX6_append 15 = .ok (.getfield 15, 3) := by decide +kernel
theorem dX6_append_18 : decode cX6_append 18 = .ok (.iload_n 1, 1) := by decide +kernel
theorem dX6_append_19 : decode cX6_append 19 = .ok (.iastore, 1) := by decide +kernel
theorem dX6_append_20 : decode cX6_append 20 = .ok (.aload_n 0, 1) := by decide +kernel
theorem dX6_append_21 : decode cX6_append 21 = .ok (.getfield 22, 3) := by decide +kernel
theorem dX6_append_24 : decode cX6_append 24 = .ok (.aload_n 0, 1) := by decide +kernel
theorem dX6_append_25 : decode cX6_append 25 = .ok (.getfield 15, 3) := by decide +kernel
theorem dX6_append_28 : decode cX6_append 28 = .ok (.iload_n 2, 1) := by decide +kernel
theorem dX6_append_29 : decode cX6_append 29 = .ok (.iastore, 1) := by decide +kernel
theorem dX6_append_30 : decode cX6_append 30 = .ok (.aload_n 0, 1) := by decide +kernel
theorem dX6_append_31 : decode cX6_append 31 = .ok (.getfield 25, 3) := by decide +kernel
theorem dX6_append_34 : decode cX6_append 34 = .ok (.aload_n 0, 1) := by decide +kernel
theorem dX6_append_35 : decode cX6_append 35 = .ok (.getfield 15, 3) := by decide +kernel
theorem dX6_append_38 : decode cX6_append 38 = .ok (.iconst 0, 1) := by decide +kernel
theorem dX6_append_39 : decode cX6_append 39 = .ok (.iastore, 1) := by decide +kernel
theorem dX6_append_40 : decode cX6_append 40 = .ok (.aload_n 0, 1) := by decide +kernel
theorem dX6_append_41 : decode cX6_append 41 = .ok (.dup, 1) := by decide +kernel
theorem dX6_append_42 : decode cX6_append 42 = .ok (.getfield 15, 3) := by decide +kernel
theorem dX6_append_45 : decode cX6_append 45 = .ok (.iconst 1, 1) := by decide +kernel
theorem dX6_append_46 : decode cX6_append 46 = .ok (.iadd, 1) := by decide +kernel
theorem dX6_append_47 : decode cX6_append 47 = .ok (.putfield 15, 3) := by decide +kernel
theorem dX6_append_50 : decode cX6_append 50 = .ok (.return_, 1) := by decide +kernel
theorem dX6_remove_0 : decode cX6_remove 0 = .ok (.iload_n 1, 1) := by decide +kernel
theorem dX6_remove_1 : decode cX6_remove 1 = .ok (.iconst 1, 1) := by decide +kernel
theorem dX6_remove_2 : decode cX6_remove 2 = .ok (.iadd, 1) := by decide +kernel
theorem dX6_remove_3 : decode cX6_remove 3 = .ok (.istore_n 2, 1) := by decide +kernel
theorem dX6_remove_4 : decode cX6_remove 4 = .ok (.iload_n 2, 1) := by decide +kernel
theorem dX6_remove_5 : decode cX6_remove 5 = .ok (.aload_n 0, 1) := by decide +kernel
theorem dX6_remove_6 : decode cX6_remove 6 = .ok (.getfield 15, 3) := by decide +kernel
theorem dX6_remove_9 : decode cX6_remove 9 = .ok (.if_icmp .ge 51, 3) := by decide +kernel
theorem dX6_remove_12 : decode cX6_remove 12 = .ok (.aload_n 0, 1) := by decide +kernel
theorem dX6_remove_13 : decode cX6_remove 13 = .ok (.getfield 18, 3) := by decide +kernel
theorem dX6_remove_16 : decode cX6_remove 16 = .ok (.iload_n 2, 1) := by decide +kernel
theorem dX6_remove_17 : decode cX6_remove 17 = .ok (.iconst 1, 1) := by decide +kernel
theorem dX6_remove_18 : decode cX6_remove 18 = .ok (.isub, 1) := by decide +kernel
theorem dX6_remove_19 : decode cX6_remove 19 = .ok (.aload_n 0, 1) := by decide +kernel
theorem dX6_remove_20 : decode cX6_remove 20 = .ok (.getfield 18, 3) := by decide +kernel
theorem dX6_remove_23 : decode cX6_remove 23 = .ok (.iload_n 2, 1) := by decide +kernel
theorem dX6_remove_24 : decode cX6_remove 24 = .ok (.iaload, 1) := by decide +kernel
theorem dX6_remove_25 : decode cX6_remove 25 = .ok (.iastore, 1) := by decide +kernel
theorem dX6_remove_26 : decode cX6_remove 26 = .ok (.aload_n 0, 1) := by decide +kernel
theorem dX6_remove_27 : decode cX6_remove 27 = .ok (.getfield 22, 3) := by decide +kernel
theorem dX6_remove_30 : decode cX6_remove 30 = .ok (.iload_n 2, 1) := by decide +kernel
theorem dX6_remove_31 : decode cX6_remove 31 = .ok (.iconst 1, 1) := by decide +kernel
theorem dX6_remove_32 : decode cX6_remove 32 = .ok (.isub, 1) := by decide +kernel
theorem dX6_remove_33 : decode cX6_remove 33 = .ok (.aload_n 0, 1) := by decide +kernel
theorem dX6_remove_34 : decode cX6_remove 34 = .ok (.getfield 22, 3) := by decide +kernel
theorem dX6_remove_37 : decode cX6_remove 37 = .ok (.iload_n 2, 1) := by decide +kernel
theorem dX6_remove_38 : decode cX6_remove 38 = .ok (.iaload, 1) := by decide +kernel
theorem dX6_remove_39 : decode cX6_remove 39 = .ok (.iastore, 1) := by decide +kernel
theorem dX6_remove_40 : decode cX6_remove 40 = .ok (.aload_n 0, 1) := by decide +kernel
theorem dX6_remove_41 : decode cX6_remove 41 = .ok (.getfield 25, 3) := by decide +kernel
theorem dX6_remove_44 : decode cX6_remove 44 = .ok (.iload_n 2, 1) := by decide +kernel
theorem dX6_remove_45 : decode cX6_remove 45 = .ok (.iconst 1, 1) := by decide +kernel
theorem dX6_remove_46 : decode cX6_remove 46 = .ok (.isub, 1) := by decide +kernel
theorem dX6_remove_47 : decode cX6_remove 47 = .ok (.aload_n 0, 1) := by decide +kernel
theorem dX6_remove_48 : decode cX6_remove 48 = .ok (.getfield 25, 3) := by decide +kernel
theorem dX6_remove_51 : decode cX6_remove 51 = .ok (.iload_n 2, 1) := by decide +kernel
theorem dX6_remove_52 : decode cX6_remove 52 = .ok (.iaload, 1) := by decide +kernel
theorem dX6_remove_53 : decode cX6_remove 53 = .ok (.iastore, 1) := by decide +kernel
theorem dX6_remove_54 : decode cX6_remove 54 = .ok (.iinc 2 1, 3) := by decide +kernel
theorem dX6_remove_57 : decode cX6_remove 57 = .ok (.goto (-53), 3) := by decide +kernel
theorem dX6_remove_60 : decode cX6_remove 60 = .ok (.aload_n 0, 1) := by decide +kernel
theorem dX6_remove_61 : decode cX6_remove 61 = .ok (.dup, 1) := by decide +kernel
theorem dX6_remove_62 : decode cX6_remove 62 = .ok (.getfield 15, 3) := by decide +kernel
theorem dX6_remove_65 : decode cX6_remove 65 = .ok (.iconst 1, 1) := by decide +kernel
theorem dX6_remove_66 : decode cX6_remove 66 = .ok (.isub, 1) := by decide +kernel
theorem dX6_remove_67 : decode cX6_remove 67 = .ok (.putfield 15, 3) := by decide +kernel
theorem dX6_remove_70 : decode cX6_remove 70 = .ok (.return_, 1) := by decide +kernel
theorem dX6_marked_0 : decode cX6_marked 0 = .ok (.iconst 0, 1) := by decide +kernel
theorem dX6_marked_1 : decode cX6_marked 1 = .ok (.istore_n 2, 1) := by decide +kernel
theorem dX6_marked_2 : decode cX6_marked 2 = .ok (.iconst 0, 1) := by decide +kernel
theorem dX6_marked_3 : decode cX6_marked 3 = .ok (.istore_n 3, 1) := by decide +kernel
theorem dX6_marked_4 : decode cX6_marked 4 = .ok (.iload_n 3, 1) := by decide +kernel
theorem dX6_marked_5 : decode cX6_marked 5 = .ok (.aload_n 0, 1) := by decide +kernel
theorem dX6_marked_6 : decode cX6_marked 6 = .ok (.getfield 15, 3) := by decide +kernel
theorem dX6_marked_9 : decode cX6_marked 9 = .ok (.if_icmp .ge 25, 3) := by decide +kernel
theorem dX6_marked_12 : decode cX6_marked 12 = .ok (.aload_n 0, 1) := by decide +kernel
theorem dX6_marked_13 : decode cX6_marked 13 = .ok (.getfield 25, 3) := by decide +kernel
theorem dX6_marked_16 : decode cX6_marked 16 = .ok (.iload_n 3, 1) := by decide +kernel
theorem dX6_marked_17 : decode cX6_marked 17 = .ok (.iaload, 1) := by decide +kernel
theorem dX6_marked_18 : decode cX6_marked 18 = .ok (.iload_n 1, 1) := by decide +kernel
theorem dX6_marked_19 : decode cX6_marked 19 = .ok (.if_icmp .ne 9, 3) := by decide +kernel
theorem dX6_marked_22 : decode cX6_marked 22 = .ok (.iload_n 2, 1) := by decide +kernel
theorem dX6_marked_23 : decode cX6_marked 23 = .ok (.iconst 1, 1) := by decide +kernel
theorem dX6_marked_24 : decode cX6_marked 24 = .ok (.iload_n 3, 1) := by decide +kernel
theorem dX6_marked_25 : decode cX6_marked 25 = .ok (.ishl, 1) := by decide +kernel
theorem dX6_marked_26 : decode cX6_marked 26 = .ok (.ior, 1) := by decide +kernel
theorem dX6_marked_27 : decode cX6_marked 27 = .ok (.istore_n 2, 1) := by decide +kernel
theorem dX6_marked_28 : decode cX6_marked 28 = .ok (.iinc 3 1, 3) := by decide +kernel
theorem dX6_marked_31 : decode cX6_marked 31 = .ok (.goto (-27), 3) := by decide +kernel
theorem dX6_marked_34 : decode cX6_marked 34 = .ok (.iload_n 2, 1) := by decide +kernel
theorem dX6_marked_35 : decode cX6_marked 35 = .ok (.ireturn, 1) := by decide +kernel
theorem dX6_notBarred_0 : decode cX6_notBarred 0 = .ok (.aload_n 0, 1) := by decide +kernel
theorem dX6_notBarred_1 : decode cX6_notBarred 1 = .ok (.iconst 0, 1) := by decide +kernel
theorem dX6_notBarred_2 : decode cX6_notBarred 2 = .ok (.invokevirtual 28, 3) := by decide +kernel
theorem dX6_notBarred_5 : decode cX6_notBarred 5 = .ok (.aload_n 0, 1) := by decide +kernel
theorem dX6_notBarred_6 : decode cX6_notBarred 6 = .ok (.iconst 1, 1) := by decide +kernel
theorem dX6_notBarred_7 : decode cX6_notBarred 7 = .ok (.invokevirtual 28, 3) := by decide +kernel
theorem dX6_notBarred_10 : decode cX6_notBarred 10 = .ok (.ior, 1) := by decide +kernel
theorem dX6_notBarred_11 : decode cX6_notBarred 11 = .ok (.ireturn, 1) := by decide +kernel
theorem dX6_setsWith_0 : decode cX6_setsWith 0 = .ok (.iconst 0, 1) := by decide +kernel
theorem dX6_setsWith_1 : decode cX6_setsWith 1 = .ok (.istore_n 2, 1) := by decide +kernel
theorem dX6_setsWith_2 : decode cX6_setsWith 2 = .ok (.iconst 0, 1) := by decide +kernel
theorem dX6_setsWith_3 : decode cX6_setsWith 3 = .ok (.istore_n 3, 1) := by decide +kernel
theorem dX6_setsWith_4 : decode cX6_setsWith 4 = .ok (.iload_n 3, 1) := by decide +kernel
theorem dX6_setsWith_5 : decode cX6_setsWith 5 = .ok (.aload_n 0, 1) := by decide +kernel
theorem dX6_setsWith_6 : decode cX6_setsWith 6 = .ok (.getfield 15, 3) := by decide +kernel
theorem dX6_setsWith_9 : decode cX6_setsWith 9 = .ok (.if_icmp .ge 28, 3) := by decide +kernel
theorem dX6_setsWith_12 : decode cX6_setsWith 12 = .ok (.aload_n 0, 1) := by decide +kernel
theorem dX6_setsWith_13 : decode cX6_setsWith 13 = .ok (.getfield 18, 3) := by decide +kernel
theorem dX6_setsWith_16 : decode cX6_setsWith 16 = .ok (.iload_n 3, 1) := by decide +kernel
theorem dX6_setsWith_17 : decode cX6_setsWith 17 = .ok (.iaload, 1) := by decide +kernel
theorem dX6_setsWith_18 : decode cX6_setsWith 18 = .ok (.iload_n 1, 1) := by decide +kernel
theorem dX6_setsWith_19 : decode cX6_setsWith 19 = .ok (.invokestatic 32, 3) := by decide +kernel
theorem dX6_setsWith_22 : decode cX6_setsWith 22 = .ok (.ifCond .eq 9, 3) := by decide +kernel
theorem dX6_setsWith_25 : decode cX6_setsWith 25 = .ok (.iload_n 2, 1) := by decide +kernel
theorem dX6_setsWith_26 : decode cX6_setsWith 26 = .ok (.iconst 1, 1) := by decide +kernel
theorem dX6_setsWith_27 : decode cX6_setsWith 27 = .ok (.iload_n 3, 1) := by decide +kernel
theorem dX6_setsWith_28 : decode cX6_setsWith 28 = .ok (.ishl, 1) := by decide +kernel
theorem dX6_setsWith_29 : decode cX6_setsWith 29 = .ok (.ior, 1) := by decide +kernel
theorem dX6_setsWith_30 : decode cX6_setsWith 30 = .ok (.istore_n 2, 1) := by decide +kernel
theorem dX6_setsWith_31 : decode cX6_setsWith 31 = .ok (.iinc 3 1, 3) := by decide +kernel
theorem dX6_setsWith_34 : decode cX6_setsWith 34 = .ok (.goto (-30), 3) := by decide +kernel
theorem dX6_setsWith_37 : decode cX6_setsWith 37 = .ok (.iload_n 2, 1) := by decide +kernel
theorem dX6_setsWith_38 : decode cX6_setsWith 38 = .ok (.ireturn, 1) := by decide +kernel
theorem dX6_thingsOf_0 : decode cX6_thingsOf 0 = .ok (.iconst 0, 1) := by decide +kernel
theorem dX6_thingsOf_1 : decode cX6_thingsOf 1 = .ok (.istore_n 2, 1) := by decide +kernel
theorem dX6_thingsOf_2 : decode cX6_thingsOf 2 = .ok (.iconst 0, 1) := by decide +kernel
theorem dX6_thingsOf_3 : decode cX6_thingsOf 3 = .ok (.istore_n 3, 1) := by decide +kernel
theorem dX6_thingsOf_4 : decode cX6_thingsOf 4 = .ok (.iload_n 3, 1) := by decide +kernel
theorem dX6_thingsOf_5 : decode cX6_thingsOf 5 = .ok (.aload_n 0, 1) := by decide +kernel
theorem dX6_thingsOf_6 : decode cX6_thingsOf 6 = .ok (.getfield 15, 3) := by decide +kernel
theorem dX6_thingsOf_9 : decode cX6_thingsOf 9 = .ok (.if_icmp .ge 26, 3) := by decide +kernel
theorem dX6_thingsOf_12 : decode cX6_thingsOf 12 = .ok (.iload_n 1, 1) := by decide +kernel
theorem dX6_thingsOf_13 : decode cX6_thingsOf 13 = .ok (.iload_n 3, 1) := by decide +kernel
theorem dX6_thingsOf_14 : decode cX6_thingsOf 14 = .ok (.invokestatic 32, 3) := by decide +kernel
theorem dX6_thingsOf_17 : decode cX6_thingsOf 17 = .ok (.ifCond .eq 12, 3) := by decide +kernel
theorem dX6_thingsOf_20 : decode cX6_thingsOf 20 = .ok (.iload_n 2, 1) := by decide +kernel
theorem dX6_thingsOf_21 : decode cX6_thingsOf 21 = .ok (.aload_n 0, 1) := by decide +kernel
theorem dX6_thingsOf_22 : decode cX6_thingsOf 22 = .ok (.getfield 18, 3) := by decide +kernel
theorem dX6_thingsOf_25 : decode cX6_thingsOf 25 = .ok (.iload_n 3, 1) := by decide +kernel
theorem dX6_thingsOf_26 : decode cX6_thingsOf 26 = .ok (.iaload, 1) := by decide +kernel
theorem dX6_thingsOf_27 : decode cX6_thingsOf 27 = .ok (.ior, 1) := by decide +kernel
theorem dX6_thingsOf_28 : decode cX6_thingsOf 28 = .ok (.istore_n 2, 1) := by decide +kernel
theorem dX6_thingsOf_29 : decode cX6_thingsOf 29 = .ok (.iinc 3 1, 3) := by decide +kernel
theorem dX6_thingsOf_32 : decode cX6_thingsOf 32 = .ok (.goto (-28), 3) := by decide +kernel
theorem dX6_thingsOf_35 : decode cX6_thingsOf 35 = .ok (.iload_n 2, 1) := by decide +kernel
theorem dX6_thingsOf_36 : decode cX6_thingsOf 36 = .ok (.ireturn, 1) := by decide +kernel
theorem dX6_priceOf_0 : decode cX6_priceOf 0 = .ok (.iconst 0, 1) := by decide +kernel
theorem dX6_priceOf_1 : decode cX6_priceOf 1 = .ok (.istore_n 2, 1) := by decide +kernel
theorem dX6_priceOf_2 : decode cX6_priceOf 2 = .ok (.iconst 0, 1) := by decide +kernel
theorem dX6_priceOf_3 : decode cX6_priceOf 3 = .ok (.istore_n 3, 1) := by decide +kernel
theorem dX6_priceOf_4 : decode cX6_priceOf 4 = .ok (.iload_n 3, 1) := by decide +kernel
theorem dX6_priceOf_5 : decode cX6_priceOf 5 = .ok (.aload_n 0, 1) := by decide +kernel
theorem dX6_priceOf_6 : decode cX6_priceOf 6 = .ok (.getfield 15, 3) := by decide +kernel
theorem dX6_priceOf_9 : decode cX6_priceOf 9 = .ok (.if_icmp .ge 26, 3) := by decide +kernel
theorem dX6_priceOf_12 : decode cX6_priceOf 12 = .ok (.iload_n 1, 1) := by decide +kernel
theorem dX6_priceOf_13 : decode cX6_priceOf 13 = .ok (.iload_n 3, 1) := by decide +kernel
theorem dX6_priceOf_14 : decode cX6_priceOf 14 = .ok (.invokestatic 32, 3) := by decide +kernel
theorem dX6_priceOf_17 : decode cX6_priceOf 17 = .ok (.ifCond .eq 12, 3) := by decide +kernel
theorem dX6_priceOf_20 : decode cX6_priceOf 20 = .ok (.iload_n 2, 1) := by decide +kernel
theorem dX6_priceOf_21 : decode cX6_priceOf 21 = .ok (.aload_n 0, 1) := by decide +kernel
theorem dX6_priceOf_22 : decode cX6_priceOf 22 = .ok (.getfield 22, 3) := by decide +kernel
theorem dX6_priceOf_25 : decode cX6_priceOf 25 = .ok (.iload_n 3, 1) := by decide +kernel
theorem dX6_priceOf_26 : decode cX6_priceOf 26 = .ok (.iaload, 1) := by decide +kernel
theorem dX6_priceOf_27 : decode cX6_priceOf 27 = .ok (.iadd, 1) := by decide +kernel
theorem dX6_priceOf_28 : decode cX6_priceOf 28 = .ok (.istore_n 2, 1) := by decide +kernel
theorem dX6_priceOf_29 : decode cX6_priceOf 29 = .ok (.iinc 3 1, 3) := by decide +kernel
theorem dX6_priceOf_32 : decode cX6_priceOf 32 = .ok (.goto (-28), 3) := by decide +kernel
theorem dX6_priceOf_35 : decode cX6_priceOf 35 = .ok (.iload_n 2, 1) := by decide +kernel
theorem dX6_priceOf_36 : decode cX6_priceOf 36 = .ok (.ireturn, 1) := by decide +kernel
theorem dX6_missingIn_0 : decode cX6_missingIn 0 = .ok (.aload_n 0, 1) := by decide +kernel
theorem dX6_missingIn_1 : decode cX6_missingIn 1 = .ok (.getfield 9, 3) := by decide +kernel
theorem dX6_missingIn_4 : decode cX6_missingIn 4 = .ok (.aload_n 0, 1) := by decide +kernel
theorem dX6_missingIn_5 : decode cX6_missingIn 5 = .ok (.iload_n 1, 1) := by decide +kernel
theorem dX6_missingIn_6 : decode cX6_missingIn 6 = .ok (.invokevirtual 36, 3) := by decide +kernel
theorem dX6_missingIn_9 : decode cX6_missingIn 9 = .ok (.iconst (-1), 1) := by decide +kernel
theorem dX6_missingIn_10 : decode cX6_missingIn 10 = .ok (.ixor, 1) := by decide +kernel
theorem dX6_missingIn_11 : decode cX6_missingIn 11 = .ok (.iand, 1) := by decide +kernel
theorem dX6_missingIn_12 : decode cX6_missingIn 12 = .ok (.ireturn, 1) := by decide +kernel
theorem dX6_hasCover_0 : decode cX6_hasCover 0 = .ok (.aload_n 0, 1) := by decide +kernel
theorem dX6_hasCover_1 : decode cX6_hasCover 1 = .ok (.aload_n 0, 1) := by decide +kernel
theorem dX6_hasCover_2 : decode cX6_hasCover 2 = .ok (.invokevirtual 39, 3) := by decide +kernel
theorem dX6_hasCover_5 : decode cX6_hasCover 5 = .ok (.invokevirtual 43, 3) := by decide +kernel
theorem dX6_hasCover_8 : decode cX6_hasCover 8 = .ok (.ifCond .ne 7, 3) := by decide +kernel
theorem dX6_hasCover_11 : decode cX6_hasCover 11 = .ok (.iconst 1, 1) := by decide +kernel
theorem dX6_hasCover_12 : decode cX6_hasCover 12 = .ok (.goto 4, 3) := by decide +kernel
theorem dX6_hasCover_15 : decode cX6_hasCover 15 = .ok (.iconst 0, 1) := by decide +kernel
theorem dX6_hasCover_16 : decode cX6_hasCover 16 = .ok (.ireturn, 1) := by decide +kernel
theorem dX6_isCover_0 : decode cX6_isCover 0 = .ok (.aload_n 0, 1) := by decide +kernel
theorem dX6_isCover_1 : decode cX6_isCover 1 = .ok (.iconst 1, 1) := by decide +kernel
theorem dX6_isCover_2 : decode cX6_isCover 2 = .ok (.invokevirtual 28, 3) := by decide +kernel
theorem dX6_isCover_5 : decode cX6_isCover 5 = .ok (.istore_n 2, 1) := by decide +kernel
theorem dX6_isCover_6 : decode cX6_isCover 6 = .ok (.iload_n 1, 1) := by decide +kernel
theorem dX6_isCover_7 : decode cX6_isCover 7 = .ok (.iload_n 2, 1) := by decide +kernel
theorem dX6_isCover_8 : decode cX6_isCover 8 = .ok (.iand, 1) := by decide +kernel
theorem dX6_isCover_9 : decode cX6_isCover 9 = .ok (.iload_n 2, 1) := by decide +kernel
theorem dX6_isCover_10 : decode cX6_isCover 10 = .ok (.if_icmp .ne 25, 3) := by decide +kernel
theorem dX6_isCover_13 : decode cX6_isCover 13 = .ok (.iload_n 1, 1) := by decide +kernel
theorem dX6_isCover_14 : decode cX6_isCover 14 = .ok (.aload_n 0, 1) := by decide +kernel
theorem dX6_isCover_15 : decode cX6_isCover 15 = .ok (.iconst 2, 1) := by decide +kernel
theorem dX6_isCover_16 : decode cX6_isCover 16 = .ok (.invokevirtual 28, 3) := by decide +kernel
theorem dX6_isCover_19 : decode cX6_isCover 19 = .ok (.iand, 1) := by decide +kernel
theorem dX6_isCover_20 : decode cX6_isCover 20 = .ok (.ifCond .ne 15, 3) := by decide +kernel
theorem dX6_isCover_23 : decode cX6_isCover 23 = .ok (.aload_n 0, 1) := by decide +kernel
theorem dX6_isCover_24 : decode cX6_isCover 24 = .ok (.iload_n 1, 1) := by decide +kernel
theorem dX6_isCover_25 : decode cX6_isCover 25 = .ok (.invokevirtual 43, 3) := by decide +kernel
theorem dX6_isCover_28 : decode cX6_isCover 28 = .ok (.ifCond .ne 7, 3) := by decide +kernel
theorem dX6_isCover_31 : decode cX6_isCover 31 = .ok (.iconst 1, 1) := by decide +kernel
theorem dX6_isCover_32 : decode cX6_isCover 32 = .ok (.goto 4, 3) := by decide +kernel
theorem dX6_isCover_35 : decode cX6_isCover 35 = .ok (.iconst 0, 1) := by decide +kernel
theorem dX6_isCover_36 : decode cX6_isCover 36 = .ok (.ireturn, 1) := by decide +kernel
theorem dX6_neededAlone_0 : decode cX6_neededAlone 0 = .ok (.aload_n 0, 1) := by decide +kernel
theorem dX6_neededAlone_1 : decode cX6_neededAlone 1 = .ok (.invokevirtual 39, 3) := by decide +kernel
theorem dX6_neededAlone_4 : decode cX6_neededAlone 4 = .ok (.istore_n 2, 1) := by decide +kernel
theorem dX6_neededAlone_5 : decode cX6_neededAlone 5 = .ok (.iload_n 2, 1) := by decide +kernel
theorem dX6_neededAlone_6 : decode cX6_neededAlone 6 = .ok (.iload_n 1, 1) := by decide +kernel
theorem dX6_neededAlone_7 : decode cX6_neededAlone 7 = .ok (.invokestatic 32, 3) := by decide +kernel
theorem dX6_neededAlone_10 : decode cX6_neededAlone 10 = .ok (.ifCond .ne 5, 3) := by decide +kernel
theorem dX6_neededAlone_13 : decode cX6_neededAlone 13 = .ok (.iconst 0, 1) := by decide +kernel
theorem dX6_neededAlone_14 : decode cX6_neededAlone 14 = .ok (.ireturn, 1) := by decide +kernel
theorem dX6_neededAlone_15 : decode cX6_neededAlone 15 = .ok (.aload_n 0, 1) := by decide +kernel
theorem dX6_neededAlone_16 : decode cX6_neededAlone 16 = .ok (.getfield 9, 3) := by decide +kernel
theorem dX6_neededAlone_19 : decode cX6_neededAlone 19 = .ok (.aload_n 0, 1) := by decide +kernel
theorem dX6_neededAlone_20 : decode cX6_neededAlone 20 = .ok (.getfield 18, 3) := by decide +kernel
theorem dX6_neededAlone_23 : decode cX6_neededAlone 23 = .ok (.iload_n 1, 1) := by decide +kernel
theorem dX6_neededAlone_24 : decode cX6_neededAlone 24 = .ok (.iaload, 1) := by decide +kernel
theorem dX6_neededAlone_25 : decode cX6_neededAlone 25 = .ok (.iand, 1) := by decide +kernel
theorem dX6_neededAlone_26 : decode cX6_neededAlone 26 = .ok (.aload_n 0, 1) := by decide +kernel
theorem dX6_neededAlone_27 : decode cX6_neededAlone 27 = .ok (.iload_n 2, 1) := by decide +kernel
theorem dX6_neededAlone_28 : decode cX6_neededAlone 28 = .ok (.iconst 1, 1) := by decide +kernel
theorem dX6_neededAlone_29 : decode cX6_neededAlone 29 = .ok (.iload_n 1, 1) := by decide +kernel
theorem dX6_neededAlone_30 : decode cX6_neededAlone 30 = .ok (.ishl, 1) := by decide +kernel
theorem dX6_neededAlone_31 : decode cX6_neededAlone 31 = .ok (.iconst (-1), 1) := by decide +kernel
theorem dX6_neededAlone_32 : decode cX6_neededAlone 32 = .ok (.ixor, 1) := by decide +kernel
theorem dX6_neededAlone_33 : decode cX6_neededAlone 33 = .ok (.iand, 1) := by decide +kernel
theorem dX6_neededAlone_34 : decode cX6_neededAlone 34 = .ok (.invokevirtual 36, 3) := by decide +kernel
theorem dX6_neededAlone_37 : decode cX6_neededAlone 37 = .ok (.iconst (-1), 1) := by decide +kernel
theorem dX6_neededAlone_38 : decode cX6_neededAlone 38 = .ok (.ixor, 1) := by decide +kernel
theorem dX6_neededAlone_39 : decode cX6_neededAlone 39 = .ok (.iand, 1) := by decide +kernel
theorem dX6_neededAlone_40 : decode cX6_neededAlone 40 = .ok (.ireturn, 1) := by decide +kernel
theorem dX6_mostSetsWithOneThing_0 : decode cX6_mostSetsWithOneThing 0 = .ok (.aload_n 0, 1) := by decide +kernel
theorem dX6_mostSetsWithOneThing_1 : decode cX6_mostSetsWithOneThing 1 = .ok (.invokevirtual 39, 3) := by decide +kernel
theorem dX6_mostSetsWithOneThing_4 : decode cX6_mostSetsWithOneThing 4 = .ok (.istore_n 1, 1) := by decide +kernel
theorem dX6_mostSetsWithOneThing_5 : decode cX6_mostSetsWithOneThing 5 = .ok (.iconst 0, 1) := by decide +kernel
theorem dX6_mostSetsWithOneThing_6 : decode cX6_mostSetsWithOneThing 6 = .ok (.istore_n 2, 1) := by decide +kernel
theorem dX6_mostSetsWithOneThing_7 : decode cX6_mostSetsWithOneThing 7 = .ok (.iconst 0, 1) := by decide +kernel
theorem dX6_mostSetsWithOneThing_8 : decode cX6_mostSetsWithOneThing 8 = .ok (.istore_n 3, 1) := by decide +kernel
theorem dX6_mostSetsWithOneThing_9 : decode cX6_mostSetsWithOneThing 9 = .ok (.iload_n 3, 1) := by decide +kernel
theorem dX6_mostSetsWithOneThing_10 : decode cX6_mostSetsWithOneThing 10 = .ok (.bipush 18, 2) := by decide +kernel
theorem dX6_mostSetsWithOneThing_12 : decode cX6_mostSetsWithOneThing 12 = .ok (.if_icmp .ge 35, 3) := by decide +kernel
theorem dX6_mostSetsWithOneThing_15 : decode cX6_mostSetsWithOneThing 15 = .ok (.aload_n 0, 1) := by decide +kernel
theorem dX6_mostSetsWithOneThing_16 : decode cX6_mostSetsWithOneThing 16 = .ok (.getfield 9, 3) := by decide +kernel
theorem dX6_mostSetsWithOneThing_19 : decode cX6_mostSetsWithOneThing 19 = .ok (.iload_n 3, 1) := by decide +kernel
theorem dX6_mostSetsWithOneThing_20 : decode cX6_mostSetsWithOneThing 20 = .ok (.invokestatic 32, 3) := by decide +kernel
theorem dX6_mostSetsWithOneThing_23 : decode cX6_mostSetsWithOneThing 23 = .ok (.ifCond .eq 18, 3) := by decide +kernel
theorem dX6_mostSetsWithOneThing_26 : decode cX6_mostSetsWithOneThing 26 = .ok (.iload_n 2, 1) := by decide +kernel
theorem dX6_mostSetsWithOneThing_27 : decode cX6_mostSetsWithOneThing 27 = .ok (.aload_n 0, 1) := by decide +kernel
theorem dX6_mostSetsWithOneThing_28 : decode cX6_mostSetsWithOneThing 28 = .ok (.iload_n 3, 1) := by decide +kernel
theorem dX6_mostSetsWithOneThing_29 : decode cX6_mostSetsWithOneThing 29 = .ok (.invokevirtual 46, 3) := by decide +kernel
theorem dX6_mostSetsWithOneThing_32 : decode cX6_mostSetsWithOneThing 32 = .ok (.iload_n 1, 1) := by decide +kernel
theorem dX6_mostSetsWithOneThing_33 : decode cX6_mostSetsWithOneThing 33 = .ok (.iand, 1) := by decide +kernel
theorem dX6_mostSetsWithOneThing_34 : decode cX6_mostSetsWithOneThing 34 = .ok (.invokestatic 49, 3) := by decide +kernel
theorem dX6_mostSetsWithOneThing_37 : decode cX6_mostSetsWithOneThing 37 = .ok (.invokestatic 54, 3) := by decide +kernel
theorem dX6_mostSetsWithOneThing_40 : decode cX6_mostSetsWithOneThing 40 = .ok (.istore_n 2, 1) := by decide +kernel
theorem dX6_mostSetsWithOneThing_41 : decode cX6_mostSetsWithOneThing 41 = .ok (.iinc 3 1, 3) := by decide +kernel
theorem dX6_mostSetsWithOneThing_44 : decode cX6_mostSetsWithOneThing 44 = .ok (.goto (-35), 3) := by decide +kernel
theorem dX6_mostSetsWithOneThing_47 : decode cX6_mostSetsWithOneThing 47 = .ok (.iload_n 2, 1) := by decide +kernel
theorem dX6_mostSetsWithOneThing_48 : decode cX6_mostSetsWithOneThing 48 = .ok (.ireturn, 1) := by decide +kernel
theorem dX7_init_0 : decode cX7_init 0 = .ok (.aload_n 0, 1) := by decide +kernel
theorem dX7_init_1 : decode cX7_init 1 = .ok (.invokespecial 3, 3) := by decide +kernel
theorem dX7_init_4 : decode cX7_init 4 = .ok (.aload_n 0, 1) := by decide +kernel
theorem dX7_init_5 : decode cX7_init 5 = .ok (.iconst 0, 1) := by decide +kernel
theorem dX7_init_6 : decode cX7_init 6 = .ok (.putfield 9, 3) := by decide +kernel
theorem dX7_init_9 : decode cX7_init 9 = .ok (.aload_n 0, 1) := by decide +kernel
theorem dX7_init_10 : decode cX7_init 10 = .ok (.iconst 0, 1) := by decide +kernel
theorem dX7_init_11 : decode cX7_init 11 = .ok (.putfield 15, 3) := by decide +kernel
theorem dX7_init_14 : decode cX7_init 14 = .ok (.aload_n 0, 1) := by decide +kernel
theorem dX7_init_15 : decode cX7_init 15 = .ok (.bipush 14, 2) := by decide +kernel
theorem dX7_init_17 : decode cX7_init 17 = .ok (.newarray .int, 2) := by decide +kernel
theorem dX7_init_19 : decode cX7_init 19 = .ok (.putfield 18, 3) := by decide +kernel
theorem dX7_init_22 : decode cX7_init 22 = .ok (.aload_n 0, 1) := by decide +kernel
theorem dX7_init_23 : decode cX7_init 23 = .ok (.bipush 14, 2) := by decide +kernel
theorem dX7_init_25 : decode cX7_init 25 = .ok (.newarray .int, 2) := by decide +kernel
theorem dX7_init_27 : decode cX7_init 27 = .ok (.putfield 22, 3) := by decide +kernel
theorem dX7_init_30 : decode cX7_init 30 = .ok (.aload_n 0, 1) := by decide +kernel
theorem dX7_init_31 : decode cX7_init 31 = .ok (.bipush 14, 2) := by decide +kernel
theorem dX7_init_33 : decode cX7_init 33 = .ok (.newarray .int, 2) := by decide +kernel
theorem dX7_init_35 : decode cX7_init 35 = .ok (.putfield 25, 3) := by decide +kernel
theorem dX7_init_38 : decode cX7_init 38 = .ok (.aload_n 0, 1) := by decide +kernel
theorem dX7_init_39 : decode cX7_init 39 = .ok (.bipush 15, 2) := by decide +kernel
theorem dX7_init_41 : decode cX7_init 41 = .ok (.newarray .int, 2) := by decide +kernel
theorem dX7_init_43 : decode cX7_init 43 = .ok (.putfield 28, 3) := by decide +kernel
theorem dX7_init_46 : decode cX7_init 46 = .ok (.aload_n 0, 1) := by decide +kernel
theorem dX7_init_47 : decode cX7_init 47 = .ok (.bipush 15, 2) := by decide +kernel
theorem dX7_init_49 : decode cX7_init 49 = .ok (.newarray .int, 2) := by decide +kernel
theorem dX7_init_51 : decode cX7_init 51 = .ok (.putfield 31, 3) := by decide +kernel
theorem dX7_init_54 : decode cX7_init 54 = .ok (.aload_n 0, 1) := by decide +kernel
theorem dX7_init_55 : decode cX7_init 55 = .ok (.bipush 15, 2) := by decide +kernel
theorem dX7_init_57 : decode cX7_init 57 = .ok (.newarray .int, 2) := by decide +kernel
theorem dX7_init_59 : decode cX7_init 59 = .ok (.putfield 34, 3) := by decide +kernel
theorem dX7_init_62 : decode cX7_init 62 = .ok (.aload_n 0, 1) := by decide +kernel
theorem dX7_init_63 : decode cX7_init 63 = .ok (.bipush 15, 2) := by decide +kernel
theorem dX7_init_65 : decode cX7_init 65 = .ok (.newarray .int, 2) := by decide +kernel
theorem dX7_init_67 : decode cX7_init 67 = .ok (.putfield 37, 3) := by decide +kernel
theorem dX7_init_70 : decode cX7_init 70 = .ok (.return_, 1) := by decide +kernel
theorem dX7_begin_0 : decode cX7_begin 0 = .ok (.aload_n 0, 1) := by decide +kernel
theorem dX7_begin_1 : decode cX7_begin 1 = .ok (.aload_n 1, 1) := by decide +kernel
theorem dX7_begin_2 : decode cX7_begin 2 = .ok (.getfield 40, 3) := by decide +kernel
theorem dX7_begin_5 : decode cX7_begin 5 = .ok (.putfield 9, 3) := by decide +kernel
theorem dX7_begin_8 : decode cX7_begin 8 = .ok (.aload_n 0, 1) := by decide +kernel
theorem dX7_begin_9 : decode cX7_begin 9 = .ok (.iconst 0, 1) := by decide +kernel
theorem dX7_begin_10 : decode cX7_begin 10 = .ok (.putfield 15, 3) := by decide +kernel
theorem dX7_begin_13 : decode cX7_begin 13 = .ok (.aload_n 0, 1) := by decide +kernel
theorem dX7_begin_14 : decode cX7_begin 14 = .ok (.getfield 28, 3) := by decide +kernel
theorem dX7_begin_17 : decode cX7_begin 17 = .ok (.iconst 0, 1) := by decide +kernel
theorem dX7_begin_18 : decode cX7_begin 18 = .ok (.invokestatic 43, 3) := by decide +kernel
theorem dX7_begin_21 : decode cX7_begin 21 = .ok (.aload_n 0, 1) := by decide +kernel
theorem dX7_begin_22 : decode cX7_begin 22 = .ok (.getfield 31, 3) := by decide +kernel
theorem dX7_begin_25 : decode cX7_begin 25 = .ok (.iconst 0, 1) := by decide +kernel
theorem dX7_begin_26 : decode cX7_begin 26 = .ok (.invokestatic 43, 3) := by decide +kernel
theorem dX7_begin_29 : decode cX7_begin 29 = .ok (.aload_n 0, 1) := by decide +kernel
theorem dX7_begin_30 : decode cX7_begin 30 = .ok (.getfield 34, 3) := by decide +kernel
theorem dX7_begin_33 : decode cX7_begin 33 = .ok (.iconst 0, 1) := by decide +kernel
theorem dX7_begin_34 : decode cX7_begin 34 = .ok (.invokestatic 43, 3) := by decide +kernel
theorem dX7_begin_37 : decode cX7_begin 37 = .ok (.aload_n 0, 1) := by decide +kernel
theorem dX7_begin_38 : decode cX7_begin 38 = .ok (.getfield 37, 3) := by decide +kernel
theorem dX7_begin_41 : decode cX7_begin 41 = .ok (.iconst 0, 1) := by decide +kernel
theorem dX7_begin_42 : decode cX7_begin 42 = .ok (.invokestatic 43, 3) := by decide +kernel
theorem dX7_begin_45 : decode cX7_begin 45 = .ok (.iconst 0, 1) := by decide +kernel
theorem dX7_begin_46 : decode cX7_begin 46 = .ok (.istore_n 2, 1) := by decide +kernel
theorem dX7_begin_47 : decode cX7_begin 47 = .ok (.iload_n 2, 1) := by decide +kernel
theorem dX7_begin_48 : decode cX7_begin 48 = .ok (.aload_n 1, 1) := by decide +kernel
theorem dX7_begin_49 : decode cX7_begin 49 = .ok (.getfield 49, 3) := by decide +kernel
theorem dX7_begin_52 : decode cX7_begin 52 = .ok (.if_icmp .ge 85, 3) := by decide +kernel
theorem dX7_begin_55 : decode cX7_begin 55 = .ok (.aload_n 1, 1) := by decide +kernel
theorem dX7_begin_56 : decode cX7_begin 56 = .ok (.getfield 52, 3) := by decide +kernel
theorem dX7_begin_59 : decode cX7_begin 59 = .ok (.iload_n 2, 1) := by decide +kernel
theorem dX7_begin_60 : decode cX7_begin 60 = .ok (.iaload, 1) := by decide +kernel
theorem dX7_begin_61 : decode cX7_begin 61 = .ok (.ifCond .ne 25, 3) := by decide +kernel
theorem dX7_begin_64 : decode cX7_begin 64 = .ok (.aload_n 0, 1) := by decide +kernel
theorem dX7_begin_65 : decode cX7_begin 65 = .ok (.iconst 1, 1) := by decide +kernel
theorem dX7_begin_66 : decode cX7_begin 66 = .ok (.iload_n 2, 1) := by decide +kernel
theorem dX7_begin_67 : decode cX7_begin 67 = .ok (.ishl, 1) := by decide +kernel
theorem dX7_begin_68 : decode cX7_begin 68 = .ok (.aload_n 1, 1) := by decide +kernel
theorem dX7_begin_69 : decode cX7_begin 69 = .ok (.getfield 55, 3) := by decide +kernel
theorem dX7_begin_72 : decode cX7_begin 72 = .ok (.iload_n 2, 1) := by decide +kernel
theorem dX7_begin_73 : decode cX7_begin 73 = .ok (.iaload, 1) := by decide +kernel
theorem dX7_begin_74 : decode cX7_begin 74 = .ok (.aload_n 1, 1) := by decide +kernel
theorem dX7_begin_75 : decode cX7_begin 75 = .ok (.getfield 56, 3) := by decide +kernel
theorem dX7_begin_78 : decode cX7_begin 78 = .ok (.iload_n 2, 1) := by decide +kernel
theorem dX7_begin_79 : decode cX7_begin 79 = .ok (.iaload, 1) := by decide +kernel
theorem dX7_begin_80 : decode cX7_begin 80 = .ok (.invokevirtual 57, 3) := by decide +kernel
theorem dX7_begin_83 : decode cX7_begin 83 = .ok (.goto 48, 3) := by decide +kernel
theorem dX7_begin_86 : decode cX7_begin 86 = .ok (.aload_n 1, 1) := by decide +kernel
theorem dX7_begin_87 : decode cX7_begin 87 = .ok (.getfield 52, 3) := by decide +kernel
theorem dX7_begin_90 : decode cX7_begin 90 = .ok (.iload_n 2, 1) := by decide +kernel
theorem dX7_begin_91 : decode cX7_begin 91 = .ok (.iaload, 1) := by decide +kernel
theorem dX7_begin_92 : decode cX7_begin 92 = .ok (.iconst 1, 1) := by decide +kernel
theorem dX7_begin_93 : decode cX7_begin 93 = .ok (.if_icmp .ne 38, 3) := by decide +kernel
theorem dX7_begin_96 : decode cX7_begin 96 = .ok (.iconst 0, 1) := by decide +kernel
theorem dX7_begin_97 : decode cX7_begin 97 = .ok (.istore_n 3, 1) := by decide +kernel
theorem dX7_begin_98 : decode cX7_begin 98 = .ok (.iload_n 3, 1) := by decide +kernel
theorem dX7_begin_99 : decode cX7_begin 99 = .ok (.bipush 14, 2) := by decide +kernel
theorem dX7_begin_101 : decode cX7_begin 101 = .ok (.if_icmp .gt 30, 3) := by decide +kernel
theorem dX7_begin_104 : decode cX7_begin 104 = .ok (.aload_n 0, 1) := by decide +kernel
theorem dX7_begin_105 : decode cX7_begin 105 = .ok (.iload_n 3, 1) := by decide +kernel
theorem dX7_begin_106 : decode cX7_begin 106 = .ok (.iload_n 3, 1) := by decide +kernel
theorem dX7_begin_107 : decode cX7_begin 107 = .ok (.iconst 1, 1) := by decide +kernel
theorem dX7_begin_108 : decode cX7_begin 108 = .ok (.iload_n 2, 1) := by decide +kernel
theorem dX7_begin_109 : decode cX7_begin 109 = .ok (.ishl, 1) := by decide +kernel
theorem dX7_begin_110 : decode cX7_begin 110 = .ok (.aload_n 1, 1) := by decide +kernel
theorem dX7_begin_111 : decode cX7_begin 111 = .ok (.getfield 55, 3) := by decide +kernel
theorem dX7_begin_114 : decode cX7_begin 114 = .ok (.iload_n 2, 1) := by decide +kernel
theorem dX7_begin_115 : decode cX7_begin 115 = .ok (.iaload, 1) := by decide +kernel
theorem dX7_begin_116 : decode cX7_begin 116 = .ok (.aload_n 1, 1) := by decide +kernel
theorem dX7_begin_117 : decode cX7_begin 117 = .ok (.getfield 56, 3) := by decide +kernel
theorem dX7_begin_120 : decode cX7_begin 120 = .ok (.iload_n 2, 1) := by decide +kernel
theorem dX7_begin_121 : decode cX7_begin 121 = .ok (.iaload, 1) := by decide +kernel
theorem dX7_begin_122 : decode cX7_begin 122 = .ok (.invokevirtual 61, 3) := by decide +kernel
theorem dX7_begin_125 : decode cX7_begin 125 = .ok (.iinc 3 1, 3) := by decide +kernel
theorem dX7_begin_128 : decode cX7_begin 128 = .ok (.goto (-30), 3) := by decide +kernel
theorem dX7_begin_131 : decode cX7_begin 131 = .ok (.iinc 2 1, 3) := by decide +kernel
theorem dX7_begin_134 : decode cX7_begin 134 = .ok (.goto (-87), 3) := by decide +kernel
theorem dX7_begin_137 : decode cX7_begin 137 = .ok (.iconst 1, 1) := by decide +kernel
theorem dX7_begin_138 : decode cX7_begin 138 = .ok (.aload_n 0, 1) := by decide +kernel
theorem dX7_begin_139 : decode cX7_begin 139 = .ok (.getfield 15, 3) := by decide +kernel
theorem dX7_begin_142 : decode cX7_begin 142 = .ok (.ishl, 1) := by decide +kernel
theorem dX7_begin_143 : decode cX7_begin 143 = .ok (.ireturn, 1) := by decide +kernel
theorem dX7_noteFree_0 : decode cX7_noteFree 0 = .ok (.aload_n 0, 1) := by decide +kernel
theorem dX7_noteFree_1 : decode cX7_noteFree 1 = .ok (.getfield 15, 3) := by decide +kernel
theorem dX7_noteFree_4 : decode cX7_noteFree 4 = .ok (.bipush 14, 2) := by decide +kernel
theorem dX7_noteFree_6 : decode cX7_noteFree 6 = .ok (.if_icmp .ge 43, 3) := by decide +kernel
theorem dX7_noteFree_9 : decode cX7_noteFree 9 = .ok (.aload_n 0, 1) := by decide +kernel
theorem dX7_noteFree_10 : decode cX7_noteFree 10 = .ok (.getfield 25, 3) := by decide +kernel
theorem dX7_noteFree_13 : decode cX7_noteFree 13 = .ok (.aload_n 0, 1) := by decide +kernel
theorem dX7_noteFree_14 : decode cX7_noteFree 14 = .ok (.getfield 15, 3) := by decide +kernel
theorem dX7_noteFree_17 : decode cX7_noteFree 17 = .ok (.iload_n 1, 1) := by decide +kernel
theorem dX7_noteFree_18 : decode cX7_noteFree 18 = .ok (.iastore, 1) := by decide +kernel
theorem dX7_noteFree_19 : decode cX7_noteFree 19 = .ok (.aload_n 0, 1) := by decide +kernel
theorem dX7_noteFree_20 : decode cX7_noteFree 20 = .ok (.getfield 18, 3) := by decide +kernel
theorem dX7_noteFree_23 : decode cX7_noteFree 23 = .ok (.aload_n 0, 1) := by decide +kernel
theorem dX7_noteFree_24 : decode cX7_noteFree 24 = .ok (.getfield 15, 3) := by decide +kernel
theorem dX7_noteFree_27 : decode cX7_noteFree 27 = .ok (.iload_n 2, 1) := by decide +kernel
theorem dX7_noteFree_28 : decode cX7_noteFree 28 = .ok (.iastore, 1) := by decide +kernel
theorem dX7_noteFree_29 : decode cX7_noteFree 29 = .ok (.aload_n 0, 1) := by decide +kernel
theorem dX7_noteFree_30 : decode cX7_noteFree 30 = .ok (.getfield 22, 3) := by decide +kernel
theorem dX7_noteFree_33 : decode cX7_noteFree 33 = .ok (.aload_n 0, 1) := by decide +kernel
theorem dX7_noteFree_34 : decode cX7_noteFree 34 = .ok (.getfield 15, 3) := by decide +kernel
theorem dX7_noteFree_37 : decode cX7_noteFree 37 = .ok (.iload_n 3, 1) := by decide +kernel
theorem dX7_noteFree_38 : decode cX7_noteFree 38 = .ok (.iastore, 1) := by decide +kernel
theorem dX7_noteFree_39 : decode cX7_noteFree 39 = .ok (.aload_n 0, 1) := by decide +kernel
theorem dX7_noteFree_40 : decode cX7_noteFree 40 = .ok (.dup, 1) := by decide +kernel
theorem dX7_noteFree_41 : decode cX7_noteFree 41 = .ok (.getfield 15, 3) := by decide +kernel
theorem dX7_noteFree_44 : decode cX7_noteFree 44 = .ok (.iconst 1, 1) := by decide +kernel
theorem dX7_noteFree_45 : decode cX7_noteFree 45 = .ok (.iadd, 1) := by decide +kernel
theorem dX7_noteFree_46 : decode cX7_noteFree 46 = .ok (.putfield 15, 3) := by decide +kernel
theorem dX7_noteFree_49 : decode cX7_noteFree 49 = .ok (.return_, 1) := by decide +kernel
theorem dX7_join_0 : decode cX7_join 0 = .ok (.aload_n 0, 1) := by decide +kernel
theorem dX7_join_1 : decode cX7_join 1 = .ok (.getfield 28, 3) := by decide +kernel
theorem dX7_join_4 : decode cX7_join 4 = .ok (.iload_n 1, 1) := by decide +kernel
theorem dX7_join_5 : decode cX7_join 5 = .ok (.aload_n 0, 1) := by decide +kernel
theorem dX7_join_6 : decode cX7_join 6 = .ok (.getfield 28, 3) := by decide +kernel
theorem dX7_join_9 : decode cX7_join 9 = .ok (.iload_n 2, 1) := by decide +kernel
theorem dX7_join_10 : decode cX7_join 10 = .ok (.iaload, 1) := by decide +kernel
theorem dX7_join_11 : decode cX7_join 11 = .ok (.iload_n 3, 1) := by decide +kernel
theorem dX7_join_12 : decode cX7_join 12 = .ok (.ior, 1) := by decide +kernel
theorem dX7_join_13 : decode cX7_join 13 = .ok (.iastore, 1) := by decide +kernel
theorem dX7_join_14 : decode cX7_join 14 = .ok (.aload_n 0, 1) := by decide +kernel
theorem dX7_join_15 : decode cX7_join 15 = .ok (.getfield 31, 3) := by decide +kernel
theorem dX7_join_18 : decode cX7_join 18 = .ok (.iload_n 1, 1) := by decide +kernel
theorem dX7_join_19 : decode cX7_join 19 = .ok (.aload_n 0, 1) := by decide +kernel
theorem dX7_join_20 : decode cX7_join 20 = .ok (.getfield 31, 3) := by decide +kernel
theorem dX7_join_23 : decode cX7_join 23 = .ok (.iload_n 2, 1) := by decide +kernel
theorem dX7_join_24 : decode cX7_join 24 = .ok (.iaload, 1) := by decide +kernel
theorem dX7_join_25 : decode cX7_join 25 = .ok (.iload 5, 2) := by decide +kernel
theorem dX7_join_27 : decode cX7_join 27 = .ok (.iadd, 1) := by decide +kernel
theorem dX7_join_28 : decode cX7_join 28 = .ok (.iastore, 1) := by decide +kernel
theorem dX7_join_29 : decode cX7_join 29 = .ok (.aload_n 0, 1) := by decide +kernel
theorem dX7_join_30 : decode cX7_join 30 = .ok (.getfield 37, 3) := by decide +kernel
theorem dX7_join_33 : decode cX7_join 33 = .ok (.iload_n 1, 1) := by decide +kernel
theorem dX7_join_34 : decode cX7_join 34 = .ok (.aload_n 0, 1) := by decide +kernel
theorem dX7_join_35 : decode cX7_join 35 = .ok (.getfield 37, 3) := by decide +kernel
theorem dX7_join_38 : decode cX7_join 38 = .ok (.iload_n 2, 1) := by decide +kernel
theorem dX7_join_39 : decode cX7_join 39 = .ok (.iaload, 1) := by decide +kernel
theorem dX7_join_40 : decode cX7_join 40 = .ok (.aload_n 0, 1) := by decide +kernel
theorem dX7_join_41 : decode cX7_join 41 = .ok (.getfield 34, 3) := by decide +kernel
theorem dX7_join_44 : decode cX7_join 44 = .ok (.iload_n 2, 1) := by decide +kernel
theorem dX7_join_45 : decode cX7_join 45 = .ok (.iaload, 1) := by decide +kernel
theorem dX7_join_46 : decode cX7_join 46 = .ok (.iload 4, 2) := by decide +kernel
theorem dX7_join_48 : decode cX7_join 48 = .ok (.iand, 1) := by decide +kernel
theorem dX7_join_49 : decode cX7_join 49 = .ok (.ior, 1) := by decide +kernel
theorem dX7_join_50 : decode cX7_join 50 = .ok (.iastore, 1) := by decide +kernel
theorem dX7_join_51 : decode cX7_join 51 = .ok (.aload_n 0, 1) := by decide +kernel
theorem dX7_join_52 : decode cX7_join 52 = .ok (.getfield 34, 3) := by decide +kernel
theorem dX7_join_55 : decode cX7_join 55 = .ok (.iload_n 1, 1) := by decide +kernel
theorem dX7_join_56 : decode cX7_join 56 = .ok (.aload_n 0, 1) := by decide +kernel
theorem dX7_join_57 : decode cX7_join 57 = .ok (.getfield 34, 3) := by decide +kernel
theorem dX7_join_60 : decode cX7_join 60 = .ok (.iload_n 2, 1) := by decide +kernel
theorem dX7_join_61 : decode cX7_join 61 = .ok (.iaload, 1) := by decide +kernel
theorem dX7_join_62 : decode cX7_join 62 = .ok (.iload 4, 2) := by decide +kernel
theorem dX7_join_64 : decode cX7_join 64 = .ok (.ior, 1) := by decide +kernel
theorem dX7_join_65 : decode cX7_join 65 = .ok (.iastore, 1) := by decide +kernel
theorem dX7_join_66 : decode cX7_join 66 = .ok (.return_, 1) := by decide +kernel
theorem dX7_goTo_0 : decode cX7_goTo 0 = .ok (.iload_n 1, 1) := by decide +kernel
theorem dX7_goTo_1 : decode cX7_goTo 1 = .ok (.invokestatic 65, 3) := by decide +kernel
theorem dX7_goTo_4 : decode cX7_goTo 4 = .ok (.istore_n 2, 1) := by decide +kernel
theorem dX7_goTo_5 : decode cX7_goTo 5 = .ok (.iload_n 2, 1) := by decide +kernel
theorem dX7_goTo_6 : decode cX7_goTo 6 = .ok (.aload_n 0, 1) := by decide +kernel
theorem dX7_goTo_7 : decode cX7_goTo 7 = .ok (.getfield 15, 3) := by decide +kernel
theorem dX7_goTo_10 : decode cX7_goTo 10 = .ok (.if_icmp .ge 9, 3) := by decide +kernel
theorem dX7_goTo_13 : decode cX7_goTo 13 = .ok (.iload_n 2, 1) := by decide +kernel
theorem dX7_goTo_14 : decode cX7_goTo 14 = .ok (.bipush 14, 2) := by decide +kernel
theorem dX7_goTo_16 : decode cX7_goTo 16 = .ok (.if_icmp .lt 4, 3) := by decide +kernel
theorem dX7_goTo_19 : decode cX7_goTo 19 = .ok (.return_, 1) := by decide +kernel
theorem dX7_goTo_20 : decode cX7_goTo 20 = .ok (.aload_n 0, 1) := by decide +kernel
theorem dX7_goTo_21 : decode cX7_goTo 21 = .ok (.iload_n 2, 1) := by decide +kernel
theorem dX7_goTo_22 : decode cX7_goTo 22 = .ok (.iload_n 2, 1) := by decide +kernel
theorem dX7_goTo_23 : decode cX7_goTo 23 = .ok (.iconst 1, 1) := by decide +kernel
theorem dX7_goTo_24 : decode cX7_goTo 24 = .ok (.iadd, 1) := by decide +kernel
theorem dX7_goTo_25 : decode cX7_goTo 25 = .ok (.aload_n 0, 1) := by decide +kernel
theorem dX7_goTo_26 : decode cX7_goTo 26 = .ok (.getfield 25, 3) := by decide +kernel
theorem dX7_goTo_29 : decode cX7_goTo 29 = .ok (.iload_n 2, 1) := by decide +kernel
theorem dX7_goTo_30 : decode cX7_goTo 30 = .ok (.iaload, 1) := by decide +kernel
theorem dX7_goTo_31 : decode cX7_goTo 31 = .ok (.aload_n 0, 1) := by decide +kernel
theorem dX7_goTo_32 : decode cX7_goTo 32 = .ok (.getfield 18, 3) := by decide +kernel
theorem dX7_goTo_35 : decode cX7_goTo 35 = .ok (.iload_n 2, 1) := by decide +kernel
theorem dX7_goTo_36 : decode cX7_goTo 36 = .ok (.iaload, 1) := by decide +kernel
theorem dX7_goTo_37 : decode cX7_goTo 37 = .ok (.aload_n 0, 1) := by decide +kernel
theorem dX7_goTo_38 : decode cX7_goTo 38 = .ok (.getfield 22, 3) := by decide +kernel
theorem dX7_goTo_41 : decode cX7_goTo 41 = .ok (.iload_n 2, 1) := by decide +kernel
theorem dX7_goTo_42 : decode cX7_goTo 42 = .ok (.iaload, 1) := by decide +kernel
theorem dX7_goTo_43 : decode cX7_goTo 43 = .ok (.invokevirtual 61, 3) := by decide +kernel
theorem dX7_goTo_46 : decode cX7_goTo 46 = .ok (.iconst 0, 1) := by decide +kernel
theorem dX7_goTo_47 : decode cX7_goTo 47 = .ok (.istore_n 3, 1) := by decide +kernel
theorem dX7_goTo_48 : decode cX7_goTo 48 = .ok (.iload_n 3, 1) := by decide +kernel
theorem dX7_goTo_49 : decode cX7_goTo 49 = .ok (.iload_n 2, 1) := by decide +kernel
theorem dX7_goTo_50 : decode cX7_goTo 50 = .ok (.if_icmp .ge 18, 3) := by decide +kernel
theorem dX7_goTo_53 : decode cX7_goTo 53 = .ok (.aload_n 0, 1) := by decide +kernel
theorem dX7_goTo_54 : decode cX7_goTo 54 = .ok (.iload_n 3, 1) := by decide +kernel
theorem dX7_goTo_55 : decode cX7_goTo 55 = .ok (.iload_n 2, 1) := by decide +kernel
theorem dX7_goTo_56 : decode cX7_goTo 56 = .ok (.iconst 0, 1) := by decide +kernel
theorem dX7_goTo_57 : decode cX7_goTo 57 = .ok (.iconst 0, 1) := by decide +kernel
theorem dX7_goTo_58 : decode cX7_goTo 58 = .ok (.iconst 0, 1) := by decide +kernel
theorem dX7_goTo_59 : decode cX7_goTo 59 = .ok (.invokevirtual 61, 3) := by decide +kernel
theorem dX7_goTo_62 : decode cX7_goTo 62 = .ok (.iinc 3 1, 3) := by decide +kernel
theorem dX7_goTo_65 : decode cX7_goTo 65 = .ok (.goto (-17), 3) := by decide +kernel
theorem dX7_goTo_68 : decode cX7_goTo 68 = .ok (.return_, 1) := by decide +kernel
theorem dX7_chosen_0 : decode cX7_chosen 0 = .ok (.aload_n 0, 1) := by decide +kernel
theorem dX7_chosen_1 : decode cX7_chosen 1 = .ok (.getfield 28, 3) := by decide +kernel
theorem dX7_chosen_4 : decode cX7_chosen 4 = .ok (.iconst 0, 1) := by decide +kernel
theorem dX7_chosen_5 : decode cX7_chosen 5 = .ok (.iaload, 1) := by decide +kernel
theorem dX7_chosen_6 : decode cX7_chosen 6 = .ok (.ireturn, 1) := by decide +kernel
theorem dX7_sum_0 : decode cX7_sum 0 = .ok (.aload_n 0, 1) := by decide +kernel
theorem dX7_sum_1 : decode cX7_sum 1 = .ok (.getfield 31, 3) := by decide +kernel
theorem dX7_sum_4 : decode cX7_sum 4 = .ok (.iconst 0, 1) := by decide +kernel
theorem dX7_sum_5 : decode cX7_sum 5 = .ok (.iaload, 1) := by decide +kernel
theorem dX7_sum_6 : decode cX7_sum 6 = .ok (.ireturn, 1) := by decide +kernel
theorem dX7_missing_0 : decode cX7_missing 0 = .ok (.aload_n 0, 1) := by decide +kernel
theorem dX7_missing_1 : decode cX7_missing 1 = .ok (.getfield 9, 3) := by decide +kernel
theorem dX7_missing_4 : decode cX7_missing 4 = .ok (.aload_n 0, 1) := by decide +kernel
theorem dX7_missing_5 : decode cX7_missing 5 = .ok (.getfield 34, 3) := by decide +kernel
theorem dX7_missing_8 : decode cX7_missing 8 = .ok (.iconst 0, 1) := by decide +kernel
theorem dX7_missing_9 : decode cX7_missing 9 = .ok (.iaload, 1) := by decide +kernel
theorem dX7_missing_10 : decode cX7_missing 10 = .ok (.iconst (-1), 1) := by decide +kernel
theorem dX7_missing_11 : decode cX7_missing 11 = .ok (.ixor, 1) := by decide +kernel
theorem dX7_missing_12 : decode cX7_missing 12 = .ok (.iand, 1) := by decide +kernel
theorem dX7_missing_13 : decode cX7_missing 13 = .ok (.ireturn, 1) := by decide +kernel
theorem dX7_isFullCover_0 : decode cX7_isFullCover 0 = .ok (.aload_n 0, 1) := by decide +kernel
theorem dX7_isFullCover_1 : decode cX7_isFullCover 1 = .ok (.invokevirtual 71, 3) := by decide +kernel
theorem dX7_isFullCover_4 : decode cX7_isFullCover 4 = .ok (.ifCond .ne 7, 3) := by decide +kernel
theorem dX7_isFullCover_7 : decode cX7_isFullCover 7 = .ok (.iconst 1, 1) := by decide +kernel
theorem dX7_isFullCover_8 : decode cX7_isFullCover 8 = .ok (.goto 4, 3) := by decide +kernel
theorem dX7_isFullCover_11 : decode cX7_isFullCover 11 = .ok (.iconst 0, 1) := by decide +kernel
theorem dX7_isFullCover_12 : decode cX7_isFullCover 12 = .ok (.ireturn, 1) := by decide +kernel
theorem dX7_hasNoSpareSet_0 : decode cX7_hasNoSpareSet 0 = .ok (.aload_n 0, 1) := by decide +kernel
theorem dX7_hasNoSpareSet_1 : decode cX7_hasNoSpareSet 1 = .ok (.getfield 9, 3) := by decide +kernel
theorem dX7_hasNoSpareSet_4 : decode cX7_hasNoSpareSet 4 = .ok (.aload_n 0, 1) := by decide +kernel
theorem dX7_hasNoSpareSet_5 : decode cX7_hasNoSpareSet 5 = .ok (.getfield 37, 3) := by decide +kernel
theorem dX7_hasNoSpareSet_8 : decode cX7_hasNoSpareSet 8 = .ok (.iconst 0, 1) := by decide +kernel
theorem dX7_hasNoSpareSet_9 : decode cX7_hasNoSpareSet 9 = .ok (.iaload, 1) := by decide +kernel
theorem dX7_hasNoSpareSet_10 : decode cX7_hasNoSpareSet 10 = .ok (.iconst (-1), 1) := by decide +kernel
theorem dX7_hasNoSpareSet_11 : decode cX7_hasNoSpareSet 11 = .ok (.ixor, 1) := by decide +kernel
theorem dX7_hasNoSpareSet_12 : decode cX7_hasNoSpareSet 12 = .ok (.iand, 1) := by decide +kernel
theorem dX7_hasNoSpareSet_13 : decode cX7_hasNoSpareSet 13 = .ok (.istore_n 1, 1) := by decide +kernel
theorem dX7_hasNoSpareSet_14 : decode cX7_hasNoSpareSet 14 = .ok (.iconst 0, 1) := by decide +kernel
theorem dX7_hasNoSpareSet_15 : decode cX7_hasNoSpareSet 15 = .ok (.istore_n 2, 1) := by decide +kernel
theorem dX7_hasNoSpareSet_16 : decode cX7_hasNoSpareSet 16 = .ok (.iload_n 2, 1) := by decide +kernel
theorem dX7_hasNoSpareSet_17 : decode cX7_hasNoSpareSet 17 = .ok (.aload_n 0, 1) := by decide +kernel
theorem dX7_hasNoSpareSet_18 : decode cX7_hasNoSpareSet 18 = .ok (.getfield 15, 3) := by decide +kernel
theorem dX7_hasNoSpareSet_21 : decode cX7_hasNoSpareSet 21 = .ok (.if_icmp .ge 44, 3) := by decide +kernel
theorem dX7_hasNoSpareSet_24 : decode cX7_hasNoSpareSet 24 = .ok (.iload_n 2, 1) := by decide +kernel
theorem dX7_hasNoSpareSet_25 : decode cX7_hasNoSpareSet 25 = .ok (.bipush 14, 2) := by decide +kernel
theorem dX7_hasNoSpareSet_27 : decode cX7_hasNoSpareSet 27 = .ok (.if_icmp .ge 38, 3) := by decide +kernel
theorem dX7_hasNoSpareSet_30 : decode cX7_hasNoSpareSet 30 = .ok (.aload_n 0, 1) := by decide +kernel
theorem dX7_hasNoSpareSet_31 : decode cX7_hasNoSpareSet 31 = .ok (.getfield 28, 3) := by decide +kernel
theorem dX7_hasNoSpareSet_34 : decode cX7_hasNoSpareSet 34 = .ok (.iconst 0, 1) := by decide +kernel
theorem dX7_hasNoSpareSet_35 : decode cX7_hasNoSpareSet 35 = .ok (.iaload, 1) := by decide +kernel
theorem dX7_hasNoSpareSet_36 : decode cX7_hasNoSpareSet 36 = .ok (.aload_n 0, 1) := by decide +kernel
theorem dX7_hasNoSpareSet_37 : decode cX7_hasNoSpareSet 37 = .ok (.getfield 25, 3) := by decide +kernel
theorem dX7_hasNoSpareSet_40 : decode cX7_hasNoSpareSet 40 = .ok (.iload_n 2, 1) := by decide +kernel
theorem dX7_hasNoSpareSet_41 : decode cX7_hasNoSpareSet 41 = .ok (.iaload, 1) := by decide +kernel
theorem dX7_hasNoSpareSet_42 : decode cX7_hasNoSpareSet 42 = .ok (.iand, 1) := by decide +kernel
theorem dX7_hasNoSpareSet_43 : decode cX7_hasNoSpareSet 43 = .ok (.ifCond .eq 16, 3) := by decide +kernel
theorem dX7_hasNoSpareSet_46 : decode cX7_hasNoSpareSet 46 = .ok (.aload_n 0, 1) := by decide +kernel
theorem dX7_hasNoSpareSet_47 : decode cX7_hasNoSpareSet 47 = .ok (.getfield 18, 3) := by decide +kernel
theorem dX7_hasNoSpareSet_50 : decode cX7_hasNoSpareSet 50 = .ok (.iload_n 2, 1) := by decide +kernel
theorem dX7_hasNoSpareSet_51 : decode cX7_hasNoSpareSet 51 = .ok (.iaload, 1) := by decide +kernel
theorem dX7_hasNoSpareSet_52 : decode cX7_hasNoSpareSet 52 = .ok (.iload_n 1, 1) := by decide +kernel
theorem dX7_hasNoSpareSet_53 : decode cX7_hasNoSpareSet 53 = .ok (.iand, 1) := by decide +kernel
theorem dX7_hasNoSpareSet_54 : decode cX7_hasNoSpareSet 54 = .ok (.ifCond .ne 5, 3) := by decide +kernel
theorem dX7_hasNoSpareSet_57 : decode cX7_hasNoSpareSet 57 = .ok (.iconst 0, 1) := by decide +kernel
theorem dX7_hasNoSpareSet_58 : decode cX7_hasNoSpareSet 58 = .ok (.ireturn, 1) := by decide +kernel
theorem dX7_hasNoSpareSet_59 : decode cX7_hasNoSpareSet 59 = .ok (.iinc 2 1, 3) := by decide +kernel
theorem dX7_hasNoSpareSet_62 : decode cX7_hasNoSpareSet 62 = .ok (.goto (-46), 3) := by decide +kernel
theorem dX7_hasNoSpareSet_65 : decode cX7_hasNoSpareSet 65 = .ok (.iconst 1, 1) := by decide +kernel
theorem dX7_hasNoSpareSet_66 : decode cX7_hasNoSpareSet 66 = .ok (.ireturn, 1) := by decide +kernel
theorem dX8_init_0 : decode cX8_init 0 = .ok (.aload_n 0, 1) := by decide +kernel
theorem dX8_init_1 : decode cX8_init 1 = .ok (.invokespecial 3, 3) := by decide +kernel
theorem dX8_init_4 : decode cX8_init 4 = .ok (.aload_n 0, 1) := by decide +kernel
theorem dX8_init_5 : decode cX8_init 5 = .ok (.new 9, 3) := by decide +kernel
theorem dX8_init_8 : decode cX8_init 8 = .ok (.dup, 1) := by decide +kernel
theorem dX8_init_9 : decode cX8_init 9 = .ok (.invokespecial 11, 3) := by decide +kernel
theorem dX8_init_12 : decode cX8_init 12 = .ok (.putfield 12, 3) := by decide +kernel
theorem dX8_init_15 : decode cX8_init 15 = .ok (.aload_n 0, 1) := by decide +kernel
theorem dX8_init_16 : decode cX8_init 16 = .ok (.new 16, 3) := by decide +kernel
theorem dX8_init_19 : decode cX8_init 19 = .ok (.dup, 1) := by decide +kernel
theorem dX8_init_20 : decode cX8_init 20 = .ok (.invokespecial 18, 3) := by decide +kernel
theorem dX8_init_23 : decode cX8_init 23 = .ok (.putfield 19, 3) := by decide +kernel
theorem dX8_init_26 : decode cX8_init 26 = .ok (.aload_n 0, 1) := by decide +kernel
theorem dX8_init_27 : decode cX8_init 27 = .ok (.new 23, 3) := by decide +kernel
theorem dX8_init_30 : decode cX8_init 30 = .ok (.dup, 1) := by decide +kernel
theorem dX8_init_31 : decode cX8_init 31 = .ok (.invokespecial 25, 3) := by decide +kernel
theorem dX8_init_34 : decode cX8_init 34 = .ok (.putfield 26, 3) := by decide +kernel
theorem dX8_init_37 : decode cX8_init 37 = .ok (.aload_n 0, 1) := by decide +kernel
theorem dX8_init_38 : decode cX8_init 38 = .ok (.new 30, 3) := by decide +kernel
theorem dX8_init_41 : decode cX8_init 41 = .ok (.dup, 1) := by decide +kernel
theorem dX8_init_42 : decode cX8_init 42 = .ok (.invokespecial 32, 3) := by decide +kernel
theorem dX8_init_45 : decode cX8_init 45 = .ok (.putfield 33, 3) := by decide +kernel
theorem dX8_init_48 : decode cX8_init 48 = .ok (.aload_n 0, 1) := by decide +kernel
theorem dX8_init_49 : decode cX8_init 49 = .ok (.new 37, 3) := by decide +kernel
theorem dX8_init_52 : decode cX8_init 52 = .ok (.dup, 1) := by decide +kernel
theorem dX8_init_53 : decode cX8_init 53 = .ok (.invokespecial 39, 3) := by decide +kernel
theorem dX8_init_56 : decode cX8_init 56 = .ok (.putfield 40, 3) := by decide +kernel
theorem dX8_init_59 : decode cX8_init 59 = .ok (.aload_n 0, 1) := by decide +kernel
theorem dX8_init_60 : decode cX8_init 60 = .ok (.new 44, 3) := by decide +kernel
theorem dX8_init_63 : decode cX8_init 63 = .ok (.dup, 1) := by decide +kernel
theorem dX8_init_64 : decode cX8_init 64 = .ok (.invokespecial 46, 3) := by decide +kernel
theorem dX8_init_67 : decode cX8_init 67 = .ok (.putfield 47, 3) := by decide +kernel
theorem dX8_init_70 : decode cX8_init 70 = .ok (.aload_n 0, 1) := by decide +kernel
theorem dX8_init_71 : decode cX8_init 71 = .ok (.new 51, 3) := by decide +kernel
theorem dX8_init_74 : decode cX8_init 74 = .ok (.dup, 1) := by decide +kernel
theorem dX8_init_75 : decode cX8_init 75 = .ok (.invokespecial 53, 3) := by decide +kernel
theorem dX8_init_78 : decode cX8_init 78 = .ok (.putfield 54, 3) := by decide +kernel
theorem dX8_init_81 : decode cX8_init 81 = .ok (.return_, 1) := by decide +kernel
theorem dX8_need_0 : decode cX8_need 0 = .ok (.iload_n 1, 1) := by decide +kernel
theorem dX8_need_1 : decode cX8_need 1 = .ok (.ifCond .lt 9, 3) := by decide +kernel
theorem dX8_need_4 : decode cX8_need 4 = .ok (.iload_n 1, 1) := by decide +kernel
theorem dX8_need_5 : decode cX8_need 5 = .ok (.ldc 58, 2) := by decide +kernel
theorem dX8_need_7 : decode cX8_need 7 = .ok (.if_icmp .le 6, 3) := by decide +kernel
theorem dX8_need_10 : decode cX8_need 10 = .ok (.bipush (-2), 2) := by decide +kernel
theorem dX8_need_12 : decode cX8_need 12 = .ok (.ireturn, 1) := by decide +kernel
theorem dX8_need_13 : decode cX8_need 13 = .ok (.aload_n 0, 1) := by decide +kernel
theorem dX8_need_14 : decode cX8_need 14 = .ok (.getfield 19, 3) := by decide +kernel
theorem dX8_need_17 : decode cX8_need 17 = .ok (.aload_n 0, 1) := by decide +kernel
theorem dX8_need_18 : decode cX8_need 18 = .ok (.getfield 12, 3) := by decide +kernel
theorem dX8_need_21 : decode cX8_need 21 = .ok (.invokevirtual 59, 3) := by decide +kernel
theorem dX8_need_24 : decode cX8_need 24 = .ok (.aload_n 0, 1) := by decide +kernel
theorem dX8_need_25 : decode cX8_need 25 = .ok (.getfield 12, 3) := by decide +kernel
theorem dX8_need_28 : decode cX8_need 28 = .ok (.getfield 63, 3) := by decide +kernel
theorem dX8_need_31 : decode cX8_need 31 = .ok (.istore_n 2, 1) := by decide +kernel
theorem dX8_need_32 : decode cX8_need 32 = .ok (.aload_n 0, 1) := by decide +kernel
theorem dX8_need_33 : decode cX8_need 33 = .ok (.getfield 12, 3) := by decide +kernel
theorem dX8_need_36 : decode cX8_need 36 = .ok (.iload_n 1, 1) := by decide +kernel
theorem dX8_need_37 : decode cX8_need 37 = .ok (.putfield 63, 3) := by decide +kernel
theorem dX8_need_40 : decode cX8_need 40 = .ok (.iload_n 2, 1) := by decide +kernel
theorem dX8_need_41 : decode cX8_need 41 = .ok (.ireturn, 1) := by decide +kernel
theorem dX8_set_0 : decode cX8_set 0 = .ok (.iload_n 1, 1) := by decide +kernel
theorem dX8_set_1 : decode cX8_set 1 = .ok (.invokestatic 67, 3) := by decide +kernel
theorem dX8_set_4 : decode cX8_set 4 = .ok (.ifCond .eq 10, 3) := by decide +kernel
theorem dX8_set_7 : decode cX8_set 7 = .ok (.iload_n 2, 1) := by decide +kernel
theorem dX8_set_8 : decode cX8_set 8 = .ok (.invokestatic 71, 3) := by decide +kernel
theorem dX8_set_11 : decode cX8_set 11 = .ok (.ifCond .ne 6, 3) := by decide +kernel
theorem dX8_set_14 : decode cX8_set 14 = .ok (.bipush (-2), 2) := by decide +kernel
theorem dX8_set_16 : decode cX8_set 16 = .ok (.ireturn, 1) := by decide +kernel
theorem dX8_set_17 : decode cX8_set 17 = .ok (.aload_n 0, 1) := by decide +kernel
theorem dX8_set_18 : decode cX8_set 18 = .ok (.getfield 12, 3) := by decide +kernel
theorem dX8_set_21 : decode cX8_set 21 = .ok (.getfield 74, 3) := by decide +kernel
theorem dX8_set_24 : decode cX8_set 24 = .ok (.bipush 14, 2) := by decide +kernel
theorem dX8_set_26 : decode cX8_set 26 = .ok (.if_icmp .lt 6, 3) := by decide +kernel
theorem dX8_set_29 : decode cX8_set 29 = .ok (.bipush (-4), 2) := by decide +kernel
theorem dX8_set_31 : decode cX8_set 31 = .ok (.ireturn, 1) := by decide +kernel
theorem dX8_set_32 : decode cX8_set 32 = .ok (.aload_n 0, 1) := by decide +kernel
theorem dX8_set_33 : decode cX8_set 33 = .ok (.getfield 19, 3) := by decide +kernel
theorem dX8_set_36 : decode cX8_set 36 = .ok (.aload_n 0, 1) := by decide +kernel
theorem dX8_set_37 : decode cX8_set 37 = .ok (.getfield 12, 3) := by decide +kernel
theorem dX8_set_40 : decode cX8_set 40 = .ok (.invokevirtual 59, 3) := by decide +kernel
theorem dX8_set_43 : decode cX8_set 43 = .ok (.aload_n 0, 1) := by decide +kernel
theorem dX8_set_44 : decode cX8_set 44 = .ok (.getfield 12, 3) := by decide +kernel
theorem dX8_set_47 : decode cX8_set 47 = .ok (.iload_n 1, 1) := by decide +kernel
theorem dX8_set_48 : decode cX8_set 48 = .ok (.iload_n 2, 1) := by decide +kernel
theorem dX8_set_49 : decode cX8_set 49 = .ok (.invokevirtual 77, 3) := by decide +kernel
theorem dX8_set_52 : decode cX8_set 52 = .ok (.aload_n 0, 1) := by decide +kernel
theorem dX8_set_53 : decode cX8_set 53 = .ok (.getfield 12, 3) := by decide +kernel
theorem dX8_set_56 : decode cX8_set 56 = .ok (.getfield 74, 3) := by decide +kernel
theorem dX8_set_59 : decode cX8_set 59 = .ok (.iconst 1, 1) := by decide +kernel
theorem dX8_set_60 : decode cX8_set 60 = .ok (.isub, 1) := by decide +kernel
theorem dX8_set_61 : decode cX8_set 61 = .ok (.ireturn, 1) := by decide +kernel
theorem dX8_price_0 : decode cX8_price 0 = .ok (.aload_n 0, 1) := by decide +kernel
theorem dX8_price_1 : decode cX8_price 1 = .ok (.getfield 12, 3) := by decide +kernel
theorem dX8_price_4 : decode cX8_price 4 = .ok (.iload_n 1, 1) := by decide +kernel
theorem dX8_price_5 : decode cX8_price 5 = .ok (.invokevirtual 81, 3) := by decide +kernel
theorem dX8_price_8 : decode cX8_price 8 = .ok (.ifCond .ne 5, 3) := by decide +kernel
theorem dX8_price_11 : decode cX8_price 11 = .ok (.iconst (-1), 1) := by decide +kernel
theorem dX8_price_12 : decode cX8_price 12 = .ok (.ireturn, 1) := by decide +kernel
theorem dX8_price_13 : decode cX8_price 13 = .ok (.iload_n 2, 1) := by decide +kernel
theorem dX8_price_14 : decode cX8_price 14 = .ok (.invokestatic 71, 3) := by decide +kernel
theorem dX8_price_17 : decode cX8_price 17 = .ok (.ifCond .ne 6, 3) := by decide +kernel
theorem dX8_price_20 : decode cX8_price 20 = .ok (.bipush (-2), 2) := by decide +kernel
theorem dX8_price_22 : decode cX8_price 22 = .ok (.ireturn, 1) := by decide +kernel
theorem dX8_price_23 : decode cX8_price 23 = .ok (.aload_n 0, 1) := by decide +kernel
theorem dX8_price_24 : decode cX8_price 24 = .ok (.getfield 19, 3) := by decide +kernel
theorem dX8_price_27 : decode cX8_price 27 = .ok (.aload_n 0, 1) := by decide +kernel
theorem dX8_price_28 : decode cX8_price 28 = .ok (.getfield 12, 3) := by decide +kernel
theorem dX8_price_31 : decode cX8_price 31 = .ok (.invokevirtual 59, 3) := by decide +kernel
theorem dX8_price_34 : decode cX8_price 34 = .ok (.aload_n 0, 1) := by decide +kernel
theorem dX8_price_35 : decode cX8_price 35 = .ok (.getfield 12, 3) := by decide +kernel
theorem dX8_price_38 : decode cX8_price 38 = .ok (.getfield 84, 3) := by decide +kernel
theorem dX8_price_41 : decode cX8_price 41 = .ok (.iload_n 1, 1) := by decide +kernel
theorem dX8_price_42 : decode cX8_price 42 = .ok (.iaload, 1) := by decide +kernel
theorem dX8_price_43 : decode cX8_price 43 = .ok (.istore_n 3, 1) := by decide +kernel
theorem dX8_price_44 : decode cX8_price 44 = .ok (.aload_n 0, 1) := by decide +kernel
theorem dX8_price_45 : decode cX8_price 45 = .ok (.getfield 12, 3) := by decide +kernel
theorem dX8_price_48 : decode cX8_price 48 = .ok (.getfield 84, 3) := by decide +kernel
theorem dX8_price_51 : decode cX8_price 51 = .ok (.iload_n 1, 1) := by decide +kernel
theorem dX8_price_52 : decode cX8_price 52 = .ok (.iload_n 2, 1) := by decide +kernel
theorem dX8_price_53 : decode cX8_price 53 = .ok (.iastore, 1) := by decide +kernel
theorem dX8_price_54 : decode cX8_price 54 = .ok (.iload_n 3, 1) := by decide +kernel
theorem dX8_price_55 : decode cX8_price 55 = .ok (.ireturn, 1) := by decide +kernel
theorem dX8_mark_0 : decode cX8_mark 0 = .ok (.aload_n 0, 1) := by decide +kernel
theorem dX8_mark_1 : decode cX8_mark 1 = .ok (.getfield 12, 3) := by decide +kernel
theorem dX8_mark_4 : decode cX8_mark 4 = .ok (.iload_n 1, 1) := by decide +kernel
theorem dX8_mark_5 : decode cX8_mark 5 = .ok (.invokevirtual 81, 3) := by decide +kernel
theorem dX8_mark_8 : decode cX8_mark 8 = .ok (.ifCond .ne 5, 3) := by decide +kernel
theorem dX8_mark_11 : decode cX8_mark 11 = .ok (.iconst (-1), 1) := by decide +kernel
theorem dX8_mark_12 : decode cX8_mark 12 = .ok (.ireturn, 1) := by decide +kernel
theorem dX8_mark_13 : decode cX8_mark 13 = .ok (.iload_n 2, 1) := by decide +kernel
theorem dX8_mark_14 : decode cX8_mark 14 = .ok (.ifCond .lt 8, 3) := by decide +kernel
theorem dX8_mark_17 : decode cX8_mark 17 = .ok (.iload_n 2, 1) := by decide +kernel
theorem dX8_mark_18 : decode cX8_mark 18 = .ok (.iconst 2, 1) := by decide +kernel
theorem dX8_mark_19 : decode cX8_mark 19 = .ok (.if_icmp .le 6, 3) := by decide +kernel
theorem dX8_mark_22 : decode cX8_mark 22 = .ok (.bipush (-2), 2) := by decide +kernel
theorem dX8_mark_24 : decode cX8_mark 24 = .ok (.ireturn, 1) := by decide +kernel
theorem dX8_mark_25 : decode cX8_mark 25 = .ok (.aload_n 0, 1) := by decide +kernel
theorem dX8_mark_26 : decode cX8_mark 26 = .ok (.getfield 19, 3) := by decide +kernel
theorem dX8_mark_29 : decode cX8_mark 29 = .ok (.aload_n 0, 1) := by decide +kernel
theorem dX8_mark_30 : decode cX8_mark 30 = .ok (.getfield 12, 3) := by decide +kernel
theorem dX8_mark_33 : decode cX8_mark 33 = .ok (.invokevirtual 59, 3) := by decide +kernel
theorem dX8_mark_36 : decode cX8_mark 36 = .ok (.aload_n 0, 1) := by decide +kernel
theorem dX8_mark_37 : decode cX8_mark 37 = .ok (.getfield 12, 3) := by decide +kernel
theorem dX8_mark_40 : decode cX8_mark 40 = .ok (.getfield 88, 3) := by decide +kernel
theorem dX8_mark_43 : decode cX8_mark 43 = .ok (.iload_n 1, 1) := by decide +kernel
theorem dX8_mark_44 : decode cX8_mark 44 = .ok (.iaload, 1) := by decide +kernel
theorem dX8_mark_45 : decode cX8_mark 45 = .ok (.istore_n 3, 1) := by decide +kernel
theorem dX8_mark_46 : decode cX8_mark 46 = .ok (.aload_n 0, 1) := by decide +kernel
theorem dX8_mark_47 : decode cX8_mark 47 = .ok (.getfield 12, 3) := by decide +kernel
theorem dX8_mark_50 : decode cX8_mark 50 = .ok (.getfield 88, 3) := by decide +kernel
theorem dX8_mark_53 : decode cX8_mark 53 = .ok (.iload_n 1, 1) := by decide +kernel
theorem dX8_mark_54 : decode cX8_mark 54 = .ok (.iload_n 2, 1) := by decide +kernel
theorem dX8_mark_55 : decode cX8_mark 55 = .ok (.iastore, 1) := by decide +kernel
theorem dX8_mark_56 : decode cX8_mark 56 = .ok (.iload_n 3, 1) := by decide +kernel
theorem dX8_mark_57 : decode cX8_mark 57 = .ok (.ireturn, 1) := by decide +kernel
theorem dX8_turn_0 : decode cX8_turn 0 = .ok (.aload_n 0, 1) := by decide +kernel
theorem dX8_turn_1 : decode cX8_turn 1 = .ok (.getfield 12, 3) := by decide +kernel
theorem dX8_turn_4 : decode cX8_turn 4 = .ok (.iload_n 1, 1) := by decide +kernel
theorem dX8_turn_5 : decode cX8_turn 5 = .ok (.invokevirtual 81, 3) := by decide +kernel
theorem dX8_turn_8 : decode cX8_turn 8 = .ok (.ifCond .ne 5, 3) := by decide +kernel
theorem dX8_turn_11 : decode cX8_turn 11 = .ok (.iconst (-1), 1) := by decide +kernel
theorem dX8_turn_12 : decode cX8_turn 12 = .ok (.ireturn, 1) := by decide +kernel
theorem dX8_turn_13 : decode cX8_turn 13 = .ok (.iload_n 2, 1) := by decide +kernel
theorem dX8_turn_14 : decode cX8_turn 14 = .ok (.invokestatic 67, 3) := by decide +kernel
theorem dX8_turn_17 : decode cX8_turn 17 = .ok (.ifCond .ne 6, 3) := by decide +kernel
theorem dX8_turn_20 : decode cX8_turn 20 = .ok (.bipush (-2), 2) := by decide +kernel
theorem dX8_turn_22 : decode cX8_turn 22 = .ok (.ireturn, 1) := by decide +kernel
theorem dX8_turn_23 : decode cX8_turn 23 = .ok (.aload_n 0, 1) := by decide +kernel
theorem dX8_turn_24 : decode cX8_turn 24 = .ok (.getfield 12, 3) := by decide +kernel
theorem dX8_turn_27 : decode cX8_turn 27 = .ok (.getfield 91, 3) := by decide +kernel
theorem dX8_turn_30 : decode cX8_turn 30 = .ok (.iload_n 1, 1) := by decide +kernel
theorem dX8_turn_31 : decode cX8_turn 31 = .ok (.iaload, 1) := by decide +kernel
theorem dX8_turn_32 : decode cX8_turn 32 = .ok (.iload_n 2, 1) := by decide +kernel
theorem dX8_turn_33 : decode cX8_turn 33 = .ok (.ixor, 1) := by decide +kernel
theorem dX8_turn_34 : decode cX8_turn 34 = .ok (.istore_n 3, 1) := by decide +kernel
theorem dX8_turn_35 : decode cX8_turn 35 = .ok (.iload_n 3, 1) := by decide +kernel
theorem dX8_turn_36 : decode cX8_turn 36 = .ok (.ifCond .ne 6, 3) := by decide +kernel
theorem dX8_turn_39 : decode cX8_turn 39 = .ok (.bipush (-5), 2) := by decide +kernel
theorem dX8_turn_41 : decode cX8_turn 41 = .ok (.ireturn, 1) := by decide +kernel
theorem dX8_turn_42 : decode cX8_turn 42 = .ok (.aload_n 0, 1) := by decide +kernel
theorem dX8_turn_43 : decode cX8_turn 43 = .ok (.getfield 19, 3) := by decide +kernel
theorem dX8_turn_46 : decode cX8_turn 46 = .ok (.aload_n 0, 1) := by decide +kernel
theorem dX8_turn_47 : decode cX8_turn 47 = .ok (.getfield 12, 3) := by decide +kernel
theorem dX8_turn_50 : decode cX8_turn 50 = .ok (.invokevirtual 59, 3) := by decide +kernel
theorem dX8_turn_53 : decode cX8_turn 53 = .ok (.aload_n 0, 1) := by decide +kernel
theorem dX8_turn_54 : decode cX8_turn 54 = .ok (.getfield 12, 3) := by decide +kernel
theorem dX8_turn_57 : decode cX8_turn 57 = .ok (.getfield 91, 3) := by decide +kernel
theorem dX8_turn_60 : decode cX8_turn 60 = .ok (.iload_n 1, 1) := by decide +kernel
theorem dX8_turn_61 : decode cX8_turn 61 = .ok (.iload_n 3, 1) := by decide +kernel
theorem dX8_turn_62 : decode cX8_turn 62 = .ok (.iastore, 1) := by decide +kernel
theorem dX8_turn_63 : decode cX8_turn 63 = .ok (.iload_n 3, 1) := by decide +kernel
theorem dX8_turn_64 : decode cX8_turn 64 = .ok (.ireturn, 1) := by decide +kernel
theorem dX8_drop_0 : decode cX8_drop 0 = .ok (.aload_n 0, 1) := by decide +kernel
theorem dX8_drop_1 : decode cX8_drop 1 = .ok (.getfield 12, 3) := by decide +kernel
theorem dX8_drop_4 : decode cX8_drop 4 = .ok (.iload_n 1, 1) := by decide +kernel
theorem dX8_drop_5 : decode cX8_drop 5 = .ok (.invokevirtual 81, 3) := by decide +kernel
theorem dX8_drop_8 : decode cX8_drop 8 = .ok (.ifCond .ne 5, 3) := by decide +kernel
theorem dX8_drop_11 : decode cX8_drop 11 = .ok (.iconst (-1), 1) := by decide +kernel
theorem dX8_drop_12 : decode cX8_drop 12 = .ok (.ireturn, 1) := by decide +kernel
theorem dX8_drop_13 : decode cX8_drop 13 = .ok (.aload_n 0, 1) := by decide +kernel
theorem dX8_drop_14 : decode cX8_drop 14 = .ok (.getfield 19, 3) := by decide +kernel
theorem dX8_drop_17 : decode cX8_drop 17 = .ok (.aload_n 0, 1) := by decide +kernel
theorem dX8_drop_18 : decode cX8_drop 18 = .ok (.getfield 12, 3) := by decide +kernel
theorem dX8_drop_21 : decode cX8_drop 21 = .ok (.invokevirtual 59, 3) := by decide +kernel
theorem dX8_drop_24 : decode cX8_drop 24 = .ok (.aload_n 0, 1) := by decide +kernel
theorem dX8_drop_25 : decode cX8_drop 25 = .ok (.getfield 12, 3) := by decide +kernel
theorem dX8_drop_28 : decode cX8_drop 28 = .ok (.iload_n 1, 1) := by decide +kernel
theorem dX8_drop_29 : decode cX8_drop 29 = .ok (.invokevirtual 94, 3) := by decide +kernel
theorem dX8_drop_32 : decode cX8_drop 32 = .ok (.aload_n 0, 1) := by decide +kernel
theorem dX8_drop_33 : decode cX8_drop 33 = .ok (.getfield 12, 3) := by decide +kernel
theorem dX8_drop_36 : decode cX8_drop 36 = .ok (.getfield 74, 3) := by decide +kernel
theorem dX8_drop_39 : decode cX8_drop 39 = .ok (.ireturn, 1) := by decide +kernel
theorem dX8_ofSet_0 : decode cX8_ofSet 0 = .ok (.aload_n 0, 1) := by decide +kernel
theorem dX8_ofSet_1 : decode cX8_ofSet 1 = .ok (.getfield 12, 3) := by decide +kernel
theorem dX8_ofSet_4 : decode cX8_ofSet 4 = .ok (.iload_n 1, 1) := by decide +kernel
theorem dX8_ofSet_5 : decode cX8_ofSet 5 = .ok (.invokevirtual 81, 3) := by decide +kernel
theorem dX8_ofSet_8 : decode cX8_ofSet 8 = .ok (.ifCond .ne 5, 3) := by decide +kernel
theorem dX8_ofSet_11 : decode cX8_ofSet 11 = .ok (.iconst (-1), 1) := by decide +kernel
theorem dX8_ofSet_12 : decode cX8_ofSet 12 = .ok (.ireturn, 1) := by decide +kernel
theorem dX8_ofSet_13 : decode cX8_ofSet 13 = .ok (.iload_n 2, 1) := by decide +kernel
theorem dX8_ofSet_14 : decode cX8_ofSet 14 = .ok (.tableswitch 92 0 7 #[46, 56, 66, 76, 76, 76, 76, 83], 46) := by decide +kernel
theorem dX8_ofSet_60 : decode cX8_ofSet 60 = .ok (.aload_n 0, 1) := by decide +kernel
theorem dX8_ofSet_61 : decode cX8_ofSet 61 = .ok (.getfield 12, 3) := by decide +kernel
theorem dX8_ofSet_64 : decode cX8_ofSet 64 = .ok (.getfield 91, 3) := by decide +kernel
theorem dX8_ofSet_67 : decode cX8_ofSet 67 = .ok (.iload_n 1, 1) := by decide +kernel
theorem dX8_ofSet_68 : decode cX8_ofSet 68 = .ok (.iaload, 1) := by decide +kernel
theorem dX8_ofSet_69 : decode cX8_ofSet 69 = .ok (.ireturn, 1) := by decide +kernel
theorem dX8_ofSet_70 : decode cX8_ofSet 70 = .ok (.aload_n 0, 1) := by decide +kernel
theorem dX8_ofSet_71 : decode cX8_ofSet 71 = .ok (.getfield 12, 3) := by decide +kernel
theorem dX8_ofSet_74 : decode cX8_ofSet 74 = .ok (.getfield 84, 3) := by decide +kernel
theorem dX8_ofSet_77 : decode cX8_ofSet 77 = .ok (.iload_n 1, 1) := by decide +kernel
theorem dX8_ofSet_78 : decode cX8_ofSet 78 = .ok (.iaload, 1) := by decide +kernel
theorem dX8_ofSet_79 : decode cX8_ofSet 79 = .ok (.ireturn, 1) := by decide +kernel
theorem dX8_ofSet_80 : decode cX8_ofSet 80 = .ok (.aload_n 0, 1) := by decide +kernel
theorem dX8_ofSet_81 : decode cX8_ofSet 81 = .ok (.getfield 12, 3) := by decide +kernel
theorem dX8_ofSet_84 : decode cX8_ofSet 84 = .ok (.getfield 88, 3) := by decide +kernel
theorem dX8_ofSet_87 : decode cX8_ofSet 87 = .ok (.iload_n 1, 1) := by decide +kernel
theorem dX8_ofSet_88 : decode cX8_ofSet 88 = .ok (.iaload, 1) := by decide +kernel
theorem dX8_ofSet_89 : decode cX8_ofSet 89 = .ok (.ireturn, 1) := by decide +kernel
theorem dX8_ofSet_90 : decode cX8_ofSet 90 = .ok (.aload_n 0, 1) := by decide +kernel
theorem dX8_ofSet_91 : decode cX8_ofSet 91 = .ok (.iload_n 1, 1) := by decide +kernel
theorem dX8_ofSet_92 : decode cX8_ofSet 92 = .ok (.iload_n 2, 1) := by decide +kernel
theorem dX8_ofSet_93 : decode cX8_ofSet 93 = .ok (.invokevirtual 114, 3) := by decide +kernel
theorem dX8_ofSet_96 : decode cX8_ofSet 96 = .ok (.ireturn, 1) := by decide +kernel
theorem dX8_ofSet_97 : decode cX8_ofSet 97 = .ok (.aload_n 0, 1) := by decide +kernel
theorem dX8_ofSet_98 : decode cX8_ofSet 98 = .ok (.getfield 12, 3) := by decide +kernel
theorem dX8_ofSet_101 : decode cX8_ofSet 101 = .ok (.iload_n 1, 1) := by decide +kernel
theorem dX8_ofSet_102 : decode cX8_ofSet 102 = .ok (.invokevirtual 118, 3) := by decide +kernel
theorem dX8_ofSet_105 : decode cX8_ofSet 105 = .ok (.ireturn, 1) := by decide +kernel
theorem dX8_ofSet_106 : decode cX8_ofSet 106 = .ok (.bipush (-2), 2) := by decide +kernel
theorem dX8_ofSet_108 : decode cX8_ofSet 108 = .ok (.ireturn, 1) := by decide +kernel
theorem dX8_ofSetByShares_0 : decode cX8_ofSetByShares 0 = .ok (.aload_n 0, 1) := by decide +kernel
theorem dX8_ofSetByShares_1 : decode cX8_ofSetByShares 1 = .ok (.getfield 12, 3) := by decide +kernel
theorem dX8_ofSetByShares_4 : decode cX8_ofSetByShares 4 = .ok (.invokevirtual 122, 3) := by decide +kernel
theorem dX8_ofSetByShares_7 : decode cX8_ofSetByShares 7 = .ok (.ifCond .ne 6, 3) := by decide +kernel
theorem dX8_ofSetByShares_10 : decode cX8_ofSetByShares 10 = .ok (.bipush (-5), 2) := by decide +kernel
theorem dX8_ofSetByShares_12 : decode cX8_ofSetByShares 12 = .ok (.ireturn, 1) := by decide +kernel
theorem dX8_ofSetByShares_13 : decode cX8_ofSetByShares 13 = .ok (.aload_n 0, 1) := by decide +kernel
theorem dX8_ofSetByShares_14 : decode cX8_ofSetByShares 14 = .ok (.getfield 40, 3) := by decide +kernel
theorem dX8_ofSetByShares_17 : decode cX8_ofSetByShares 17 = .ok (.aload_n 0, 1) := by decide +kernel
theorem dX8_ofSetByShares_18 : decode cX8_ofSetByShares 18 = .ok (.getfield 12, 3) := by decide +kernel
theorem dX8_ofSetByShares_21 : decode cX8_ofSetByShares 21 = .ok (.invokevirtual 126, 3) := by decide +kernel
theorem dX8_ofSetByShares_24 : decode cX8_ofSetByShares 24 = .ok (.iload_n 2, 1) := by decide +kernel
theorem dX8_ofSetByShares_25 : decode cX8_ofSetByShares 25 = .ok (.tableswitch 67 3 5 #[27, 37, 57], 27) := by decide +kernel
theorem dX8_ofSetByShares_52 : decode cX8_ofSetByShares 52 = .ok (.aload_n 0, 1) := by decide +kernel
theorem dX8_ofSetByShares_53 : decode cX8_ofSetByShares 53 = .ok (.getfield 40, 3) := by decide +kernel
theorem dX8_ofSetByShares_56 : decode cX8_ofSetByShares 56 = .ok (.getfield 129, 3) := by decide +kernel
theorem dX8_ofSetByShares_59 : decode cX8_ofSetByShares 59 = .ok (.iload_n 1, 1) := by decide +kernel
theorem dX8_ofSetByShares_60 : decode cX8_ofSetByShares 60 = .ok (.iaload, 1) := by decide +kernel
theorem dX8_ofSetByShares_61 : decode cX8_ofSetByShares 61 = .ok (.ireturn, 1) := by decide +kernel
theorem dX8_ofSetByShares_62 : decode cX8_ofSetByShares 62 = .ok (.aload_n 0, 1) := by decide +kernel
theorem dX8_ofSetByShares_63 : decode cX8_ofSetByShares 63 = .ok (.getfield 40, 3) := by decide +kernel
theorem dX8_ofSetByShares_66 : decode cX8_ofSetByShares 66 = .ok (.getfield 132, 3) := by decide +kernel
theorem dX8_ofSetByShares_69 : decode cX8_ofSetByShares 69 = .ok (.iload_n 1, 1) := by decide +kernel
theorem dX8_ofSetByShares_70 : decode cX8_ofSetByShares 70 = .ok (.invokestatic 135, 3) := by decide +kernel
theorem dX8_ofSetByShares_73 : decode cX8_ofSetByShares 73 = .ok (.ifCond .eq 7, 3) := by decide +kernel
theorem dX8_ofSetByShares_76 : decode cX8_ofSetByShares 76 = .ok (.iconst 1, 1) := by decide +kernel
theorem dX8_ofSetByShares_77 : decode cX8_ofSetByShares 77 = .ok (.goto 4, 3) := by decide +kernel
theorem dX8_ofSetByShares_80 : decode cX8_ofSetByShares 80 = .ok (.iconst 0, 1) := by decide +kernel
theorem dX8_ofSetByShares_81 : decode cX8_ofSetByShares 81 = .ok (.ireturn, 1) := by decide +kernel
theorem dX8_ofSetByShares_82 : decode cX8_ofSetByShares 82 = .ok (.aload_n 0, 1) := by decide +kernel
theorem dX8_ofSetByShares_83 : decode cX8_ofSetByShares 83 = .ok (.getfield 40, 3) := by decide +kernel
theorem dX8_ofSetByShares_86 : decode cX8_ofSetByShares 86 = .ok (.getfield 139, 3) := by decide +kernel
theorem dX8_ofSetByShares_89 : decode cX8_ofSetByShares 89 = .ok (.iload_n 1, 1) := by decide +kernel
theorem dX8_ofSetByShares_90 : decode cX8_ofSetByShares 90 = .ok (.iaload, 1) := by decide +kernel
theorem dX8_ofSetByShares_91 : decode cX8_ofSetByShares 91 = .ok (.ireturn, 1) := by decide +kernel
theorem dX8_ofSetByShares_92 : decode cX8_ofSetByShares 92 = .ok (.aload_n 0, 1) := by decide +kernel
theorem dX8_ofSetByShares_93 : decode cX8_ofSetByShares 93 = .ok (.getfield 40, 3) := by decide +kernel
theorem dX8_ofSetByShares_96 : decode cX8_ofSetByShares 96 = .ok (.getfield 142, 3) := by decide +kernel
theorem dX8_ofSetByShares_99 : decode cX8_ofSetByShares 99 = .ok (.iload_n 1, 1) := by decide +kernel
theorem dX8_ofSetByShares_100 : decode cX8_ofSetByShares 100 = .ok (.invokestatic 135, 3) := by decide +kernel
theorem dX8_ofSetByShares_103 : decode cX8_ofSetByShares 103 = .ok (.ifCond .eq 7, 3) := by decide +kernel
theorem dX8_ofSetByShares_106 : decode cX8_ofSetByShares 106 = .ok (.iconst 1, 1) := by decide +kernel
theorem dX8_ofSetByShares_107 : decode cX8_ofSetByShares 107 = .ok (.goto 4, 3) := by decide +kernel
theorem dX8_ofSetByShares_110 : decode cX8_ofSetByShares 110 = .ok (.iconst 0, 1) := by decide +kernel
theorem dX8_ofSetByShares_111 : decode cX8_ofSetByShares 111 = .ok (.ireturn, 1) := by decide +kernel
theorem dX8_ofThing_0 : decode cX8_ofThing 0 = .ok (.iload_n 1, 1) := by decide +kernel
theorem dX8_ofThing_1 : decode cX8_ofThing 1 = .ok (.ifCond .lt 9, 3) := by decide +kernel
theorem dX8_ofThing_4 : decode cX8_ofThing 4 = .ok (.iload_n 1, 1) := by decide +kernel
theorem dX8_ofThing_5 : decode cX8_ofThing 5 = .ok (.bipush 18, 2) := by decide +kernel
theorem dX8_ofThing_7 : decode cX8_ofThing 7 = .ok (.if_icmp .lt 5, 3) := by decide +kernel
theorem dX8_ofThing_10 : decode cX8_ofThing 10 = .ok (.iconst (-1), 1) := by decide +kernel
theorem dX8_ofThing_11 : decode cX8_ofThing 11 = .ok (.ireturn, 1) := by decide +kernel
theorem dX8_ofThing_12 : decode cX8_ofThing 12 = .ok (.iload_n 2, 1) := by decide +kernel
theorem dX8_ofThing_13 : decode cX8_ofThing 13 = .ok (.tableswitch 62 0 2 #[27, 47, 56], 27) := by decide +kernel
theorem dX8_ofThing_40 : decode cX8_ofThing 40 = .ok (.aload_n 0, 1) := by decide +kernel
theorem dX8_ofThing_41 : decode cX8_ofThing 41 = .ok (.getfield 12, 3) := by decide +kernel
theorem dX8_ofThing_44 : decode cX8_ofThing 44 = .ok (.getfield 63, 3) := by decide +kernel
theorem dX8_ofThing_47 : decode cX8_ofThing 47 = .ok (.iload_n 1, 1) := by decide +kernel
theorem dX8_ofThing_48 : decode cX8_ofThing 48 = .ok (.invokestatic 135, 3) := by decide +kernel
theorem dX8_ofThing_51 : decode cX8_ofThing 51 = .ok (.ifCond .eq 7, 3) := by decide +kernel
theorem dX8_ofThing_54 : decode cX8_ofThing 54 = .ok (.iconst 1, 1) := by decide +kernel
theorem dX8_ofThing_55 : decode cX8_ofThing 55 = .ok (.goto 4, 3) := by decide +kernel
theorem dX8_ofThing_58 : decode cX8_ofThing 58 = .ok (.iconst 0, 1) := by decide +kernel
theorem dX8_ofThing_59 : decode cX8_ofThing 59 = .ok (.ireturn, 1) := by decide +kernel
theorem dX8_ofThing_60 : decode cX8_ofThing 60 = .ok (.aload_n 0, 1) := by decide +kernel
theorem dX8_ofThing_61 : decode cX8_ofThing 61 = .ok (.getfield 12, 3) := by decide +kernel
theorem dX8_ofThing_64 : decode cX8_ofThing 64 = .ok (.iload_n 1, 1) := by decide +kernel
theorem dX8_ofThing_65 : decode cX8_ofThing 65 = .ok (.invokevirtual 145, 3) := by decide +kernel
theorem dX8_ofThing_68 : decode cX8_ofThing 68 = .ok (.ireturn, 1) := by decide +kernel
theorem dX8_ofThing_69 : decode cX8_ofThing 69 = .ok (.aload_n 0, 1) := by decide +kernel
theorem dX8_ofThing_70 : decode cX8_ofThing 70 = .ok (.iload_n 1, 1) := by decide +kernel
theorem dX8_ofThing_71 : decode cX8_ofThing 71 = .ok (.invokevirtual 148, 3) := by decide +kernel
theorem dX8_ofThing_74 : decode cX8_ofThing 74 = .ok (.ireturn, 1) := by decide +kernel
theorem dX8_ofThing_75 : decode cX8_ofThing 75 = .ok (.bipush (-2), 2) := by decide +kernel
theorem dX8_ofThing_77 : decode cX8_ofThing 77 = .ok (.ireturn, 1) := by decide +kernel
theorem dX8_shareOf_0 : decode cX8_shareOf 0 = .ok (.aload_n 0, 1) := by decide +kernel
theorem dX8_shareOf_1 : decode cX8_shareOf 1 = .ok (.getfield 12, 3) := by decide +kernel
theorem dX8_shareOf_4 : decode cX8_shareOf 4 = .ok (.invokevirtual 122, 3) := by decide +kernel
theorem dX8_shareOf_7 : decode cX8_shareOf 7 = .ok (.ifCond .ne 6, 3) := by decide +kernel
theorem dX8_shareOf_10 : decode cX8_shareOf 10 = .ok (.bipush (-5), 2) := by decide +kernel
theorem dX8_shareOf_12 : decode cX8_shareOf 12 = .ok (.ireturn, 1) := by decide +kernel
theorem dX8_shareOf_13 : decode cX8_shareOf 13 = .ok (.aload_n 0, 1) := by decide +kernel
theorem dX8_shareOf_14 : decode cX8_shareOf 14 = .ok (.getfield 40, 3) := by decide +kernel
theorem dX8_shareOf_17 : decode cX8_shareOf 17 = .ok (.aload_n 0, 1) := by decide +kernel
theorem dX8_shareOf_18 : decode cX8_shareOf 18 = .ok (.getfield 12, 3) := by decide +kernel
theorem dX8_shareOf_21 : decode cX8_shareOf 21 = .ok (.invokevirtual 126, 3) := by decide +kernel
theorem dX8_shareOf_24 : decode cX8_shareOf 24 = .ok (.aload_n 0, 1) := by decide +kernel
theorem dX8_shareOf_25 : decode cX8_shareOf 25 = .ok (.getfield 40, 3) := by decide +kernel
theorem dX8_shareOf_28 : decode cX8_shareOf 28 = .ok (.getfield 151, 3) := by decide +kernel
theorem dX8_shareOf_31 : decode cX8_shareOf 31 = .ok (.iload_n 1, 1) := by decide +kernel
theorem dX8_shareOf_32 : decode cX8_shareOf 32 = .ok (.iaload, 1) := by decide +kernel
theorem dX8_shareOf_33 : decode cX8_shareOf 33 = .ok (.ireturn, 1) := by decide +kernel
theorem dX8_count_0 : decode cX8_count 0 = .ok (.iload_n 1, 1) := by decide +kernel
theorem dX8_count_1 : decode cX8_count 1 = .ok (.tableswitch 95 0 5 #[39, 47, 55, 71, 79, 87], 39) := by decide +kernel
theorem dX8_count_40 : decode cX8_count 40 = .ok (.aload_n 0, 1) := by decide +kernel
theorem dX8_count_41 : decode cX8_count 41 = .ok (.getfield 12, 3) := by decide +kernel
theorem dX8_count_44 : decode cX8_count 44 = .ok (.getfield 74, 3) := by decide +kernel
theorem dX8_count_47 : decode cX8_count 47 = .ok (.ireturn, 1) := by decide +kernel
theorem dX8_count_48 : decode cX8_count 48 = .ok (.aload_n 0, 1) := by decide +kernel
theorem dX8_count_49 : decode cX8_count 49 = .ok (.getfield 12, 3) := by decide +kernel
theorem dX8_count_52 : decode cX8_count 52 = .ok (.getfield 63, 3) := by decide +kernel
theorem dX8_count_55 : decode cX8_count 55 = .ok (.ireturn, 1) := by decide +kernel
theorem dX8_count_56 : decode cX8_count 56 = .ok (.aload_n 0, 1) := by decide +kernel
theorem dX8_count_57 : decode cX8_count 57 = .ok (.getfield 12, 3) := by decide +kernel
theorem dX8_count_60 : decode cX8_count 60 = .ok (.invokevirtual 122, 3) := by decide +kernel
theorem dX8_count_63 : decode cX8_count 63 = .ok (.ifCond .eq 7, 3) := by decide +kernel
theorem dX8_count_66 : decode cX8_count 66 = .ok (.iconst 1, 1) := by decide +kernel
theorem dX8_count_67 : decode cX8_count 67 = .ok (.goto 4, 3) := by decide +kernel
theorem dX8_count_70 : decode cX8_count 70 = .ok (.iconst 0, 1) := by decide +kernel
theorem dX8_count_71 : decode cX8_count 71 = .ok (.ireturn, 1) := by decide +kernel
theorem dX8_count_72 : decode cX8_count 72 = .ok (.aload_n 0, 1) := by decide +kernel
theorem dX8_count_73 : decode cX8_count 73 = .ok (.getfield 12, 3) := by decide +kernel
theorem dX8_count_76 : decode cX8_count 76 = .ok (.invokevirtual 154, 3) := by decide +kernel
theorem dX8_count_79 : decode cX8_count 79 = .ok (.ireturn, 1) := by decide +kernel
theorem dX8_count_80 : decode cX8_count 80 = .ok (.aload_n 0, 1) := by decide +kernel
theorem dX8_count_81 : decode cX8_count 81 = .ok (.getfield 33, 3) := by decide +kernel
theorem dX8_count_84 : decode cX8_count 84 = .ok (.getfield 101, 3) := by decide +kernel
theorem dX8_count_87 : decode cX8_count 87 = .ok (.ireturn, 1) := by decide +kernel
theorem dX8_count_88 : decode cX8_count 88 = .ok (.aload_n 0, 1) := by decide +kernel
theorem dX8_count_89 : decode cX8_count 89 = .ok (.getfield 19, 3) := by decide +kernel
theorem dX8_count_92 : decode cX8_count 92 = .ok (.getfield 157, 3) := by decide +kernel
theorem dX8_count_95 : decode cX8_count 95 = .ok (.ireturn, 1) := by decide +kernel
theorem dX8_count_96 : decode cX8_count 96 = .ok (.bipush (-2), 2) := by decide +kernel
theorem dX8_count_98 : decode cX8_count 98 = .ok (.ireturn, 1) := by decide +kernel
theorem dX8_shared_0 : decode cX8_shared 0 = .ok (.iload_n 1, 1) := by decide +kernel
theorem dX8_shared_1 : decode cX8_shared 1 = .ok (.ifCond .lt 8, 3) := by decide +kernel
theorem dX8_shared_4 : decode cX8_shared 4 = .ok (.iload_n 1, 1) := by decide +kernel
theorem dX8_shared_5 : decode cX8_shared 5 = .ok (.iconst 5, 1) := by decide +kernel
theorem dX8_shared_6 : decode cX8_shared 6 = .ok (.if_icmp .le 6, 3) := by decide +kernel
theorem dX8_shared_9 : decode cX8_shared 9 = .ok (.bipush (-2), 2) := by decide +kernel
theorem dX8_shared_11 : decode cX8_shared 11 = .ok (.ireturn, 1) := by decide +kernel
theorem dX8_shared_12 : decode cX8_shared 12 = .ok (.aload_n 0, 1) := by decide +kernel
theorem dX8_shared_13 : decode cX8_shared 13 = .ok (.getfield 12, 3) := by decide +kernel
theorem dX8_shared_16 : decode cX8_shared 16 = .ok (.invokevirtual 122, 3) := by decide +kernel
theorem dX8_shared_19 : decode cX8_shared 19 = .ok (.ifCond .ne 6, 3) := by decide +kernel
theorem dX8_shared_22 : decode cX8_shared 22 = .ok (.bipush (-5), 2) := by decide +kernel
theorem dX8_shared_24 : decode cX8_shared 24 = .ok (.ireturn, 1) := by decide +kernel
theorem dX8_shared_25 : decode cX8_shared 25 = .ok (.aload_n 0, 1) := by decide +kernel
theorem dX8_shared_26 : decode cX8_shared 26 = .ok (.getfield 40, 3) := by decide +kernel
theorem dX8_shared_29 : decode cX8_shared 29 = .ok (.aload_n 0, 1) := by decide +kernel
theorem dX8_shared_30 : decode cX8_shared 30 = .ok (.getfield 12, 3) := by decide +kernel
theorem dX8_shared_33 : decode cX8_shared 33 = .ok (.invokevirtual 126, 3) := by decide +kernel
theorem dX8_shared_36 : decode cX8_shared 36 = .ok (.aload_n 0, 1) := by decide +kernel
theorem dX8_shared_37 : decode cX8_shared 37 = .ok (.getfield 12, 3) := by decide +kernel
theorem dX8_shared_40 : decode cX8_shared 40 = .ok (.iconst 1, 1) := by decide +kernel
theorem dX8_shared_41 : decode cX8_shared 41 = .ok (.invokevirtual 158, 3) := by decide +kernel
theorem dX8_shared_44 : decode cX8_shared 44 = .ok (.istore_n 2, 1) := by decide +kernel
theorem dX8_shared_45 : decode cX8_shared 45 = .ok (.iload_n 2, 1) := by decide +kernel
theorem dX8_shared_46 : decode cX8_shared 46 = .ok (.aload_n 0, 1) := by decide +kernel
theorem dX8_shared_47 : decode cX8_shared 47 = .ok (.getfield 40, 3) := by decide +kernel
theorem dX8_shared_50 : decode cX8_shared 50 = .ok (.getfield 132, 3) := by decide +kernel
theorem dX8_shared_53 : decode cX8_shared 53 = .ok (.aload_n 0, 1) := by decide +kernel
theorem dX8_shared_54 : decode cX8_shared 54 = .ok (.getfield 40, 3) := by decide +kernel
theorem dX8_shared_57 : decode cX8_shared 57 = .ok (.getfield 142, 3) := by decide +kernel
theorem dX8_shared_60 : decode cX8_shared 60 = .ok (.iconst (-1), 1) := by decide +kernel
theorem dX8_shared_61 : decode cX8_shared 61 = .ok (.ixor, 1) := by decide +kernel
theorem dX8_shared_62 : decode cX8_shared 62 = .ok (.iand, 1) := by decide +kernel
theorem dX8_shared_63 : decode cX8_shared 63 = .ok (.ior, 1) := by decide +kernel
theorem dX8_shared_64 : decode cX8_shared 64 = .ok (.istore_n 3, 1) := by decide +kernel
theorem dX8_shared_65 : decode cX8_shared 65 = .ok (.iload_n 1, 1) := by decide +kernel
theorem dX8_shared_66 : decode cX8_shared 66 = .ok (.tableswitch 78 0 4 #[34, 36, 45, 62, 70], 34) := by decide +kernel
theorem dX8_shared_100 : decode cX8_shared 100 = .ok (.iload_n 3, 1) := by decide +kernel
theorem dX8_shared_101 : decode cX8_shared 101 = .ok (.ireturn, 1) := by decide +kernel
theorem dX8_shared_102 : decode cX8_shared 102 = .ok (.aload_n 0, 1) := by decide +kernel
theorem dX8_shared_103 : decode cX8_shared 103 = .ok (.getfield 12, 3) := by decide +kernel
theorem dX8_shared_106 : decode cX8_shared 106 = .ok (.iload_n 3, 1) := by decide +kernel
theorem dX8_shared_107 : decode cX8_shared 107 = .ok (.invokevirtual 161, 3) := by decide +kernel
theorem dX8_shared_110 : decode cX8_shared 110 = .ok (.ireturn, 1) := by decide +kernel
theorem dX8_shared_111 : decode cX8_shared 111 = .ok (.aload_n 0, 1) := by decide +kernel
theorem dX8_shared_112 : decode cX8_shared 112 = .ok (.getfield 40, 3) := by decide +kernel
theorem dX8_shared_115 : decode cX8_shared 115 = .ok (.invokevirtual 164, 3) := by decide +kernel
theorem dX8_shared_118 : decode cX8_shared 118 = .ok (.aload_n 0, 1) := by decide +kernel
theorem dX8_shared_119 : decode cX8_shared 119 = .ok (.getfield 12, 3) := by decide +kernel
theorem dX8_shared_122 : decode cX8_shared 122 = .ok (.iload_n 2, 1) := by decide +kernel
theorem dX8_shared_123 : decode cX8_shared 123 = .ok (.invokevirtual 161, 3) := by decide +kernel
theorem dX8_shared_126 : decode cX8_shared 126 = .ok (.iadd, 1) := by decide +kernel
theorem dX8_shared_127 : decode cX8_shared 127 = .ok (.ireturn, 1) := by decide +kernel
theorem dX8_shared_128 : decode cX8_shared 128 = .ok (.aload_n 0, 1) := by decide +kernel
theorem dX8_shared_129 : decode cX8_shared 129 = .ok (.getfield 40, 3) := by decide +kernel
theorem dX8_shared_132 : decode cX8_shared 132 = .ok (.getfield 167, 3) := by decide +kernel
theorem dX8_shared_135 : decode cX8_shared 135 = .ok (.ireturn, 1) := by decide +kernel
theorem dX8_shared_136 : decode cX8_shared 136 = .ok (.aload_n 0, 1) := by decide +kernel
theorem dX8_shared_137 : decode cX8_shared 137 = .ok (.getfield 40, 3) := by decide +kernel
theorem dX8_shared_140 : decode cX8_shared 140 = .ok (.getfield 170, 3) := by decide +kernel
theorem dX8_shared_143 : decode cX8_shared 143 = .ok (.ireturn, 1) := by decide +kernel
theorem dX8_shared_144 : decode cX8_shared 144 = .ok (.aload_n 0, 1) := by decide +kernel
theorem dX8_shared_145 : decode cX8_shared 145 = .ok (.getfield 40, 3) := by decide +kernel
theorem dX8_shared_148 : decode cX8_shared 148 = .ok (.getfield 142, 3) := by decide +kernel
theorem dX8_shared_151 : decode cX8_shared 151 = .ok (.invokestatic 173, 3) := by decide +kernel
theorem dX8_shared_154 : decode cX8_shared 154 = .ok (.ireturn, 1) := by decide +kernel
theorem dX8_greedy_0 : decode cX8_greedy 0 = .ok (.iload_n 1, 1) := by decide +kernel
theorem dX8_greedy_1 : decode cX8_greedy 1 = .ok (.ifCond .lt 8, 3) := by decide +kernel
theorem dX8_greedy_4 : decode cX8_greedy 4 = .ok (.iload_n 1, 1) := by decide +kernel
theorem dX8_greedy_5 : decode cX8_greedy 5 = .ok (.iconst 2, 1) := by decide +kernel
theorem dX8_greedy_6 : decode cX8_greedy 6 = .ok (.if_icmp .le 6, 3) := by decide +kernel
theorem dX8_greedy_9 : decode cX8_greedy 9 = .ok (.bipush (-2), 2) := by decide +kernel
theorem dX8_greedy_11 : decode cX8_greedy 11 = .ok (.ireturn, 1) := by decide +kernel
theorem dX8_greedy_12 : decode cX8_greedy 12 = .ok (.aload_n 0, 1) := by decide +kernel
theorem dX8_greedy_13 : decode cX8_greedy 13 = .ok (.getfield 12, 3) := by decide +kernel
theorem dX8_greedy_16 : decode cX8_greedy 16 = .ok (.invokevirtual 122, 3) := by decide +kernel
theorem dX8_greedy_19 : decode cX8_greedy 19 = .ok (.ifCond .ne 6, 3) := by decide +kernel
theorem dX8_greedy_22 : decode cX8_greedy 22 = .ok (.bipush (-5), 2) := by decide +kernel
theorem dX8_greedy_24 : decode cX8_greedy 24 = .ok (.ireturn, 1) := by decide +kernel
theorem dX8_greedy_25 : decode cX8_greedy 25 = .ok (.aload_n 0, 1) := by decide +kernel
theorem dX8_greedy_26 : decode cX8_greedy 26 = .ok (.getfield 47, 3) := by decide +kernel
theorem dX8_greedy_29 : decode cX8_greedy 29 = .ok (.aload_n 0, 1) := by decide +kernel
theorem dX8_greedy_30 : decode cX8_greedy 30 = .ok (.getfield 12, 3) := by decide +kernel
theorem dX8_greedy_33 : decode cX8_greedy 33 = .ok (.invokevirtual 178, 3) := by decide +kernel
theorem dX8_greedy_36 : decode cX8_greedy 36 = .ok (.iload_n 1, 1) := by decide +kernel
theorem dX8_greedy_37 : decode cX8_greedy 37 = .ok (.lookupswitch 50 #[(0, 27), (1, 35)], 27) := by decide +kernel
theorem dX8_greedy_64 : decode cX8_greedy 64 = .ok (.aload_n 0, 1) := by decide +kernel
theorem dX8_greedy_65 : decode cX8_greedy 65 = .ok (.getfield 47, 3) := by decide +kernel
theorem dX8_greedy_68 : decode cX8_greedy 68 = .ok (.getfield 181, 3) := by decide +kernel
theorem dX8_greedy_71 : decode cX8_greedy 71 = .ok (.ireturn, 1) := by decide +kernel
theorem dX8_greedy_72 : decode cX8_greedy 72 = .ok (.aload_n 0, 1) := by decide +kernel
theorem dX8_greedy_73 : decode cX8_greedy 73 = .ok (.getfield 12, 3) := by decide +kernel
theorem dX8_greedy_76 : decode cX8_greedy 76 = .ok (.aload_n 0, 1) := by decide +kernel
theorem dX8_greedy_77 : decode cX8_greedy 77 = .ok (.getfield 47, 3) := by decide +kernel
theorem dX8_greedy_80 : decode cX8_greedy 80 = .ok (.getfield 181, 3) := by decide +kernel
theorem dX8_greedy_83 : decode cX8_greedy 83 = .ok (.invokevirtual 161, 3) := by decide +kernel
theorem dX8_greedy_86 : decode cX8_greedy 86 = .ok (.ireturn, 1) := by decide +kernel
theorem dX8_greedy_87 : decode cX8_greedy 87 = .ok (.aload_n 0, 1) := by decide +kernel
theorem dX8_greedy_88 : decode cX8_greedy 88 = .ok (.getfield 47, 3) := by decide +kernel
theorem dX8_greedy_91 : decode cX8_greedy 91 = .ok (.getfield 184, 3) := by decide +kernel
theorem dX8_greedy_94 : decode cX8_greedy 94 = .ok (.ireturn, 1) := by decide +kernel
theorem dX8_least_0 : decode cX8_least 0 = .ok (.iload_n 1, 1) := by decide +kernel
theorem dX8_least_1 : decode cX8_least 1 = .ok (.ifCond .lt 8, 3) := by decide +kernel
theorem dX8_least_4 : decode cX8_least 4 = .ok (.iload_n 1, 1) := by decide +kernel
theorem dX8_least_5 : decode cX8_least 5 = .ok (.iconst 1, 1) := by decide +kernel
theorem dX8_least_6 : decode cX8_least 6 = .ok (.if_icmp .le 6, 3) := by decide +kernel
theorem dX8_least_9 : decode cX8_least 9 = .ok (.bipush (-2), 2) := by decide +kernel
theorem dX8_least_11 : decode cX8_least 11 = .ok (.ireturn, 1) := by decide +kernel
theorem dX8_least_12 : decode cX8_least 12 = .ok (.aload_n 0, 1) := by decide +kernel
theorem dX8_least_13 : decode cX8_least 13 = .ok (.getfield 12, 3) := by decide +kernel
theorem dX8_least_16 : decode cX8_least 16 = .ok (.invokevirtual 122, 3) := by decide +kernel
theorem dX8_least_19 : decode cX8_least 19 = .ok (.ifCond .ne 6, 3) := by decide +kernel
theorem dX8_least_22 : decode cX8_least 22 = .ok (.bipush (-5), 2) := by decide +kernel
theorem dX8_least_24 : decode cX8_least 24 = .ok (.ireturn, 1) := by decide +kernel
theorem dX8_least_25 : decode cX8_least 25 = .ok (.aload_n 0, 1) := by decide +kernel
theorem dX8_least_26 : decode cX8_least 26 = .ok (.getfield 54, 3) := by decide +kernel
theorem dX8_least_29 : decode cX8_least 29 = .ok (.aload_n 0, 1) := by decide +kernel
theorem dX8_least_30 : decode cX8_least 30 = .ok (.getfield 12, 3) := by decide +kernel
theorem dX8_least_33 : decode cX8_least 33 = .ok (.invokevirtual 187, 3) := by decide +kernel
theorem dX8_least_36 : decode cX8_least 36 = .ok (.iload_n 1, 1) := by decide +kernel
theorem dX8_least_37 : decode cX8_least 37 = .ok (.ifCond .ne 13, 3) := by decide +kernel
theorem dX8_least_40 : decode cX8_least 40 = .ok (.aload_n 0, 1) := by decide +kernel
theorem dX8_least_41 : decode cX8_least 41 = .ok (.getfield 54, 3) := by decide +kernel
theorem dX8_least_44 : decode cX8_least 44 = .ok (.getfield 190, 3) := by decide +kernel
theorem dX8_least_47 : decode cX8_least 47 = .ok (.goto 10, 3) := by decide +kernel
theorem dX8_least_50 : decode cX8_least 50 = .ok (.aload_n 0, 1) := by decide +kernel
theorem dX8_least_51 : decode cX8_least 51 = .ok (.getfield 54, 3) := by decide +kernel
theorem dX8_least_54 : decode cX8_least 54 = .ok (.getfield 193, 3) := by decide +kernel
theorem dX8_least_57 : decode cX8_least 57 = .ok (.ireturn, 1) := by decide +kernel
theorem dX8_covers_0 : decode cX8_covers 0 = .ok (.iload_n 1, 1) := by decide +kernel
theorem dX8_covers_1 : decode cX8_covers 1 = .ok (.ifCond .lt 10, 3) := by decide +kernel
theorem dX8_covers_4 : decode cX8_covers 4 = .ok (.iload_n 1, 1) := by decide +kernel
theorem dX8_covers_5 : decode cX8_covers 5 = .ok (.sipush 7000, 3) := by decide +kernel
theorem dX8_covers_8 : decode cX8_covers 8 = .ok (.if_icmp .le 6, 3) := by decide +kernel
theorem dX8_covers_11 : decode cX8_covers 11 = .ok (.bipush (-2), 2) := by decide +kernel
theorem dX8_covers_13 : decode cX8_covers 13 = .ok (.ireturn, 1) := by decide +kernel
theorem dX8_covers_14 : decode cX8_covers 14 = .ok (.aload_n 0, 1) := by decide +kernel
theorem dX8_covers_15 : decode cX8_covers 15 = .ok (.getfield 54, 3) := by decide +kernel
theorem dX8_covers_18 : decode cX8_covers 18 = .ok (.aload_n 0, 1) := by decide +kernel
theorem dX8_covers_19 : decode cX8_covers 19 = .ok (.getfield 12, 3) := by decide +kernel
theorem dX8_covers_22 : decode cX8_covers 22 = .ok (.iload_n 1, 1) := by decide +kernel
theorem dX8_covers_23 : decode cX8_covers 23 = .ok (.invokevirtual 196, 3) := by decide +kernel
theorem dX8_covers_26 : decode cX8_covers 26 = .ok (.ireturn, 1) := by decide +kernel
theorem dX8_tightCovers_0 : decode cX8_tightCovers 0 = .ok (.aload_n 0, 1) := by decide +kernel
theorem dX8_tightCovers_1 : decode cX8_tightCovers 1 = .ok (.getfield 54, 3) := by decide +kernel
theorem dX8_tightCovers_4 : decode cX8_tightCovers 4 = .ok (.aload_n 0, 1) := by decide +kernel
theorem dX8_tightCovers_5 : decode cX8_tightCovers 5 = .ok (.getfield 12, 3) := by decide +kernel
theorem dX8_tightCovers_8 : decode cX8_tightCovers 8 = .ok (.invokevirtual 200, 3) := by decide +kernel
theorem dX8_tightCovers_11 : decode cX8_tightCovers 11 = .ok (.ireturn, 1) := by decide +kernel
theorem dX8_dearest_0 : decode cX8_dearest 0 = .ok (.iload_n 1, 1) := by decide +kernel
theorem dX8_dearest_1 : decode cX8_dearest 1 = .ok (.ifCond .lt 8, 3) := by decide +kernel
theorem dX8_dearest_4 : decode cX8_dearest 4 = .ok (.iload_n 1, 1) := by decide +kernel
theorem dX8_dearest_5 : decode cX8_dearest 5 = .ok (.iconst 1, 1) := by decide +kernel
theorem dX8_dearest_6 : decode cX8_dearest 6 = .ok (.if_icmp .le 6, 3) := by decide +kernel
theorem dX8_dearest_9 : decode cX8_dearest 9 = .ok (.bipush (-2), 2) := by decide +kernel
theorem dX8_dearest_11 : decode cX8_dearest 11 = .ok (.ireturn, 1) := by decide +kernel
theorem dX8_dearest_12 : decode cX8_dearest 12 = .ok (.aload_n 0, 1) := by decide +kernel
theorem dX8_dearest_13 : decode cX8_dearest 13 = .ok (.getfield 12, 3) := by decide +kernel
theorem dX8_dearest_16 : decode cX8_dearest 16 = .ok (.invokevirtual 122, 3) := by decide +kernel
theorem dX8_dearest_19 : decode cX8_dearest 19 = .ok (.ifCond .ne 6, 3) := by decide +kernel
theorem dX8_dearest_22 : decode cX8_dearest 22 = .ok (.bipush (-5), 2) := by decide +kernel
theorem dX8_dearest_24 : decode cX8_dearest 24 = .ok (.ireturn, 1) := by decide +kernel
theorem dX8_dearest_25 : decode cX8_dearest 25 = .ok (.aload_n 0, 1) := by decide +kernel
theorem dX8_dearest_26 : decode cX8_dearest 26 = .ok (.getfield 12, 3) := by decide +kernel
theorem dX8_dearest_29 : decode cX8_dearest 29 = .ok (.getfield 63, 3) := by decide +kernel
theorem dX8_dearest_32 : decode cX8_dearest 32 = .ok (.ifCond .ne 6, 3) := by decide +kernel
theorem dX8_dearest_35 : decode cX8_dearest 35 = .ok (.bipush (-6), 2) := by decide +kernel
theorem dX8_dearest_37 : decode cX8_dearest 37 = .ok (.ireturn, 1) := by decide +kernel
theorem dX8_dearest_38 : decode cX8_dearest 38 = .ok (.aload_n 0, 1) := by decide +kernel
theorem dX8_dearest_39 : decode cX8_dearest 39 = .ok (.getfield 54, 3) := by decide +kernel
theorem dX8_dearest_42 : decode cX8_dearest 42 = .ok (.aload_n 0, 1) := by decide +kernel
theorem dX8_dearest_43 : decode cX8_dearest 43 = .ok (.getfield 12, 3) := by decide +kernel
theorem dX8_dearest_46 : decode cX8_dearest 46 = .ok (.invokevirtual 207, 3) := by decide +kernel
theorem dX8_dearest_49 : decode cX8_dearest 49 = .ok (.iload_n 1, 1) := by decide +kernel
theorem dX8_dearest_50 : decode cX8_dearest 50 = .ok (.ifCond .ne 13, 3) := by decide +kernel
theorem dX8_dearest_53 : decode cX8_dearest 53 = .ok (.aload_n 0, 1) := by decide +kernel
theorem dX8_dearest_54 : decode cX8_dearest 54 = .ok (.getfield 54, 3) := by decide +kernel
theorem dX8_dearest_57 : decode cX8_dearest 57 = .ok (.getfield 210, 3) := by decide +kernel
theorem dX8_dearest_60 : decode cX8_dearest 60 = .ok (.goto 10, 3) := by decide +kernel
theorem dX8_dearest_63 : decode cX8_dearest 63 = .ok (.aload_n 0, 1) := by decide +kernel
theorem dX8_dearest_64 : decode cX8_dearest 64 = .ok (.getfield 54, 3) := by decide +kernel
theorem dX8_dearest_67 : decode cX8_dearest 67 = .ok (.getfield 213, 3) := by decide +kernel
theorem dX8_dearest_70 : decode cX8_dearest 70 = .ok (.ireturn, 1) := by decide +kernel
theorem dX8_check_0 : decode cX8_check 0 = .ok (.iload_n 1, 1) := by decide +kernel
theorem dX8_check_1 : decode cX8_check 1 = .ok (.ifCond .lt 16, 3) := by decide +kernel
theorem dX8_check_4 : decode cX8_check 4 = .ok (.iload_n 1, 1) := by decide +kernel
theorem dX8_check_5 : decode cX8_check 5 = .ok (.iconst 1, 1) := by decide +kernel
theorem dX8_check_6 : decode cX8_check 6 = .ok (.aload_n 0, 1) := by decide +kernel
theorem dX8_check_7 : decode cX8_check 7 = .ok (.getfield 12, 3) := by decide +kernel
theorem dX8_check_10 : decode cX8_check 10 = .ok (.getfield 74, 3) := by decide +kernel
theorem dX8_check_13 : decode cX8_check 13 = .ok (.ishl, 1) := by decide +kernel
theorem dX8_check_14 : decode cX8_check 14 = .ok (.if_icmp .lt 5, 3) := by decide +kernel
theorem dX8_check_17 : decode cX8_check 17 = .ok (.iconst (-1), 1) := by decide +kernel
theorem dX8_check_18 : decode cX8_check 18 = .ok (.ireturn, 1) := by decide +kernel
theorem dX8_check_19 : decode cX8_check 19 = .ok (.aload_n 0, 1) := by decide +kernel
theorem dX8_check_20 : decode cX8_check 20 = .ok (.getfield 12, 3) := by decide +kernel
theorem dX8_check_23 : decode cX8_check 23 = .ok (.iload_n 1, 1) := by decide +kernel
theorem dX8_check_24 : decode cX8_check 24 = .ok (.invokevirtual 216, 3) := by decide +kernel
theorem dX8_check_27 : decode cX8_check 27 = .ok (.ifCond .eq 14, 3) := by decide +kernel
theorem dX8_check_30 : decode cX8_check 30 = .ok (.aload_n 0, 1) := by decide +kernel
theorem dX8_check_31 : decode cX8_check 31 = .ok (.getfield 12, 3) := by decide +kernel
theorem dX8_check_34 : decode cX8_check 34 = .ok (.iload_n 1, 1) := by decide +kernel
theorem dX8_check_35 : decode cX8_check 35 = .ok (.invokevirtual 161, 3) := by decide +kernel
theorem dX8_check_38 : decode cX8_check 38 = .ok (.goto 5, 3) := by decide +kernel
theorem dX8_check_41 : decode cX8_check 41 = .ok (.bipush (-6), 2) := by decide +kernel
theorem dX8_check_43 : decode cX8_check 43 = .ok (.ireturn, 1) := by decide +kernel
theorem dX8_has_0 : decode cX8_has 0 = .ok (.iload_n 0, 1) := by decide +kernel
theorem dX8_has_1 : decode cX8_has 1 = .ok (.iload_n 1, 1) := by decide +kernel
theorem dX8_has_2 : decode cX8_has 2 = .ok (.ishr, 1) := by decide +kernel
theorem dX8_has_3 : decode cX8_has 3 = .ok (.iconst 1, 1) := by decide +kernel
theorem dX8_has_4 : decode cX8_has 4 = .ok (.iand, 1) := by decide +kernel
theorem dX8_has_5 : decode cX8_has 5 = .ok (.ifCond .eq 7, 3) := by decide +kernel
theorem dX8_has_8 : decode cX8_has 8 = .ok (.iconst 1, 1) := by decide +kernel
theorem dX8_has_9 : decode cX8_has 9 = .ok (.goto 4, 3) := by decide +kernel
theorem dX8_has_12 : decode cX8_has 12 = .ok (.iconst 0, 1) := by decide +kernel
theorem dX8_has_13 : decode cX8_has 13 = .ok (.ireturn, 1) := by decide +kernel
theorem dX8_areSomeThings_0 : decode cX8_areSomeThings 0 = .ok (.iload_n 0, 1) := by decide +kernel
theorem dX8_areSomeThings_1 : decode cX8_areSomeThings 1 = .ok (.iconst 1, 1) := by decide +kernel
theorem dX8_areSomeThings_2 : decode cX8_areSomeThings 2 = .ok (.if_icmp .lt 13, 3) := by decide +kernel
theorem dX8_areSomeThings_5 : decode cX8_areSomeThings 5 = .ok (.iload_n 0, 1) := by decide +kernel
theorem dX8_areSomeThings_6 : decode cX8_areSomeThings 6 = .ok (.ldc 58, 2) := by decide +kernel
theorem dX8_areSomeThings_8 : decode cX8_areSomeThings 8 = .ok (.if_icmp .gt 7, 3) := by decide +kernel
theorem dX8_areSomeThings_11 : decode cX8_areSomeThings 11 = .ok (.iconst 1, 1) := by decide +kernel
theorem dX8_areSomeThings_12 : decode cX8_areSomeThings 12 = .ok (.goto 4, 3) := by decide +kernel
theorem dX8_areSomeThings_15 : decode cX8_areSomeThings 15 = .ok (.iconst 0, 1) := by decide +kernel
theorem dX8_areSomeThings_16 : decode cX8_areSomeThings 16 = .ok (.ireturn, 1) := by decide +kernel
theorem dX8_isPrice_0 : decode cX8_isPrice 0 = .ok (.iload_n 0, 1) := by decide +kernel
theorem dX8_isPrice_1 : decode cX8_isPrice 1 = .ok (.iconst 1, 1) := by decide +kernel
theorem dX8_isPrice_2 : decode cX8_isPrice 2 = .ok (.if_icmp .lt 14, 3) := by decide +kernel
theorem dX8_isPrice_5 : decode cX8_isPrice 5 = .ok (.iload_n 0, 1) := by decide +kernel
theorem dX8_isPrice_6 : decode cX8_isPrice 6 = .ok (.sipush 500, 3) := by decide +kernel
theorem dX8_isPrice_9 : decode cX8_isPrice 9 = .ok (.if_icmp .gt 7, 3) := by decide +kernel
theorem dX8_isPrice_12 : decode cX8_isPrice 12 = .ok (.iconst 1, 1) := by decide +kernel
theorem dX8_isPrice_13 : decode cX8_isPrice 13 = .ok (.goto 4, 3) := by decide +kernel
theorem dX8_isPrice_16 : decode cX8_isPrice 16 = .ok (.iconst 0, 1) := by decide +kernel
theorem dX8_isPrice_17 : decode cX8_isPrice 17 = .ok (.ireturn, 1) := by decide +kernel
theorem dJ6_numberOfTrailingZeros_0f7a4_0 : decode cJ6_numberOfTrailingZeros_0f7a4 0 = .ok (.iload_n 0, 1) := by decide +kernel
theorem dJ6_numberOfTrailingZeros_0f7a4_1 : decode cJ6_numberOfTrailingZeros_0f7a4 1 = .ok (.iconst (-1), 1) := by decide +kernel
theorem dJ6_numberOfTrailingZeros_0f7a4_2 : decode cJ6_numberOfTrailingZeros_0f7a4 2 = .ok (.ixor, 1) := by decide +kernel
theorem dJ6_numberOfTrailingZeros_0f7a4_3 : decode cJ6_numberOfTrailingZeros_0f7a4 3 = .ok (.iload_n 0, 1) := by decide +kernel
theorem dJ6_numberOfTrailingZeros_0f7a4_4 : decode cJ6_numberOfTrailingZeros_0f7a4 4 = .ok (.iconst 1, 1) := by decide +kernel
theorem dJ6_numberOfTrailingZeros_0f7a4_5 : decode cJ6_numberOfTrailingZeros_0f7a4 5 = .ok (.isub, 1) := by decide +kernel
theorem dJ6_numberOfTrailingZeros_0f7a4_6 : decode cJ6_numberOfTrailingZeros_0f7a4 6 = .ok (.iand, 1) := by decide +kernel
theorem dJ6_numberOfTrailingZeros_0f7a4_7 : decode cJ6_numberOfTrailingZeros_0f7a4 7 = .ok (.istore_n 0, 1) := by decide +kernel
theorem dJ6_numberOfTrailingZeros_0f7a4_8 : decode cJ6_numberOfTrailingZeros_0f7a4 8 = .ok (.iload_n 0, 1) := by decide +kernel
theorem dJ6_numberOfTrailingZeros_0f7a4_9 : decode cJ6_numberOfTrailingZeros_0f7a4 9 = .ok (.ifCond .gt 8, 3) := by decide +kernel
theorem dJ6_numberOfTrailingZeros_0f7a4_12 : decode cJ6_numberOfTrailingZeros_0f7a4 12 = .ok (.iload_n 0, 1) := by decide +kernel
theorem dJ6_numberOfTrailingZeros_0f7a4_13 : decode cJ6_numberOfTrailingZeros_0f7a4 13 = .ok (.bipush 32, 2) := by decide +kernel
theorem dJ6_numberOfTrailingZeros_0f7a4_15 : decode cJ6_numberOfTrailingZeros_0f7a4 15 = .ok (.iand, 1) := by decide +kernel
theorem dJ6_numberOfTrailingZeros_0f7a4_16 : decode cJ6_numberOfTrailingZeros_0f7a4 16 = .ok (.ireturn, 1) := by decide +kernel
theorem dJ6_numberOfTrailingZeros_0f7a4_17 : decode cJ6_numberOfTrailingZeros_0f7a4 17 = .ok (.iconst 1, 1) := by decide +kernel
theorem dJ6_numberOfTrailingZeros_0f7a4_18 : decode cJ6_numberOfTrailingZeros_0f7a4 18 = .ok (.istore_n 1, 1) := by decide +kernel
theorem dJ6_numberOfTrailingZeros_0f7a4_19 : decode cJ6_numberOfTrailingZeros_0f7a4 19 = .ok (.iload_n 0, 1) := by decide +kernel
theorem dJ6_numberOfTrailingZeros_0f7a4_20 : decode cJ6_numberOfTrailingZeros_0f7a4 20 = .ok (.ldc_w 264, 3) := by decide +kernel
theorem dJ6_numberOfTrailingZeros_0f7a4_23 : decode cJ6_numberOfTrailingZeros_0f7a4 23 = .ok (.if_icmp .le 11, 3) := by decide +kernel
theorem dJ6_numberOfTrailingZeros_0f7a4_26 : decode cJ6_numberOfTrailingZeros_0f7a4 26 = .ok (.iinc 1 16, 3) := by decide +kernel
theorem dJ6_numberOfTrailingZeros_0f7a4_29 : decode cJ6_numberOfTrailingZeros_0f7a4 29 = .ok (.iload_n 0, 1) := by decide +kernel
theorem dJ6_numberOfTrailingZeros_0f7a4_30 : decode cJ6_numberOfTrailingZeros_0f7a4 30 = .ok (.bipush 16, 2) := by decide +kernel
theorem dJ6_numberOfTrailingZeros_0f7a4_32 : decode cJ6_numberOfTrailingZeros_0f7a4 32 = .ok (.iushr, 1) := by decide +kernel
theorem dJ6_numberOfTrailingZeros_0f7a4_33 : decode cJ6_numberOfTrailingZeros_0f7a4 33 = .ok (.istore_n 0, 1) := by decide +kernel
theorem dJ6_numberOfTrailingZeros_0f7a4_34 : decode cJ6_numberOfTrailingZeros_0f7a4 34 = .ok (.iload_n 0, 1) := by decide +kernel
theorem dJ6_numberOfTrailingZeros_0f7a4_35 : decode cJ6_numberOfTrailingZeros_0f7a4 35 = .ok (.sipush 256, 3) := by decide +kernel
theorem dJ6_numberOfTrailingZeros_0f7a4_38 : decode cJ6_numberOfTrailingZeros_0f7a4 38 = .ok (.if_icmp .le 11, 3) := by decide +kernel
theorem dJ6_numberOfTrailingZeros_0f7a4_41 : decode cJ6_numberOfTrailingZeros_0f7a4 41 = .ok (.iinc 1 8, 3) := by decide +kernel
theorem dJ6_numberOfTrailingZeros_0f7a4_44 : decode cJ6_numberOfTrailingZeros_0f7a4 44 = .ok (.iload_n 0, 1) := by decide +kernel
theorem dJ6_numberOfTrailingZeros_0f7a4_45 : decode cJ6_numberOfTrailingZeros_0f7a4 45 = .ok (.bipush 8, 2) := by decide +kernel
theorem dJ6_numberOfTrailingZeros_0f7a4_47 : decode cJ6_numberOfTrailingZeros_0f7a4 47 = .ok (.iushr, 1) := by decide +kernel
theorem dJ6_numberOfTrailingZeros_0f7a4_48 : decode cJ6_numberOfTrailingZeros_0f7a4 48 = .ok (.istore_n 0, 1) := by decide +kernel
theorem dJ6_numberOfTrailingZeros_0f7a4_49 : decode cJ6_numberOfTrailingZeros_0f7a4 49 = .ok (.iload_n 0, 1) := by decide +kernel
theorem dJ6_numberOfTrailingZeros_0f7a4_50 : decode cJ6_numberOfTrailingZeros_0f7a4 50 = .ok (.bipush 16, 2) := by decide +kernel
theorem dJ6_numberOfTrailingZeros_0f7a4_52 : decode cJ6_numberOfTrailingZeros_0f7a4 52 = .ok (.if_icmp .le 10, 3) := by decide +kernel
theorem dJ6_numberOfTrailingZeros_0f7a4_55 : decode cJ6_numberOfTrailingZeros_0f7a4 55 = .ok (.iinc 1 4, 3) := by decide +kernel
theorem dJ6_numberOfTrailingZeros_0f7a4_58 : decode cJ6_numberOfTrailingZeros_0f7a4 58 = .ok (.iload_n 0, 1) := by decide +kernel
theorem dJ6_numberOfTrailingZeros_0f7a4_59 : decode cJ6_numberOfTrailingZeros_0f7a4 59 = .ok (.iconst 4, 1) := by decide +kernel
theorem dJ6_numberOfTrailingZeros_0f7a4_60 : decode cJ6_numberOfTrailingZeros_0f7a4 60 = .ok (.iushr, 1) := by decide +kernel
theorem dJ6_numberOfTrailingZeros_0f7a4_61 : decode cJ6_numberOfTrailingZeros_0f7a4 61 = .ok (.istore_n 0, 1) := by decide +kernel
theorem dJ6_numberOfTrailingZeros_0f7a4_62 : decode cJ6_numberOfTrailingZeros_0f7a4 62 = .ok (.iload_n 0, 1) := by decide +kernel
theorem dJ6_numberOfTrailingZeros_0f7a4_63 : decode cJ6_numberOfTrailingZeros_0f7a4 63 = .ok (.iconst 4, 1) := by decide +kernel
theorem dJ6_numberOfTrailingZeros_0f7a4_64 : decode cJ6_numberOfTrailingZeros_0f7a4 64 = .ok (.if_icmp .le 10, 3) := by decide +kernel
theorem dJ6_numberOfTrailingZeros_0f7a4_67 : decode cJ6_numberOfTrailingZeros_0f7a4 67 = .ok (.iinc 1 2, 3) := by decide +kernel
theorem dJ6_numberOfTrailingZeros_0f7a4_70 : decode cJ6_numberOfTrailingZeros_0f7a4 70 = .ok (.iload_n 0, 1) := by decide +kernel
theorem dJ6_numberOfTrailingZeros_0f7a4_71 : decode cJ6_numberOfTrailingZeros_0f7a4 71 = .ok (.iconst 2, 1) := by decide +kernel
theorem dJ6_numberOfTrailingZeros_0f7a4_72 : decode cJ6_numberOfTrailingZeros_0f7a4 72 = .ok (.iushr, 1) := by decide +kernel
theorem dJ6_numberOfTrailingZeros_0f7a4_73 : decode cJ6_numberOfTrailingZeros_0f7a4 73 = .ok (.istore_n 0, 1) := by decide +kernel
theorem dJ6_numberOfTrailingZeros_0f7a4_74 : decode cJ6_numberOfTrailingZeros_0f7a4 74 = .ok (.iload_n 1, 1) := by decide +kernel
theorem dJ6_numberOfTrailingZeros_0f7a4_75 : decode cJ6_numberOfTrailingZeros_0f7a4 75 = .ok (.iload_n 0, 1) := by decide +kernel
theorem dJ6_numberOfTrailingZeros_0f7a4_76 : decode cJ6_numberOfTrailingZeros_0f7a4 76 = .ok (.iconst 1, 1) := by decide +kernel
theorem dJ6_numberOfTrailingZeros_0f7a4_77 : decode cJ6_numberOfTrailingZeros_0f7a4 77 = .ok (.iushr, 1) := by decide +kernel
theorem dJ6_numberOfTrailingZeros_0f7a4_78 : decode cJ6_numberOfTrailingZeros_0f7a4 78 = .ok (.iadd, 1) := by decide +kernel
theorem dJ6_numberOfTrailingZeros_0f7a4_79 : decode cJ6_numberOfTrailingZeros_0f7a4 79 = .ok (.ireturn, 1) := by decide +kernel
theorem dJ6_bitCount_0f7a4_0 : decode cJ6_bitCount_0f7a4 0 = .ok (.iload_n 0, 1) := by decide +kernel
theorem dJ6_bitCount_0f7a4_1 : decode cJ6_bitCount_0f7a4 1 = .ok (.iload_n 0, 1) := by decide +kernel
theorem dJ6_bitCount_0f7a4_2 : decode cJ6_bitCount_0f7a4 2 = .ok (.iconst 1, 1) := by decide +kernel
theorem dJ6_bitCount_0f7a4_3 : decode cJ6_bitCount_0f7a4 3 = .ok (.iushr, 1) := by decide +kernel
theorem dJ6_bitCount_0f7a4_4 : decode cJ6_bitCount_0f7a4 4 = .ok (.ldc_w 265, 3) := by decide +kernel
theorem dJ6_bitCount_0f7a4_7 : decode cJ6_bitCount_0f7a4 7 = .ok (.iand, 1) := by decide +kernel
theorem dJ6_bitCount_0f7a4_8 : decode cJ6_bitCount_0f7a4 8 = .ok (.isub, 1) := by decide +kernel
theorem dJ6_bitCount_0f7a4_9 : decode cJ6_bitCount_0f7a4 9 = .ok (.istore_n 0, 1) := by decide +kernel
theorem dJ6_bitCount_0f7a4_10 : decode cJ6_bitCount_0f7a4 10 = .ok (.iload_n 0, 1) := by decide +kernel
theorem dJ6_bitCount_0f7a4_11 : decode cJ6_bitCount_0f7a4 11 = .ok (.ldc_w 266, 3) := by decide +kernel
theorem dJ6_bitCount_0f7a4_14 : decode cJ6_bitCount_0f7a4 14 = .ok (.iand, 1) := by decide +kernel
theorem dJ6_bitCount_0f7a4_15 : decode cJ6_bitCount_0f7a4 15 = .ok (.iload_n 0, 1) := by decide +kernel
theorem dJ6_bitCount_0f7a4_16 : decode cJ6_bitCount_0f7a4 16 = .ok (.iconst 2, 1) := by decide +kernel
theorem dJ6_bitCount_0f7a4_17 : decode cJ6_bitCount_0f7a4 17 = .ok (.iushr, 1) := by decide +kernel
theorem dJ6_bitCount_0f7a4_18 : decode cJ6_bitCount_0f7a4 18 = .ok (.ldc_w 266, 3) := by decide +kernel
theorem dJ6_bitCount_0f7a4_21 : decode cJ6_bitCount_0f7a4 21 = .ok (.iand, 1) := by decide +kernel
theorem dJ6_bitCount_0f7a4_22 : decode cJ6_bitCount_0f7a4 22 = .ok (.iadd, 1) := by decide +kernel
theorem dJ6_bitCount_0f7a4_23 : decode cJ6_bitCount_0f7a4 23 = .ok (.istore_n 0, 1) := by decide +kernel
theorem dJ6_bitCount_0f7a4_24 : decode cJ6_bitCount_0f7a4 24 = .ok (.iload_n 0, 1) := by decide +kernel
theorem dJ6_bitCount_0f7a4_25 : decode cJ6_bitCount_0f7a4 25 = .ok (.iload_n 0, 1) := by decide +kernel
theorem dJ6_bitCount_0f7a4_26 : decode cJ6_bitCount_0f7a4 26 = .ok (.iconst 4, 1) := by decide +kernel
theorem dJ6_bitCount_0f7a4_27 : decode cJ6_bitCount_0f7a4 27 = .ok (.iushr, 1) := by decide +kernel
theorem dJ6_bitCount_0f7a4_28 : decode cJ6_bitCount_0f7a4 28 = .ok (.iadd, 1) := by decide +kernel
theorem dJ6_bitCount_0f7a4_29 : decode cJ6_bitCount_0f7a4 29 = .ok (.ldc_w 267, 3) := by decide +kernel
theorem dJ6_bitCount_0f7a4_32 : decode cJ6_bitCount_0f7a4 32 = .ok (.iand, 1) := by decide +kernel
theorem dJ6_bitCount_0f7a4_33 : decode cJ6_bitCount_0f7a4 33 = .ok (.istore_n 0, 1) := by decide +kernel
theorem dJ6_bitCount_0f7a4_34 : decode cJ6_bitCount_0f7a4 34 = .ok (.iload_n 0, 1) := by decide +kernel
theorem dJ6_bitCount_0f7a4_35 : decode cJ6_bitCount_0f7a4 35 = .ok (.iload_n 0, 1) := by decide +kernel
theorem dJ6_bitCount_0f7a4_36 : decode cJ6_bitCount_0f7a4 36 = .ok (.bipush 8, 2) := by decide +kernel
theorem dJ6_bitCount_0f7a4_38 : decode cJ6_bitCount_0f7a4 38 = .ok (.iushr, 1) := by decide +kernel
theorem dJ6_bitCount_0f7a4_39 : decode cJ6_bitCount_0f7a4 39 = .ok (.iadd, 1) := by decide +kernel
theorem dJ6_bitCount_0f7a4_40 : decode cJ6_bitCount_0f7a4 40 = .ok (.istore_n 0, 1) := by decide +kernel
theorem dJ6_bitCount_0f7a4_41 : decode cJ6_bitCount_0f7a4 41 = .ok (.iload_n 0, 1) := by decide +kernel
theorem dJ6_bitCount_0f7a4_42 : decode cJ6_bitCount_0f7a4 42 = .ok (.iload_n 0, 1) := by decide +kernel
theorem dJ6_bitCount_0f7a4_43 : decode cJ6_bitCount_0f7a4 43 = .ok (.bipush 16, 2) := by decide +kernel
theorem dJ6_bitCount_0f7a4_45 : decode cJ6_bitCount_0f7a4 45 = .ok (.iushr, 1) := by decide +kernel
theorem dJ6_bitCount_0f7a4_46 : decode cJ6_bitCount_0f7a4 46 = .ok (.iadd, 1) := by decide +kernel
theorem dJ6_bitCount_0f7a4_47 : decode cJ6_bitCount_0f7a4 47 = .ok (.istore_n 0, 1) := by decide +kernel
theorem dJ6_bitCount_0f7a4_48 : decode cJ6_bitCount_0f7a4 48 = .ok (.iload_n 0, 1) := by decide +kernel
theorem dJ6_bitCount_0f7a4_49 : decode cJ6_bitCount_0f7a4 49 = .ok (.bipush 63, 2) := by decide +kernel
theorem dJ6_bitCount_0f7a4_51 : decode cJ6_bitCount_0f7a4 51 = .ok (.iand, 1) := by decide +kernel
theorem dJ6_bitCount_0f7a4_52 : decode cJ6_bitCount_0f7a4 52 = .ok (.ireturn, 1) := by decide +kernel
theorem dJ9_max_7cf53_0 : decode cJ9_max_7cf53 0 = .ok (.iload_n 0, 1) := by decide +kernel
theorem dJ9_max_7cf53_1 : decode cJ9_max_7cf53 1 = .ok (.iload_n 1, 1) := by decide +kernel
theorem dJ9_max_7cf53_2 : decode cJ9_max_7cf53 2 = .ok (.if_icmp .lt 7, 3) := by decide +kernel
theorem dJ9_max_7cf53_5 : decode cJ9_max_7cf53 5 = .ok (.iload_n 0, 1) := by decide +kernel
theorem dJ9_max_7cf53_6 : decode cJ9_max_7cf53 6 = .ok (.goto 4, 3) := by decide +kernel
theorem dJ9_max_7cf53_9 : decode cJ9_max_7cf53 9 = .ok (.iload_n 1, 1) := by decide +kernel
theorem dJ9_max_7cf53_10 : decode cJ9_max_7cf53 10 = .ok (.ireturn, 1) := by decide +kernel
theorem dJ9_min_7cf53_0 : decode cJ9_min_7cf53 0 = .ok (.iload_n 0, 1) := by decide +kernel
theorem dJ9_min_7cf53_1 : decode cJ9_min_7cf53 1 = .ok (.iload_n 1, 1) := by decide +kernel
theorem dJ9_min_7cf53_2 : decode cJ9_min_7cf53 2 = .ok (.if_icmp .gt 7, 3) := by decide +kernel
theorem dJ9_min_7cf53_5 : decode cJ9_min_7cf53 5 = .ok (.iload_n 0, 1) := by decide +kernel
theorem dJ9_min_7cf53_6 : decode cJ9_min_7cf53 6 = .ok (.goto 4, 3) := by decide +kernel
theorem dJ9_min_7cf53_9 : decode cJ9_min_7cf53 9 = .ok (.iload_n 1, 1) := by decide +kernel
theorem dJ9_min_7cf53_10 : decode cJ9_min_7cf53 10 = .ok (.ireturn, 1) := by decide +kernel
theorem dJ7_fill_53178_0 : decode cJ7_fill_53178 0 = .ok (.iconst 0, 1) := by decide +kernel
theorem dJ7_fill_53178_1 : decode cJ7_fill_53178 1 = .ok (.istore_n 2, 1) := by decide +kernel
theorem dJ7_fill_53178_2 : decode cJ7_fill_53178 2 = .ok (.aload_n 0, 1) := by decide +kernel
theorem dJ7_fill_53178_3 : decode cJ7_fill_53178 3 = .ok (.arraylength, 1) := by decide +kernel
theorem dJ7_fill_53178_4 : decode cJ7_fill_53178 4 = .ok (.istore_n 3, 1) := by decide +kernel
theorem dJ7_fill_53178_5 : decode cJ7_fill_53178 5 = .ok (.iload_n 2, 1) := by decide +kernel
theorem dJ7_fill_53178_6 : decode cJ7_fill_53178 6 = .ok (.iload_n 3, 1) := by decide +kernel
theorem dJ7_fill_53178_7 : decode cJ7_fill_53178 7 = .ok (.if_icmp .ge 13, 3) := by decide +kernel
theorem dJ7_fill_53178_10 : decode cJ7_fill_53178 10 = .ok (.aload_n 0, 1) := by decide +kernel
theorem dJ7_fill_53178_11 : decode cJ7_fill_53178 11 = .ok (.iload_n 2, 1) := by decide +kernel
theorem dJ7_fill_53178_12 : decode cJ7_fill_53178 12 = .ok (.iload_n 1, 1) := by decide +kernel
theorem dJ7_fill_53178_13 : decode cJ7_fill_53178 13 = .ok (.iastore, 1) := by decide +kernel
theorem dJ7_fill_53178_14 : decode cJ7_fill_53178 14 = .ok (.iinc 2 1, 3) := by decide +kernel
theorem dJ7_fill_53178_17 : decode cJ7_fill_53178 17 = .ok (.goto (-12), 3) := by decide +kernel
theorem dJ7_fill_53178_20 : decode cJ7_fill_53178 20 = .ok (.return_, 1) := by decide +kernel
theorem dL_cell_0 : decode cL_cell 0 = .ok (.aload_n 0, 1) := by decide +kernel
theorem dL_cell_1 : decode cL_cell 1 = .ok (.arraylength, 1) := by decide +kernel
theorem dL_cell_2 : decode cL_cell 2 = .ok (.ifCond .ne 12, 3) := by decide +kernel
theorem dL_cell_5 : decode cL_cell 5 = .ok (.iload_n 1, 1) := by decide +kernel
theorem dL_cell_6 : decode cL_cell 6 = .ok (.bipush 37, 2) := by decide +kernel
theorem dL_cell_8 : decode cL_cell 8 = .ok (.imul, 1) := by decide +kernel
theorem dL_cell_9 : decode cL_cell 9 = .ok (.iconst 5, 1) := by decide +kernel
theorem dL_cell_10 : decode cL_cell 10 = .ok (.iadd, 1) := by decide +kernel
theorem dL_cell_11 : decode cL_cell 11 = .ok (.goto 17, 3) := by decide +kernel
theorem dL_cell_14 : decode cL_cell 14 = .ok (.aload_n 0, 1) := by decide +kernel
theorem dL_cell_15 : decode cL_cell 15 = .ok (.iload_n 1, 1) := by decide +kernel
theorem dL_cell_16 : decode cL_cell 16 = .ok (.aload_n 0, 1) := by decide +kernel
theorem dL_cell_17 : decode cL_cell 17 = .ok (.arraylength, 1) := by decide +kernel
theorem dL_cell_18 : decode cL_cell 18 = .ok (.irem, 1) := by decide +kernel
theorem dL_cell_19 : decode cL_cell 19 = .ok (.iaload, 1) := by decide +kernel
theorem dL_cell_20 : decode cL_cell 20 = .ok (.iload_n 1, 1) := by decide +kernel
theorem dL_cell_21 : decode cL_cell 21 = .ok (.bipush 7, 2) := by decide +kernel
theorem dL_cell_23 : decode cL_cell 23 = .ok (.irem, 1) := by decide +kernel
theorem dL_cell_24 : decode cL_cell 24 = .ok (.ishr, 1) := by decide +kernel
theorem dL_cell_25 : decode cL_cell 25 = .ok (.ldc 7, 2) := by decide +kernel
theorem dL_cell_27 : decode cL_cell 27 = .ok (.iand, 1) := by decide +kernel
theorem dL_cell_28 : decode cL_cell 28 = .ok (.iload_n 2, 1) := by decide +kernel
theorem dL_cell_29 : decode cL_cell 29 = .ok (.irem, 1) := by decide +kernel
theorem dL_cell_30 : decode cL_cell 30 = .ok (.ireturn, 1) := by decide +kernel
theorem dL_has_0 : decode cL_has 0 = .ok (.iload_n 0, 1) := by decide +kernel
theorem dL_has_1 : decode cL_has 1 = .ok (.iload_n 1, 1) := by decide +kernel
theorem dL_has_2 : decode cL_has 2 = .ok (.ishr, 1) := by decide +kernel
theorem dL_has_3 : decode cL_has 3 = .ok (.iconst 1, 1) := by decide +kernel
theorem dL_has_4 : decode cL_has 4 = .ok (.iand, 1) := by decide +kernel
theorem dL_has_5 : decode cL_has 5 = .ok (.iconst 1, 1) := by decide +kernel
theorem dL_has_6 : decode cL_has 6 = .ok (.if_icmp .ne 7, 3) := by decide +kernel
theorem dL_has_9 : decode cL_has 9 = .ok (.iconst 1, 1) := by decide +kernel
theorem dL_has_10 : decode cL_has 10 = .ok (.goto 4, 3) := by decide +kernel
theorem dL_has_13 : decode cL_has 13 = .ok (.iconst 0, 1) := by decide +kernel
theorem dL_has_14 : decode cL_has 14 = .ok (.ireturn, 1) := by decide +kernel
theorem dL_ones_0 : decode cL_ones 0 = .ok (.iconst 0, 1) := by decide +kernel
theorem dL_ones_1 : decode cL_ones 1 = .ok (.istore_n 1, 1) := by decide +kernel
theorem dL_ones_2 : decode cL_ones 2 = .ok (.iconst 0, 1) := by decide +kernel
theorem dL_ones_3 : decode cL_ones 3 = .ok (.istore_n 2, 1) := by decide +kernel
theorem dL_ones_4 : decode cL_ones 4 = .ok (.iload_n 2, 1) := by decide +kernel
theorem dL_ones_5 : decode cL_ones 5 = .ok (.bipush 18, 2) := by decide +kernel
theorem dL_ones_7 : decode cL_ones 7 = .ok (.if_icmp .ge 17, 3) := by decide +kernel
theorem dL_ones_10 : decode cL_ones 10 = .ok (.iload_n 1, 1) := by decide +kernel
theorem dL_ones_11 : decode cL_ones 11 = .ok (.iload_n 0, 1) := by decide +kernel
theorem dL_ones_12 : decode cL_ones 12 = .ok (.iload_n 2, 1) := by decide +kernel
theorem dL_ones_13 : decode cL_ones 13 = .ok (.ishr, 1) := by decide +kernel
theorem dL_ones_14 : decode cL_ones 14 = .ok (.iconst 1, 1) := by decide +kernel
theorem dL_ones_15 : decode cL_ones 15 = .ok (.iand, 1) := by decide +kernel
theorem dL_ones_16 : decode cL_ones 16 = .ok (.iadd, 1) := by decide +kernel
theorem dL_ones_17 : decode cL_ones 17 = .ok (.istore_n 1, 1) := by decide +kernel
theorem dL_ones_18 : decode cL_ones 18 = .ok (.iinc 2 1, 3) := by decide +kernel
theorem dL_ones_21 : decode cL_ones 21 = .ok (.goto (-17), 3) := by decide +kernel
theorem dL_ones_24 : decode cL_ones 24 = .ok (.iload_n 1, 1) := by decide +kernel
theorem dL_ones_25 : decode cL_ones 25 = .ok (.ireturn, 1) := by decide +kernel
theorem dL_union_0 : decode cL_union 0 = .ok (.iconst 0, 1) := by decide +kernel
theorem dL_union_1 : decode cL_union 1 = .ok (.istore_n 2, 1) := by decide +kernel
theorem dL_union_2 : decode cL_union 2 = .ok (.iconst 0, 1) := by decide +kernel
theorem dL_union_3 : decode cL_union 3 = .ok (.istore_n 3, 1) := by decide +kernel
theorem dL_union_4 : decode cL_union 4 = .ok (.iload_n 3, 1) := by decide +kernel
theorem dL_union_5 : decode cL_union 5 = .ok (.aload_n 0, 1) := by decide +kernel
theorem dL_union_6 : decode cL_union 6 = .ok (.iconst 0, 1) := by decide +kernel
theorem dL_union_7 : decode cL_union 7 = .ok (.invokevirtual 8, 3) := by decide +kernel
theorem dL_union_10 : decode cL_union 10 = .ok (.if_icmp .ge 30, 3) := by decide +kernel
theorem dL_union_13 : decode cL_union 13 = .ok (.iload_n 2, 1) := by decide +kernel
theorem dL_union_14 : decode cL_union 14 = .ok (.iload_n 1, 1) := by decide +kernel
theorem dL_union_15 : decode cL_union 15 = .ok (.iload_n 3, 1) := by decide +kernel
theorem dL_union_16 : decode cL_union 16 = .ok (.invokestatic 14, 3) := by decide +kernel
theorem dL_union_19 : decode cL_union 19 = .ok (.ifCond .eq 12, 3) := by decide +kernel
theorem dL_union_22 : decode cL_union 22 = .ok (.aload_n 0, 1) := by decide +kernel
theorem dL_union_23 : decode cL_union 23 = .ok (.iload_n 3, 1) := by decide +kernel
theorem dL_union_24 : decode cL_union 24 = .ok (.iconst 0, 1) := by decide +kernel
theorem dL_union_25 : decode cL_union 25 = .ok (.invokevirtual 20, 3) := by decide +kernel
theorem dL_union_28 : decode cL_union 28 = .ok (.goto 4, 3) := by decide +kernel
theorem dL_union_31 : decode cL_union 31 = .ok (.iconst 0, 1) := by decide +kernel
theorem dL_union_32 : decode cL_union 32 = .ok (.ior, 1) := by decide +kernel
theorem dL_union_33 : decode cL_union 33 = .ok (.istore_n 2, 1) := by decide +kernel
theorem dL_union_34 : decode cL_union 34 = .ok (.iinc 3 1, 3) := by decide +kernel
theorem dL_union_37 : decode cL_union 37 = .ok (.goto (-33), 3) := by decide +kernel
theorem dL_union_40 : decode cL_union 40 = .ok (.iload_n 2, 1) := by decide +kernel
theorem dL_union_41 : decode cL_union 41 = .ok (.ireturn, 1) := by decide +kernel
theorem dL_marked_0 : decode cL_marked 0 = .ok (.iconst 0, 1) := by decide +kernel
theorem dL_marked_1 : decode cL_marked 1 = .ok (.istore_n 2, 1) := by decide +kernel
theorem dL_marked_2 : decode cL_marked 2 = .ok (.iconst 0, 1) := by decide +kernel
theorem dL_marked_3 : decode cL_marked 3 = .ok (.istore_n 3, 1) := by decide +kernel
theorem dL_marked_4 : decode cL_marked 4 = .ok (.iload_n 3, 1) := by decide +kernel
theorem dL_marked_5 : decode cL_marked 5 = .ok (.aload_n 0, 1) := by decide +kernel
theorem dL_marked_6 : decode cL_marked 6 = .ok (.iconst 0, 1) := by decide +kernel
theorem dL_marked_7 : decode cL_marked 7 = .ok (.invokevirtual 8, 3) := by decide +kernel
theorem dL_marked_10 : decode cL_marked 10 = .ok (.if_icmp .ge 29, 3) := by decide +kernel
theorem dL_marked_13 : decode cL_marked 13 = .ok (.iload_n 2, 1) := by decide +kernel
theorem dL_marked_14 : decode cL_marked 14 = .ok (.aload_n 0, 1) := by decide +kernel
theorem dL_marked_15 : decode cL_marked 15 = .ok (.iload_n 3, 1) := by decide +kernel
theorem dL_marked_16 : decode cL_marked 16 = .ok (.iconst 2, 1) := by decide +kernel
theorem dL_marked_17 : decode cL_marked 17 = .ok (.invokevirtual 20, 3) := by decide +kernel
theorem dL_marked_20 : decode cL_marked 20 = .ok (.iload_n 1, 1) := by decide +kernel
theorem dL_marked_21 : decode cL_marked 21 = .ok (.if_icmp .ne 9, 3) := by decide +kernel
theorem dL_marked_24 : decode cL_marked 24 = .ok (.iconst 1, 1) := by decide +kernel
theorem dL_marked_25 : decode cL_marked 25 = .ok (.iload_n 3, 1) := by decide +kernel
theorem dL_marked_26 : decode cL_marked 26 = .ok (.ishl, 1) := by decide +kernel
theorem dL_marked_27 : decode cL_marked 27 = .ok (.goto 4, 3) := by decide +kernel
theorem dL_marked_30 : decode cL_marked 30 = .ok (.iconst 0, 1) := by decide +kernel
theorem dL_marked_31 : decode cL_marked 31 = .ok (.ior, 1) := by decide +kernel
theorem dL_marked_32 : decode cL_marked 32 = .ok (.istore_n 2, 1) := by decide +kernel
theorem dL_marked_33 : decode cL_marked 33 = .ok (.iinc 3 1, 3) := by decide +kernel
theorem dL_marked_36 : decode cL_marked 36 = .ok (.goto (-32), 3) := by decide +kernel
theorem dL_marked_39 : decode cL_marked 39 = .ok (.iload_n 2, 1) := by decide +kernel
theorem dL_marked_40 : decode cL_marked 40 = .ok (.ireturn, 1) := by decide +kernel
theorem dL_prices_0 : decode cL_prices 0 = .ok (.iconst 0, 1) := by decide +kernel
theorem dL_prices_1 : decode cL_prices 1 = .ok (.istore_n 2, 1) := by decide +kernel
theorem dL_prices_2 : decode cL_prices 2 = .ok (.iconst 0, 1) := by decide +kernel
theorem dL_prices_3 : decode cL_prices 3 = .ok (.istore_n 3, 1) := by decide +kernel
theorem dL_prices_4 : decode cL_prices 4 = .ok (.iload_n 3, 1) := by decide +kernel
theorem dL_prices_5 : decode cL_prices 5 = .ok (.aload_n 0, 1) := by decide +kernel
theorem dL_prices_6 : decode cL_prices 6 = .ok (.iconst 0, 1) := by decide +kernel
theorem dL_prices_7 : decode cL_prices 7 = .ok (.invokevirtual 8, 3) := by decide +kernel
theorem dL_prices_10 : decode cL_prices 10 = .ok (.if_icmp .ge 30, 3) := by decide +kernel
theorem dL_prices_13 : decode cL_prices 13 = .ok (.iload_n 2, 1) := by decide +kernel
theorem dL_prices_14 : decode cL_prices 14 = .ok (.iload_n 1, 1) := by decide +kernel
theorem dL_prices_15 : decode cL_prices 15 = .ok (.iload_n 3, 1) := by decide +kernel
theorem dL_prices_16 : decode cL_prices 16 = .ok (.invokestatic 14, 3) := by decide +kernel
theorem dL_prices_19 : decode cL_prices 19 = .ok (.ifCond .eq 12, 3) := by decide +kernel
theorem dL_prices_22 : decode cL_prices 22 = .ok (.aload_n 0, 1) := by decide +kernel
theorem dL_prices_23 : decode cL_prices 23 = .ok (.iload_n 3, 1) := by decide +kernel
theorem dL_prices_24 : decode cL_prices 24 = .ok (.iconst 1, 1) := by decide +kernel
theorem dL_prices_25 : decode cL_prices 25 = .ok (.invokevirtual 20, 3) := by decide +kernel
theorem dL_prices_28 : decode cL_prices 28 = .ok (.goto 4, 3) := by decide +kernel
theorem dL_prices_31 : decode cL_prices 31 = .ok (.iconst 0, 1) := by decide +kernel
theorem dL_prices_32 : decode cL_prices 32 = .ok (.iadd, 1) := by decide +kernel
theorem dL_prices_33 : decode cL_prices 33 = .ok (.istore_n 2, 1) := by decide +kernel
theorem dL_prices_34 : decode cL_prices 34 = .ok (.iinc 3 1, 3) := by decide +kernel
theorem dL_prices_37 : decode cL_prices 37 = .ok (.goto (-33), 3) := by decide +kernel
theorem dL_prices_40 : decode cL_prices 40 = .ok (.iload_n 2, 1) := by decide +kernel
theorem dL_prices_41 : decode cL_prices 41 = .ok (.ireturn, 1) := by decide +kernel
theorem dL_areShares_0 : decode cL_areShares 0 = .ok (.aload_n 0, 1) := by decide +kernel
theorem dL_areShares_1 : decode cL_areShares 1 = .ok (.iconst 0, 1) := by decide +kernel
theorem dL_areShares_2 : decode cL_areShares 2 = .ok (.invokevirtual 8, 3) := by decide +kernel
theorem dL_areShares_5 : decode cL_areShares 5 = .ok (.istore_n 1, 1) := by decide +kernel
theorem dL_areShares_6 : decode cL_areShares 6 = .ok (.aload_n 0, 1) := by decide +kernel
theorem dL_areShares_7 : decode cL_areShares 7 = .ok (.iconst 1, 1) := by decide +kernel
theorem dL_areShares_8 : decode cL_areShares 8 = .ok (.invokevirtual 8, 3) := by decide +kernel
theorem dL_areShares_11 : decode cL_areShares 11 = .ok (.istore_n 2, 1) := by decide +kernel
theorem dL_areShares_12 : decode cL_areShares 12 = .ok (.aload_n 0, 1) := by decide +kernel
theorem dL_areShares_13 : decode cL_areShares 13 = .ok (.iconst 1, 1) := by decide +kernel
theorem dL_areShares_14 : decode cL_areShares 14 = .ok (.invokestatic 24, 3) := by decide +kernel
theorem dL_areShares_17 : decode cL_areShares 17 = .ok (.istore_n 3, 1) := by decide +kernel
theorem dL_areShares_18 : decode cL_areShares 18 = .ok (.aload_n 0, 1) := by decide +kernel
theorem dL_areShares_19 : decode cL_areShares 19 = .ok (.iconst 0, 1) := by decide +kernel
theorem dL_areShares_20 : decode cL_areShares 20 = .ok (.invokestatic 24, 3) := by decide +kernel
theorem dL_areShares_23 : decode cL_areShares 23 = .ok (.istore 4, 2) := by decide +kernel
theorem dL_areShares_25 : decode cL_areShares 25 = .ok (.iload_n 2, 1) := by decide +kernel
theorem dL_areShares_26 : decode cL_areShares 26 = .ok (.aload_n 0, 1) := by decide +kernel
theorem dL_areShares_27 : decode cL_areShares 27 = .ok (.iload_n 3, 1) := by decide +kernel
theorem dL_areShares_28 : decode cL_areShares 28 = .ok (.invokestatic 28, 3) := by decide +kernel
theorem dL_areShares_31 : decode cL_areShares 31 = .ok (.iconst (-1), 1) := by decide +kernel
theorem dL_areShares_32 : decode cL_areShares 32 = .ok (.ixor, 1) := by decide +kernel
theorem dL_areShares_33 : decode cL_areShares 33 = .ok (.iand, 1) := by decide +kernel
theorem dL_areShares_34 : decode cL_areShares 34 = .ok (.istore 5, 2) := by decide +kernel
theorem dL_areShares_36 : decode cL_areShares 36 = .ok (.bipush 18, 2) := by decide +kernel
theorem dL_areShares_38 : decode cL_areShares 38 = .ok (.newarray .int, 2) := by decide +kernel
theorem dL_areShares_40 : decode cL_areShares 40 = .ok (.astore 6, 2) := by decide +kernel
theorem dL_areShares_42 : decode cL_areShares 42 = .ok (.bipush 14, 2) := by decide +kernel
theorem dL_areShares_44 : decode cL_areShares 44 = .ok (.newarray .int, 2) := by decide +kernel
theorem dL_areShares_46 : decode cL_areShares 46 = .ok (.astore 7, 2) := by decide +kernel
theorem dL_areShares_48 : decode cL_areShares 48 = .ok (.bipush 14, 2) := by decide +kernel
theorem dL_areShares_50 : decode cL_areShares 50 = .ok (.newarray .int, 2) := by decide +kernel
theorem dL_areShares_52 : decode cL_areShares 52 = .ok (.astore 8, 2) := by decide +kernel
theorem dL_areShares_54 : decode cL_areShares 54 = .ok (.iconst 0, 1) := by decide +kernel
theorem dL_areShares_55 : decode cL_areShares 55 = .ok (.istore 9, 2) := by decide +kernel
theorem dL_areShares_57 : decode cL_areShares 57 = .ok (.iconst 0, 1) := by decide +kernel
theorem dL_areShares_58 : decode cL_areShares 58 = .ok (.istore 10, 2) := by decide +kernel
theorem dL_areShares_60 : decode cL_areShares 60 = .ok (.iconst 0, 1) := by decide +kernel
theorem dL_areShares_61 : decode cL_areShares 61 = .ok (.istore 11, 2) := by decide +kernel
theorem dL_areShares_63 : decode cL_areShares 63 = .ok (.iconst 0, 1) := by decide +kernel
theorem dL_areShares_64 : decode cL_areShares 64 = .ok (.istore 12, 2) := by decide +kernel
theorem dL_areShares_66 : decode cL_areShares 66 = .ok (.iconst 0, 1) := by decide +kernel
theorem dL_areShares_67 : decode cL_areShares 67 = .ok (.istore 13, 2) := by decide +kernel
theorem dL_areShares_69 : decode cL_areShares 69 = .ok (.iload 13, 2) := by decide +kernel
theorem dL_areShares_71 : decode cL_areShares 71 = .ok (.iload_n 1, 1) := by decide +kernel
theorem dL_areShares_72 : decode cL_areShares 72 = .ok (.if_icmp .ge 28, 3) := by decide +kernel
theorem dL_areShares_75 : decode cL_areShares 75 = .ok (.aload 7, 2) := by decide +kernel
theorem dL_areShares_77 : decode cL_areShares 77 = .ok (.iload 13, 2) := by decide +kernel
theorem dL_areShares_79 : decode cL_areShares 79 = .ok (.aload_n 0, 1) := by decide +kernel
theorem dL_areShares_80 : decode cL_areShares 80 = .ok (.iload 13, 2) := by decide +kernel
theorem dL_areShares_82 : decode cL_areShares 82 = .ok (.iconst 1, 1) := by decide +kernel
theorem dL_areShares_83 : decode cL_areShares 83 = .ok (.invokevirtual 20, 3) := by decide +kernel
theorem dL_areShares_86 : decode cL_areShares 86 = .ok (.iastore, 1) := by decide +kernel
theorem dL_areShares_87 : decode cL_areShares 87 = .ok (.aload 8, 2) := by decide +kernel
theorem dL_areShares_89 : decode cL_areShares 89 = .ok (.iload 13, 2) := by decide +kernel
theorem dL_areShares_91 : decode cL_areShares 91 = .ok (.bipush (-6), 2) := by decide +kernel
theorem dL_areShares_93 : decode cL_areShares 93 = .ok (.iastore, 1) := by decide +kernel
theorem dL_areShares_94 : decode cL_areShares 94 = .ok (.iinc 13 1, 3) := by decide +kernel
theorem dL_areShares_97 : decode cL_areShares 97 = .ok (.goto (-28), 3) := by decide +kernel
theorem dL_areShares_100 : decode cL_areShares 100 = .ok (.iconst 0, 1) := by decide +kernel
theorem dL_areShares_101 : decode cL_areShares 101 = .ok (.istore 13, 2) := by decide +kernel
theorem dL_areShares_103 : decode cL_areShares 103 = .ok (.iload 5, 2) := by decide +kernel
theorem dL_areShares_105 : decode cL_areShares 105 = .ok (.iload 13, 2) := by decide +kernel
theorem dL_areShares_107 : decode cL_areShares 107 = .ok (.iconst (-1), 1) := by decide +kernel
theorem dL_areShares_108 : decode cL_areShares 108 = .ok (.ixor, 1) := by decide +kernel
theorem dL_areShares_109 : decode cL_areShares 109 = .ok (.iand, 1) := by decide +kernel
theorem dL_areShares_110 : decode cL_areShares 110 = .ok (.ifCond .eq 162, 3) := by decide +kernel
theorem dL_areShares_113 : decode cL_areShares 113 = .ok (.iinc 11 1, 3) := by decide +kernel
theorem dL_areShares_116 : decode cL_areShares 116 = .ok (.iconst 0, 1) := by decide +kernel
theorem dL_areShares_117 : decode cL_areShares 117 = .ok (.istore 14, 2) := by decide +kernel
theorem dL_areShares_119 : decode cL_areShares 119 = .ok (.iload 14, 2) := by decide +kernel
theorem dL_areShares_121 : decode cL_areShares 121 = .ok (.bipush 18, 2) := by decide +kernel
theorem dL_areShares_123 : decode cL_areShares 123 = .ok (.if_icmp .ge 146, 3) := by decide +kernel
theorem dL_areShares_126 : decode cL_areShares 126 = .ok (.iload 5, 2) := by decide +kernel
theorem dL_areShares_128 : decode cL_areShares 128 = .ok (.iload 13, 2) := by decide +kernel
theorem dL_areShares_130 : decode cL_areShares 130 = .ok (.iconst (-1), 1) := by decide +kernel
theorem dL_areShares_131 : decode cL_areShares 131 = .ok (.ixor, 1) := by decide +kernel
theorem dL_areShares_132 : decode cL_areShares 132 = .ok (.iand, 1) := by decide +kernel
theorem dL_areShares_133 : decode cL_areShares 133 = .ok (.iload 14, 2) := by decide +kernel
theorem dL_areShares_135 : decode cL_areShares 135 = .ok (.invokestatic 14, 3) := by decide +kernel
theorem dL_areShares_138 : decode cL_areShares 138 = .ok (.ifCond .eq 125, 3) := by decide +kernel
theorem dL_areShares_141 : decode cL_areShares 141 = .ok (.aload 6, 2) := by decide +kernel
theorem dL_areShares_143 : decode cL_areShares 143 = .ok (.iload 14, 2) := by decide +kernel
theorem dL_areShares_145 : decode cL_areShares 145 = .ok (.dup2, 1) := by decide +kernel
theorem dL_areShares_146 : decode cL_areShares 146 = .ok (.iaload, 1) := by decide +kernel
theorem dL_areShares_147 : decode cL_areShares 147 = .ok (.iconst 1, 1) := by decide +kernel
theorem dL_areShares_148 : decode cL_areShares 148 = .ok (.iadd, 1) := by decide +kernel
theorem dL_areShares_149 : decode cL_areShares 149 = .ok (.iastore, 1) := by decide +kernel
theorem dL_areShares_150 : decode cL_areShares 150 = .ok (.iinc 12 1, 3) := by decide +kernel
theorem dL_areShares_153 : decode cL_areShares 153 = .ok (.iconst 0, 1) := by decide +kernel
theorem dL_areShares_154 : decode cL_areShares 154 = .ok (.istore 15, 2) := by decide +kernel
theorem dL_areShares_156 : decode cL_areShares 156 = .ok (.iload 15, 2) := by decide +kernel
theorem dL_areShares_158 : decode cL_areShares 158 = .ok (.iload_n 1, 1) := by decide +kernel
theorem dL_areShares_159 : decode cL_areShares 159 = .ok (.if_icmp .ge 104, 3) := by decide +kernel
theorem dL_areShares_162 : decode cL_areShares 162 = .ok (.aload 7, 2) := by decide +kernel
theorem dL_areShares_164 : decode cL_areShares 164 = .ok (.iload 15, 2) := by decide +kernel
theorem dL_areShares_166 : decode cL_areShares 166 = .ok (.dup2, 1) := by decide +kernel
theorem dL_areShares_167 : decode cL_areShares 167 = .ok (.iaload, 1) := by decide +kernel
theorem dL_areShares_168 : decode cL_areShares 168 = .ok (.iload 4, 2) := by decide +kernel
theorem dL_areShares_170 : decode cL_areShares 170 = .ok (.iload 15, 2) := by decide +kernel
theorem dL_areShares_172 : decode cL_areShares 172 = .ok (.invokestatic 14, 3) := by decide +kernel
theorem dL_areShares_175 : decode cL_areShares 175 = .ok (.ifCond .eq 22, 3) := by decide +kernel
theorem dL_areShares_178 : decode cL_areShares 178 = .ok (.aload_n 0, 1) := by decide +kernel
theorem dL_areShares_179 : decode cL_areShares 179 = .ok (.iload 15, 2) := by decide +kernel
theorem dL_areShares_181 : decode cL_areShares 181 = .ok (.iconst 0, 1) := by decide +kernel
theorem dL_areShares_182 : decode cL_areShares 182 = .ok (.invokevirtual 20, 3) := by decide +kernel
theorem dL_areShares_185 : decode cL_areShares 185 = .ok (.iload 14, 2) := by decide +kernel
theorem dL_areShares_187 : decode cL_areShares 187 = .ok (.invokestatic 14, 3) := by decide +kernel
theorem dL_areShares_190 : decode cL_areShares 190 = .ok (.ifCond .eq 7, 3) := by decide +kernel
theorem dL_areShares_193 : decode cL_areShares 193 = .ok (.iconst 1, 1) := by decide +kernel
theorem dL_areShares_194 : decode cL_areShares 194 = .ok (.goto 4, 3) := by decide +kernel
theorem dL_areShares_197 : decode cL_areShares 197 = .ok (.iconst 0, 1) := by decide +kernel
theorem dL_areShares_198 : decode cL_areShares 198 = .ok (.isub, 1) := by decide +kernel
theorem dL_areShares_199 : decode cL_areShares 199 = .ok (.iastore, 1) := by decide +kernel
theorem dL_areShares_200 : decode cL_areShares 200 = .ok (.iload 4, 2) := by decide +kernel
theorem dL_areShares_202 : decode cL_areShares 202 = .ok (.iload 15, 2) := by decide +kernel
theorem dL_areShares_204 : decode cL_areShares 204 = .ok (.invokestatic 14, 3) := by decide +kernel
theorem dL_areShares_207 : decode cL_areShares 207 = .ok (.ifCond .eq 50, 3) := by decide +kernel
theorem dL_areShares_210 : decode cL_areShares 210 = .ok (.aload 7, 2) := by decide +kernel
theorem dL_areShares_212 : decode cL_areShares 212 = .ok (.iload 15, 2) := by decide +kernel
theorem dL_areShares_214 : decode cL_areShares 214 = .ok (.iaload, 1) := by decide +kernel
theorem dL_areShares_215 : decode cL_areShares 215 = .ok (.ifCond .ne 42, 3) := by decide +kernel
theorem dL_areShares_218 : decode cL_areShares 218 = .ok (.aload 8, 2) := by decide +kernel
theorem dL_areShares_220 : decode cL_areShares 220 = .ok (.iload 15, 2) := by decide +kernel
theorem dL_areShares_222 : decode cL_areShares 222 = .ok (.iaload, 1) := by decide +kernel
theorem dL_areShares_223 : decode cL_areShares 223 = .ok (.ifCond .ge 34, 3) := by decide +kernel
theorem dL_areShares_226 : decode cL_areShares 226 = .ok (.aload 8, 2) := by decide +kernel
theorem dL_areShares_228 : decode cL_areShares 228 = .ok (.iload 15, 2) := by decide +kernel
theorem dL_areShares_230 : decode cL_areShares 230 = .ok (.iload 10, 2) := by decide +kernel
theorem dL_areShares_232 : decode cL_areShares 232 = .ok (.iastore, 1) := by decide +kernel
theorem dL_areShares_233 : decode cL_areShares 233 = .ok (.iinc 10 1, 3) := by decide +kernel
theorem dL_areShares_236 : decode cL_areShares 236 = .ok (.iload 9, 2) := by decide +kernel
theorem dL_areShares_238 : decode cL_areShares 238 = .ok (.iconst 1, 1) := by decide +kernel
theorem dL_areShares_239 : decode cL_areShares 239 = .ok (.iload 15, 2) := by decide +kernel
theorem dL_areShares_241 : decode cL_areShares 241 = .ok (.ishl, 1) := by decide +kernel
theorem dL_areShares_242 : decode cL_areShares 242 = .ok (.ior, 1) := by decide +kernel
theorem dL_areShares_243 : decode cL_areShares 243 = .ok (.istore 9, 2) := by decide +kernel
theorem dL_areShares_245 : decode cL_areShares 245 = .ok (.iload 13, 2) := by decide +kernel
theorem dL_areShares_247 : decode cL_areShares 247 = .ok (.aload_n 0, 1) := by decide +kernel
theorem dL_areShares_248 : decode cL_areShares 248 = .ok (.iload 15, 2) := by decide +kernel
theorem dL_areShares_250 : decode cL_areShares 250 = .ok (.iconst 0, 1) := by decide +kernel
theorem dL_areShares_251 : decode cL_areShares 251 = .ok (.invokevirtual 20, 3) := by decide +kernel
theorem dL_areShares_254 : decode cL_areShares 254 = .ok (.ior, 1) := by decide +kernel
theorem dL_areShares_255 : decode cL_areShares 255 = .ok (.istore 13, 2) := by decide +kernel
theorem dL_areShares_257 : decode cL_areShares 257 = .ok (.iinc 15 1, 3) := by decide +kernel
theorem dL_areShares_260 : decode cL_areShares 260 = .ok (.goto (-104), 3) := by decide +kernel
theorem dL_areShares_263 : decode cL_areShares 263 = .ok (.iinc 14 1, 3) := by decide +kernel
theorem dL_areShares_266 : decode cL_areShares 266 = .ok (.goto (-147), 3) := by decide +kernel
theorem dL_areShares_269 : decode cL_areShares 269 = .ok (.goto (-166), 3) := by decide +kernel
theorem dL_areShares_272 : decode cL_areShares 272 = .ok (.iconst 0, 1) := by decide +kernel
theorem dL_areShares_273 : decode cL_areShares 273 = .ok (.istore 14, 2) := by decide +kernel
theorem dL_areShares_275 : decode cL_areShares 275 = .ok (.iload 10, 2) := by decide +kernel
theorem dL_areShares_277 : decode cL_areShares 277 = .ok (.iconst 1, 1) := by decide +kernel
theorem dL_areShares_278 : decode cL_areShares 278 = .ok (.isub, 1) := by decide +kernel
theorem dL_areShares_279 : decode cL_areShares 279 = .ok (.istore 15, 2) := by decide +kernel
theorem dL_areShares_281 : decode cL_areShares 281 = .ok (.iload 15, 2) := by decide +kernel
theorem dL_areShares_283 : decode cL_areShares 283 = .ok (.ifCond .lt 69, 3) := by decide +kernel
theorem dL_areShares_286 : decode cL_areShares 286 = .ok (.iconst 0, 1) := by decide +kernel
theorem dL_areShares_287 : decode cL_areShares 287 = .ok (.istore 16, 2) := by decide +kernel
theorem dL_areShares_289 : decode cL_areShares 289 = .ok (.iload 16, 2) := by decide +kernel
theorem dL_areShares_291 : decode cL_areShares 291 = .ok (.iload_n 1, 1) := by decide +kernel
theorem dL_areShares_292 : decode cL_areShares 292 = .ok (.if_icmp .ge 54, 3) := by decide +kernel
theorem dL_areShares_295 : decode cL_areShares 295 = .ok (.aload 8, 2) := by decide +kernel
theorem dL_areShares_297 : decode cL_areShares 297 = .ok (.iload 16, 2) := by decide +kernel
theorem dL_areShares_299 : decode cL_areShares 299 = .ok (.iaload, 1) := by decide +kernel
theorem dL_areShares_300 : decode cL_areShares 300 = .ok (.iload 15, 2) := by decide +kernel
theorem dL_areShares_302 : decode cL_areShares 302 = .ok (.if_icmp .ne 38, 3) := by decide +kernel
theorem dL_areShares_305 : decode cL_areShares 305 = .ok (.iload 5, 2) := by decide +kernel
theorem dL_areShares_307 : decode cL_areShares 307 = .ok (.aload_n 0, 1) := by decide +kernel
theorem dL_areShares_308 : decode cL_areShares 308 = .ok (.iload 9, 2) := by decide +kernel
theorem dL_areShares_310 : decode cL_areShares 310 = .ok (.iload 14, 2) := by decide +kernel
theorem dL_areShares_312 : decode cL_areShares 312 = .ok (.iconst (-1), 1) := by decide +kernel
theorem dL_areShares_313 : decode cL_areShares 313 = .ok (.ixor, 1) := by decide +kernel
theorem dL_areShares_314 : decode cL_areShares 314 = .ok (.iand, 1) := by decide +kernel
theorem dL_areShares_315 : decode cL_areShares 315 = .ok (.iconst 1, 1) := by decide +kernel
theorem dL_areShares_316 : decode cL_areShares 316 = .ok (.iload 16, 2) := by decide +kernel
theorem dL_areShares_318 : decode cL_areShares 318 = .ok (.ishl, 1) := by decide +kernel
theorem dL_areShares_319 : decode cL_areShares 319 = .ok (.iconst (-1), 1) := by decide +kernel
theorem dL_areShares_320 : decode cL_areShares 320 = .ok (.ixor, 1) := by decide +kernel
theorem dL_areShares_321 : decode cL_areShares 321 = .ok (.iand, 1) := by decide +kernel
theorem dL_areShares_322 : decode cL_areShares 322 = .ok (.invokestatic 28, 3) := by decide +kernel
theorem dL_areShares_325 : decode cL_areShares 325 = .ok (.iconst (-1), 1) := by decide +kernel
theorem dL_areShares_326 : decode cL_areShares 326 = .ok (.ixor, 1) := by decide +kernel
theorem dL_areShares_327 : decode cL_areShares 327 = .ok (.iand, 1) := by decide +kernel
theorem dL_areShares_328 : decode cL_areShares 328 = .ok (.ifCond .ne 12, 3) := by decide +kernel
theorem dL_areShares_331 : decode cL_areShares 331 = .ok (.iload 14, 2) := by decide +kernel
theorem dL_areShares_333 : decode cL_areShares 333 = .ok (.iconst 1, 1) := by decide +kernel
theorem dL_areShares_334 : decode cL_areShares 334 = .ok (.iload 16, 2) := by decide +kernel
theorem dL_areShares_336 : decode cL_areShares 336 = .ok (.ishl, 1) := by decide +kernel
theorem dL_areShares_337 : decode cL_areShares 337 = .ok (.ior, 1) := by decide +kernel
theorem dL_areShares_338 : decode cL_areShares 338 = .ok (.istore 14, 2) := by decide +kernel
theorem dL_areShares_340 : decode cL_areShares 340 = .ok (.iinc 16 1, 3) := by decide +kernel
theorem dL_areShares_343 : decode cL_areShares 343 = .ok (.goto (-54), 3) := by decide +kernel
theorem dL_areShares_346 : decode cL_areShares 346 = .ok (.iinc 15 (-1), 3) := by decide +kernel
theorem dL_areShares_349 : decode cL_areShares 349 = .ok (.goto (-68), 3) := by decide +kernel
theorem dL_areShares_352 : decode cL_areShares 352 = .ok (.iconst 0, 1) := by decide +kernel
theorem dL_areShares_353 : decode cL_areShares 353 = .ok (.istore 15, 2) := by decide +kernel
theorem dL_areShares_355 : decode cL_areShares 355 = .ok (.iload 15, 2) := by decide +kernel
theorem dL_areShares_357 : decode cL_areShares 357 = .ok (.bipush 18, 2) := by decide +kernel
theorem dL_areShares_359 : decode cL_areShares 359 = .ok (.if_icmp .ge 26, 3) := by decide +kernel
theorem dL_areShares_362 : decode cL_areShares 362 = .ok (.aload_n 0, 1) := by decide +kernel
theorem dL_areShares_363 : decode cL_areShares 363 = .ok (.iload 15, 2) := by decide +kernel
theorem dL_areShares_365 : decode cL_areShares 365 = .ok (.iconst 2, 1) := by decide +kernel
theorem dL_areShares_366 : decode cL_areShares 366 = .ok (.invokevirtual 31, 3) := by decide +kernel
theorem dL_areShares_369 : decode cL_areShares 369 = .ok (.aload 6, 2) := by decide +kernel
theorem dL_areShares_371 : decode cL_areShares 371 = .ok (.iload 15, 2) := by decide +kernel
theorem dL_areShares_373 : decode cL_areShares 373 = .ok (.iaload, 1) := by decide +kernel
theorem dL_areShares_374 : decode cL_areShares 374 = .ok (.if_icmp .eq 5, 3) := by decide +kernel
theorem dL_areShares_377 : decode cL_areShares 377 = .ok (.iconst 0, 1) := by decide +kernel
theorem dL_areShares_378 : decode cL_areShares 378 = .ok (.ireturn, 1) := by decide +kernel
theorem dL_areShares_379 : decode cL_areShares 379 = .ok (.iinc 15 1, 3) := by decide +kernel
theorem dL_areShares_382 : decode cL_areShares 382 = .ok (.goto (-27), 3) := by decide +kernel
theorem dL_areShares_385 : decode cL_areShares 385 = .ok (.iconst 0, 1) := by decide +kernel
theorem dL_areShares_386 : decode cL_areShares 386 = .ok (.istore 15, 2) := by decide +kernel
theorem dL_areShares_388 : decode cL_areShares 388 = .ok (.iload 15, 2) := by decide +kernel
theorem dL_areShares_390 : decode cL_areShares 390 = .ok (.iload_n 1, 1) := by decide +kernel
theorem dL_areShares_391 : decode cL_areShares 391 = .ok (.if_icmp .ge 102, 3) := by decide +kernel
theorem dL_areShares_394 : decode cL_areShares 394 = .ok (.iload 4, 2) := by decide +kernel
theorem dL_areShares_396 : decode cL_areShares 396 = .ok (.iload 15, 2) := by decide +kernel
theorem dL_areShares_398 : decode cL_areShares 398 = .ok (.invokestatic 14, 3) := by decide +kernel
theorem dL_areShares_401 : decode cL_areShares 401 = .ok (.istore 16, 2) := by decide +kernel
theorem dL_areShares_403 : decode cL_areShares 403 = .ok (.aload_n 0, 1) := by decide +kernel
theorem dL_areShares_404 : decode cL_areShares 404 = .ok (.iload 15, 2) := by decide +kernel
theorem dL_areShares_406 : decode cL_areShares 406 = .ok (.iconst 3, 1) := by decide +kernel
theorem dL_areShares_407 : decode cL_areShares 407 = .ok (.invokevirtual 20, 3) := by decide +kernel
theorem dL_areShares_410 : decode cL_areShares 410 = .ok (.iload 16, 2) := by decide +kernel
theorem dL_areShares_412 : decode cL_areShares 412 = .ok (.ifCond .eq 19, 3) := by decide +kernel
theorem dL_areShares_415 : decode cL_areShares 415 = .ok (.aload_n 0, 1) := by decide +kernel
theorem dL_areShares_416 : decode cL_areShares 416 = .ok (.iload 15, 2) := by decide +kernel
theorem dL_areShares_418 : decode cL_areShares 418 = .ok (.iconst 1, 1) := by decide +kernel
theorem dL_areShares_419 : decode cL_areShares 419 = .ok (.invokevirtual 20, 3) := by decide +kernel
theorem dL_areShares_422 : decode cL_areShares 422 = .ok (.aload 7, 2) := by decide +kernel
theorem dL_areShares_424 : decode cL_areShares 424 = .ok (.iload 15, 2) := by decide +kernel
theorem dL_areShares_426 : decode cL_areShares 426 = .ok (.iaload, 1) := by decide +kernel
theorem dL_areShares_427 : decode cL_areShares 427 = .ok (.isub, 1) := by decide +kernel
theorem dL_areShares_428 : decode cL_areShares 428 = .ok (.goto 4, 3) := by decide +kernel
theorem dL_areShares_431 : decode cL_areShares 431 = .ok (.iconst 0, 1) := by decide +kernel
theorem dL_areShares_432 : decode cL_areShares 432 = .ok (.if_icmp .ne 53, 3) := by decide +kernel
theorem dL_areShares_435 : decode cL_areShares 435 = .ok (.aload_n 0, 1) := by decide +kernel
theorem dL_areShares_436 : decode cL_areShares 436 = .ok (.iload 15, 2) := by decide +kernel
theorem dL_areShares_438 : decode cL_areShares 438 = .ok (.iconst 4, 1) := by decide +kernel
theorem dL_areShares_439 : decode cL_areShares 439 = .ok (.invokevirtual 20, 3) := by decide +kernel
theorem dL_areShares_442 : decode cL_areShares 442 = .ok (.iload 9, 2) := by decide +kernel
theorem dL_areShares_444 : decode cL_areShares 444 = .ok (.iload 15, 2) := by decide +kernel
theorem dL_areShares_446 : decode cL_areShares 446 = .ok (.ishr, 1) := by decide +kernel
theorem dL_areShares_447 : decode cL_areShares 447 = .ok (.iconst 1, 1) := by decide +kernel
theorem dL_areShares_448 : decode cL_areShares 448 = .ok (.iand, 1) := by decide +kernel
theorem dL_areShares_449 : decode cL_areShares 449 = .ok (.if_icmp .ne 36, 3) := by decide +kernel
theorem dL_areShares_452 : decode cL_areShares 452 = .ok (.aload_n 0, 1) := by decide +kernel
theorem dL_areShares_453 : decode cL_areShares 453 = .ok (.iload 15, 2) := by decide +kernel
theorem dL_areShares_455 : decode cL_areShares 455 = .ok (.iconst 5, 1) := by decide +kernel
theorem dL_areShares_456 : decode cL_areShares 456 = .ok (.invokevirtual 20, 3) := by decide +kernel
theorem dL_areShares_459 : decode cL_areShares 459 = .ok (.aload 8, 2) := by decide +kernel
theorem dL_areShares_461 : decode cL_areShares 461 = .ok (.iload 15, 2) := by decide +kernel
theorem dL_areShares_463 : decode cL_areShares 463 = .ok (.iaload, 1) := by decide +kernel
theorem dL_areShares_464 : decode cL_areShares 464 = .ok (.if_icmp .ne 21, 3) := by decide +kernel
theorem dL_areShares_467 : decode cL_areShares 467 = .ok (.aload_n 0, 1) := by decide +kernel
theorem dL_areShares_468 : decode cL_areShares 468 = .ok (.iload 15, 2) := by decide +kernel
theorem dL_areShares_470 : decode cL_areShares 470 = .ok (.bipush 6, 2) := by decide +kernel
theorem dL_areShares_472 : decode cL_areShares 472 = .ok (.invokevirtual 20, 3) := by decide +kernel
theorem dL_areShares_475 : decode cL_areShares 475 = .ok (.iload 14, 2) := by decide +kernel
theorem dL_areShares_477 : decode cL_areShares 477 = .ok (.iload 15, 2) := by decide +kernel
theorem dL_areShares_479 : decode cL_areShares 479 = .ok (.ishr, 1) := by decide +kernel
theorem dL_areShares_480 : decode cL_areShares 480 = .ok (.iconst 1, 1) := by decide +kernel
theorem dL_areShares_481 : decode cL_areShares 481 = .ok (.iand, 1) := by decide +kernel
theorem dL_areShares_482 : decode cL_areShares 482 = .ok (.if_icmp .eq 5, 3) := by decide +kernel
theorem dL_areShares_485 : decode cL_areShares 485 = .ok (.iconst 0, 1) := by decide +kernel
theorem dL_areShares_486 : decode cL_areShares 486 = .ok (.ireturn, 1) := by decide +kernel
theorem dL_areShares_487 : decode cL_areShares 487 = .ok (.iinc 15 1, 3) := by decide +kernel
theorem dL_areShares_490 : decode cL_areShares 490 = .ok (.goto (-102), 3) := by decide +kernel
theorem dL_areShares_493 : decode cL_areShares 493 = .ok (.iload_n 3, 1) := by decide +kernel
theorem dL_areShares_494 : decode cL_areShares 494 = .ok (.iload 9, 2) := by decide +kernel
theorem dL_areShares_496 : decode cL_areShares 496 = .ok (.iload 14, 2) := by decide +kernel
theorem dL_areShares_498 : decode cL_areShares 498 = .ok (.iconst (-1), 1) := by decide +kernel
theorem dL_areShares_499 : decode cL_areShares 499 = .ok (.ixor, 1) := by decide +kernel
theorem dL_areShares_500 : decode cL_areShares 500 = .ok (.iand, 1) := by decide +kernel
theorem dL_areShares_501 : decode cL_areShares 501 = .ok (.ior, 1) := by decide +kernel
theorem dL_areShares_502 : decode cL_areShares 502 = .ok (.istore 15, 2) := by decide +kernel
theorem dL_areShares_504 : decode cL_areShares 504 = .ok (.aload_n 0, 1) := by decide +kernel
theorem dL_areShares_505 : decode cL_areShares 505 = .ok (.iconst 0, 1) := by decide +kernel
theorem dL_areShares_506 : decode cL_areShares 506 = .ok (.invokevirtual 34, 3) := by decide +kernel
theorem dL_areShares_509 : decode cL_areShares 509 = .ok (.iload 15, 2) := by decide +kernel
theorem dL_areShares_511 : decode cL_areShares 511 = .ok (.if_icmp .ne 70, 3) := by decide +kernel
theorem dL_areShares_514 : decode cL_areShares 514 = .ok (.aload_n 0, 1) := by decide +kernel
theorem dL_areShares_515 : decode cL_areShares 515 = .ok (.iconst 1, 1) := by decide +kernel
theorem dL_areShares_516 : decode cL_areShares 516 = .ok (.invokevirtual 34, 3) := by decide +kernel
theorem dL_areShares_519 : decode cL_areShares 519 = .ok (.aload_n 0, 1) := by decide +kernel
theorem dL_areShares_520 : decode cL_areShares 520 = .ok (.iload 15, 2) := by decide +kernel
theorem dL_areShares_522 : decode cL_areShares 522 = .ok (.invokestatic 37, 3) := by decide +kernel
theorem dL_areShares_525 : decode cL_areShares 525 = .ok (.if_icmp .ne 56, 3) := by decide +kernel
theorem dL_areShares_528 : decode cL_areShares 528 = .ok (.aload_n 0, 1) := by decide +kernel
theorem dL_areShares_529 : decode cL_areShares 529 = .ok (.iconst 2, 1) := by decide +kernel
theorem dL_areShares_530 : decode cL_areShares 530 = .ok (.invokevirtual 34, 3) := by decide +kernel
theorem dL_areShares_533 : decode cL_areShares 533 = .ok (.iload 12, 2) := by decide +kernel
theorem dL_areShares_535 : decode cL_areShares 535 = .ok (.aload_n 0, 1) := by decide +kernel
theorem dL_areShares_536 : decode cL_areShares 536 = .ok (.iload_n 3, 1) := by decide +kernel
theorem dL_areShares_537 : decode cL_areShares 537 = .ok (.invokestatic 37, 3) := by decide +kernel
theorem dL_areShares_540 : decode cL_areShares 540 = .ok (.iadd, 1) := by decide +kernel
theorem dL_areShares_541 : decode cL_areShares 541 = .ok (.if_icmp .ne 40, 3) := by decide +kernel
theorem dL_areShares_544 : decode cL_areShares 544 = .ok (.aload_n 0, 1) := by decide +kernel
theorem dL_areShares_545 : decode cL_areShares 545 = .ok (.iconst 3, 1) := by decide +kernel
theorem dL_areShares_546 : decode cL_areShares 546 = .ok (.invokevirtual 34, 3) := by decide +kernel
theorem dL_areShares_549 : decode cL_areShares 549 = .ok (.iload 11, 2) := by decide +kernel
theorem dL_areShares_551 : decode cL_areShares 551 = .ok (.if_icmp .ne 30, 3) := by decide +kernel
theorem dL_areShares_554 : decode cL_areShares 554 = .ok (.aload_n 0, 1) := by decide +kernel
theorem dL_areShares_555 : decode cL_areShares 555 = .ok (.iconst 4, 1) := by decide +kernel
theorem dL_areShares_556 : decode cL_areShares 556 = .ok (.invokevirtual 34, 3) := by decide +kernel
theorem dL_areShares_559 : decode cL_areShares 559 = .ok (.iload 10, 2) := by decide +kernel
theorem dL_areShares_561 : decode cL_areShares 561 = .ok (.if_icmp .ne 20, 3) := by decide +kernel
theorem dL_areShares_564 : decode cL_areShares 564 = .ok (.aload_n 0, 1) := by decide +kernel
theorem dL_areShares_565 : decode cL_areShares 565 = .ok (.iconst 5, 1) := by decide +kernel
theorem dL_areShares_566 : decode cL_areShares 566 = .ok (.invokevirtual 34, 3) := by decide +kernel
theorem dL_areShares_569 : decode cL_areShares 569 = .ok (.iload 14, 2) := by decide +kernel
theorem dL_areShares_571 : decode cL_areShares 571 = .ok (.invokestatic 40, 3) := by decide +kernel
theorem dL_areShares_574 : decode cL_areShares 574 = .ok (.if_icmp .ne 7, 3) := by decide +kernel
theorem dL_areShares_577 : decode cL_areShares 577 = .ok (.iconst 1, 1) := by decide +kernel
theorem dL_areShares_578 : decode cL_areShares 578 = .ok (.goto 4, 3) := by decide +kernel
theorem dL_areShares_581 : decode cL_areShares 581 = .ok (.iconst 0, 1) := by decide +kernel
theorem dL_areShares_582 : decode cL_areShares 582 = .ok (.istore 16, 2) := by decide +kernel
theorem dL_areShares_584 : decode cL_areShares 584 = .ok (.aload_n 0, 1) := by decide +kernel
theorem dL_areShares_585 : decode cL_areShares 585 = .ok (.iconst 3, 1) := by decide +kernel
theorem dL_areShares_586 : decode cL_areShares 586 = .ok (.invokevirtual 8, 3) := by decide +kernel
theorem dL_areShares_589 : decode cL_areShares 589 = .ok (.iconst 1, 1) := by decide +kernel
theorem dL_areShares_590 : decode cL_areShares 590 = .ok (.if_icmp .le 11, 3) := by decide +kernel
theorem dL_areShares_593 : decode cL_areShares 593 = .ok (.aload_n 0, 1) := by decide +kernel
theorem dL_areShares_594 : decode cL_areShares 594 = .ok (.iconst 3, 1) := by decide +kernel
theorem dL_areShares_595 : decode cL_areShares 595 = .ok (.invokevirtual 8, 3) := by decide +kernel
theorem dL_areShares_598 : decode cL_areShares 598 = .ok (.goto 4, 3) := by decide +kernel
theorem dL_areShares_601 : decode cL_areShares 601 = .ok (.iconst 1, 1) := by decide +kernel
theorem dL_areShares_602 : decode cL_areShares 602 = .ok (.istore 17, 2) := by decide +kernel
theorem dL_areShares_604 : decode cL_areShares 604 = .ok (.iload 16, 2) := by decide +kernel
theorem dL_areShares_606 : decode cL_areShares 606 = .ok (.ifCond .eq 79, 3) := by decide +kernel
theorem dL_areShares_609 : decode cL_areShares 609 = .ok (.aload_n 0, 1) := by decide +kernel
theorem dL_areShares_610 : decode cL_areShares 610 = .ok (.iload 15, 2) := by decide +kernel
theorem dL_areShares_612 : decode cL_areShares 612 = .ok (.invokevirtual 43, 3) := by decide +kernel
theorem dL_areShares_615 : decode cL_areShares 615 = .ok (.aload_n 0, 1) := by decide +kernel
theorem dL_areShares_616 : decode cL_areShares 616 = .ok (.iconst 1, 1) := by decide +kernel
theorem dL_areShares_617 : decode cL_areShares 617 = .ok (.invokevirtual 34, 3) := by decide +kernel
theorem dL_areShares_620 : decode cL_areShares 620 = .ok (.if_icmp .ne 65, 3) := by decide +kernel
theorem dL_areShares_623 : decode cL_areShares 623 = .ok (.aload_n 0, 1) := by decide +kernel
theorem dL_areShares_624 : decode cL_areShares 624 = .ok (.iconst 2, 1) := by decide +kernel
theorem dL_areShares_625 : decode cL_areShares 625 = .ok (.invokevirtual 34, 3) := by decide +kernel
theorem dL_areShares_628 : decode cL_areShares 628 = .ok (.aload_n 0, 1) := by decide +kernel
theorem dL_areShares_629 : decode cL_areShares 629 = .ok (.iconst 1, 1) := by decide +kernel
theorem dL_areShares_630 : decode cL_areShares 630 = .ok (.invokevirtual 46, 3) := by decide +kernel
theorem dL_areShares_633 : decode cL_areShares 633 = .ok (.if_icmp .gt 52, 3) := by decide +kernel
theorem dL_areShares_636 : decode cL_areShares 636 = .ok (.aload_n 0, 1) := by decide +kernel
theorem dL_areShares_637 : decode cL_areShares 637 = .ok (.iconst 1, 1) := by decide +kernel
theorem dL_areShares_638 : decode cL_areShares 638 = .ok (.invokevirtual 46, 3) := by decide +kernel
theorem dL_areShares_641 : decode cL_areShares 641 = .ok (.aload_n 0, 1) := by decide +kernel
theorem dL_areShares_642 : decode cL_areShares 642 = .ok (.iconst 1, 1) := by decide +kernel
theorem dL_areShares_643 : decode cL_areShares 643 = .ok (.invokevirtual 34, 3) := by decide +kernel
theorem dL_areShares_646 : decode cL_areShares 646 = .ok (.if_icmp .gt 39, 3) := by decide +kernel
theorem dL_areShares_649 : decode cL_areShares 649 = .ok (.aload_n 0, 1) := by decide +kernel
theorem dL_areShares_650 : decode cL_areShares 650 = .ok (.iconst 1, 1) := by decide +kernel
theorem dL_areShares_651 : decode cL_areShares 651 = .ok (.invokevirtual 46, 3) := by decide +kernel
theorem dL_areShares_654 : decode cL_areShares 654 = .ok (.aload_n 0, 1) := by decide +kernel
theorem dL_areShares_655 : decode cL_areShares 655 = .ok (.iconst 1, 1) := by decide +kernel
theorem dL_areShares_656 : decode cL_areShares 656 = .ok (.invokevirtual 49, 3) := by decide +kernel
theorem dL_areShares_659 : decode cL_areShares 659 = .ok (.if_icmp .gt 26, 3) := by decide +kernel
theorem dL_areShares_662 : decode cL_areShares 662 = .ok (.aload_n 0, 1) := by decide +kernel
theorem dL_areShares_663 : decode cL_areShares 663 = .ok (.iconst 1, 1) := by decide +kernel
theorem dL_areShares_664 : decode cL_areShares 664 = .ok (.invokevirtual 34, 3) := by decide +kernel
theorem dL_areShares_667 : decode cL_areShares 667 = .ok (.aload_n 0, 1) := by decide +kernel
theorem dL_areShares_668 : decode cL_areShares 668 = .ok (.iload_n 3, 1) := by decide +kernel
theorem dL_areShares_669 : decode cL_areShares 669 = .ok (.invokestatic 37, 3) := by decide +kernel
theorem dL_areShares_672 : decode cL_areShares 672 = .ok (.isub, 1) := by decide +kernel
theorem dL_areShares_673 : decode cL_areShares 673 = .ok (.iload 17, 2) := by decide +kernel
theorem dL_areShares_675 : decode cL_areShares 675 = .ok (.iload 12, 2) := by decide +kernel
theorem dL_areShares_677 : decode cL_areShares 677 = .ok (.imul, 1) := by decide +kernel
theorem dL_areShares_678 : decode cL_areShares 678 = .ok (.if_icmp .gt 7, 3) := by decide +kernel
theorem dL_areShares_681 : decode cL_areShares 681 = .ok (.iconst 1, 1) := by decide +kernel
theorem dL_areShares_682 : decode cL_areShares 682 = .ok (.goto 4, 3) := by decide +kernel
theorem dL_areShares_685 : decode cL_areShares 685 = .ok (.iconst 0, 1) := by decide +kernel
theorem dL_areShares_686 : decode cL_areShares 686 = .ok (.ireturn, 1) := by decide +kernel
theorem dL_isGreedy_0 : decode cL_isGreedy 0 = .ok (.aload_n 0, 1) := by decide +kernel
theorem dL_isGreedy_1 : decode cL_isGreedy 1 = .ok (.iconst 0, 1) := by decide +kernel
theorem dL_isGreedy_2 : decode cL_isGreedy 2 = .ok (.invokevirtual 8, 3) := by decide +kernel
theorem dL_isGreedy_5 : decode cL_isGreedy 5 = .ok (.istore_n 1, 1) := by decide +kernel
theorem dL_isGreedy_6 : decode cL_isGreedy 6 = .ok (.aload_n 0, 1) := by decide +kernel
theorem dL_isGreedy_7 : decode cL_isGreedy 7 = .ok (.iconst 0, 1) := by decide +kernel
theorem dL_isGreedy_8 : decode cL_isGreedy 8 = .ok (.invokestatic 24, 3) := by decide +kernel
theorem dL_isGreedy_11 : decode cL_isGreedy 11 = .ok (.istore_n 2, 1) := by decide +kernel
theorem dL_isGreedy_12 : decode cL_isGreedy 12 = .ok (.aload_n 0, 1) := by decide +kernel
theorem dL_isGreedy_13 : decode cL_isGreedy 13 = .ok (.iconst 1, 1) := by decide +kernel
theorem dL_isGreedy_14 : decode cL_isGreedy 14 = .ok (.invokestatic 24, 3) := by decide +kernel
theorem dL_isGreedy_17 : decode cL_isGreedy 17 = .ok (.istore_n 3, 1) := by decide +kernel
theorem dL_isGreedy_18 : decode cL_isGreedy 18 = .ok (.bipush (-6), 2) := by decide +kernel
theorem dL_isGreedy_20 : decode cL_isGreedy 20 = .ok (.istore 4, 2) := by decide +kernel
theorem dL_isGreedy_22 : decode cL_isGreedy 22 = .ok (.aload_n 0, 1) := by decide +kernel
theorem dL_isGreedy_23 : decode cL_isGreedy 23 = .ok (.iconst 1, 1) := by decide +kernel
theorem dL_isGreedy_24 : decode cL_isGreedy 24 = .ok (.invokevirtual 8, 3) := by decide +kernel
theorem dL_isGreedy_27 : decode cL_isGreedy 27 = .ok (.aload_n 0, 1) := by decide +kernel
theorem dL_isGreedy_28 : decode cL_isGreedy 28 = .ok (.iload_n 3, 1) := by decide +kernel
theorem dL_isGreedy_29 : decode cL_isGreedy 29 = .ok (.invokestatic 28, 3) := by decide +kernel
theorem dL_isGreedy_32 : decode cL_isGreedy 32 = .ok (.iconst (-1), 1) := by decide +kernel
theorem dL_isGreedy_33 : decode cL_isGreedy 33 = .ok (.ixor, 1) := by decide +kernel
theorem dL_isGreedy_34 : decode cL_isGreedy 34 = .ok (.iand, 1) := by decide +kernel
theorem dL_isGreedy_35 : decode cL_isGreedy 35 = .ok (.istore 5, 2) := by decide +kernel
theorem dL_isGreedy_37 : decode cL_isGreedy 37 = .ok (.iload 5, 2) := by decide +kernel
theorem dL_isGreedy_39 : decode cL_isGreedy 39 = .ok (.ifCond .eq 146, 3) := by decide +kernel
theorem dL_isGreedy_42 : decode cL_isGreedy 42 = .ok (.iconst (-1), 1) := by decide +kernel
theorem dL_isGreedy_43 : decode cL_isGreedy 43 = .ok (.istore 6, 2) := by decide +kernel
theorem dL_isGreedy_45 : decode cL_isGreedy 45 = .ok (.iconst 0, 1) := by decide +kernel
theorem dL_isGreedy_46 : decode cL_isGreedy 46 = .ok (.istore 7, 2) := by decide +kernel
theorem dL_isGreedy_48 : decode cL_isGreedy 48 = .ok (.iload 7, 2) := by decide +kernel
theorem dL_isGreedy_50 : decode cL_isGreedy 50 = .ok (.iload_n 1, 1) := by decide +kernel
theorem dL_isGreedy_51 : decode cL_isGreedy 51 = .ok (.if_icmp .ge 99, 3) := by decide +kernel
theorem dL_isGreedy_54 : decode cL_isGreedy 54 = .ok (.aload_n 0, 1) := by decide +kernel
theorem dL_isGreedy_55 : decode cL_isGreedy 55 = .ok (.iload 7, 2) := by decide +kernel
theorem dL_isGreedy_57 : decode cL_isGreedy 57 = .ok (.iconst 0, 1) := by decide +kernel
theorem dL_isGreedy_58 : decode cL_isGreedy 58 = .ok (.invokevirtual 20, 3) := by decide +kernel
theorem dL_isGreedy_61 : decode cL_isGreedy 61 = .ok (.iload 5, 2) := by decide +kernel
theorem dL_isGreedy_63 : decode cL_isGreedy 63 = .ok (.iand, 1) := by decide +kernel
theorem dL_isGreedy_64 : decode cL_isGreedy 64 = .ok (.invokestatic 40, 3) := by decide +kernel
theorem dL_isGreedy_67 : decode cL_isGreedy 67 = .ok (.istore 8, 2) := by decide +kernel
theorem dL_isGreedy_69 : decode cL_isGreedy 69 = .ok (.iload_n 2, 1) := by decide +kernel
theorem dL_isGreedy_70 : decode cL_isGreedy 70 = .ok (.iload 7, 2) := by decide +kernel
theorem dL_isGreedy_72 : decode cL_isGreedy 72 = .ok (.invokestatic 14, 3) := by decide +kernel
theorem dL_isGreedy_75 : decode cL_isGreedy 75 = .ok (.ifCond .eq 69, 3) := by decide +kernel
theorem dL_isGreedy_78 : decode cL_isGreedy 78 = .ok (.iload 8, 2) := by decide +kernel
theorem dL_isGreedy_80 : decode cL_isGreedy 80 = .ok (.ifCond .le 64, 3) := by decide +kernel
theorem dL_isGreedy_83 : decode cL_isGreedy 83 = .ok (.iload 6, 2) := by decide +kernel
theorem dL_isGreedy_85 : decode cL_isGreedy 85 = .ok (.ifCond .ge 7, 3) := by decide +kernel
theorem dL_isGreedy_88 : decode cL_isGreedy 88 = .ok (.iconst 0, 1) := by decide +kernel
theorem dL_isGreedy_89 : decode cL_isGreedy 89 = .ok (.goto 16, 3) := by decide +kernel
theorem dL_isGreedy_92 : decode cL_isGreedy 92 = .ok (.aload_n 0, 1) := by decide +kernel
theorem dL_isGreedy_93 : decode cL_isGreedy 93 = .ok (.iload 6, 2) := by decide +kernel
theorem dL_isGreedy_95 : decode cL_isGreedy 95 = .ok (.iconst 0, 1) := by decide +kernel
theorem dL_isGreedy_96 : decode cL_isGreedy 96 = .ok (.invokevirtual 20, 3) := by decide +kernel
theorem dL_isGreedy_99 : decode cL_isGreedy 99 = .ok (.iload 5, 2) := by decide +kernel
theorem dL_isGreedy_101 : decode cL_isGreedy 101 = .ok (.iand, 1) := by decide +kernel
theorem dL_isGreedy_102 : decode cL_isGreedy 102 = .ok (.invokestatic 40, 3) := by decide +kernel
theorem dL_isGreedy_105 : decode cL_isGreedy 105 = .ok (.istore 9, 2) := by decide +kernel
theorem dL_isGreedy_107 : decode cL_isGreedy 107 = .ok (.iload 6, 2) := by decide +kernel
theorem dL_isGreedy_109 : decode cL_isGreedy 109 = .ok (.ifCond .lt 26, 3) := by decide +kernel
theorem dL_isGreedy_112 : decode cL_isGreedy 112 = .ok (.aload_n 0, 1) := by decide +kernel
theorem dL_isGreedy_113 : decode cL_isGreedy 113 = .ok (.iload 7, 2) := by decide +kernel
theorem dL_isGreedy_115 : decode cL_isGreedy 115 = .ok (.iconst 1, 1) := by decide +kernel
theorem dL_isGreedy_116 : decode cL_isGreedy 116 = .ok (.invokevirtual 20, 3) := by decide +kernel
theorem dL_isGreedy_119 : decode cL_isGreedy 119 = .ok (.iload 9, 2) := by decide +kernel
theorem dL_isGreedy_121 : decode cL_isGreedy 121 = .ok (.imul, 1) := by decide +kernel
theorem dL_isGreedy_122 : decode cL_isGreedy 122 = .ok (.aload_n 0, 1) := by decide +kernel
theorem dL_isGreedy_123 : decode cL_isGreedy 123 = .ok (.iload 6, 2) := by decide +kernel
theorem dL_isGreedy_125 : decode cL_isGreedy 125 = .ok (.iconst 1, 1) := by decide +kernel
theorem dL_isGreedy_126 : decode cL_isGreedy 126 = .ok (.invokevirtual 20, 3) := by decide +kernel
theorem dL_isGreedy_129 : decode cL_isGreedy 129 = .ok (.iload 8, 2) := by decide +kernel
theorem dL_isGreedy_131 : decode cL_isGreedy 131 = .ok (.imul, 1) := by decide +kernel
theorem dL_isGreedy_132 : decode cL_isGreedy 132 = .ok (.if_icmp .ge 8, 3) := by decide +kernel
theorem dL_isGreedy_135 : decode cL_isGreedy 135 = .ok (.iload 7, 2) := by decide +kernel
theorem dL_isGreedy_137 : decode cL_isGreedy 137 = .ok (.goto 5, 3) := by decide +kernel
theorem dL_isGreedy_140 : decode cL_isGreedy 140 = .ok (.iload 6, 2) := by decide +kernel
theorem dL_isGreedy_142 : decode cL_isGreedy 142 = .ok (.istore 6, 2) := by decide +kernel
theorem dL_isGreedy_144 : decode cL_isGreedy 144 = .ok (.iinc 7 1, 3) := by decide +kernel
theorem dL_isGreedy_147 : decode cL_isGreedy 147 = .ok (.goto (-99), 3) := by decide +kernel
theorem dL_isGreedy_150 : decode cL_isGreedy 150 = .ok (.iload 6, 2) := by decide +kernel
theorem dL_isGreedy_152 : decode cL_isGreedy 152 = .ok (.ifCond .ge 5, 3) := by decide +kernel
theorem dL_isGreedy_155 : decode cL_isGreedy 155 = .ok (.iconst 0, 1) := by decide +kernel
theorem dL_isGreedy_156 : decode cL_isGreedy 156 = .ok (.ireturn, 1) := by decide +kernel
theorem dL_isGreedy_157 : decode cL_isGreedy 157 = .ok (.iload_n 3, 1) := by decide +kernel
theorem dL_isGreedy_158 : decode cL_isGreedy 158 = .ok (.iconst 1, 1) := by decide +kernel
theorem dL_isGreedy_159 : decode cL_isGreedy 159 = .ok (.iload 6, 2) := by decide +kernel
theorem dL_isGreedy_161 : decode cL_isGreedy 161 = .ok (.ishl, 1) := by decide +kernel
theorem dL_isGreedy_162 : decode cL_isGreedy 162 = .ok (.ior, 1) := by decide +kernel
theorem dL_isGreedy_163 : decode cL_isGreedy 163 = .ok (.istore_n 3, 1) := by decide +kernel
theorem dL_isGreedy_164 : decode cL_isGreedy 164 = .ok (.iload 6, 2) := by decide +kernel
theorem dL_isGreedy_166 : decode cL_isGreedy 166 = .ok (.istore 4, 2) := by decide +kernel
theorem dL_isGreedy_168 : decode cL_isGreedy 168 = .ok (.iload 5, 2) := by decide +kernel
theorem dL_isGreedy_170 : decode cL_isGreedy 170 = .ok (.aload_n 0, 1) := by decide +kernel
theorem dL_isGreedy_171 : decode cL_isGreedy 171 = .ok (.iload 6, 2) := by decide +kernel
theorem dL_isGreedy_173 : decode cL_isGreedy 173 = .ok (.iconst 0, 1) := by decide +kernel
theorem dL_isGreedy_174 : decode cL_isGreedy 174 = .ok (.invokevirtual 20, 3) := by decide +kernel
theorem dL_isGreedy_177 : decode cL_isGreedy 177 = .ok (.iconst (-1), 1) := by decide +kernel
theorem dL_isGreedy_178 : decode cL_isGreedy 178 = .ok (.ixor, 1) := by decide +kernel
theorem dL_isGreedy_179 : decode cL_isGreedy 179 = .ok (.iand, 1) := by decide +kernel
theorem dL_isGreedy_180 : decode cL_isGreedy 180 = .ok (.istore 5, 2) := by decide +kernel
theorem dL_isGreedy_182 : decode cL_isGreedy 182 = .ok (.goto (-145), 3) := by decide +kernel
theorem dL_isGreedy_185 : decode cL_isGreedy 185 = .ok (.aload_n 0, 1) := by decide +kernel
theorem dL_isGreedy_186 : decode cL_isGreedy 186 = .ok (.iconst 0, 1) := by decide +kernel
theorem dL_isGreedy_187 : decode cL_isGreedy 187 = .ok (.invokevirtual 49, 3) := by decide +kernel
theorem dL_isGreedy_190 : decode cL_isGreedy 190 = .ok (.iload_n 3, 1) := by decide +kernel
theorem dL_isGreedy_191 : decode cL_isGreedy 191 = .ok (.if_icmp .ne 43, 3) := by decide +kernel
theorem dL_isGreedy_194 : decode cL_isGreedy 194 = .ok (.aload_n 0, 1) := by decide +kernel
theorem dL_isGreedy_195 : decode cL_isGreedy 195 = .ok (.iconst 1, 1) := by decide +kernel
theorem dL_isGreedy_196 : decode cL_isGreedy 196 = .ok (.invokevirtual 49, 3) := by decide +kernel
theorem dL_isGreedy_199 : decode cL_isGreedy 199 = .ok (.aload_n 0, 1) := by decide +kernel
theorem dL_isGreedy_200 : decode cL_isGreedy 200 = .ok (.iload_n 3, 1) := by decide +kernel
theorem dL_isGreedy_201 : decode cL_isGreedy 201 = .ok (.invokestatic 37, 3) := by decide +kernel
theorem dL_isGreedy_204 : decode cL_isGreedy 204 = .ok (.if_icmp .ne 30, 3) := by decide +kernel
theorem dL_isGreedy_207 : decode cL_isGreedy 207 = .ok (.aload_n 0, 1) := by decide +kernel
theorem dL_isGreedy_208 : decode cL_isGreedy 208 = .ok (.iconst 2, 1) := by decide +kernel
theorem dL_isGreedy_209 : decode cL_isGreedy 209 = .ok (.invokevirtual 49, 3) := by decide +kernel
theorem dL_isGreedy_212 : decode cL_isGreedy 212 = .ok (.iload 4, 2) := by decide +kernel
theorem dL_isGreedy_214 : decode cL_isGreedy 214 = .ok (.if_icmp .ne 20, 3) := by decide +kernel
theorem dL_isGreedy_217 : decode cL_isGreedy 217 = .ok (.aload_n 0, 1) := by decide +kernel
theorem dL_isGreedy_218 : decode cL_isGreedy 218 = .ok (.iload_n 3, 1) := by decide +kernel
theorem dL_isGreedy_219 : decode cL_isGreedy 219 = .ok (.invokevirtual 43, 3) := by decide +kernel
theorem dL_isGreedy_222 : decode cL_isGreedy 222 = .ok (.aload_n 0, 1) := by decide +kernel
theorem dL_isGreedy_223 : decode cL_isGreedy 223 = .ok (.iload_n 3, 1) := by decide +kernel
theorem dL_isGreedy_224 : decode cL_isGreedy 224 = .ok (.invokestatic 37, 3) := by decide +kernel
theorem dL_isGreedy_227 : decode cL_isGreedy 227 = .ok (.if_icmp .ne 7, 3) := by decide +kernel
theorem dL_isGreedy_230 : decode cL_isGreedy 230 = .ok (.iconst 1, 1) := by decide +kernel
theorem dL_isGreedy_231 : decode cL_isGreedy 231 = .ok (.goto 4, 3) := by decide +kernel
theorem dL_isGreedy_234 : decode cL_isGreedy 234 = .ok (.iconst 0, 1) := by decide +kernel
theorem dL_isGreedy_235 : decode cL_isGreedy 235 = .ok (.ireturn, 1) := by decide +kernel
theorem dL_agree_0 : decode cL_agree 0 = .ok (.aload_n 0, 1) := by decide +kernel
theorem dL_agree_1 : decode cL_agree 1 = .ok (.iconst 0, 1) := by decide +kernel
theorem dL_agree_2 : decode cL_agree 2 = .ok (.invokevirtual 8, 3) := by decide +kernel
theorem dL_agree_5 : decode cL_agree 5 = .ok (.istore_n 1, 1) := by decide +kernel
theorem dL_agree_6 : decode cL_agree 6 = .ok (.aload_n 0, 1) := by decide +kernel
theorem dL_agree_7 : decode cL_agree 7 = .ok (.iconst 2, 1) := by decide +kernel
theorem dL_agree_8 : decode cL_agree 8 = .ok (.invokestatic 24, 3) := by decide +kernel
theorem dL_agree_11 : decode cL_agree 11 = .ok (.istore_n 2, 1) := by decide +kernel
theorem dL_agree_12 : decode cL_agree 12 = .ok (.iconst 1, 1) := by decide +kernel
theorem dL_agree_13 : decode cL_agree 13 = .ok (.iload_n 1, 1) := by decide +kernel
theorem dL_agree_14 : decode cL_agree 14 = .ok (.ishl, 1) := by decide +kernel
theorem dL_agree_15 : decode cL_agree 15 = .ok (.iconst 1, 1) := by decide +kernel
theorem dL_agree_16 : decode cL_agree 16 = .ok (.isub, 1) := by decide +kernel
theorem dL_agree_17 : decode cL_agree 17 = .ok (.iload_n 2, 1) := by decide +kernel
theorem dL_agree_18 : decode cL_agree 18 = .ok (.iconst (-1), 1) := by decide +kernel
theorem dL_agree_19 : decode cL_agree 19 = .ok (.ixor, 1) := by decide +kernel
theorem dL_agree_20 : decode cL_agree 20 = .ok (.iand, 1) := by decide +kernel
theorem dL_agree_21 : decode cL_agree 21 = .ok (.istore_n 3, 1) := by decide +kernel
theorem dL_agree_22 : decode cL_agree 22 = .ok (.aload_n 0, 1) := by decide +kernel
theorem dL_agree_23 : decode cL_agree 23 = .ok (.iconst 1, 1) := by decide +kernel
theorem dL_agree_24 : decode cL_agree 24 = .ok (.invokevirtual 8, 3) := by decide +kernel
theorem dL_agree_27 : decode cL_agree 27 = .ok (.istore 4, 2) := by decide +kernel
theorem dL_agree_29 : decode cL_agree 29 = .ok (.iload 4, 2) := by decide +kernel
theorem dL_agree_31 : decode cL_agree 31 = .ok (.aload_n 0, 1) := by decide +kernel
theorem dL_agree_32 : decode cL_agree 32 = .ok (.iload_n 3, 1) := by decide +kernel
theorem dL_agree_33 : decode cL_agree 33 = .ok (.invokestatic 28, 3) := by decide +kernel
theorem dL_agree_36 : decode cL_agree 36 = .ok (.iconst (-1), 1) := by decide +kernel
theorem dL_agree_37 : decode cL_agree 37 = .ok (.ixor, 1) := by decide +kernel
theorem dL_agree_38 : decode cL_agree 38 = .ok (.iand, 1) := by decide +kernel
theorem dL_agree_39 : decode cL_agree 39 = .ok (.ifCond .ne 7, 3) := by decide +kernel
theorem dL_agree_42 : decode cL_agree 42 = .ok (.iconst 1, 1) := by decide +kernel
theorem dL_agree_43 : decode cL_agree 43 = .ok (.goto 4, 3) := by decide +kernel
theorem dL_agree_46 : decode cL_agree 46 = .ok (.iconst 0, 1) := by decide +kernel
theorem dL_agree_47 : decode cL_agree 47 = .ok (.istore 5, 2) := by decide +kernel
theorem dL_agree_49 : decode cL_agree 49 = .ok (.iconst 0, 1) := by decide +kernel
theorem dL_agree_50 : decode cL_agree 50 = .ok (.istore 6, 2) := by decide +kernel
theorem dL_agree_52 : decode cL_agree 52 = .ok (.iconst 0, 1) := by decide +kernel
theorem dL_agree_53 : decode cL_agree 53 = .ok (.istore 7, 2) := by decide +kernel
theorem dL_agree_55 : decode cL_agree 55 = .ok (.iload 7, 2) := by decide +kernel
theorem dL_agree_57 : decode cL_agree 57 = .ok (.bipush 18, 2) := by decide +kernel
theorem dL_agree_59 : decode cL_agree 59 = .ok (.if_icmp .ge 127, 3) := by decide +kernel
theorem dL_agree_62 : decode cL_agree 62 = .ok (.iconst 0, 1) := by decide +kernel
theorem dL_agree_63 : decode cL_agree 63 = .ok (.istore 8, 2) := by decide +kernel
theorem dL_agree_65 : decode cL_agree 65 = .ok (.iconst 0, 1) := by decide +kernel
theorem dL_agree_66 : decode cL_agree 66 = .ok (.istore 9, 2) := by decide +kernel
theorem dL_agree_68 : decode cL_agree 68 = .ok (.iload 9, 2) := by decide +kernel
theorem dL_agree_70 : decode cL_agree 70 = .ok (.iload_n 1, 1) := by decide +kernel
theorem dL_agree_71 : decode cL_agree 71 = .ok (.if_icmp .ge 37, 3) := by decide +kernel
theorem dL_agree_74 : decode cL_agree 74 = .ok (.iload 8, 2) := by decide +kernel
theorem dL_agree_76 : decode cL_agree 76 = .ok (.aload_n 0, 1) := by decide +kernel
theorem dL_agree_77 : decode cL_agree 77 = .ok (.iload 9, 2) := by decide +kernel
theorem dL_agree_79 : decode cL_agree 79 = .ok (.iconst 0, 1) := by decide +kernel
theorem dL_agree_80 : decode cL_agree 80 = .ok (.invokevirtual 20, 3) := by decide +kernel
theorem dL_agree_83 : decode cL_agree 83 = .ok (.iload 7, 2) := by decide +kernel
theorem dL_agree_85 : decode cL_agree 85 = .ok (.invokestatic 14, 3) := by decide +kernel
theorem dL_agree_88 : decode cL_agree 88 = .ok (.ifCond .eq 10, 3) := by decide +kernel
theorem dL_agree_91 : decode cL_agree 91 = .ok (.iconst 1, 1) := by decide +kernel
theorem dL_agree_92 : decode cL_agree 92 = .ok (.iload 9, 2) := by decide +kernel
theorem dL_agree_94 : decode cL_agree 94 = .ok (.ishl, 1) := by decide +kernel
theorem dL_agree_95 : decode cL_agree 95 = .ok (.goto 4, 3) := by decide +kernel
theorem dL_agree_98 : decode cL_agree 98 = .ok (.iconst 0, 1) := by decide +kernel
theorem dL_agree_99 : decode cL_agree 99 = .ok (.ior, 1) := by decide +kernel
theorem dL_agree_100 : decode cL_agree 100 = .ok (.istore 8, 2) := by decide +kernel
theorem dL_agree_102 : decode cL_agree 102 = .ok (.iinc 9 1, 3) := by decide +kernel
theorem dL_agree_105 : decode cL_agree 105 = .ok (.goto (-37), 3) := by decide +kernel
theorem dL_agree_108 : decode cL_agree 108 = .ok (.iload 4, 2) := by decide +kernel
theorem dL_agree_110 : decode cL_agree 110 = .ok (.iload 7, 2) := by decide +kernel
theorem dL_agree_112 : decode cL_agree 112 = .ok (.invokestatic 14, 3) := by decide +kernel
theorem dL_agree_115 : decode cL_agree 115 = .ok (.ifCond .eq 15, 3) := by decide +kernel
theorem dL_agree_118 : decode cL_agree 118 = .ok (.iload 8, 2) := by decide +kernel
theorem dL_agree_120 : decode cL_agree 120 = .ok (.iload_n 2, 1) := by decide +kernel
theorem dL_agree_121 : decode cL_agree 121 = .ok (.iconst (-1), 1) := by decide +kernel
theorem dL_agree_122 : decode cL_agree 122 = .ok (.ixor, 1) := by decide +kernel
theorem dL_agree_123 : decode cL_agree 123 = .ok (.iand, 1) := by decide +kernel
theorem dL_agree_124 : decode cL_agree 124 = .ok (.invokestatic 40, 3) := by decide +kernel
theorem dL_agree_127 : decode cL_agree 127 = .ok (.goto 4, 3) := by decide +kernel
theorem dL_agree_130 : decode cL_agree 130 = .ok (.iconst 0, 1) := by decide +kernel
theorem dL_agree_131 : decode cL_agree 131 = .ok (.istore 9, 2) := by decide +kernel
theorem dL_agree_133 : decode cL_agree 133 = .ok (.iload 9, 2) := by decide +kernel
theorem dL_agree_135 : decode cL_agree 135 = .ok (.iload 6, 2) := by decide +kernel
theorem dL_agree_137 : decode cL_agree 137 = .ok (.if_icmp .le 8, 3) := by decide +kernel
theorem dL_agree_140 : decode cL_agree 140 = .ok (.iload 9, 2) := by decide +kernel
theorem dL_agree_142 : decode cL_agree 142 = .ok (.goto 5, 3) := by decide +kernel
theorem dL_agree_145 : decode cL_agree 145 = .ok (.iload 6, 2) := by decide +kernel
theorem dL_agree_147 : decode cL_agree 147 = .ok (.istore 6, 2) := by decide +kernel
theorem dL_agree_149 : decode cL_agree 149 = .ok (.aload_n 0, 1) := by decide +kernel
theorem dL_agree_150 : decode cL_agree 150 = .ok (.iload 7, 2) := by decide +kernel
theorem dL_agree_152 : decode cL_agree 152 = .ok (.iconst 0, 1) := by decide +kernel
theorem dL_agree_153 : decode cL_agree 153 = .ok (.invokevirtual 31, 3) := by decide +kernel
theorem dL_agree_156 : decode cL_agree 156 = .ok (.iload 4, 2) := by decide +kernel
theorem dL_agree_158 : decode cL_agree 158 = .ok (.iload 7, 2) := by decide +kernel
theorem dL_agree_160 : decode cL_agree 160 = .ok (.ishr, 1) := by decide +kernel
theorem dL_agree_161 : decode cL_agree 161 = .ok (.iconst 1, 1) := by decide +kernel
theorem dL_agree_162 : decode cL_agree 162 = .ok (.iand, 1) := by decide +kernel
theorem dL_agree_163 : decode cL_agree 163 = .ok (.if_icmp .ne 15, 3) := by decide +kernel
theorem dL_agree_166 : decode cL_agree 166 = .ok (.aload_n 0, 1) := by decide +kernel
theorem dL_agree_167 : decode cL_agree 167 = .ok (.iload 7, 2) := by decide +kernel
theorem dL_agree_169 : decode cL_agree 169 = .ok (.iconst 1, 1) := by decide +kernel
theorem dL_agree_170 : decode cL_agree 170 = .ok (.invokevirtual 31, 3) := by decide +kernel
theorem dL_agree_173 : decode cL_agree 173 = .ok (.iload 8, 2) := by decide +kernel
theorem dL_agree_175 : decode cL_agree 175 = .ok (.if_icmp .eq 5, 3) := by decide +kernel
theorem dL_agree_178 : decode cL_agree 178 = .ok (.iconst 0, 1) := by decide +kernel
theorem dL_agree_179 : decode cL_agree 179 = .ok (.ireturn, 1) := by decide +kernel
theorem dL_agree_180 : decode cL_agree 180 = .ok (.iinc 7 1, 3) := by decide +kernel
theorem dL_agree_183 : decode cL_agree 183 = .ok (.goto (-128), 3) := by decide +kernel
theorem dL_agree_186 : decode cL_agree 186 = .ok (.iconst 0, 1) := by decide +kernel
theorem dL_agree_187 : decode cL_agree 187 = .ok (.istore 7, 2) := by decide +kernel
theorem dL_agree_189 : decode cL_agree 189 = .ok (.iload 7, 2) := by decide +kernel
theorem dL_agree_191 : decode cL_agree 191 = .ok (.iload_n 1, 1) := by decide +kernel
theorem dL_agree_192 : decode cL_agree 192 = .ok (.if_icmp .ge 94, 3) := by decide +kernel
theorem dL_agree_195 : decode cL_agree 195 = .ok (.iload_n 2, 1) := by decide +kernel
theorem dL_agree_196 : decode cL_agree 196 = .ok (.iload 7, 2) := by decide +kernel
theorem dL_agree_198 : decode cL_agree 198 = .ok (.invokestatic 14, 3) := by decide +kernel
theorem dL_agree_201 : decode cL_agree 201 = .ok (.ifCond .eq 7, 3) := by decide +kernel
theorem dL_agree_204 : decode cL_agree 204 = .ok (.iconst 0, 1) := by decide +kernel
theorem dL_agree_205 : decode cL_agree 205 = .ok (.goto 28, 3) := by decide +kernel
theorem dL_agree_208 : decode cL_agree 208 = .ok (.iload 4, 2) := by decide +kernel
theorem dL_agree_210 : decode cL_agree 210 = .ok (.aload_n 0, 1) := by decide +kernel
theorem dL_agree_211 : decode cL_agree 211 = .ok (.iload 7, 2) := by decide +kernel
theorem dL_agree_213 : decode cL_agree 213 = .ok (.iconst 0, 1) := by decide +kernel
theorem dL_agree_214 : decode cL_agree 214 = .ok (.invokevirtual 20, 3) := by decide +kernel
theorem dL_agree_217 : decode cL_agree 217 = .ok (.iand, 1) := by decide +kernel
theorem dL_agree_218 : decode cL_agree 218 = .ok (.aload_n 0, 1) := by decide +kernel
theorem dL_agree_219 : decode cL_agree 219 = .ok (.iload_n 3, 1) := by decide +kernel
theorem dL_agree_220 : decode cL_agree 220 = .ok (.iconst 1, 1) := by decide +kernel
theorem dL_agree_221 : decode cL_agree 221 = .ok (.iload 7, 2) := by decide +kernel
theorem dL_agree_223 : decode cL_agree 223 = .ok (.ishl, 1) := by decide +kernel
theorem dL_agree_224 : decode cL_agree 224 = .ok (.iconst (-1), 1) := by decide +kernel
theorem dL_agree_225 : decode cL_agree 225 = .ok (.ixor, 1) := by decide +kernel
theorem dL_agree_226 : decode cL_agree 226 = .ok (.iand, 1) := by decide +kernel
theorem dL_agree_227 : decode cL_agree 227 = .ok (.invokestatic 28, 3) := by decide +kernel
theorem dL_agree_230 : decode cL_agree 230 = .ok (.iconst (-1), 1) := by decide +kernel
theorem dL_agree_231 : decode cL_agree 231 = .ok (.ixor, 1) := by decide +kernel
theorem dL_agree_232 : decode cL_agree 232 = .ok (.iand, 1) := by decide +kernel
theorem dL_agree_233 : decode cL_agree 233 = .ok (.istore 8, 2) := by decide +kernel
theorem dL_agree_235 : decode cL_agree 235 = .ok (.aload_n 0, 1) := by decide +kernel
theorem dL_agree_236 : decode cL_agree 236 = .ok (.iload 7, 2) := by decide +kernel
theorem dL_agree_238 : decode cL_agree 238 = .ok (.bipush 7, 2) := by decide +kernel
theorem dL_agree_240 : decode cL_agree 240 = .ok (.invokevirtual 20, 3) := by decide +kernel
theorem dL_agree_243 : decode cL_agree 243 = .ok (.iload 8, 2) := by decide +kernel
theorem dL_agree_245 : decode cL_agree 245 = .ok (.if_icmp .ne 33, 3) := by decide +kernel
theorem dL_agree_248 : decode cL_agree 248 = .ok (.iload 5, 2) := by decide +kernel
theorem dL_agree_250 : decode cL_agree 250 = .ok (.ifCond .ne 30, 3) := by decide +kernel
theorem dL_agree_253 : decode cL_agree 253 = .ok (.aload_n 0, 1) := by decide +kernel
theorem dL_agree_254 : decode cL_agree 254 = .ok (.iload 7, 2) := by decide +kernel
theorem dL_agree_256 : decode cL_agree 256 = .ok (.iconst 3, 1) := by decide +kernel
theorem dL_agree_257 : decode cL_agree 257 = .ok (.invokevirtual 20, 3) := by decide +kernel
theorem dL_agree_260 : decode cL_agree 260 = .ok (.bipush (-5), 2) := by decide +kernel
theorem dL_agree_262 : decode cL_agree 262 = .ok (.if_icmp .ne 16, 3) := by decide +kernel
theorem dL_agree_265 : decode cL_agree 265 = .ok (.aload_n 0, 1) := by decide +kernel
theorem dL_agree_266 : decode cL_agree 266 = .ok (.iload 7, 2) := by decide +kernel
theorem dL_agree_268 : decode cL_agree 268 = .ok (.bipush 6, 2) := by decide +kernel
theorem dL_agree_270 : decode cL_agree 270 = .ok (.invokevirtual 20, 3) := by decide +kernel
theorem dL_agree_273 : decode cL_agree 273 = .ok (.bipush (-5), 2) := by decide +kernel
theorem dL_agree_275 : decode cL_agree 275 = .ok (.if_icmp .eq 5, 3) := by decide +kernel
theorem dL_agree_278 : decode cL_agree 278 = .ok (.iconst 0, 1) := by decide +kernel
theorem dL_agree_279 : decode cL_agree 279 = .ok (.ireturn, 1) := by decide +kernel
theorem dL_agree_280 : decode cL_agree 280 = .ok (.iinc 7 1, 3) := by decide +kernel
theorem dL_agree_283 : decode cL_agree 283 = .ok (.goto (-94), 3) := by decide +kernel
theorem dL_agree_286 : decode cL_agree 286 = .ok (.aload_n 0, 1) := by decide +kernel
theorem dL_agree_287 : decode cL_agree 287 = .ok (.iconst 2, 1) := by decide +kernel
theorem dL_agree_288 : decode cL_agree 288 = .ok (.invokevirtual 8, 3) := by decide +kernel
theorem dL_agree_291 : decode cL_agree 291 = .ok (.iload 5, 2) := by decide +kernel
theorem dL_agree_293 : decode cL_agree 293 = .ok (.ifCond .eq 7, 3) := by decide +kernel
theorem dL_agree_296 : decode cL_agree 296 = .ok (.iconst 1, 1) := by decide +kernel
theorem dL_agree_297 : decode cL_agree 297 = .ok (.goto 4, 3) := by decide +kernel
theorem dL_agree_300 : decode cL_agree 300 = .ok (.iconst 0, 1) := by decide +kernel
theorem dL_agree_301 : decode cL_agree 301 = .ok (.if_icmp .ne 36, 3) := by decide +kernel
theorem dL_agree_304 : decode cL_agree 304 = .ok (.aload_n 0, 1) := by decide +kernel
theorem dL_agree_305 : decode cL_agree 305 = .ok (.iconst 3, 1) := by decide +kernel
theorem dL_agree_306 : decode cL_agree 306 = .ok (.invokevirtual 8, 3) := by decide +kernel
theorem dL_agree_309 : decode cL_agree 309 = .ok (.iload 6, 2) := by decide +kernel
theorem dL_agree_311 : decode cL_agree 311 = .ok (.if_icmp .ne 26, 3) := by decide +kernel
theorem dL_agree_314 : decode cL_agree 314 = .ok (.aload_n 0, 1) := by decide +kernel
theorem dL_agree_315 : decode cL_agree 315 = .ok (.iload_n 3, 1) := by decide +kernel
theorem dL_agree_316 : decode cL_agree 316 = .ok (.invokevirtual 43, 3) := by decide +kernel
theorem dL_agree_319 : decode cL_agree 319 = .ok (.iload 5, 2) := by decide +kernel
theorem dL_agree_321 : decode cL_agree 321 = .ok (.ifCond .eq 11, 3) := by decide +kernel
theorem dL_agree_324 : decode cL_agree 324 = .ok (.aload_n 0, 1) := by decide +kernel
theorem dL_agree_325 : decode cL_agree 325 = .ok (.iload_n 3, 1) := by decide +kernel
theorem dL_agree_326 : decode cL_agree 326 = .ok (.invokestatic 37, 3) := by decide +kernel
theorem dL_agree_329 : decode cL_agree 329 = .ok (.goto 5, 3) := by decide +kernel
theorem dL_agree_332 : decode cL_agree 332 = .ok (.bipush (-6), 2) := by decide +kernel
theorem dL_agree_334 : decode cL_agree 334 = .ok (.if_icmp .eq 5, 3) := by decide +kernel
theorem dL_agree_337 : decode cL_agree 337 = .ok (.iconst 0, 1) := by decide +kernel
theorem dL_agree_338 : decode cL_agree 338 = .ok (.ireturn, 1) := by decide +kernel
theorem dL_agree_339 : decode cL_agree 339 = .ok (.iload 5, 2) := by decide +kernel
theorem dL_agree_341 : decode cL_agree 341 = .ok (.ifCond .ne 77, 3) := by decide +kernel
theorem dL_agree_344 : decode cL_agree 344 = .ok (.aload_n 0, 1) := by decide +kernel
theorem dL_agree_345 : decode cL_agree 345 = .ok (.iconst 0, 1) := by decide +kernel
theorem dL_agree_346 : decode cL_agree 346 = .ok (.invokevirtual 34, 3) := by decide +kernel
theorem dL_agree_349 : decode cL_agree 349 = .ok (.bipush (-5), 2) := by decide +kernel
theorem dL_agree_351 : decode cL_agree 351 = .ok (.if_icmp .ne 65, 3) := by decide +kernel
theorem dL_agree_354 : decode cL_agree 354 = .ok (.aload_n 0, 1) := by decide +kernel
theorem dL_agree_355 : decode cL_agree 355 = .ok (.iconst 0, 1) := by decide +kernel
theorem dL_agree_356 : decode cL_agree 356 = .ok (.invokevirtual 49, 3) := by decide +kernel
theorem dL_agree_359 : decode cL_agree 359 = .ok (.bipush (-5), 2) := by decide +kernel
theorem dL_agree_361 : decode cL_agree 361 = .ok (.if_icmp .ne 55, 3) := by decide +kernel
theorem dL_agree_364 : decode cL_agree 364 = .ok (.aload_n 0, 1) := by decide +kernel
theorem dL_agree_365 : decode cL_agree 365 = .ok (.iconst 0, 1) := by decide +kernel
theorem dL_agree_366 : decode cL_agree 366 = .ok (.invokevirtual 46, 3) := by decide +kernel
theorem dL_agree_369 : decode cL_agree 369 = .ok (.bipush (-5), 2) := by decide +kernel
theorem dL_agree_371 : decode cL_agree 371 = .ok (.if_icmp .ne 45, 3) := by decide +kernel
theorem dL_agree_374 : decode cL_agree 374 = .ok (.aload_n 0, 1) := by decide +kernel
theorem dL_agree_375 : decode cL_agree 375 = .ok (.iconst 0, 1) := by decide +kernel
theorem dL_agree_376 : decode cL_agree 376 = .ok (.iconst 2, 1) := by decide +kernel
theorem dL_agree_377 : decode cL_agree 377 = .ok (.invokevirtual 31, 3) := by decide +kernel
theorem dL_agree_380 : decode cL_agree 380 = .ok (.bipush (-5), 2) := by decide +kernel
theorem dL_agree_382 : decode cL_agree 382 = .ok (.if_icmp .ne 34, 3) := by decide +kernel
theorem dL_agree_385 : decode cL_agree 385 = .ok (.aload_n 0, 1) := by decide +kernel
theorem dL_agree_386 : decode cL_agree 386 = .ok (.sipush 7000, 3) := by decide +kernel
theorem dL_agree_389 : decode cL_agree 389 = .ok (.invokevirtual 52, 3) := by decide +kernel
theorem dL_agree_392 : decode cL_agree 392 = .ok (.ifCond .ne 24, 3) := by decide +kernel
theorem dL_agree_395 : decode cL_agree 395 = .ok (.aload_n 0, 1) := by decide +kernel
theorem dL_agree_396 : decode cL_agree 396 = .ok (.invokevirtual 55, 3) := by decide +kernel
theorem dL_agree_399 : decode cL_agree 399 = .ok (.ifCond .ne 17, 3) := by decide +kernel
theorem dL_agree_402 : decode cL_agree 402 = .ok (.aload_n 0, 1) := by decide +kernel
theorem dL_agree_403 : decode cL_agree 403 = .ok (.iconst 0, 1) := by decide +kernel
theorem dL_agree_404 : decode cL_agree 404 = .ok (.invokevirtual 59, 3) := by decide +kernel
theorem dL_agree_407 : decode cL_agree 407 = .ok (.bipush (-5), 2) := by decide +kernel
theorem dL_agree_409 : decode cL_agree 409 = .ok (.if_icmp .ne 7, 3) := by decide +kernel
theorem dL_agree_412 : decode cL_agree 412 = .ok (.iconst 1, 1) := by decide +kernel
theorem dL_agree_413 : decode cL_agree 413 = .ok (.goto 4, 3) := by decide +kernel
theorem dL_agree_416 : decode cL_agree 416 = .ok (.iconst 0, 1) := by decide +kernel
theorem dL_agree_417 : decode cL_agree 417 = .ok (.ireturn, 1) := by decide +kernel
theorem dL_agree_418 : decode cL_agree 418 = .ok (.aload_n 0, 1) := by decide +kernel
theorem dL_agree_419 : decode cL_agree 419 = .ok (.invokestatic 62, 3) := by decide +kernel
theorem dL_agree_422 : decode cL_agree 422 = .ok (.ifCond .eq 31, 3) := by decide +kernel
theorem dL_agree_425 : decode cL_agree 425 = .ok (.aload_n 0, 1) := by decide +kernel
theorem dL_agree_426 : decode cL_agree 426 = .ok (.invokestatic 66, 3) := by decide +kernel
theorem dL_agree_429 : decode cL_agree 429 = .ok (.ifCond .eq 24, 3) := by decide +kernel
theorem dL_agree_432 : decode cL_agree 432 = .ok (.aload_n 0, 1) := by decide +kernel
theorem dL_agree_433 : decode cL_agree 433 = .ok (.aload_n 0, 1) := by decide +kernel
theorem dL_agree_434 : decode cL_agree 434 = .ok (.iconst 0, 1) := by decide +kernel
theorem dL_agree_435 : decode cL_agree 435 = .ok (.invokevirtual 46, 3) := by decide +kernel
theorem dL_agree_438 : decode cL_agree 438 = .ok (.invokevirtual 43, 3) := by decide +kernel
theorem dL_agree_441 : decode cL_agree 441 = .ok (.aload_n 0, 1) := by decide +kernel
theorem dL_agree_442 : decode cL_agree 442 = .ok (.iconst 1, 1) := by decide +kernel
theorem dL_agree_443 : decode cL_agree 443 = .ok (.invokevirtual 46, 3) := by decide +kernel
theorem dL_agree_446 : decode cL_agree 446 = .ok (.if_icmp .ne 7, 3) := by decide +kernel
theorem dL_agree_449 : decode cL_agree 449 = .ok (.iconst 1, 1) := by decide +kernel
theorem dL_agree_450 : decode cL_agree 450 = .ok (.goto 4, 3) := by decide +kernel
theorem dL_agree_453 : decode cL_agree 453 = .ok (.iconst 0, 1) := by decide +kernel
theorem dL_agree_454 : decode cL_agree 454 = .ok (.ireturn, 1) := by decide +kernel
theorem dL_things_0 : decode cL_things 0 = .ok (.aload_n 0, 1) := by decide +kernel
theorem dL_things_1 : decode cL_things 1 = .ok (.iload_n 1, 1) := by decide +kernel
theorem dL_things_2 : decode cL_things 2 = .ok (.iconst 3, 1) := by decide +kernel
theorem dL_things_3 : decode cL_things 3 = .ok (.invokestatic 69, 3) := by decide +kernel
theorem dL_things_6 : decode cL_things 6 = .ok (.ifCond .ne 17, 3) := by decide +kernel
theorem dL_things_9 : decode cL_things 9 = .ok (.iconst 1, 1) := by decide +kernel
theorem dL_things_10 : decode cL_things 10 = .ok (.aload_n 0, 1) := by decide +kernel
theorem dL_things_11 : decode cL_things 11 = .ok (.iload_n 1, 1) := by decide +kernel
theorem dL_things_12 : decode cL_things 12 = .ok (.iconst 1, 1) := by decide +kernel
theorem dL_things_13 : decode cL_things 13 = .ok (.iadd, 1) := by decide +kernel
theorem dL_things_14 : decode cL_things 14 = .ok (.ldc 73, 2) := by decide +kernel
theorem dL_things_16 : decode cL_things 16 = .ok (.invokestatic 69, 3) := by decide +kernel
theorem dL_things_19 : decode cL_things 19 = .ok (.iadd, 1) := by decide +kernel
theorem dL_things_20 : decode cL_things 20 = .ok (.goto 40, 3) := by decide +kernel
theorem dL_things_23 : decode cL_things 23 = .ok (.iconst 1, 1) := by decide +kernel
theorem dL_things_24 : decode cL_things 24 = .ok (.aload_n 0, 1) := by decide +kernel
theorem dL_things_25 : decode cL_things 25 = .ok (.iload_n 1, 1) := by decide +kernel
theorem dL_things_26 : decode cL_things 26 = .ok (.iconst 1, 1) := by decide +kernel
theorem dL_things_27 : decode cL_things 27 = .ok (.iadd, 1) := by decide +kernel
theorem dL_things_28 : decode cL_things 28 = .ok (.sipush 255, 3) := by decide +kernel
theorem dL_things_31 : decode cL_things 31 = .ok (.invokestatic 69, 3) := by decide +kernel
theorem dL_things_34 : decode cL_things 34 = .ok (.iadd, 1) := by decide +kernel
theorem dL_things_35 : decode cL_things 35 = .ok (.sipush 256, 3) := by decide +kernel
theorem dL_things_38 : decode cL_things 38 = .ok (.aload_n 0, 1) := by decide +kernel
theorem dL_things_39 : decode cL_things 39 = .ok (.iload_n 1, 1) := by decide +kernel
theorem dL_things_40 : decode cL_things 40 = .ok (.iconst 2, 1) := by decide +kernel
theorem dL_things_41 : decode cL_things 41 = .ok (.iadd, 1) := by decide +kernel
theorem dL_things_42 : decode cL_things 42 = .ok (.sipush 256, 3) := by decide +kernel
theorem dL_things_45 : decode cL_things 45 = .ok (.invokestatic 69, 3) := by decide +kernel
theorem dL_things_48 : decode cL_things 48 = .ok (.iadd, 1) := by decide +kernel
theorem dL_things_49 : decode cL_things 49 = .ok (.iand, 1) := by decide +kernel
theorem dL_things_50 : decode cL_things 50 = .ok (.iconst 1, 1) := by decide +kernel
theorem dL_things_51 : decode cL_things 51 = .ok (.aload_n 0, 1) := by decide +kernel
theorem dL_things_52 : decode cL_things 52 = .ok (.iload_n 1, 1) := by decide +kernel
theorem dL_things_53 : decode cL_things 53 = .ok (.bipush 9, 2) := by decide +kernel
theorem dL_things_55 : decode cL_things 55 = .ok (.invokestatic 69, 3) := by decide +kernel
theorem dL_things_58 : decode cL_things 58 = .ok (.ishl, 1) := by decide +kernel
theorem dL_things_59 : decode cL_things 59 = .ok (.ior, 1) := by decide +kernel
theorem dL_things_60 : decode cL_things 60 = .ok (.ireturn, 1) := by decide +kernel
theorem dL_isMade_0 : decode cL_isMade 0 = .ok (.aload_n 0, 1) := by decide +kernel
theorem dL_isMade_1 : decode cL_isMade 1 = .ok (.iconst 0, 1) := by decide +kernel
theorem dL_isMade_2 : decode cL_isMade 2 = .ok (.invokevirtual 8, 3) := by decide +kernel
theorem dL_isMade_5 : decode cL_isMade 5 = .ok (.istore_n 3, 1) := by decide +kernel
theorem dL_isMade_6 : decode cL_isMade 6 = .ok (.aload_n 0, 1) := by decide +kernel
theorem dL_isMade_7 : decode cL_isMade 7 = .ok (.iload_n 1, 1) := by decide +kernel
theorem dL_isMade_8 : decode cL_isMade 8 = .ok (.iload_n 2, 1) := by decide +kernel
theorem dL_isMade_9 : decode cL_isMade 9 = .ok (.invokevirtual 74, 3) := by decide +kernel
theorem dL_isMade_12 : decode cL_isMade 12 = .ok (.istore 4, 2) := by decide +kernel
theorem dL_isMade_14 : decode cL_isMade 14 = .ok (.iload_n 3, 1) := by decide +kernel
theorem dL_isMade_15 : decode cL_isMade 15 = .ok (.bipush 14, 2) := by decide +kernel
theorem dL_isMade_17 : decode cL_isMade 17 = .ok (.if_icmp .ne 28, 3) := by decide +kernel
theorem dL_isMade_20 : decode cL_isMade 20 = .ok (.iload 4, 2) := by decide +kernel
theorem dL_isMade_22 : decode cL_isMade 22 = .ok (.bipush (-4), 2) := by decide +kernel
theorem dL_isMade_24 : decode cL_isMade 24 = .ok (.if_icmp .ne 17, 3) := by decide +kernel
theorem dL_isMade_27 : decode cL_isMade 27 = .ok (.aload_n 0, 1) := by decide +kernel
theorem dL_isMade_28 : decode cL_isMade 28 = .ok (.iconst 0, 1) := by decide +kernel
theorem dL_isMade_29 : decode cL_isMade 29 = .ok (.invokevirtual 8, 3) := by decide +kernel
theorem dL_isMade_32 : decode cL_isMade 32 = .ok (.bipush 14, 2) := by decide +kernel
theorem dL_isMade_34 : decode cL_isMade 34 = .ok (.if_icmp .ne 7, 3) := by decide +kernel
theorem dL_isMade_37 : decode cL_isMade 37 = .ok (.iconst 1, 1) := by decide +kernel
theorem dL_isMade_38 : decode cL_isMade 38 = .ok (.goto 47, 3) := by decide +kernel
theorem dL_isMade_41 : decode cL_isMade 41 = .ok (.iconst 0, 1) := by decide +kernel
theorem dL_isMade_42 : decode cL_isMade 42 = .ok (.goto 43, 3) := by decide +kernel
theorem dL_isMade_45 : decode cL_isMade 45 = .ok (.iload 4, 2) := by decide +kernel
theorem dL_isMade_47 : decode cL_isMade 47 = .ok (.iload_n 3, 1) := by decide +kernel
theorem dL_isMade_48 : decode cL_isMade 48 = .ok (.if_icmp .ne 36, 3) := by decide +kernel
theorem dL_isMade_51 : decode cL_isMade 51 = .ok (.aload_n 0, 1) := by decide +kernel
theorem dL_isMade_52 : decode cL_isMade 52 = .ok (.iload_n 3, 1) := by decide +kernel
theorem dL_isMade_53 : decode cL_isMade 53 = .ok (.iconst 0, 1) := by decide +kernel
theorem dL_isMade_54 : decode cL_isMade 54 = .ok (.invokevirtual 20, 3) := by decide +kernel
theorem dL_isMade_57 : decode cL_isMade 57 = .ok (.iload_n 1, 1) := by decide +kernel
theorem dL_isMade_58 : decode cL_isMade 58 = .ok (.if_icmp .ne 26, 3) := by decide +kernel
theorem dL_isMade_61 : decode cL_isMade 61 = .ok (.aload_n 0, 1) := by decide +kernel
theorem dL_isMade_62 : decode cL_isMade 62 = .ok (.iload_n 3, 1) := by decide +kernel
theorem dL_isMade_63 : decode cL_isMade 63 = .ok (.iconst 1, 1) := by decide +kernel
theorem dL_isMade_64 : decode cL_isMade 64 = .ok (.invokevirtual 20, 3) := by decide +kernel
theorem dL_isMade_67 : decode cL_isMade 67 = .ok (.iload_n 2, 1) := by decide +kernel
theorem dL_isMade_68 : decode cL_isMade 68 = .ok (.if_icmp .ne 16, 3) := by decide +kernel
theorem dL_isMade_71 : decode cL_isMade 71 = .ok (.aload_n 0, 1) := by decide +kernel
theorem dL_isMade_72 : decode cL_isMade 72 = .ok (.iload_n 3, 1) := by decide +kernel
theorem dL_isMade_73 : decode cL_isMade 73 = .ok (.iconst 2, 1) := by decide +kernel
theorem dL_isMade_74 : decode cL_isMade 74 = .ok (.invokevirtual 20, 3) := by decide +kernel
theorem dL_isMade_77 : decode cL_isMade 77 = .ok (.ifCond .ne 7, 3) := by decide +kernel
theorem dL_isMade_80 : decode cL_isMade 80 = .ok (.iconst 1, 1) := by decide +kernel
theorem dL_isMade_81 : decode cL_isMade 81 = .ok (.goto 4, 3) := by decide +kernel
theorem dL_isMade_84 : decode cL_isMade 84 = .ok (.iconst 0, 1) := by decide +kernel
theorem dL_isMade_85 : decode cL_isMade 85 = .ok (.ireturn, 1) := by decide +kernel
theorem dL_isTurned_0 : decode cL_isTurned 0 = .ok (.iload_n 1, 1) := by decide +kernel
theorem dL_isTurned_1 : decode cL_isTurned 1 = .ok (.aload_n 0, 1) := by decide +kernel
theorem dL_isTurned_2 : decode cL_isTurned 2 = .ok (.iconst 0, 1) := by decide +kernel
theorem dL_isTurned_3 : decode cL_isTurned 3 = .ok (.invokevirtual 8, 3) := by decide +kernel
theorem dL_isTurned_6 : decode cL_isTurned 6 = .ok (.if_icmp .lt 19, 3) := by decide +kernel
theorem dL_isTurned_9 : decode cL_isTurned 9 = .ok (.aload_n 0, 1) := by decide +kernel
theorem dL_isTurned_10 : decode cL_isTurned 10 = .ok (.iload_n 1, 1) := by decide +kernel
theorem dL_isTurned_11 : decode cL_isTurned 11 = .ok (.iload_n 2, 1) := by decide +kernel
theorem dL_isTurned_12 : decode cL_isTurned 12 = .ok (.invokevirtual 77, 3) := by decide +kernel
theorem dL_isTurned_15 : decode cL_isTurned 15 = .ok (.iconst (-1), 1) := by decide +kernel
theorem dL_isTurned_16 : decode cL_isTurned 16 = .ok (.if_icmp .ne 7, 3) := by decide +kernel
theorem dL_isTurned_19 : decode cL_isTurned 19 = .ok (.iconst 1, 1) := by decide +kernel
theorem dL_isTurned_20 : decode cL_isTurned 20 = .ok (.goto 4, 3) := by decide +kernel
theorem dL_isTurned_23 : decode cL_isTurned 23 = .ok (.iconst 0, 1) := by decide +kernel
theorem dL_isTurned_24 : decode cL_isTurned 24 = .ok (.ireturn, 1) := by decide +kernel
theorem dL_isTurned_25 : decode cL_isTurned 25 = .ok (.aload_n 0, 1) := by decide +kernel
theorem dL_isTurned_26 : decode cL_isTurned 26 = .ok (.iload_n 1, 1) := by decide +kernel
theorem dL_isTurned_27 : decode cL_isTurned 27 = .ok (.iconst 0, 1) := by decide +kernel
theorem dL_isTurned_28 : decode cL_isTurned 28 = .ok (.invokevirtual 20, 3) := by decide +kernel
theorem dL_isTurned_31 : decode cL_isTurned 31 = .ok (.istore_n 3, 1) := by decide +kernel
theorem dL_isTurned_32 : decode cL_isTurned 32 = .ok (.aload_n 0, 1) := by decide +kernel
theorem dL_isTurned_33 : decode cL_isTurned 33 = .ok (.iload_n 1, 1) := by decide +kernel
theorem dL_isTurned_34 : decode cL_isTurned 34 = .ok (.iload_n 2, 1) := by decide +kernel
theorem dL_isTurned_35 : decode cL_isTurned 35 = .ok (.invokevirtual 77, 3) := by decide +kernel
theorem dL_isTurned_38 : decode cL_isTurned 38 = .ok (.istore 4, 2) := by decide +kernel
theorem dL_isTurned_40 : decode cL_isTurned 40 = .ok (.iload_n 3, 1) := by decide +kernel
theorem dL_isTurned_41 : decode cL_isTurned 41 = .ok (.iload_n 2, 1) := by decide +kernel
theorem dL_isTurned_42 : decode cL_isTurned 42 = .ok (.if_icmp .ne 28, 3) := by decide +kernel
theorem dL_isTurned_45 : decode cL_isTurned 45 = .ok (.iload 4, 2) := by decide +kernel
theorem dL_isTurned_47 : decode cL_isTurned 47 = .ok (.bipush (-5), 2) := by decide +kernel
theorem dL_isTurned_49 : decode cL_isTurned 49 = .ok (.if_icmp .ne 17, 3) := by decide +kernel
theorem dL_isTurned_52 : decode cL_isTurned 52 = .ok (.aload_n 0, 1) := by decide +kernel
theorem dL_isTurned_53 : decode cL_isTurned 53 = .ok (.iload_n 1, 1) := by decide +kernel
theorem dL_isTurned_54 : decode cL_isTurned 54 = .ok (.iconst 0, 1) := by decide +kernel
theorem dL_isTurned_55 : decode cL_isTurned 55 = .ok (.invokevirtual 20, 3) := by decide +kernel
theorem dL_isTurned_58 : decode cL_isTurned 58 = .ok (.iload_n 3, 1) := by decide +kernel
theorem dL_isTurned_59 : decode cL_isTurned 59 = .ok (.if_icmp .ne 7, 3) := by decide +kernel
theorem dL_isTurned_62 : decode cL_isTurned 62 = .ok (.iconst 1, 1) := by decide +kernel
theorem dL_isTurned_63 : decode cL_isTurned 63 = .ok (.goto 31, 3) := by decide +kernel
theorem dL_isTurned_66 : decode cL_isTurned 66 = .ok (.iconst 0, 1) := by decide +kernel
theorem dL_isTurned_67 : decode cL_isTurned 67 = .ok (.goto 27, 3) := by decide +kernel
theorem dL_isTurned_70 : decode cL_isTurned 70 = .ok (.iload 4, 2) := by decide +kernel
theorem dL_isTurned_72 : decode cL_isTurned 72 = .ok (.iload_n 3, 1) := by decide +kernel
theorem dL_isTurned_73 : decode cL_isTurned 73 = .ok (.iload_n 2, 1) := by decide +kernel
theorem dL_isTurned_74 : decode cL_isTurned 74 = .ok (.ixor, 1) := by decide +kernel
theorem dL_isTurned_75 : decode cL_isTurned 75 = .ok (.if_icmp .ne 18, 3) := by decide +kernel
theorem dL_isTurned_78 : decode cL_isTurned 78 = .ok (.aload_n 0, 1) := by decide +kernel
theorem dL_isTurned_79 : decode cL_isTurned 79 = .ok (.iload_n 1, 1) := by decide +kernel
theorem dL_isTurned_80 : decode cL_isTurned 80 = .ok (.iconst 0, 1) := by decide +kernel
theorem dL_isTurned_81 : decode cL_isTurned 81 = .ok (.invokevirtual 20, 3) := by decide +kernel
theorem dL_isTurned_84 : decode cL_isTurned 84 = .ok (.iload 4, 2) := by decide +kernel
theorem dL_isTurned_86 : decode cL_isTurned 86 = .ok (.if_icmp .ne 7, 3) := by decide +kernel
theorem dL_isTurned_89 : decode cL_isTurned 89 = .ok (.iconst 1, 1) := by decide +kernel
theorem dL_isTurned_90 : decode cL_isTurned 90 = .ok (.goto 4, 3) := by decide +kernel
theorem dL_isTurned_93 : decode cL_isTurned 93 = .ok (.iconst 0, 1) := by decide +kernel
theorem dL_isTurned_94 : decode cL_isTurned 94 = .ok (.ireturn, 1) := by decide +kernel
theorem dL_isDropped_0 : decode cL_isDropped 0 = .ok (.aload_n 0, 1) := by decide +kernel
theorem dL_isDropped_1 : decode cL_isDropped 1 = .ok (.iconst 0, 1) := by decide +kernel
theorem dL_isDropped_2 : decode cL_isDropped 2 = .ok (.invokevirtual 8, 3) := by decide +kernel
theorem dL_isDropped_5 : decode cL_isDropped 5 = .ok (.istore_n 2, 1) := by decide +kernel
theorem dL_isDropped_6 : decode cL_isDropped 6 = .ok (.iload_n 1, 1) := by decide +kernel
theorem dL_isDropped_7 : decode cL_isDropped 7 = .ok (.iload_n 2, 1) := by decide +kernel
theorem dL_isDropped_8 : decode cL_isDropped 8 = .ok (.if_icmp .lt 18, 3) := by decide +kernel
theorem dL_isDropped_11 : decode cL_isDropped 11 = .ok (.aload_n 0, 1) := by decide +kernel
theorem dL_isDropped_12 : decode cL_isDropped 12 = .ok (.iload_n 1, 1) := by decide +kernel
theorem dL_isDropped_13 : decode cL_isDropped 13 = .ok (.invokevirtual 80, 3) := by decide +kernel
theorem dL_isDropped_16 : decode cL_isDropped 16 = .ok (.iconst (-1), 1) := by decide +kernel
theorem dL_isDropped_17 : decode cL_isDropped 17 = .ok (.if_icmp .ne 7, 3) := by decide +kernel
theorem dL_isDropped_20 : decode cL_isDropped 20 = .ok (.iconst 1, 1) := by decide +kernel
theorem dL_isDropped_21 : decode cL_isDropped 21 = .ok (.goto 4, 3) := by decide +kernel
theorem dL_isDropped_24 : decode cL_isDropped 24 = .ok (.iconst 0, 1) := by decide +kernel
theorem dL_isDropped_25 : decode cL_isDropped 25 = .ok (.ireturn, 1) := by decide +kernel
theorem dL_isDropped_26 : decode cL_isDropped 26 = .ok (.iload_n 1, 1) := by decide +kernel
theorem dL_isDropped_27 : decode cL_isDropped 27 = .ok (.iconst 1, 1) := by decide +kernel
theorem dL_isDropped_28 : decode cL_isDropped 28 = .ok (.iadd, 1) := by decide +kernel
theorem dL_isDropped_29 : decode cL_isDropped 29 = .ok (.iload_n 2, 1) := by decide +kernel
theorem dL_isDropped_30 : decode cL_isDropped 30 = .ok (.if_icmp .ge 14, 3) := by decide +kernel
theorem dL_isDropped_33 : decode cL_isDropped 33 = .ok (.aload_n 0, 1) := by decide +kernel
theorem dL_isDropped_34 : decode cL_isDropped 34 = .ok (.iload_n 1, 1) := by decide +kernel
theorem dL_isDropped_35 : decode cL_isDropped 35 = .ok (.iconst 1, 1) := by decide +kernel
theorem dL_isDropped_36 : decode cL_isDropped 36 = .ok (.iadd, 1) := by decide +kernel
theorem dL_isDropped_37 : decode cL_isDropped 37 = .ok (.iconst 0, 1) := by decide +kernel
theorem dL_isDropped_38 : decode cL_isDropped 38 = .ok (.invokevirtual 20, 3) := by decide +kernel
theorem dL_isDropped_41 : decode cL_isDropped 41 = .ok (.goto 4, 3) := by decide +kernel
theorem dL_isDropped_44 : decode cL_isDropped 44 = .ok (.iconst 0, 1) := by decide +kernel
theorem dL_isDropped_45 : decode cL_isDropped 45 = .ok (.istore_n 3, 1) := by decide +kernel
theorem dL_isDropped_46 : decode cL_isDropped 46 = .ok (.iload_n 1, 1) := by decide +kernel
theorem dL_isDropped_47 : decode cL_isDropped 47 = .ok (.iconst 1, 1) := by decide +kernel
theorem dL_isDropped_48 : decode cL_isDropped 48 = .ok (.iadd, 1) := by decide +kernel
theorem dL_isDropped_49 : decode cL_isDropped 49 = .ok (.iload_n 2, 1) := by decide +kernel
theorem dL_isDropped_50 : decode cL_isDropped 50 = .ok (.if_icmp .ge 14, 3) := by decide +kernel
theorem dL_isDropped_53 : decode cL_isDropped 53 = .ok (.aload_n 0, 1) := by decide +kernel
theorem dL_isDropped_54 : decode cL_isDropped 54 = .ok (.iload_n 1, 1) := by decide +kernel
theorem dL_isDropped_55 : decode cL_isDropped 55 = .ok (.iconst 1, 1) := by decide +kernel
theorem dL_isDropped_56 : decode cL_isDropped 56 = .ok (.iadd, 1) := by decide +kernel
theorem dL_isDropped_57 : decode cL_isDropped 57 = .ok (.iconst 1, 1) := by decide +kernel
theorem dL_isDropped_58 : decode cL_isDropped 58 = .ok (.invokevirtual 20, 3) := by decide +kernel
theorem dL_isDropped_61 : decode cL_isDropped 61 = .ok (.goto 4, 3) := by decide +kernel
theorem dL_isDropped_64 : decode cL_isDropped 64 = .ok (.iconst 0, 1) := by decide +kernel
theorem dL_isDropped_65 : decode cL_isDropped 65 = .ok (.istore 4, 2) := by decide +kernel
theorem dL_isDropped_67 : decode cL_isDropped 67 = .ok (.aload_n 0, 1) := by decide +kernel
theorem dL_isDropped_68 : decode cL_isDropped 68 = .ok (.iload_n 1, 1) := by decide +kernel
theorem dL_isDropped_69 : decode cL_isDropped 69 = .ok (.invokevirtual 80, 3) := by decide +kernel
theorem dL_isDropped_72 : decode cL_isDropped 72 = .ok (.iload_n 2, 1) := by decide +kernel
theorem dL_isDropped_73 : decode cL_isDropped 73 = .ok (.iconst 1, 1) := by decide +kernel
theorem dL_isDropped_74 : decode cL_isDropped 74 = .ok (.isub, 1) := by decide +kernel
theorem dL_isDropped_75 : decode cL_isDropped 75 = .ok (.if_icmp .ne 46, 3) := by decide +kernel
theorem dL_isDropped_78 : decode cL_isDropped 78 = .ok (.aload_n 0, 1) := by decide +kernel
theorem dL_isDropped_79 : decode cL_isDropped 79 = .ok (.iconst 0, 1) := by decide +kernel
theorem dL_isDropped_80 : decode cL_isDropped 80 = .ok (.invokevirtual 8, 3) := by decide +kernel
theorem dL_isDropped_83 : decode cL_isDropped 83 = .ok (.iload_n 2, 1) := by decide +kernel
theorem dL_isDropped_84 : decode cL_isDropped 84 = .ok (.iconst 1, 1) := by decide +kernel
theorem dL_isDropped_85 : decode cL_isDropped 85 = .ok (.isub, 1) := by decide +kernel
theorem dL_isDropped_86 : decode cL_isDropped 86 = .ok (.if_icmp .ne 35, 3) := by decide +kernel
theorem dL_isDropped_89 : decode cL_isDropped 89 = .ok (.iload_n 1, 1) := by decide +kernel
theorem dL_isDropped_90 : decode cL_isDropped 90 = .ok (.iconst 1, 1) := by decide +kernel
theorem dL_isDropped_91 : decode cL_isDropped 91 = .ok (.iadd, 1) := by decide +kernel
theorem dL_isDropped_92 : decode cL_isDropped 92 = .ok (.iload_n 2, 1) := by decide +kernel
theorem dL_isDropped_93 : decode cL_isDropped 93 = .ok (.if_icmp .eq 24, 3) := by decide +kernel
theorem dL_isDropped_96 : decode cL_isDropped 96 = .ok (.aload_n 0, 1) := by decide +kernel
theorem dL_isDropped_97 : decode cL_isDropped 97 = .ok (.iload_n 1, 1) := by decide +kernel
theorem dL_isDropped_98 : decode cL_isDropped 98 = .ok (.iconst 0, 1) := by decide +kernel
theorem dL_isDropped_99 : decode cL_isDropped 99 = .ok (.invokevirtual 20, 3) := by decide +kernel
theorem dL_isDropped_102 : decode cL_isDropped 102 = .ok (.iload_n 3, 1) := by decide +kernel
theorem dL_isDropped_103 : decode cL_isDropped 103 = .ok (.if_icmp .ne 18, 3) := by decide +kernel
theorem dL_isDropped_106 : decode cL_isDropped 106 = .ok (.aload_n 0, 1) := by decide +kernel
theorem dL_isDropped_107 : decode cL_isDropped 107 = .ok (.iload_n 1, 1) := by decide +kernel
theorem dL_isDropped_108 : decode cL_isDropped 108 = .ok (.iconst 1, 1) := by decide +kernel
theorem dL_isDropped_109 : decode cL_isDropped 109 = .ok (.invokevirtual 20, 3) := by decide +kernel
theorem dL_isDropped_112 : decode cL_isDropped 112 = .ok (.iload 4, 2) := by decide +kernel
theorem dL_isDropped_114 : decode cL_isDropped 114 = .ok (.if_icmp .ne 7, 3) := by decide +kernel
theorem dL_isDropped_117 : decode cL_isDropped 117 = .ok (.iconst 1, 1) := by decide +kernel
theorem dL_isDropped_118 : decode cL_isDropped 118 = .ok (.goto 4, 3) := by decide +kernel
theorem dL_isDropped_121 : decode cL_isDropped 121 = .ok (.iconst 0, 1) := by decide +kernel
theorem dL_isDropped_122 : decode cL_isDropped 122 = .ok (.ireturn, 1) := by decide +kernel
theorem dL_isAct_0 : decode cL_isAct 0 = .ok (.aload_n 0, 1) := by decide +kernel
theorem dL_isAct_1 : decode cL_isAct 1 = .ok (.iconst 0, 1) := by decide +kernel
theorem dL_isAct_2 : decode cL_isAct 2 = .ok (.invokevirtual 8, 3) := by decide +kernel
theorem dL_isAct_5 : decode cL_isAct 5 = .ok (.istore_n 3, 1) := by decide +kernel
theorem dL_isAct_6 : decode cL_isAct 6 = .ok (.aload_n 1, 1) := by decide +kernel
theorem dL_isAct_7 : decode cL_isAct 7 = .ok (.iload_n 2, 1) := by decide +kernel
theorem dL_isAct_8 : decode cL_isAct 8 = .ok (.iconst 1, 1) := by decide +kernel
theorem dL_isAct_9 : decode cL_isAct 9 = .ok (.iadd, 1) := by decide +kernel
theorem dL_isAct_10 : decode cL_isAct 10 = .ok (.iload_n 3, 1) := by decide +kernel
theorem dL_isAct_11 : decode cL_isAct 11 = .ok (.iconst 1, 1) := by decide +kernel
theorem dL_isAct_12 : decode cL_isAct 12 = .ok (.iadd, 1) := by decide +kernel
theorem dL_isAct_13 : decode cL_isAct 13 = .ok (.invokestatic 69, 3) := by decide +kernel
theorem dL_isAct_16 : decode cL_isAct 16 = .ok (.istore 4, 2) := by decide +kernel
theorem dL_isAct_18 : decode cL_isAct 18 = .ok (.aload_n 1, 1) := by decide +kernel
theorem dL_isAct_19 : decode cL_isAct 19 = .ok (.iload_n 2, 1) := by decide +kernel
theorem dL_isAct_20 : decode cL_isAct 20 = .ok (.bipush 10, 2) := by decide +kernel
theorem dL_isAct_22 : decode cL_isAct 22 = .ok (.invokestatic 69, 3) := by decide +kernel
theorem dL_isAct_25 : decode cL_isAct 25 = .ok (.tableswitch 313 0 8 #[51, 51, 105, 105, 167, 167, 225, 299, 299], 51) := by decide +kernel
theorem dL_isAct_76 : decode cL_isAct 76 = .ok (.iload_n 3, 1) := by decide +kernel
theorem dL_isAct_77 : decode cL_isAct 77 = .ok (.bipush 8, 2) := by decide +kernel
theorem dL_isAct_79 : decode cL_isAct 79 = .ok (.if_icmp .gt 45, 3) := by decide +kernel
theorem dL_isAct_82 : decode cL_isAct 82 = .ok (.aload_n 0, 1) := by decide +kernel
theorem dL_isAct_83 : decode cL_isAct 83 = .ok (.aload_n 1, 1) := by decide +kernel
theorem dL_isAct_84 : decode cL_isAct 84 = .ok (.iload_n 2, 1) := by decide +kernel
theorem dL_isAct_85 : decode cL_isAct 85 = .ok (.iconst 1, 1) := by decide +kernel
theorem dL_isAct_86 : decode cL_isAct 86 = .ok (.iadd, 1) := by decide +kernel
theorem dL_isAct_87 : decode cL_isAct 87 = .ok (.invokestatic 83, 3) := by decide +kernel
theorem dL_isAct_90 : decode cL_isAct 90 = .ok (.iconst 1, 1) := by decide +kernel
theorem dL_isAct_91 : decode cL_isAct 91 = .ok (.aload_n 1, 1) := by decide +kernel
theorem dL_isAct_92 : decode cL_isAct 92 = .ok (.iload_n 2, 1) := by decide +kernel
theorem dL_isAct_93 : decode cL_isAct 93 = .ok (.iconst 4, 1) := by decide +kernel
theorem dL_isAct_94 : decode cL_isAct 94 = .ok (.iadd, 1) := by decide +kernel
theorem dL_isAct_95 : decode cL_isAct 95 = .ok (.aload_n 1, 1) := by decide +kernel
theorem dL_isAct_96 : decode cL_isAct 96 = .ok (.iload_n 2, 1) := by decide +kernel
theorem dL_isAct_97 : decode cL_isAct 97 = .ok (.iconst 5, 1) := by decide +kernel
theorem dL_isAct_98 : decode cL_isAct 98 = .ok (.iadd, 1) := by decide +kernel
theorem dL_isAct_99 : decode cL_isAct 99 = .ok (.iconst 4, 1) := by decide +kernel
theorem dL_isAct_100 : decode cL_isAct 100 = .ok (.invokestatic 69, 3) := by decide +kernel
theorem dL_isAct_103 : decode cL_isAct 103 = .ok (.ifCond .ne 9, 3) := by decide +kernel
theorem dL_isAct_106 : decode cL_isAct 106 = .ok (.sipush 500, 3) := by decide +kernel
theorem dL_isAct_109 : decode cL_isAct 109 = .ok (.goto 5, 3) := by decide +kernel
theorem dL_isAct_112 : decode cL_isAct 112 = .ok (.bipush 30, 2) := by decide +kernel
theorem dL_isAct_114 : decode cL_isAct 114 = .ok (.invokestatic 69, 3) := by decide +kernel
theorem dL_isAct_117 : decode cL_isAct 117 = .ok (.iadd, 1) := by decide +kernel
theorem dL_isAct_118 : decode cL_isAct 118 = .ok (.invokestatic 87, 3) := by decide +kernel
theorem dL_isAct_121 : decode cL_isAct 121 = .ok (.ifCond .eq 7, 3) := by decide +kernel
theorem dL_isAct_124 : decode cL_isAct 124 = .ok (.iconst 1, 1) := by decide +kernel
theorem dL_isAct_125 : decode cL_isAct 125 = .ok (.goto 4, 3) := by decide +kernel
theorem dL_isAct_128 : decode cL_isAct 128 = .ok (.iconst 0, 1) := by decide +kernel
theorem dL_isAct_129 : decode cL_isAct 129 = .ok (.ireturn, 1) := by decide +kernel
theorem dL_isAct_130 : decode cL_isAct 130 = .ok (.aload_n 0, 1) := by decide +kernel
theorem dL_isAct_131 : decode cL_isAct 131 = .ok (.iconst 1, 1) := by decide +kernel
theorem dL_isAct_132 : decode cL_isAct 132 = .ok (.invokevirtual 8, 3) := by decide +kernel
theorem dL_isAct_135 : decode cL_isAct 135 = .ok (.istore 5, 2) := by decide +kernel
theorem dL_isAct_137 : decode cL_isAct 137 = .ok (.aload_n 1, 1) := by decide +kernel
theorem dL_isAct_138 : decode cL_isAct 138 = .ok (.iload_n 2, 1) := by decide +kernel
theorem dL_isAct_139 : decode cL_isAct 139 = .ok (.iconst 2, 1) := by decide +kernel
theorem dL_isAct_140 : decode cL_isAct 140 = .ok (.iadd, 1) := by decide +kernel
theorem dL_isAct_141 : decode cL_isAct 141 = .ok (.aload_n 1, 1) := by decide +kernel
theorem dL_isAct_142 : decode cL_isAct 142 = .ok (.iload_n 2, 1) := by decide +kernel
theorem dL_isAct_143 : decode cL_isAct 143 = .ok (.iconst 3, 1) := by decide +kernel
theorem dL_isAct_144 : decode cL_isAct 144 = .ok (.iadd, 1) := by decide +kernel
theorem dL_isAct_145 : decode cL_isAct 145 = .ok (.iconst 5, 1) := by decide +kernel
theorem dL_isAct_146 : decode cL_isAct 146 = .ok (.invokestatic 69, 3) := by decide +kernel
theorem dL_isAct_149 : decode cL_isAct 149 = .ok (.ifCond .ne 8, 3) := by decide +kernel
theorem dL_isAct_152 : decode cL_isAct 152 = .ok (.ldc 91, 2) := by decide +kernel
theorem dL_isAct_154 : decode cL_isAct 154 = .ok (.goto 6, 3) := by decide +kernel
theorem dL_isAct_157 : decode cL_isAct 157 = .ok (.sipush 512, 3) := by decide +kernel
theorem dL_isAct_160 : decode cL_isAct 160 = .ok (.invokestatic 69, 3) := by decide +kernel
theorem dL_isAct_163 : decode cL_isAct 163 = .ok (.istore 6, 2) := by decide +kernel
theorem dL_isAct_165 : decode cL_isAct 165 = .ok (.aload_n 0, 1) := by decide +kernel
theorem dL_isAct_166 : decode cL_isAct 166 = .ok (.iload 6, 2) := by decide +kernel
theorem dL_isAct_168 : decode cL_isAct 168 = .ok (.invokevirtual 92, 3) := by decide +kernel
theorem dL_isAct_171 : decode cL_isAct 171 = .ok (.iload 5, 2) := by decide +kernel
theorem dL_isAct_173 : decode cL_isAct 173 = .ok (.if_icmp .ne 17, 3) := by decide +kernel
theorem dL_isAct_176 : decode cL_isAct 176 = .ok (.aload_n 0, 1) := by decide +kernel
theorem dL_isAct_177 : decode cL_isAct 177 = .ok (.iconst 1, 1) := by decide +kernel
theorem dL_isAct_178 : decode cL_isAct 178 = .ok (.invokevirtual 8, 3) := by decide +kernel
theorem dL_isAct_181 : decode cL_isAct 181 = .ok (.iload 6, 2) := by decide +kernel
theorem dL_isAct_183 : decode cL_isAct 183 = .ok (.if_icmp .ne 7, 3) := by decide +kernel
theorem dL_isAct_186 : decode cL_isAct 186 = .ok (.iconst 1, 1) := by decide +kernel
theorem dL_isAct_187 : decode cL_isAct 187 = .ok (.goto 4, 3) := by decide +kernel
theorem dL_isAct_190 : decode cL_isAct 190 = .ok (.iconst 0, 1) := by decide +kernel
theorem dL_isAct_191 : decode cL_isAct 191 = .ok (.ireturn, 1) := by decide +kernel
theorem dL_isAct_192 : decode cL_isAct 192 = .ok (.aload_n 1, 1) := by decide +kernel
theorem dL_isAct_193 : decode cL_isAct 193 = .ok (.iload_n 2, 1) := by decide +kernel
theorem dL_isAct_194 : decode cL_isAct 194 = .ok (.iconst 2, 1) := by decide +kernel
theorem dL_isAct_195 : decode cL_isAct 195 = .ok (.iadd, 1) := by decide +kernel
theorem dL_isAct_196 : decode cL_isAct 196 = .ok (.iconst 5, 1) := by decide +kernel
theorem dL_isAct_197 : decode cL_isAct 197 = .ok (.invokestatic 69, 3) := by decide +kernel
theorem dL_isAct_200 : decode cL_isAct 200 = .ok (.istore 7, 2) := by decide +kernel
theorem dL_isAct_202 : decode cL_isAct 202 = .ok (.iload 4, 2) := by decide +kernel
theorem dL_isAct_204 : decode cL_isAct 204 = .ok (.iload_n 3, 1) := by decide +kernel
theorem dL_isAct_205 : decode cL_isAct 205 = .ok (.if_icmp .ge 13, 3) := by decide +kernel
theorem dL_isAct_208 : decode cL_isAct 208 = .ok (.aload_n 0, 1) := by decide +kernel
theorem dL_isAct_209 : decode cL_isAct 209 = .ok (.iload 4, 2) := by decide +kernel
theorem dL_isAct_211 : decode cL_isAct 211 = .ok (.iconst 2, 1) := by decide +kernel
theorem dL_isAct_212 : decode cL_isAct 212 = .ok (.invokevirtual 20, 3) := by decide +kernel
theorem dL_isAct_215 : decode cL_isAct 215 = .ok (.goto 4, 3) := by decide +kernel
theorem dL_isAct_218 : decode cL_isAct 218 = .ok (.iconst (-1), 1) := by decide +kernel
theorem dL_isAct_219 : decode cL_isAct 219 = .ok (.istore 8, 2) := by decide +kernel
theorem dL_isAct_221 : decode cL_isAct 221 = .ok (.aload_n 0, 1) := by decide +kernel
theorem dL_isAct_222 : decode cL_isAct 222 = .ok (.iload 4, 2) := by decide +kernel
theorem dL_isAct_224 : decode cL_isAct 224 = .ok (.iload 7, 2) := by decide +kernel
theorem dL_isAct_226 : decode cL_isAct 226 = .ok (.iconst 3, 1) := by decide +kernel
theorem dL_isAct_227 : decode cL_isAct 227 = .ok (.if_icmp .ge 8, 3) := by decide +kernel
theorem dL_isAct_230 : decode cL_isAct 230 = .ok (.iload 7, 2) := by decide +kernel
theorem dL_isAct_232 : decode cL_isAct 232 = .ok (.goto 4, 3) := by decide +kernel
theorem dL_isAct_235 : decode cL_isAct 235 = .ok (.iconst 0, 1) := by decide +kernel
theorem dL_isAct_236 : decode cL_isAct 236 = .ok (.invokevirtual 95, 3) := by decide +kernel
theorem dL_isAct_239 : decode cL_isAct 239 = .ok (.iload 8, 2) := by decide +kernel
theorem dL_isAct_241 : decode cL_isAct 241 = .ok (.if_icmp .ne 7, 3) := by decide +kernel
theorem dL_isAct_244 : decode cL_isAct 244 = .ok (.iconst 1, 1) := by decide +kernel
theorem dL_isAct_245 : decode cL_isAct 245 = .ok (.goto 4, 3) := by decide +kernel
theorem dL_isAct_248 : decode cL_isAct 248 = .ok (.iconst 0, 1) := by decide +kernel
theorem dL_isAct_249 : decode cL_isAct 249 = .ok (.ireturn, 1) := by decide +kernel
theorem dL_isAct_250 : decode cL_isAct 250 = .ok (.iload 4, 2) := by decide +kernel
theorem dL_isAct_252 : decode cL_isAct 252 = .ok (.iload_n 3, 1) := by decide +kernel
theorem dL_isAct_253 : decode cL_isAct 253 = .ok (.if_icmp .ge 13, 3) := by decide +kernel
theorem dL_isAct_256 : decode cL_isAct 256 = .ok (.aload_n 0, 1) := by decide +kernel
theorem dL_isAct_257 : decode cL_isAct 257 = .ok (.iload 4, 2) := by decide +kernel
theorem dL_isAct_259 : decode cL_isAct 259 = .ok (.iconst 1, 1) := by decide +kernel
theorem dL_isAct_260 : decode cL_isAct 260 = .ok (.invokevirtual 20, 3) := by decide +kernel
theorem dL_isAct_263 : decode cL_isAct 263 = .ok (.goto 4, 3) := by decide +kernel
theorem dL_isAct_266 : decode cL_isAct 266 = .ok (.iconst (-1), 1) := by decide +kernel
theorem dL_isAct_267 : decode cL_isAct 267 = .ok (.istore 9, 2) := by decide +kernel
theorem dL_isAct_269 : decode cL_isAct 269 = .ok (.aload_n 0, 1) := by decide +kernel
theorem dL_isAct_270 : decode cL_isAct 270 = .ok (.iload 4, 2) := by decide +kernel
theorem dL_isAct_272 : decode cL_isAct 272 = .ok (.iconst 1, 1) := by decide +kernel
theorem dL_isAct_273 : decode cL_isAct 273 = .ok (.aload_n 1, 1) := by decide +kernel
theorem dL_isAct_274 : decode cL_isAct 274 = .ok (.iload_n 2, 1) := by decide +kernel
theorem dL_isAct_275 : decode cL_isAct 275 = .ok (.iconst 2, 1) := by decide +kernel
theorem dL_isAct_276 : decode cL_isAct 276 = .ok (.iadd, 1) := by decide +kernel
theorem dL_isAct_277 : decode cL_isAct 277 = .ok (.bipush 40, 2) := by decide +kernel
theorem dL_isAct_279 : decode cL_isAct 279 = .ok (.invokestatic 69, 3) := by decide +kernel
theorem dL_isAct_282 : decode cL_isAct 282 = .ok (.iadd, 1) := by decide +kernel
theorem dL_isAct_283 : decode cL_isAct 283 = .ok (.invokevirtual 98, 3) := by decide +kernel
theorem dL_isAct_286 : decode cL_isAct 286 = .ok (.iload 9, 2) := by decide +kernel
theorem dL_isAct_288 : decode cL_isAct 288 = .ok (.if_icmp .ne 34, 3) := by decide +kernel
theorem dL_isAct_291 : decode cL_isAct 291 = .ok (.iload 4, 2) := by decide +kernel
theorem dL_isAct_293 : decode cL_isAct 293 = .ok (.iload_n 3, 1) := by decide +kernel
theorem dL_isAct_294 : decode cL_isAct 294 = .ok (.if_icmp .eq 24, 3) := by decide +kernel
theorem dL_isAct_297 : decode cL_isAct 297 = .ok (.aload_n 0, 1) := by decide +kernel
theorem dL_isAct_298 : decode cL_isAct 298 = .ok (.iload 4, 2) := by decide +kernel
theorem dL_isAct_300 : decode cL_isAct 300 = .ok (.iconst 1, 1) := by decide +kernel
theorem dL_isAct_301 : decode cL_isAct 301 = .ok (.invokevirtual 20, 3) := by decide +kernel
theorem dL_isAct_304 : decode cL_isAct 304 = .ok (.iconst 1, 1) := by decide +kernel
theorem dL_isAct_305 : decode cL_isAct 305 = .ok (.aload_n 1, 1) := by decide +kernel
theorem dL_isAct_306 : decode cL_isAct 306 = .ok (.iload_n 2, 1) := by decide +kernel
theorem dL_isAct_307 : decode cL_isAct 307 = .ok (.iconst 2, 1) := by decide +kernel
theorem dL_isAct_308 : decode cL_isAct 308 = .ok (.iadd, 1) := by decide +kernel
theorem dL_isAct_309 : decode cL_isAct 309 = .ok (.bipush 40, 2) := by decide +kernel
theorem dL_isAct_311 : decode cL_isAct 311 = .ok (.invokestatic 69, 3) := by decide +kernel
theorem dL_isAct_314 : decode cL_isAct 314 = .ok (.iadd, 1) := by decide +kernel
theorem dL_isAct_315 : decode cL_isAct 315 = .ok (.if_icmp .ne 7, 3) := by decide +kernel
theorem dL_isAct_318 : decode cL_isAct 318 = .ok (.iconst 1, 1) := by decide +kernel
theorem dL_isAct_319 : decode cL_isAct 319 = .ok (.goto 4, 3) := by decide +kernel
theorem dL_isAct_322 : decode cL_isAct 322 = .ok (.iconst 0, 1) := by decide +kernel
theorem dL_isAct_323 : decode cL_isAct 323 = .ok (.ireturn, 1) := by decide +kernel
theorem dL_isAct_324 : decode cL_isAct 324 = .ok (.aload_n 0, 1) := by decide +kernel
theorem dL_isAct_325 : decode cL_isAct 325 = .ok (.iload 4, 2) := by decide +kernel
theorem dL_isAct_327 : decode cL_isAct 327 = .ok (.aload_n 1, 1) := by decide +kernel
theorem dL_isAct_328 : decode cL_isAct 328 = .ok (.iload_n 2, 1) := by decide +kernel
theorem dL_isAct_329 : decode cL_isAct 329 = .ok (.iconst 2, 1) := by decide +kernel
theorem dL_isAct_330 : decode cL_isAct 330 = .ok (.iadd, 1) := by decide +kernel
theorem dL_isAct_331 : decode cL_isAct 331 = .ok (.invokestatic 83, 3) := by decide +kernel
theorem dL_isAct_334 : decode cL_isAct 334 = .ok (.invokestatic 101, 3) := by decide +kernel
theorem dL_isAct_337 : decode cL_isAct 337 = .ok (.ireturn, 1) := by decide +kernel
theorem dL_isAct_338 : decode cL_isAct 338 = .ok (.iload_n 3, 1) := by decide +kernel
theorem dL_isAct_339 : decode cL_isAct 339 = .ok (.iconst 3, 1) := by decide +kernel
theorem dL_isAct_340 : decode cL_isAct 340 = .ok (.if_icmp .lt 12, 3) := by decide +kernel
theorem dL_isAct_343 : decode cL_isAct 343 = .ok (.aload_n 0, 1) := by decide +kernel
theorem dL_isAct_344 : decode cL_isAct 344 = .ok (.iload 4, 2) := by decide +kernel
theorem dL_isAct_346 : decode cL_isAct 346 = .ok (.invokestatic 104, 3) := by decide +kernel
theorem dL_isAct_349 : decode cL_isAct 349 = .ok (.ifCond .eq 7, 3) := by decide +kernel
theorem dL_isAct_352 : decode cL_isAct 352 = .ok (.iconst 1, 1) := by decide +kernel
theorem dL_isAct_353 : decode cL_isAct 353 = .ok (.goto 4, 3) := by decide +kernel
theorem dL_isAct_356 : decode cL_isAct 356 = .ok (.iconst 0, 1) := by decide +kernel
theorem dL_isAct_357 : decode cL_isAct 357 = .ok (.ireturn, 1) := by decide +kernel
theorem dL_law_0 : decode cL_law 0 = .ok (.new 9, 3) := by decide +kernel
theorem dL_law_3 : decode cL_law 3 = .ok (.dup, 1) := by decide +kernel
theorem dL_law_4 : decode cL_law 4 = .ok (.invokespecial 108, 3) := by decide +kernel
theorem dL_law_7 : decode cL_law 7 = .ok (.astore_n 1, 1) := by decide +kernel
theorem dL_law_8 : decode cL_law 8 = .ok (.iconst 0, 1) := by decide +kernel
theorem dL_law_9 : decode cL_law 9 = .ok (.istore_n 2, 1) := by decide +kernel
theorem dL_law_10 : decode cL_law 10 = .ok (.iload_n 2, 1) := by decide +kernel
theorem dL_law_11 : decode cL_law 11 = .ok (.bipush 6, 2) := by decide +kernel
theorem dL_law_13 : decode cL_law 13 = .ok (.if_icmp .ge 37, 3) := by decide +kernel
theorem dL_law_16 : decode cL_law 16 = .ok (.aload_n 1, 1) := by decide +kernel
theorem dL_law_17 : decode cL_law 17 = .ok (.aload_n 0, 1) := by decide +kernel
theorem dL_law_18 : decode cL_law 18 = .ok (.iconst 3, 1) := by decide +kernel
theorem dL_law_19 : decode cL_law 19 = .ok (.iload_n 2, 1) := by decide +kernel
theorem dL_law_20 : decode cL_law 20 = .ok (.imul, 1) := by decide +kernel
theorem dL_law_21 : decode cL_law 21 = .ok (.invokestatic 83, 3) := by decide +kernel
theorem dL_law_24 : decode cL_law 24 = .ok (.iconst 1, 1) := by decide +kernel
theorem dL_law_25 : decode cL_law 25 = .ok (.aload_n 0, 1) := by decide +kernel
theorem dL_law_26 : decode cL_law 26 = .ok (.bipush 18, 2) := by decide +kernel
theorem dL_law_28 : decode cL_law 28 = .ok (.iload_n 2, 1) := by decide +kernel
theorem dL_law_29 : decode cL_law 29 = .ok (.iadd, 1) := by decide +kernel
theorem dL_law_30 : decode cL_law 30 = .ok (.bipush 25, 2) := by decide +kernel
theorem dL_law_32 : decode cL_law 32 = .ok (.invokestatic 69, 3) := by decide +kernel
theorem dL_law_35 : decode cL_law 35 = .ok (.iadd, 1) := by decide +kernel
theorem dL_law_36 : decode cL_law 36 = .ok (.invokestatic 87, 3) := by decide +kernel
theorem dL_law_39 : decode cL_law 39 = .ok (.ifCond .ne 5, 3) := by decide +kernel
theorem dL_law_42 : decode cL_law 42 = .ok (.iconst 0, 1) := by decide +kernel
theorem dL_law_43 : decode cL_law 43 = .ok (.ireturn, 1) := by decide +kernel
theorem dL_law_44 : decode cL_law 44 = .ok (.iinc 2 1, 3) := by decide +kernel
theorem dL_law_47 : decode cL_law 47 = .ok (.goto (-37), 3) := by decide +kernel
theorem dL_law_50 : decode cL_law 50 = .ok (.aload_n 1, 1) := by decide +kernel
theorem dL_law_51 : decode cL_law 51 = .ok (.aload_n 0, 1) := by decide +kernel
theorem dL_law_52 : decode cL_law 52 = .ok (.bipush 24, 2) := by decide +kernel
theorem dL_law_54 : decode cL_law 54 = .ok (.sipush 512, 3) := by decide +kernel
theorem dL_law_57 : decode cL_law 57 = .ok (.invokestatic 69, 3) := by decide +kernel
theorem dL_law_60 : decode cL_law 60 = .ok (.invokevirtual 92, 3) := by decide +kernel
theorem dL_law_63 : decode cL_law 63 = .ok (.pop, 1) := by decide +kernel
theorem dL_law_64 : decode cL_law 64 = .ok (.iconst 0, 1) := by decide +kernel
theorem dL_law_65 : decode cL_law 65 = .ok (.istore_n 2, 1) := by decide +kernel
theorem dL_law_66 : decode cL_law 66 = .ok (.iload_n 2, 1) := by decide +kernel
theorem dL_law_67 : decode cL_law 67 = .ok (.bipush 30, 2) := by decide +kernel
theorem dL_law_69 : decode cL_law 69 = .ok (.if_icmp .ge 33, 3) := by decide +kernel
theorem dL_law_72 : decode cL_law 72 = .ok (.aload_n 1, 1) := by decide +kernel
theorem dL_law_73 : decode cL_law 73 = .ok (.aload_n 0, 1) := by decide +kernel
theorem dL_law_74 : decode cL_law 74 = .ok (.bipush 25, 2) := by decide +kernel
theorem dL_law_76 : decode cL_law 76 = .ok (.bipush 6, 2) := by decide +kernel
theorem dL_law_78 : decode cL_law 78 = .ok (.iload_n 2, 1) := by decide +kernel
theorem dL_law_79 : decode cL_law 79 = .ok (.imul, 1) := by decide +kernel
theorem dL_law_80 : decode cL_law 80 = .ok (.iadd, 1) := by decide +kernel
theorem dL_law_81 : decode cL_law 81 = .ok (.invokestatic 109, 3) := by decide +kernel
theorem dL_law_84 : decode cL_law 84 = .ok (.ifCond .eq 10, 3) := by decide +kernel
theorem dL_law_87 : decode cL_law 87 = .ok (.aload_n 1, 1) := by decide +kernel
theorem dL_law_88 : decode cL_law 88 = .ok (.invokestatic 113, 3) := by decide +kernel
theorem dL_law_91 : decode cL_law 91 = .ok (.ifCond .ne 5, 3) := by decide +kernel
theorem dL_law_94 : decode cL_law 94 = .ok (.iconst 0, 1) := by decide +kernel
theorem dL_law_95 : decode cL_law 95 = .ok (.ireturn, 1) := by decide +kernel
theorem dL_law_96 : decode cL_law 96 = .ok (.iinc 2 1, 3) := by decide +kernel
theorem dL_law_99 : decode cL_law 99 = .ok (.goto (-33), 3) := by decide +kernel
theorem dL_law_102 : decode cL_law 102 = .ok (.iconst 1, 1) := by decide +kernel
theorem dL_law_103 : decode cL_law 103 = .ok (.ireturn, 1) := by decide +kernel
abbrev vwCl : List vw_C := [(RX0, TX0, 2), (RX1, TX1, 2), (RX2, TX2, 8), (RX3, TX3, 6), (RX4, TX4, 10), (RX5, TX5, 2), (RX6, TX6, 5), (RX7, TX7, 9), (RX8, TX8, 7)]
end
section
/-! the words of the tables that the contracts speak of: all that are kept by calls (wsL_law, by the kit's test), and the nest mates' links (wsN) -/
def wsL_law : List Cond := lw_tbl.filter goodWord
theorem wsL_gi : GoodIn lw_tbl wsL_law := fun w h => ⟨(List.mem_filter.mp h).1, good_of_word (List.mem_filter.mp h).2⟩
theorem wsL_law_in : ∀ w ∈ wsL_law, w ∈ lw_tbl := fun w h => (List.mem_filter.mp h).1
def jNest : Cond → Bool
  | .fieldLinkNest .. => true
  | .methodLinkNest .. => true
  | _ => false
def wsN : List Cond := lw_tbl.filter jNest
theorem wsN_in : ∀ w ∈ wsN, w ∈ lw_tbl := fun w h => (List.mem_filter.mp h).1
theorem wA {w : Cond} (h : w ∈ lw_tbl) (hg : goodWord w = true) : w ∈ wsL_law := List.mem_filter.mpr ⟨h, hg⟩
theorem wB {w : Cond} (h : w ∈ lw_tbl) (hg : jNest w = true) : w ∈ wsN := List.mem_filter.mpr ⟨h, hg⟩
theorem wT1 {w : Cond} (i : Nat) (h : tables_1_1[i]? = some w) : w ∈ lw_tbl := List.mem_append_right _ (List.mem_append_left _ (List.mem_of_getElem? h))
theorem wT2 {w : Cond} (i : Nat) (h : tables_1_2[i]? = some w) : w ∈ lw_tbl := List.mem_append_right _ (List.mem_append_right _ (List.mem_append_left _ (List.mem_of_getElem? h)))
theorem wT3 {w : Cond} (i : Nat) (h : tables_1_3[i]? = some w) : w ∈ lw_tbl := List.mem_append_right _ (List.mem_append_right _ (List.mem_append_right _ (List.mem_of_getElem? h)))
theorem mw0 : Cond.selects RX1 yX1_forgetOldest yX1_forgetOldest ∈ wsL_law := wA (List.mem_append_left _ (List.mem_map.mpr ⟨((yX1_forgetOldest, 2) : MethodName × Nat), (List.mem_of_getElem? (i := 0) rfl), rfl⟩)) rfl
theorem mw1 : Cond.selects RX8 yX8_ofSetByShares yX8_ofSetByShares ∈ wsL_law := wA (List.mem_append_left _ (List.mem_map.mpr ⟨((yX8_ofSetByShares, 7) : MethodName × Nat), (List.mem_of_getElem? (i := 1) rfl), rfl⟩)) rfl
theorem mw2 : Cond.selects RX4 yX4_begin yX4_begin ∈ wsL_law := wA (List.mem_append_left _ (List.mem_map.mpr ⟨((yX4_begin, 10) : MethodName × Nat), (List.mem_of_getElem? (i := 2) rfl), rfl⟩)) rfl
theorem mw3 : Cond.selects RX4 yX4_makeRound yX4_makeRound ∈ wsL_law := wA (List.mem_append_left _ (List.mem_map.mpr ⟨((yX4_makeRound, 10) : MethodName × Nat), (List.mem_of_getElem? (i := 3) rfl), rfl⟩)) rfl
theorem mw4 : Cond.selects RX4 yX4_fillSetsWith yX4_fillSetsWith ∈ wsL_law := wA (List.mem_append_left _ (List.mem_map.mpr ⟨((yX4_fillSetsWith, 10) : MethodName × Nat), (List.mem_of_getElem? (i := 4) rfl), rfl⟩)) rfl
theorem mw5 : Cond.selects RX4 yX4_becomeTight yX4_becomeTight ∈ wsL_law := wA (List.mem_append_left _ (List.mem_map.mpr ⟨((yX4_becomeTight, 10) : MethodName × Nat), (List.mem_of_getElem? (i := 5) rfl), rfl⟩)) rfl
theorem mw6 : Cond.selects RX4 yX4_dropInReverse yX4_dropInReverse ∈ wsL_law := wA (List.mem_append_left _ (List.mem_map.mpr ⟨((yX4_dropInReverse, 10) : MethodName × Nat), (List.mem_of_getElem? (i := 6) rfl), rfl⟩)) rfl
theorem mw7 : Cond.selects RX8 yX8_shareOf yX8_shareOf ∈ wsL_law := wA (List.mem_append_left _ (List.mem_map.mpr ⟨((yX8_shareOf, 7) : MethodName × Nat), (List.mem_of_getElem? (i := 7) rfl), rfl⟩)) rfl
theorem mw8 : Cond.selects RX7 yX7_noteFree yX7_noteFree ∈ wsL_law := wA (List.mem_append_left _ (List.mem_map.mpr ⟨((yX7_noteFree, 9) : MethodName × Nat), (List.mem_of_getElem? (i := 8) rfl), rfl⟩)) rfl
theorem mw9 : Cond.selects RX7 yX7_join yX7_join ∈ wsL_law := wA (List.mem_append_left _ (List.mem_map.mpr ⟨((yX7_join, 9) : MethodName × Nat), (List.mem_of_getElem? (i := 9) rfl), rfl⟩)) rfl
theorem mw10 : Cond.selects RX3 yX3_findLeastMissingOne yX3_findLeastMissingOne ∈ wsL_law := wA (List.mem_append_left _ (List.mem_map.mpr ⟨((yX3_findLeastMissingOne, 6) : MethodName × Nat), (List.mem_of_getElem? (i := 10) rfl), rfl⟩)) rfl
theorem mw11 : Cond.selects RX3 yX3_noteMissingOne yX3_noteMissingOne ∈ wsL_law := wA (List.mem_append_left _ (List.mem_map.mpr ⟨((yX3_noteMissingOne, 6) : MethodName × Nat), (List.mem_of_getElem? (i := 11) rfl), rfl⟩)) rfl
theorem mw12 : Cond.initialized RL ∈ wsL_law := wA (wT1 0 rfl) rfl
theorem mw13 : Cond.initialized RX8 ∈ wsL_law := wA (wT1 1 rfl) rfl
theorem mw14 : Cond.initialized RX6 ∈ wsL_law := wA (wT1 2 rfl) rfl
theorem mw15 : Cond.initialized RX1 ∈ wsL_law := wA (wT1 3 rfl) rfl
theorem mw16 : Cond.initialized RX5 ∈ wsL_law := wA (wT1 4 rfl) rfl
theorem mw17 : Cond.initialized RX2 ∈ wsL_law := wA (wT1 5 rfl) rfl
theorem mw18 : Cond.initialized RX4 ∈ wsL_law := wA (wT1 6 rfl) rfl
theorem mw19 : Cond.initialized RX0 ∈ wsL_law := wA (wT1 7 rfl) rfl
theorem mw20 : Cond.initialized RX3 ∈ wsL_law := wA (wT1 8 rfl) rfl
theorem mw21 : Cond.initialized RX7 ∈ wsL_law := wA (wT1 9 rfl) rfl
theorem mw22 : Cond.initialized RJ6 ∈ wsL_law := wA (wT1 10 rfl) rfl
theorem mw23 : Cond.initialized RJ9 ∈ wsL_law := wA (wT1 11 rfl) rfl
theorem mw24 : Cond.initialized RJ7 ∈ wsL_law := wA (wT1 12 rfl) rfl
theorem mw25 : Cond.classLink RL 9 RX8 ∈ wsL_law := wA (wT1 13 rfl) rfl
theorem mw26 : Cond.instantiable RX8 7 ∈ wsL_law := wA (wT1 14 rfl) rfl
theorem mw27 : Cond.methodLink RL 108 yX8_init ∈ wsL_law := wA (wT1 15 rfl) rfl
theorem mw28 : Cond.instanceMethod yX8_init ∈ wsL_law := wA (wT1 16 rfl) rfl
theorem mw29 : Cond.code yX8_init cX8_init 1 none ∈ wsL_law := wA (wT1 17 rfl) rfl
theorem mw30 : Cond.methodLink RX8 3 objectInit ∈ wsL_law := wA (wT1 18 rfl) rfl
theorem mw31 : Cond.instanceMethod objectInit ∈ wsL_law := wA (wT1 19 rfl) rfl
theorem mw32 : Cond.code objectInit object_method_1_code 1 none ∈ wsL_law := wA (wT1 20 rfl) rfl
theorem mw33 : Cond.classLink RX8 9 RX6 ∈ wsL_law := wA (wT1 21 rfl) rfl
theorem mw34 : Cond.instantiable RX6 5 ∈ wsL_law := wA (wT1 22 rfl) rfl
theorem mw35 : Cond.methodLinkNest RX8 11 yX6_init "CoverShares" ∈ wsN := wB (wT1 23 rfl) rfl
theorem mw36 : Cond.instanceMethod yX6_init ∈ wsL_law := wA (wT1 24 rfl) rfl
theorem mw37 : Cond.code yX6_init cX6_init 1 none ∈ wsL_law := wA (wT1 25 rfl) rfl
theorem mw38 : Cond.methodLink RX6 3 objectInit ∈ wsL_law := wA (wT1 26 rfl) rfl
theorem mw39 : Cond.fieldLink RX6 9 "CoverShares$State" "needed" "I" ∈ wsL_law := wA (wT1 27 rfl) rfl
theorem mw40 : Cond.fieldLinkNest RX7 40 "CoverShares$State" "needed" "I" "CoverShares" ∈ wsN := wB (wT1 28 rfl) rfl
theorem mw41 : Cond.fieldLinkNest RX8 63 "CoverShares$State" "needed" "I" "CoverShares" ∈ wsN := wB (wT1 29 rfl) rfl
theorem mw42 : Cond.fieldLinkNest RX3 78 "CoverShares$State" "needed" "I" "CoverShares" ∈ wsN := wB (wT1 30 rfl) rfl
theorem mw43 : Cond.fieldLink RX6 15 "CoverShares$State" "size" "I" ∈ wsL_law := wA (wT1 31 rfl) rfl
theorem mw44 : Cond.fieldLinkNest RX7 49 "CoverShares$State" "size" "I" "CoverShares" ∈ wsN := wB (wT1 32 rfl) rfl
theorem mw45 : Cond.fieldLinkNest RX0 31 "CoverShares$State" "size" "I" "CoverShares" ∈ wsN := wB (wT1 33 rfl) rfl
theorem mw46 : Cond.fieldLinkNest RX8 74 "CoverShares$State" "size" "I" "CoverShares" ∈ wsN := wB (wT1 34 rfl) rfl
theorem mw47 : Cond.fieldLinkNest RX4 76 "CoverShares$State" "size" "I" "CoverShares" ∈ wsN := wB (wT1 35 rfl) rfl
theorem mw48 : Cond.fieldLink RX6 18 "CoverShares$State" "things" "[I" ∈ wsL_law := wA (wT1 36 rfl) rfl
theorem mw49 : Cond.fieldLinkNest RX7 55 "CoverShares$State" "things" "[I" "CoverShares" ∈ wsN := wB (wT1 37 rfl) rfl
theorem mw50 : Cond.fieldLinkNest RX0 34 "CoverShares$State" "things" "[I" "CoverShares" ∈ wsN := wB (wT1 38 rfl) rfl
theorem mw51 : Cond.fieldLinkNest RX4 82 "CoverShares$State" "things" "[I" "CoverShares" ∈ wsN := wB (wT1 39 rfl) rfl
theorem mw52 : Cond.fieldLinkNest RX8 91 "CoverShares$State" "things" "[I" "CoverShares" ∈ wsN := wB (wT1 40 rfl) rfl
theorem mw53 : Cond.fieldLink RX6 22 "CoverShares$State" "prices" "[I" ∈ wsL_law := wA (wT1 41 rfl) rfl
theorem mw54 : Cond.fieldLinkNest RX7 56 "CoverShares$State" "prices" "[I" "CoverShares" ∈ wsN := wB (wT1 42 rfl) rfl
theorem mw55 : Cond.fieldLinkNest RX0 46 "CoverShares$State" "prices" "[I" "CoverShares" ∈ wsN := wB (wT1 43 rfl) rfl
theorem mw56 : Cond.fieldLinkNest RX8 84 "CoverShares$State" "prices" "[I" "CoverShares" ∈ wsN := wB (wT1 44 rfl) rfl
theorem mw57 : Cond.fieldLinkNest RX4 85 "CoverShares$State" "prices" "[I" "CoverShares" ∈ wsN := wB (wT1 45 rfl) rfl
theorem mw58 : Cond.fieldLink RX6 25 "CoverShares$State" "marks" "[I" ∈ wsL_law := wA (wT1 46 rfl) rfl
theorem mw59 : Cond.fieldLinkNest RX7 52 "CoverShares$State" "marks" "[I" "CoverShares" ∈ wsN := wB (wT1 47 rfl) rfl
theorem mw60 : Cond.fieldLinkNest RX0 43 "CoverShares$State" "marks" "[I" "CoverShares" ∈ wsN := wB (wT1 48 rfl) rfl
theorem mw61 : Cond.fieldLinkNest RX4 79 "CoverShares$State" "marks" "[I" "CoverShares" ∈ wsN := wB (wT1 49 rfl) rfl
theorem mw62 : Cond.fieldLinkNest RX8 88 "CoverShares$State" "marks" "[I" "CoverShares" ∈ wsN := wB (wT1 50 rfl) rfl
theorem mw63 : Cond.lays RX6 "CoverShares$State" "needed" "I" ∈ wsL_law := wA (wT1 51 rfl) rfl
theorem mw64 : Cond.lays RX6 "CoverShares$State" "size" "I" ∈ wsL_law := wA (wT1 53 rfl) rfl
theorem mw65 : Cond.laysFinal RX6 "CoverShares$State" "things" "[I" ∈ wsL_law := wA (wT1 55 rfl) rfl
theorem mw66 : Cond.laysFinal RX6 "CoverShares$State" "prices" "[I" ∈ wsL_law := wA (wT1 57 rfl) rfl
theorem mw67 : Cond.laysFinal RX6 "CoverShares$State" "marks" "[I" ∈ wsL_law := wA (wT1 59 rfl) rfl
theorem mw68 : Cond.arrayClass FieldType.int ∈ wsL_law := wA (wT1 62 rfl) rfl
theorem mw69 : Cond.classLink RX8 16 RX1 ∈ wsL_law := wA (wT1 63 rfl) rfl
theorem mw70 : Cond.instantiable RX1 2 ∈ wsL_law := wA (wT1 64 rfl) rfl
theorem mw71 : Cond.methodLink RX8 18 yX1_init ∈ wsL_law := wA (wT1 65 rfl) rfl
theorem mw72 : Cond.instanceMethod yX1_init ∈ wsL_law := wA (wT1 66 rfl) rfl
theorem mw73 : Cond.code yX1_init cX1_init 2 none ∈ wsL_law := wA (wT1 67 rfl) rfl
theorem mw74 : Cond.methodLink RX1 1 objectInit ∈ wsL_law := wA (wT1 68 rfl) rfl
theorem mw75 : Cond.classLink RX1 13 RX6 ∈ wsL_law := wA (wT1 69 rfl) rfl
theorem mw76 : Cond.methodLinkNest RX1 19 yX6_init "CoverShares" ∈ wsN := wB (wT1 71 rfl) rfl
theorem mw77 : Cond.fieldLink RX1 7 "CoverShares$History" "size" "I" ∈ wsL_law := wA (wT1 72 rfl) rfl
theorem mw78 : Cond.fieldLinkNest RX8 157 "CoverShares$History" "size" "I" "CoverShares" ∈ wsN := wB (wT1 73 rfl) rfl
theorem mw79 : Cond.fieldLink RX1 15 "CoverShares$History" "states" "[LCoverShares$State;" ∈ wsL_law := wA (wT1 74 rfl) rfl
theorem mw80 : Cond.lays RX1 "CoverShares$History" "size" "I" ∈ wsL_law := wA (wT1 75 rfl) rfl
theorem mw81 : Cond.laysFinal RX1 "CoverShares$History" "states" "[LCoverShares$State;" ∈ wsL_law := wA (wT1 77 rfl) rfl
theorem mw82 : Cond.classLink RX8 23 RX5 ∈ wsL_law := wA (wT1 80 rfl) rfl
theorem mw83 : Cond.instantiable RX5 2 ∈ wsL_law := wA (wT1 81 rfl) rfl
theorem mw84 : Cond.methodLink RX8 25 yX5_init ∈ wsL_law := wA (wT1 82 rfl) rfl
theorem mw85 : Cond.instanceMethod yX5_init ∈ wsL_law := wA (wT1 83 rfl) rfl
theorem mw86 : Cond.code yX5_init cX5_init 2 none ∈ wsL_law := wA (wT1 84 rfl) rfl
theorem mw87 : Cond.methodLink RX5 3 objectInit ∈ wsL_law := wA (wT1 85 rfl) rfl
theorem mw88 : Cond.classLink RX5 9 RX6 ∈ wsL_law := wA (wT1 86 rfl) rfl
theorem mw89 : Cond.methodLinkNest RX5 21 yX6_init "CoverShares" ∈ wsN := wB (wT1 87 rfl) rfl
theorem mw90 : Cond.fieldLink RX5 11 "CoverShares$Slots" "states" "[LCoverShares$State;" ∈ wsL_law := wA (wT1 88 rfl) rfl
theorem mw91 : Cond.fieldLink RX5 17 "CoverShares$Slots" "kept" "[Z" ∈ wsL_law := wA (wT1 89 rfl) rfl
theorem mw92 : Cond.laysFinal RX5 "CoverShares$Slots" "states" "[LCoverShares$State;" ∈ wsL_law := wA (wT1 90 rfl) rfl
theorem mw93 : Cond.laysFinal RX5 "CoverShares$Slots" "kept" "[Z" ∈ wsL_law := wA (wT1 92 rfl) rfl
theorem mw94 : Cond.arrayClass FieldType.boolean ∈ wsL_law := wA (wT1 95 rfl) rfl
theorem mw95 : Cond.classLink RX8 30 RX2 ∈ wsL_law := wA (wT1 96 rfl) rfl
theorem mw96 : Cond.instantiable RX2 8 ∈ wsL_law := wA (wT1 97 rfl) rfl
theorem mw97 : Cond.methodLinkNest RX8 32 yX2_init "CoverShares" ∈ wsN := wB (wT1 98 rfl) rfl
theorem mw98 : Cond.instanceMethod yX2_init ∈ wsL_law := wA (wT1 99 rfl) rfl
theorem mw99 : Cond.code yX2_init cX2_init 1 none ∈ wsL_law := wA (wT1 100 rfl) rfl
theorem mw100 : Cond.methodLink RX2 5 objectInit ∈ wsL_law := wA (wT1 101 rfl) rfl
theorem mw101 : Cond.fieldLink RX2 11 "CoverShares$Pad" "length" "I" ∈ wsL_law := wA (wT1 102 rfl) rfl
theorem mw102 : Cond.fieldLinkNest RX8 101 "CoverShares$Pad" "length" "I" "CoverShares" ∈ wsN := wB (wT1 103 rfl) rfl
theorem mw103 : Cond.fieldLink RX2 15 "CoverShares$Pad" "signs" "[C" ∈ wsL_law := wA (wT1 104 rfl) rfl
theorem mw104 : Cond.fieldLink RX2 19 "CoverShares$Pad" "sets" "I" ∈ wsL_law := wA (wT1 105 rfl) rfl
theorem mw105 : Cond.fieldLink RX2 22 "CoverShares$Pad" "things" "[I" ∈ wsL_law := wA (wT1 106 rfl) rfl
theorem mw106 : Cond.fieldLink RX2 26 "CoverShares$Pad" "prices" "[I" ∈ wsL_law := wA (wT1 107 rfl) rfl
theorem mw107 : Cond.fieldLink RX2 29 "CoverShares$Pad" "inNumber" "Z" ∈ wsL_law := wA (wT1 108 rfl) rfl
theorem mw108 : Cond.fieldLink RX2 33 "CoverShares$Pad" "letters" "I" ∈ wsL_law := wA (wT1 109 rfl) rfl
theorem mw109 : Cond.fieldLink RX2 36 "CoverShares$Pad" "number" "I" ∈ wsL_law := wA (wT1 110 rfl) rfl
theorem mw110 : Cond.lays RX2 "CoverShares$Pad" "length" "I" ∈ wsL_law := wA (wT1 111 rfl) rfl
theorem mw111 : Cond.laysFinal RX2 "CoverShares$Pad" "signs" "[C" ∈ wsL_law := wA (wT1 113 rfl) rfl
theorem mw112 : Cond.lays RX2 "CoverShares$Pad" "sets" "I" ∈ wsL_law := wA (wT1 115 rfl) rfl
theorem mw113 : Cond.laysFinal RX2 "CoverShares$Pad" "things" "[I" ∈ wsL_law := wA (wT1 117 rfl) rfl
theorem mw114 : Cond.laysFinal RX2 "CoverShares$Pad" "prices" "[I" ∈ wsL_law := wA (wT1 119 rfl) rfl
theorem mw115 : Cond.lays RX2 "CoverShares$Pad" "inNumber" "Z" ∈ wsL_law := wA (wT1 121 rfl) rfl
theorem mw116 : Cond.lays RX2 "CoverShares$Pad" "letters" "I" ∈ wsL_law := wA (wT1 123 rfl) rfl
theorem mw117 : Cond.lays RX2 "CoverShares$Pad" "number" "I" ∈ wsL_law := wA (wT1 125 rfl) rfl
theorem mw118 : Cond.arrayClass FieldType.char ∈ wsL_law := wA (wT1 128 rfl) rfl
theorem mw119 : Cond.classLink RX8 37 RX4 ∈ wsL_law := wA (wT1 129 rfl) rfl
theorem mw120 : Cond.instantiable RX4 10 ∈ wsL_law := wA (wT1 130 rfl) rfl
theorem mw121 : Cond.methodLinkNest RX8 39 yX4_init "CoverShares" ∈ wsN := wB (wT1 131 rfl) rfl
theorem mw122 : Cond.instanceMethod yX4_init ∈ wsL_law := wA (wT1 132 rfl) rfl
theorem mw123 : Cond.code yX4_init cX4_init 1 none ∈ wsL_law := wA (wT1 133 rfl) rfl
theorem mw124 : Cond.methodLink RX4 3 objectInit ∈ wsL_law := wA (wT1 134 rfl) rfl
theorem mw125 : Cond.fieldLink RX4 9 "CoverShares$Shares" "open" "I" ∈ wsL_law := wA (wT1 135 rfl) rfl
theorem mw126 : Cond.fieldLink RX4 15 "CoverShares$Shares" "inTight" "I" ∈ wsL_law := wA (wT1 136 rfl) rfl
theorem mw127 : Cond.fieldLink RX4 18 "CoverShares$Shares" "rounds" "I" ∈ wsL_law := wA (wT1 137 rfl) rfl
theorem mw128 : Cond.fieldLinkNest RX8 167 "CoverShares$Shares" "rounds" "I" "CoverShares" ∈ wsN := wB (wT1 138 rfl) rfl
theorem mw129 : Cond.fieldLink RX4 21 "CoverShares$Shares" "tight" "I" ∈ wsL_law := wA (wT1 139 rfl) rfl
theorem mw130 : Cond.fieldLinkNest RX8 132 "CoverShares$Shares" "tight" "I" "CoverShares" ∈ wsN := wB (wT1 140 rfl) rfl
theorem mw131 : Cond.fieldLink RX4 24 "CoverShares$Shares" "tightCount" "I" ∈ wsL_law := wA (wT1 141 rfl) rfl
theorem mw132 : Cond.fieldLinkNest RX8 170 "CoverShares$Shares" "tightCount" "I" "CoverShares" ∈ wsN := wB (wT1 142 rfl) rfl
theorem mw133 : Cond.fieldLink RX4 27 "CoverShares$Shares" "dropped" "I" ∈ wsL_law := wA (wT1 143 rfl) rfl
theorem mw134 : Cond.fieldLinkNest RX8 142 "CoverShares$Shares" "dropped" "I" "CoverShares" ∈ wsN := wB (wT1 144 rfl) rfl
theorem mw135 : Cond.fieldLink RX4 30 "CoverShares$Shares" "raised" "[I" ∈ wsL_law := wA (wT1 145 rfl) rfl
theorem mw136 : Cond.fieldLinkNest RX8 151 "CoverShares$Shares" "raised" "[I" "CoverShares" ∈ wsN := wB (wT1 146 rfl) rfl
theorem mw137 : Cond.fieldLink RX4 34 "CoverShares$Shares" "fillings" "[I" ∈ wsL_law := wA (wT1 147 rfl) rfl
theorem mw138 : Cond.fieldLinkNest RX8 129 "CoverShares$Shares" "fillings" "[I" "CoverShares" ∈ wsN := wB (wT1 148 rfl) rfl
theorem mw139 : Cond.fieldLink RX4 37 "CoverShares$Shares" "places" "[I" ∈ wsL_law := wA (wT1 149 rfl) rfl
theorem mw140 : Cond.fieldLinkNest RX8 139 "CoverShares$Shares" "places" "[I" "CoverShares" ∈ wsN := wB (wT1 150 rfl) rfl
theorem mw141 : Cond.fieldLink RX4 40 "CoverShares$Shares" "order" "[I" ∈ wsL_law := wA (wT1 151 rfl) rfl
theorem mw142 : Cond.lays RX4 "CoverShares$Shares" "open" "I" ∈ wsL_law := wA (wT1 152 rfl) rfl
theorem mw143 : Cond.lays RX4 "CoverShares$Shares" "inTight" "I" ∈ wsL_law := wA (wT1 154 rfl) rfl
theorem mw144 : Cond.lays RX4 "CoverShares$Shares" "rounds" "I" ∈ wsL_law := wA (wT1 156 rfl) rfl
theorem mw145 : Cond.lays RX4 "CoverShares$Shares" "tight" "I" ∈ wsL_law := wA (wT1 158 rfl) rfl
theorem mw146 : Cond.lays RX4 "CoverShares$Shares" "tightCount" "I" ∈ wsL_law := wA (wT1 160 rfl) rfl
theorem mw147 : Cond.lays RX4 "CoverShares$Shares" "dropped" "I" ∈ wsL_law := wA (wT1 162 rfl) rfl
theorem mw148 : Cond.laysFinal RX4 "CoverShares$Shares" "raised" "[I" ∈ wsL_law := wA (wT1 164 rfl) rfl
theorem mw149 : Cond.laysFinal RX4 "CoverShares$Shares" "fillings" "[I" ∈ wsL_law := wA (wT1 166 rfl) rfl
theorem mw150 : Cond.laysFinal RX4 "CoverShares$Shares" "places" "[I" ∈ wsL_law := wA (wT1 168 rfl) rfl
theorem mw151 : Cond.laysFinal RX4 "CoverShares$Shares" "order" "[I" ∈ wsL_law := wA (wT1 170 rfl) rfl
theorem mw152 : Cond.classLink RX8 44 RX0 ∈ wsL_law := wA (wT1 173 rfl) rfl
theorem mw153 : Cond.instantiable RX0 2 ∈ wsL_law := wA (wT1 174 rfl) rfl
theorem mw154 : Cond.methodLinkNest RX8 46 yX0_init "CoverShares" ∈ wsN := wB (wT1 175 rfl) rfl
theorem mw155 : Cond.instanceMethod yX0_init ∈ wsL_law := wA (wT1 176 rfl) rfl
theorem mw156 : Cond.code yX0_init cX0_init 1 none ∈ wsL_law := wA (wT1 177 rfl) rfl
theorem mw157 : Cond.methodLink RX0 3 objectInit ∈ wsL_law := wA (wT1 178 rfl) rfl
theorem mw158 : Cond.fieldLink RX0 9 "CoverShares$Greedy" "chosen" "I" ∈ wsL_law := wA (wT1 179 rfl) rfl
theorem mw159 : Cond.fieldLinkNest RX8 181 "CoverShares$Greedy" "chosen" "I" "CoverShares" ∈ wsN := wB (wT1 180 rfl) rfl
theorem mw160 : Cond.fieldLink RX0 15 "CoverShares$Greedy" "last" "I" ∈ wsL_law := wA (wT1 181 rfl) rfl
theorem mw161 : Cond.fieldLinkNest RX8 184 "CoverShares$Greedy" "last" "I" "CoverShares" ∈ wsN := wB (wT1 182 rfl) rfl
theorem mw162 : Cond.lays RX0 "CoverShares$Greedy" "chosen" "I" ∈ wsL_law := wA (wT1 183 rfl) rfl
theorem mw163 : Cond.lays RX0 "CoverShares$Greedy" "last" "I" ∈ wsL_law := wA (wT1 185 rfl) rfl
theorem mw164 : Cond.classLink RX8 51 RX3 ∈ wsL_law := wA (wT1 188 rfl) rfl
theorem mw165 : Cond.instantiable RX3 6 ∈ wsL_law := wA (wT1 189 rfl) rfl
theorem mw166 : Cond.methodLinkNest RX8 53 yX3_init "CoverShares" ∈ wsN := wB (wT1 190 rfl) rfl
theorem mw167 : Cond.instanceMethod yX3_init ∈ wsL_law := wA (wT1 191 rfl) rfl
theorem mw168 : Cond.code yX3_init cX3_init 1 none ∈ wsL_law := wA (wT1 192 rfl) rfl
theorem mw169 : Cond.methodLink RX3 3 objectInit ∈ wsL_law := wA (wT1 193 rfl) rfl
theorem mw170 : Cond.classLink RX3 9 RX7 ∈ wsL_law := wA (wT1 194 rfl) rfl
theorem mw171 : Cond.instantiable RX7 9 ∈ wsL_law := wA (wT1 195 rfl) rfl
theorem mw172 : Cond.methodLinkNest RX3 11 yX7_init "CoverShares" ∈ wsN := wB (wT1 196 rfl) rfl
theorem mw173 : Cond.instanceMethod yX7_init ∈ wsL_law := wA (wT1 197 rfl) rfl
theorem mw174 : Cond.code yX7_init cX7_init 1 none ∈ wsL_law := wA (wT1 198 rfl) rfl
theorem mw175 : Cond.methodLink RX7 3 objectInit ∈ wsL_law := wA (wT1 199 rfl) rfl
theorem mw176 : Cond.fieldLink RX7 9 "CoverShares$Walk" "needed" "I" ∈ wsL_law := wA (wT1 200 rfl) rfl
theorem mw177 : Cond.fieldLink RX7 15 "CoverShares$Walk" "free" "I" ∈ wsL_law := wA (wT1 201 rfl) rfl
theorem mw178 : Cond.fieldLink RX7 18 "CoverShares$Walk" "freeThings" "[I" ∈ wsL_law := wA (wT1 202 rfl) rfl
theorem mw179 : Cond.fieldLink RX7 22 "CoverShares$Walk" "freePrices" "[I" ∈ wsL_law := wA (wT1 203 rfl) rfl
theorem mw180 : Cond.fieldLink RX7 25 "CoverShares$Walk" "freeMasks" "[I" ∈ wsL_law := wA (wT1 204 rfl) rfl
theorem mw181 : Cond.fieldLink RX7 28 "CoverShares$Walk" "sets" "[I" ∈ wsL_law := wA (wT1 205 rfl) rfl
theorem mw182 : Cond.fieldLink RX7 31 "CoverShares$Walk" "prices" "[I" ∈ wsL_law := wA (wT1 206 rfl) rfl
theorem mw183 : Cond.fieldLink RX7 34 "CoverShares$Walk" "things" "[I" ∈ wsL_law := wA (wT1 207 rfl) rfl
theorem mw184 : Cond.fieldLink RX7 37 "CoverShares$Walk" "thingsTwice" "[I" ∈ wsL_law := wA (wT1 208 rfl) rfl
theorem mw185 : Cond.lays RX7 "CoverShares$Walk" "needed" "I" ∈ wsL_law := wA (wT1 209 rfl) rfl
theorem mw186 : Cond.lays RX7 "CoverShares$Walk" "free" "I" ∈ wsL_law := wA (wT1 211 rfl) rfl
theorem mw187 : Cond.laysFinal RX7 "CoverShares$Walk" "freeThings" "[I" ∈ wsL_law := wA (wT1 213 rfl) rfl
theorem mw188 : Cond.laysFinal RX7 "CoverShares$Walk" "freePrices" "[I" ∈ wsL_law := wA (wT1 215 rfl) rfl
theorem mw189 : Cond.laysFinal RX7 "CoverShares$Walk" "freeMasks" "[I" ∈ wsL_law := wA (wT1 217 rfl) rfl
theorem mw190 : Cond.laysFinal RX7 "CoverShares$Walk" "sets" "[I" ∈ wsL_law := wA (wT1 219 rfl) rfl
theorem mw191 : Cond.laysFinal RX7 "CoverShares$Walk" "prices" "[I" ∈ wsL_law := wA (wT1 221 rfl) rfl
theorem mw192 : Cond.laysFinal RX7 "CoverShares$Walk" "things" "[I" ∈ wsL_law := wA (wT1 223 rfl) rfl
theorem mw193 : Cond.laysFinal RX7 "CoverShares$Walk" "thingsTwice" "[I" ∈ wsL_law := wA (wT1 225 rfl) rfl
theorem mw194 : Cond.fieldLink RX3 12 "CoverShares$Search" "walk" "LCoverShares$Walk;" ∈ wsL_law := wA (wT1 228 rfl) rfl
theorem mw195 : Cond.fieldLink RX3 18 "CoverShares$Search" "leastSets" "I" ∈ wsL_law := wA (wT1 229 rfl) rfl
theorem mw196 : Cond.fieldLinkNest RX8 190 "CoverShares$Search" "leastSets" "I" "CoverShares" ∈ wsN := wB (wT1 230 rfl) rfl
theorem mw197 : Cond.fieldLink RX3 22 "CoverShares$Search" "leastPrice" "I" ∈ wsL_law := wA (wT1 231 rfl) rfl
theorem mw198 : Cond.fieldLinkNest RX8 193 "CoverShares$Search" "leastPrice" "I" "CoverShares" ∈ wsN := wB (wT1 232 rfl) rfl
theorem mw199 : Cond.fieldLink RX3 25 "CoverShares$Search" "dearestThing" "I" ∈ wsL_law := wA (wT1 233 rfl) rfl
theorem mw200 : Cond.fieldLinkNest RX8 210 "CoverShares$Search" "dearestThing" "I" "CoverShares" ∈ wsN := wB (wT1 234 rfl) rfl
theorem mw201 : Cond.fieldLink RX3 28 "CoverShares$Search" "priceWithoutDearest" "I" ∈ wsL_law := wA (wT1 235 rfl) rfl
theorem mw202 : Cond.fieldLinkNest RX8 213 "CoverShares$Search" "priceWithoutDearest" "I" "CoverShares" ∈ wsN := wB (wT1 236 rfl) rfl
theorem mw203 : Cond.fieldLink RX3 31 "CoverShares$Search" "leastMissingOne" "[I" ∈ wsL_law := wA (wT1 237 rfl) rfl
theorem mw204 : Cond.laysFinal RX3 "CoverShares$Search" "walk" "LCoverShares$Walk;" ∈ wsL_law := wA (wT1 238 rfl) rfl
theorem mw205 : Cond.lays RX3 "CoverShares$Search" "leastSets" "I" ∈ wsL_law := wA (wT2 0 rfl) rfl
theorem mw206 : Cond.lays RX3 "CoverShares$Search" "leastPrice" "I" ∈ wsL_law := wA (wT2 2 rfl) rfl
theorem mw207 : Cond.lays RX3 "CoverShares$Search" "dearestThing" "I" ∈ wsL_law := wA (wT2 4 rfl) rfl
theorem mw208 : Cond.lays RX3 "CoverShares$Search" "priceWithoutDearest" "I" ∈ wsL_law := wA (wT2 6 rfl) rfl
theorem mw209 : Cond.laysFinal RX3 "CoverShares$Search" "leastMissingOne" "[I" ∈ wsL_law := wA (wT2 8 rfl) rfl
theorem mw210 : Cond.fieldLink RX8 12 "CoverShares" "now" "LCoverShares$State;" ∈ wsL_law := wA (wT2 11 rfl) rfl
theorem mw211 : Cond.fieldLink RX8 19 "CoverShares" "history" "LCoverShares$History;" ∈ wsL_law := wA (wT2 12 rfl) rfl
theorem mw212 : Cond.fieldLink RX8 26 "CoverShares" "slots" "LCoverShares$Slots;" ∈ wsL_law := wA (wT2 13 rfl) rfl
theorem mw213 : Cond.fieldLink RX8 33 "CoverShares" "pad" "LCoverShares$Pad;" ∈ wsL_law := wA (wT2 14 rfl) rfl
theorem mw214 : Cond.fieldLink RX8 40 "CoverShares" "shares" "LCoverShares$Shares;" ∈ wsL_law := wA (wT2 15 rfl) rfl
theorem mw215 : Cond.fieldLink RX8 47 "CoverShares" "byRate" "LCoverShares$Greedy;" ∈ wsL_law := wA (wT2 16 rfl) rfl
theorem mw216 : Cond.fieldLink RX8 54 "CoverShares" "search" "LCoverShares$Search;" ∈ wsL_law := wA (wT2 17 rfl) rfl
theorem mw217 : Cond.laysFinal RX8 "CoverShares" "now" "LCoverShares$State;" ∈ wsL_law := wA (wT2 18 rfl) rfl
theorem mw218 : Cond.laysFinal RX8 "CoverShares" "history" "LCoverShares$History;" ∈ wsL_law := wA (wT2 20 rfl) rfl
theorem mw219 : Cond.laysFinal RX8 "CoverShares" "slots" "LCoverShares$Slots;" ∈ wsL_law := wA (wT2 22 rfl) rfl
theorem mw220 : Cond.laysFinal RX8 "CoverShares" "pad" "LCoverShares$Pad;" ∈ wsL_law := wA (wT2 24 rfl) rfl
theorem mw221 : Cond.laysFinal RX8 "CoverShares" "shares" "LCoverShares$Shares;" ∈ wsL_law := wA (wT2 26 rfl) rfl
theorem mw222 : Cond.laysFinal RX8 "CoverShares" "byRate" "LCoverShares$Greedy;" ∈ wsL_law := wA (wT2 28 rfl) rfl
theorem mw223 : Cond.laysFinal RX8 "CoverShares" "search" "LCoverShares$Search;" ∈ wsL_law := wA (wT2 30 rfl) rfl
theorem mw224 : Cond.methodLink RL 92 yX8_need ∈ wsL_law := wA (wT2 33 rfl) rfl
theorem mw225 : Cond.instanceMethod yX8_need ∈ wsL_law := wA (wT2 34 rfl) rfl
theorem mw226 : Cond.selects RX8 yX8_need yX8_need ∈ wsL_law := wA (wT2 35 rfl) rfl
theorem mw227 : Cond.code yX8_need cX8_need 3 (some .int) ∈ wsL_law := wA (wT2 36 rfl) rfl
theorem mw228 : Cond.constant RX8 58 (262143 : Int32) ∈ wsL_law := wA (wT2 37 rfl) rfl
theorem mw229 : Cond.methodLink RX8 59 yX1_record ∈ wsL_law := wA (wT2 38 rfl) rfl
theorem mw230 : Cond.instanceMethod yX1_record ∈ wsL_law := wA (wT2 39 rfl) rfl
theorem mw231 : Cond.selects RX1 yX1_record yX1_record ∈ wsL_law := wA (wT2 40 rfl) rfl
theorem mw232 : Cond.code yX1_record cX1_record 2 none ∈ wsL_law := wA (wT2 41 rfl) rfl
theorem mw233 : Cond.methodLink RX1 20 yX1_forgetOldest ∈ wsL_law := wA (wT2 42 rfl) rfl
theorem mw234 : Cond.instanceMethod yX1_forgetOldest ∈ wsL_law := wA (wT2 44 rfl) rfl
theorem mw235 : Cond.code yX1_forgetOldest cX1_forgetOldest 3 none ∈ wsL_law := wA (wT2 45 rfl) rfl
theorem mw236 : Cond.methodLink RX1 23 yX6_copyFrom ∈ wsL_law := wA (wT2 46 rfl) rfl
theorem mw237 : Cond.instanceMethod yX6_copyFrom ∈ wsL_law := wA (wT2 47 rfl) rfl
theorem mw238 : Cond.selects RX6 yX6_copyFrom yX6_copyFrom ∈ wsL_law := wA (wT2 48 rfl) rfl
theorem mw239 : Cond.code yX6_copyFrom cX6_copyFrom 3 none ∈ wsL_law := wA (wT2 49 rfl) rfl
theorem mw240 : Cond.methodLink RL 69 yL_cell ∈ wsL_law := wA (wT2 50 rfl) rfl
theorem mw241 : Cond.static yL_cell ∈ wsL_law := wA (wT2 51 rfl) rfl
theorem mw242 : Cond.code yL_cell method_2_code 3 (some .int) ∈ wsL_law := wA (wT2 52 rfl) rfl
theorem mw243 : Cond.constant RL 7 (4194303 : Int32) ∈ wsL_law := wA (wT2 53 rfl) rfl
theorem mw244 : Cond.methodLink RL 113 yL_agree ∈ wsL_law := wA (wT2 54 rfl) rfl
theorem mw245 : Cond.static yL_agree ∈ wsL_law := wA (wT2 55 rfl) rfl
theorem mw246 : Cond.code yL_agree method_10_code 10 (some .boolean) ∈ wsL_law := wA (wT2 56 rfl) rfl
theorem mw247 : Cond.methodLink RL 8 yX8_count ∈ wsL_law := wA (wT2 57 rfl) rfl
theorem mw248 : Cond.instanceMethod yX8_count ∈ wsL_law := wA (wT2 58 rfl) rfl
theorem mw249 : Cond.selects RX8 yX8_count yX8_count ∈ wsL_law := wA (wT2 59 rfl) rfl
theorem mw250 : Cond.code yX8_count cX8_count 2 (some .int) ∈ wsL_law := wA (wT2 60 rfl) rfl
theorem mw251 : Cond.methodLink RX8 122 yX6_hasCover ∈ wsL_law := wA (wT2 61 rfl) rfl
theorem mw252 : Cond.instanceMethod yX6_hasCover ∈ wsL_law := wA (wT2 62 rfl) rfl
theorem mw253 : Cond.selects RX6 yX6_hasCover yX6_hasCover ∈ wsL_law := wA (wT2 63 rfl) rfl
theorem mw254 : Cond.code yX6_hasCover cX6_hasCover 1 (some .boolean) ∈ wsL_law := wA (wT2 64 rfl) rfl
theorem mw255 : Cond.methodLink RX6 39 yX6_notBarred ∈ wsL_law := wA (wT2 65 rfl) rfl
theorem mw256 : Cond.instanceMethod yX6_notBarred ∈ wsL_law := wA (wT2 66 rfl) rfl
theorem mw257 : Cond.selects RX6 yX6_notBarred yX6_notBarred ∈ wsL_law := wA (wT2 67 rfl) rfl
theorem mw258 : Cond.code yX6_notBarred cX6_notBarred 1 (some .int) ∈ wsL_law := wA (wT2 68 rfl) rfl
theorem mw259 : Cond.methodLink RX6 28 yX6_marked ∈ wsL_law := wA (wT2 69 rfl) rfl
theorem mw260 : Cond.instanceMethod yX6_marked ∈ wsL_law := wA (wT2 70 rfl) rfl
theorem mw261 : Cond.selects RX6 yX6_marked yX6_marked ∈ wsL_law := wA (wT2 71 rfl) rfl
theorem mw262 : Cond.code yX6_marked cX6_marked 4 (some .int) ∈ wsL_law := wA (wT2 72 rfl) rfl
theorem mw263 : Cond.methodLink RX6 43 yX6_missingIn ∈ wsL_law := wA (wT2 73 rfl) rfl
theorem mw264 : Cond.instanceMethod yX6_missingIn ∈ wsL_law := wA (wT2 74 rfl) rfl
theorem mw265 : Cond.selects RX6 yX6_missingIn yX6_missingIn ∈ wsL_law := wA (wT2 75 rfl) rfl
theorem mw266 : Cond.code yX6_missingIn cX6_missingIn 2 (some .int) ∈ wsL_law := wA (wT2 76 rfl) rfl
theorem mw267 : Cond.methodLink RX6 36 yX6_thingsOf ∈ wsL_law := wA (wT2 77 rfl) rfl
theorem mw268 : Cond.instanceMethod yX6_thingsOf ∈ wsL_law := wA (wT2 78 rfl) rfl
theorem mw269 : Cond.selects RX6 yX6_thingsOf yX6_thingsOf ∈ wsL_law := wA (wT2 79 rfl) rfl
theorem mw270 : Cond.code yX6_thingsOf cX6_thingsOf 4 (some .int) ∈ wsL_law := wA (wT2 80 rfl) rfl
theorem mw271 : Cond.methodLinkNest RX6 32 yX8_has "CoverShares" ∈ wsN := wB (wT2 81 rfl) rfl
theorem mw272 : Cond.static yX8_has ∈ wsL_law := wA (wT2 82 rfl) rfl
theorem mw273 : Cond.code yX8_has cX8_has 2 (some .boolean) ∈ wsL_law := wA (wT2 83 rfl) rfl
theorem mw274 : Cond.methodLink RX8 154 yX6_mostSetsWithOneThing ∈ wsL_law := wA (wT2 84 rfl) rfl
theorem mw275 : Cond.instanceMethod yX6_mostSetsWithOneThing ∈ wsL_law := wA (wT2 85 rfl) rfl
theorem mw276 : Cond.selects RX6 yX6_mostSetsWithOneThing yX6_mostSetsWithOneThing ∈ wsL_law := wA (wT2 86 rfl) rfl
theorem mw277 : Cond.code yX6_mostSetsWithOneThing cX6_mostSetsWithOneThing 4 (some .int) ∈ wsL_law := wA (wT2 87 rfl) rfl
theorem mw278 : Cond.methodLink RX6 46 yX6_setsWith ∈ wsL_law := wA (wT2 88 rfl) rfl
theorem mw279 : Cond.instanceMethod yX6_setsWith ∈ wsL_law := wA (wT2 89 rfl) rfl
theorem mw280 : Cond.selects RX6 yX6_setsWith yX6_setsWith ∈ wsL_law := wA (wT2 90 rfl) rfl
theorem mw281 : Cond.code yX6_setsWith cX6_setsWith 4 (some .int) ∈ wsL_law := wA (wT2 91 rfl) rfl
theorem mw282 : Cond.methodLink RX6 49 yJ6_bitCount_0f7a4 ∈ wsL_law := wA (wT2 92 rfl) rfl
theorem mw283 : Cond.static yJ6_bitCount_0f7a4 ∈ wsL_law := wA (wT2 93 rfl) rfl
theorem mw284 : Cond.code yJ6_bitCount_0f7a4 cJ6_bitCount_0f7a4 1 (some .int) ∈ wsL_law := wA (wT2 94 rfl) rfl
theorem mw285 : Cond.constant RJ6 265 (1431655765 : Int32) ∈ wsL_law := wA (wT2 95 rfl) rfl
theorem mw286 : Cond.constant RJ6 266 (858993459 : Int32) ∈ wsL_law := wA (wT2 96 rfl) rfl
theorem mw287 : Cond.constant RJ6 267 (252645135 : Int32) ∈ wsL_law := wA (wT2 97 rfl) rfl
theorem mw288 : Cond.methodLink RX6 54 yJ9_max_7cf53 ∈ wsL_law := wA (wT2 98 rfl) rfl
theorem mw289 : Cond.static yJ9_max_7cf53 ∈ wsL_law := wA (wT2 99 rfl) rfl
theorem mw290 : Cond.code yJ9_max_7cf53 cJ9_max_7cf53 2 (some .int) ∈ wsL_law := wA (wT2 100 rfl) rfl
theorem mw291 : Cond.methodLink RL 24 yL_marked ∈ wsL_law := wA (wT2 101 rfl) rfl
theorem mw292 : Cond.static yL_marked ∈ wsL_law := wA (wT2 102 rfl) rfl
theorem mw293 : Cond.code yL_marked method_6_code 4 (some .int) ∈ wsL_law := wA (wT2 103 rfl) rfl
theorem mw294 : Cond.methodLink RL 20 yX8_ofSet ∈ wsL_law := wA (wT2 104 rfl) rfl
theorem mw295 : Cond.instanceMethod yX8_ofSet ∈ wsL_law := wA (wT2 105 rfl) rfl
theorem mw296 : Cond.selects RX8 yX8_ofSet yX8_ofSet ∈ wsL_law := wA (wT2 106 rfl) rfl
theorem mw297 : Cond.code yX8_ofSet cX8_ofSet 3 (some .int) ∈ wsL_law := wA (wT2 107 rfl) rfl
theorem mw298 : Cond.methodLink RX8 81 yX6_hasSet ∈ wsL_law := wA (wT2 108 rfl) rfl
theorem mw299 : Cond.instanceMethod yX6_hasSet ∈ wsL_law := wA (wT2 109 rfl) rfl
theorem mw300 : Cond.selects RX6 yX6_hasSet yX6_hasSet ∈ wsL_law := wA (wT2 110 rfl) rfl
theorem mw301 : Cond.code yX6_hasSet cX6_hasSet 2 (some .boolean) ∈ wsL_law := wA (wT2 111 rfl) rfl
theorem mw302 : Cond.methodLink RX8 114 yX8_ofSetByShares ∈ wsL_law := wA (wT2 112 rfl) rfl
theorem mw303 : Cond.instanceMethod yX8_ofSetByShares ∈ wsL_law := wA (wT2 114 rfl) rfl
theorem mw304 : Cond.code yX8_ofSetByShares cX8_ofSetByShares 3 (some .int) ∈ wsL_law := wA (wT2 115 rfl) rfl
theorem mw305 : Cond.methodLink RX8 126 yX4_raiseAll ∈ wsL_law := wA (wT2 116 rfl) rfl
theorem mw306 : Cond.instanceMethod yX4_raiseAll ∈ wsL_law := wA (wT2 117 rfl) rfl
theorem mw307 : Cond.selects RX4 yX4_raiseAll yX4_raiseAll ∈ wsL_law := wA (wT2 118 rfl) rfl
theorem mw308 : Cond.code yX4_raiseAll cX4_raiseAll 3 none ∈ wsL_law := wA (wT2 119 rfl) rfl
theorem mw309 : Cond.methodLink RX4 43 yX4_begin ∈ wsL_law := wA (wT2 120 rfl) rfl
theorem mw310 : Cond.instanceMethod yX4_begin ∈ wsL_law := wA (wT2 122 rfl) rfl
theorem mw311 : Cond.code yX4_begin cX4_begin 2 none ∈ wsL_law := wA (wT2 123 rfl) rfl
theorem mw312 : Cond.methodLink RX4 53 yX6_marked ∈ wsL_law := wA (wT2 124 rfl) rfl
theorem mw313 : Cond.methodLink RX4 59 yX6_missingIn ∈ wsL_law := wA (wT2 125 rfl) rfl
theorem mw314 : Cond.methodLink RX4 62 yJ7_fill_53178 ∈ wsL_law := wA (wT2 126 rfl) rfl
theorem mw315 : Cond.static yJ7_fill_53178 ∈ wsL_law := wA (wT2 127 rfl) rfl
theorem mw316 : Cond.code yJ7_fill_53178 cJ7_fill_53178 4 none ∈ wsL_law := wA (wT2 128 rfl) rfl
theorem mw317 : Cond.methodLink RX4 47 yX4_makeRound ∈ wsL_law := wA (wT2 129 rfl) rfl
theorem mw318 : Cond.instanceMethod yX4_makeRound ∈ wsL_law := wA (wT2 131 rfl) rfl
theorem mw319 : Cond.code yX4_makeRound cX4_makeRound 3 none ∈ wsL_law := wA (wT2 132 rfl) rfl
theorem mw320 : Cond.methodLinkNest RX4 68 yX8_has "CoverShares" ∈ wsN := wB (wT2 133 rfl) rfl
theorem mw321 : Cond.methodLink RX4 72 yX4_fillSetsWith ∈ wsL_law := wA (wT2 134 rfl) rfl
theorem mw322 : Cond.instanceMethod yX4_fillSetsWith ∈ wsL_law := wA (wT2 136 rfl) rfl
theorem mw323 : Cond.code yX4_fillSetsWith cX4_fillSetsWith 4 none ∈ wsL_law := wA (wT2 137 rfl) rfl
theorem mw324 : Cond.methodLink RX4 88 yX4_becomeTight ∈ wsL_law := wA (wT2 138 rfl) rfl
theorem mw325 : Cond.instanceMethod yX4_becomeTight ∈ wsL_law := wA (wT2 140 rfl) rfl
theorem mw326 : Cond.code yX4_becomeTight cX4_becomeTight 3 none ∈ wsL_law := wA (wT2 141 rfl) rfl
theorem mw327 : Cond.methodLink RX4 50 yX4_dropInReverse ∈ wsL_law := wA (wT2 142 rfl) rfl
theorem mw328 : Cond.instanceMethod yX4_dropInReverse ∈ wsL_law := wA (wT2 144 rfl) rfl
theorem mw329 : Cond.code yX4_dropInReverse cX4_dropInReverse 4 none ∈ wsL_law := wA (wT2 145 rfl) rfl
theorem mw330 : Cond.methodLink RX4 92 yX6_thingsOf ∈ wsL_law := wA (wT2 146 rfl) rfl
theorem mw331 : Cond.methodLink RX8 135 yX8_has ∈ wsL_law := wA (wT2 147 rfl) rfl
theorem mw332 : Cond.methodLink RX8 118 yX6_neededAlone ∈ wsL_law := wA (wT2 148 rfl) rfl
theorem mw333 : Cond.instanceMethod yX6_neededAlone ∈ wsL_law := wA (wT2 149 rfl) rfl
theorem mw334 : Cond.selects RX6 yX6_neededAlone yX6_neededAlone ∈ wsL_law := wA (wT2 150 rfl) rfl
theorem mw335 : Cond.code yX6_neededAlone cX6_neededAlone 3 (some .int) ∈ wsL_law := wA (wT2 151 rfl) rfl
theorem mw336 : Cond.methodLink RL 28 yL_union ∈ wsL_law := wA (wT2 152 rfl) rfl
theorem mw337 : Cond.static yL_union ∈ wsL_law := wA (wT2 153 rfl) rfl
theorem mw338 : Cond.code yL_union method_5_code 4 (some .int) ∈ wsL_law := wA (wT2 154 rfl) rfl
theorem mw339 : Cond.methodLink RL 14 yL_has ∈ wsL_law := wA (wT2 155 rfl) rfl
theorem mw340 : Cond.static yL_has ∈ wsL_law := wA (wT2 156 rfl) rfl
theorem mw341 : Cond.code yL_has method_3_code 2 (some .boolean) ∈ wsL_law := wA (wT2 157 rfl) rfl
theorem mw342 : Cond.methodLink RL 40 yL_ones ∈ wsL_law := wA (wT2 158 rfl) rfl
theorem mw343 : Cond.static yL_ones ∈ wsL_law := wA (wT2 159 rfl) rfl
theorem mw344 : Cond.code yL_ones method_4_code 3 (some .int) ∈ wsL_law := wA (wT2 160 rfl) rfl
theorem mw345 : Cond.methodLink RL 31 yX8_ofThing ∈ wsL_law := wA (wT2 161 rfl) rfl
theorem mw346 : Cond.instanceMethod yX8_ofThing ∈ wsL_law := wA (wT2 162 rfl) rfl
theorem mw347 : Cond.selects RX8 yX8_ofThing yX8_ofThing ∈ wsL_law := wA (wT2 163 rfl) rfl
theorem mw348 : Cond.code yX8_ofThing cX8_ofThing 3 (some .int) ∈ wsL_law := wA (wT2 164 rfl) rfl
theorem mw349 : Cond.methodLink RX8 145 yX6_setsWith ∈ wsL_law := wA (wT2 165 rfl) rfl
theorem mw350 : Cond.methodLink RX8 148 yX8_shareOf ∈ wsL_law := wA (wT2 166 rfl) rfl
theorem mw351 : Cond.instanceMethod yX8_shareOf ∈ wsL_law := wA (wT2 168 rfl) rfl
theorem mw352 : Cond.code yX8_shareOf cX8_shareOf 2 (some .int) ∈ wsL_law := wA (wT2 169 rfl) rfl
theorem mw353 : Cond.methodLink RL 43 yX8_check ∈ wsL_law := wA (wT2 170 rfl) rfl
theorem mw354 : Cond.instanceMethod yX8_check ∈ wsL_law := wA (wT2 171 rfl) rfl
theorem mw355 : Cond.selects RX8 yX8_check yX8_check ∈ wsL_law := wA (wT2 172 rfl) rfl
theorem mw356 : Cond.code yX8_check cX8_check 2 (some .int) ∈ wsL_law := wA (wT2 173 rfl) rfl
theorem mw357 : Cond.methodLink RX8 216 yX6_isCover ∈ wsL_law := wA (wT2 174 rfl) rfl
theorem mw358 : Cond.instanceMethod yX6_isCover ∈ wsL_law := wA (wT2 175 rfl) rfl
theorem mw359 : Cond.selects RX6 yX6_isCover yX6_isCover ∈ wsL_law := wA (wT2 176 rfl) rfl
theorem mw360 : Cond.code yX6_isCover cX6_isCover 3 (some .boolean) ∈ wsL_law := wA (wT2 177 rfl) rfl
theorem mw361 : Cond.methodLink RX8 161 yX6_priceOf ∈ wsL_law := wA (wT2 178 rfl) rfl
theorem mw362 : Cond.instanceMethod yX6_priceOf ∈ wsL_law := wA (wT2 179 rfl) rfl
theorem mw363 : Cond.selects RX6 yX6_priceOf yX6_priceOf ∈ wsL_law := wA (wT2 180 rfl) rfl
theorem mw364 : Cond.code yX6_priceOf cX6_priceOf 4 (some .int) ∈ wsL_law := wA (wT2 181 rfl) rfl
theorem mw365 : Cond.methodLink RL 37 yL_prices ∈ wsL_law := wA (wT2 182 rfl) rfl
theorem mw366 : Cond.static yL_prices ∈ wsL_law := wA (wT2 183 rfl) rfl
theorem mw367 : Cond.code yL_prices method_7_code 4 (some .int) ∈ wsL_law := wA (wT2 184 rfl) rfl
theorem mw368 : Cond.methodLink RL 34 yX8_shared ∈ wsL_law := wA (wT2 185 rfl) rfl
theorem mw369 : Cond.instanceMethod yX8_shared ∈ wsL_law := wA (wT2 186 rfl) rfl
theorem mw370 : Cond.selects RX8 yX8_shared yX8_shared ∈ wsL_law := wA (wT2 187 rfl) rfl
theorem mw371 : Cond.code yX8_shared cX8_shared 4 (some .int) ∈ wsL_law := wA (wT2 188 rfl) rfl
theorem mw372 : Cond.methodLink RX8 158 yX6_marked ∈ wsL_law := wA (wT2 189 rfl) rfl
theorem mw373 : Cond.methodLink RX8 164 yX4_sum ∈ wsL_law := wA (wT2 190 rfl) rfl
theorem mw374 : Cond.instanceMethod yX4_sum ∈ wsL_law := wA (wT2 191 rfl) rfl
theorem mw375 : Cond.selects RX4 yX4_sum yX4_sum ∈ wsL_law := wA (wT2 192 rfl) rfl
theorem mw376 : Cond.code yX4_sum cX4_sum 3 (some .int) ∈ wsL_law := wA (wT2 193 rfl) rfl
theorem mw377 : Cond.methodLink RX8 173 yJ6_bitCount_0f7a4 ∈ wsL_law := wA (wT2 194 rfl) rfl
theorem mw378 : Cond.methodLink RL 49 yX8_greedy ∈ wsL_law := wA (wT2 195 rfl) rfl
theorem mw379 : Cond.instanceMethod yX8_greedy ∈ wsL_law := wA (wT2 196 rfl) rfl
theorem mw380 : Cond.selects RX8 yX8_greedy yX8_greedy ∈ wsL_law := wA (wT2 197 rfl) rfl
theorem mw381 : Cond.code yX8_greedy cX8_greedy 2 (some .int) ∈ wsL_law := wA (wT2 198 rfl) rfl
theorem mw382 : Cond.methodLink RX8 178 yX0_choose ∈ wsL_law := wA (wT2 199 rfl) rfl
theorem mw383 : Cond.instanceMethod yX0_choose ∈ wsL_law := wA (wT2 200 rfl) rfl
theorem mw384 : Cond.selects RX0 yX0_choose yX0_choose ∈ wsL_law := wA (wT2 201 rfl) rfl
theorem mw385 : Cond.code yX0_choose cX0_choose 4 none ∈ wsL_law := wA (wT2 202 rfl) rfl
theorem mw386 : Cond.methodLink RX0 18 yX6_marked ∈ wsL_law := wA (wT2 203 rfl) rfl
theorem mw387 : Cond.methodLink RX0 24 yX6_missingIn ∈ wsL_law := wA (wT2 204 rfl) rfl
theorem mw388 : Cond.methodLink RX0 27 yX0_bestByRate ∈ wsL_law := wA (wT2 205 rfl) rfl
theorem mw389 : Cond.static yX0_bestByRate ∈ wsL_law := wA (wT2 206 rfl) rfl
theorem mw390 : Cond.code yX0_bestByRate cX0_bestByRate 7 (some .int) ∈ wsL_law := wA (wT2 207 rfl) rfl
theorem mw391 : Cond.methodLink RX0 38 yJ6_bitCount_0f7a4 ∈ wsL_law := wA (wT2 208 rfl) rfl
theorem mw392 : Cond.methodLink RL 46 yX8_least ∈ wsL_law := wA (wT2 209 rfl) rfl
theorem mw393 : Cond.instanceMethod yX8_least ∈ wsL_law := wA (wT2 210 rfl) rfl
theorem mw394 : Cond.selects RX8 yX8_least yX8_least ∈ wsL_law := wA (wT2 211 rfl) rfl
theorem mw395 : Cond.code yX8_least cX8_least 2 (some .int) ∈ wsL_law := wA (wT2 212 rfl) rfl
theorem mw396 : Cond.methodLink RX8 187 yX3_findLeast ∈ wsL_law := wA (wT2 213 rfl) rfl
theorem mw397 : Cond.instanceMethod yX3_findLeast ∈ wsL_law := wA (wT2 214 rfl) rfl
theorem mw398 : Cond.selects RX3 yX3_findLeast yX3_findLeast ∈ wsL_law := wA (wT2 215 rfl) rfl
theorem mw399 : Cond.code yX3_findLeast cX3_findLeast 4 none ∈ wsL_law := wA (wT2 216 rfl) rfl
theorem mw400 : Cond.methodLink RX3 35 yX7_begin ∈ wsL_law := wA (wT2 217 rfl) rfl
theorem mw401 : Cond.instanceMethod yX7_begin ∈ wsL_law := wA (wT2 218 rfl) rfl
theorem mw402 : Cond.selects RX7 yX7_begin yX7_begin ∈ wsL_law := wA (wT2 219 rfl) rfl
theorem mw403 : Cond.code yX7_begin cX7_begin 4 (some .int) ∈ wsL_law := wA (wT2 220 rfl) rfl
theorem mw404 : Cond.methodLink RX7 43 yJ7_fill_53178 ∈ wsL_law := wA (wT2 221 rfl) rfl
theorem mw405 : Cond.methodLink RX7 57 yX7_noteFree ∈ wsL_law := wA (wT2 222 rfl) rfl
theorem mw406 : Cond.instanceMethod yX7_noteFree ∈ wsL_law := wA (wT2 224 rfl) rfl
theorem mw407 : Cond.code yX7_noteFree cX7_noteFree 4 none ∈ wsL_law := wA (wT2 225 rfl) rfl
theorem mw408 : Cond.methodLink RX7 61 yX7_join ∈ wsL_law := wA (wT2 226 rfl) rfl
theorem mw409 : Cond.instanceMethod yX7_join ∈ wsL_law := wA (wT2 228 rfl) rfl
theorem mw410 : Cond.code yX7_join cX7_join 6 none ∈ wsL_law := wA (wT2 229 rfl) rfl
theorem mw411 : Cond.constant RX3 39 (1000000 : Int32) ∈ wsL_law := wA (wT2 230 rfl) rfl
theorem mw412 : Cond.methodLink RX3 40 yX7_goTo ∈ wsL_law := wA (wT2 231 rfl) rfl
theorem mw413 : Cond.instanceMethod yX7_goTo ∈ wsL_law := wA (wT2 232 rfl) rfl
theorem mw414 : Cond.selects RX7 yX7_goTo yX7_goTo ∈ wsL_law := wA (wT2 233 rfl) rfl
theorem mw415 : Cond.code yX7_goTo cX7_goTo 4 none ∈ wsL_law := wA (wT2 234 rfl) rfl
theorem mw416 : Cond.methodLink RX7 65 yJ6_numberOfTrailingZeros_0f7a4 ∈ wsL_law := wA (wT2 235 rfl) rfl
theorem mw417 : Cond.static yJ6_numberOfTrailingZeros_0f7a4 ∈ wsL_law := wA (wT2 236 rfl) rfl
theorem mw418 : Cond.code yJ6_numberOfTrailingZeros_0f7a4 cJ6_numberOfTrailingZeros_0f7a4 2 (some .int) ∈ wsL_law := wA (wT2 237 rfl) rfl
theorem mw419 : Cond.constant RJ6 264 (65536 : Int32) ∈ wsL_law := wA (wT2 238 rfl) rfl
theorem mw420 : Cond.methodLink RX3 44 yX7_isFullCover ∈ wsL_law := wA (wT2 239 rfl) rfl
theorem mw421 : Cond.instanceMethod yX7_isFullCover ∈ wsL_law := wA (wT3 0 rfl) rfl
theorem mw422 : Cond.selects RX7 yX7_isFullCover yX7_isFullCover ∈ wsL_law := wA (wT3 1 rfl) rfl
theorem mw423 : Cond.code yX7_isFullCover cX7_isFullCover 1 (some .boolean) ∈ wsL_law := wA (wT3 2 rfl) rfl
theorem mw424 : Cond.methodLink RX7 71 yX7_missing ∈ wsL_law := wA (wT3 3 rfl) rfl
theorem mw425 : Cond.instanceMethod yX7_missing ∈ wsL_law := wA (wT3 4 rfl) rfl
theorem mw426 : Cond.selects RX7 yX7_missing yX7_missing ∈ wsL_law := wA (wT3 5 rfl) rfl
theorem mw427 : Cond.code yX7_missing cX7_missing 1 (some .int) ∈ wsL_law := wA (wT3 6 rfl) rfl
theorem mw428 : Cond.methodLink RX3 48 yX7_sum ∈ wsL_law := wA (wT3 7 rfl) rfl
theorem mw429 : Cond.instanceMethod yX7_sum ∈ wsL_law := wA (wT3 8 rfl) rfl
theorem mw430 : Cond.selects RX7 yX7_sum yX7_sum ∈ wsL_law := wA (wT3 9 rfl) rfl
theorem mw431 : Cond.code yX7_sum cX7_sum 1 (some .int) ∈ wsL_law := wA (wT3 10 rfl) rfl
theorem mw432 : Cond.methodLink RX3 52 yX7_chosen ∈ wsL_law := wA (wT3 11 rfl) rfl
theorem mw433 : Cond.instanceMethod yX7_chosen ∈ wsL_law := wA (wT3 12 rfl) rfl
theorem mw434 : Cond.selects RX7 yX7_chosen yX7_chosen ∈ wsL_law := wA (wT3 13 rfl) rfl
theorem mw435 : Cond.code yX7_chosen cX7_chosen 1 (some .int) ∈ wsL_law := wA (wT3 14 rfl) rfl
theorem mw436 : Cond.methodLink RL 52 yX8_covers ∈ wsL_law := wA (wT3 15 rfl) rfl
theorem mw437 : Cond.instanceMethod yX8_covers ∈ wsL_law := wA (wT3 16 rfl) rfl
theorem mw438 : Cond.selects RX8 yX8_covers yX8_covers ∈ wsL_law := wA (wT3 17 rfl) rfl
theorem mw439 : Cond.code yX8_covers cX8_covers 2 (some .int) ∈ wsL_law := wA (wT3 18 rfl) rfl
theorem mw440 : Cond.methodLink RX8 196 yX3_countUpTo ∈ wsL_law := wA (wT3 19 rfl) rfl
theorem mw441 : Cond.instanceMethod yX3_countUpTo ∈ wsL_law := wA (wT3 20 rfl) rfl
theorem mw442 : Cond.selects RX3 yX3_countUpTo yX3_countUpTo ∈ wsL_law := wA (wT3 21 rfl) rfl
theorem mw443 : Cond.code yX3_countUpTo cX3_countUpTo 6 (some .int) ∈ wsL_law := wA (wT3 22 rfl) rfl
theorem mw444 : Cond.methodLink RL 55 yX8_tightCovers ∈ wsL_law := wA (wT3 23 rfl) rfl
theorem mw445 : Cond.instanceMethod yX8_tightCovers ∈ wsL_law := wA (wT3 24 rfl) rfl
theorem mw446 : Cond.selects RX8 yX8_tightCovers yX8_tightCovers ∈ wsL_law := wA (wT3 25 rfl) rfl
theorem mw447 : Cond.code yX8_tightCovers cX8_tightCovers 1 (some .int) ∈ wsL_law := wA (wT3 26 rfl) rfl
theorem mw448 : Cond.methodLink RX8 200 yX3_countTight ∈ wsL_law := wA (wT3 27 rfl) rfl
theorem mw449 : Cond.instanceMethod yX3_countTight ∈ wsL_law := wA (wT3 28 rfl) rfl
theorem mw450 : Cond.selects RX3 yX3_countTight yX3_countTight ∈ wsL_law := wA (wT3 29 rfl) rfl
theorem mw451 : Cond.code yX3_countTight cX3_countTight 5 (some .int) ∈ wsL_law := wA (wT3 30 rfl) rfl
theorem mw452 : Cond.methodLink RX3 55 yX7_hasNoSpareSet ∈ wsL_law := wA (wT3 31 rfl) rfl
theorem mw453 : Cond.instanceMethod yX7_hasNoSpareSet ∈ wsL_law := wA (wT3 32 rfl) rfl
theorem mw454 : Cond.selects RX7 yX7_hasNoSpareSet yX7_hasNoSpareSet ∈ wsL_law := wA (wT3 33 rfl) rfl
theorem mw455 : Cond.code yX7_hasNoSpareSet cX7_hasNoSpareSet 3 (some .boolean) ∈ wsL_law := wA (wT3 34 rfl) rfl
theorem mw456 : Cond.methodLink RL 59 yX8_dearest ∈ wsL_law := wA (wT3 35 rfl) rfl
theorem mw457 : Cond.instanceMethod yX8_dearest ∈ wsL_law := wA (wT3 36 rfl) rfl
theorem mw458 : Cond.selects RX8 yX8_dearest yX8_dearest ∈ wsL_law := wA (wT3 37 rfl) rfl
theorem mw459 : Cond.code yX8_dearest cX8_dearest 2 (some .int) ∈ wsL_law := wA (wT3 38 rfl) rfl
theorem mw460 : Cond.methodLink RX8 207 yX3_findDearest ∈ wsL_law := wA (wT3 39 rfl) rfl
theorem mw461 : Cond.instanceMethod yX3_findDearest ∈ wsL_law := wA (wT3 40 rfl) rfl
theorem mw462 : Cond.selects RX3 yX3_findDearest yX3_findDearest ∈ wsL_law := wA (wT3 41 rfl) rfl
theorem mw463 : Cond.code yX3_findDearest cX3_findDearest 4 none ∈ wsL_law := wA (wT3 42 rfl) rfl
theorem mw464 : Cond.methodLink RX3 74 yX3_findLeastMissingOne ∈ wsL_law := wA (wT3 43 rfl) rfl
theorem mw465 : Cond.instanceMethod yX3_findLeastMissingOne ∈ wsL_law := wA (wT3 45 rfl) rfl
theorem mw466 : Cond.code yX3_findLeastMissingOne cX3_findLeastMissingOne 5 none ∈ wsL_law := wA (wT3 46 rfl) rfl
theorem mw467 : Cond.methodLink RX3 81 yJ7_fill_53178 ∈ wsL_law := wA (wT3 47 rfl) rfl
theorem mw468 : Cond.methodLink RX3 87 yX7_missing ∈ wsL_law := wA (wT3 48 rfl) rfl
theorem mw469 : Cond.methodLink RX3 62 yJ9_min_7cf53 ∈ wsL_law := wA (wT3 49 rfl) rfl
theorem mw470 : Cond.static yJ9_min_7cf53 ∈ wsL_law := wA (wT3 50 rfl) rfl
theorem mw471 : Cond.code yJ9_min_7cf53 cJ9_min_7cf53 2 (some .int) ∈ wsL_law := wA (wT3 51 rfl) rfl
theorem mw472 : Cond.methodLink RX3 90 yJ6_bitCount_0f7a4 ∈ wsL_law := wA (wT3 52 rfl) rfl
theorem mw473 : Cond.methodLink RX3 95 yJ6_numberOfTrailingZeros_0f7a4 ∈ wsL_law := wA (wT3 53 rfl) rfl
theorem mw474 : Cond.methodLink RX3 98 yX3_noteMissingOne ∈ wsL_law := wA (wT3 54 rfl) rfl
theorem mw475 : Cond.instanceMethod yX3_noteMissingOne ∈ wsL_law := wA (wT3 56 rfl) rfl
theorem mw476 : Cond.code yX3_noteMissingOne cX3_noteMissingOne 3 none ∈ wsL_law := wA (wT3 57 rfl) rfl
theorem mw477 : Cond.methodLinkNest RX3 58 yX8_has "CoverShares" ∈ wsN := wB (wT3 58 rfl) rfl
theorem mw478 : Cond.methodLink RL 62 yL_areShares ∈ wsL_law := wA (wT3 59 rfl) rfl
theorem mw479 : Cond.static yL_areShares ∈ wsL_law := wA (wT3 60 rfl) rfl
theorem mw480 : Cond.code yL_areShares method_8_code 18 (some .boolean) ∈ wsL_law := wA (wT3 61 rfl) rfl
theorem mw481 : Cond.methodLink RL 66 yL_isGreedy ∈ wsL_law := wA (wT3 62 rfl) rfl
theorem mw482 : Cond.static yL_isGreedy ∈ wsL_law := wA (wT3 63 rfl) rfl
theorem mw483 : Cond.code yL_isGreedy method_9_code 10 (some .boolean) ∈ wsL_law := wA (wT3 64 rfl) rfl
theorem mw484 : Cond.methodLink RL 83 yL_things ∈ wsL_law := wA (wT3 65 rfl) rfl
theorem mw485 : Cond.static yL_things ∈ wsL_law := wA (wT3 66 rfl) rfl
theorem mw486 : Cond.code yL_things method_11_code 2 (some .int) ∈ wsL_law := wA (wT3 67 rfl) rfl
theorem mw487 : Cond.constant RL 73 (262143 : Int32) ∈ wsL_law := wA (wT3 68 rfl) rfl
theorem mw488 : Cond.methodLink RL 87 yL_isMade ∈ wsL_law := wA (wT3 69 rfl) rfl
theorem mw489 : Cond.static yL_isMade ∈ wsL_law := wA (wT3 70 rfl) rfl
theorem mw490 : Cond.code yL_isMade method_12_code 5 (some .boolean) ∈ wsL_law := wA (wT3 71 rfl) rfl
theorem mw491 : Cond.methodLink RL 74 yX8_set ∈ wsL_law := wA (wT3 72 rfl) rfl
theorem mw492 : Cond.instanceMethod yX8_set ∈ wsL_law := wA (wT3 73 rfl) rfl
theorem mw493 : Cond.selects RX8 yX8_set yX8_set ∈ wsL_law := wA (wT3 74 rfl) rfl
theorem mw494 : Cond.code yX8_set cX8_set 3 (some .int) ∈ wsL_law := wA (wT3 75 rfl) rfl
theorem mw495 : Cond.methodLink RX8 67 yX8_areSomeThings ∈ wsL_law := wA (wT3 76 rfl) rfl
theorem mw496 : Cond.static yX8_areSomeThings ∈ wsL_law := wA (wT3 77 rfl) rfl
theorem mw497 : Cond.code yX8_areSomeThings cX8_areSomeThings 1 (some .boolean) ∈ wsL_law := wA (wT3 78 rfl) rfl
theorem mw498 : Cond.methodLink RX8 71 yX8_isPrice ∈ wsL_law := wA (wT3 79 rfl) rfl
theorem mw499 : Cond.static yX8_isPrice ∈ wsL_law := wA (wT3 80 rfl) rfl
theorem mw500 : Cond.code yX8_isPrice cX8_isPrice 1 (some .boolean) ∈ wsL_law := wA (wT3 81 rfl) rfl
theorem mw501 : Cond.methodLink RX8 77 yX6_append ∈ wsL_law := wA (wT3 82 rfl) rfl
theorem mw502 : Cond.instanceMethod yX6_append ∈ wsL_law := wA (wT3 83 rfl) rfl
theorem mw503 : Cond.selects RX6 yX6_append yX6_append ∈ wsL_law := wA (wT3 84 rfl) rfl
theorem mw504 : Cond.code yX6_append cX6_append 3 none ∈ wsL_law := wA (wT3 85 rfl) rfl
theorem mw505 : Cond.methodLink RL 109 yL_isAct ∈ wsL_law := wA (wT3 86 rfl) rfl
theorem mw506 : Cond.static yL_isAct ∈ wsL_law := wA (wT3 87 rfl) rfl
theorem mw507 : Cond.code yL_isAct method_15_code 10 (some .boolean) ∈ wsL_law := wA (wT3 88 rfl) rfl
theorem mw508 : Cond.constant RL 91 (262144 : Int32) ∈ wsL_law := wA (wT3 89 rfl) rfl
theorem mw509 : Cond.methodLink RL 95 yX8_mark ∈ wsL_law := wA (wT3 90 rfl) rfl
theorem mw510 : Cond.instanceMethod yX8_mark ∈ wsL_law := wA (wT3 91 rfl) rfl
theorem mw511 : Cond.selects RX8 yX8_mark yX8_mark ∈ wsL_law := wA (wT3 92 rfl) rfl
theorem mw512 : Cond.code yX8_mark cX8_mark 4 (some .int) ∈ wsL_law := wA (wT3 93 rfl) rfl
theorem mw513 : Cond.methodLink RL 98 yX8_price ∈ wsL_law := wA (wT3 94 rfl) rfl
theorem mw514 : Cond.instanceMethod yX8_price ∈ wsL_law := wA (wT3 95 rfl) rfl
theorem mw515 : Cond.selects RX8 yX8_price yX8_price ∈ wsL_law := wA (wT3 96 rfl) rfl
theorem mw516 : Cond.code yX8_price cX8_price 4 (some .int) ∈ wsL_law := wA (wT3 97 rfl) rfl
theorem mw517 : Cond.methodLink RL 101 yL_isTurned ∈ wsL_law := wA (wT3 98 rfl) rfl
theorem mw518 : Cond.static yL_isTurned ∈ wsL_law := wA (wT3 99 rfl) rfl
theorem mw519 : Cond.code yL_isTurned method_13_code 5 (some .boolean) ∈ wsL_law := wA (wT3 100 rfl) rfl
theorem mw520 : Cond.methodLink RL 77 yX8_turn ∈ wsL_law := wA (wT3 101 rfl) rfl
theorem mw521 : Cond.instanceMethod yX8_turn ∈ wsL_law := wA (wT3 102 rfl) rfl
theorem mw522 : Cond.selects RX8 yX8_turn yX8_turn ∈ wsL_law := wA (wT3 103 rfl) rfl
theorem mw523 : Cond.code yX8_turn cX8_turn 4 (some .int) ∈ wsL_law := wA (wT3 104 rfl) rfl
theorem mw524 : Cond.methodLink RL 104 yL_isDropped ∈ wsL_law := wA (wT3 105 rfl) rfl
theorem mw525 : Cond.static yL_isDropped ∈ wsL_law := wA (wT3 106 rfl) rfl
theorem mw526 : Cond.code yL_isDropped method_14_code 5 (some .boolean) ∈ wsL_law := wA (wT3 107 rfl) rfl
theorem mw527 : Cond.methodLink RL 80 yX8_drop ∈ wsL_law := wA (wT3 108 rfl) rfl
theorem mw528 : Cond.instanceMethod yX8_drop ∈ wsL_law := wA (wT3 109 rfl) rfl
theorem mw529 : Cond.selects RX8 yX8_drop yX8_drop ∈ wsL_law := wA (wT3 110 rfl) rfl
theorem mw530 : Cond.code yX8_drop cX8_drop 2 (some .int) ∈ wsL_law := wA (wT3 111 rfl) rfl
theorem mw531 : Cond.methodLink RX8 94 yX6_remove ∈ wsL_law := wA (wT3 112 rfl) rfl
theorem mw532 : Cond.instanceMethod yX6_remove ∈ wsL_law := wA (wT3 113 rfl) rfl
theorem mw533 : Cond.selects RX6 yX6_remove yX6_remove ∈ wsL_law := wA (wT3 114 rfl) rfl
theorem mw534 : Cond.code yX6_remove cX6_remove 3 none ∈ wsL_law := wA (wT3 115 rfl) rfl
theorem inG0 : ∀ w ∈ u_ws RX0 TX0 2, w ∈ wsL_law := (show ∀ w ∈ [Cond.lays RX0 "CoverShares$Greedy" "chosen" "I", Cond.lays RX0 "CoverShares$Greedy" "last" "I"], w ∈ wsL_law from List.forall_mem_cons.mpr ⟨mw162, List.forall_mem_cons.mpr ⟨mw163, fun _ h => absurd h List.not_mem_nil⟩⟩)
theorem nmG0 : ∀ a, a < 2 → ∀ b, b < 2 → a ≠ b → (TX0 a).2.1 ≠ (TX0 b).2.1 := by decide +kernel
theorem inG1 : ∀ w ∈ u_ws RX1 TX1 2, w ∈ wsL_law := (show ∀ w ∈ [Cond.lays RX1 "CoverShares$History" "size" "I", Cond.laysFinal RX1 "CoverShares$History" "states" "[LCoverShares$State;"], w ∈ wsL_law from List.forall_mem_cons.mpr ⟨mw80, List.forall_mem_cons.mpr ⟨mw81, fun _ h => absurd h List.not_mem_nil⟩⟩)
theorem nmG1 : ∀ a, a < 2 → ∀ b, b < 2 → a ≠ b → (TX1 a).2.1 ≠ (TX1 b).2.1 := by decide +kernel
theorem inG2 : ∀ w ∈ u_ws RX2 TX2 8, w ∈ wsL_law := (show ∀ w ∈ [Cond.lays RX2 "CoverShares$Pad" "length" "I", Cond.laysFinal RX2 "CoverShares$Pad" "signs" "[C", Cond.lays RX2 "CoverShares$Pad" "sets" "I", Cond.laysFinal RX2 "CoverShares$Pad" "things" "[I", Cond.laysFinal RX2 "CoverShares$Pad" "prices" "[I", Cond.lays RX2 "CoverShares$Pad" "inNumber" "Z", Cond.lays RX2 "CoverShares$Pad" "letters" "I", Cond.lays RX2 "CoverShares$Pad" "number" "I"], w ∈ wsL_law from List.forall_mem_cons.mpr ⟨mw110, List.forall_mem_cons.mpr ⟨mw111, List.forall_mem_cons.mpr ⟨mw112, List.forall_mem_cons.mpr ⟨mw113, List.forall_mem_cons.mpr ⟨mw114, List.forall_mem_cons.mpr ⟨mw115, List.forall_mem_cons.mpr ⟨mw116, List.forall_mem_cons.mpr ⟨mw117, fun _ h => absurd h List.not_mem_nil⟩⟩⟩⟩⟩⟩⟩⟩)
theorem nmG2 : ∀ a, a < 8 → ∀ b, b < 8 → a ≠ b → (TX2 a).2.1 ≠ (TX2 b).2.1 := by decide +kernel
theorem inG3 : ∀ w ∈ u_ws RX3 TX3 6, w ∈ wsL_law := (show ∀ w ∈ [Cond.laysFinal RX3 "CoverShares$Search" "walk" "LCoverShares$Walk;", Cond.lays RX3 "CoverShares$Search" "leastSets" "I", Cond.lays RX3 "CoverShares$Search" "leastPrice" "I", Cond.lays RX3 "CoverShares$Search" "dearestThing" "I", Cond.lays RX3 "CoverShares$Search" "priceWithoutDearest" "I", Cond.laysFinal RX3 "CoverShares$Search" "leastMissingOne" "[I"], w ∈ wsL_law from List.forall_mem_cons.mpr ⟨mw204, List.forall_mem_cons.mpr ⟨mw205, List.forall_mem_cons.mpr ⟨mw206, List.forall_mem_cons.mpr ⟨mw207, List.forall_mem_cons.mpr ⟨mw208, List.forall_mem_cons.mpr ⟨mw209, fun _ h => absurd h List.not_mem_nil⟩⟩⟩⟩⟩⟩)
theorem nmG3 : ∀ a, a < 6 → ∀ b, b < 6 → a ≠ b → (TX3 a).2.1 ≠ (TX3 b).2.1 := by decide +kernel
theorem inG4 : ∀ w ∈ u_ws RX4 TX4 10, w ∈ wsL_law := (show ∀ w ∈ [Cond.lays RX4 "CoverShares$Shares" "open" "I", Cond.lays RX4 "CoverShares$Shares" "inTight" "I", Cond.lays RX4 "CoverShares$Shares" "rounds" "I", Cond.lays RX4 "CoverShares$Shares" "tight" "I", Cond.lays RX4 "CoverShares$Shares" "tightCount" "I", Cond.lays RX4 "CoverShares$Shares" "dropped" "I", Cond.laysFinal RX4 "CoverShares$Shares" "raised" "[I", Cond.laysFinal RX4 "CoverShares$Shares" "fillings" "[I", Cond.laysFinal RX4 "CoverShares$Shares" "places" "[I", Cond.laysFinal RX4 "CoverShares$Shares" "order" "[I"], w ∈ wsL_law from List.forall_mem_cons.mpr ⟨mw142, List.forall_mem_cons.mpr ⟨mw143, List.forall_mem_cons.mpr ⟨mw144, List.forall_mem_cons.mpr ⟨mw145, List.forall_mem_cons.mpr ⟨mw146, List.forall_mem_cons.mpr ⟨mw147, List.forall_mem_cons.mpr ⟨mw148, List.forall_mem_cons.mpr ⟨mw149, List.forall_mem_cons.mpr ⟨mw150, List.forall_mem_cons.mpr ⟨mw151, fun _ h => absurd h List.not_mem_nil⟩⟩⟩⟩⟩⟩⟩⟩⟩⟩)
theorem nmG4 : ∀ a, a < 10 → ∀ b, b < 10 → a ≠ b → (TX4 a).2.1 ≠ (TX4 b).2.1 := by decide +kernel
theorem inG5 : ∀ w ∈ u_ws RX5 TX5 2, w ∈ wsL_law := (show ∀ w ∈ [Cond.laysFinal RX5 "CoverShares$Slots" "states" "[LCoverShares$State;", Cond.laysFinal RX5 "CoverShares$Slots" "kept" "[Z"], w ∈ wsL_law from List.forall_mem_cons.mpr ⟨mw92, List.forall_mem_cons.mpr ⟨mw93, fun _ h => absurd h List.not_mem_nil⟩⟩)
theorem nmG5 : ∀ a, a < 2 → ∀ b, b < 2 → a ≠ b → (TX5 a).2.1 ≠ (TX5 b).2.1 := by decide +kernel
theorem inG6 : ∀ w ∈ u_ws RX6 TX6 5, w ∈ wsL_law := (show ∀ w ∈ [Cond.lays RX6 "CoverShares$State" "needed" "I", Cond.lays RX6 "CoverShares$State" "size" "I", Cond.laysFinal RX6 "CoverShares$State" "things" "[I", Cond.laysFinal RX6 "CoverShares$State" "prices" "[I", Cond.laysFinal RX6 "CoverShares$State" "marks" "[I"], w ∈ wsL_law from List.forall_mem_cons.mpr ⟨mw63, List.forall_mem_cons.mpr ⟨mw64, List.forall_mem_cons.mpr ⟨mw65, List.forall_mem_cons.mpr ⟨mw66, List.forall_mem_cons.mpr ⟨mw67, fun _ h => absurd h List.not_mem_nil⟩⟩⟩⟩⟩)
theorem nmG6 : ∀ a, a < 5 → ∀ b, b < 5 → a ≠ b → (TX6 a).2.1 ≠ (TX6 b).2.1 := by decide +kernel
theorem inG7 : ∀ w ∈ u_ws RX7 TX7 9, w ∈ wsL_law := (show ∀ w ∈ [Cond.lays RX7 "CoverShares$Walk" "needed" "I", Cond.lays RX7 "CoverShares$Walk" "free" "I", Cond.laysFinal RX7 "CoverShares$Walk" "freeThings" "[I", Cond.laysFinal RX7 "CoverShares$Walk" "freePrices" "[I", Cond.laysFinal RX7 "CoverShares$Walk" "freeMasks" "[I", Cond.laysFinal RX7 "CoverShares$Walk" "sets" "[I", Cond.laysFinal RX7 "CoverShares$Walk" "prices" "[I", Cond.laysFinal RX7 "CoverShares$Walk" "things" "[I", Cond.laysFinal RX7 "CoverShares$Walk" "thingsTwice" "[I"], w ∈ wsL_law from List.forall_mem_cons.mpr ⟨mw185, List.forall_mem_cons.mpr ⟨mw186, List.forall_mem_cons.mpr ⟨mw187, List.forall_mem_cons.mpr ⟨mw188, List.forall_mem_cons.mpr ⟨mw189, List.forall_mem_cons.mpr ⟨mw190, List.forall_mem_cons.mpr ⟨mw191, List.forall_mem_cons.mpr ⟨mw192, List.forall_mem_cons.mpr ⟨mw193, fun _ h => absurd h List.not_mem_nil⟩⟩⟩⟩⟩⟩⟩⟩⟩)
theorem nmG7 : ∀ a, a < 9 → ∀ b, b < 9 → a ≠ b → (TX7 a).2.1 ≠ (TX7 b).2.1 := by decide +kernel
theorem inG8 : ∀ w ∈ u_ws RX8 TX8 7, w ∈ wsL_law := (show ∀ w ∈ [Cond.laysFinal RX8 "CoverShares" "now" "LCoverShares$State;", Cond.laysFinal RX8 "CoverShares" "history" "LCoverShares$History;", Cond.laysFinal RX8 "CoverShares" "slots" "LCoverShares$Slots;", Cond.laysFinal RX8 "CoverShares" "pad" "LCoverShares$Pad;", Cond.laysFinal RX8 "CoverShares" "shares" "LCoverShares$Shares;", Cond.laysFinal RX8 "CoverShares" "byRate" "LCoverShares$Greedy;", Cond.laysFinal RX8 "CoverShares" "search" "LCoverShares$Search;"], w ∈ wsL_law from List.forall_mem_cons.mpr ⟨mw217, List.forall_mem_cons.mpr ⟨mw218, List.forall_mem_cons.mpr ⟨mw219, List.forall_mem_cons.mpr ⟨mw220, List.forall_mem_cons.mpr ⟨mw221, List.forall_mem_cons.mpr ⟨mw222, List.forall_mem_cons.mpr ⟨mw223, fun _ h => absurd h List.not_mem_nil⟩⟩⟩⟩⟩⟩⟩)
theorem nmG8 : ∀ a, a < 7 → ∀ b, b < 7 → a ≠ b → (TX8 a).2.1 ≠ (TX8 b).2.1 := by decide +kernel
end
section
/-! THE JUDGEMENT J: a method's walk as (pc, locals, stack, cells); the machine's own heap, frame and tables stand in one context. Rows of the kit, one for one. -/
abbrev jG : Type := Launch × va_G × (ClassId × ClassId × ClassId × ClassId)
def jl (g : jG) : Launch := g.1
def jD (g : jG) : va_G := g.2.1
def gI (g : jG) : ClassId := g.2.2.1
def gC (g : jG) : ClassId := g.2.2.2.1
def gZ (g : jG) : ClassId := g.2.2.2.2.1
def gS (g : jG) : ClassId := g.2.2.2.2.2
abbrev jTy (g : jG) : List (ClassId × FieldType) := [(gI g, .int), (gC g, .char), (gZ g, .boolean), (gS g, .object RX6)]
def jK (g : jG) (U : State) : Prop := va_K (jD g) vwCl (jTy g) U ∧ va_AO RX6 U ∧ ∀ w ∈ wsN, va_Nw w U
theorem jNw_warm {w : Cond} (hw : jNest w = true) {s U : State} (hW : s.WarmedH U.vm) (h : va_Nw w s) : va_Nw w U := by
  cases w <;> first | exact va_Nw.warmF hW h | exact va_Nw.warmM hW h | cases hw
theorem jNw_on {w : Cond} (hw : jNest w = true) : w.onTables = true := by
  cases w <;> first | rfl | cases hw
theorem jN_is {w : Cond} (h : w ∈ wsN) : jNest w = true := (List.mem_filter.mp h).2
theorem jK.moved {g : jG} {u U : State} (hW : u.WarmedH U.vm) (h : jK g u) : jK g U := ⟨va_K.moved hW.alike h.1, h.2.1.moved hW.alike, fun w hw => jNw_warm (jN_is hw) hW (h.2.2 w hw)⟩
theorem jK.same {g : jG} {u U : State} (hv : u.vm = U.vm) (h : jK g u) : jK g U := ⟨va_K.moved (hv ▸ Vm.Alike.refl u.vm) h.1, h.2.1.moved (hv ▸ Vm.Alike.refl u.vm), fun w hw => va_Nw.same (jNw_on (jN_is hw)) hv (h.2.2 w hw)⟩
abbrev jC : Type := Program × Env × Room × State × MethodId × Array Value × List Frame × Method × Code × (State → Prop) × (Nat → Prop)
def J (g : jG) (x : jC) (nL cs sl pc : Nat) (lv : List (Nat × Value)) (st : List Value) (ws : va_W) : Prop :=
  match x with
  | (p, e, R, s, m, args, below, meth, c, Q, A) => ∀ (H : Heap) (locs : List Loc) (ls : Array Slot), va_P (jD g) vwCl ws H → va_D A ws → va_S A s.heap H locs → lv_has ls nL lv → W p (jl g) e R s m args below meth c H locs cs sl Q (F0 m pc ls st)
def JX (g : jG) (x : jC) (own : String) (cc : ByteArray) (nL : Nat) (ret : Option FieldType) (rm : Room) : Prop :=
  match x with
  | (p, _, R, s, m, args, _, meth, c, _, A) => p.tables.exec = Jvm.exec ∧ c.code = cc ∧ s.vm.findClass own = some m.cls ∧ (∀ w ∈ wsL_law, w.before args s = true) ∧ jK g s ∧ c.maxLocals = nL ∧ (∀ q : Nat, s.heap.size ≤ q → A q) ∧ meth.sig.returnType = ret ∧ meth.locks = false ∧ R = rm
/-- the context of a constructor -/
def JN (x : jC) : Prop :=
  match x with
  | (_, _, _, _, _, _, _, meth, _, _, _) => meth.name = "<init>"
/-- what a method's end has to say -/
def jB (g : jG) (A : Nat → Prop) (w0 : va_W) (u : va_W × va_W) (t : State) : Prop := va_P (jD g) vwCl (u.1 ++ u.2) t.heap ∧ va_D A (u.1 ++ u.2) ∧ u.1.map Prod.fst = w0.map Prod.fst
def jQI (g : jG) (post : Int32 → va_W → Prop) (A : Nat → Prop) (w0 : va_W) : Array Value → State → Outcome → State → Prop := va_Qi (S := va_W × va_W) (fun r u => post r u.1 ∧ u.2 = []) (jB g A w0) A
def jQV (g : jG) (post : va_W → va_W → Prop) (A : Nat → Prop) (w0 : va_W) : Array Value → State → Outcome → State → Prop := va_Qv (S := va_W × va_W) (fun u => post u.1 u.2) (jB g A w0) A
def JRI (g : jG) (x : jC) (post : Int32 → va_W → Prop) (w0 : va_W) : Prop :=
  match x with
  | (_, _, _, s, _, args, below, _, _, Q, A) => Q = MQ below (jQI g post A w0) args s 0 0 A
def JRV (g : jG) (x : jC) (mc ms : Nat) (post : va_W → va_W → Prop) (w0 : va_W) : Prop :=
  match x with
  | (_, _, _, s, _, args, below, _, _, Q, A) => Q = MQ below (jQV g post A w0) args s mc ms A
def jP (g : jG) (as : List Value) (ws : va_W) (sz : Nat) : Array Value → State → Prop := va_Pc as (fun U => U.heap.size = sz ∧ va_P (jD g) vwCl ws U.heap ∧ jK g U ∧ va_D (fun _ => True) ws)
/-- contracts: an int (or boolean) answer, no new cells; no answer, new cells behind -/
def jMI (g : jG) (y : MethodName) (cb : ByteArray) (maxL : Nat) (rt : FieldType) (nf nl : Nat) (as : List Value) (ws : va_W) (post : Int32 → va_W → Prop) : Prop :=
  ∀ sz, Met (jl g) y (.code y cb maxL (some rt) :: wsL_law) { frames := nf, cells := 0, slots := 0, locals := nl } (jP g as ws sz) (jQI g post (va_A ws sz) ws) 0 0 (va_A ws sz)
def jMV (g : jG) (y : MethodName) (cb : ByteArray) (maxL : Nat) (nf nl mc ms : Nat) (as : List Value) (ws : va_W) (post : va_W → va_W → Prop) : Prop :=
  ∀ sz, Met (jl g) y (.code y cb maxL none :: wsL_law) { frames := nf, cells := mc, slots := ms, locals := nl } (jP g as ws sz) (jQV g post (va_A ws sz) ws) mc ms (va_A ws sz)
theorem va_D_fst {A : Nat → Prop} {w1 w2 : va_W} (h : w1.map Prod.fst = w2.map Prod.fst) (hD : va_D A w2) : va_D A w1 := by
  have key : ∀ (k : Nat) (q : Nat × va_E), w1[k]? = some q → ∃ q0, w2[k]? = some q0 ∧ q0.1 = q.1 := by
    intro k q hk
    have h1 : (w1.map Prod.fst)[k]? = some q.1 := by rw [List.getElem?_map, hk]; rfl
    rw [h, List.getElem?_map] at h1
    cases hw : w2[k]? with
    | none => rw [hw] at h1; cases h1
    | some q0 => rw [hw] at h1; exact ⟨q0, rfl, Option.some.inj h1⟩
  refine ⟨fun i j p q hi hj hpq => ?_, fun k q hk => ?_⟩
  · obtain ⟨p0, a1, a2⟩ := key i p hi
    obtain ⟨q0, b1, b2⟩ := key j q hj
    exact hD.1 i j p0 q0 a1 b1 (a2.trans (hpq.trans b2.symm))
  · obtain ⟨q0, b1, b2⟩ := key k q hk
    exact b2 ▸ hD.2 k q0 b1
def jlook (j : Nat) : List Nat → va_W → Option (Nat × va_E)
  | i :: is, q :: qs => match Nat.beq i j with
    | true => some q
    | false => jlook j is qs
  | _, _ => none
def jmix (is : List Nat) (w : va_W) : Nat → va_W → va_W
  | _, [] => []
  | j, c :: ws => (match jlook j is w with
    | some q => q
    | none => c) :: jmix is w (j + 1) ws
def jput (ws : va_W) (is : List Nat) (w : va_W) : va_W := jmix is w 0 ws
theorem jlook_in : ∀ (is : List Nat) (w : va_W) (j : Nat) (q : Nat × va_E), jlook j is w = some q → ∃ k : Nat, is[k]? = some j ∧ w[k]? = some q
  | [], w, j, q, h => by cases w <;> cases h
  | _ :: _, [], j, q, h => by cases h
  | i :: is, z :: qs, j, q, h => by
    rw [jlook] at h
    cases hb : Nat.beq i j with
    | true =>
      rw [hb] at h
      cases h
      exact ⟨0, by rw [Nat.eq_of_beq_eq_true hb]; rfl, rfl⟩
    | false =>
      rw [hb] at h
      obtain ⟨k, h1, h2⟩ := jlook_in is qs j q h
      exact ⟨k + 1, h1, h2⟩
theorem jlook_none : ∀ (is : List Nat) (w : va_W) (j : Nat), is.length = w.length → jlook j is w = none → j ∉ is
  | [], _, _, _, _ => List.not_mem_nil
  | _ :: _, [], _, hl, _ => by cases hl
  | i :: is, z :: qs, j, hl, h => by
    rw [jlook] at h
    cases hb : Nat.beq i j with
    | true => rw [hb] at h; cases h
    | false =>
      rw [hb] at h
      intro hm
      rcases List.mem_cons.mp hm with e | hm
      · rw [e, Nat.beq_refl] at hb
        cases hb
      · exact jlook_none is qs j (Nat.succ.inj hl) h hm
theorem jmix_get (is : List Nat) (w : va_W) : ∀ (ws : va_W) (j k : Nat), (jmix is w j ws)[k]? = (ws[k]?).map fun c => match jlook (j + k) is w with
    | some q => q
    | none => c
  | [], j, k => by simp [jmix]
  | c :: ws, j, 0 => by simp [jmix]
  | c :: ws, j, k + 1 => by
    rw [jmix, List.getElem?_cons_succ, List.getElem?_cons_succ, jmix_get is w ws (j + 1) k, show j + 1 + k = j + (k + 1) by omega]
theorem jput_P {D : va_G} {H : Heap} (is : List Nat) (w ws : va_W) (hl : is.length = w.length) (hw : ∀ q ∈ w, va_at D vwCl q H) (h : ∀ (k : Nat) (q : Nat × va_E), k ∉ is → ws[k]? = some q → va_at D vwCl q H) : va_P D vwCl (jput ws is w) H := by
  intro k q hk
  rw [jput, jmix_get, Nat.zero_add] at hk
  cases hz : ws[k]? with
  | none => rw [hz] at hk; cases hk
  | some c =>
    rw [hz] at hk
    cases hj : jlook k is w with
    | none =>
      simp only [Option.map_some, hj] at hk
      cases hk
      exact h k _ (jlook_none is w k hl hj) hz
    | some z =>
      simp only [Option.map_some, hj] at hk
      cases hk
      obtain ⟨i, -, h2⟩ := jlook_in is w k _ hj
      exact hw _ (List.mem_of_getElem? h2)
theorem jput_fst (is : List Nat) (w ws : va_W) (h : is.map (fun i => (ws.map Prod.fst)[i]?) = (w.map Prod.fst).map some) : (jput ws is w).map Prod.fst = ws.map Prod.fst := by
  apply List.ext_getElem?
  intro k
  rw [List.getElem?_map, List.getElem?_map, jput, jmix_get, Nat.zero_add]
  cases hz : ws[k]? with
  | none => rfl
  | some c =>
    cases hj : jlook k is w with
    | none => simp [hj]
    | some z =>
      obtain ⟨i, h1, h2⟩ := jlook_in is w k _ hj
      have h3 : (is.map (fun i => (ws.map Prod.fst)[i]?))[i]? = some (some z.1) := by rw [h, List.getElem?_map, List.getElem?_map, h2]; rfl
      rw [List.getElem?_map, h1] at h3
      have h4 : (ws.map Prod.fst)[k]? = some z.1 := Option.some.inj h3
      rw [List.getElem?_map, hz] at h4
      simp only [Option.map_some, hj]
      exact h4.symm
theorem jsel_fst {is : List Nat} {ws wc w : va_W} (hC : is.map (fun i => ws[i]?) = wc.map some) (hf : w.map Prod.fst = wc.map Prod.fst) : is.map (fun i => (ws.map Prod.fst)[i]?) = (w.map Prod.fst).map some := by
  rw [hf]
  have h1 := congrArg (List.map (Option.map Prod.fst)) hC
  simpa [List.map_map, Function.comp_def] using h1
theorem jsel_len {is : List Nat} {ws wc w : va_W} (hC : is.map (fun i => ws[i]?) = wc.map some) (hf : w.map Prod.fst = wc.map Prod.fst) : is.length = w.length := by
  have h1 := congrArg List.length hC
  have h2 := congrArg List.length hf
  simp only [List.length_map] at h1 h2
  omega
theorem jsel_in {is : List Nat} {ws wc : va_W} (hC : is.map (fun i => ws[i]?) = wc.map some) {j : Nat} {q : Nat × va_E} (hq : wc[j]? = some q) : ∃ i, i ∈ is ∧ ws[i]? = some q := by
  have h1 : (is.map (fun i => ws[i]?))[j]? = some (some q) := by rw [hC, List.getElem?_map, hq]; rfl
  rw [List.getElem?_map] at h1
  cases hi : is[j]? with
  | none => rw [hi] at h1; cases h1
  | some i => rw [hi] at h1; exact ⟨i, List.mem_of_getElem? hi, Option.some.inj h1⟩
/-- behind a call: the callee's cells in their old places, its new ones behind -/
theorem jback {A0 : Nat → Prop} {D : va_G} {ws wc w wn : va_W} {H H1 : Heap} (hP : va_P D vwCl ws H) (hD : va_D A0 ws) (is : List Nat) (hC : is.map (fun i => ws[i]?) = wc.map some)
    (hk : ∀ q : Nat, q < H.size → ¬ va_A wc H.size q → H1[q]? = H[q]?) (hF : ∀ q, va_A wc H.size q → A0 q) (hP1 : va_P D vwCl (w ++ wn) H1) (hD1 : va_D (va_A wc H.size) (w ++ wn)) (hf : w.map Prod.fst = wc.map Prod.fst) : va_P D vwCl (jput ws is w ++ wn) H1 ∧ va_D A0 (jput ws is w ++ wn) := by
  have hPw : ∀ q ∈ w, va_at D vwCl q H1 := fun q hq => by
    obtain ⟨i, hi⟩ := List.getElem?_of_mem hq
    exact hP1 i q (by rw [List.getElem?_append_left (List.getElem?_eq_some_iff.mp hi).1]; exact hi)
  have hPn : va_P D vwCl wn H1 := fun k q hq => hP1 (w.length + k) q (by rw [List.getElem?_append_right (by omega), Nat.add_sub_cancel_left]; exact hq)
  have hfst := jput_fst is w ws (jsel_fst hC hf)
  refine ⟨va_P.app (jput_P is w ws (jsel_len hC hf) hPw (fun k q hki hq => ?_)) hPn, va_D.app (va_D_fst hfst hD) ⟨fun i j p q hi hj hpq => ?_, fun k q hq => ?_⟩ (fun i j p q hi hj hpq => ?_)⟩
  · refine (hP k q hq).kept (hk q.1 (hP k q hq).lt (fun h => ?_))
    rcases h with ⟨j, e, h⟩ | h
    · obtain ⟨i, h1, h2⟩ := jsel_in hC h
      have hij := hD.1 k i q (q.1, e) hq h2 rfl
      exact hki (hij ▸ h1)
    · have := (hP k q hq).lt
      omega
  · have a1 : (w ++ wn)[w.length + i]? = some p := by rw [List.getElem?_append_right (by omega), Nat.add_sub_cancel_left]; exact hi
    have a2 : (w ++ wn)[w.length + j]? = some q := by rw [List.getElem?_append_right (by omega), Nat.add_sub_cancel_left]; exact hj
    have := hD1.1 _ _ p q a1 a2 hpq
    omega
  · exact hF _ (hD1.2 (w.length + k) q (by rw [List.getElem?_append_right (by omega), Nat.add_sub_cancel_left]; exact hq))
  · have a2 : (w ++ wn)[w.length + j]? = some q := by rw [List.getElem?_append_right (by omega), Nat.add_sub_cancel_left]; exact hj
    have b1 : (ws.map Prod.fst)[i]? = some p.1 := by rw [← hfst, List.getElem?_map, hi]; rfl
    rw [List.getElem?_map] at b1
    cases hz : ws[i]? with
    | none => rw [hz] at b1; cases b1
    | some z =>
      rw [hz] at b1
      have ez : z.1 = p.1 := Option.some.inj b1
      have hlt := (hP i z hz).lt
      rcases hD1.2 _ q a2 with ⟨k2, e, h⟩ | h
      · have c1 : (w.map Prod.fst)[k2]? = some q.1 := by rw [hf, List.getElem?_map, h]; rfl
        rw [List.getElem?_map] at c1
        cases hy : w[k2]? with
        | none => rw [hy] at c1; cases c1
        | some y =>
          rw [hy] at c1
          have hl2 := (List.getElem?_eq_some_iff.mp hy).1
          have a3 : (w ++ wn)[k2]? = some y := by rw [List.getElem?_append_left hl2]; exact hy
          have := hD1.1 k2 (w.length + j) y q a3 a2 (Option.some.inj c1)
          omega
      · omega
def S_max (a b : Int32) : Int32 := if a < b then b else a
def S_min (a b : Int32) : Int32 := if b < a then b else a
section JROWS
variable {g : jG} {x : jC} {own : String} {cc : ByteArray} {nL : Nat} {ret : Option FieldType} {rm : Room} {pc cs sl : Nat} {lv : List (Nat × Value)} {st : List Value} {ws : va_W}

theorem j_iconst (hX : JX g x own cc nL ret rm) {n : Int} {v : Int32} (hdg : decode cc pc = .ok (.iconst n, 1)) (hv : Int32.ofInt n = v) (kk : J g x nL cs sl (pc + 1) lv (.int v :: st) ws) : J g x nL cs sl pc lv st ws := by
  obtain ⟨p, e, R, s, m, args, below, meth, c, Q, A⟩ := x
  obtain ⟨hx, hb, hown, hts, hK, hml, hA, hr, hlo, hR⟩ := hX
  intro H locs ls hP hD hS hls
  exact lv_iconst hx hb hdg hv (kk H locs ls hP hD hS hls)
theorem j_bipush (hX : JX g x own cc nL ret rm) {n : Int} {v : Int32} (hdg : decode cc pc = .ok (.bipush n, 2)) (hv : (Int8.ofInt n).toInt32 = v) (kk : J g x nL cs sl (pc + 2) lv (.int v :: st) ws) : J g x nL cs sl pc lv st ws := by
  obtain ⟨p, e, R, s, m, args, below, meth, c, Q, A⟩ := x
  obtain ⟨hx, hb, hown, hts, hK, hml, hA, hr, hlo, hR⟩ := hX
  intro H locs ls hP hD hS hls
  exact lv_bipush hx hb hdg hv (kk H locs ls hP hD hS hls)
theorem j_sipush (hX : JX g x own cc nL ret rm) {n : Int} {v : Int32} (hdg : decode cc pc = .ok (.sipush n, 3)) (hv : (Int16.ofInt n).toInt32 = v) (kk : J g x nL cs sl (pc + 3) lv (.int v :: st) ws) : J g x nL cs sl pc lv st ws := by
  obtain ⟨p, e, R, s, m, args, below, meth, c, Q, A⟩ := x
  obtain ⟨hx, hb, hown, hts, hK, hml, hA, hr, hlo, hR⟩ := hX
  intro H locs ls hP hD hS hls
  exact lv_sipush hx hb hdg hv (kk H locs ls hP hD hS hls)
theorem j_lconst (hX : JX g x own cc nL ret rm) {n : Fin 2} {v : Int64} (hdg : decode cc pc = .ok (.lconst n, 1)) (hv : Int64.ofNat (n : Nat) = v) (kk : J g x nL cs sl (pc + 1) lv (.long v :: st) ws) : J g x nL cs sl pc lv st ws := by
  obtain ⟨p, e, R, s, m, args, below, meth, c, Q, A⟩ := x
  obtain ⟨hx, hb, hown, hts, hK, hml, hA, hr, hlo, hR⟩ := hX
  intro H locs ls hP hD hS hls
  exact lv_lconst hx hb hdg hv (kk H locs ls hP hD hS hls)
theorem j_iload_n (hX : JX g x own cc nL ret rm) {k : Fin 4} {v : Int32} (hdg : decode cc pc = .ok (.iload_n k, 1)) (q : Nat) (hl : lv[q]? = some ((k : Nat), .int v)) (kk : J g x nL cs sl (pc + 1) lv (.int v :: st) ws) : J g x nL cs sl pc lv st ws := by
  obtain ⟨p, e, R, s, m, args, below, meth, c, Q, A⟩ := x
  obtain ⟨hx, hb, hown, hts, hK, hml, hA, hr, hlo, hR⟩ := hX
  intro H locs ls hP hD hS hls
  exact lv_iload_n hx hb hdg rfl (lv_at hls q hl) (kk H locs ls hP hD hS hls)
theorem j_iload (hX : JX g x own cc nL ret rm) {i : Nat} {v : Int32} (hdg : decode cc pc = .ok (.iload i, 2)) (q : Nat) (hl : lv[q]? = some (i, .int v)) (kk : J g x nL cs sl (pc + 2) lv (.int v :: st) ws) : J g x nL cs sl pc lv st ws := by
  obtain ⟨p, e, R, s, m, args, below, meth, c, Q, A⟩ := x
  obtain ⟨hx, hb, hown, hts, hK, hml, hA, hr, hlo, hR⟩ := hX
  intro H locs ls hP hD hS hls
  exact lv_iload hx hb hdg (lv_at hls q hl) (kk H locs ls hP hD hS hls)
theorem j_lload_n (hX : JX g x own cc nL ret rm) {k : Fin 4} {v : Int64} (hdg : decode cc pc = .ok (.lload_n k, 1)) (q : Nat) (hl : lv[q]? = some ((k : Nat), .long v)) (kk : J g x nL cs sl (pc + 1) lv (.long v :: st) ws) : J g x nL cs sl pc lv st ws := by
  obtain ⟨p, e, R, s, m, args, below, meth, c, Q, A⟩ := x
  obtain ⟨hx, hb, hown, hts, hK, hml, hA, hr, hlo, hR⟩ := hX
  intro H locs ls hP hD hS hls
  exact lv_lload_n hx hb hdg rfl (lv_at hls q hl) (kk H locs ls hP hD hS hls)
theorem j_lload (hX : JX g x own cc nL ret rm) {i : Nat} {v : Int64} (hdg : decode cc pc = .ok (.lload i, 2)) (q : Nat) (hl : lv[q]? = some (i, .long v)) (kk : J g x nL cs sl (pc + 2) lv (.long v :: st) ws) : J g x nL cs sl pc lv st ws := by
  obtain ⟨p, e, R, s, m, args, below, meth, c, Q, A⟩ := x
  obtain ⟨hx, hb, hown, hts, hK, hml, hA, hr, hlo, hR⟩ := hX
  intro H locs ls hP hD hS hls
  exact lv_lload hx hb hdg (lv_at hls q hl) (kk H locs ls hP hD hS hls)
theorem j_aload_n (hX : JX g x own cc nL ret rm) {k : Fin 4} {v : Nat} (hdg : decode cc pc = .ok (.aload_n k, 1)) (q : Nat) (hl : lv[q]? = some ((k : Nat), .ref v)) (kk : J g x nL cs sl (pc + 1) lv (.ref v :: st) ws) : J g x nL cs sl pc lv st ws := by
  obtain ⟨p, e, R, s, m, args, below, meth, c, Q, A⟩ := x
  obtain ⟨hx, hb, hown, hts, hK, hml, hA, hr, hlo, hR⟩ := hX
  intro H locs ls hP hD hS hls
  exact lv_aload_n hx hb hdg rfl (lv_at hls q hl) (kk H locs ls hP hD hS hls)
theorem j_aload (hX : JX g x own cc nL ret rm) {i : Nat} {v : Nat} (hdg : decode cc pc = .ok (.aload i, 2)) (q : Nat) (hl : lv[q]? = some (i, .ref v)) (kk : J g x nL cs sl (pc + 2) lv (.ref v :: st) ws) : J g x nL cs sl pc lv st ws := by
  obtain ⟨p, e, R, s, m, args, below, meth, c, Q, A⟩ := x
  obtain ⟨hx, hb, hown, hts, hK, hml, hA, hr, hlo, hR⟩ := hX
  intro H locs ls hP hD hS hls
  exact lv_aload hx hb hdg (lv_at hls q hl) (kk H locs ls hP hD hS hls)
theorem j_istore_n (hX : JX g x own cc nL ret rm) {k : Fin 4} {v : Int32} {lv2 : List (Nat × Value)} (hdg : decode cc pc = .ok (.istore_n k, 1)) (ks : List Nat) (hn : (k : Nat) < nL) (hl : lv_pick (((k : Nat), Value.int v) :: lv.filter (fun q => !(q.1 == (k : Nat)) && !(q.1 + 1 == (k : Nat) && q.2.category == 2))) ks = lv2) (kk : J g x nL cs sl (pc + 1) lv2 st ws) : J g x nL cs sl pc lv (.int v :: st) ws := by
  obtain ⟨p, e, R, s, m, args, below, meth, c, Q, A⟩ := x
  obtain ⟨hx, hb, hown, hts, hK, hml, hA, hr, hlo, hR⟩ := hX
  intro H locs ls hP hD hS hls
  exact lv_istore_n hx hb hdg rfl hls hn rfl (fun ls2 h2 => kk H locs ls2 hP hD hS (lv_sub h2 ks hl))
theorem j_istore (hX : JX g x own cc nL ret rm) {i : Nat} {v : Int32} {lv2 : List (Nat × Value)} (hdg : decode cc pc = .ok (.istore i, 2)) (ks : List Nat) (hn : i < nL) (hl : lv_pick ((i, Value.int v) :: lv.filter (fun q => !(q.1 == i) && !(q.1 + 1 == i && q.2.category == 2))) ks = lv2) (kk : J g x nL cs sl (pc + 2) lv2 st ws) : J g x nL cs sl pc lv (.int v :: st) ws := by
  obtain ⟨p, e, R, s, m, args, below, meth, c, Q, A⟩ := x
  obtain ⟨hx, hb, hown, hts, hK, hml, hA, hr, hlo, hR⟩ := hX
  intro H locs ls hP hD hS hls
  exact lv_istore hx hb hdg hls hn rfl (fun ls2 h2 => kk H locs ls2 hP hD hS (lv_sub h2 ks hl))
theorem j_astore_n (hX : JX g x own cc nL ret rm) {k : Fin 4} {v : Nat} {lv2 : List (Nat × Value)} (hdg : decode cc pc = .ok (.astore_n k, 1)) (ks : List Nat) (hn : (k : Nat) < nL) (hl : lv_pick (((k : Nat), Value.ref v) :: lv.filter (fun q => !(q.1 == (k : Nat)) && !(q.1 + 1 == (k : Nat) && q.2.category == 2))) ks = lv2) (kk : J g x nL cs sl (pc + 1) lv2 st ws) : J g x nL cs sl pc lv (.ref v :: st) ws := by
  obtain ⟨p, e, R, s, m, args, below, meth, c, Q, A⟩ := x
  obtain ⟨hx, hb, hown, hts, hK, hml, hA, hr, hlo, hR⟩ := hX
  intro H locs ls hP hD hS hls
  exact lv_astore_n hx hb hdg rfl hls hn rfl (fun ls2 h2 => kk H locs ls2 hP hD hS (lv_sub h2 ks hl))
theorem j_astore (hX : JX g x own cc nL ret rm) {i : Nat} {v : Nat} {lv2 : List (Nat × Value)} (hdg : decode cc pc = .ok (.astore i, 2)) (ks : List Nat) (hn : i < nL) (hl : lv_pick ((i, Value.ref v) :: lv.filter (fun q => !(q.1 == i) && !(q.1 + 1 == i && q.2.category == 2))) ks = lv2) (kk : J g x nL cs sl (pc + 2) lv2 st ws) : J g x nL cs sl pc lv (.ref v :: st) ws := by
  obtain ⟨p, e, R, s, m, args, below, meth, c, Q, A⟩ := x
  obtain ⟨hx, hb, hown, hts, hK, hml, hA, hr, hlo, hR⟩ := hX
  intro H locs ls hP hD hS hls
  exact lv_astore hx hb hdg hls hn rfl (fun ls2 h2 => kk H locs ls2 hP hD hS (lv_sub h2 ks hl))
theorem j_lstore_n (hX : JX g x own cc nL ret rm) {k : Fin 4} {v : Int64} {lv2 : List (Nat × Value)} (hdg : decode cc pc = .ok (.lstore_n k, 1)) (ks : List Nat) (hn : (k : Nat) + 1 < nL) (hl : lv_pick (((k : Nat), Value.long v) :: lv.filter (fun q => !(q.1 == (k : Nat)) && (!(q.1 == (k : Nat) + 1) && !(q.1 + 1 == (k : Nat) && q.2.category == 2)))) ks = lv2) (kk : J g x nL cs sl (pc + 1) lv2 st ws) : J g x nL cs sl pc lv (.long v :: st) ws := by
  obtain ⟨p, e, R, s, m, args, below, meth, c, Q, A⟩ := x
  obtain ⟨hx, hb, hown, hts, hK, hml, hA, hr, hlo, hR⟩ := hX
  intro H locs ls hP hD hS hls
  exact lv_lstore_n hx hb hdg rfl hls hn rfl (fun ls2 h2 => kk H locs ls2 hP hD hS (lv_sub h2 ks hl))
theorem j_lstore (hX : JX g x own cc nL ret rm) {i : Nat} {v : Int64} {lv2 : List (Nat × Value)} (hdg : decode cc pc = .ok (.lstore i, 2)) (ks : List Nat) (hn : i + 1 < nL) (hl : lv_pick ((i, Value.long v) :: lv.filter (fun q => !(q.1 == i) && (!(q.1 == i + 1) && !(q.1 + 1 == i && q.2.category == 2)))) ks = lv2) (kk : J g x nL cs sl (pc + 2) lv2 st ws) : J g x nL cs sl pc lv (.long v :: st) ws := by
  obtain ⟨p, e, R, s, m, args, below, meth, c, Q, A⟩ := x
  obtain ⟨hx, hb, hown, hts, hK, hml, hA, hr, hlo, hR⟩ := hX
  intro H locs ls hP hD hS hls
  exact lv_lstore hx hb hdg hls hn rfl (fun ls2 h2 => kk H locs ls2 hP hD hS (lv_sub h2 ks hl))
theorem j_iinc (hX : JX g x own cc nL ret rm) {i : Nat} {n : Int} {u v : Int32} {lv2 : List (Nat × Value)} (hdg : decode cc pc = .ok (.iinc i n, 3)) (k : Nat) (hk : lv[k]? = some (i, .int u)) (hv : u + Int32.ofInt n = v) (ks : List Nat) (hn : i < nL) (hl : lv_pick ((i, Value.int v) :: lv.filter (fun q => !(q.1 == i) && !(q.1 + 1 == i && q.2.category == 2))) ks = lv2) (kk : J g x nL cs sl (pc + 3) lv2 st ws) : J g x nL cs sl pc lv st ws := by
  obtain ⟨p, e, R, s, m, args, below, meth, c, Q, A⟩ := x
  obtain ⟨hx, hb, hown, hts, hK, hml, hA, hr, hlo, hR⟩ := hX
  intro H locs ls hP hD hS hls
  exact lv_iinc hx hb hdg hls hk hv hn rfl (fun ls2 h2 => kk H locs ls2 hP hD hS (lv_sub h2 ks hl))
theorem j_iadd (hX : JX g x own cc nL ret rm) {a b : Int32} (hdg : decode cc pc = .ok (.iadd, 1)) (kk : J g x nL cs sl (pc + 1) lv (.int (a + b) :: st) ws) : J g x nL cs sl pc lv (.int b :: .int a :: st) ws := by
  obtain ⟨p, e, R, s, m, args, below, meth, c, Q, A⟩ := x
  obtain ⟨hx, hb, hown, hts, hK, hml, hA, hr, hlo, hR⟩ := hX
  intro H locs ls hP hD hS hls
  exact lv_iadd hx hb hdg (kk H locs ls hP hD hS hls)
theorem j_isub (hX : JX g x own cc nL ret rm) {a b : Int32} (hdg : decode cc pc = .ok (.isub, 1)) (kk : J g x nL cs sl (pc + 1) lv (.int (a - b) :: st) ws) : J g x nL cs sl pc lv (.int b :: .int a :: st) ws := by
  obtain ⟨p, e, R, s, m, args, below, meth, c, Q, A⟩ := x
  obtain ⟨hx, hb, hown, hts, hK, hml, hA, hr, hlo, hR⟩ := hX
  intro H locs ls hP hD hS hls
  exact lv_isub hx hb hdg (kk H locs ls hP hD hS hls)
theorem j_imul (hX : JX g x own cc nL ret rm) {a b : Int32} (hdg : decode cc pc = .ok (.imul, 1)) (kk : J g x nL cs sl (pc + 1) lv (.int (a * b) :: st) ws) : J g x nL cs sl pc lv (.int b :: .int a :: st) ws := by
  obtain ⟨p, e, R, s, m, args, below, meth, c, Q, A⟩ := x
  obtain ⟨hx, hb, hown, hts, hK, hml, hA, hr, hlo, hR⟩ := hX
  intro H locs ls hP hD hS hls
  exact lv_imul hx hb hdg (kk H locs ls hP hD hS hls)
theorem j_iand (hX : JX g x own cc nL ret rm) {a b : Int32} (hdg : decode cc pc = .ok (.iand, 1)) (kk : J g x nL cs sl (pc + 1) lv (.int (a &&& b) :: st) ws) : J g x nL cs sl pc lv (.int b :: .int a :: st) ws := by
  obtain ⟨p, e, R, s, m, args, below, meth, c, Q, A⟩ := x
  obtain ⟨hx, hb, hown, hts, hK, hml, hA, hr, hlo, hR⟩ := hX
  intro H locs ls hP hD hS hls
  exact lv_iand hx hb hdg (kk H locs ls hP hD hS hls)
theorem j_ior (hX : JX g x own cc nL ret rm) {a b : Int32} (hdg : decode cc pc = .ok (.ior, 1)) (kk : J g x nL cs sl (pc + 1) lv (.int (a ||| b) :: st) ws) : J g x nL cs sl pc lv (.int b :: .int a :: st) ws := by
  obtain ⟨p, e, R, s, m, args, below, meth, c, Q, A⟩ := x
  obtain ⟨hx, hb, hown, hts, hK, hml, hA, hr, hlo, hR⟩ := hX
  intro H locs ls hP hD hS hls
  exact lv_ior hx hb hdg (kk H locs ls hP hD hS hls)
theorem j_ixor (hX : JX g x own cc nL ret rm) {a b : Int32} (hdg : decode cc pc = .ok (.ixor, 1)) (kk : J g x nL cs sl (pc + 1) lv (.int (a ^^^ b) :: st) ws) : J g x nL cs sl pc lv (.int b :: .int a :: st) ws := by
  obtain ⟨p, e, R, s, m, args, below, meth, c, Q, A⟩ := x
  obtain ⟨hx, hb, hown, hts, hK, hml, hA, hr, hlo, hR⟩ := hX
  intro H locs ls hP hD hS hls
  exact lv_ixor hx hb hdg (kk H locs ls hP hD hS hls)
theorem j_ishl (hX : JX g x own cc nL ret rm) {a b : Int32} (hdg : decode cc pc = .ok (.ishl, 1)) (kk : J g x nL cs sl (pc + 1) lv (.int (a <<< (b &&& 31)) :: st) ws) : J g x nL cs sl pc lv (.int b :: .int a :: st) ws := by
  obtain ⟨p, e, R, s, m, args, below, meth, c, Q, A⟩ := x
  obtain ⟨hx, hb, hown, hts, hK, hml, hA, hr, hlo, hR⟩ := hX
  intro H locs ls hP hD hS hls
  exact lv_ishl hx hb hdg (kk H locs ls hP hD hS hls)
theorem j_ishr (hX : JX g x own cc nL ret rm) {a b : Int32} (hdg : decode cc pc = .ok (.ishr, 1)) (kk : J g x nL cs sl (pc + 1) lv (.int (a >>> (b &&& 31)) :: st) ws) : J g x nL cs sl pc lv (.int b :: .int a :: st) ws := by
  obtain ⟨p, e, R, s, m, args, below, meth, c, Q, A⟩ := x
  obtain ⟨hx, hb, hown, hts, hK, hml, hA, hr, hlo, hR⟩ := hX
  intro H locs ls hP hD hS hls
  exact lv_ishr hx hb hdg (kk H locs ls hP hD hS hls)
theorem j_land (hX : JX g x own cc nL ret rm) {a b : Int64} (hdg : decode cc pc = .ok (.land, 1)) (kk : J g x nL cs sl (pc + 1) lv (.long (a &&& b) :: st) ws) : J g x nL cs sl pc lv (.long b :: .long a :: st) ws := by
  obtain ⟨p, e, R, s, m, args, below, meth, c, Q, A⟩ := x
  obtain ⟨hx, hb, hown, hts, hK, hml, hA, hr, hlo, hR⟩ := hX
  intro H locs ls hP hD hS hls
  exact lv_land hx hb hdg (kk H locs ls hP hD hS hls)
theorem j_lor (hX : JX g x own cc nL ret rm) {a b : Int64} (hdg : decode cc pc = .ok (.lor, 1)) (kk : J g x nL cs sl (pc + 1) lv (.long (a ||| b) :: st) ws) : J g x nL cs sl pc lv (.long b :: .long a :: st) ws := by
  obtain ⟨p, e, R, s, m, args, below, meth, c, Q, A⟩ := x
  obtain ⟨hx, hb, hown, hts, hK, hml, hA, hr, hlo, hR⟩ := hX
  intro H locs ls hP hD hS hls
  exact lv_lor hx hb hdg (kk H locs ls hP hD hS hls)
theorem j_iushr (hX : JX g x own cc nL ret rm) {a b : Int32} (hdg : decode cc pc = .ok (.iushr, 1)) (kk : J g x nL cs sl (pc + 1) lv (.int ((a.toUInt32 >>> (b.toUInt32 &&& Int32.toUInt32 31)).toInt32) :: st) ws) : J g x nL cs sl pc lv (.int b :: .int a :: st) ws := by
  obtain ⟨p, e, R, s, m, args, below, meth, c, Q, A⟩ := x
  obtain ⟨hx, hb, hown, hts, hK, hml, hA, hr, hlo, hR⟩ := hX
  intro H locs ls hP hD hS hls
  exact lv_iushr hx hb hdg rfl (kk H locs ls hP hD hS hls)
theorem j_lushr (hX : JX g x own cc nL ret rm) {a : Int64} {b : Int32} (hdg : decode cc pc = .ok (.lushr, 1)) (kk : J g x nL cs sl (pc + 1) lv (.long ((a.toUInt64 >>> (b.toInt64.toUInt64 &&& Int64.toUInt64 63)).toInt64) :: st) ws) : J g x nL cs sl pc lv (.int b :: .long a :: st) ws := by
  obtain ⟨p, e, R, s, m, args, below, meth, c, Q, A⟩ := x
  obtain ⟨hx, hb, hown, hts, hK, hml, hA, hr, hlo, hR⟩ := hX
  intro H locs ls hP hD hS hls
  exact lv_lushr hx hb hdg rfl (kk H locs ls hP hD hS hls)
theorem j_lshl (hX : JX g x own cc nL ret rm) {a : Int64} {b : Int32} (hdg : decode cc pc = .ok (.lshl, 1)) (kk : J g x nL cs sl (pc + 1) lv (.long (a <<< (b.toInt64 &&& 63)) :: st) ws) : J g x nL cs sl pc lv (.int b :: .long a :: st) ws := by
  obtain ⟨p, e, R, s, m, args, below, meth, c, Q, A⟩ := x
  obtain ⟨hx, hb, hown, hts, hK, hml, hA, hr, hlo, hR⟩ := hX
  intro H locs ls hP hD hS hls
  exact lv_lshl hx hb hdg rfl (kk H locs ls hP hD hS hls)
theorem j_i2l (hX : JX g x own cc nL ret rm) {a : Int32} (hdg : decode cc pc = .ok (.i2l, 1)) (kk : J g x nL cs sl (pc + 1) lv (.long a.toInt64 :: st) ws) : J g x nL cs sl pc lv (.int a :: st) ws := by
  obtain ⟨p, e, R, s, m, args, below, meth, c, Q, A⟩ := x
  obtain ⟨hx, hb, hown, hts, hK, hml, hA, hr, hlo, hR⟩ := hX
  intro H locs ls hP hD hS hls
  exact lv_i2l hx hb hdg rfl (kk H locs ls hP hD hS hls)
theorem j_l2i (hX : JX g x own cc nL ret rm) {a : Int64} (hdg : decode cc pc = .ok (.l2i, 1)) (kk : J g x nL cs sl (pc + 1) lv (.int a.toInt32 :: st) ws) : J g x nL cs sl pc lv (.long a :: st) ws := by
  obtain ⟨p, e, R, s, m, args, below, meth, c, Q, A⟩ := x
  obtain ⟨hx, hb, hown, hts, hK, hml, hA, hr, hlo, hR⟩ := hX
  intro H locs ls hP hD hS hls
  exact lv_l2i hx hb hdg rfl (kk H locs ls hP hD hS hls)
theorem j_i2c (hX : JX g x own cc nL ret rm) {a : Int32} (hdg : decode cc pc = .ok (.i2c, 1)) (kk : J g x nL cs sl (pc + 1) lv (.int (a.toUInt32 % 65536).toInt32 :: st) ws) : J g x nL cs sl pc lv (.int a :: st) ws := by
  obtain ⟨p, e, R, s, m, args, below, meth, c, Q, A⟩ := x
  obtain ⟨hx, hb, hown, hts, hK, hml, hA, hr, hlo, hR⟩ := hX
  intro H locs ls hP hD hS hls
  exact lv_i2c hx hb hdg rfl (kk H locs ls hP hD hS hls)
theorem j_lcmp (hX : JX g x own cc nL ret rm) {a b : Int64} (hdg : decode cc pc = .ok (.lcmp, 1)) (kk : J g x nL cs sl (pc + 1) lv (.int (lg_cmp a b) :: st) ws) : J g x nL cs sl pc lv (.long b :: .long a :: st) ws := by
  obtain ⟨p, e, R, s, m, args, below, meth, c, Q, A⟩ := x
  obtain ⟨hx, hb, hown, hts, hK, hml, hA, hr, hlo, hR⟩ := hX
  intro H locs ls hP hD hS hls
  exact W.lcmp hx hb hdg (kk H locs ls hP hD hS hls)
theorem j_dup (hX : JX g x own cc nL ret rm) {v : Value} (hdg : decode cc pc = .ok (.dup, 1)) (hv : v.category = 1) (kk : J g x nL cs sl (pc + 1) lv (v :: v :: st) ws) : J g x nL cs sl pc lv (v :: st) ws := by
  obtain ⟨p, e, R, s, m, args, below, meth, c, Q, A⟩ := x
  obtain ⟨hx, hb, hown, hts, hK, hml, hA, hr, hlo, hR⟩ := hX
  intro H locs ls hP hD hS hls
  exact lv_dup hx hb hdg hv (kk H locs ls hP hD hS hls)
theorem j_dup2 (hX : JX g x own cc nL ret rm) {v u : Value} (hdg : decode cc pc = .ok (.dup2, 1)) (hv : v.category = 1) (hu : u.category = 1) (kk : J g x nL cs sl (pc + 1) lv (v :: u :: v :: u :: st) ws) : J g x nL cs sl pc lv (v :: u :: st) ws := by
  obtain ⟨p, e, R, s, m, args, below, meth, c, Q, A⟩ := x
  obtain ⟨hx, hb, hown, hts, hK, hml, hA, hr, hlo, hR⟩ := hX
  intro H locs ls hP hD hS hls
  exact lv_dup2_11 hx hb hdg hv hu (kk H locs ls hP hD hS hls)
theorem j_if_eq (hX : JX g x own cc nL ret rm) {a : Int32} {off : Int} {tgt : Nat} (hdg : decode cc pc = .ok (.ifCond .eq off, 3)) (ht : (pc : Int) + off = (tgt : Int)) (kt : a = 0 → J g x nL cs sl tgt lv st ws) (kf : ¬ a = 0 → J g x nL cs sl (pc + 3) lv st ws) : J g x nL cs sl pc lv (.int a :: st) ws := by
  obtain ⟨p, e, R, s, m, args, below, meth, c, Q, A⟩ := x
  obtain ⟨hx, hb, hown, hts, hK, hml, hA, hr, hlo, hR⟩ := hX
  intro H locs ls hP hD hS hls
  exact lv_if_eq hx hb hdg ht (fun h => kt h H locs ls hP hD hS hls) (fun h => kf h H locs ls hP hD hS hls)
theorem j_icmp_eq (hX : JX g x own cc nL ret rm) {a b : Int32} {off : Int} {tgt : Nat} (hdg : decode cc pc = .ok (.if_icmp .eq off, 3)) (ht : (pc : Int) + off = (tgt : Int)) (kt : a = b → J g x nL cs sl tgt lv st ws) (kf : ¬ a = b → J g x nL cs sl (pc + 3) lv st ws) : J g x nL cs sl pc lv (.int b :: .int a :: st) ws := by
  obtain ⟨p, e, R, s, m, args, below, meth, c, Q, A⟩ := x
  obtain ⟨hx, hb, hown, hts, hK, hml, hA, hr, hlo, hR⟩ := hX
  intro H locs ls hP hD hS hls
  exact lv_icmp_eq hx hb hdg ht (fun h => kt h H locs ls hP hD hS hls) (fun h => kf h H locs ls hP hD hS hls)
theorem j_if_ne (hX : JX g x own cc nL ret rm) {a : Int32} {off : Int} {tgt : Nat} (hdg : decode cc pc = .ok (.ifCond .ne off, 3)) (ht : (pc : Int) + off = (tgt : Int)) (kt : ¬ a = 0 → J g x nL cs sl tgt lv st ws) (kf : a = 0 → J g x nL cs sl (pc + 3) lv st ws) : J g x nL cs sl pc lv (.int a :: st) ws := by
  obtain ⟨p, e, R, s, m, args, below, meth, c, Q, A⟩ := x
  obtain ⟨hx, hb, hown, hts, hK, hml, hA, hr, hlo, hR⟩ := hX
  intro H locs ls hP hD hS hls
  exact lv_if_ne hx hb hdg ht (fun h => kt h H locs ls hP hD hS hls) (fun h => kf h H locs ls hP hD hS hls)
theorem j_icmp_ne (hX : JX g x own cc nL ret rm) {a b : Int32} {off : Int} {tgt : Nat} (hdg : decode cc pc = .ok (.if_icmp .ne off, 3)) (ht : (pc : Int) + off = (tgt : Int)) (kt : ¬ a = b → J g x nL cs sl tgt lv st ws) (kf : a = b → J g x nL cs sl (pc + 3) lv st ws) : J g x nL cs sl pc lv (.int b :: .int a :: st) ws := by
  obtain ⟨p, e, R, s, m, args, below, meth, c, Q, A⟩ := x
  obtain ⟨hx, hb, hown, hts, hK, hml, hA, hr, hlo, hR⟩ := hX
  intro H locs ls hP hD hS hls
  exact lv_icmp_ne hx hb hdg ht (fun h => kt h H locs ls hP hD hS hls) (fun h => kf h H locs ls hP hD hS hls)
theorem j_if_lt (hX : JX g x own cc nL ret rm) {a : Int32} {off : Int} {tgt : Nat} (hdg : decode cc pc = .ok (.ifCond .lt off, 3)) (ht : (pc : Int) + off = (tgt : Int)) (kt : a < 0 → J g x nL cs sl tgt lv st ws) (kf : ¬ a < 0 → J g x nL cs sl (pc + 3) lv st ws) : J g x nL cs sl pc lv (.int a :: st) ws := by
  obtain ⟨p, e, R, s, m, args, below, meth, c, Q, A⟩ := x
  obtain ⟨hx, hb, hown, hts, hK, hml, hA, hr, hlo, hR⟩ := hX
  intro H locs ls hP hD hS hls
  exact lv_if_lt hx hb hdg ht (fun h => kt h H locs ls hP hD hS hls) (fun h => kf h H locs ls hP hD hS hls)
theorem j_icmp_lt (hX : JX g x own cc nL ret rm) {a b : Int32} {off : Int} {tgt : Nat} (hdg : decode cc pc = .ok (.if_icmp .lt off, 3)) (ht : (pc : Int) + off = (tgt : Int)) (kt : a < b → J g x nL cs sl tgt lv st ws) (kf : ¬ a < b → J g x nL cs sl (pc + 3) lv st ws) : J g x nL cs sl pc lv (.int b :: .int a :: st) ws := by
  obtain ⟨p, e, R, s, m, args, below, meth, c, Q, A⟩ := x
  obtain ⟨hx, hb, hown, hts, hK, hml, hA, hr, hlo, hR⟩ := hX
  intro H locs ls hP hD hS hls
  exact lv_icmp_lt hx hb hdg ht (fun h => kt h H locs ls hP hD hS hls) (fun h => kf h H locs ls hP hD hS hls)
theorem j_if_ge (hX : JX g x own cc nL ret rm) {a : Int32} {off : Int} {tgt : Nat} (hdg : decode cc pc = .ok (.ifCond .ge off, 3)) (ht : (pc : Int) + off = (tgt : Int)) (kt : 0 ≤ a → J g x nL cs sl tgt lv st ws) (kf : ¬ 0 ≤ a → J g x nL cs sl (pc + 3) lv st ws) : J g x nL cs sl pc lv (.int a :: st) ws := by
  obtain ⟨p, e, R, s, m, args, below, meth, c, Q, A⟩ := x
  obtain ⟨hx, hb, hown, hts, hK, hml, hA, hr, hlo, hR⟩ := hX
  intro H locs ls hP hD hS hls
  exact lv_if_ge hx hb hdg ht (fun h => kt h H locs ls hP hD hS hls) (fun h => kf h H locs ls hP hD hS hls)
theorem j_icmp_ge (hX : JX g x own cc nL ret rm) {a b : Int32} {off : Int} {tgt : Nat} (hdg : decode cc pc = .ok (.if_icmp .ge off, 3)) (ht : (pc : Int) + off = (tgt : Int)) (kt : b ≤ a → J g x nL cs sl tgt lv st ws) (kf : ¬ b ≤ a → J g x nL cs sl (pc + 3) lv st ws) : J g x nL cs sl pc lv (.int b :: .int a :: st) ws := by
  obtain ⟨p, e, R, s, m, args, below, meth, c, Q, A⟩ := x
  obtain ⟨hx, hb, hown, hts, hK, hml, hA, hr, hlo, hR⟩ := hX
  intro H locs ls hP hD hS hls
  exact lv_icmp_ge hx hb hdg ht (fun h => kt h H locs ls hP hD hS hls) (fun h => kf h H locs ls hP hD hS hls)
theorem j_if_gt (hX : JX g x own cc nL ret rm) {a : Int32} {off : Int} {tgt : Nat} (hdg : decode cc pc = .ok (.ifCond .gt off, 3)) (ht : (pc : Int) + off = (tgt : Int)) (kt : 0 < a → J g x nL cs sl tgt lv st ws) (kf : ¬ 0 < a → J g x nL cs sl (pc + 3) lv st ws) : J g x nL cs sl pc lv (.int a :: st) ws := by
  obtain ⟨p, e, R, s, m, args, below, meth, c, Q, A⟩ := x
  obtain ⟨hx, hb, hown, hts, hK, hml, hA, hr, hlo, hR⟩ := hX
  intro H locs ls hP hD hS hls
  exact lv_if_gt hx hb hdg ht (fun h => kt h H locs ls hP hD hS hls) (fun h => kf h H locs ls hP hD hS hls)
theorem j_icmp_gt (hX : JX g x own cc nL ret rm) {a b : Int32} {off : Int} {tgt : Nat} (hdg : decode cc pc = .ok (.if_icmp .gt off, 3)) (ht : (pc : Int) + off = (tgt : Int)) (kt : b < a → J g x nL cs sl tgt lv st ws) (kf : ¬ b < a → J g x nL cs sl (pc + 3) lv st ws) : J g x nL cs sl pc lv (.int b :: .int a :: st) ws := by
  obtain ⟨p, e, R, s, m, args, below, meth, c, Q, A⟩ := x
  obtain ⟨hx, hb, hown, hts, hK, hml, hA, hr, hlo, hR⟩ := hX
  intro H locs ls hP hD hS hls
  exact lv_icmp_gt hx hb hdg ht (fun h => kt h H locs ls hP hD hS hls) (fun h => kf h H locs ls hP hD hS hls)
theorem j_if_le (hX : JX g x own cc nL ret rm) {a : Int32} {off : Int} {tgt : Nat} (hdg : decode cc pc = .ok (.ifCond .le off, 3)) (ht : (pc : Int) + off = (tgt : Int)) (kt : a ≤ 0 → J g x nL cs sl tgt lv st ws) (kf : ¬ a ≤ 0 → J g x nL cs sl (pc + 3) lv st ws) : J g x nL cs sl pc lv (.int a :: st) ws := by
  obtain ⟨p, e, R, s, m, args, below, meth, c, Q, A⟩ := x
  obtain ⟨hx, hb, hown, hts, hK, hml, hA, hr, hlo, hR⟩ := hX
  intro H locs ls hP hD hS hls
  exact lv_if_le hx hb hdg ht (fun h => kt h H locs ls hP hD hS hls) (fun h => kf h H locs ls hP hD hS hls)
theorem j_icmp_le (hX : JX g x own cc nL ret rm) {a b : Int32} {off : Int} {tgt : Nat} (hdg : decode cc pc = .ok (.if_icmp .le off, 3)) (ht : (pc : Int) + off = (tgt : Int)) (kt : a ≤ b → J g x nL cs sl tgt lv st ws) (kf : ¬ a ≤ b → J g x nL cs sl (pc + 3) lv st ws) : J g x nL cs sl pc lv (.int b :: .int a :: st) ws := by
  obtain ⟨p, e, R, s, m, args, below, meth, c, Q, A⟩ := x
  obtain ⟨hx, hb, hown, hts, hK, hml, hA, hr, hlo, hR⟩ := hX
  intro H locs ls hP hD hS hls
  exact lv_icmp_le hx hb hdg ht (fun h => kt h H locs ls hP hD hS hls) (fun h => kf h H locs ls hP hD hS hls)
theorem j_goto (hX : JX g x own cc nL ret rm) {off : Int} {tgt : Nat} (hdg : decode cc pc = .ok (.goto off, 3)) (ht : (pc : Int) + off = (tgt : Int)) (kk : J g x nL cs sl tgt lv st ws) : J g x nL cs sl pc lv st ws := by
  obtain ⟨p, e, R, s, m, args, below, meth, c, Q, A⟩ := x
  obtain ⟨hx, hb, hown, hts, hK, hml, hA, hr, hlo, hR⟩ := hX
  intro H locs ls hP hD hS hls
  exact lv_goto hx hb hdg ht (kk H locs ls hP hD hS hls)
theorem j_tabOut (hX : JX g x own cc nL ret rm) {dflt lo hi : Int} {offs : Array Int} {len : Nat} {a : Int32} {tgt : Nat} (hdg : decode cc pc = .ok (.tableswitch dflt lo hi offs, len)) (h : a.toInt < lo ∨ hi < a.toInt) (ht : (pc : Int) + dflt = (tgt : Int)) (kk : J g x nL cs sl tgt lv st ws) : J g x nL cs sl pc lv (.int a :: st) ws := by
  obtain ⟨p, e, R, s, m, args, below, meth, c, Q, A⟩ := x
  obtain ⟨hx, hb, hown, hts, hK, hml, hA, hr, hlo, hR⟩ := hX
  intro H locs ls hP hD hS hls
  exact lv_tableOut hx hb hdg h ht (kk H locs ls hP hD hS hls)
theorem j_tabIn (hX : JX g x own cc nL ret rm) {dflt lo hi : Int} {offs : Array Int} {len : Nat} {a : Int32} {off : Int} {tgt : Nat} (hdg : decode cc pc = .ok (.tableswitch dflt lo hi offs, len)) (h1 : ¬ a.toInt < lo) (h2 : ¬ hi < a.toInt) (ho : offs[(a.toInt - lo).toNat]? = some off) (ht : (pc : Int) + off = (tgt : Int)) (kk : J g x nL cs sl tgt lv st ws) : J g x nL cs sl pc lv (.int a :: st) ws := by
  obtain ⟨p, e, R, s, m, args, below, meth, c, Q, A⟩ := x
  obtain ⟨hx, hb, hown, hts, hK, hml, hA, hr, hlo, hR⟩ := hX
  intro H locs ls hP hD hS hls
  exact lv_tableIn hx hb hdg h1 h2 ho ht (kk H locs ls hP hD hS hls)
theorem j_look (hX : JX g x own cc nL ret rm) {dflt : Int} {ps : Array (Int × Int)} {len : Nat} {a : Int32} {off : Int} {tgt : Nat} (hdg : decode cc pc = .ok (.lookupswitch dflt ps, len)) (hp : (ps.toList.zip (ps.toList.drop 1)).all (fun (a, next) => a.1 < next.1) = true) (ho : Op.lookupswitch.offset ps.toList dflt a.toInt = off) (ht : (pc : Int) + off = (tgt : Int)) (kk : J g x nL cs sl tgt lv st ws) : J g x nL cs sl pc lv (.int a :: st) ws := by
  obtain ⟨p, e, R, s, m, args, below, meth, c, Q, A⟩ := x
  obtain ⟨hx, hb, hown, hts, hK, hml, hA, hr, hlo, hR⟩ := hX
  intro H locs ls hP hD hS hls
  exact lv_lookup hx hb hdg hp ho ht (kk H locs ls hP hD hS hls)
theorem j_ldc (hX : JX g x own cc nL ret rm) {index : Nat} {v : Int32} (hw : Cond.constant own index v ∈ wsL_law) (hdg : decode cc pc = .ok (.ldc index, 2)) (kk : J g x nL cs sl (pc + 2) lv (.int v :: st) ws) : J g x nL cs sl pc lv st ws := by
  obtain ⟨p, e, R, s, m, args, below, meth, c, Q, A⟩ := x
  obtain ⟨hx, hb, hown, hts, hK, hml, hA, hr, hlo, hR⟩ := hX
  intro H locs ls hP hD hS hls
  exact lv_ldc hx hb hown (hts _ hw) hdg (kk H locs ls hP hD hS hls)
theorem j_ldcw (hX : JX g x own cc nL ret rm) {index : Nat} {v : Int32} (hw : Cond.constant own index v ∈ wsL_law) (hdg : decode cc pc = .ok (.ldc_w index, 3)) (kk : J g x nL cs sl (pc + 3) lv (.int v :: st) ws) : J g x nL cs sl pc lv st ws := by
  obtain ⟨p, e, R, s, m, args, below, meth, c, Q, A⟩ := x
  obtain ⟨hx, hb, hown, hts, hK, hml, hA, hr, hlo, hR⟩ := hX
  intro H locs ls hP hD hS hls
  exact lv_ldcw hx hb hown (hts _ hw) hdg (kk H locs ls hP hD hS hls)
theorem j_ldc2 (hX : JX g x own cc nL ret rm) {index : Nat} {v : Int64} (hw : Cond.constantLong own index v ∈ wsL_law) (hdg : decode cc pc = .ok (.ldc2_w index, 3)) (kk : J g x nL cs sl (pc + 3) lv (.long v :: st) ws) : J g x nL cs sl pc lv st ws := by
  obtain ⟨p, e, R, s, m, args, below, meth, c, Q, A⟩ := x
  obtain ⟨hx, hb, hown, hts, hK, hml, hA, hr, hlo, hR⟩ := hX
  intro H locs ls hP hD hS hls
  exact lv_ldc2 hx hb hown (hts _ hw) hdg (kk H locs ls hP hD hS hls)
theorem j_top {a b : Int32} (h : a = b) (kk : J g x nL cs sl pc lv (.int b :: st) ws) : J g x nL cs sl pc lv (.int a :: st) ws := h ▸ kk
theorem j_topl {a b : Int64} (h : a = b) (kk : J g x nL cs sl pc lv (.long b :: st) ws) : J g x nL cs sl pc lv (.long a :: st) ws := h ▸ kk
theorem j_wd {cs2 sl2 : Nat} (h1 : cs ≤ cs2) (h2 : sl ≤ sl2) (kk : J g x nL cs2 sl2 pc lv st ws) : J g x nL cs sl pc lv st ws := by
  obtain ⟨p, e, R, s, m, args, below, meth, c, Q, A⟩ := x
  intro H locs ls hP hD hS hls
  exact W.widen h1 h2 (kk H locs ls hP hD hS hls)
theorem j_get (hX : JX g x own cc nL ret rm) {C : String} {T : u_T} {N ci index : Nat} (hin : ∀ w ∈ u_ws C T N, w ∈ wsL_law) (hc : vwCl[ci]? = some (C, T, N)) (k : Nat) (hk : k < N) (hlink : Cond.fieldLink own index (T k).1 (T k).2.1 (T k).2.2.1 ∈ wsL_law) (q0 : Nat) {a : Nat} {fs : List Value} {v : Value} (he : ws[q0]? = some (a, .inr (ci, fs))) (hv : fs[k]? = some v) (hdg : decode cc pc = .ok (.getfield index, 3)) (kk : J g x nL cs sl (pc + 3) lv (v :: st) ws) : J g x nL cs sl pc lv (.ref a :: st) ws := by
  obtain ⟨p, e, R, s, m, args, below, meth, c, Q, A⟩ := x
  obtain ⟨hx, hb, hown, hts, hK, hml, hA, hr, hlo, hR⟩ := hX
  intro H locs ls hP hD hS hls
  exact va_get (D := jD g) hx hb hts hin hown hK.1 hP q0 he hc k hk (hts _ hlink) (fun _ h9 => h9) hv hdg (kk H locs ls hP hD hS hls)
theorem j_put (hX : JX g x own cc nL ret rm) {C : String} {T : u_T} {N ci index : Nat} (hin : ∀ w ∈ u_ws C T N, w ∈ wsL_law) (ty0 : Nat → FieldType) (hty : ∀ k, k < N → parseFieldDescriptor (T k).2.2.1 = some (ty0 k)) (hnm : ∀ a, a < N → ∀ b, b < N → a ≠ b → (T a).2.1 ≠ (T b).2.1) (hc : vwCl[ci]? = some (C, T, N)) (k : Nat) (hk : k < N) (hlink : Cond.fieldLink own index (T k).1 (T k).2.1 (T k).2.2.1 ∈ wsL_law) (hfin : (T k).2.2.2 = false) {ty : FieldType} (hd : parseFieldDescriptor (T k).2.2.1 = some ty) (q0 : Nat) {a : Nat} {fs : List Value} {v : Value} (he : ws[q0]? = some (a, .inr (ci, fs))) (hl : k < fs.length) (hn : narrow ty v = v) (hfit : fits ty v = true) (hdg : decode cc pc = .ok (.putfield index, 3)) (kk : J g x nL cs sl (pc + 3) lv st (ws.set q0 (a, .inr (ci, fs.set k v)))) : J g x nL cs sl pc lv (v :: .ref a :: st) ws := by
  obtain ⟨p, e, R, s, m, args, below, meth, c, Q, A⟩ := x
  obtain ⟨hx, hb, hown, hts, hK, hml, hA, hr, hlo, hR⟩ := hX
  intro H locs ls hP hD hS hls
  exact va_put (D := jD g) hx hb hts hin ty0 hty hnm hown hK.1 hP hD hS q0 he hc k hk (hts _ hlink) (fun _ h9 => h9) hfin hd hn hfit hl hdg (fun H1 locs1 p1 p2 p3 => kk H1 locs1 ls p1 p2 p3 hls)
theorem j_getN (hX : JX g x own cc nL ret rm) {C host : String} {T : u_T} {N ci index : Nat} (hin : ∀ w ∈ u_ws C T N, w ∈ wsL_law) (hc : vwCl[ci]? = some (C, T, N)) (k : Nat) (hk : k < N) (hlink : Cond.fieldLinkNest own index (T k).1 (T k).2.1 (T k).2.2.1 host ∈ wsN) (q0 : Nat) {a : Nat} {fs : List Value} {v : Value} (he : ws[q0]? = some (a, .inr (ci, fs))) (hv : fs[k]? = some v) (hdg : decode cc pc = .ok (.getfield index, 3)) (kk : J g x nL cs sl (pc + 3) lv (v :: st) ws) : J g x nL cs sl pc lv (.ref a :: st) ws := by
  obtain ⟨p, e, R, s, m, args, below, meth, c, Q, A⟩ := x
  obtain ⟨hx, hb, hown, hts, hK, hml, hA, hr, hlo, hR⟩ := hX
  intro H locs ls hP hD hS hls
  exact va_getN (D := jD g) hx hb hts hin hown hK.1 hP q0 he hc k hk (va_Nw.use rfl (hK.2.2 _ hlink)) (fun _ h9 => h9) hv hdg (kk H locs ls hP hD hS hls)
theorem j_putN (hX : JX g x own cc nL ret rm) {C host : String} {T : u_T} {N ci index : Nat} (hin : ∀ w ∈ u_ws C T N, w ∈ wsL_law) (ty0 : Nat → FieldType) (hty : ∀ k, k < N → parseFieldDescriptor (T k).2.2.1 = some (ty0 k)) (hnm : ∀ a, a < N → ∀ b, b < N → a ≠ b → (T a).2.1 ≠ (T b).2.1) (hc : vwCl[ci]? = some (C, T, N)) (k : Nat) (hk : k < N) (hlink : Cond.fieldLinkNest own index (T k).1 (T k).2.1 (T k).2.2.1 host ∈ wsN) (hfin : (T k).2.2.2 = false) {ty : FieldType} (hd : parseFieldDescriptor (T k).2.2.1 = some ty) (q0 : Nat) {a : Nat} {fs : List Value} {v : Value} (he : ws[q0]? = some (a, .inr (ci, fs))) (hl : k < fs.length) (hn : narrow ty v = v) (hfit : fits ty v = true) (hdg : decode cc pc = .ok (.putfield index, 3)) (kk : J g x nL cs sl (pc + 3) lv st (ws.set q0 (a, .inr (ci, fs.set k v)))) : J g x nL cs sl pc lv (v :: .ref a :: st) ws := by
  obtain ⟨p, e, R, s, m, args, below, meth, c, Q, A⟩ := x
  obtain ⟨hx, hb, hown, hts, hK, hml, hA, hr, hlo, hR⟩ := hX
  intro H locs ls hP hD hS hls
  exact va_putN (D := jD g) hx hb hts hin ty0 hty hnm hown hK.1 hP hD hS q0 he hc k hk (va_Nw.use rfl (hK.2.2 _ hlink)) (fun _ h9 => h9) hfin hd hn hfit hl hdg (fun H1 locs1 p1 p2 p3 => kk H1 locs1 ls p1 p2 p3 hls)
theorem j_putF (hX : JX g x own cc nL ret rm) (hI : JN x) {C : String} {T : u_T} {N ci index : Nat} (hin : ∀ w ∈ u_ws C T N, w ∈ wsL_law) (ty0 : Nat → FieldType) (hty : ∀ k, k < N → parseFieldDescriptor (T k).2.2.1 = some (ty0 k)) (hnm : ∀ a, a < N → ∀ b, b < N → a ≠ b → (T a).2.1 ≠ (T b).2.1) (hc : vwCl[ci]? = some (C, T, N)) (k : Nat) (hk : k < N) (hlink : Cond.fieldLink own index (T k).1 (T k).2.1 (T k).2.2.1 ∈ wsL_law) (hfin : (T k).2.2.2 = true) (hdecl : (T k).1 = own) {ty : FieldType} (hd : parseFieldDescriptor (T k).2.2.1 = some ty) (q0 : Nat) {a : Nat} {fs : List Value} {v : Value} (he : ws[q0]? = some (a, .inr (ci, fs))) (hl : k < fs.length) (hn : narrow ty v = v) (hfit : fits ty v = true) (hdg : decode cc pc = .ok (.putfield index, 3)) (kk : J g x nL cs sl (pc + 3) lv st (ws.set q0 (a, .inr (ci, fs.set k v)))) : J g x nL cs sl pc lv (v :: .ref a :: st) ws := by
  obtain ⟨p, e, R, s, m, args, below, meth, c, Q, A⟩ := x
  obtain ⟨hx, hb, hown, hts, hK, hml, hA, hr, hlo, hR⟩ := hX
  intro H locs ls hP hD hS hls
  exact va_putF (D := jD g) hx hb hts hin ty0 hty hnm hown hK.1 hP hD hS q0 he hc k hk (hts _ hlink) (fun _ h9 => h9) hfin hI hdecl hd hn hfit hl hdg (fun H1 locs1 p1 p2 p3 => kk H1 locs1 ls p1 p2 p3 hls)
theorem j_iald (hX : JX g x own cc nL ret rm) (q0 : Nat) {a n : Nat} {f : Nat → Int32} (ha : ws[q0]? = some (a, .inl (gI g, n, .inl f))) {i : Int32} (k : Nat) (hi : i = nI k) (hk : k < n) (h31 : n < 2147483648) (hdg : decode cc pc = .ok (.iaload, 1)) (kk : J g x nL cs sl (pc + 1) lv (.int (f k) :: st) ws) : J g x nL cs sl pc lv (.int i :: .ref a :: st) ws := by
  obtain ⟨p, e, R, s, m, args, below, meth, c, Q, A⟩ := x
  obtain ⟨hx, hb, hown, hts, hK, hml, hA, hr, hlo, hR⟩ := hX
  intro H locs ls hP hD hS hls
  subst hi
  have hc : (nI k).toNatClampNeg = k := nI_clamp (by omega)
  exact va_iald (D := jD g) hx hb hK.1 hP q0 0 ha rfl (vp_in_nI hk h31) hdg (by rw [hc]; exact (kk H locs ls hP hD hS hls))
theorem j_cald (hX : JX g x own cc nL ret rm) (q0 : Nat) {a n : Nat} {f : Nat → Int32} (ha : ws[q0]? = some (a, .inl (gC g, n, .inl f))) {i : Int32} (k : Nat) (hi : i = nI k) (hk : k < n) (h31 : n < 2147483648) (hdg : decode cc pc = .ok (.caload, 1)) (kk : J g x nL cs sl (pc + 1) lv (.int (f k) :: st) ws) : J g x nL cs sl pc lv (.int i :: .ref a :: st) ws := by
  obtain ⟨p, e, R, s, m, args, below, meth, c, Q, A⟩ := x
  obtain ⟨hx, hb, hown, hts, hK, hml, hA, hr, hlo, hR⟩ := hX
  intro H locs ls hP hD hS hls
  subst hi
  have hc : (nI k).toNatClampNeg = k := nI_clamp (by omega)
  exact va_cald (D := jD g) hx hb hK.1 hP q0 1 ha rfl (vp_in_nI hk h31) hdg (by rw [hc]; exact (kk H locs ls hP hD hS hls))
theorem j_zald (hX : JX g x own cc nL ret rm) (q0 : Nat) {a n : Nat} {f : Nat → Int32} (ha : ws[q0]? = some (a, .inl (gZ g, n, .inl f))) {i : Int32} (k : Nat) (hi : i = nI k) (hk : k < n) (h31 : n < 2147483648) (hdg : decode cc pc = .ok (.baload, 1)) (kk : J g x nL cs sl (pc + 1) lv (.int (f k) :: st) ws) : J g x nL cs sl pc lv (.int i :: .ref a :: st) ws := by
  obtain ⟨p, e, R, s, m, args, below, meth, c, Q, A⟩ := x
  obtain ⟨hx, hb, hown, hts, hK, hml, hA, hr, hlo, hR⟩ := hX
  intro H locs ls hP hD hS hls
  subst hi
  have hc : (nI k).toNatClampNeg = k := nI_clamp (by omega)
  exact va_zald (D := jD g) hx hb hK.1 hP q0 2 ha rfl (vp_in_nI hk h31) hdg (by rw [hc]; exact (kk H locs ls hP hD hS hls))
theorem j_aald (hX : JX g x own cc nL ret rm) (q0 : Nat) {a n : Nat} {f : Nat → Option Nat} (ha : ws[q0]? = some (a, .inl (gS g, n, .inr (.inr (.inr (.inr f)))))) {i : Int32} (k : Nat) (hi : i = nI k) (hk : k < n) (h31 : n < 2147483648) {v : Nat} (hv : f k = some v) (hdg : decode cc pc = .ok (.aaload, 1)) (kk : J g x nL cs sl (pc + 1) lv (.ref v :: st) ws) : J g x nL cs sl pc lv (.int i :: .ref a :: st) ws := by
  obtain ⟨p, e, R, s, m, args, below, meth, c, Q, A⟩ := x
  obtain ⟨hx, hb, hown, hts, hK, hml, hA, hr, hlo, hR⟩ := hX
  intro H locs ls hP hD hS hls
  subst hi
  have hc : (nI k).toNatClampNeg = k := nI_clamp (by omega)
  exact va_aldq (D := jD g) hx hb hK.1 hP q0 3 ha rfl (vp_in_nI hk h31) hdg (by rw [hc, hv]; exact (kk H locs ls hP hD hS hls))
theorem j_iast (hX : JX g x own cc nL ret rm) (q0 : Nat) {a n : Nat} {f : Nat → Int32} (ha : ws[q0]? = some (a, .inl (gI g, n, .inl f))) {i : Int32} (k : Nat) (hi : i = nI k) (hk : k < n) (h31 : n < 2147483648) {v : Int32} (hdg : decode cc pc = .ok (.iastore, 1)) (kk : J g x nL cs sl (pc + 1) lv st (ws.set q0 (a, .inl (gI g, n, .inl (upd f k v))))) : J g x nL cs sl pc lv (.int v :: .int i :: .ref a :: st) ws := by
  obtain ⟨p, e, R, s, m, args, below, meth, c, Q, A⟩ := x
  obtain ⟨hx, hb, hown, hts, hK, hml, hA, hr, hlo, hR⟩ := hX
  intro H locs ls hP hD hS hls
  subst hi
  have hc : (nI k).toNatClampNeg = k := nI_clamp (by omega)
  exact va_iast (D := jD g) hx hb hK.1 hP hD hS q0 0 ha rfl (vp_in_nI hk h31) hdg (by rw [hc]; exact fun H1 locs1 p1 p2 p3 => kk H1 locs1 ls p1 p2 p3 hls)
theorem j_cast (hX : JX g x own cc nL ret rm) (q0 : Nat) {a n : Nat} {f : Nat → Int32} (ha : ws[q0]? = some (a, .inl (gC g, n, .inl f))) {i : Int32} (k : Nat) (hi : i = nI k) (hk : k < n) (h31 : n < 2147483648) {v : Int32} (hdg : decode cc pc = .ok (.castore, 1)) (kk : J g x nL cs sl (pc + 1) lv st (ws.set q0 (a, .inl (gC g, n, .inl (upd f k (vp_nar .char v)))))) : J g x nL cs sl pc lv (.int v :: .int i :: .ref a :: st) ws := by
  obtain ⟨p, e, R, s, m, args, below, meth, c, Q, A⟩ := x
  obtain ⟨hx, hb, hown, hts, hK, hml, hA, hr, hlo, hR⟩ := hX
  intro H locs ls hP hD hS hls
  subst hi
  have hc : (nI k).toNatClampNeg = k := nI_clamp (by omega)
  exact va_cast (D := jD g) hx hb hK.1 hP hD hS q0 1 ha rfl (vp_in_nI hk h31) hdg (by rw [hc]; exact fun H1 locs1 p1 p2 p3 => kk H1 locs1 ls p1 p2 p3 hls)
theorem j_zast (hX : JX g x own cc nL ret rm) (q0 : Nat) {a n : Nat} {f : Nat → Int32} (ha : ws[q0]? = some (a, .inl (gZ g, n, .inl f))) {i : Int32} (k : Nat) (hi : i = nI k) (hk : k < n) (h31 : n < 2147483648) {v : Int32} (hdg : decode cc pc = .ok (.bastore, 1)) (kk : J g x nL cs sl (pc + 1) lv st (ws.set q0 (a, .inl (gZ g, n, .inl (upd f k (vp_nar .boolean v)))))) : J g x nL cs sl pc lv (.int v :: .int i :: .ref a :: st) ws := by
  obtain ⟨p, e, R, s, m, args, below, meth, c, Q, A⟩ := x
  obtain ⟨hx, hb, hown, hts, hK, hml, hA, hr, hlo, hR⟩ := hX
  intro H locs ls hP hD hS hls
  subst hi
  have hc : (nI k).toNatClampNeg = k := nI_clamp (by omega)
  exact va_zast (D := jD g) hx hb hK.1 hP hD hS q0 2 ha rfl (vp_in_nI hk h31) hdg (by rw [hc]; exact fun H1 locs1 p1 p2 p3 => kk H1 locs1 ls p1 p2 p3 hls)
theorem j_aast (hX : JX g x own cc nL ret rm) (q0 qk : Nat) {a n v : Nat} {vs : List Value} {f : Nat → Option Nat} (ha : ws[q0]? = some (a, .inl (gS g, n, .inr (.inr (.inr (.inr f)))))) (hv : ws[qk]? = some (v, .inr (6, vs))) {i : Int32} (k : Nat) (hi : i = nI k) (hk : k < n) (h31 : n < 2147483648) (hdg : decode cc pc = .ok (.aastore, 1)) (kk : J g x nL cs sl (pc + 1) lv st (ws.set q0 (a, .inl (gS g, n, .inr (.inr (.inr (.inr (va_up f k (some v))))))))) : J g x nL cs sl pc lv (.ref v :: .int i :: .ref a :: st) ws := by
  obtain ⟨p, e, R, s, m, args, below, meth, c, Q, A⟩ := x
  obtain ⟨hx, hb, hown, hts, hK, hml, hA, hr, hlo, hR⟩ := hX
  intro H locs ls hP hD hS hls
  subst hi
  have hc : (nI k).toNatClampNeg = k := nI_clamp (by omega)
  exact va_astq (D := jD g) (r := (RX6, TX6, 5)) hx hb hK.1 hP hD hS q0 3 qk 6 ha rfl hv rfl (vp_in_nI hk h31) hdg (by rw [hc]; exact fun H1 locs1 p1 p2 p3 => kk H1 locs1 ls p1 p2 p3 hls)
theorem j_alen (hX : JX g x own cc nL ret rm) (q0 : Nat) {a n : Nat} {f : Nat → Int32} (ha : ws[q0]? = some (a, .inl (gI g, n, .inl f))) (hdg : decode cc pc = .ok (.arraylength, 1)) (kk : J g x nL cs sl (pc + 1) lv (.int (nI n) :: st) ws) : J g x nL cs sl pc lv (.ref a :: st) ws := by
  obtain ⟨p, e, R, s, m, args, below, meth, c, Q, A⟩ := x
  obtain ⟨hx, hb, hown, hts, hK, hml, hA, hr, hlo, hR⟩ := hX
  intro H locs ls hP hD hS hls
  exact va_alen (D := jD g) hx hb hK.1 hP q0 0 ha rfl rfl hdg (kk H locs ls hP hD hS hls)
/-- the law's script -/
def JS (x : jC) (b L : Nat) (xs : Nat → Int32) : Prop :=
  match x with
  | (_, _, _, s, _, _, _, _, _, _, A) => va_X b L xs s s.heap ∧ b < s.heap.size ∧ ¬ A b
theorem j_slen (hX : JX g x own cc nL ret rm) {b L : Nat} {xs : Nat → Int32} (hSc : JS x b L xs) (hdg : decode cc pc = .ok (.arraylength, 1)) (kk : J g x nL cs sl (pc + 1) lv (.int (nI L) :: st) ws) : J g x nL cs sl pc lv (.ref b :: st) ws := by
  obtain ⟨p, e, R, s, m, args, below, meth, c, Q, A⟩ := x
  obtain ⟨hx, hb, hown, hts, hK, hml, hA, hr, hlo, hR⟩ := hX
  intro H locs ls hP hD hS hls
  obtain ⟨s1, s2, s3⟩ := hSc
  exact va_slen hx hb s1 s2 s3 hS hdg (kk H locs ls hP hD hS hls)
theorem j_sld (hX : JX g x own cc nL ret rm) {b L : Nat} {xs : Nat → Int32} (hSc : JS x b L xs) {i : Int32} (k : Nat) (hi : i = nI k) (hk : k < L) (h31 : L < 2147483648) (hdg : decode cc pc = .ok (.iaload, 1)) (kk : J g x nL cs sl (pc + 1) lv (.int (xs k) :: st) ws) : J g x nL cs sl pc lv (.int i :: .ref b :: st) ws := by
  obtain ⟨p, e, R, s, m, args, below, meth, c, Q, A⟩ := x
  obtain ⟨hx, hb, hown, hts, hK, hml, hA, hr, hlo, hR⟩ := hX
  intro H locs ls hP hD hS hls
  subst hi
  have hc : (nI k).toNatClampNeg = k := nI_clamp (by omega)
  obtain ⟨s1, s2, s3⟩ := hSc
  exact va_sld hx hb s1 s2 s3 hS (vp_in_nI hk h31) hdg (by rw [hc]; exact (kk H locs ls hP hD hS hls))
theorem jK_cls {g : jG} {s : State} {cA : ClassId} {ty : FieldType} {tys : List (ClassId × FieldType)} (hK : va_K (jD g) vwCl tys s) {i j : Nat} {cB : ClassId} (hi : tys[i]? = some (cA, ty)) (hj : tys[j]? = some (cB, ty)) : cA = cB := by
  have h1 := (hK.2 i _ hi).2
  have h2 := (hK.2 j _ hj).2
  cases ty with
  | object C =>
    obtain ⟨_, _, _, _, _, a⟩ := h1
    obtain ⟨_, _, _, _, _, b⟩ := h2
    exact Option.some.inj (a.symm.trans b)
  | _ => exact Option.some.inj (Eq.trans (Eq.symm h1) h2)
theorem j_newa_int (hX : JX g x own cc nL ret rm) (n : Nat) {v : Int32} (hv : v = nI n) (hn : n < 65536) (hw : Cond.arrayClass FieldType.int ∈ wsL_law) (h1 : cs + 1 ≤ rm.cells) (h2 : sl + n ≤ rm.slots) (hdg : decode cc pc = .ok (.newarray .int, 2)) (kk : ∀ q : Nat, J g x nL (cs + 1) (sl + n) (pc + 2) lv (.ref q :: st) (ws ++ [(q, .inl (gI g, n, .inl (fun _ => 0)))])) : J g x nL cs sl pc lv (.int v :: st) ws := by
  obtain ⟨p, e, R, s, m, args, below, meth, c, Q, A⟩ := x
  obtain ⟨hx, hb, hown, hts, hK, hml, hA, hr, hlo, hR⟩ := hX
  intro H locs ls hP hD hS hls
  subst hv
  subst hR
  have hc : (nI n).toNatClampNeg = n := nI_clamp (by omega)
  refine va_newa (D := jD g) (atype := .int) (ty := .int) (a0 := (n, .inl (fun _ => 0))) hx hb (hts _ hw) rfl hK.1 hP hD hS hA (fun cA => rfl) (nI_pos (by omega)) hc (by show n * 4 ≤ 536870912; omega) h1 h2 hdg (fun q cA H1 k1 p1 p2 p3 => ?_)
  have hcA : cA = gI g := jK_cls k1 (i := 4) (j := 0) rfl rfl
  subst hcA
  exact kk q H1 locs ls p1 p2 p3 hls
theorem j_newa_char (hX : JX g x own cc nL ret rm) (n : Nat) {v : Int32} (hv : v = nI n) (hn : n < 65536) (hw : Cond.arrayClass FieldType.char ∈ wsL_law) (h1 : cs + 1 ≤ rm.cells) (h2 : sl + n ≤ rm.slots) (hdg : decode cc pc = .ok (.newarray .char, 2)) (kk : ∀ q : Nat, J g x nL (cs + 1) (sl + n) (pc + 2) lv (.ref q :: st) (ws ++ [(q, .inl (gC g, n, .inl (fun _ => 0)))])) : J g x nL cs sl pc lv (.int v :: st) ws := by
  obtain ⟨p, e, R, s, m, args, below, meth, c, Q, A⟩ := x
  obtain ⟨hx, hb, hown, hts, hK, hml, hA, hr, hlo, hR⟩ := hX
  intro H locs ls hP hD hS hls
  subst hv
  subst hR
  have hc : (nI n).toNatClampNeg = n := nI_clamp (by omega)
  refine va_newa (D := jD g) (atype := .char) (ty := .char) (a0 := (n, .inl (fun _ => 0))) hx hb (hts _ hw) rfl hK.1 hP hD hS hA (fun cA => rfl) (nI_pos (by omega)) hc (by show n * 2 ≤ 536870912; omega) h1 h2 hdg (fun q cA H1 k1 p1 p2 p3 => ?_)
  have hcA : cA = gC g := jK_cls k1 (i := 4) (j := 1) rfl rfl
  subst hcA
  exact kk q H1 locs ls p1 p2 p3 hls
theorem j_newa_boolean (hX : JX g x own cc nL ret rm) (n : Nat) {v : Int32} (hv : v = nI n) (hn : n < 65536) (hw : Cond.arrayClass FieldType.boolean ∈ wsL_law) (h1 : cs + 1 ≤ rm.cells) (h2 : sl + n ≤ rm.slots) (hdg : decode cc pc = .ok (.newarray .boolean, 2)) (kk : ∀ q : Nat, J g x nL (cs + 1) (sl + n) (pc + 2) lv (.ref q :: st) (ws ++ [(q, .inl (gZ g, n, .inl (fun _ => 0)))])) : J g x nL cs sl pc lv (.int v :: st) ws := by
  obtain ⟨p, e, R, s, m, args, below, meth, c, Q, A⟩ := x
  obtain ⟨hx, hb, hown, hts, hK, hml, hA, hr, hlo, hR⟩ := hX
  intro H locs ls hP hD hS hls
  subst hv
  subst hR
  have hc : (nI n).toNatClampNeg = n := nI_clamp (by omega)
  refine va_newa (D := jD g) (atype := .boolean) (ty := .boolean) (a0 := (n, .inl (fun _ => 0))) hx hb (hts _ hw) rfl hK.1 hP hD hS hA (fun cA => rfl) (nI_pos (by omega)) hc (by show n * 1 ≤ 536870912; omega) h1 h2 hdg (fun q cA H1 k1 p1 p2 p3 => ?_)
  have hcA : cA = gZ g := jK_cls k1 (i := 4) (j := 2) rfl rfl
  subst hcA
  exact kk q H1 locs ls p1 p2 p3 hls
theorem j_newq (hX : JX g x own cc nL ret rm) (n : Nat) {v : Int32} {index : Nat} (hv : v = nI n) (hn : n < 65536) (hw : Cond.classLink own index RX6 ∈ wsL_law) (h1 : cs + 1 ≤ rm.cells) (h2 : sl + n ≤ rm.slots) (hdg : decode cc pc = .ok (.anewarray index, 3)) (kk : ∀ q : Nat, J g x nL (cs + 1) (sl + n) (pc + 3) lv (.ref q :: st) (ws ++ [(q, .inl (gS g, n, .inr (.inr (.inr (.inr (fun _ => none))))))])) : J g x nL cs sl pc lv (.int v :: st) ws := by
  obtain ⟨p, e, R, s, m, args, below, meth, c, Q, A⟩ := x
  obtain ⟨hx, hb, hown, hts, hK, hml, hA, hr, hlo, hR⟩ := hX
  intro H locs ls hP hD hS hls
  subst hv
  subst hR
  have hc : (nI n).toNatClampNeg = n := nI_clamp (by omega)
  refine va_newq (D := jD g) hx hb hown (hts _ hw) hK.2.1 hK.1 hP hD hS hA (nI_pos (by omega)) hc (by omega) h1 h2 hdg (fun q cA H1 k1 p1 p2 p3 => ?_)
  have hcA : cA = gS g := jK_cls k1 (i := 4) (j := 3) rfl rfl
  subst hcA
  exact kk q H1 locs ls p1 p2 p3 hls
theorem j_new (hX : JX g x own cc nL ret rm) {C : String} {T : u_T} {N ci index : Nat} (hin : ∀ w ∈ u_ws C T N, w ∈ wsL_law) (ty0 : Nat → FieldType) (hty : ∀ k, k < N → parseFieldDescriptor (T k).2.2.1 = some (ty0 k)) (hc : vwCl[ci]? = some (C, T, N)) {fs : List Value} (hfs : ∀ j, j < N → defaultValue (ty0 j) = vp_V fs j) (hw1 : Cond.classLink own index C ∈ wsL_law) (hw2 : Cond.instantiable C N ∈ wsL_law) (hw3 : Cond.initialized C ∈ wsL_law) (h1 : cs + 1 ≤ rm.cells) (h2 : sl + N ≤ rm.slots) (hdg : decode cc pc = .ok (.new index, 3)) (kk : ∀ q : Nat, J g x nL (cs + 1) (sl + N) (pc + 3) lv (.ref q :: st) (ws ++ [(q, .inr (ci, fs))])) : J g x nL cs sl pc lv st ws := by
  obtain ⟨p, e, R, s, m, args, below, meth, c, Q, A⟩ := x
  obtain ⟨hx, hb, hown, hts, hK, hml, hA, hr, hlo, hR⟩ := hX
  intro H locs ls hP hD hS hls
  subst hR
  exact va_new (D := jD g) hx hb hts hin ty0 hty hown (hts _ hw1) (hts _ hw2) (hts _ hw3) hK.1 hP hD hS hA hc hfs h1 h2 hdg (fun q H1 p1 p2 p3 => kk q H1 locs ls p1 p2 p3 hls)
theorem j_objInit (hX : JX g x own cc nL ret rm) {index : Nat} {a : Nat} (hw1 : Cond.methodLink own index objectInit ∈ wsL_law) (hw2 : Cond.instanceMethod objectInit ∈ wsL_law) (hw3 : Cond.code objectInit ⟨#[0xb1]⟩ 1 none ∈ wsL_law) (hdg : decode cc pc = .ok (.invokespecial index, 3)) (h1 : 1 ≤ rm.frames) (h2 : (st.map fun v => v.category).sum + 12 ≤ rm.locals) (kk : J g x nL cs sl (pc + 3) lv st ws) : J g x nL cs sl pc lv (.ref a :: st) ws := by
  obtain ⟨p, e, R, s, m, args, below, meth, c, Q, A⟩ := x
  obtain ⟨hx, hb, hown, hts, hK, hml, hA, hr, hlo, hR⟩ := hX
  intro H locs ls hP hD hS hls
  subst hR
  refine W.objInit hx hb hown (hts _ hw1) (hts _ hw2) (hts _ hw3) rfl (by rw [hml]; exact hls.1) rfl hdg h1 (by show 2 * 0 + _ + 12 ≤ _; omega) ?_
  exact W.eq (g2 := F0 m (pc + 3) ls st) rfl (kk H locs ls hP hD hS hls)
theorem j_mmax (hX : JX g x own cc nL ret rm) {index : Nat} (hw1 : Cond.methodLink own index Lib.Math.max.name ∈ wsL_law) (hw2 : Cond.static Lib.Math.max.name ∈ wsL_law) (hw3 : Cond.initialized "java/lang/Math" ∈ wsL_law) (hw4 : Cond.code Lib.Math.max.name Lib.Math.max.code 2 (some .int) ∈ wsL_law) (h1 : 1 ≤ rm.frames) (h2 : (st.map fun v => v.category).sum + 13 ≤ rm.locals) (h3 : cs ≤ rm.cells) (h4 : sl ≤ rm.slots) {a b : Int32} (hdg : decode cc pc = .ok (.invokestatic index, 3)) (kk : J g x nL cs sl (pc + 3) lv (.int (S_max a b) :: st) ws) : J g x nL cs sl pc lv (.int b :: .int a :: st) ws := by
  obtain ⟨p, e, R, s, m, args, below, meth, c, Q, A⟩ := x
  obtain ⟨hx, hb, hown, hts, hK, hml, hA, hr, hlo, hR⟩ := hX
  intro H locs ls hP hD hS hls
  subst hR
  exact va_mmax hx hb (by rw [hml]; exact hls.1.symm) hown (hts _ hw1) (hts _ hw2) (hts _ hw3) (hts _ hw4) h1 h2 h3 h4 hdg (kk H locs ls hP hD hS hls)
theorem j_mmin (hX : JX g x own cc nL ret rm) {index : Nat} (hw1 : Cond.methodLink own index Lib.Math.min.name ∈ wsL_law) (hw2 : Cond.static Lib.Math.min.name ∈ wsL_law) (hw3 : Cond.initialized "java/lang/Math" ∈ wsL_law) (hw4 : Cond.code Lib.Math.min.name Lib.Math.min.code 2 (some .int) ∈ wsL_law) (h1 : 1 ≤ rm.frames) (h2 : (st.map fun v => v.category).sum + 13 ≤ rm.locals) (h3 : cs ≤ rm.cells) (h4 : sl ≤ rm.slots) {a b : Int32} (hdg : decode cc pc = .ok (.invokestatic index, 3)) (kk : J g x nL cs sl (pc + 3) lv (.int (S_min a b) :: st) ws) : J g x nL cs sl pc lv (.int b :: .int a :: st) ws := by
  obtain ⟨p, e, R, s, m, args, below, meth, c, Q, A⟩ := x
  obtain ⟨hx, hb, hown, hts, hK, hml, hA, hr, hlo, hR⟩ := hX
  intro H locs ls hP hD hS hls
  subst hR
  exact va_mmin hx hb (by rw [hml]; exact hls.1.symm) hown (hts _ hw1) (hts _ hw2) (hts _ hw3) (hts _ hw4) h1 h2 h3 h4 hdg (kk H locs ls hP hD hS hls)
theorem j_iret (hX : JX g x own cc nL (some .int) rm) {post : Int32 → va_W → Prop} {w0 : va_W} (hQ : JRI g x post w0) {v : Int32} (hdg : decode cc pc = .ok (.ireturn, 1)) (hf : ws.map Prod.fst = w0.map Prod.fst) (hp : post v ws) : J g x nL 0 0 pc lv [.int v] ws := by
  obtain ⟨p, e, R, s, m, args, below, meth, c, Q, A⟩ := x
  obtain ⟨hx, hb, hown, hts, hK, hml, hA, hr, hlo, hR⟩ := hX
  intro H locs ls hP hD hS hls
  have hQ : Q = _ := hQ
  subst hQ
  exact W.iret (v := v) hx hb hr (fun t ht hW => ⟨⟨v, (ws, []), rfl, ⟨hp, rfl⟩, by rw [ht]; rw [List.append_nil]; exact hP, by rw [List.append_nil]; exact hD, hf⟩, hS.F ht⟩) hS.2.2 hdg
theorem j_zret (hX : JX g x own cc nL (some .boolean) rm) {post : Int32 → va_W → Prop} {w0 : va_W} (hQ : JRI g x post w0) {v : Int32} (hdg : decode cc pc = .ok (.ireturn, 1)) (hn : narrow .boolean (.int v) = .int v) (hf : ws.map Prod.fst = w0.map Prod.fst) (hp : post v ws) : J g x nL 0 0 pc lv [.int v] ws := by
  obtain ⟨p, e, R, s, m, args, below, meth, c, Q, A⟩ := x
  obtain ⟨hx, hb, hown, hts, hK, hml, hA, hr, hlo, hR⟩ := hX
  intro H locs ls hP hD hS hls
  have hQ : Q = _ := hQ
  subst hQ
  exact W.zret (v := v) hx hb hr hn (fun t ht hW => ⟨⟨v, (ws, []), rfl, ⟨hp, rfl⟩, by rw [ht]; rw [List.append_nil]; exact hP, by rw [List.append_nil]; exact hD, hf⟩, hS.F ht⟩) hS.2.2 hdg
theorem j_vret (hX : JX g x own cc nL none rm) {mc ms : Nat} {post : va_W → va_W → Prop} {w0 : va_W} (hQ : JRV g x mc ms post w0) (hdg : decode cc pc = .ok (.return_, 1)) (wa wn : va_W) (hw : ws = wa ++ wn) (hf : wa.map Prod.fst = w0.map Prod.fst) (hp : post wa wn) : J g x nL mc ms pc lv [] ws := by
  obtain ⟨p, e, R, s, m, args, below, meth, c, Q, A⟩ := x
  obtain ⟨hx, hb, hown, hts, hK, hml, hA, hr, hlo, hR⟩ := hX
  intro H locs ls hP hD hS hls
  have hQ : Q = _ := hQ
  subst hQ
  subst hw
  exact W.vret hx hb hr (fun t ht hW => ⟨⟨(wa, wn), rfl, hp, by rw [ht]; exact hP, hD, hf⟩, hS.F ht⟩) hS.2.2 hdg

end JROWS
theorem jgood (w : Cond) (h : w ∈ wsL_law) : (w.onTables && w.keeps) = true ∨ ∃ ty, w = .arrayClass ty := (wsL_gi w h).2
theorem jgi {y : MethodName} {cb : ByteArray} {maxL : Nat} {rt : Option FieldType} (hco : Cond.code y cb maxL rt ∈ wsL_law) : GoodIn wsL_law (.code y cb maxL rt :: wsL_law) := fun w h => (List.mem_cons.mp h).elim (fun e => by subst e; exact ⟨hco, jgood _ hco⟩) (fun h => ⟨h, jgood _ h⟩)
theorem jMI.intro {g : jG} {y : MethodName} {cb : ByteArray} {maxL : Nat} {rt : FieldType} {nf nl : Nat} {as : List Value} {ws : va_W} {post : Int32 → va_W → Prop} (hy : plainName y.cls = true) (hlen : (lg_sl as).length ≤ maxL)
    (h : ∀ x : jC, JX g x y.cls cb maxL (some rt) { frames := nf, cells := 0, slots := 0, locals := nl } → JRI g x post ws → J g x maxL 0 0 0 (lv_args 0 as) [] ws) : jMI g y cb maxL rt nf nl as ws post := by
  intro sz
  refine Met.ofW (cc := cb) (maxL := maxL) (ret := some rt) hy rfl ?_
  intro p e s m args below meth c s₁ B hml hv
  obtain ⟨rfl, hsz, hP, hK, hD0⟩ := hv
  subst hsz
  have hts : ∀ w ∈ wsL_law, w.before as.toArray s = true := fun w hw => atoms_spec (ws := .code y cb maxL (some rt) :: wsL_law) B.pre w (List.mem_cons_of_mem _ hw)
  have hl := lv_entry as (n := maxL) hlen
  rw [lg_entry_eq]
  exact h (p, e, { frames := nf, cells := 0, slots := 0, locals := nl }, s, m, as.toArray, below, meth, c, MQ below (jQI g post (va_A ws s.heap.size) ws) as.toArray s 0 0 (va_A ws s.heap.size), va_A ws s.heap.size) ⟨B.exec, B.bytes, findClass_of_methodNamed B.named, hts, hK, hml, fun q hq => Or.inr hq, B.returns, B.notSynchronized, rfl⟩ rfl s.heap [] _ hP hD0.self va_S.rf hl
theorem jMV.intro {g : jG} {y : MethodName} {cb : ByteArray} {maxL : Nat} {nf nl mc ms : Nat} {as : List Value} {ws : va_W} {post : va_W → va_W → Prop} (hy : plainName y.cls = true) (hlen : (lg_sl as).length ≤ maxL)
    (h : ∀ x : jC, JX g x y.cls cb maxL none { frames := nf, cells := mc, slots := ms, locals := nl } → JRV g x mc ms post ws → (y.name = "<init>" → JN x) → J g x maxL 0 0 0 (lv_args 0 as) [] ws) : jMV g y cb maxL nf nl mc ms as ws post := by
  intro sz
  refine Met.ofW (cc := cb) (maxL := maxL) (ret := none) hy rfl ?_
  intro p e s m args below meth c s₁ B hml hv
  obtain ⟨rfl, hsz, hP, hK, hD0⟩ := hv
  subst hsz
  have hts : ∀ w ∈ wsL_law, w.before as.toArray s = true := fun w hw => atoms_spec (ws := .code y cb maxL none :: wsL_law) B.pre w (List.mem_cons_of_mem _ hw)
  have hl := lv_entry as (n := maxL) hlen
  rw [lg_entry_eq]
  exact h (p, e, { frames := nf, cells := mc, slots := ms, locals := nl }, s, m, as.toArray, below, meth, c, MQ below (jQV g post (va_A ws s.heap.size) ws) as.toArray s mc ms (va_A ws s.heap.size), va_A ws s.heap.size) ⟨B.exec, B.bytes, findClass_of_methodNamed B.named, hts, hK, hml, fun q hq => Or.inr hq, B.returns, B.notSynchronized, rfl⟩ rfl (fun h9 => (name_of_methodNamed B.named B.method).1.trans h9) s.heap [] _ hP hD0.self va_S.rf hl
theorem jblind {g : jG} {as : List Value} {ws : va_W} {sz : Nat} : FrameBlind (jP g as ws sz) := fun a U f mk q => by
  obtain ⟨q0, q1, qP, qK, qD⟩ := q
  exact ⟨q0, q1, qP, jK.same (u := U) (U := U.calling f mk a) rfl qK, qD⟩
theorem va_D_sel {A : Nat → Prop} {ws wc : va_W} {is : List Nat} (hD : va_D A ws) (hn : va_nd is = true) (hC : is.map (fun i => ws[i]?) = wc.map some) : va_D (fun _ => True) wc := (hD.sub is hn hC).weaken (fun _ _ _ _ => trivial)
/-- what a call's place needs of the words: virtual, static, special -/
def CV (own : String) (index : Nat) (C : String) (ci : Nat) (y : MethodName) (cb : ByteArray) (maxL : Nat) (rt : Option FieldType) (n : Nat) : Prop :=
  GoodIn wsL_law (wsV own index C y (.code y cb maxL rt :: wsL_law)) ∧ (y.cls = C ∧ y.cls ≠ "java/lang/invoke/MethodHandle" ∧ y.cls ≠ "java/lang/invoke/VarHandle" ∧ (parseMethodDescriptor y.desc).map (fun d => d.parameters.length) = some n) ∧ ∃ (T : u_T) (N : Nat), vwCl[ci]? = some (C, T, N)
def CS (own : String) (index : Nat) (y : MethodName) (cb : ByteArray) (maxL : Nat) (rt : Option FieldType) (n : Nat) : Prop :=
  GoodIn wsL_law (va_wsS own index y (.code y cb maxL rt :: wsL_law)) ∧ (y.cls ≠ "java/lang/invoke/MethodHandle" ∧ y.cls ≠ "java/lang/invoke/VarHandle" ∧ (parseMethodDescriptor y.desc).map (fun d => d.parameters.length) = some n)
def CI (own : String) (index : Nat) (y : MethodName) (cb : ByteArray) (maxL : Nat) (n : Nat) : Prop :=
  Cond.code y cb maxL none ∈ wsL_law ∧ Cond.initialized y.cls ∈ wsL_law ∧ Cond.methodLink own index y ∈ wsL_law ∧ Cond.instanceMethod y ∈ wsL_law ∧ y.name = "<init>" ∧ (y.cls ≠ "java/lang/invoke/MethodHandle" ∧ y.cls ≠ "java/lang/invoke/VarHandle" ∧ (parseMethodDescriptor y.desc).map (fun d => d.parameters.length) = some n)
def CVN (own : String) (index : Nat) (C : String) (ci : Nat) (y : MethodName) (cb : ByteArray) (maxL : Nat) (rt : Option FieldType) (n : Nat) : Prop :=
  (∃ host : String, Cond.methodLinkNest own index y host ∈ wsN) ∧ Cond.instanceMethod y ∈ wsL_law ∧ Cond.selects C y y ∈ wsL_law ∧ Cond.initialized y.cls ∈ wsL_law ∧ Cond.code y cb maxL rt ∈ wsL_law ∧ (y.cls ≠ "java/lang/invoke/MethodHandle" ∧ y.cls ≠ "java/lang/invoke/VarHandle" ∧ (parseMethodDescriptor y.desc).map (fun d => d.parameters.length) = some n) ∧ ∃ (T : u_T) (N : Nat), vwCl[ci]? = some (C, T, N)
def CSN (own : String) (index : Nat) (y : MethodName) (cb : ByteArray) (maxL : Nat) (rt : Option FieldType) (n : Nat) : Prop :=
  (∃ host : String, Cond.methodLinkNest own index y host ∈ wsN) ∧ Cond.static y ∈ wsL_law ∧ Cond.initialized y.cls ∈ wsL_law ∧ Cond.code y cb maxL rt ∈ wsL_law ∧ (y.cls ≠ "java/lang/invoke/MethodHandle" ∧ y.cls ≠ "java/lang/invoke/VarHandle" ∧ (parseMethodDescriptor y.desc).map (fun d => d.parameters.length) = some n)
def CIN (own : String) (index : Nat) (y : MethodName) (cb : ByteArray) (maxL : Nat) (n : Nat) : Prop :=
  (∃ host : String, Cond.methodLinkNest own index y host ∈ wsN) ∧ Cond.instanceMethod y ∈ wsL_law ∧ y.name = "<init>" ∧ Cond.initialized y.cls ∈ wsL_law ∧ Cond.code y cb maxL none ∈ wsL_law ∧ (y.cls ≠ "java/lang/invoke/MethodHandle" ∧ y.cls ≠ "java/lang/invoke/VarHandle" ∧ (parseMethodDescriptor y.desc).map (fun d => d.parameters.length) = some n)
theorem CV.of {own : String} {index : Nat} {C : String} {ci : Nat} {y : MethodName} {cb : ByteArray} {maxL : Nat} {rt : Option FieldType} {n : Nat} (h1 : Cond.methodLink own index y ∈ wsL_law) (h2 : Cond.instanceMethod y ∈ wsL_law) (h3 : Cond.selects C y y ∈ wsL_law) (h4 : Cond.initialized C ∈ wsL_law) (h5 : Cond.code y cb maxL rt ∈ wsL_law)
    (hd : y.cls = C ∧ y.cls ≠ "java/lang/invoke/MethodHandle" ∧ y.cls ≠ "java/lang/invoke/VarHandle" ∧ (parseMethodDescriptor y.desc).map (fun d => d.parameters.length) = some n) {T : u_T} {N : Nat} (hc : vwCl[ci]? = some (C, T, N)) : CV own index C ci y cb maxL rt n := by
  refine ⟨fun w h => ?_, hd, T, N, hc⟩
  rcases List.mem_append.mp h with h | h
  · have hm : w ∈ wsL_law := by
      simp only [List.mem_cons, List.not_mem_nil, or_false] at h
      rcases h with rfl | rfl | rfl | rfl <;> assumption
    exact ⟨hm, jgood _ hm⟩
  · exact jgi h5 w h
theorem CS.of {own : String} {index : Nat} {y : MethodName} {cb : ByteArray} {maxL : Nat} {rt : Option FieldType} {n : Nat} (h1 : Cond.methodLink own index y ∈ wsL_law) (h2 : Cond.static y ∈ wsL_law) (h4 : Cond.initialized y.cls ∈ wsL_law) (h5 : Cond.code y cb maxL rt ∈ wsL_law)
    (hd : y.cls ≠ "java/lang/invoke/MethodHandle" ∧ y.cls ≠ "java/lang/invoke/VarHandle" ∧ (parseMethodDescriptor y.desc).map (fun d => d.parameters.length) = some n) : CS own index y cb maxL rt n := by
  refine ⟨fun w h => ?_, hd⟩
  rcases List.mem_append.mp h with h | h
  · have hm : w ∈ wsL_law := by
      simp only [List.mem_cons, List.not_mem_nil, or_false] at h
      rcases h with rfl | rfl | rfl <;> assumption
    exact ⟨hm, jgood _ hm⟩
  · exact jgi h5 w h
section JCALLS
variable {g : jG} {x : jC} {own : String} {cc : ByteArray} {nL : Nat} {ret : Option FieldType} {rm : Room} {pc cs sl : Nat} {lv : List (Nat × Value)} {st rest : List Value} {ws wc : va_W}
variable {y : MethodName} {cb : ByteArray} {maxL n index ci nf nl mc ms : Nat} {rt : FieldType} {C : String} {b : Nat} {fs : List Value} {As : List Value}

theorem j_callVI (hX : JX g x own cc nL ret rm) {post : Int32 → va_W → Prop} (hM : jMI g y cb maxL rt nf nl (.ref b :: As) wc post) (cw : CV own index C ci y cb maxL (some rt) n) (hR1 : nf + 1 ≤ rm.frames) (hR2 : 8 + (maxL + 11) + nl ≤ rm.locals) (hc1 : cs ≤ rm.cells) (hc2 : sl ≤ rm.slots) (q0 : Nat) (hq : ws[q0]? = some (b, .inr (ci, fs))) (is : List Nat) (hnd : va_nd is = true) (hC : is.map (fun i => ws[i]?) = wc.map some) (hn : As.length = n) (hst : st = As.reverse ++ .ref b :: rest) (hs8 : (rest.map fun v => v.category).sum ≤ 8) (hdg : decode cc pc = .ok (.invokevirtual index, 3)) (kk : ∀ (r : Int32) (w : va_W), post r w → J g x nL cs sl (pc + 3) lv (.int r :: rest) (jput ws is w)) : J g x nL cs sl pc lv st ws := by
  obtain ⟨p, e, R, s, m, args, below, meth, c, Q, A⟩ := x
  obtain ⟨hx, hb, hown, hts, hK, hml, hA, hr, hlo, hR⟩ := hX
  intro H locs ls hP hD hS hls
  subst hst
  subst hR
  have hPc : va_P (jD g) vwCl wc H := fun k q hk => by
    obtain ⟨i, -, hi⟩ := jsel_in hC hk
    exact hP i q hi
  have hDc : va_D (fun _ => True) wc := va_D_sel hD hnd hC
  have hFc := va_free (wc := wc) hD hS hA is hC
  have hpre : ∀ U : State, U.heap = H → s.WarmedH U.vm → jP g (.ref b :: As) wc H.size (.ref b :: As).toArray U := fun U hU hW => ⟨rfl, by rw [hU], by rw [hU]; exact hPc, hK.moved hW, hDc⟩
  obtain ⟨hG, hd, T, N, hcl⟩ := cw
  refine va_calli (va_runV (As := As) (rest := rest) ⟨hx, hb, hml, hown, hts⟩ (hM H.size) (cwV n hts hG rfl rfl rfl hd ⟨hR1, hR2⟩) ⟨jblind, va_recv (q := (C, T, N)) hK.1 hP hcl hq, hpre⟩ rfl hn hls.1 rfl (lv_room hs8) hdg ⟨hc1, hc2⟩) hS (fun q _ h => hFc q h) hFc (fun r u t H1 locs1 ht hvm hw hB hz1 hk1 hS1 => ?_)
  obtain ⟨w, wn⟩ := u
  obtain ⟨hp, hnil⟩ := hw
  have hnil : wn = [] := hnil
  subst hnil
  obtain ⟨hP1, hD1, hf1⟩ := hB
  rw [ht] at hP1
  obtain ⟨p1, p2⟩ := jback (w := w) (wn := []) hP hD is hC hk1 hFc hP1 hD1 hf1
  rw [List.append_nil] at p1 p2
  exact kk r w hp H1 locs1 ls p1 p2 hS1 hls
theorem j_callVV (hX : JX g x own cc nL ret rm) {post : va_W → va_W → Prop} (hM : jMV g y cb maxL nf nl mc ms (.ref b :: As) wc post) (cw : CV own index C ci y cb maxL none n) (hR1 : nf + 1 ≤ rm.frames) (hR2 : 8 + (maxL + 11) + nl ≤ rm.locals) (hm1 : cs + mc ≤ rm.cells) (hm2 : sl + ms ≤ rm.slots)  (q0 : Nat) (hq : ws[q0]? = some (b, .inr (ci, fs))) (is : List Nat) (hnd : va_nd is = true) (hC : is.map (fun i => ws[i]?) = wc.map some) (hn : As.length = n) (hst : st = As.reverse ++ .ref b :: rest) (hs8 : (rest.map fun v => v.category).sum ≤ 8) (hdg : decode cc pc = .ok (.invokevirtual index, 3)) (kk : ∀ (w wn : va_W), post w wn → J g x nL (cs + mc) (sl + ms) (pc + 3) lv rest (jput ws is w ++ wn)) : J g x nL cs sl pc lv st ws := by
  obtain ⟨p, e, R, s, m, args, below, meth, c, Q, A⟩ := x
  obtain ⟨hx, hb, hown, hts, hK, hml, hA, hr, hlo, hR⟩ := hX
  intro H locs ls hP hD hS hls
  subst hst
  subst hR
  have hPc : va_P (jD g) vwCl wc H := fun k q hk => by
    obtain ⟨i, -, hi⟩ := jsel_in hC hk
    exact hP i q hi
  have hDc : va_D (fun _ => True) wc := va_D_sel hD hnd hC
  have hFc := va_free (wc := wc) hD hS hA is hC
  have hpre : ∀ U : State, U.heap = H → s.WarmedH U.vm → jP g (.ref b :: As) wc H.size (.ref b :: As).toArray U := fun U hU hW => ⟨rfl, by rw [hU], by rw [hU]; exact hPc, hK.moved hW, hDc⟩
  obtain ⟨hG, hd, T, N, hcl⟩ := cw
  refine va_callv (va_runV (As := As) (rest := rest) ⟨hx, hb, hml, hown, hts⟩ (hM H.size) (cwV n hts hG rfl rfl rfl hd ⟨hR1, hR2⟩) ⟨jblind, va_recv (q := (C, T, N)) hK.1 hP hcl hq, hpre⟩ rfl hn hls.1 rfl (lv_room hs8) hdg ⟨hm1, hm2⟩) hS (fun q _ h => hFc q h) hFc (fun u t H1 locs1 ht hvm hw hB hz1 hk1 hS1 => ?_)
  obtain ⟨w, wn⟩ := u
  obtain ⟨hP1, hD1, hf1⟩ := hB
  rw [ht] at hP1
  obtain ⟨p1, p2⟩ := jback (w := w) (wn := wn) hP hD is hC hk1 hFc hP1 hD1 hf1
  exact kk w wn hw H1 locs1 ls p1 p2 hS1 hls
theorem j_callSI (hX : JX g x own cc nL ret rm) {post : Int32 → va_W → Prop} (hM : jMI g y cb maxL rt nf nl As wc post) (cw : CS own index y cb maxL (some rt) n) (hR1 : nf + 1 ≤ rm.frames) (hR2 : 8 + (maxL + 11) + nl ≤ rm.locals) (hc1 : cs ≤ rm.cells) (hc2 : sl ≤ rm.slots) (is : List Nat) (hnd : va_nd is = true) (hC : is.map (fun i => ws[i]?) = wc.map some) (hn : As.length = n) (hst : st = As.reverse ++ rest) (hs8 : (rest.map fun v => v.category).sum ≤ 8) (hdg : decode cc pc = .ok (.invokestatic index, 3)) (kk : ∀ (r : Int32) (w : va_W), post r w → J g x nL cs sl (pc + 3) lv (.int r :: rest) (jput ws is w)) : J g x nL cs sl pc lv st ws := by
  obtain ⟨p, e, R, s, m, args, below, meth, c, Q, A⟩ := x
  obtain ⟨hx, hb, hown, hts, hK, hml, hA, hr, hlo, hR⟩ := hX
  intro H locs ls hP hD hS hls
  subst hst
  subst hR
  have hPc : va_P (jD g) vwCl wc H := fun k q hk => by
    obtain ⟨i, -, hi⟩ := jsel_in hC hk
    exact hP i q hi
  have hDc : va_D (fun _ => True) wc := va_D_sel hD hnd hC
  have hFc := va_free (wc := wc) hD hS hA is hC
  have hpre : ∀ U : State, U.heap = H → s.WarmedH U.vm → jP g As wc H.size As.toArray U := fun U hU hW => ⟨rfl, by rw [hU], by rw [hU]; exact hPc, hK.moved hW, hDc⟩
  obtain ⟨hG, hd⟩ := cw
  refine va_calli (va_runS (As := As) (rest := rest) ⟨hx, hb, hml, hown, hts⟩ (hM H.size) (va_cwS n hts hG rfl rfl rfl hd ⟨hR1, hR2⟩) ⟨jblind, hpre⟩ rfl hn hls.1 rfl (lv_room hs8) hdg ⟨hc1, hc2⟩) hS (fun q _ h => hFc q h) hFc (fun r u t H1 locs1 ht hvm hw hB hz1 hk1 hS1 => ?_)
  obtain ⟨w, wn⟩ := u
  obtain ⟨hp, hnil⟩ := hw
  have hnil : wn = [] := hnil
  subst hnil
  obtain ⟨hP1, hD1, hf1⟩ := hB
  rw [ht] at hP1
  obtain ⟨p1, p2⟩ := jback (w := w) (wn := []) hP hD is hC hk1 hFc hP1 hD1 hf1
  rw [List.append_nil] at p1 p2
  exact kk r w hp H1 locs1 ls p1 p2 hS1 hls
theorem j_callSV (hX : JX g x own cc nL ret rm) {post : va_W → va_W → Prop} (hM : jMV g y cb maxL nf nl mc ms As wc post) (cw : CS own index y cb maxL none n) (hR1 : nf + 1 ≤ rm.frames) (hR2 : 8 + (maxL + 11) + nl ≤ rm.locals) (hm1 : cs + mc ≤ rm.cells) (hm2 : sl + ms ≤ rm.slots)  (is : List Nat) (hnd : va_nd is = true) (hC : is.map (fun i => ws[i]?) = wc.map some) (hn : As.length = n) (hst : st = As.reverse ++ rest) (hs8 : (rest.map fun v => v.category).sum ≤ 8) (hdg : decode cc pc = .ok (.invokestatic index, 3)) (kk : ∀ (w wn : va_W), post w wn → J g x nL (cs + mc) (sl + ms) (pc + 3) lv rest (jput ws is w ++ wn)) : J g x nL cs sl pc lv st ws := by
  obtain ⟨p, e, R, s, m, args, below, meth, c, Q, A⟩ := x
  obtain ⟨hx, hb, hown, hts, hK, hml, hA, hr, hlo, hR⟩ := hX
  intro H locs ls hP hD hS hls
  subst hst
  subst hR
  have hPc : va_P (jD g) vwCl wc H := fun k q hk => by
    obtain ⟨i, -, hi⟩ := jsel_in hC hk
    exact hP i q hi
  have hDc : va_D (fun _ => True) wc := va_D_sel hD hnd hC
  have hFc := va_free (wc := wc) hD hS hA is hC
  have hpre : ∀ U : State, U.heap = H → s.WarmedH U.vm → jP g As wc H.size As.toArray U := fun U hU hW => ⟨rfl, by rw [hU], by rw [hU]; exact hPc, hK.moved hW, hDc⟩
  obtain ⟨hG, hd⟩ := cw
  refine va_callv (va_runS (As := As) (rest := rest) ⟨hx, hb, hml, hown, hts⟩ (hM H.size) (va_cwS n hts hG rfl rfl rfl hd ⟨hR1, hR2⟩) ⟨jblind, hpre⟩ rfl hn hls.1 rfl (lv_room hs8) hdg ⟨hm1, hm2⟩) hS (fun q _ h => hFc q h) hFc (fun u t H1 locs1 ht hvm hw hB hz1 hk1 hS1 => ?_)
  obtain ⟨w, wn⟩ := u
  obtain ⟨hP1, hD1, hf1⟩ := hB
  rw [ht] at hP1
  obtain ⟨p1, p2⟩ := jback (w := w) (wn := wn) hP hD is hC hk1 hFc hP1 hD1 hf1
  exact kk w wn hw H1 locs1 ls p1 p2 hS1 hls
theorem j_callIV (hX : JX g x own cc nL ret rm) {post : va_W → va_W → Prop} (hM : jMV g y cb maxL nf nl mc ms (.ref b :: As) wc post) (cw : CI own index y cb maxL n) (hR1 : nf + 1 ≤ rm.frames) (hR2 : 8 + (maxL + 11) + nl ≤ rm.locals) (hm1 : cs + mc ≤ rm.cells) (hm2 : sl + ms ≤ rm.slots)  (is : List Nat) (hnd : va_nd is = true) (hC : is.map (fun i => ws[i]?) = wc.map some) (hn : As.length = n) (hst : st = As.reverse ++ .ref b :: rest) (hs8 : (rest.map fun v => v.category).sum ≤ 8) (hdg : decode cc pc = .ok (.invokespecial index, 3)) (kk : ∀ (w wn : va_W), post w wn → J g x nL (cs + mc) (sl + ms) (pc + 3) lv rest (jput ws is w ++ wn)) : J g x nL cs sl pc lv st ws := by
  obtain ⟨p, e, R, s, m, args, below, meth, c, Q, A⟩ := x
  obtain ⟨hx, hb, hown, hts, hK, hml, hA, hr, hlo, hR⟩ := hX
  intro H locs ls hP hD hS hls
  subst hst
  subst hR
  have hPc : va_P (jD g) vwCl wc H := fun k q hk => by
    obtain ⟨i, -, hi⟩ := jsel_in hC hk
    exact hP i q hi
  have hDc : va_D (fun _ => True) wc := va_D_sel hD hnd hC
  have hFc := va_free (wc := wc) hD hS hA is hC
  have hpre : ∀ U : State, U.heap = H → s.WarmedH U.vm → jP g (.ref b :: As) wc H.size (.ref b :: As).toArray U := fun U hU hW => ⟨rfl, by rw [hU], by rw [hU]; exact hPc, hK.moved hW, hDc⟩
  obtain ⟨h5, hini, hlk, hinm, hyn, hd⟩ := cw
  refine va_callv (va_runI (As := As) (rest := rest) ⟨hx, hb, hml, hown, hts⟩ (hM H.size) (cwI n hts (jgi h5) rfl rfl rfl (hts _ hini) (hts _ hlk) (hts _ hinm) hyn hd ⟨hR1, hR2⟩) ⟨jblind, hpre⟩ rfl hn hls.1 rfl (lv_room hs8) hdg ⟨hm1, hm2⟩) hS (fun q _ h => hFc q h) hFc (fun u t H1 locs1 ht hvm hw hB hz1 hk1 hS1 => ?_)
  obtain ⟨w, wn⟩ := u
  obtain ⟨hP1, hD1, hf1⟩ := hB
  rw [ht] at hP1
  obtain ⟨p1, p2⟩ := jback (w := w) (wn := wn) hP hD is hC hk1 hFc hP1 hD1 hf1
  exact kk w wn hw H1 locs1 ls p1 p2 hS1 hls
theorem j_callVNI (hX : JX g x own cc nL ret rm) {post : Int32 → va_W → Prop} (hM : jMI g y cb maxL rt nf nl (.ref b :: As) wc post) (cw : CVN own index C ci y cb maxL (some rt) n) (hR1 : nf + 1 ≤ rm.frames) (hR2 : 8 + (maxL + 11) + nl ≤ rm.locals) (hc1 : cs ≤ rm.cells) (hc2 : sl ≤ rm.slots) (q0 : Nat) (hq : ws[q0]? = some (b, .inr (ci, fs))) (is : List Nat) (hnd : va_nd is = true) (hC : is.map (fun i => ws[i]?) = wc.map some) (hn : As.length = n) (hst : st = As.reverse ++ .ref b :: rest) (hs8 : (rest.map fun v => v.category).sum ≤ 8) (hdg : decode cc pc = .ok (.invokevirtual index, 3)) (kk : ∀ (r : Int32) (w : va_W), post r w → J g x nL cs sl (pc + 3) lv (.int r :: rest) (jput ws is w)) : J g x nL cs sl pc lv st ws := by
  obtain ⟨p, e, R, s, m, args, below, meth, c, Q, A⟩ := x
  obtain ⟨hx, hb, hown, hts, hK, hml, hA, hr, hlo, hR⟩ := hX
  intro H locs ls hP hD hS hls
  subst hst
  subst hR
  have hPc : va_P (jD g) vwCl wc H := fun k q hk => by
    obtain ⟨i, -, hi⟩ := jsel_in hC hk
    exact hP i q hi
  have hDc : va_D (fun _ => True) wc := va_D_sel hD hnd hC
  have hFc := va_free (wc := wc) hD hS hA is hC
  have hpre : ∀ U : State, U.heap = H → s.WarmedH U.vm → jP g (.ref b :: As) wc H.size (.ref b :: As).toArray U := fun U hU hW => ⟨rfl, by rw [hU], by rw [hU]; exact hPc, hK.moved hW, hDc⟩
  obtain ⟨⟨host, hlk⟩, hinm, hse, hini, hco, hd, T, N, hcl⟩ := cw
  refine va_calli (va_runVN (As := As) (rest := rest) ⟨hx, hb, hml, hown, hts⟩ (hM H.size) ⟨(va_cnB n hts (jgi hco) rfl rfl rfl (va_Nw.of rfl (va_Nw.use (A := args) rfl (hK.2.2 _ hlk))) (hts _ hini) hd ⟨hR1, hR2⟩), hts _ hinm, hts _ hse⟩ ⟨jblind, va_recv (q := (C, T, N)) hK.1 hP hcl hq, hpre⟩ rfl hn hls.1 rfl (lv_room hs8) hdg ⟨hc1, hc2⟩) hS (fun q _ h => hFc q h) hFc (fun r u t H1 locs1 ht hvm hw hB hz1 hk1 hS1 => ?_)
  obtain ⟨w, wn⟩ := u
  obtain ⟨hp, hnil⟩ := hw
  have hnil : wn = [] := hnil
  subst hnil
  obtain ⟨hP1, hD1, hf1⟩ := hB
  rw [ht] at hP1
  obtain ⟨p1, p2⟩ := jback (w := w) (wn := []) hP hD is hC hk1 hFc hP1 hD1 hf1
  rw [List.append_nil] at p1 p2
  exact kk r w hp H1 locs1 ls p1 p2 hS1 hls
theorem j_callVNV (hX : JX g x own cc nL ret rm) {post : va_W → va_W → Prop} (hM : jMV g y cb maxL nf nl mc ms (.ref b :: As) wc post) (cw : CVN own index C ci y cb maxL none n) (hR1 : nf + 1 ≤ rm.frames) (hR2 : 8 + (maxL + 11) + nl ≤ rm.locals) (hm1 : cs + mc ≤ rm.cells) (hm2 : sl + ms ≤ rm.slots)  (q0 : Nat) (hq : ws[q0]? = some (b, .inr (ci, fs))) (is : List Nat) (hnd : va_nd is = true) (hC : is.map (fun i => ws[i]?) = wc.map some) (hn : As.length = n) (hst : st = As.reverse ++ .ref b :: rest) (hs8 : (rest.map fun v => v.category).sum ≤ 8) (hdg : decode cc pc = .ok (.invokevirtual index, 3)) (kk : ∀ (w wn : va_W), post w wn → J g x nL (cs + mc) (sl + ms) (pc + 3) lv rest (jput ws is w ++ wn)) : J g x nL cs sl pc lv st ws := by
  obtain ⟨p, e, R, s, m, args, below, meth, c, Q, A⟩ := x
  obtain ⟨hx, hb, hown, hts, hK, hml, hA, hr, hlo, hR⟩ := hX
  intro H locs ls hP hD hS hls
  subst hst
  subst hR
  have hPc : va_P (jD g) vwCl wc H := fun k q hk => by
    obtain ⟨i, -, hi⟩ := jsel_in hC hk
    exact hP i q hi
  have hDc : va_D (fun _ => True) wc := va_D_sel hD hnd hC
  have hFc := va_free (wc := wc) hD hS hA is hC
  have hpre : ∀ U : State, U.heap = H → s.WarmedH U.vm → jP g (.ref b :: As) wc H.size (.ref b :: As).toArray U := fun U hU hW => ⟨rfl, by rw [hU], by rw [hU]; exact hPc, hK.moved hW, hDc⟩
  obtain ⟨⟨host, hlk⟩, hinm, hse, hini, hco, hd, T, N, hcl⟩ := cw
  refine va_callv (va_runVN (As := As) (rest := rest) ⟨hx, hb, hml, hown, hts⟩ (hM H.size) ⟨(va_cnB n hts (jgi hco) rfl rfl rfl (va_Nw.of rfl (va_Nw.use (A := args) rfl (hK.2.2 _ hlk))) (hts _ hini) hd ⟨hR1, hR2⟩), hts _ hinm, hts _ hse⟩ ⟨jblind, va_recv (q := (C, T, N)) hK.1 hP hcl hq, hpre⟩ rfl hn hls.1 rfl (lv_room hs8) hdg ⟨hm1, hm2⟩) hS (fun q _ h => hFc q h) hFc (fun u t H1 locs1 ht hvm hw hB hz1 hk1 hS1 => ?_)
  obtain ⟨w, wn⟩ := u
  obtain ⟨hP1, hD1, hf1⟩ := hB
  rw [ht] at hP1
  obtain ⟨p1, p2⟩ := jback (w := w) (wn := wn) hP hD is hC hk1 hFc hP1 hD1 hf1
  exact kk w wn hw H1 locs1 ls p1 p2 hS1 hls
theorem j_callSNI (hX : JX g x own cc nL ret rm) {post : Int32 → va_W → Prop} (hM : jMI g y cb maxL rt nf nl As wc post) (cw : CSN own index y cb maxL (some rt) n) (hR1 : nf + 1 ≤ rm.frames) (hR2 : 8 + (maxL + 11) + nl ≤ rm.locals) (hc1 : cs ≤ rm.cells) (hc2 : sl ≤ rm.slots) (is : List Nat) (hnd : va_nd is = true) (hC : is.map (fun i => ws[i]?) = wc.map some) (hn : As.length = n) (hst : st = As.reverse ++ rest) (hs8 : (rest.map fun v => v.category).sum ≤ 8) (hdg : decode cc pc = .ok (.invokestatic index, 3)) (kk : ∀ (r : Int32) (w : va_W), post r w → J g x nL cs sl (pc + 3) lv (.int r :: rest) (jput ws is w)) : J g x nL cs sl pc lv st ws := by
  obtain ⟨p, e, R, s, m, args, below, meth, c, Q, A⟩ := x
  obtain ⟨hx, hb, hown, hts, hK, hml, hA, hr, hlo, hR⟩ := hX
  intro H locs ls hP hD hS hls
  subst hst
  subst hR
  have hPc : va_P (jD g) vwCl wc H := fun k q hk => by
    obtain ⟨i, -, hi⟩ := jsel_in hC hk
    exact hP i q hi
  have hDc : va_D (fun _ => True) wc := va_D_sel hD hnd hC
  have hFc := va_free (wc := wc) hD hS hA is hC
  have hpre : ∀ U : State, U.heap = H → s.WarmedH U.vm → jP g As wc H.size As.toArray U := fun U hU hW => ⟨rfl, by rw [hU], by rw [hU]; exact hPc, hK.moved hW, hDc⟩
  obtain ⟨⟨host, hlk⟩, hstt, hini, hco, hd⟩ := cw
  refine va_calli (va_runSN (As := As) (rest := rest) ⟨hx, hb, hml, hown, hts⟩ (hM H.size) ⟨(va_cnB n hts (jgi hco) rfl rfl rfl (va_Nw.of rfl (va_Nw.use (A := args) rfl (hK.2.2 _ hlk))) (hts _ hini) hd ⟨hR1, hR2⟩), hts _ hstt, trivial⟩ ⟨jblind, hpre⟩ rfl hn hls.1 rfl (lv_room hs8) hdg ⟨hc1, hc2⟩) hS (fun q _ h => hFc q h) hFc (fun r u t H1 locs1 ht hvm hw hB hz1 hk1 hS1 => ?_)
  obtain ⟨w, wn⟩ := u
  obtain ⟨hp, hnil⟩ := hw
  have hnil : wn = [] := hnil
  subst hnil
  obtain ⟨hP1, hD1, hf1⟩ := hB
  rw [ht] at hP1
  obtain ⟨p1, p2⟩ := jback (w := w) (wn := []) hP hD is hC hk1 hFc hP1 hD1 hf1
  rw [List.append_nil] at p1 p2
  exact kk r w hp H1 locs1 ls p1 p2 hS1 hls
theorem j_callSNV (hX : JX g x own cc nL ret rm) {post : va_W → va_W → Prop} (hM : jMV g y cb maxL nf nl mc ms As wc post) (cw : CSN own index y cb maxL none n) (hR1 : nf + 1 ≤ rm.frames) (hR2 : 8 + (maxL + 11) + nl ≤ rm.locals) (hm1 : cs + mc ≤ rm.cells) (hm2 : sl + ms ≤ rm.slots)  (is : List Nat) (hnd : va_nd is = true) (hC : is.map (fun i => ws[i]?) = wc.map some) (hn : As.length = n) (hst : st = As.reverse ++ rest) (hs8 : (rest.map fun v => v.category).sum ≤ 8) (hdg : decode cc pc = .ok (.invokestatic index, 3)) (kk : ∀ (w wn : va_W), post w wn → J g x nL (cs + mc) (sl + ms) (pc + 3) lv rest (jput ws is w ++ wn)) : J g x nL cs sl pc lv st ws := by
  obtain ⟨p, e, R, s, m, args, below, meth, c, Q, A⟩ := x
  obtain ⟨hx, hb, hown, hts, hK, hml, hA, hr, hlo, hR⟩ := hX
  intro H locs ls hP hD hS hls
  subst hst
  subst hR
  have hPc : va_P (jD g) vwCl wc H := fun k q hk => by
    obtain ⟨i, -, hi⟩ := jsel_in hC hk
    exact hP i q hi
  have hDc : va_D (fun _ => True) wc := va_D_sel hD hnd hC
  have hFc := va_free (wc := wc) hD hS hA is hC
  have hpre : ∀ U : State, U.heap = H → s.WarmedH U.vm → jP g As wc H.size As.toArray U := fun U hU hW => ⟨rfl, by rw [hU], by rw [hU]; exact hPc, hK.moved hW, hDc⟩
  obtain ⟨⟨host, hlk⟩, hstt, hini, hco, hd⟩ := cw
  refine va_callv (va_runSN (As := As) (rest := rest) ⟨hx, hb, hml, hown, hts⟩ (hM H.size) ⟨(va_cnB n hts (jgi hco) rfl rfl rfl (va_Nw.of rfl (va_Nw.use (A := args) rfl (hK.2.2 _ hlk))) (hts _ hini) hd ⟨hR1, hR2⟩), hts _ hstt, trivial⟩ ⟨jblind, hpre⟩ rfl hn hls.1 rfl (lv_room hs8) hdg ⟨hm1, hm2⟩) hS (fun q _ h => hFc q h) hFc (fun u t H1 locs1 ht hvm hw hB hz1 hk1 hS1 => ?_)
  obtain ⟨w, wn⟩ := u
  obtain ⟨hP1, hD1, hf1⟩ := hB
  rw [ht] at hP1
  obtain ⟨p1, p2⟩ := jback (w := w) (wn := wn) hP hD is hC hk1 hFc hP1 hD1 hf1
  exact kk w wn hw H1 locs1 ls p1 p2 hS1 hls
theorem j_callINV (hX : JX g x own cc nL ret rm) {post : va_W → va_W → Prop} (hM : jMV g y cb maxL nf nl mc ms (.ref b :: As) wc post) (cw : CIN own index y cb maxL n) (hR1 : nf + 1 ≤ rm.frames) (hR2 : 8 + (maxL + 11) + nl ≤ rm.locals) (hm1 : cs + mc ≤ rm.cells) (hm2 : sl + ms ≤ rm.slots)  (is : List Nat) (hnd : va_nd is = true) (hC : is.map (fun i => ws[i]?) = wc.map some) (hn : As.length = n) (hst : st = As.reverse ++ .ref b :: rest) (hs8 : (rest.map fun v => v.category).sum ≤ 8) (hdg : decode cc pc = .ok (.invokespecial index, 3)) (kk : ∀ (w wn : va_W), post w wn → J g x nL (cs + mc) (sl + ms) (pc + 3) lv rest (jput ws is w ++ wn)) : J g x nL cs sl pc lv st ws := by
  obtain ⟨p, e, R, s, m, args, below, meth, c, Q, A⟩ := x
  obtain ⟨hx, hb, hown, hts, hK, hml, hA, hr, hlo, hR⟩ := hX
  intro H locs ls hP hD hS hls
  subst hst
  subst hR
  have hPc : va_P (jD g) vwCl wc H := fun k q hk => by
    obtain ⟨i, -, hi⟩ := jsel_in hC hk
    exact hP i q hi
  have hDc : va_D (fun _ => True) wc := va_D_sel hD hnd hC
  have hFc := va_free (wc := wc) hD hS hA is hC
  have hpre : ∀ U : State, U.heap = H → s.WarmedH U.vm → jP g (.ref b :: As) wc H.size (.ref b :: As).toArray U := fun U hU hW => ⟨rfl, by rw [hU], by rw [hU]; exact hPc, hK.moved hW, hDc⟩
  obtain ⟨⟨host, hlk⟩, hinm, hyn, hini, hco, hd⟩ := cw
  refine va_callv (va_runIN (As := As) (rest := rest) ⟨hx, hb, hml, hown, hts⟩ (hM H.size) ⟨(va_cnB n hts (jgi hco) rfl rfl rfl (va_Nw.of rfl (va_Nw.use (A := args) rfl (hK.2.2 _ hlk))) (hts _ hini) hd ⟨hR1, hR2⟩), hyn, hts _ hinm⟩ ⟨jblind, hpre⟩ rfl hn hls.1 rfl (lv_room hs8) hdg ⟨hm1, hm2⟩) hS (fun q _ h => hFc q h) hFc (fun u t H1 locs1 ht hvm hw hB hz1 hk1 hS1 => ?_)
  obtain ⟨w, wn⟩ := u
  obtain ⟨hP1, hD1, hf1⟩ := hB
  rw [ht] at hP1
  obtain ⟨p1, p2⟩ := jback (w := w) (wn := wn) hP hD is hC hk1 hFc hP1 hD1 hf1
  exact kk w wn hw H1 locs1 ls p1 p2 hS1 hls
end JCALLS
end
section
/-! ===== Int32 by its bits: bt x i ===== -/
def bt (x : Int32) (i : Nat) : Bool := x.toBitVec.getLsbD i
theorem b_ext {x y : Int32} (h : ∀ i, i < 32 → bt x i = bt y i) : x = y := Int32.toBitVec_inj.mp (BitVec.eq_of_getLsbD_eq (fun i hi => h i hi))
theorem b_or (x y : Int32) (i : Nat) : bt (x ||| y) i = (bt x i || bt y i) := by unfold bt; rw [Int32.toBitVec_or, BitVec.getLsbD_or]
theorem b_and (x y : Int32) (i : Nat) : bt (x &&& y) i = (bt x i && bt y i) := by unfold bt; rw [Int32.toBitVec_and, BitVec.getLsbD_and]
theorem b_xor (x y : Int32) (i : Nat) : bt (x ^^^ y) i = (bt x i ^^ bt y i) := by unfold bt; rw [Int32.toBitVec_xor, BitVec.getLsbD_xor]
theorem b_big {x : Int32} {i : Nat} (h : 32 ≤ i) : bt x i = false := BitVec.getLsbD_of_ge _ _ h
theorem b_255 (i : Nat) : bt 255 i = decide (i < 8) := by
  rcases Nat.lt_or_ge i 32 with h | h
  · exact (by decide +kernel : ∀ i, i < 32 → bt 255 i = decide (i < 8)) i h
  · rw [b_big h, decide_eq_false (by omega)]
theorem b_65535 (i : Nat) : bt 65535 i = decide (i < 16) := by
  rcases Nat.lt_or_ge i 32 with h | h
  · exact (by decide +kernel : ∀ i, i < 32 → bt 65535 i = decide (i < 16)) i h
  · rw [b_big h, decide_eq_false (by omega)]
theorem b_m1 : ∀ i, i < 32 → bt (-1) i = true := by decide +kernel
theorem b_0 (i : Nat) : bt 0 i = false := BitVec.getLsbD_zero
theorem s_l : ∀ n, n < 32 → ((nI n &&& 31).toBitVec.smod 32).toNat = n := by decide +kernel
theorem s_u : ∀ n, n < 32 → (((nI n).toUInt32 &&& Int32.toUInt32 31).toBitVec % 32).toNat = n := by decide +kernel
theorem b_shl (n : Nat) (hn : n < 32) (x : Int32) {i : Nat} (hi : i < 32) : bt (x <<< (nI n &&& 31)) i = (decide (n ≤ i) && bt x (i - n)) := by
  unfold bt
  rw [Int32.toBitVec_shiftLeft]
  show (x.toBitVec <<< ((nI n &&& 31).toBitVec.smod 32).toNat).getLsbD i = _
  rw [s_l n hn, BitVec.getLsbD_shiftLeft]
  rcases Nat.lt_or_ge i n with h | h
  · simp [h, Nat.not_le.mpr h]
  · simp [hi, h, Nat.not_lt.mpr h]
theorem b_ushr (n : Nat) (hn : n < 32) (x : Int32) (i : Nat) : bt ((x.toUInt32 >>> ((nI n).toUInt32 &&& Int32.toUInt32 31)).toInt32) i = bt x (n + i) := by
  show (x.toUInt32 >>> ((nI n).toUInt32 &&& Int32.toUInt32 31)).toBitVec.getLsbD i = x.toUInt32.toBitVec.getLsbD (n + i)
  rw [UInt32.toBitVec_shiftRight]
  show (x.toUInt32.toBitVec >>> (((nI n).toUInt32 &&& Int32.toUInt32 31).toBitVec % 32).toNat).getLsbD i = _
  rw [s_u n hn, BitVec.getLsbD_ushiftRight]
theorem b_sshr (n : Nat) (hn : n < 32) (x : Int32) {i : Nat} (hi : i < 32) : bt (x >>> (nI n &&& 31)) i = if n + i < 32 then bt x (n + i) else bt x 31 := by
  unfold bt
  rw [Int32.toBitVec_shiftRight]
  show (x.toBitVec.sshiftRight ((nI n &&& 31).toBitVec.smod 32).toNat).getLsbD i = _
  rw [s_l n hn, BitVec.getLsbD_sshiftRight, BitVec.msb_eq_getLsbD_last]
  simp [hi]
theorem b_shl8 (x : Int32) {i : Nat} (hi : i < 32) : bt (x <<< ((8 : Int32) &&& 31)) i = (decide (8 ≤ i) && bt x (i - 8)) := b_shl 8 (by omega) x hi
theorem b_shl16 (x : Int32) {i : Nat} (hi : i < 32) : bt (x <<< ((16 : Int32) &&& 31)) i = (decide (16 ≤ i) && bt x (i - 16)) := b_shl 16 (by omega) x hi
theorem b_shl24 (x : Int32) {i : Nat} (hi : i < 32) : bt (x <<< ((24 : Int32) &&& 31)) i = (decide (24 ≤ i) && bt x (i - 24)) := b_shl 24 (by omega) x hi
theorem b_sshr8 (x : Int32) {i : Nat} (hi : i < 32) : bt (x >>> ((8 : Int32) &&& 31)) i = if 8 + i < 32 then bt x (8 + i) else bt x 31 := b_sshr 8 (by omega) x hi
/-! small rows for J -/
section JSMALL
variable {g : jG} {x : jC} {nL pc cs sl : Nat} {lv lv2 : List (Nat × Value)} {st : List Value} {ws ws2 : va_W}
theorem j_lv (h : lv = lv2) (kk : J g x nL cs sl pc lv2 st ws) : J g x nL cs sl pc lv st ws := h ▸ kk
theorem j_ws (h : ws = ws2) (kk : J g x nL cs sl pc lv st ws2) : J g x nL cs sl pc lv st ws := h ▸ kk
theorem j_eq (h : lv = lv2) (h2 : ws = ws2) (kk : J g x nL cs sl pc lv2 st ws2) : J g x nL cs sl pc lv st ws := h ▸ h2 ▸ kk
theorem j_lvs (ks : List Nat) (h : lv_pick lv ks = lv2) (kk : J g x nL cs sl pc lv2 st ws) : J g x nL cs sl pc lv st ws := by
  obtain ⟨p, e, R, s, m, args, below, meth, c, Q, A⟩ := x
  intro H locs ls hP hD hS hls
  exact kk H locs ls hP hD hS (lv_sub hls ks h)
/-- a row's contents, said otherwise within its length -/
theorem j_cong (q0 : Nat) {a n : Nat} {cA : ClassId} {f : Nat → Int32} (f2 : Nat → Int32) (ha : ws[q0]? = some (a, .inl (cA, n, .inl f))) (hff : ∀ j, j < n → f j = f2 j) (kk : J g x nL cs sl pc lv st (ws.set q0 (a, .inl (cA, n, .inl f2)))) : J g x nL cs sl pc lv st ws := by
  obtain ⟨p, e, R, s, m, args, below, meth, c, Q, A⟩ := x
  intro H locs ls hP hD hS hls
  have hc : vp_cell cA (n, .inl f) = vp_cell cA (n, .inl f2) := by
    rw [vp_cell_i, vp_cell_i]
    unfold arrV
    congr 2
    funext j
    exact congrArg Value.int (hff j.val j.isLt)
  refine kk H locs ls (fun k q hk => ?_) (hD.set ha) hS hls
  by_cases hkq : k = q0
  · subst hkq
    rw [List.getElem?_set_self (List.getElem?_eq_some_iff.mp ha).1] at hk
    cases hk
    have h1 : H[a]? = some (vp_cell cA (n, .inl f)) := hP k _ ha
    show H[a]? = some (vp_cell cA (n, .inl f2))
    rw [h1, hc]
  · rw [List.getElem?_set_ne (Ne.symm hkq)] at hk
    exact hP k q hk
end JSMALL
/-- a State's contents (needed, how many sets, things, prices, marks), its addresses -/
abbrev StT : Type := Int32 × Nat × (Nat → Int32) × (Nat → Int32) × (Nat → Int32)
abbrev adT : Type := Nat × Nat × Nat × Nat
/-- a row of references, by its list -/
def lk (l : List (Option Nat)) : Nat → Option Nat := fun j => l.getD j none
theorem lk_up {l : List (Option Nat)} {k : Nat} {v : Nat} (h : k < l.length) : va_up (lk l) k (some v) = lk (l.set k (some v)) := by
  funext j
  unfold va_up lk
  by_cases hj : j = k
  · subst hj
    simp [List.getD, h]
  · have hj2 : k ≠ j := fun q => hj q.symm
    simp [List.getD, hj, List.getElem?_set_ne hj2]
theorem lk_none6 : (fun _ => none : Nat → Option Nat) = lk [none, none, none, none, none, none] := by
  funext j
  match j with
  | 0 | 1 | 2 | 3 | 4 | 5 => rfl
  | j + 6 => rfl
theorem lk_none2 : (fun _ => none : Nat → Option Nat) = lk [none, none] := by
  funext j
  match j with
  | 0 | 1 => rfl
  | j + 2 => rfl
/-- a boolean's int -/
def jb (b : Bool) : Int32 := if b = true then 1 else 0
theorem jb_0 {b : Bool} : jb b = 0 ↔ b = false := by cases b <;> decide
theorem jb_1 {b : Bool} : ¬ jb b = 0 ↔ b = true := by cases b <;> decide
theorem jb_nar (b : Bool) : narrow .boolean (.int (jb b)) = .int (jb b) := by cases b <;> rfl
theorem jb_t : jb true = 1 := rfl
theorem jb_f : jb false = 0 := rfl
theorem jb_e {b : Bool} (h : b = true) : jb b = 1 := by rw [h]; rfl
theorem jb_n {b : Bool} (h : b = false) : jb b = 0 := by rw [h]; rfl
/-- bit k by itself -/
def bI (k : Nat) : Int32 := (1 : Int32) <<< (nI k &&& 31)
theorem bt_1 : ∀ i, i < 32 → bt 1 i = decide (i = 0) := by decide +kernel
theorem bt_bI {k i : Nat} (hk : k < 32) (hi : i < 32) : bt (bI k) i = decide (i = k) := by
  unfold bI
  rw [b_shl k hk 1 hi]
  by_cases h : k ≤ i
  · rw [bt_1 (i - k) (by omega)]
    simp only [h, decide_true, Bool.true_and]
    exact decide_eq_decide.mpr (by omega)
  · simp [h]
    omega
theorem bt_z (i : Nat) : bt 0 i = false := b_0 i
theorem b_sh1 {m : Int32} {k : Nat} (hk : k < 32) : (m >>> (nI k &&& 31)) &&& 1 = jb (bt m k) := by
  apply b_ext
  intro i hi
  rw [b_and, b_sshr k hk m hi, bt_1 i hi]
  by_cases h0 : i = 0
  · subst h0
    rw [Nat.add_zero, if_pos hk]
    cases bt m k <;> rfl
  · cases h : bt m k <;> simp [h0, jb, b_0, bt_1 i hi]
theorem b_not (x : Int32) {i : Nat} (hi : i < 32) : bt (x ^^^ (-1)) i = !(bt x i) := by
  rw [b_xor, b_m1 i hi]
  cases bt x i <;> rfl

theorem jsw0_7 {v : Int32} (h0 : ¬ v = 0) (h1 : ¬ v = 1) (h2 : ¬ v = 2) (h3 : ¬ v = 3) (h4 : ¬ v = 4) (h5 : ¬ v = 5) (h6 : ¬ v = 6) (h7 : ¬ v = 7) : v.toInt < 0 ∨ 7 < v.toInt := by
  have e0 := lv_neT h0 (show (0 : Int32).toInt = 0 by decide)
  have e1 := lv_neT h1 (show (1 : Int32).toInt = 1 by decide)
  have e2 := lv_neT h2 (show (2 : Int32).toInt = 2 by decide)
  have e3 := lv_neT h3 (show (3 : Int32).toInt = 3 by decide)
  have e4 := lv_neT h4 (show (4 : Int32).toInt = 4 by decide)
  have e5 := lv_neT h5 (show (5 : Int32).toInt = 5 by decide)
  have e6 := lv_neT h6 (show (6 : Int32).toInt = 6 by decide)
  have e7 := lv_neT h7 (show (7 : Int32).toInt = 7 by decide)
  omega
theorem jsw3_5 {v : Int32} (h3 : ¬ v = 3) (h4 : ¬ v = 4) (h5 : ¬ v = 5) : v.toInt < 3 ∨ 5 < v.toInt := by
  have e3 := lv_neT h3 (show (3 : Int32).toInt = 3 by decide)
  have e4 := lv_neT h4 (show (4 : Int32).toInt = 4 by decide)
  have e5 := lv_neT h5 (show (5 : Int32).toInt = 5 by decide)
  omega
theorem jsw0_2 {v : Int32} (h0 : ¬ v = 0) (h1 : ¬ v = 1) (h2 : ¬ v = 2) : v.toInt < 0 ∨ 2 < v.toInt := by
  have e0 := lv_neT h0 (show (0 : Int32).toInt = 0 by decide)
  have e1 := lv_neT h1 (show (1 : Int32).toInt = 1 by decide)
  have e2 := lv_neT h2 (show (2 : Int32).toInt = 2 by decide)
  omega
theorem jsw0_5 {v : Int32} (h0 : ¬ v = 0) (h1 : ¬ v = 1) (h2 : ¬ v = 2) (h3 : ¬ v = 3) (h4 : ¬ v = 4) (h5 : ¬ v = 5) : v.toInt < 0 ∨ 5 < v.toInt := by
  have e0 := lv_neT h0 (show (0 : Int32).toInt = 0 by decide)
  have e1 := lv_neT h1 (show (1 : Int32).toInt = 1 by decide)
  have e2 := lv_neT h2 (show (2 : Int32).toInt = 2 by decide)
  have e3 := lv_neT h3 (show (3 : Int32).toInt = 3 by decide)
  have e4 := lv_neT h4 (show (4 : Int32).toInt = 4 by decide)
  have e5 := lv_neT h5 (show (5 : Int32).toInt = 5 by decide)
  omega
theorem jsw0_4 {v : Int32} (h0 : ¬ v = 0) (h1 : ¬ v = 1) (h2 : ¬ v = 2) (h3 : ¬ v = 3) (h4 : ¬ v = 4) : v.toInt < 0 ∨ 4 < v.toInt := by
  have e0 := lv_neT h0 (show (0 : Int32).toInt = 0 by decide)
  have e1 := lv_neT h1 (show (1 : Int32).toInt = 1 by decide)
  have e2 := lv_neT h2 (show (2 : Int32).toInt = 2 by decide)
  have e3 := lv_neT h3 (show (3 : Int32).toInt = 3 by decide)
  have e4 := lv_neT h4 (show (4 : Int32).toInt = 4 by decide)
  omega
theorem jsw0_23 {v : Int32} (h0 : ¬ v = 0) (h1 : ¬ v = 1) (h2 : ¬ v = 2) (h3 : ¬ v = 3) (h4 : ¬ v = 4) (h5 : ¬ v = 5) (h6 : ¬ v = 6) (h7 : ¬ v = 7) (h8 : ¬ v = 8) (h9 : ¬ v = 9) (h10 : ¬ v = 10) (h11 : ¬ v = 11) (h12 : ¬ v = 12) (h13 : ¬ v = 13) (h14 : ¬ v = 14) (h15 : ¬ v = 15) (h16 : ¬ v = 16) (h17 : ¬ v = 17) (h18 : ¬ v = 18) (h19 : ¬ v = 19) (h20 : ¬ v = 20) (h21 : ¬ v = 21) (h22 : ¬ v = 22) (h23 : ¬ v = 23) : v.toInt < 0 ∨ 23 < v.toInt := by
  have e0 := lv_neT h0 (show (0 : Int32).toInt = 0 by decide)
  have e1 := lv_neT h1 (show (1 : Int32).toInt = 1 by decide)
  have e2 := lv_neT h2 (show (2 : Int32).toInt = 2 by decide)
  have e3 := lv_neT h3 (show (3 : Int32).toInt = 3 by decide)
  have e4 := lv_neT h4 (show (4 : Int32).toInt = 4 by decide)
  have e5 := lv_neT h5 (show (5 : Int32).toInt = 5 by decide)
  have e6 := lv_neT h6 (show (6 : Int32).toInt = 6 by decide)
  have e7 := lv_neT h7 (show (7 : Int32).toInt = 7 by decide)
  have e8 := lv_neT h8 (show (8 : Int32).toInt = 8 by decide)
  have e9 := lv_neT h9 (show (9 : Int32).toInt = 9 by decide)
  have e10 := lv_neT h10 (show (10 : Int32).toInt = 10 by decide)
  have e11 := lv_neT h11 (show (11 : Int32).toInt = 11 by decide)
  have e12 := lv_neT h12 (show (12 : Int32).toInt = 12 by decide)
  have e13 := lv_neT h13 (show (13 : Int32).toInt = 13 by decide)
  have e14 := lv_neT h14 (show (14 : Int32).toInt = 14 by decide)
  have e15 := lv_neT h15 (show (15 : Int32).toInt = 15 by decide)
  have e16 := lv_neT h16 (show (16 : Int32).toInt = 16 by decide)
  have e17 := lv_neT h17 (show (17 : Int32).toInt = 17 by decide)
  have e18 := lv_neT h18 (show (18 : Int32).toInt = 18 by decide)
  have e19 := lv_neT h19 (show (19 : Int32).toInt = 19 by decide)
  have e20 := lv_neT h20 (show (20 : Int32).toInt = 20 by decide)
  have e21 := lv_neT h21 (show (21 : Int32).toInt = 21 by decide)
  have e22 := lv_neT h22 (show (22 : Int32).toInt = 22 by decide)
  have e23 := lv_neT h23 (show (23 : Int32).toInt = 23 by decide)
  omega
end
