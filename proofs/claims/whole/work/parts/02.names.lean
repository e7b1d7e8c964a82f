/-! ===== BEGIN words of one list among another's, by their places ===== -/
theorem goodIn_r {big : List Cond} (ws : List Cond) (ps : List Nat) (hp : ws = ps.filterMap (fun i => big[i]?)) (h : ws.all goodWord = true) : GoodIn big ws := by
  intro w hw
  have h1 := List.all_eq_true.mp h w hw
  rw [hp] at hw
  obtain ⟨i, -, hi⟩ := List.mem_filterMap.mp hw
  have hm : w ∈ big := by first | exact List.mem_of_getElem? hi | exact List.getElem?_mem hi
  exact ⟨hm, good_of_word h1⟩
theorem goodIn_app {big a b : List Cond} (ha : GoodIn big a) (hb : GoodIn big b) : GoodIn big (a ++ b) := fun w h => (List.mem_append.mp h).elim (ha w) (hb w)
theorem goodIn_ca {big a b : List Cond} {c : Cond} (ha : GoodIn big (c :: a)) (hb : GoodIn big b) : GoodIn big (c :: (a ++ b)) := fun w h => (List.mem_cons.mp h).elim (fun e => ha w (List.mem_cons.mpr (Or.inl e))) (fun h => (List.mem_append.mp h).elim (fun h => ha w (List.mem_cons.mpr (Or.inr h))) (hb w))
theorem goodIn_sub {big ws : List Cond} (hm : ∀ w ∈ ws, w ∈ big) (h : ws.all goodWord = true) : GoodIn big ws := fun w hw => ⟨hm w hw, good_of_word (List.all_eq_true.mp h w hw)⟩
/-! ===== END ===== -/

/-! ===== BEGIN printed: names, fields, word lists, decode rows ===== -/
def RX0 : String := "LeanedBars$Exchanges"
def TX0 : u_T := fun k => match k with
  | 0 => ("LeanedBars$Exchanges", "size", "I", false)
  | 1 => ("LeanedBars$Exchanges", "rusts", "[I", true)
  | _ => ("LeanedBars$Exchanges", "wanted", "[I", true)
def tyX0 : Nat → FieldType := fun k => match k with
  | 0 => .int
  | 1 => .array .int
  | _ => .array .int
abbrev wsX00 : List Cond := u_ws RX0 TX0 3
theorem nmX0 : ∀ a, a < 3 → ∀ b, b < 3 → a ≠ b → (TX0 a).2.1 ≠ (TX0 b).2.1 := by decide +kernel
theorem tyX0_ok : ∀ k, k < 3 → parseFieldDescriptor (TX0 k).2.2.1 = some (tyX0 k) := by decide +kernel
abbrev cX0_init : ByteArray := prog_2_method_1_code
def yX0_init : MethodName := ⟨RX0, "<init>", "()V"⟩
abbrev cX0_add : ByteArray := prog_2_method_2_code
def yX0_add : MethodName := ⟨RX0, "add", "(II)V"⟩
abbrev cX0_fewest : ByteArray := prog_2_method_3_code
def yX0_fewest : MethodName := ⟨RX0, "fewest", "()I"⟩
abbrev cX0_fewestFrom : ByteArray := prog_2_method_4_code
def yX0_fewestFrom : MethodName := ⟨RX0, "fewestFrom", "([I[III)I"⟩
abbrev cX0_exchange : ByteArray := prog_2_method_5_code
def yX0_exchange : MethodName := ⟨RX0, "exchange", "([III)V"⟩
def RX1 : String := "LeanedBars$Now"
def TX1 : u_T := fun k => match k with
  | 0 => ("LeanedBars$Now", "size", "I", false)
  | 1 => ("LeanedBars$Now", "people", "[I", true)
  | 2 => ("LeanedBars$Now", "bars", "[I", true)
  | 3 => ("LeanedBars$Now", "firsts", "[I", true)
  | 4 => ("LeanedBars$Now", "lengths", "[I", true)
  | _ => ("LeanedBars$Now", "sights", "[I", true)
def tyX1 : Nat → FieldType := fun k => match k with
  | 0 => .int
  | 1 => .array .int
  | 2 => .array .int
  | 3 => .array .int
  | 4 => .array .int
  | _ => .array .int
abbrev wsX10 : List Cond := u_ws RX1 TX1 6
theorem nmX1 : ∀ a, a < 6 → ∀ b, b < 6 → a ≠ b → (TX1 a).2.1 ≠ (TX1 b).2.1 := by decide +kernel
theorem tyX1_ok : ∀ k, k < 6 → parseFieldDescriptor (TX1 k).2.2.1 = some (tyX1 k) := by decide +kernel
abbrev cX1_init : ByteArray := prog_3_method_1_code
def yX1_init : MethodName := ⟨RX1, "<init>", "()V"⟩
abbrev cX1_forget : ByteArray := prog_3_method_2_code
def yX1_forget : MethodName := ⟨RX1, "forget", "()V"⟩
abbrev cX1_become : ByteArray := prog_3_method_3_code
def yX1_become : MethodName := ⟨RX1, "become", "(LLeanedBars$Now;)V"⟩
abbrev cX1_add : ByteArray := prog_3_method_4_code
def yX1_add : MethodName := ⟨RX1, "add", "(IIII)V"⟩
abbrev cX1_holdsOf : ByteArray := prog_3_method_5_code
def yX1_holdsOf : MethodName := ⟨RX1, "holdsOf", "(I)I"⟩
abbrev cX1_sightsTold : ByteArray := prog_3_method_6_code
def yX1_sightsTold : MethodName := ⟨RX1, "sightsTold", "()I"⟩
def RX2 : String := "LeanedBars$Railings"
def TX2 : u_T := fun k => match k with
  | 0 => ("LeanedBars$Railings", "bars", "I", false)
  | 1 => ("LeanedBars$Railings", "people", "I", false)
  | 2 => ("LeanedBars$Railings", "paints", "I", false)
  | 3 => ("LeanedBars$Railings", "metals", "[I", true)
  | 4 => ("LeanedBars$Railings", "grips", "[I", true)
  | 5 => ("LeanedBars$Railings", "rains", "[I", true)
  | 6 => ("LeanedBars$Railings", "paintedBars", "[I", true)
  | 7 => ("LeanedBars$Railings", "paintedYears", "[I", true)
  | _ => ("LeanedBars$Railings", "lastings", "[I", true)
def tyX2 : Nat → FieldType := fun k => match k with
  | 0 => .int
  | 1 => .int
  | 2 => .int
  | 3 => .array .int
  | 4 => .array .int
  | 5 => .array .int
  | 6 => .array .int
  | 7 => .array .int
  | _ => .array .int
abbrev wsX20 : List Cond := u_ws RX2 TX2 9
theorem nmX2 : ∀ a, a < 9 → ∀ b, b < 9 → a ≠ b → (TX2 a).2.1 ≠ (TX2 b).2.1 := by decide +kernel
theorem tyX2_ok : ∀ k, k < 9 → parseFieldDescriptor (TX2 k).2.2.1 = some (tyX2 k) := by decide +kernel
abbrev cX2_init : ByteArray := prog_4_method_1_code
def yX2_init : MethodName := ⟨RX2, "<init>", "()V"⟩
abbrev cX2_empty : ByteArray := prog_4_method_2_code
def yX2_empty : MethodName := ⟨RX2, "empty", "()V"⟩
abbrev cX2_become : ByteArray := prog_4_method_3_code
def yX2_become : MethodName := ⟨RX2, "become", "(LLeanedBars$Railings;)V"⟩
abbrev cX2_hasBar : ByteArray := prog_4_method_4_code
def yX2_hasBar : MethodName := ⟨RX2, "hasBar", "(I)Z"⟩
abbrev cX2_hasPerson : ByteArray := prog_4_method_5_code
def yX2_hasPerson : MethodName := ⟨RX2, "hasPerson", "(I)Z"⟩
abbrev cX2_addBar : ByteArray := prog_4_method_6_code
def yX2_addBar : MethodName := ⟨RX2, "addBar", "(I)V"⟩
abbrev cX2_addPerson : ByteArray := prog_4_method_7_code
def yX2_addPerson : MethodName := ⟨RX2, "addPerson", "(I)V"⟩
abbrev cX2_addPaint : ByteArray := prog_4_method_8_code
def yX2_addPaint : MethodName := ⟨RX2, "addPaint", "(III)V"⟩
abbrev cX2_isWet : ByteArray := prog_4_method_9_code
def yX2_isWet : MethodName := ⟨RX2, "isWet", "(II)Z"⟩
abbrev cX2_isCovered : ByteArray := prog_4_method_10_code
def yX2_isCovered : MethodName := ⟨RX2, "isCovered", "(II)Z"⟩
abbrev cX2_coveredYears : ByteArray := prog_4_method_11_code
def yX2_coveredYears : MethodName := ⟨RX2, "coveredYears", "(I)I"⟩
abbrev cX2_weather : ByteArray := prog_4_method_12_code
def yX2_weather : MethodName := ⟨RX2, "weather", "(II)I"⟩
abbrev cX2_dryYears : ByteArray := prog_4_method_13_code
def yX2_dryYears : MethodName := ⟨RX2, "dryYears", "(III)I"⟩
def RX3 : String := "LeanedBars$Reader"
def TX3 : u_T := fun k => match k with
  | 0 => ("LeanedBars$Reader", "text", "LLeanedBars$Text;", true)
  | 1 => ("LeanedBars$Reader", "told", "LLeanedBars$Railings;", true)
  | 2 => ("LeanedBars$Reader", "kind", "I", false)
  | 3 => ("LeanedBars$Reader", "at", "I", false)
  | 4 => ("LeanedBars$Reader", "behind", "I", false)
  | _ => ("LeanedBars$Reader", "number", "I", false)
def tyX3 : Nat → FieldType := fun k => match k with
  | 0 => .object "LeanedBars$Text"
  | 1 => .object "LeanedBars$Railings"
  | 2 => .int
  | 3 => .int
  | 4 => .int
  | _ => .int
abbrev wsX30 : List Cond := u_ws RX3 TX3 6
theorem nmX3 : ∀ a, a < 6 → ∀ b, b < 6 → a ≠ b → (TX3 a).2.1 ≠ (TX3 b).2.1 := by decide +kernel
theorem tyX3_ok : ∀ k, k < 6 → parseFieldDescriptor (TX3 k).2.2.1 = some (tyX3 k) := by decide +kernel
abbrev cX3_init : ByteArray := prog_5_method_1_code
def yX3_init : MethodName := ⟨RX3, "<init>", "()V"⟩
abbrev cX3_read : ByteArray := prog_5_method_2_code
def yX3_read : MethodName := ⟨RX3, "read", "()I"⟩
abbrev cX3_readItem : ByteArray := prog_5_method_3_code
def yX3_readItem : MethodName := ⟨RX3, "readItem", "()Z"⟩
abbrev cX3_readBar : ByteArray := prog_5_method_4_code
def yX3_readBar : MethodName := ⟨RX3, "readBar", "()Z"⟩
abbrev cX3_readPerson : ByteArray := prog_5_method_5_code
def yX3_readPerson : MethodName := ⟨RX3, "readPerson", "()Z"⟩
abbrev cX3_readRain : ByteArray := prog_5_method_6_code
def yX3_readRain : MethodName := ⟨RX3, "readRain", "()Z"⟩
abbrev cX3_readPaint : ByteArray := prog_5_method_7_code
def yX3_readPaint : MethodName := ⟨RX3, "readPaint", "()Z"⟩
abbrev cX3_take : ByteArray := prog_5_method_8_code
def yX3_take : MethodName := ⟨RX3, "take", "(II)I"⟩
abbrev cX3_takeStop : ByteArray := prog_5_method_9_code
def yX3_takeStop : MethodName := ⟨RX3, "takeStop", "()Z"⟩
abbrev cX3_next : ByteArray := prog_5_method_10_code
def yX3_next : MethodName := ⟨RX3, "next", "()V"⟩
def RX4 : String := "LeanedBars$Text"
def TX4 : u_T := fun k => match k with
  | 0 => ("LeanedBars$Text", "bytes", "[B", true)
  | _ => ("LeanedBars$Text", "length", "I", false)
def tyX4 : Nat → FieldType := fun k => match k with
  | 0 => .array .byte
  | _ => .int
abbrev wsX40 : List Cond := u_ws RX4 TX4 2
theorem nmX4 : ∀ a, a < 2 → ∀ b, b < 2 → a ≠ b → (TX4 a).2.1 ≠ (TX4 b).2.1 := by decide +kernel
theorem tyX4_ok : ∀ k, k < 2 → parseFieldDescriptor (TX4 k).2.2.1 = some (tyX4 k) := by decide +kernel
abbrev cX4_init : ByteArray := prog_6_method_1_code
def yX4_init : MethodName := ⟨RX4, "<init>", "()V"⟩
abbrev cX4_append : ByteArray := prog_6_method_2_code
def yX4_append : MethodName := ⟨RX4, "append", "(JI)V"⟩
abbrev cX4_isSign : ByteArray := prog_6_method_3_code
def yX4_isSign : MethodName := ⟨RX4, "isSign", "(IC)Z"⟩
abbrev cX4_isWord : ByteArray := prog_6_method_4_code
def yX4_isWord : MethodName := ⟨RX4, "isWord", "(IILjava/lang/String;)Z"⟩
abbrev cX4_behindRow : ByteArray := prog_6_method_5_code
def yX4_behindRow : MethodName := ⟨RX4, "behindRow", "(ICC)I"⟩
abbrev cX4_numberIn : ByteArray := prog_6_method_6_code
def yX4_numberIn : MethodName := ⟨RX4, "numberIn", "(II)I"⟩
def RX5 : String := "LeanedBars$Ways"
def TX5 : u_T := fun k => match k with
  | 0 => ("LeanedBars$Ways", "bars", "I", false)
  | 1 => ("LeanedBars$Ways", "people", "I", false)
  | 2 => ("LeanedBars$Ways", "isSeen", "[Z", true)
  | 3 => ("LeanedBars$Ways", "needs", "[I", true)
  | 4 => ("LeanedBars$Ways", "grips", "[I", true)
  | 5 => ("LeanedBars$Ways", "dryWinters", "[I", true)
  | 6 => ("LeanedBars$Ways", "fitting", "[I", true)
  | 7 => ("LeanedBars$Ways", "gathered", "[I", true)
  | _ => ("LeanedBars$Ways", "tally", "[I", true)
def tyX5 : Nat → FieldType := fun k => match k with
  | 0 => .int
  | 1 => .int
  | 2 => .array .boolean
  | 3 => .array .int
  | 4 => .array .int
  | 5 => .array .int
  | 6 => .array .int
  | 7 => .array .int
  | _ => .array .int
abbrev wsX50 : List Cond := u_ws RX5 TX5 9
theorem nmX5 : ∀ a, a < 9 → ∀ b, b < 9 → a ≠ b → (TX5 a).2.1 ≠ (TX5 b).2.1 := by decide +kernel
theorem tyX5_ok : ∀ k, k < 9 → parseFieldDescriptor (TX5 k).2.2.1 = some (tyX5 k) := by decide +kernel
abbrev cX5_init : ByteArray := prog_7_method_1_code
def yX5_init : MethodName := ⟨RX5, "<init>", "()V"⟩
abbrev cX5_learn : ByteArray := prog_7_method_2_code
def yX5_learn : MethodName := ⟨RX5, "learn", "(LLeanedBars$Railings;LLeanedBars$Now;)V"⟩
abbrev cX5_all : ByteArray := prog_7_method_3_code
def yX5_all : MethodName := ⟨RX5, "all", "()I"⟩
abbrev cX5_holdingNone : ByteArray := prog_7_method_4_code
def yX5_holdingNone : MethodName := ⟨RX5, "holdingNone", "(I)I"⟩
abbrev cX5_holding : ByteArray := prog_7_method_5_code
def yX5_holding : MethodName := ⟨RX5, "holding", "(II)I"⟩
abbrev cX5_canHaveHeld : ByteArray := prog_7_method_6_code
def yX5_canHaveHeld : MethodName := ⟨RX5, "canHaveHeld", "(III)Z"⟩
abbrev cX5_leftAtWorst : ByteArray := prog_7_method_7_code
def yX5_leftAtWorst : MethodName := ⟨RX5, "leftAtWorst", "(I)I"⟩
abbrev cX5_gather : ByteArray := prog_7_method_8_code
def yX5_gather : MethodName := ⟨RX5, "gather", "(I)V"⟩
abbrev cX5_gatherBar : ByteArray := prog_7_method_9_code
def yX5_gatherBar : MethodName := ⟨RX5, "gatherBar", "(I)V"⟩
abbrev cX5_waysBeside : ByteArray := prog_7_method_10_code
def yX5_waysBeside : MethodName := ⟨RX5, "waysBeside", "(I)I"⟩
abbrev cX5_winters : ByteArray := prog_7_method_11_code
def yX5_winters : MethodName := ⟨RX5, "winters", "(III)I"⟩
abbrev cX5_wintersFrom : ByteArray := prog_7_method_12_code
def yX5_wintersFrom : MethodName := ⟨RX5, "wintersFrom", "(LLeanedBars$Ways;IIII)I"⟩
abbrev cX5_spread : ByteArray := prog_7_method_13_code
def yX5_spread : MethodName := ⟨RX5, "spread", "(LLeanedBars$Ways;IIIII)V"⟩
abbrev cX5_leaves : ByteArray := prog_7_method_14_code
def yX5_leaves : MethodName := ⟨RX5, "leaves", "(III)I"⟩
abbrev cX5_isIn : ByteArray := prog_7_method_15_code
def yX5_isIn : MethodName := ⟨RX5, "isIn", "(II)Z"⟩
def RX6 : String := "LeanedBars"
def TX6 : u_T := fun k => match k with
  | 0 => ("LeanedBars", "reader", "LLeanedBars$Reader;", true)
  | 1 => ("LeanedBars", "text", "LLeanedBars$Text;", true)
  | 2 => ("LeanedBars", "railings", "LLeanedBars$Railings;", true)
  | 3 => ("LeanedBars", "now", "LLeanedBars$Now;", true)
  | 4 => ("LeanedBars", "images", "[LLeanedBars$Now;", true)
  | 5 => ("LeanedBars", "kept", "[Z", true)
  | 6 => ("LeanedBars", "ways", "LLeanedBars$Ways;", true)
  | 7 => ("LeanedBars", "exchanges", "LLeanedBars$Exchanges;", true)
  | _ => ("LeanedBars", "traced", "J", false)
def tyX6 : Nat → FieldType := fun k => match k with
  | 0 => .object "LeanedBars$Reader"
  | 1 => .object "LeanedBars$Text"
  | 2 => .object "LeanedBars$Railings"
  | 3 => .object "LeanedBars$Now"
  | 4 => .array (.object "LeanedBars$Now")
  | 5 => .array .boolean
  | 6 => .object "LeanedBars$Ways"
  | 7 => .object "LeanedBars$Exchanges"
  | _ => .long
abbrev wsX60 : List Cond := u_ws RX6 TX6 9
theorem nmX6 : ∀ a, a < 9 → ∀ b, b < 9 → a ≠ b → (TX6 a).2.1 ≠ (TX6 b).2.1 := by decide +kernel
theorem tyX6_ok : ∀ k, k < 9 → parseFieldDescriptor (TX6 k).2.2.1 = some (tyX6 k) := by decide +kernel
abbrev cX6_init : ByteArray := prog_1_method_1_code
def yX6_init : MethodName := ⟨RX6, "<init>", "()V"⟩
abbrev cX6_type : ByteArray := prog_1_method_2_code
def yX6_type : MethodName := ⟨RX6, "type", "(JI)I"⟩
abbrev cX6_clear : ByteArray := prog_1_method_3_code
def yX6_clear : MethodName := ⟨RX6, "clear", "()I"⟩
abbrev cX6_square : ByteArray := prog_1_method_4_code
def yX6_square : MethodName := ⟨RX6, "square", "()I"⟩
abbrev cX6_bar : ByteArray := prog_1_method_5_code
def yX6_bar : MethodName := ⟨RX6, "bar", "(I)I"⟩
abbrev cX6_person : ByteArray := prog_1_method_6_code
def yX6_person : MethodName := ⟨RX6, "person", "(I)I"⟩
abbrev cX6_rain : ByteArray := prog_1_method_7_code
def yX6_rain : MethodName := ⟨RX6, "rain", "(I)I"⟩
abbrev cX6_paint : ByteArray := prog_1_method_8_code
def yX6_paint : MethodName := ⟨RX6, "paint", "(II)I"⟩
abbrev cX6_holds : ByteArray := prog_1_method_9_code
def yX6_holds : MethodName := ⟨RX6, "holds", "(IIII)I"⟩
abbrev cX6_undo : ByteArray := prog_1_method_10_code
def yX6_undo : MethodName := ⟨RX6, "undo", "()I"⟩
abbrev cX6_held : ByteArray := prog_1_method_11_code
def yX6_held : MethodName := ⟨RX6, "held", "(II)I"⟩
abbrev cX6_rust : ByteArray := prog_1_method_12_code
def yX6_rust : MethodName := ⟨RX6, "rust", "(II)I"⟩
abbrev cX6_saw : ByteArray := prog_1_method_13_code
def yX6_saw : MethodName := ⟨RX6, "saw", "(II)I"⟩
abbrev cX6_hide : ByteArray := prog_1_method_14_code
def yX6_hide : MethodName := ⟨RX6, "hide", "(I)I"⟩
abbrev cX6_seen : ByteArray := prog_1_method_15_code
def yX6_seen : MethodName := ⟨RX6, "seen", "(I)I"⟩
abbrev cX6_fits : ByteArray := prog_1_method_16_code
def yX6_fits : MethodName := ⟨RX6, "fits", "()I"⟩
abbrev cX6_sure : ByteArray := prog_1_method_17_code
def yX6_sure : MethodName := ⟨RX6, "sure", "(I)I"⟩
abbrev cX6_odds : ByteArray := prog_1_method_18_code
def yX6_odds : MethodName := ⟨RX6, "odds", "(III)I"⟩
abbrev cX6_claim : ByteArray := prog_1_method_19_code
def yX6_claim : MethodName := ⟨RX6, "claim", "(III)I"⟩
abbrev cX6_saves : ByteArray := prog_1_method_20_code
def yX6_saves : MethodName := ⟨RX6, "saves", "(III)I"⟩
abbrev cX6_scrape : ByteArray := prog_1_method_21_code
def yX6_scrape : MethodName := ⟨RX6, "scrape", "(I)I"⟩
abbrev cX6_swaps : ByteArray := prog_1_method_22_code
def yX6_swaps : MethodName := ⟨RX6, "swaps", "()I"⟩
abbrev cX6_rate : ByteArray := prog_1_method_23_code
def yX6_rate : MethodName := ⟨RX6, "rate", "(II)I"⟩
abbrev cX6_keep : ByteArray := prog_1_method_24_code
def yX6_keep : MethodName := ⟨RX6, "keep", "(I)I"⟩
abbrev cX6_back : ByteArray := prog_1_method_25_code
def yX6_back : MethodName := ⟨RX6, "back", "(I)I"⟩
abbrev cX6_count : ByteArray := prog_1_method_26_code
def yX6_count : MethodName := ⟨RX6, "count", "(I)I"⟩
abbrev cX6_trace : ByteArray := prog_1_method_27_code
def yX6_trace : MethodName := ⟨RX6, "trace", "()J"⟩
abbrev cX6_within : ByteArray := prog_1_method_28_code
def yX6_within : MethodName := ⟨RX6, "within", "(III)Z"⟩
abbrev cX6_isYear : ByteArray := prog_1_method_29_code
def yX6_isYear : MethodName := ⟨RX6, "isYear", "(I)Z"⟩
abbrev cX6_isClaim : ByteArray := prog_1_method_30_code
def yX6_isClaim : MethodName := ⟨RX6, "isClaim", "(III)Z"⟩
abbrev cX6_rustByHolds : ByteArray := prog_1_method_31_code
def yX6_rustByHolds : MethodName := ⟨RX6, "rustByHolds", "(II)I"⟩
abbrev cX6_commonDivisor : ByteArray := prog_1_method_32_code
def yX6_commonDivisor : MethodName := ⟨RX6, "commonDivisor", "(II)I"⟩
abbrev cX6_rateOfBar : ByteArray := prog_1_method_33_code
def yX6_rateOfBar : MethodName := ⟨RX6, "rateOfBar", "(I)I"⟩
abbrev cX6_rateOfRail : ByteArray := prog_1_method_34_code
def yX6_rateOfRail : MethodName := ⟨RX6, "rateOfRail", "(I)I"⟩
abbrev cX6_rateOfSpike : ByteArray := prog_1_method_35_code
def yX6_rateOfSpike : MethodName := ⟨RX6, "rateOfSpike", "(I)I"⟩
abbrev cX6_rateOfGate : ByteArray := prog_1_method_36_code
def yX6_rateOfGate : MethodName := ⟨RX6, "rateOfGate", "(I)I"⟩
abbrev cX6_rateOfFinial : ByteArray := prog_1_method_37_code
def yX6_rateOfFinial : MethodName := ⟨RX6, "rateOfFinial", "(I)I"⟩
abbrev cX6_rateOfNewOne : ByteArray := prog_1_method_38_code
def yX6_rateOfNewOne : MethodName := ⟨RX6, "rateOfNewOne", "(I)I"⟩
def RX7 : String := "LeanedBarsModel"
def TX7 : u_T := fun k => match k with
  | 0 => ("LeanedBarsModel", "trace", "J", false)
  | 1 => ("LeanedBarsModel", "text", "[I", true)
  | 2 => ("LeanedBarsModel", "typed", "I", false)
  | 3 => ("LeanedBarsModel", "told", "[I", true)
  | 4 => ("LeanedBarsModel", "draft", "[I", true)
  | 5 => ("LeanedBarsModel", "s", "[I", true)
  | 6 => ("LeanedBarsModel", "images", "[I", true)
  | 7 => ("LeanedBarsModel", "kept", "[Z", true)
  | 8 => ("LeanedBarsModel", "at", "I", false)
  | 9 => ("LeanedBarsModel", "sort", "I", false)
  | 10 => ("LeanedBarsModel", "start", "I", false)
  | 11 => ("LeanedBarsModel", "size", "I", false)
  | 12 => ("LeanedBarsModel", "base", "[I", true)
  | 13 => ("LeanedBarsModel", "dry", "[I", true)
  | 14 => ("LeanedBarsModel", "here", "[I", true)
  | 15 => ("LeanedBarsModel", "ways", "I", false)
  | 16 => ("LeanedBarsModel", "many", "[I", true)
  | 17 => ("LeanedBarsModel", "spots", "[I", true)
  | _ => ("LeanedBarsModel", "row", "[I", true)
def tyX7 : Nat → FieldType := fun k => match k with
  | 0 => .long
  | 1 => .array .int
  | 2 => .int
  | 3 => .array .int
  | 4 => .array .int
  | 5 => .array .int
  | 6 => .array .int
  | 7 => .array .boolean
  | 8 => .int
  | 9 => .int
  | 10 => .int
  | 11 => .int
  | 12 => .array .int
  | 13 => .array .int
  | 14 => .array .int
  | 15 => .int
  | 16 => .array .int
  | 17 => .array .int
  | _ => .array .int
abbrev wsX70 : List Cond := u_ws RX7 TX7 19
theorem nmX7 : ∀ a, a < 19 → ∀ b, b < 19 → a ≠ b → (TX7 a).2.1 ≠ (TX7 b).2.1 := by decide +kernel
theorem tyX7_ok : ∀ k, k < 19 → parseFieldDescriptor (TX7 k).2.2.1 = some (tyX7 k) := by decide +kernel
abbrev cX7_init : ByteArray := prog_9_method_1_code
def yX7_init : MethodName := ⟨RX7, "<init>", "()V"⟩
abbrev cX7_in : ByteArray := prog_9_method_3_code
def yX7_in : MethodName := ⟨RX7, "in", "(III)Z"⟩
abbrev cX7_isBar : ByteArray := prog_9_method_4_code
def yX7_isBar : MethodName := ⟨RX7, "isBar", "(I)Z"⟩
abbrev cX7_isPerson : ByteArray := prog_9_method_5_code
def yX7_isPerson : MethodName := ⟨RX7, "isPerson", "(I)Z"⟩
abbrev cX7_type : ByteArray := prog_9_method_6_code
def yX7_type : MethodName := ⟨RX7, "type", "(JI)I"⟩
abbrev cX7_clear : ByteArray := prog_9_method_7_code
def yX7_clear : MethodName := ⟨RX7, "clear", "()I"⟩
abbrev cX7_byteAt : ByteArray := prog_9_method_8_code
def yX7_byteAt : MethodName := ⟨RX7, "byteAt", "(I)I"⟩
abbrev cX7_sortOf : ByteArray := prog_9_method_9_code
def yX7_sortOf : MethodName := ⟨RX7, "sortOf", "(I)I"⟩
abbrev cX7_token : ByteArray := prog_9_method_10_code
def yX7_token : MethodName := ⟨RX7, "token", "()V"⟩
abbrev cX7_verb : ByteArray := prog_9_method_11_code
def yX7_verb : MethodName := ⟨RX7, "verb", "()I"⟩
abbrev cX7_figure : ByteArray := prog_9_method_12_code
def yX7_figure : MethodName := ⟨RX7, "figure", "(II)I"⟩
abbrev cX7_readsBar : ByteArray := prog_9_method_13_code
def yX7_readsBar : MethodName := ⟨RX7, "readsBar", "()Z"⟩
abbrev cX7_readsPerson : ByteArray := prog_9_method_14_code
def yX7_readsPerson : MethodName := ⟨RX7, "readsPerson", "()Z"⟩
abbrev cX7_readsRain : ByteArray := prog_9_method_15_code
def yX7_readsRain : MethodName := ⟨RX7, "readsRain", "()Z"⟩
abbrev cX7_readsPaint : ByteArray := prog_9_method_16_code
def yX7_readsPaint : MethodName := ⟨RX7, "readsPaint", "()Z"⟩
abbrev cX7_readsItem : ByteArray := prog_9_method_17_code
def yX7_readsItem : MethodName := ⟨RX7, "readsItem", "(I)Z"⟩
abbrev cX7_reads : ByteArray := prog_9_method_18_code
def yX7_reads : MethodName := ⟨RX7, "reads", "()Z"⟩
abbrev cX7_tells : ByteArray := prog_9_method_19_code
def yX7_tells : MethodName := ⟨RX7, "tells", "()V"⟩
abbrev cX7_square : ByteArray := prog_9_method_20_code
def yX7_square : MethodName := ⟨RX7, "square", "()I"⟩
abbrev cX7_bar : ByteArray := prog_9_method_21_code
def yX7_bar : MethodName := ⟨RX7, "bar", "(I)I"⟩
abbrev cX7_person : ByteArray := prog_9_method_22_code
def yX7_person : MethodName := ⟨RX7, "person", "(I)I"⟩
abbrev cX7_rain : ByteArray := prog_9_method_23_code
def yX7_rain : MethodName := ⟨RX7, "rain", "(I)I"⟩
abbrev cX7_paintOf : ByteArray := prog_9_method_24_code
def yX7_paintOf : MethodName := ⟨RX7, "paintOf", "(II)I"⟩
abbrev cX7_paint : ByteArray := prog_9_method_25_code
def yX7_paint : MethodName := ⟨RX7, "paint", "(II)I"⟩
abbrev cX7_holds : ByteArray := prog_9_method_26_code
def yX7_holds : MethodName := ⟨RX7, "holds", "(IIII)I"⟩
abbrev cX7_undo : ByteArray := prog_9_method_27_code
def yX7_undo : MethodName := ⟨RX7, "undo", "()I"⟩
abbrev cX7_held : ByteArray := prog_9_method_28_code
def yX7_held : MethodName := ⟨RX7, "held", "(II)I"⟩
abbrev cX7_plain : ByteArray := prog_9_method_29_code
def yX7_plain : MethodName := ⟨RX7, "plain", "(II)I"⟩
abbrev cX7_rustOf : ByteArray := prog_9_method_30_code
def yX7_rustOf : MethodName := ⟨RX7, "rustOf", "(II)I"⟩
abbrev cX7_rust : ByteArray := prog_9_method_31_code
def yX7_rust : MethodName := ⟨RX7, "rust", "(II)I"⟩
abbrev cX7_saw : ByteArray := prog_9_method_32_code
def yX7_saw : MethodName := ⟨RX7, "saw", "(II)I"⟩
abbrev cX7_hide : ByteArray := prog_9_method_33_code
def yX7_hide : MethodName := ⟨RX7, "hide", "(I)I"⟩
abbrev cX7_seen : ByteArray := prog_9_method_34_code
def yX7_seen : MethodName := ⟨RX7, "seen", "(I)I"⟩
abbrev cX7_lays : ByteArray := prog_9_method_35_code
def yX7_lays : MethodName := ⟨RX7, "lays", "()V"⟩
abbrev cX7_figureOf : ByteArray := prog_9_method_36_code
def yX7_figureOf : MethodName := ⟨RX7, "figureOf", "(II)I"⟩
abbrev cX7_isWay : ByteArray := prog_9_method_37_code
def yX7_isWay : MethodName := ⟨RX7, "isWay", "(I)Z"⟩
abbrev cX7_barOf : ByteArray := prog_9_method_38_code
def yX7_barOf : MethodName := ⟨RX7, "barOf", "(I)I"⟩
abbrev cX7_fits : ByteArray := prog_9_method_39_code
def yX7_fits : MethodName := ⟨RX7, "fits", "()I"⟩
abbrev cX7_sure : ByteArray := prog_9_method_40_code
def yX7_sure : MethodName := ⟨RX7, "sure", "(I)I"⟩
abbrev cX7_odds : ByteArray := prog_9_method_41_code
def yX7_odds : MethodName := ⟨RX7, "odds", "(III)I"⟩
abbrev cX7_claims : ByteArray := prog_9_method_42_code
def yX7_claims : MethodName := ⟨RX7, "claims", "(II)I"⟩
abbrev cX7_isClaim : ByteArray := prog_9_method_43_code
def yX7_isClaim : MethodName := ⟨RX7, "isClaim", "(III)Z"⟩
abbrev cX7_claim : ByteArray := prog_9_method_44_code
def yX7_claim : MethodName := ⟨RX7, "claim", "(III)I"⟩
abbrev cX7_saves : ByteArray := prog_9_method_45_code
def yX7_saves : MethodName := ⟨RX7, "saves", "(III)I"⟩
abbrev cX7_scrape : ByteArray := prog_9_method_46_code
def yX7_scrape : MethodName := ⟨RX7, "scrape", "(I)I"⟩
abbrev cX7_exchanges : ByteArray := prog_9_method_47_code
def yX7_exchanges : MethodName := ⟨RX7, "exchanges", "(I)I"⟩
abbrev cX7_swaps : ByteArray := prog_9_method_48_code
def yX7_swaps : MethodName := ⟨RX7, "swaps", "()I"⟩
abbrev cX7_comesOut : ByteArray := prog_9_method_49_code
def yX7_comesOut : MethodName := ⟨RX7, "comesOut", "(I)Z"⟩
abbrev cX7_rate : ByteArray := prog_9_method_50_code
def yX7_rate : MethodName := ⟨RX7, "rate", "(II)I"⟩
abbrev cX7_keep : ByteArray := prog_9_method_51_code
def yX7_keep : MethodName := ⟨RX7, "keep", "(I)I"⟩
abbrev cX7_back : ByteArray := prog_9_method_52_code
def yX7_back : MethodName := ⟨RX7, "back", "(I)I"⟩
abbrev cX7_count : ByteArray := prog_9_method_53_code
def yX7_count : MethodName := ⟨RX7, "count", "(I)I"⟩
abbrev cX7_trace : ByteArray := prog_9_method_54_code
def yX7_trace : MethodName := ⟨RX7, "trace", "()J"⟩
def RJx145de : String := "java/io/Serializable"
def TJx145de : u_T := fun k => match k with
  | _ => ("", "", "", false)
def tyJx145de : Nat → FieldType := fun k => match k with
  | _ => .int
abbrev wsJx145de0 : List Cond := u_ws RJx145de TJx145de 0
theorem nmJx145de : ∀ a, a < 0 → ∀ b, b < 0 → a ≠ b → (TJx145de a).2.1 ≠ (TJx145de b).2.1 := by decide +kernel
theorem tyJx145de_ok : ∀ k, k < 0 → parseFieldDescriptor (TJx145de k).2.2.1 = some (tyJx145de k) := by decide +kernel
def RJx9f9b0 : String := "java/lang/CharSequence"
def TJx9f9b0 : u_T := fun k => match k with
  | _ => ("", "", "", false)
def tyJx9f9b0 : Nat → FieldType := fun k => match k with
  | _ => .int
abbrev wsJx9f9b00 : List Cond := u_ws RJx9f9b0 TJx9f9b0 0
theorem nmJx9f9b0 : ∀ a, a < 0 → ∀ b, b < 0 → a ≠ b → (TJx9f9b0 a).2.1 ≠ (TJx9f9b0 b).2.1 := by decide +kernel
theorem tyJx9f9b0_ok : ∀ k, k < 0 → parseFieldDescriptor (TJx9f9b0 k).2.2.1 = some (tyJx9f9b0 k) := by decide +kernel
def RJxb160c : String := "java/lang/Comparable"
def TJxb160c : u_T := fun k => match k with
  | _ => ("", "", "", false)
def tyJxb160c : Nat → FieldType := fun k => match k with
  | _ => .int
abbrev wsJxb160c0 : List Cond := u_ws RJxb160c TJxb160c 0
theorem nmJxb160c : ∀ a, a < 0 → ∀ b, b < 0 → a ≠ b → (TJxb160c a).2.1 ≠ (TJxb160c b).2.1 := by decide +kernel
theorem tyJxb160c_ok : ∀ k, k < 0 → parseFieldDescriptor (TJxb160c k).2.2.1 = some (tyJxb160c k) := by decide +kernel
def RJ9 : String := "java/lang/Math"
def TJ9 : u_T := fun k => match k with
  | _ => ("", "", "", false)
def tyJ9 : Nat → FieldType := fun k => match k with
  | _ => .int
abbrev wsJ90 : List Cond := u_ws RJ9 TJ9 0
theorem nmJ9 : ∀ a, a < 0 → ∀ b, b < 0 → a ≠ b → (TJ9 a).2.1 ≠ (TJ9 b).2.1 := by decide +kernel
theorem tyJ9_ok : ∀ k, k < 0 → parseFieldDescriptor (TJ9 k).2.2.1 = some (tyJ9 k) := by decide +kernel
abbrev cJ9_max_7cf53 : ByteArray := prog_10_method_65_code
def yJ9_max_7cf53 : MethodName := ⟨RJ9, "max", "(II)I"⟩
abbrev cJ9_min_7cf53 : ByteArray := prog_10_method_69_code
def yJ9_min_7cf53 : MethodName := ⟨RJ9, "min", "(II)I"⟩
def RJ0 : String := "java/lang/String"
def TJ0 : u_T := fun k => match k with
  | _ => ("", "", "", false)
def tyJ0 : Nat → FieldType := fun k => match k with
  | _ => .int
abbrev wsJ00 : List Cond := u_ws RJ0 TJ0 0
theorem nmJ0 : ∀ a, a < 0 → ∀ b, b < 0 → a ≠ b → (TJ0 a).2.1 ≠ (TJ0 b).2.1 := by decide +kernel
theorem tyJ0_ok : ∀ k, k < 0 → parseFieldDescriptor (TJ0 k).2.2.1 = some (tyJ0 k) := by decide +kernel
abbrev cJ0_length_8abf5 : ByteArray := prog_11_method_54_code
def yJ0_length_8abf5 : MethodName := ⟨RJ0, "length", "()I"⟩
abbrev cJ0_charAt_5068e : ByteArray := prog_11_method_56_code
def yJ0_charAt_5068e : MethodName := ⟨RJ0, "charAt", "(I)C"⟩
abbrev cJ0_coder_7d493 : ByteArray := prog_11_method_152_code
def yJ0_coder_7d493 : MethodName := ⟨RJ0, "coder", "()B"⟩
abbrev cJ0_isLatin1_aae02 : ByteArray := prog_11_method_154_code
def yJ0_isLatin1_aae02 : MethodName := ⟨RJ0, "isLatin1", "()Z"⟩
abbrev cJ0_checkIndex_df160 : ByteArray := prog_11_method_155_code
def yJ0_checkIndex_df160 : MethodName := ⟨RJ0, "checkIndex", "(II)V"⟩
def RJ1 : String := "java/lang/StringLatin1"
def TJ1 : u_T := fun k => match k with
  | _ => ("", "", "", false)
def tyJ1 : Nat → FieldType := fun k => match k with
  | _ => .int
abbrev wsJ10 : List Cond := u_ws RJ1 TJ1 0
theorem nmJ1 : ∀ a, a < 0 → ∀ b, b < 0 → a ≠ b → (TJ1 a).2.1 ≠ (TJ1 b).2.1 := by decide +kernel
theorem tyJ1_ok : ∀ k, k < 0 → parseFieldDescriptor (TJ1 k).2.2.1 = some (tyJ1 k) := by decide +kernel
abbrev cJ1_charAt_3b067 : ByteArray := prog_12_method_2_code
def yJ1_charAt_3b067 : MethodName := ⟨RJ1, "charAt", "([BI)C"⟩
def RJ2 : String := "java/lang/StringUTF16"
def TJ2 : u_T := fun k => match k with
  | _ => ("", "", "", false)
def tyJ2 : Nat → FieldType := fun k => match k with
  | _ => .int
abbrev wsJ20 : List Cond := u_ws RJ2 TJ2 0
theorem nmJ2 : ∀ a, a < 0 → ∀ b, b < 0 → a ≠ b → (TJ2 a).2.1 ≠ (TJ2 b).2.1 := by decide +kernel
theorem tyJ2_ok : ∀ k, k < 0 → parseFieldDescriptor (TJ2 k).2.2.1 = some (tyJ2 k) := by decide +kernel
abbrev cJ2_getChar_3b067 : ByteArray := prog_13_method_5_code
def yJ2_getChar_3b067 : MethodName := ⟨RJ2, "getChar", "([BI)C"⟩
abbrev cJ2_length_9d52b : ByteArray := prog_13_method_6_code
def yJ2_length_9d52b : MethodName := ⟨RJ2, "length", "([B)I"⟩
abbrev cJ2_charAt_3b067 : ByteArray := prog_13_method_83_code
def yJ2_charAt_3b067 : MethodName := ⟨RJ2, "charAt", "([BI)C"⟩
abbrev cJ2_checkIndex_2214a : ByteArray := prog_13_method_91_code
def yJ2_checkIndex_2214a : MethodName := ⟨RJ2, "checkIndex", "(I[B)V"⟩
def RJ10 : String := "java/lang/System"
def TJ10 : u_T := fun k => match k with
  | _ => ("", "", "", false)
def tyJ10 : Nat → FieldType := fun k => match k with
  | _ => .int
abbrev wsJ100 : List Cond := u_ws RJ10 TJ10 0
theorem nmJ10 : ∀ a, a < 0 → ∀ b, b < 0 → a ≠ b → (TJ10 a).2.1 ≠ (TJ10 b).2.1 := by decide +kernel
theorem tyJ10_ok : ∀ k, k < 0 → parseFieldDescriptor (TJ10 k).2.2.1 = some (tyJ10 k) := by decide +kernel
def RJxfd54e : String := "java/lang/constant/Constable"
def TJxfd54e : u_T := fun k => match k with
  | _ => ("", "", "", false)
def tyJxfd54e : Nat → FieldType := fun k => match k with
  | _ => .int
abbrev wsJxfd54e0 : List Cond := u_ws RJxfd54e TJxfd54e 0
theorem nmJxfd54e : ∀ a, a < 0 → ∀ b, b < 0 → a ≠ b → (TJxfd54e a).2.1 ≠ (TJxfd54e b).2.1 := by decide +kernel
theorem tyJxfd54e_ok : ∀ k, k < 0 → parseFieldDescriptor (TJxfd54e k).2.2.1 = some (tyJxfd54e k) := by decide +kernel
def RJx3cf43 : String := "java/lang/constant/ConstantDesc"
def TJx3cf43 : u_T := fun k => match k with
  | _ => ("", "", "", false)
def tyJx3cf43 : Nat → FieldType := fun k => match k with
  | _ => .int
abbrev wsJx3cf430 : List Cond := u_ws RJx3cf43 TJx3cf43 0
theorem nmJx3cf43 : ∀ a, a < 0 → ∀ b, b < 0 → a ≠ b → (TJx3cf43 a).2.1 ≠ (TJx3cf43 b).2.1 := by decide +kernel
theorem tyJx3cf43_ok : ∀ k, k < 0 → parseFieldDescriptor (TJx3cf43 k).2.2.1 = some (tyJx3cf43 k) := by decide +kernel
def RJ7 : String := "java/util/Arrays"
def TJ7 : u_T := fun k => match k with
  | _ => ("", "", "", false)
def tyJ7 : Nat → FieldType := fun k => match k with
  | _ => .int
abbrev wsJ70 : List Cond := u_ws RJ7 TJ7 0
theorem nmJ7 : ∀ a, a < 0 → ∀ b, b < 0 → a ≠ b → (TJ7 a).2.1 ≠ (TJ7 b).2.1 := by decide +kernel
theorem tyJ7_ok : ∀ k, k < 0 → parseFieldDescriptor (TJ7 k).2.2.1 = some (tyJ7 k) := by decide +kernel
abbrev cJ7_fill_53178 : ByteArray := prog_15_method_103_code
def yJ7_fill_53178 : MethodName := ⟨RJ7, "fill", "([II)V"⟩
def RJ3 : String := "jdk/internal/util/Preconditions"
def TJ3 : u_T := fun k => match k with
  | _ => ("", "", "", false)
def tyJ3 : Nat → FieldType := fun k => match k with
  | _ => .int
abbrev wsJ30 : List Cond := u_ws RJ3 TJ3 0
theorem nmJ3 : ∀ a, a < 0 → ∀ b, b < 0 → a ≠ b → (TJ3 a).2.1 ≠ (TJ3 b).2.1 := by decide +kernel
theorem tyJ3_ok : ∀ k, k < 0 → parseFieldDescriptor (TJ3 k).2.2.1 = some (tyJ3 k) := by decide +kernel
abbrev cJ3_checkIndex_8e157 : ByteArray := prog_16_method_11_code
def yJ3_checkIndex_8e157 : MethodName := ⟨RJ3, "checkIndex", "(IILjava/util/function/BiFunction;)I"⟩
def RL : String := "LeanedBarsLaw"
abbrev cL_law : ByteArray := code
def yL_law : MethodName := ⟨RL, "law", "([I)Z"⟩
def wsL_law_r1 : List Cond := [Cond.classLink RL 7 RX6, Cond.instantiable RX6 9, Cond.initialized RX6, Cond.classLink RL 10 RX7, Cond.instantiable RX7 19, Cond.initialized RX7, Cond.constantLong RL 13 (4294967295), Cond.methodLink RL 9 yX6_init, Cond.instanceMethod yX6_init, Cond.code yX6_init cX6_init 2 none, Cond.methodLink RX6 3 objectInit, Cond.instanceMethod objectInit, Cond.code objectInit ⟨#[0xb1]⟩ 1 none, Cond.classLink RX6 9 RX3, Cond.instantiable RX3 6, Cond.initialized RX3, Cond.fieldLink RX6 12 "LeanedBars" "reader" "LLeanedBars$Reader;", Cond.fieldLink RX6 16 "LeanedBars$Reader" "text" "LLeanedBars$Text;", Cond.fieldLink RX6 20 "LeanedBars" "text" "LLeanedBars$Text;", Cond.classLink RX6 21 RX2, Cond.instantiable RX2 9, Cond.initialized RX2, Cond.fieldLink RX6 24 "LeanedBars" "railings" "LLeanedBars$Railings;", Cond.classLink RX6 28 RX1]
def wsL_law_r2 : List Cond := [Cond.instantiable RX1 6, Cond.initialized RX1, Cond.fieldLink RX6 31 "LeanedBars" "now" "LLeanedBars$Now;", Cond.fieldLink RX6 35 "LeanedBars" "images" "[LLeanedBars$Now;", Cond.arrayClass .boolean, Cond.fieldLink RX6 39 "LeanedBars" "kept" "[Z", Cond.classLink RX6 43 RX5, Cond.instantiable RX5 9, Cond.initialized RX5, Cond.fieldLink RX6 46 "LeanedBars" "ways" "LLeanedBars$Ways;", Cond.classLink RX6 50 RX0, Cond.instantiable RX0 3, Cond.initialized RX0, Cond.fieldLink RX6 53 "LeanedBars" "exchanges" "LLeanedBars$Exchanges;", Cond.fieldLink RX6 57 "LeanedBars" "traced" "J", Cond.instanceMethod yX3_init, Cond.code yX3_init cX3_init 1 none, Cond.methodLink RX3 3 objectInit, Cond.classLink RX3 9 RX4, Cond.instantiable RX4 2, Cond.initialized RX4, Cond.fieldLink RX3 12 "LeanedBars$Reader" "text" "LLeanedBars$Text;", Cond.classLink RX3 18 RX2, Cond.fieldLink RX3 21 "LeanedBars$Reader" "told" "LLeanedBars$Railings;"]
def wsL_law_r3 : List Cond := [Cond.fieldLink RX3 25 "LeanedBars$Reader" "kind" "I", Cond.fieldLink RX3 29 "LeanedBars$Reader" "at" "I", Cond.fieldLink RX3 32 "LeanedBars$Reader" "behind" "I", Cond.fieldLink RX3 35 "LeanedBars$Reader" "number" "I", Cond.instanceMethod yX4_init, Cond.code yX4_init cX4_init 1 none, Cond.methodLink RX4 3 objectInit, Cond.arrayClass .byte, Cond.fieldLink RX4 9 "LeanedBars$Text" "bytes" "[B", Cond.fieldLink RX4 15 "LeanedBars$Text" "length" "I", Cond.methodLink RX3 20 yX2_init, Cond.instanceMethod yX2_init, Cond.code yX2_init cX2_init 1 none, Cond.methodLink RX2 3 objectInit, Cond.fieldLink RX2 9 "LeanedBars$Railings" "bars" "I", Cond.fieldLink RX2 15 "LeanedBars$Railings" "people" "I", Cond.fieldLink RX2 18 "LeanedBars$Railings" "paints" "I", Cond.arrayClass .int, Cond.fieldLink RX2 21 "LeanedBars$Railings" "metals" "[I", Cond.fieldLink RX2 25 "LeanedBars$Railings" "grips" "[I", Cond.fieldLink RX2 28 "LeanedBars$Railings" "rains" "[I", Cond.fieldLink RX2 31 "LeanedBars$Railings" "paintedBars" "[I", Cond.fieldLink RX2 34 "LeanedBars$Railings" "paintedYears" "[I", Cond.fieldLink RX2 37 "LeanedBars$Railings" "lastings" "[I"]
def wsL_law_r4 : List Cond := [Cond.methodLink RX2 40 yJ7_fill_53178, Cond.static yJ7_fill_53178, Cond.initialized RJ7, Cond.code yJ7_fill_53178 cJ7_fill_53178 4 none, Cond.methodLink RX6 23 yX2_init, Cond.methodLink RX6 30 yX1_init, Cond.instanceMethod yX1_init, Cond.code yX1_init cX1_init 1 none, Cond.methodLink RX1 3 objectInit, Cond.fieldLink RX1 9 "LeanedBars$Now" "size" "I", Cond.fieldLink RX1 15 "LeanedBars$Now" "people" "[I", Cond.fieldLink RX1 19 "LeanedBars$Now" "bars" "[I", Cond.fieldLink RX1 22 "LeanedBars$Now" "firsts" "[I", Cond.fieldLink RX1 25 "LeanedBars$Now" "lengths" "[I", Cond.fieldLink RX1 28 "LeanedBars$Now" "sights" "[I", Cond.methodLink RX1 31 yJ7_fill_53178, Cond.instanceMethod yX5_init, Cond.code yX5_init cX5_init 1 none, Cond.methodLink RX5 3 objectInit, Cond.fieldLink RX5 9 "LeanedBars$Ways" "bars" "I", Cond.fieldLink RX5 15 "LeanedBars$Ways" "people" "I", Cond.fieldLink RX5 18 "LeanedBars$Ways" "isSeen" "[Z", Cond.fieldLink RX5 22 "LeanedBars$Ways" "needs" "[I", Cond.fieldLink RX5 26 "LeanedBars$Ways" "grips" "[I"]
def wsL_law_r5 : List Cond := [Cond.fieldLink RX5 29 "LeanedBars$Ways" "dryWinters" "[I", Cond.fieldLink RX5 32 "LeanedBars$Ways" "fitting" "[I", Cond.fieldLink RX5 35 "LeanedBars$Ways" "gathered" "[I", Cond.fieldLink RX5 38 "LeanedBars$Ways" "tally" "[I", Cond.instanceMethod yX0_init, Cond.code yX0_init cX0_init 1 none, Cond.methodLink RX0 3 objectInit, Cond.fieldLink RX0 9 "LeanedBars$Exchanges" "size" "I", Cond.fieldLink RX0 15 "LeanedBars$Exchanges" "rusts" "[I", Cond.fieldLink RX0 19 "LeanedBars$Exchanges" "wanted" "[I", Cond.methodLink RL 12 yX7_init, Cond.instanceMethod yX7_init, Cond.code yX7_init cX7_init 1 none, Cond.methodLink RX7 1 objectInit, Cond.fieldLink RX7 7 "LeanedBarsModel" "text" "[I", Cond.fieldLink RX7 13 "LeanedBarsModel" "told" "[I", Cond.fieldLink RX7 16 "LeanedBarsModel" "draft" "[I", Cond.fieldLink RX7 19 "LeanedBarsModel" "s" "[I", Cond.fieldLink RX7 22 "LeanedBarsModel" "images" "[I", Cond.fieldLink RX7 25 "LeanedBarsModel" "kept" "[Z", Cond.fieldLink RX7 29 "LeanedBarsModel" "base" "[I", Cond.fieldLink RX7 32 "LeanedBarsModel" "dry" "[I", Cond.fieldLink RX7 35 "LeanedBarsModel" "here" "[I", Cond.fieldLink RX7 38 "LeanedBarsModel" "many" "[I"]
def wsL_law_r6 : List Cond := [Cond.fieldLink RX7 41 "LeanedBarsModel" "spots" "[I", Cond.fieldLink RX7 44 "LeanedBarsModel" "row" "[I", Cond.methodLink RX7 47 yX7_reads, Cond.instanceMethod yX7_reads, Cond.selects RX7 yX7_reads yX7_reads, Cond.code yX7_reads cX7_reads 2 (some .boolean), Cond.fieldLink RX7 64 "LeanedBarsModel" "at" "I", Cond.fieldLink RX7 77 "LeanedBarsModel" "sort" "I", Cond.methodLink RX7 54 yX7_in, Cond.static yX7_in, Cond.code yX7_in cX7_in 3 (some .boolean), Cond.methodLink RX7 93 yX7_token, Cond.instanceMethod yX7_token, Cond.selects RX7 yX7_token yX7_token, Cond.code yX7_token cX7_token 1 none, Cond.fieldLink RX7 71 "LeanedBarsModel" "start" "I", Cond.fieldLink RX7 80 "LeanedBarsModel" "size" "I", Cond.methodLink RX7 67 yX7_byteAt, Cond.instanceMethod yX7_byteAt, Cond.selects RX7 yX7_byteAt yX7_byteAt, Cond.code yX7_byteAt cX7_byteAt 2 (some .int), Cond.fieldLink RX7 58 "LeanedBarsModel" "typed" "I", Cond.methodLink RX7 74 yX7_sortOf, Cond.static yX7_sortOf]
def wsL_law_r7 : List Cond := [Cond.code yX7_sortOf cX7_sortOf 1 (some .int), Cond.methodLink RX7 112 yX7_verb, Cond.instanceMethod yX7_verb, Cond.selects RX7 yX7_verb yX7_verb, Cond.code yX7_verb cX7_verb 4 (some .int), Cond.constantLong RX7 83 (256), Cond.constantLong RX7 85 (6447474), Cond.constantLong RX7 87 (123581014175598), Cond.constantLong RX7 89 (1918986606), Cond.constantLong RX7 91 (482670636660), Cond.methodLink RX7 116 yX7_readsItem, Cond.instanceMethod yX7_readsItem, Cond.selects RX7 yX7_readsItem yX7_readsItem, Cond.code yX7_readsItem cX7_readsItem 2 (some .boolean), Cond.methodLink RX7 100 yX7_readsBar, Cond.instanceMethod yX7_readsBar, Cond.selects RX7 yX7_readsBar yX7_readsBar, Cond.code yX7_readsBar cX7_readsBar 2 (some .boolean), Cond.methodLink RX7 96 yX7_figure, Cond.instanceMethod yX7_figure, Cond.selects RX7 yX7_figure yX7_figure, Cond.code yX7_figure cX7_figure 4 (some .int), Cond.methodLink RX7 103 yX7_readsPerson, Cond.instanceMethod yX7_readsPerson]
def wsL_law_r8 : List Cond := [Cond.selects RX7 yX7_readsPerson yX7_readsPerson, Cond.code yX7_readsPerson cX7_readsPerson 2 (some .boolean), Cond.methodLink RX7 106 yX7_readsRain, Cond.instanceMethod yX7_readsRain, Cond.selects RX7 yX7_readsRain yX7_readsRain, Cond.code yX7_readsRain cX7_readsRain 3 (some .boolean), Cond.methodLink RX7 109 yX7_readsPaint, Cond.instanceMethod yX7_readsPaint, Cond.selects RX7 yX7_readsPaint yX7_readsPaint, Cond.code yX7_readsPaint cX7_readsPaint 5 (some .boolean), Cond.methodLink RX7 51 yX7_tells, Cond.instanceMethod yX7_tells, Cond.selects RX7 yX7_tells yX7_tells, Cond.code yX7_tells cX7_tells 2 none, Cond.methodLink RL 15 yX6_type, Cond.instanceMethod yX6_type, Cond.selects RX6 yX6_type yX6_type, Cond.code yX6_type cX6_type 4 (some .int), Cond.fieldLink RX6 65 "LeanedBars$Text" "length" "I", Cond.methodLink RX6 61 yX6_within, Cond.static yX6_within, Cond.code yX6_within cX6_within 3 (some .boolean), Cond.methodLink RX6 71 yX4_append, Cond.instanceMethod yX4_append]
def wsL_law_r9 : List Cond := [Cond.selects RX4 yX4_append yX4_append, Cond.code yX4_append cX4_append 5 none, Cond.methodLink RL 19 yX7_type, Cond.instanceMethod yX7_type, Cond.selects RX7 yX7_type yX7_type, Cond.code yX7_type cX7_type 5 (some .int), Cond.constantLong RX7 62 (255), Cond.methodLink RL 20 yX6_clear, Cond.instanceMethod yX6_clear, Cond.selects RX6 yX6_clear yX6_clear, Cond.code yX6_clear cX6_clear 2 (some .int), Cond.methodLink RL 24 yX7_clear, Cond.instanceMethod yX7_clear, Cond.selects RX7 yX7_clear yX7_clear, Cond.code yX7_clear cX7_clear 2 (some .int), Cond.methodLink RL 25 yX6_square, Cond.instanceMethod yX6_square, Cond.selects RX6 yX6_square yX6_square, Cond.code yX6_square cX6_square 3 (some .int), Cond.fieldLink RX6 79 "LeanedBars$Reader" "told" "LLeanedBars$Railings;", Cond.methodLink RX6 75 yX3_read, Cond.instanceMethod yX3_read, Cond.selects RX3 yX3_read yX3_read, Cond.code yX3_read cX3_read 3 (some .int)]
def wsL_law_r10 : List Cond := [Cond.methodLink RX3 38 yX2_empty, Cond.instanceMethod yX2_empty, Cond.selects RX2 yX2_empty yX2_empty, Cond.code yX2_empty cX2_empty 1 none, Cond.methodLink RX3 41 yX3_next, Cond.instanceMethod yX3_next, Cond.selects RX3 yX3_next yX3_next, Cond.code yX3_next cX3_next 1 none, Cond.fieldLink RX3 111 "LeanedBars$Text" "length" "I", Cond.methodLink RX3 107 yX4_behindRow, Cond.instanceMethod yX4_behindRow, Cond.selects RX4 yX4_behindRow yX4_behindRow, Cond.code yX4_behindRow cX4_behindRow 5 (some .int), Cond.methodLink RX3 114 yX4_numberIn, Cond.instanceMethod yX4_numberIn, Cond.selects RX4 yX4_numberIn yX4_numberIn, Cond.code yX4_numberIn cX4_numberIn 6 (some .int), Cond.methodLink RX3 117 yX4_isSign, Cond.instanceMethod yX4_isSign, Cond.selects RX4 yX4_isSign yX4_isSign, Cond.code yX4_isSign cX4_isSign 3 (some .boolean), Cond.methodLink RX3 44 yX3_readItem, Cond.instanceMethod yX3_readItem, Cond.selects RX3 yX3_readItem yX3_readItem]
def wsL_law_r11 : List Cond := [Cond.code yX3_readItem cX3_readItem 1 (some .boolean), Cond.methodLink RX3 50 yX4_isWord, Cond.instanceMethod yX4_isWord, Cond.selects RX4 yX4_isWord yX4_isWord, Cond.code yX4_isWord cX4_isWord 5 (some .boolean), Cond.methodLink RX4 23 yJ0_length_8abf5, Cond.instanceMethod yJ0_length_8abf5, Cond.selects RJ0 yJ0_length_8abf5 yJ0_length_8abf5, Cond.initialized RJ0, Cond.code yJ0_length_8abf5 cJ0_length_8abf5 1 (some .int), Cond.fieldLink RJ0 9 "java/lang/String" "value" "[B", Cond.methodLink RJ0 335 yJ0_coder_7d493, Cond.instanceMethod yJ0_coder_7d493, Cond.selects RJ0 yJ0_coder_7d493 yJ0_coder_7d493, Cond.code yJ0_coder_7d493 cJ0_coder_7d493 1 (some .byte), Cond.fieldLink RJ0 38 "java/lang/String" "COMPACT_STRINGS" "Z", Cond.fieldLink RJ0 15 "java/lang/String" "coder" "B", Cond.methodLink RX4 28 yJ0_charAt_5068e, Cond.instanceMethod yJ0_charAt_5068e, Cond.selects RJ0 yJ0_charAt_5068e yJ0_charAt_5068e, Cond.code yJ0_charAt_5068e cJ0_charAt_5068e 2 (some .char), Cond.methodLink RJ0 492 yJ0_isLatin1_aae02, Cond.instanceMethod yJ0_isLatin1_aae02, Cond.selects RJ0 yJ0_isLatin1_aae02 yJ0_isLatin1_aae02]
def wsL_law_r12 : List Cond := [Cond.code yJ0_isLatin1_aae02 cJ0_isLatin1_aae02 1 (some .boolean), Cond.methodLink RJ0 495 yJ1_charAt_3b067, Cond.static yJ1_charAt_3b067, Cond.initialized RJ1, Cond.code yJ1_charAt_3b067 cJ1_charAt_3b067 2 (some .char), Cond.methodLink RJ1 9 yJ0_checkIndex_df160, Cond.static yJ0_checkIndex_df160, Cond.code yJ0_checkIndex_df160 cJ0_checkIndex_df160 2 none, Cond.fieldLink RJ0 1053 "jdk/internal/util/Preconditions" "SIOOBE_FORMATTER" "Ljava/util/function/BiFunction;", Cond.methodLink RJ0 1059 yJ3_checkIndex_8e157, Cond.static yJ3_checkIndex_8e157, Cond.initialized RJ3, Cond.code yJ3_checkIndex_8e157 cJ3_checkIndex_8e157 3 (some .int), Cond.methodLink RJ0 498 yJ2_charAt_3b067, Cond.static yJ2_charAt_3b067, Cond.initialized RJ2, Cond.code yJ2_charAt_3b067 cJ2_charAt_3b067 2 (some .char), Cond.methodLink RJ2 67 yJ2_checkIndex_2214a, Cond.static yJ2_checkIndex_2214a, Cond.code yJ2_checkIndex_2214a cJ2_checkIndex_2214a 2 none, Cond.methodLink RJ2 48 yJ2_length_9d52b, Cond.static yJ2_length_9d52b, Cond.code yJ2_length_9d52b cJ2_length_9d52b 1 (some .int), Cond.methodLink RJ2 414 yJ0_checkIndex_df160]
def wsL_law_r13 : List Cond := [Cond.methodLink RJ2 71 yJ2_getChar_3b067, Cond.static yJ2_getChar_3b067, Cond.code yJ2_getChar_3b067 cJ2_getChar_3b067 2 (some .char), Cond.fieldLink RJ2 44 "java/lang/StringUTF16" "$assertionsDisabled" "Z", Cond.fieldLink RJ2 59 "java/lang/StringUTF16" "HI_BYTE_SHIFT" "I", Cond.fieldLink RJ2 63 "java/lang/StringUTF16" "LO_BYTE_SHIFT" "I", Cond.methodLink RX4 32 yX4_isSign, Cond.methodLink RX3 54 yX3_readBar, Cond.instanceMethod yX3_readBar, Cond.selects RX3 yX3_readBar yX3_readBar, Cond.code yX3_readBar cX3_readBar 2 (some .boolean), Cond.fieldLink RX3 72 "LeanedBars$Railings" "bars" "I", Cond.methodLink RX3 75 yX3_take, Cond.instanceMethod yX3_take, Cond.selects RX3 yX3_take yX3_take, Cond.code yX3_take cX3_take 4 (some .int), Cond.methodLink RX3 79 yX3_takeStop, Cond.instanceMethod yX3_takeStop, Cond.selects RX3 yX3_takeStop yX3_takeStop, Cond.code yX3_takeStop cX3_takeStop 1 (some .boolean), Cond.methodLink RX3 82 yX2_addBar, Cond.instanceMethod yX2_addBar, Cond.selects RX2 yX2_addBar yX2_addBar, Cond.code yX2_addBar cX2_addBar 2 none]
def wsL_law_r14 : List Cond := [Cond.methodLink RX3 59 yX3_readPerson, Cond.instanceMethod yX3_readPerson, Cond.selects RX3 yX3_readPerson yX3_readPerson, Cond.code yX3_readPerson cX3_readPerson 2 (some .boolean), Cond.fieldLink RX3 86 "LeanedBars$Railings" "people" "I", Cond.methodLink RX3 89 yX2_addPerson, Cond.instanceMethod yX2_addPerson, Cond.selects RX2 yX2_addPerson yX2_addPerson, Cond.code yX2_addPerson cX2_addPerson 2 none, Cond.methodLink RX3 64 yX3_readRain, Cond.instanceMethod yX3_readRain, Cond.selects RX3 yX3_readRain yX3_readRain, Cond.code yX3_readRain cX3_readRain 3 (some .boolean), Cond.fieldLink RX3 92 "LeanedBars$Railings" "rains" "[I", Cond.methodLink RX3 69 yX3_readPaint, Cond.instanceMethod yX3_readPaint, Cond.selects RX3 yX3_readPaint yX3_readPaint, Cond.code yX3_readPaint cX3_readPaint 4 (some .boolean), Cond.fieldLink RX3 96 "LeanedBars$Railings" "paints" "I", Cond.methodLink RX3 99 yX2_addPaint, Cond.instanceMethod yX2_addPaint, Cond.selects RX2 yX2_addPaint yX2_addPaint, Cond.code yX2_addPaint cX2_addPaint 4 none, Cond.methodLink RX6 82 yX2_become]
def wsL_law_r15 : List Cond := [Cond.instanceMethod yX2_become, Cond.selects RX2 yX2_become yX2_become, Cond.code yX2_become cX2_become 2 none, Cond.methodLink RX2 46 arraycopyName, Cond.native arraycopyName, Cond.static arraycopyName, Cond.initialized "java/lang/System", Cond.methodLink RX6 86 yX1_forget, Cond.instanceMethod yX1_forget, Cond.selects RX1 yX1_forget yX1_forget, Cond.code yX1_forget cX1_forget 1 none, Cond.methodLink RL 28 yX7_square, Cond.instanceMethod yX7_square, Cond.selects RX7 yX7_square yX7_square, Cond.code yX7_square cX7_square 1 (some .int), Cond.methodLink RL 29 yX6_bar, Cond.instanceMethod yX6_bar, Cond.selects RX6 yX6_bar yX6_bar, Cond.code yX6_bar cX6_bar 2 (some .int), Cond.fieldLink RX6 93 "LeanedBars$Railings" "metals" "[I", Cond.methodLink RX6 89 yX2_hasBar, Cond.instanceMethod yX2_hasBar, Cond.selects RX2 yX2_hasBar yX2_hasBar, Cond.code yX2_hasBar cX2_hasBar 2 (some .boolean)]
def wsL_law_r16 : List Cond := [Cond.methodLink RL 33 yX7_bar, Cond.instanceMethod yX7_bar, Cond.selects RX7 yX7_bar yX7_bar, Cond.code yX7_bar cX7_bar 2 (some .int), Cond.methodLink RX7 120 yX7_isBar, Cond.instanceMethod yX7_isBar, Cond.selects RX7 yX7_isBar yX7_isBar, Cond.code yX7_isBar cX7_isBar 2 (some .boolean), Cond.methodLink RL 34 yX6_person, Cond.instanceMethod yX6_person, Cond.selects RX6 yX6_person yX6_person, Cond.code yX6_person cX6_person 2 (some .int), Cond.fieldLink RX6 100 "LeanedBars$Railings" "grips" "[I", Cond.methodLink RX6 97 yX2_hasPerson, Cond.instanceMethod yX2_hasPerson, Cond.selects RX2 yX2_hasPerson yX2_hasPerson, Cond.code yX2_hasPerson cX2_hasPerson 2 (some .boolean), Cond.methodLink RL 37 yX7_person, Cond.instanceMethod yX7_person, Cond.selects RX7 yX7_person yX7_person, Cond.code yX7_person cX7_person 2 (some .int), Cond.methodLink RX7 123 yX7_isPerson, Cond.instanceMethod yX7_isPerson, Cond.selects RX7 yX7_isPerson yX7_isPerson]
def wsL_law_r17 : List Cond := [Cond.code yX7_isPerson cX7_isPerson 2 (some .boolean), Cond.methodLink RL 38 yX6_rain, Cond.instanceMethod yX6_rain, Cond.selects RX6 yX6_rain yX6_rain, Cond.code yX6_rain cX6_rain 2 (some .int), Cond.fieldLink RX6 106 "LeanedBars$Railings" "rains" "[I", Cond.methodLink RX6 103 yX6_isYear, Cond.static yX6_isYear, Cond.code yX6_isYear cX6_isYear 1 (some .boolean), Cond.methodLink RL 41 yX7_rain, Cond.instanceMethod yX7_rain, Cond.selects RX7 yX7_rain yX7_rain, Cond.code yX7_rain cX7_rain 2 (some .int), Cond.methodLink RL 42 yX6_paint, Cond.instanceMethod yX6_paint, Cond.selects RX6 yX6_paint yX6_paint, Cond.code yX6_paint cX6_paint 3 (some .int), Cond.methodLink RX6 109 yX2_isWet, Cond.instanceMethod yX2_isWet, Cond.selects RX2 yX2_isWet yX2_isWet, Cond.code yX2_isWet cX2_isWet 4 (some .boolean), Cond.methodLink RX6 113 yX2_isCovered, Cond.instanceMethod yX2_isCovered, Cond.selects RX2 yX2_isCovered yX2_isCovered]
def wsL_law_r18 : List Cond := [Cond.code yX2_isCovered cX2_isCovered 5 (some .boolean), Cond.methodLink RL 46 yX7_paint, Cond.instanceMethod yX7_paint, Cond.selects RX7 yX7_paint yX7_paint, Cond.code yX7_paint cX7_paint 3 (some .int), Cond.methodLink RX7 126 yX7_paintOf, Cond.instanceMethod yX7_paintOf, Cond.selects RX7 yX7_paintOf yX7_paintOf, Cond.code yX7_paintOf cX7_paintOf 6 (some .int), Cond.methodLink RL 47 yX6_holds, Cond.instanceMethod yX6_holds, Cond.selects RX6 yX6_holds yX6_holds, Cond.code yX6_holds cX6_holds 5 (some .int), Cond.fieldLink RX6 116 "LeanedBars$Now" "size" "I", Cond.methodLink RX6 119 yX1_add, Cond.instanceMethod yX1_add, Cond.selects RX1 yX1_add yX1_add, Cond.code yX1_add cX1_add 5 none, Cond.methodLink RL 51 yX7_holds, Cond.instanceMethod yX7_holds, Cond.selects RX7 yX7_holds yX7_holds, Cond.code yX7_holds cX7_holds 6 (some .int), Cond.methodLink RL 52 yX6_undo, Cond.instanceMethod yX6_undo]
def wsL_law_r19 : List Cond := [Cond.selects RX6 yX6_undo yX6_undo, Cond.code yX6_undo cX6_undo 1 (some .int), Cond.methodLink RL 55 yX7_undo, Cond.instanceMethod yX7_undo, Cond.selects RX7 yX7_undo yX7_undo, Cond.code yX7_undo cX7_undo 1 (some .int), Cond.methodLink RL 56 yX6_held, Cond.instanceMethod yX6_held, Cond.selects RX6 yX6_held yX6_held, Cond.code yX6_held cX6_held 3 (some .int), Cond.fieldLink RX6 123 "LeanedBars$Now" "people" "[I", Cond.fieldLink RX6 126 "LeanedBars$Now" "bars" "[I", Cond.fieldLink RX6 129 "LeanedBars$Now" "firsts" "[I", Cond.fieldLink RX6 132 "LeanedBars$Now" "lengths" "[I", Cond.methodLink RL 59 yX7_held, Cond.instanceMethod yX7_held, Cond.selects RX7 yX7_held yX7_held, Cond.code yX7_held cX7_held 3 (some .int), Cond.methodLink RL 60 yX6_rust, Cond.instanceMethod yX6_rust, Cond.selects RX6 yX6_rust yX6_rust, Cond.code yX6_rust cX6_rust 3 (some .int), Cond.methodLink RX6 135 yX6_rustByHolds, Cond.instanceMethod yX6_rustByHolds]
def wsL_law_r20 : List Cond := [Cond.selects RX6 yX6_rustByHolds yX6_rustByHolds, Cond.code yX6_rustByHolds cX6_rustByHolds 6 (some .int), Cond.methodLink RX6 210 Lib.Math.min.name, Cond.static Lib.Math.min.name, Cond.initialized "java/lang/Math", Cond.code Lib.Math.min.name Lib.Math.min.code 2 (some .int), Cond.methodLink RX6 207 yX2_weather, Cond.instanceMethod yX2_weather, Cond.selects RX2 yX2_weather yX2_weather, Cond.code yX2_weather cX2_weather 5 (some .int), Cond.methodLink RX2 56 yX2_isCovered, Cond.methodLink RX6 215 yX2_dryYears, Cond.instanceMethod yX2_dryYears, Cond.selects RX2 yX2_dryYears yX2_dryYears, Cond.code yX2_dryYears cX2_dryYears 6 (some .int), Cond.methodLink RX2 60 yX2_isWet, Cond.methodLink RL 63 yX7_rust, Cond.instanceMethod yX7_rust, Cond.selects RX7 yX7_rust yX7_rust, Cond.code yX7_rust cX7_rust 3 (some .int), Cond.methodLink RX7 132 yX7_rustOf, Cond.instanceMethod yX7_rustOf, Cond.selects RX7 yX7_rustOf yX7_rustOf, Cond.code yX7_rustOf cX7_rustOf 7 (some .int)]
def wsL_law_r21 : List Cond := [Cond.methodLink RX7 129 yX7_plain, Cond.instanceMethod yX7_plain, Cond.selects RX7 yX7_plain yX7_plain, Cond.code yX7_plain cX7_plain 5 (some .int), Cond.methodLink RL 64 yX6_saw, Cond.instanceMethod yX6_saw, Cond.selects RX6 yX6_saw yX6_saw, Cond.code yX6_saw cX6_saw 4 (some .int), Cond.fieldLink RX6 139 "LeanedBars$Now" "sights" "[I", Cond.methodLink RL 67 yX7_saw, Cond.instanceMethod yX7_saw, Cond.selects RX7 yX7_saw yX7_saw, Cond.code yX7_saw cX7_saw 4 (some .int), Cond.methodLink RL 68 yX6_hide, Cond.instanceMethod yX6_hide, Cond.selects RX6 yX6_hide yX6_hide, Cond.code yX6_hide cX6_hide 3 (some .int), Cond.methodLink RL 71 yX7_hide, Cond.instanceMethod yX7_hide, Cond.selects RX7 yX7_hide yX7_hide, Cond.code yX7_hide cX7_hide 3 (some .int), Cond.methodLink RL 72 yX6_seen, Cond.instanceMethod yX6_seen, Cond.selects RX6 yX6_seen yX6_seen]
def wsL_law_r22 : List Cond := [Cond.code yX6_seen cX6_seen 2 (some .int), Cond.methodLink RL 75 yX7_seen, Cond.instanceMethod yX7_seen, Cond.selects RX7 yX7_seen yX7_seen, Cond.code yX7_seen cX7_seen 2 (some .int), Cond.methodLink RL 76 yX6_fits, Cond.instanceMethod yX6_fits, Cond.selects RX6 yX6_fits yX6_fits, Cond.code yX6_fits cX6_fits 1 (some .int), Cond.methodLink RX6 142 yX5_learn, Cond.instanceMethod yX5_learn, Cond.selects RX5 yX5_learn yX5_learn, Cond.code yX5_learn cX5_learn 5 none, Cond.fieldLink RX5 41 "LeanedBars$Railings" "bars" "I", Cond.fieldLink RX5 44 "LeanedBars$Railings" "people" "I", Cond.fieldLink RX5 45 "LeanedBars$Railings" "grips" "[I", Cond.methodLink RX5 46 arraycopyName, Cond.fieldLink RX5 52 "LeanedBars$Now" "sights" "[I", Cond.methodLink RX5 57 yX2_weather, Cond.methodLink RX5 61 yX2_dryYears, Cond.methodLink RX5 65 yX5_winters, Cond.instanceMethod yX5_winters, Cond.selects RX5 yX5_winters yX5_winters, Cond.code yX5_winters cX5_winters 6 (some .int)]
def wsL_law_r23 : List Cond := [Cond.methodLink RX5 101 yX5_wintersFrom, Cond.static yX5_wintersFrom, Cond.code yX5_wintersFrom cX5_wintersFrom 7 (some .int), Cond.methodLink RX5 76 yX5_isIn, Cond.static yX5_isIn, Cond.code yX5_isIn cX5_isIn 2 (some .boolean), Cond.methodLink RX5 80 yX5_leaves, Cond.instanceMethod yX5_leaves, Cond.selects RX5 yX5_leaves yX5_leaves, Cond.code yX5_leaves cX5_leaves 4 (some .int), Cond.methodLink RX6 146 yX5_all, Cond.instanceMethod yX5_all, Cond.selects RX5 yX5_all yX5_all, Cond.code yX5_all cX5_all 1 (some .int), Cond.methodLink RX5 68 yX5_gather, Cond.instanceMethod yX5_gather, Cond.selects RX5 yX5_gather yX5_gather, Cond.code yX5_gather cX5_gather 3 none, Cond.methodLink RX5 83 yJ7_fill_53178, Cond.methodLink RX5 98 yX5_gatherBar, Cond.instanceMethod yX5_gatherBar, Cond.selects RX5 yX5_gatherBar yX5_gatherBar, Cond.code yX5_gatherBar cX5_gatherBar 5 none, Cond.methodLink RX5 72 yX5_waysBeside]
def wsL_law_r24 : List Cond := [Cond.instanceMethod yX5_waysBeside, Cond.selects RX5 yX5_waysBeside yX5_waysBeside, Cond.code yX5_waysBeside cX5_waysBeside 4 (some .int), Cond.methodLink RL 79 yX7_fits, Cond.instanceMethod yX7_fits, Cond.selects RX7 yX7_fits yX7_fits, Cond.code yX7_fits cX7_fits 3 (some .int), Cond.fieldLink RX7 135 "LeanedBarsModel" "ways" "I", Cond.methodLink RX7 141 yX7_lays, Cond.instanceMethod yX7_lays, Cond.selects RX7 yX7_lays yX7_lays, Cond.code yX7_lays cX7_lays 4 none, Cond.methodLink RX7 144 yX7_isWay, Cond.instanceMethod yX7_isWay, Cond.selects RX7 yX7_isWay yX7_isWay, Cond.code yX7_isWay cX7_isWay 4 (some .boolean), Cond.methodLink RX7 138 yX7_figureOf, Cond.instanceMethod yX7_figureOf, Cond.selects RX7 yX7_figureOf yX7_figureOf, Cond.code yX7_figureOf cX7_figureOf 5 (some .int), Cond.methodLink RL 80 yX6_sure, Cond.instanceMethod yX6_sure, Cond.selects RX6 yX6_sure yX6_sure, Cond.code yX6_sure cX6_sure 4 (some .int)]
def wsL_law_r25 : List Cond := [Cond.fieldLink RX6 153 "LeanedBars$Railings" "bars" "I", Cond.methodLink RX6 149 yX5_holdingNone, Cond.instanceMethod yX5_holdingNone, Cond.selects RX5 yX5_holdingNone yX5_holdingNone, Cond.code yX5_holdingNone cX5_holdingNone 2 (some .int), Cond.methodLink RX6 155 yX5_holding, Cond.instanceMethod yX5_holding, Cond.selects RX5 yX5_holding yX5_holding, Cond.code yX5_holding cX5_holding 5 (some .int), Cond.methodLink RL 83 yX7_sure, Cond.instanceMethod yX7_sure, Cond.selects RX7 yX7_sure yX7_sure, Cond.code yX7_sure cX7_sure 5 (some .int), Cond.methodLink RX7 147 yX7_barOf, Cond.static yX7_barOf, Cond.code yX7_barOf cX7_barOf 1 (some .int), Cond.methodLink RL 84 yX6_odds, Cond.instanceMethod yX6_odds, Cond.selects RX6 yX6_odds yX6_odds, Cond.code yX6_odds cX6_odds 7 (some .int), Cond.methodLink RX6 158 yX6_commonDivisor, Cond.static yX6_commonDivisor, Cond.code yX6_commonDivisor cX6_commonDivisor 6 (some .int), Cond.methodLink RL 88 yX7_odds]
def wsL_law_r26 : List Cond := [Cond.instanceMethod yX7_odds, Cond.selects RX7 yX7_odds yX7_odds, Cond.code yX7_odds cX7_odds 9 (some .int), Cond.methodLink RL 89 yX6_claim, Cond.instanceMethod yX6_claim, Cond.selects RX6 yX6_claim yX6_claim, Cond.code yX6_claim cX6_claim 4 (some .int), Cond.methodLink RX6 161 yX6_isClaim, Cond.instanceMethod yX6_isClaim, Cond.selects RX6 yX6_isClaim yX6_isClaim, Cond.code yX6_isClaim cX6_isClaim 4 (some .boolean), Cond.methodLink RX6 164 yX5_canHaveHeld, Cond.instanceMethod yX5_canHaveHeld, Cond.selects RX5 yX5_canHaveHeld yX5_canHaveHeld, Cond.code yX5_canHaveHeld cX5_canHaveHeld 6 (some .boolean), Cond.methodLink RL 92 yX7_claim, Cond.instanceMethod yX7_claim, Cond.selects RX7 yX7_claim yX7_claim, Cond.code yX7_claim cX7_claim 4 (some .int), Cond.methodLink RX7 150 yX7_isClaim, Cond.instanceMethod yX7_isClaim, Cond.selects RX7 yX7_isClaim yX7_isClaim, Cond.code yX7_isClaim cX7_isClaim 4 (some .boolean), Cond.methodLink RX7 153 yX7_claims]
def wsL_law_r27 : List Cond := [Cond.instanceMethod yX7_claims, Cond.selects RX7 yX7_claims yX7_claims, Cond.code yX7_claims cX7_claims 7 (some .int), Cond.methodLink RL 93 yX6_saves, Cond.instanceMethod yX6_saves, Cond.selects RX6 yX6_saves yX6_saves, Cond.code yX6_saves cX6_saves 5 (some .int), Cond.methodLink RL 96 yX7_saves, Cond.instanceMethod yX7_saves, Cond.selects RX7 yX7_saves yX7_saves, Cond.code yX7_saves cX7_saves 6 (some .int), Cond.methodLink RL 97 yX6_scrape, Cond.instanceMethod yX6_scrape, Cond.selects RX6 yX6_scrape yX6_scrape, Cond.code yX6_scrape cX6_scrape 6 (some .int), Cond.methodLink RX6 167 yX5_leftAtWorst, Cond.instanceMethod yX5_leftAtWorst, Cond.selects RX5 yX5_leftAtWorst yX5_leftAtWorst, Cond.code yX5_leftAtWorst cX5_leftAtWorst 4 (some .int), Cond.methodLink RX5 93 Lib.Math.max.name, Cond.static Lib.Math.max.name, Cond.code Lib.Math.max.name Lib.Math.max.code 2 (some .int), Cond.methodLink RX5 89 yX5_spread, Cond.static yX5_spread]
def wsL_law_r28 : List Cond := [Cond.code yX5_spread cX5_spread 7 none, Cond.methodLink RL 100 yX7_scrape, Cond.instanceMethod yX7_scrape, Cond.selects RX7 yX7_scrape yX7_scrape, Cond.code yX7_scrape cX7_scrape 7 (some .int), Cond.methodLink RL 101 yX6_swaps, Cond.instanceMethod yX6_swaps, Cond.selects RX6 yX6_swaps yX6_swaps, Cond.code yX6_swaps cX6_swaps 2 (some .int), Cond.fieldLink RX6 170 "LeanedBars$Exchanges" "size" "I", Cond.methodLink RX6 171 yX0_add, Cond.instanceMethod yX0_add, Cond.selects RX0 yX0_add yX0_add, Cond.code yX0_add cX0_add 3 none, Cond.methodLink RX6 174 yX0_fewest, Cond.instanceMethod yX0_fewest, Cond.selects RX0 yX0_fewest yX0_fewest, Cond.code yX0_fewest cX0_fewest 2 (some .int), Cond.methodLink RX0 22 yX0_fewestFrom, Cond.static yX0_fewestFrom, Cond.code yX0_fewestFrom cX0_fewestFrom 7 (some .int), Cond.methodLink RX0 30 Lib.Math.min.name, Cond.methodLink RX0 26 yX0_exchange, Cond.static yX0_exchange]
def wsL_law_r29 : List Cond := [Cond.code yX0_exchange cX0_exchange 4 none, Cond.methodLink RL 104 yX7_swaps, Cond.instanceMethod yX7_swaps, Cond.selects RX7 yX7_swaps yX7_swaps, Cond.code yX7_swaps cX7_swaps 8 (some .int), Cond.methodLink RX7 156 yX7_comesOut, Cond.instanceMethod yX7_comesOut, Cond.selects RX7 yX7_comesOut yX7_comesOut, Cond.code yX7_comesOut cX7_comesOut 4 (some .boolean), Cond.methodLink RX7 159 yX7_exchanges, Cond.instanceMethod yX7_exchanges, Cond.selects RX7 yX7_exchanges yX7_exchanges, Cond.code yX7_exchanges cX7_exchanges 6 (some .int), Cond.methodLink RL 105 yX6_rate, Cond.instanceMethod yX6_rate, Cond.selects RX6 yX6_rate yX6_rate, Cond.code yX6_rate cX6_rate 3 (some .int), Cond.constant RX6 177 (-1000000), Cond.methodLink RX6 178 yX6_rateOfBar, Cond.instanceMethod yX6_rateOfBar, Cond.selects RX6 yX6_rateOfBar yX6_rateOfBar, Cond.code yX6_rateOfBar cX6_rateOfBar 2 (some .int), Cond.methodLink RX6 181 yX6_rateOfRail, Cond.instanceMethod yX6_rateOfRail]
def wsL_law_r30 : List Cond := [Cond.selects RX6 yX6_rateOfRail yX6_rateOfRail, Cond.code yX6_rateOfRail cX6_rateOfRail 2 (some .int), Cond.constantLong RX6 219 (10), Cond.methodLink RX6 221 yX2_coveredYears, Cond.instanceMethod yX2_coveredYears, Cond.selects RX2 yX2_coveredYears yX2_coveredYears, Cond.code yX2_coveredYears cX2_coveredYears 4 (some .int), Cond.methodLink RX6 184 yX6_rateOfSpike, Cond.instanceMethod yX6_rateOfSpike, Cond.selects RX6 yX6_rateOfSpike yX6_rateOfSpike, Cond.code yX6_rateOfSpike cX6_rateOfSpike 2 (some .int), Cond.constantLong RX6 224 (100), Cond.methodLink RX6 226 yX1_holdsOf, Cond.instanceMethod yX1_holdsOf, Cond.selects RX1 yX1_holdsOf yX1_holdsOf, Cond.code yX1_holdsOf cX1_holdsOf 4 (some .int), Cond.methodLink RX6 187 yX6_rateOfGate, Cond.instanceMethod yX6_rateOfGate, Cond.selects RX6 yX6_rateOfGate yX6_rateOfGate, Cond.code yX6_rateOfGate cX6_rateOfGate 2 (some .int), Cond.constantLong RX6 229 (1000), Cond.methodLink RX6 190 yX6_rateOfFinial, Cond.instanceMethod yX6_rateOfFinial, Cond.selects RX6 yX6_rateOfFinial yX6_rateOfFinial]
def wsL_law_r31 : List Cond := [Cond.code yX6_rateOfFinial cX6_rateOfFinial 2 (some .int), Cond.constantLong RX6 231 (10000), Cond.methodLink RX6 193 yX6_rateOfNewOne, Cond.instanceMethod yX6_rateOfNewOne, Cond.selects RX6 yX6_rateOfNewOne yX6_rateOfNewOne, Cond.code yX6_rateOfNewOne cX6_rateOfNewOne 2 (some .int), Cond.constantLong RX6 233 (100000), Cond.methodLink RL 108 yX7_rate, Cond.instanceMethod yX7_rate, Cond.selects RX7 yX7_rate yX7_rate, Cond.code yX7_rate cX7_rate 6 (some .int), Cond.constant RX7 162 (-1000000), Cond.fieldLink RX7 163 "LeanedBarsModel" "trace" "J", Cond.constantLong RX7 167 (11), Cond.constantLong RX7 169 (101), Cond.constantLong RX7 171 (1011), Cond.constantLong RX7 173 (10101), Cond.constantLong RX7 175 (100001), Cond.methodLink RL 109 yX6_keep, Cond.instanceMethod yX6_keep, Cond.selects RX6 yX6_keep yX6_keep, Cond.code yX6_keep cX6_keep 2 (some .int), Cond.methodLink RX6 196 yX1_become, Cond.instanceMethod yX1_become]
def wsL_law_r32 : List Cond := [Cond.selects RX1 yX1_become yX1_become, Cond.code yX1_become cX1_become 2 none, Cond.methodLink RX1 37 arraycopyName, Cond.methodLink RL 112 yX7_keep, Cond.instanceMethod yX7_keep, Cond.selects RX7 yX7_keep yX7_keep, Cond.code yX7_keep cX7_keep 3 (some .int), Cond.methodLink RL 113 yX6_back, Cond.instanceMethod yX6_back, Cond.selects RX6 yX6_back yX6_back, Cond.code yX6_back cX6_back 2 (some .int), Cond.methodLink RL 116 yX7_back, Cond.instanceMethod yX7_back, Cond.selects RX7 yX7_back yX7_back, Cond.code yX7_back cX7_back 3 (some .int), Cond.methodLink RL 117 yX6_count, Cond.instanceMethod yX6_count, Cond.selects RX6 yX6_count yX6_count, Cond.code yX6_count cX6_count 2 (some .int), Cond.fieldLink RX6 199 "LeanedBars$Railings" "people" "I", Cond.fieldLink RX6 201 "LeanedBars$Railings" "paints" "I", Cond.methodLink RX6 204 yX1_sightsTold, Cond.instanceMethod yX1_sightsTold, Cond.selects RX1 yX1_sightsTold yX1_sightsTold]
def wsL_law_r33 : List Cond := [Cond.code yX1_sightsTold cX1_sightsTold 3 (some .int), Cond.methodLink RL 120 yX7_count, Cond.instanceMethod yX7_count, Cond.selects RX7 yX7_count yX7_count, Cond.code yX7_count cX7_count 4 (some .int), Cond.methodLink RL 121 yX6_trace, Cond.instanceMethod yX6_trace, Cond.selects RX6 yX6_trace yX6_trace, Cond.code yX6_trace cX6_trace 1 (some .long), Cond.methodLink RL 125 yX7_trace, Cond.instanceMethod yX7_trace, Cond.selects RX7 yX7_trace yX7_trace, Cond.code yX7_trace cX7_trace 1 (some .long)]
def wsL_law : List Cond := (wsL_law_r1 ++ (wsL_law_r2 ++ (wsL_law_r3 ++ (wsL_law_r4 ++ (wsL_law_r5 ++ (wsL_law_r6 ++ (wsL_law_r7 ++ (wsL_law_r8 ++ (wsL_law_r9 ++ (wsL_law_r10 ++ (wsL_law_r11 ++ (wsL_law_r12 ++ (wsL_law_r13 ++ (wsL_law_r14 ++ (wsL_law_r15 ++ (wsL_law_r16 ++ (wsL_law_r17 ++ (wsL_law_r18 ++ (wsL_law_r19 ++ (wsL_law_r20 ++ (wsL_law_r21 ++ (wsL_law_r22 ++ (wsL_law_r23 ++ (wsL_law_r24 ++ (wsL_law_r25 ++ (wsL_law_r26 ++ (wsL_law_r27 ++ (wsL_law_r28 ++ (wsL_law_r29 ++ (wsL_law_r30 ++ (wsL_law_r31 ++ (wsL_law_r32 ++ wsL_law_r33)))))))))))))))))))))))))))))))) ++ wsX60 ++ wsX70 ++ wsX30 ++ wsX20 ++ wsX10 ++ wsX50 ++ wsX00 ++ wsX40 ++ ([] : List Cond)
theorem inlX0 : ∀ w ∈ wsX00, w ∈ wsL_law := fun _ h => List.mem_append_left _ (List.mem_append_left _ (List.mem_append_right _ h))
theorem inlX1 : ∀ w ∈ wsX10, w ∈ wsL_law := fun _ h => List.mem_append_left _ (List.mem_append_left _ (List.mem_append_left _ (List.mem_append_left _ (List.mem_append_right _ h))))
theorem inlX2 : ∀ w ∈ wsX20, w ∈ wsL_law := fun _ h => List.mem_append_left _ (List.mem_append_left _ (List.mem_append_left _ (List.mem_append_left _ (List.mem_append_left _ (List.mem_append_right _ h)))))
theorem inlX3 : ∀ w ∈ wsX30, w ∈ wsL_law := fun _ h => List.mem_append_left _ (List.mem_append_left _ (List.mem_append_left _ (List.mem_append_left _ (List.mem_append_left _ (List.mem_append_left _ (List.mem_append_right _ h))))))
theorem inlX4 : ∀ w ∈ wsX40, w ∈ wsL_law := fun _ h => List.mem_append_left _ (List.mem_append_right _ h)
theorem inlX5 : ∀ w ∈ wsX50, w ∈ wsL_law := fun _ h => List.mem_append_left _ (List.mem_append_left _ (List.mem_append_left _ (List.mem_append_right _ h)))
theorem inlX6 : ∀ w ∈ wsX60, w ∈ wsL_law := fun _ h => List.mem_append_left _ (List.mem_append_left _ (List.mem_append_left _ (List.mem_append_left _ (List.mem_append_left _ (List.mem_append_left _ (List.mem_append_left _ (List.mem_append_left _ (List.mem_append_right _ h))))))))
theorem inlX7 : ∀ w ∈ wsX70, w ∈ wsL_law := fun _ h => List.mem_append_left _ (List.mem_append_left _ (List.mem_append_left _ (List.mem_append_left _ (List.mem_append_left _ (List.mem_append_left _ (List.mem_append_left _ (List.mem_append_right _ h)))))))
abbrev vwCl : List vw_C := [(RX0, TX0, 3), (RX1, TX1, 6), (RX2, TX2, 9), (RX3, TX3, 6), (RX4, TX4, 2), (RX5, TX5, 9), (RX6, TX6, 9), (RX7, TX7, 19)]
