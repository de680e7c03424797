def RX0 : String := "ChatRelay$Channel"
def TX0 : u_T := fun k => match k with
  | 0 => ("ChatRelay$Channel", "age", "I", false)
  | 1 => ("ChatRelay$Channel", "modes", "I", false)
  | 2 => ("ChatRelay$Channel", "bans", "I", false)
  | _ => ("ChatRelay$Channel", "members", "I", false)
def tyX0 : Nat → FieldType := fun k => match k with
  | 0 => .int
  | 1 => .int
  | 2 => .int
  | _ => .int
abbrev wsX00 : List Cond := u_ws RX0 TX0 4
theorem nmX0 : ∀ a, a < 4 → ∀ b, b < 4 → a ≠ b → (TX0 a).2.1 ≠ (TX0 b).2.1 := by decide +kernel
theorem tyX0_ok : ∀ k, k < 4 → parseFieldDescriptor (TX0 k).2.2.1 = some (tyX0 k) := by decide +kernel
abbrev cX0_init : ByteArray := prog_2_method_1_code
def yX0_init : MethodName := ⟨RX0, "<init>", "()V"⟩
abbrev cX0_isThere : ByteArray := prog_2_method_2_code
def yX0_isThere : MethodName := ⟨RX0, "isThere", "()Z"⟩
abbrev cX0_enter : ByteArray := prog_2_method_3_code
def yX0_enter : MethodName := ⟨RX0, "enter", "(II)V"⟩
abbrev cX0_drop : ByteArray := prog_2_method_4_code
def yX0_drop : MethodName := ⟨RX0, "drop", "(I)V"⟩
abbrev cX0_takeIn : ByteArray := prog_2_method_5_code
def yX0_takeIn : MethodName := ⟨RX0, "takeIn", "(LChatRelay$Line;I)V"⟩
abbrev cX0_looksLike : ByteArray := prog_2_method_6_code
def yX0_looksLike : MethodName := ⟨RX0, "looksLike", "(LChatRelay$Channel;)Z"⟩
def RX1 : String := "ChatRelay$Line"
def TX1 : u_T := fun k => match k with
  | 0 => ("ChatRelay$Line", "kind", "I", false)
  | 1 => ("ChatRelay$Line", "user", "I", false)
  | 2 => ("ChatRelay$Line", "channel", "I", false)
  | 3 => ("ChatRelay$Line", "age", "I", false)
  | 4 => ("ChatRelay$Line", "modes", "I", false)
  | 5 => ("ChatRelay$Line", "bans", "I", false)
  | 6 => ("ChatRelay$Line", "members", "I", false)
  | _ => ("ChatRelay$Line", "next", "LChatRelay$Line;", false)
def tyX1 : Nat → FieldType := fun k => match k with
  | 0 => .int
  | 1 => .int
  | 2 => .int
  | 3 => .int
  | 4 => .int
  | 5 => .int
  | 6 => .int
  | _ => .object "ChatRelay$Line"
abbrev wsX10 : List Cond := u_ws RX1 TX1 8
theorem nmX1 : ∀ a, a < 8 → ∀ b, b < 8 → a ≠ b → (TX1 a).2.1 ≠ (TX1 b).2.1 := by decide +kernel
theorem tyX1_ok : ∀ k, k < 8 → parseFieldDescriptor (TX1 k).2.2.1 = some (tyX1 k) := by decide +kernel
abbrev cX1_init : ByteArray := prog_3_method_1_code
def yX1_init : MethodName := ⟨RX1, "<init>", "()V"⟩
abbrev cX1_ofUser : ByteArray := prog_3_method_2_code
def yX1_ofUser : MethodName := ⟨RX1, "ofUser", "(II)LChatRelay$Line;"⟩
abbrev cX1_ofLeave : ByteArray := prog_3_method_3_code
def yX1_ofLeave : MethodName := ⟨RX1, "ofLeave", "(II)LChatRelay$Line;"⟩
abbrev cX1_ofChannel : ByteArray := prog_3_method_4_code
def yX1_ofChannel : MethodName := ⟨RX1, "ofChannel", "(IILChatRelay$Channel;I)LChatRelay$Line;"⟩
abbrev cX1_copyFrom : ByteArray := prog_3_method_5_code
def yX1_copyFrom : MethodName := ⟨RX1, "copyFrom", "(LChatRelay$Line;)V"⟩
def RX2 : String := "ChatRelay$LineQueue"
def TX2 : u_T := fun k => match k with
  | 0 => ("ChatRelay$LineQueue", "first", "LChatRelay$Line;", false)
  | _ => ("ChatRelay$LineQueue", "last", "LChatRelay$Line;", false)
def tyX2 : Nat → FieldType := fun k => match k with
  | 0 => .object "ChatRelay$Line"
  | _ => .object "ChatRelay$Line"
abbrev wsX20 : List Cond := u_ws RX2 TX2 2
theorem nmX2 : ∀ a, a < 2 → ∀ b, b < 2 → a ≠ b → (TX2 a).2.1 ≠ (TX2 b).2.1 := by decide +kernel
theorem tyX2_ok : ∀ k, k < 2 → parseFieldDescriptor (TX2 k).2.2.1 = some (tyX2 k) := by decide +kernel
abbrev cX2_init : ByteArray := prog_4_method_1_code
def yX2_init : MethodName := ⟨RX2, "<init>", "()V"⟩
abbrev cX2_append : ByteArray := prog_4_method_2_code
def yX2_append : MethodName := ⟨RX2, "append", "(LChatRelay$Line;)V"⟩
abbrev cX2_takeFirst : ByteArray := prog_4_method_3_code
def yX2_takeFirst : MethodName := ⟨RX2, "takeFirst", "()LChatRelay$Line;"⟩
def RX3 : String := "ChatRelay$View"
def TX3 : u_T := fun k => match k with
  | 0 => ("ChatRelay$View", "knownUsers", "I", false)
  | _ => ("ChatRelay$View", "channels", "[LChatRelay$Channel;", true)
def tyX3 : Nat → FieldType := fun k => match k with
  | 0 => .int
  | _ => .array (.object "ChatRelay$Channel")
abbrev wsX30 : List Cond := u_ws RX3 TX3 2
theorem nmX3 : ∀ a, a < 2 → ∀ b, b < 2 → a ≠ b → (TX3 a).2.1 ≠ (TX3 b).2.1 := by decide +kernel
theorem tyX3_ok : ∀ k, k < 2 → parseFieldDescriptor (TX3 k).2.2.1 = some (tyX3 k) := by decide +kernel
abbrev cX3_init : ByteArray := prog_5_method_1_code
def yX3_init : MethodName := ⟨RX3, "<init>", "()V"⟩
abbrev cX3_knows : ByteArray := prog_5_method_2_code
def yX3_knows : MethodName := ⟨RX3, "knows", "(I)Z"⟩
abbrev cX3_learn : ByteArray := prog_5_method_3_code
def yX3_learn : MethodName := ⟨RX3, "learn", "(I)V"⟩
abbrev cX3_forget : ByteArray := prog_5_method_4_code
def yX3_forget : MethodName := ⟨RX3, "forget", "(I)V"⟩
abbrev cX3_looksLike : ByteArray := prog_5_method_5_code
def yX3_looksLike : MethodName := ⟨RX3, "looksLike", "(LChatRelay$View;)Z"⟩
def RX4 : String := "ChatRelay$Wires"
def TX4 : u_T := fun k => match k with
  | 0 => ("ChatRelay$Wires", "linked", "[I", true)
  | 1 => ("ChatRelay$Wires", "queues", "[LChatRelay$LineQueue;", true)
  | 2 => ("ChatRelay$Wires", "waiting", "I", false)
  | 3 => ("ChatRelay$Wires", "spares", "LChatRelay$Line;", false)
  | _ => ("ChatRelay$Wires", "made", "I", false)
def tyX4 : Nat → FieldType := fun k => match k with
  | 0 => .array .int
  | 1 => .array (.object "ChatRelay$LineQueue")
  | 2 => .int
  | 3 => .object "ChatRelay$Line"
  | _ => .int
abbrev wsX40 : List Cond := u_ws RX4 TX4 5
theorem nmX4 : ∀ a, a < 5 → ∀ b, b < 5 → a ≠ b → (TX4 a).2.1 ≠ (TX4 b).2.1 := by decide +kernel
theorem tyX4_ok : ∀ k, k < 5 → parseFieldDescriptor (TX4 k).2.2.1 = some (tyX4 k) := by decide +kernel
abbrev cX4_init : ByteArray := prog_6_method_1_code
def yX4_init : MethodName := ⟨RX4, "<init>", "()V"⟩
abbrev cX4_haveLink : ByteArray := prog_6_method_2_code
def yX4_haveLink : MethodName := ⟨RX4, "haveLink", "(II)Z"⟩
abbrev cX4_treeOf : ByteArray := prog_6_method_3_code
def yX4_treeOf : MethodName := ⟨RX4, "treeOf", "(I)I"⟩
abbrev cX4_linksTowards : ByteArray := prog_6_method_4_code
def yX4_linksTowards : MethodName := ⟨RX4, "linksTowards", "(II)I"⟩
abbrev cX4_connect : ByteArray := prog_6_method_5_code
def yX4_connect : MethodName := ⟨RX4, "connect", "(II)V"⟩
abbrev cX4_cut : ByteArray := prog_6_method_6_code
def yX4_cut : MethodName := ⟨RX4, "cut", "(II)V"⟩
abbrev cX4_loseLines : ByteArray := prog_6_method_7_code
def yX4_loseLines : MethodName := ⟨RX4, "loseLines", "(II)V"⟩
abbrev cX4_spread : ByteArray := prog_6_method_8_code
def yX4_spread : MethodName := ⟨RX4, "spread", "(IILChatRelay$Line;)V"⟩
abbrev cX4_put : ByteArray := prog_6_method_9_code
def yX4_put : MethodName := ⟨RX4, "put", "(IILChatRelay$Line;)V"⟩
abbrev cX4_take : ByteArray := prog_6_method_10_code
def yX4_take : MethodName := ⟨RX4, "take", "(II)LChatRelay$Line;"⟩
abbrev cX4_keepSpare : ByteArray := prog_6_method_11_code
def yX4_keepSpare : MethodName := ⟨RX4, "keepSpare", "(LChatRelay$Line;)V"⟩
def RX5 : String := "ChatRelay"
def TX5 : u_T := fun k => match k with
  | 0 => ("ChatRelay", "views", "[LChatRelay$View;", true)
  | 1 => ("ChatRelay", "wires", "LChatRelay$Wires;", true)
  | 2 => ("ChatRelay", "homeOf", "[I", true)
  | 3 => ("ChatRelay", "letterOf", "[I", true)
  | 4 => ("ChatRelay", "ageOf", "[I", true)
  | 5 => ("ChatRelay", "draft", "LChatRelay$Line;", true)
  | 6 => ("ChatRelay", "signedOn", "I", false)
  | _ => ("ChatRelay", "now", "I", false)
def tyX5 : Nat → FieldType := fun k => match k with
  | 0 => .array (.object "ChatRelay$View")
  | 1 => .object "ChatRelay$Wires"
  | 2 => .array .int
  | 3 => .array .int
  | 4 => .array .int
  | 5 => .object "ChatRelay$Line"
  | 6 => .int
  | _ => .int
abbrev wsX50 : List Cond := u_ws RX5 TX5 8
theorem nmX5 : ∀ a, a < 8 → ∀ b, b < 8 → a ≠ b → (TX5 a).2.1 ≠ (TX5 b).2.1 := by decide +kernel
theorem tyX5_ok : ∀ k, k < 8 → parseFieldDescriptor (TX5 k).2.2.1 = some (tyX5 k) := by decide +kernel
abbrev cX5_init : ByteArray := prog_1_method_1_code
def yX5_init : MethodName := ⟨RX5, "<init>", "()V"⟩
abbrev cX5_link : ByteArray := prog_1_method_2_code
def yX5_link : MethodName := ⟨RX5, "link", "(II)I"⟩
abbrev cX5_split : ByteArray := prog_1_method_3_code
def yX5_split : MethodName := ⟨RX5, "split", "(II)I"⟩
abbrev cX5_deliver : ByteArray := prog_1_method_4_code
def yX5_deliver : MethodName := ⟨RX5, "deliver", "(II)I"⟩
abbrev cX5_deliverAll : ByteArray := prog_1_method_5_code
def yX5_deliverAll : MethodName := ⟨RX5, "deliverAll", "()I"⟩
abbrev cX5_lines : ByteArray := prog_1_method_6_code
def yX5_lines : MethodName := ⟨RX5, "lines", "()I"⟩
abbrev cX5_tree : ByteArray := prog_1_method_7_code
def yX5_tree : MethodName := ⟨RX5, "tree", "(I)I"⟩
abbrev cX5_signOn : ByteArray := prog_1_method_8_code
def yX5_signOn : MethodName := ⟨RX5, "signOn", "(IC)I"⟩
abbrev cX5_quit : ByteArray := prog_1_method_9_code
def yX5_quit : MethodName := ⟨RX5, "quit", "(I)V"⟩
abbrev cX5_join : ByteArray := prog_1_method_10_code
def yX5_join : MethodName := ⟨RX5, "join", "(II)I"⟩
abbrev cX5_leave : ByteArray := prog_1_method_11_code
def yX5_leave : MethodName := ⟨RX5, "leave", "(II)V"⟩
abbrev cX5_setModes : ByteArray := prog_1_method_12_code
def yX5_setModes : MethodName := ⟨RX5, "setModes", "(IIII)I"⟩
abbrev cX5_say : ByteArray := prog_1_method_13_code
def yX5_say : MethodName := ⟨RX5, "say", "(II)I"⟩
abbrev cX5_users : ByteArray := prog_1_method_14_code
def yX5_users : MethodName := ⟨RX5, "users", "()I"⟩
abbrev cX5_clock : ByteArray := prog_1_method_15_code
def yX5_clock : MethodName := ⟨RX5, "clock", "()I"⟩
abbrev cX5_known : ByteArray := prog_1_method_16_code
def yX5_known : MethodName := ⟨RX5, "known", "(I)I"⟩
abbrev cX5_members : ByteArray := prog_1_method_17_code
def yX5_members : MethodName := ⟨RX5, "members", "(II)I"⟩
abbrev cX5_age : ByteArray := prog_1_method_18_code
def yX5_age : MethodName := ⟨RX5, "age", "(II)I"⟩
abbrev cX5_modes : ByteArray := prog_1_method_19_code
def yX5_modes : MethodName := ⟨RX5, "modes", "(II)I"⟩
abbrev cX5_bans : ByteArray := prog_1_method_20_code
def yX5_bans : MethodName := ⟨RX5, "bans", "(II)I"⟩
abbrev cX5_areSame : ByteArray := prog_1_method_21_code
def yX5_areSame : MethodName := ⟨RX5, "areSame", "(II)Z"⟩
abbrev cX5_joinedModes : ByteArray := prog_1_method_22_code
def yX5_joinedModes : MethodName := ⟨RX5, "joinedModes", "(III)I"⟩
abbrev cX5_checkServer : ByteArray := prog_1_method_23_code
def yX5_checkServer : MethodName := ⟨RX5, "checkServer", "(I)V"⟩
abbrev cX5_checkChannel : ByteArray := prog_1_method_24_code
def yX5_checkChannel : MethodName := ⟨RX5, "checkChannel", "(I)V"⟩
abbrev cX5_checkUser : ByteArray := prog_1_method_25_code
def yX5_checkUser : MethodName := ⟨RX5, "checkUser", "(I)V"⟩
abbrev cX5_checkNotGone : ByteArray := prog_1_method_26_code
def yX5_checkNotGone : MethodName := ⟨RX5, "checkNotGone", "(I)V"⟩
abbrev cX5_checkMember : ByteArray := prog_1_method_27_code
def yX5_checkMember : MethodName := ⟨RX5, "checkMember", "(II)V"⟩
abbrev cX5_burst : ByteArray := prog_1_method_28_code
def yX5_burst : MethodName := ⟨RX5, "burst", "(II)V"⟩
abbrev cX5_forgetUnreached : ByteArray := prog_1_method_29_code
def yX5_forgetUnreached : MethodName := ⟨RX5, "forgetUnreached", "(I)V"⟩
abbrev cX5_deliverRound : ByteArray := prog_1_method_30_code
def yX5_deliverRound : MethodName := ⟨RX5, "deliverRound", "()I"⟩
abbrev cX5_deliverFirst : ByteArray := prog_1_method_31_code
def yX5_deliverFirst : MethodName := ⟨RX5, "deliverFirst", "(II)Z"⟩
abbrev cX5_receiveUser : ByteArray := prog_1_method_32_code
def yX5_receiveUser : MethodName := ⟨RX5, "receiveUser", "(LChatRelay$Line;II)V"⟩
abbrev cX5_receiveQuit : ByteArray := prog_1_method_33_code
def yX5_receiveQuit : MethodName := ⟨RX5, "receiveQuit", "(LChatRelay$Line;II)V"⟩
abbrev cX5_receiveChannel : ByteArray := prog_1_method_34_code
def yX5_receiveChannel : MethodName := ⟨RX5, "receiveChannel", "(LChatRelay$Line;II)V"⟩
abbrev cX5_receiveModes : ByteArray := prog_1_method_35_code
def yX5_receiveModes : MethodName := ⟨RX5, "receiveModes", "(LChatRelay$Line;II)V"⟩
abbrev cX5_isGone : ByteArray := prog_1_method_36_code
def yX5_isGone : MethodName := ⟨RX5, "isGone", "(I)Z"⟩
abbrev cX5_namesake : ByteArray := prog_1_method_37_code
def yX5_namesake : MethodName := ⟨RX5, "namesake", "(LChatRelay$View;II)I"⟩
abbrev cX5_eldestOf : ByteArray := prog_1_method_38_code
def yX5_eldestOf : MethodName := ⟨RX5, "eldestOf", "(I)I"⟩
abbrev cX5_homesOf : ByteArray := prog_1_method_39_code
def yX5_homesOf : MethodName := ⟨RX5, "homesOf", "(I)I"⟩
abbrev cX5_has : ByteArray := prog_1_method_40_code
def yX5_has : MethodName := ⟨RX5, "has", "(II)Z"⟩
abbrev cX5_letterIn : ByteArray := prog_1_method_41_code
def yX5_letterIn : MethodName := ⟨RX5, "letterIn", "(C)I"⟩
abbrev cX5_settledSet : ByteArray := prog_1_method_42_code
def yX5_settledSet : MethodName := ⟨RX5, "settledSet", "(IIII)I"⟩
def RX6 : String := "ChatRelayModel"
def TX6 : u_T := fun k => match k with
  | _ => ("", "", "", false)
def tyX6 : Nat → FieldType := fun k => match k with
  | _ => .int
abbrev wsX60 : List Cond := u_ws RX6 TX6 0
theorem nmX6 : ∀ a, a < 0 → ∀ b, b < 0 → a ≠ b → (TX6 a).2.1 ≠ (TX6 b).2.1 := by decide +kernel
theorem tyX6_ok : ∀ k, k < 0 → parseFieldDescriptor (TX6 k).2.2.1 = some (tyX6 k) := by decide +kernel
def RJ6 : String := "java/lang/Integer"
def TJ6 : u_T := fun k => match k with
  | _ => ("", "", "", false)
def tyJ6 : Nat → FieldType := fun k => match k with
  | _ => .int
abbrev wsJ60 : List Cond := u_ws RJ6 TJ6 0
theorem nmJ6 : ∀ a, a < 0 → ∀ b, b < 0 → a ≠ b → (TJ6 a).2.1 ≠ (TJ6 b).2.1 := by decide +kernel
theorem tyJ6_ok : ∀ k, k < 0 → parseFieldDescriptor (TJ6 k).2.2.1 = some (tyJ6 k) := by decide +kernel
abbrev cJ6_bitCount_0f7a4 : ByteArray := prog_13_method_49_code
def yJ6_bitCount_0f7a4 : MethodName := ⟨RJ6, "bitCount", "(I)I"⟩
def RJ9 : String := "java/lang/Math"
def TJ9 : u_T := fun k => match k with
  | _ => ("", "", "", false)
def tyJ9 : Nat → FieldType := fun k => match k with
  | _ => .int
abbrev wsJ90 : List Cond := u_ws RJ9 TJ9 0
theorem nmJ9 : ∀ a, a < 0 → ∀ b, b < 0 → a ≠ b → (TJ9 a).2.1 ≠ (TJ9 b).2.1 := by decide +kernel
theorem tyJ9_ok : ∀ k, k < 0 → parseFieldDescriptor (TJ9 k).2.2.1 = some (tyJ9 k) := by decide +kernel
abbrev cJ9_min_7cf53 : ByteArray := prog_14_method_69_code
def yJ9_min_7cf53 : MethodName := ⟨RJ9, "min", "(II)I"⟩
def RJ0 : String := "java/lang/String"
def TJ0 : u_T := fun k => match k with
  | _ => ("", "", "", false)
def tyJ0 : Nat → FieldType := fun k => match k with
  | _ => .int
abbrev wsJ00 : List Cond := u_ws RJ0 TJ0 0
theorem nmJ0 : ∀ a, a < 0 → ∀ b, b < 0 → a ≠ b → (TJ0 a).2.1 ≠ (TJ0 b).2.1 := by decide +kernel
theorem tyJ0_ok : ∀ k, k < 0 → parseFieldDescriptor (TJ0 k).2.2.1 = some (tyJ0 k) := by decide +kernel
def RL : String := "ChatRelayLaw"
abbrev cL_draw : ByteArray := method_2_code
def yL_draw : MethodName := ⟨RL, "draw", "([II)I"⟩
abbrev cL_step : ByteArray := method_3_code
def yL_step : MethodName := ⟨RL, "step", "(LChatRelay;[IIII)Z"⟩
abbrev cL_homesIn : ByteArray := method_4_code
def yL_homesIn : MethodName := ⟨RL, "homesIn", "([II)I"⟩
abbrev cL_links : ByteArray := method_5_code
def yL_links : MethodName := ⟨RL, "links", "(LChatRelay;[III)Z"⟩
abbrev cL_count : ByteArray := method_6_code
def yL_count : MethodName := ⟨RL, "count", "(I)I"⟩
abbrev cL_signs : ByteArray := method_7_code
def yL_signs : MethodName := ⟨RL, "signs", "(LChatRelay;[IIIZ)Z"⟩
abbrev cL_delivers : ByteArray := method_8_code
def yL_delivers : MethodName := ⟨RL, "delivers", "(LChatRelay;[II)Z"⟩
abbrev cL_isThere : ByteArray := method_9_code
def yL_isThere : MethodName := ⟨RL, "isThere", "(LChatRelay;[II)Z"⟩
abbrev cL_joins : ByteArray := method_10_code
def yL_joins : MethodName := ⟨RL, "joins", "(LChatRelay;[III)Z"⟩
abbrev cL_leaves : ByteArray := method_11_code
def yL_leaves : MethodName := ⟨RL, "leaves", "(LChatRelay;[IIIZ)Z"⟩
abbrev cL_sets : ByteArray := method_12_code
def yL_sets : MethodName := ⟨RL, "sets", "(LChatRelay;[IIIII)Z"⟩
abbrev cL_areViews : ByteArray := method_13_code
def yL_areViews : MethodName := ⟨RL, "areViews", "(LChatRelay;[I)Z"⟩
abbrev cL_areQuiet : ByteArray := method_14_code
def yL_areQuiet : MethodName := ⟨RL, "areQuiet", "(LChatRelay;[I)Z"⟩
abbrev cL_law : ByteArray := code
def yL_law : MethodName := ⟨RL, "law", "([I)Z"⟩
abbrev vwCl : List vw_C := [(RX0, TX0, 4), (RX1, TX1, 8), (RX2, TX2, 2), (RX3, TX3, 2), (RX4, TX4, 5), (RX5, TX5, 8)]
theorem dX0_init_0 : decode cX0_init 0 = .ok (.aload_n 0, 1) := by decide +kernel
theorem dX0_init_1 : decode cX0_init 1 = .ok (.invokespecial 3, 3) := by decide +kernel
theorem dX0_init_4 : decode cX0_init 4 = .ok (.aload_n 0, 1) := by decide +kernel
theorem dX0_init_5 : decode cX0_init 5 = .ok (.iconst (-1), 1) := by decide +kernel
theorem dX0_init_6 : decode cX0_init 6 = .ok (.putfield 9, 3) := by decide +kernel
theorem dX0_init_9 : decode cX0_init 9 = .ok (.aload_n 0, 1) := by decide +kernel
theorem dX0_init_10 : decode cX0_init 10 = .ok (.iconst (-1), 1) := by decide +kernel
theorem dX0_init_11 : decode cX0_init 11 = .ok (.putfield 15, 3) := by decide +kernel
theorem dX0_init_14 : decode cX0_init 14 = .ok (.aload_n 0, 1) := by decide +kernel
theorem dX0_init_15 : decode cX0_init 15 = .ok (.iconst (-1), 1) := by decide +kernel
theorem dX0_init_16 : decode cX0_init 16 = .ok (.putfield 18, 3) := by decide +kernel
theorem dX0_init_19 : decode cX0_init 19 = .ok (.aload_n 0, 1) := by decide +kernel
theorem dX0_init_20 : decode cX0_init 20 = .ok (.iconst 0, 1) := by decide +kernel
theorem dX0_init_21 : decode cX0_init 21 = .ok (.putfield 21, 3) := by decide +kernel
theorem dX0_init_24 : decode cX0_init 24 = .ok (.return_, 1) := by decide +kernel
theorem dX0_isThere_0 : decode cX0_isThere 0 = .ok (.aload_n 0, 1) := by decide +kernel
theorem dX0_isThere_1 : decode cX0_isThere 1 = .ok (.getfield 21, 3) := by decide +kernel
theorem dX0_isThere_4 : decode cX0_isThere 4 = .ok (.ifCond .eq 7, 3) := by decide +kernel
theorem dX0_isThere_7 : decode cX0_isThere 7 = .ok (.iconst 1, 1) := by decide +kernel
theorem dX0_isThere_8 : decode cX0_isThere 8 = .ok (.goto 4, 3) := by decide +kernel
theorem dX0_isThere_11 : decode cX0_isThere 11 = .ok (.iconst 0, 1) := by decide +kernel
theorem dX0_isThere_12 : decode cX0_isThere 12 = .ok (.ireturn, 1) := by decide +kernel
theorem dX0_enter_0 : decode cX0_enter 0 = .ok (.aload_n 0, 1) := by decide +kernel
theorem dX0_enter_1 : decode cX0_enter 1 = .ok (.getfield 21, 3) := by decide +kernel
theorem dX0_enter_4 : decode cX0_enter 4 = .ok (.ifCond .ne 18, 3) := by decide +kernel
theorem dX0_enter_7 : decode cX0_enter 7 = .ok (.aload_n 0, 1) := by decide +kernel
theorem dX0_enter_8 : decode cX0_enter 8 = .ok (.iload_n 2, 1) := by decide +kernel
theorem dX0_enter_9 : decode cX0_enter 9 = .ok (.putfield 9, 3) := by decide +kernel
theorem dX0_enter_12 : decode cX0_enter 12 = .ok (.aload_n 0, 1) := by decide +kernel
theorem dX0_enter_13 : decode cX0_enter 13 = .ok (.iconst 0, 1) := by decide +kernel
theorem dX0_enter_14 : decode cX0_enter 14 = .ok (.putfield 15, 3) := by decide +kernel
theorem dX0_enter_17 : decode cX0_enter 17 = .ok (.aload_n 0, 1) := by decide +kernel
theorem dX0_enter_18 : decode cX0_enter 18 = .ok (.iconst 0, 1) := by decide +kernel
theorem dX0_enter_19 : decode cX0_enter 19 = .ok (.putfield 18, 3) := by decide +kernel
theorem dX0_enter_22 : decode cX0_enter 22 = .ok (.aload_n 0, 1) := by decide +kernel
theorem dX0_enter_23 : decode cX0_enter 23 = .ok (.dup, 1) := by decide +kernel
theorem dX0_enter_24 : decode cX0_enter 24 = .ok (.getfield 21, 3) := by decide +kernel
theorem dX0_enter_27 : decode cX0_enter 27 = .ok (.iconst 1, 1) := by decide +kernel
theorem dX0_enter_28 : decode cX0_enter 28 = .ok (.iload_n 1, 1) := by decide +kernel
theorem dX0_enter_29 : decode cX0_enter 29 = .ok (.ishl, 1) := by decide +kernel
theorem dX0_enter_30 : decode cX0_enter 30 = .ok (.ior, 1) := by decide +kernel
theorem dX0_enter_31 : decode cX0_enter 31 = .ok (.putfield 21, 3) := by decide +kernel
theorem dX0_enter_34 : decode cX0_enter 34 = .ok (.return_, 1) := by decide +kernel
theorem dX0_drop_0 : decode cX0_drop 0 = .ok (.aload_n 0, 1) := by decide +kernel
theorem dX0_drop_1 : decode cX0_drop 1 = .ok (.dup, 1) := by decide +kernel
theorem dX0_drop_2 : decode cX0_drop 2 = .ok (.getfield 21, 3) := by decide +kernel
theorem dX0_drop_5 : decode cX0_drop 5 = .ok (.iconst 1, 1) := by decide +kernel
theorem dX0_drop_6 : decode cX0_drop 6 = .ok (.iload_n 1, 1) := by decide +kernel
theorem dX0_drop_7 : decode cX0_drop 7 = .ok (.ishl, 1) := by decide +kernel
theorem dX0_drop_8 : decode cX0_drop 8 = .ok (.iconst (-1), 1) := by decide +kernel
theorem dX0_drop_9 : decode cX0_drop 9 = .ok (.ixor, 1) := by decide +kernel
theorem dX0_drop_10 : decode cX0_drop 10 = .ok (.iand, 1) := by decide +kernel
theorem dX0_drop_11 : decode cX0_drop 11 = .ok (.putfield 21, 3) := by decide +kernel
theorem dX0_drop_14 : decode cX0_drop 14 = .ok (.aload_n 0, 1) := by decide +kernel
theorem dX0_drop_15 : decode cX0_drop 15 = .ok (.getfield 21, 3) := by decide +kernel
theorem dX0_drop_18 : decode cX0_drop 18 = .ok (.ifCond .ne 18, 3) := by decide +kernel
theorem dX0_drop_21 : decode cX0_drop 21 = .ok (.aload_n 0, 1) := by decide +kernel
theorem dX0_drop_22 : decode cX0_drop 22 = .ok (.iconst (-1), 1) := by decide +kernel
theorem dX0_drop_23 : decode cX0_drop 23 = .ok (.putfield 9, 3) := by decide +kernel
theorem dX0_drop_26 : decode cX0_drop 26 = .ok (.aload_n 0, 1) := by decide +kernel
theorem dX0_drop_27 : decode cX0_drop 27 = .ok (.iconst (-1), 1) := by decide +kernel
theorem dX0_drop_28 : decode cX0_drop 28 = .ok (.putfield 15, 3) := by decide +kernel
theorem dX0_drop_31 : decode cX0_drop 31 = .ok (.aload_n 0, 1) := by decide +kernel
theorem dX0_drop_32 : decode cX0_drop 32 = .ok (.iconst (-1), 1) := by decide +kernel
theorem dX0_drop_33 : decode cX0_drop 33 = .ok (.putfield 18, 3) := by decide +kernel
theorem dX0_drop_36 : decode cX0_drop 36 = .ok (.return_, 1) := by decide +kernel
theorem dX0_takeIn_0 : decode cX0_takeIn 0 = .ok (.aload_n 0, 1) := by decide +kernel
theorem dX0_takeIn_1 : decode cX0_takeIn 1 = .ok (.aload_n 0, 1) := by decide +kernel
theorem dX0_takeIn_2 : decode cX0_takeIn 2 = .ok (.getfield 9, 3) := by decide +kernel
theorem dX0_takeIn_5 : decode cX0_takeIn 5 = .ok (.aload_n 0, 1) := by decide +kernel
theorem dX0_takeIn_6 : decode cX0_takeIn 6 = .ok (.getfield 15, 3) := by decide +kernel
theorem dX0_takeIn_9 : decode cX0_takeIn 9 = .ok (.aload_n 1, 1) := by decide +kernel
theorem dX0_takeIn_10 : decode cX0_takeIn 10 = .ok (.getfield 24, 3) := by decide +kernel
theorem dX0_takeIn_13 : decode cX0_takeIn 13 = .ok (.aload_n 1, 1) := by decide +kernel
theorem dX0_takeIn_14 : decode cX0_takeIn 14 = .ok (.getfield 27, 3) := by decide +kernel
theorem dX0_takeIn_17 : decode cX0_takeIn 17 = .ok (.invokestatic 28, 3) := by decide +kernel
theorem dX0_takeIn_20 : decode cX0_takeIn 20 = .ok (.putfield 15, 3) := by decide +kernel
theorem dX0_takeIn_23 : decode cX0_takeIn 23 = .ok (.aload_n 0, 1) := by decide +kernel
theorem dX0_takeIn_24 : decode cX0_takeIn 24 = .ok (.aload_n 0, 1) := by decide +kernel
theorem dX0_takeIn_25 : decode cX0_takeIn 25 = .ok (.getfield 9, 3) := by decide +kernel
theorem dX0_takeIn_28 : decode cX0_takeIn 28 = .ok (.aload_n 0, 1) := by decide +kernel
theorem dX0_takeIn_29 : decode cX0_takeIn 29 = .ok (.getfield 18, 3) := by decide +kernel
theorem dX0_takeIn_32 : decode cX0_takeIn 32 = .ok (.aload_n 1, 1) := by decide +kernel
theorem dX0_takeIn_33 : decode cX0_takeIn 33 = .ok (.getfield 24, 3) := by decide +kernel
theorem dX0_takeIn_36 : decode cX0_takeIn 36 = .ok (.aload_n 1, 1) := by decide +kernel
theorem dX0_takeIn_37 : decode cX0_takeIn 37 = .ok (.getfield 32, 3) := by decide +kernel
theorem dX0_takeIn_40 : decode cX0_takeIn 40 = .ok (.invokestatic 28, 3) := by decide +kernel
theorem dX0_takeIn_43 : decode cX0_takeIn 43 = .ok (.putfield 18, 3) := by decide +kernel
theorem dX0_takeIn_46 : decode cX0_takeIn 46 = .ok (.aload_n 0, 1) := by decide +kernel
theorem dX0_takeIn_47 : decode cX0_takeIn 47 = .ok (.aload_n 0, 1) := by decide +kernel
theorem dX0_takeIn_48 : decode cX0_takeIn 48 = .ok (.getfield 9, 3) := by decide +kernel
theorem dX0_takeIn_51 : decode cX0_takeIn 51 = .ok (.iconst (-1), 1) := by decide +kernel
theorem dX0_takeIn_52 : decode cX0_takeIn 52 = .ok (.if_icmp .ne 10, 3) := by decide +kernel
theorem dX0_takeIn_55 : decode cX0_takeIn 55 = .ok (.aload_n 1, 1) := by decide +kernel
theorem dX0_takeIn_56 : decode cX0_takeIn 56 = .ok (.getfield 24, 3) := by decide +kernel
theorem dX0_takeIn_59 : decode cX0_takeIn 59 = .ok (.goto 14, 3) := by decide +kernel
theorem dX0_takeIn_62 : decode cX0_takeIn 62 = .ok (.aload_n 0, 1) := by decide +kernel
theorem dX0_takeIn_63 : decode cX0_takeIn 63 = .ok (.getfield 9, 3) := by decide +kernel
theorem dX0_takeIn_66 : decode cX0_takeIn 66 = .ok (.aload_n 1, 1) := by decide +kernel
theorem dX0_takeIn_67 : decode cX0_takeIn 67 = .ok (.getfield 24, 3) := by decide +kernel
theorem dX0_takeIn_70 : decode cX0_takeIn 70 = .ok (.invokestatic 33, 3) := by decide +kernel
theorem dX0_takeIn_73 : decode cX0_takeIn 73 = .ok (.putfield 9, 3) := by decide +kernel
theorem dX0_takeIn_76 : decode cX0_takeIn 76 = .ok (.aload_n 0, 1) := by decide +kernel
theorem dX0_takeIn_77 : decode cX0_takeIn 77 = .ok (.dup, 1) := by decide +kernel
theorem dX0_takeIn_78 : decode cX0_takeIn 78 = .ok (.getfield 21, 3) := by decide +kernel
theorem dX0_takeIn_81 : decode cX0_takeIn 81 = .ok (.iload_n 2, 1) := by decide +kernel
theorem dX0_takeIn_82 : decode cX0_takeIn 82 = .ok (.ior, 1) := by decide +kernel
theorem dX0_takeIn_83 : decode cX0_takeIn 83 = .ok (.putfield 21, 3) := by decide +kernel
theorem dX0_takeIn_86 : decode cX0_takeIn 86 = .ok (.return_, 1) := by decide +kernel
theorem dX0_looksLike_0 : decode cX0_looksLike 0 = .ok (.aload_n 0, 1) := by decide +kernel
theorem dX0_looksLike_1 : decode cX0_looksLike 1 = .ok (.getfield 9, 3) := by decide +kernel
theorem dX0_looksLike_4 : decode cX0_looksLike 4 = .ok (.aload_n 1, 1) := by decide +kernel
theorem dX0_looksLike_5 : decode cX0_looksLike 5 = .ok (.getfield 9, 3) := by decide +kernel
theorem dX0_looksLike_8 : decode cX0_looksLike 8 = .ok (.if_icmp .ne 40, 3) := by decide +kernel
theorem dX0_looksLike_11 : decode cX0_looksLike 11 = .ok (.aload_n 0, 1) := by decide +kernel
theorem dX0_looksLike_12 : decode cX0_looksLike 12 = .ok (.getfield 15, 3) := by decide +kernel
theorem dX0_looksLike_15 : decode cX0_looksLike 15 = .ok (.aload_n 1, 1) := by decide +kernel
theorem dX0_looksLike_16 : decode cX0_looksLike 16 = .ok (.getfield 15, 3) := by decide +kernel
theorem dX0_looksLike_19 : decode cX0_looksLike 19 = .ok (.if_icmp .ne 29, 3) := by decide +kernel
theorem dX0_looksLike_22 : decode cX0_looksLike 22 = .ok (.aload_n 0, 1) := by decide +kernel
theorem dX0_looksLike_23 : decode cX0_looksLike 23 = .ok (.getfield 18, 3) := by decide +kernel
theorem dX0_looksLike_26 : decode cX0_looksLike 26 = .ok (.aload_n 1, 1) := by decide +kernel
theorem dX0_looksLike_27 : decode cX0_looksLike 27 = .ok (.getfield 18, 3) := by decide +kernel
theorem dX0_looksLike_30 : decode cX0_looksLike 30 = .ok (.if_icmp .ne 18, 3) := by decide +kernel
theorem dX0_looksLike_33 : decode cX0_looksLike 33 = .ok (.aload_n 0, 1) := by decide +kernel
theorem dX0_looksLike_34 : decode cX0_looksLike 34 = .ok (.getfield 21, 3) := by decide +kernel
theorem dX0_looksLike_37 : decode cX0_looksLike 37 = .ok (.aload_n 1, 1) := by decide +kernel
theorem dX0_looksLike_38 : decode cX0_looksLike 38 = .ok (.getfield 21, 3) := by decide +kernel
theorem dX0_looksLike_41 : decode cX0_looksLike 41 = .ok (.if_icmp .ne 7, 3) := by decide +kernel
theorem dX0_looksLike_44 : decode cX0_looksLike 44 = .ok (.iconst 1, 1) := by decide +kernel
theorem dX0_looksLike_45 : decode cX0_looksLike 45 = .ok (.goto 4, 3) := by decide +kernel
theorem dX0_looksLike_48 : decode cX0_looksLike 48 = .ok (.iconst 0, 1) := by decide +kernel
theorem dX0_looksLike_49 : decode cX0_looksLike 49 = .ok (.ireturn, 1) := by decide +kernel
theorem dX1_init_0 : decode cX1_init 0 = .ok (.aload_n 0, 1) := by decide +kernel
theorem dX1_init_1 : decode cX1_init 1 = .ok (.invokespecial 3, 3) := by decide +kernel
theorem dX1_init_4 : decode cX1_init 4 = .ok (.aload_n 0, 1) := by decide +kernel
theorem dX1_init_5 : decode cX1_init 5 = .ok (.iconst 1, 1) := by decide +kernel
theorem dX1_init_6 : decode cX1_init 6 = .ok (.putfield 9, 3) := by decide +kernel
theorem dX1_init_9 : decode cX1_init 9 = .ok (.aload_n 0, 1) := by decide +kernel
theorem dX1_init_10 : decode cX1_init 10 = .ok (.iconst 0, 1) := by decide +kernel
theorem dX1_init_11 : decode cX1_init 11 = .ok (.putfield 15, 3) := by decide +kernel
theorem dX1_init_14 : decode cX1_init 14 = .ok (.aload_n 0, 1) := by decide +kernel
theorem dX1_init_15 : decode cX1_init 15 = .ok (.iconst 0, 1) := by decide +kernel
theorem dX1_init_16 : decode cX1_init 16 = .ok (.putfield 18, 3) := by decide +kernel
theorem dX1_init_19 : decode cX1_init 19 = .ok (.aload_n 0, 1) := by decide +kernel
theorem dX1_init_20 : decode cX1_init 20 = .ok (.iconst 0, 1) := by decide +kernel
theorem dX1_init_21 : decode cX1_init 21 = .ok (.putfield 21, 3) := by decide +kernel
theorem dX1_init_24 : decode cX1_init 24 = .ok (.aload_n 0, 1) := by decide +kernel
theorem dX1_init_25 : decode cX1_init 25 = .ok (.iconst 0, 1) := by decide +kernel
theorem dX1_init_26 : decode cX1_init 26 = .ok (.putfield 24, 3) := by decide +kernel
theorem dX1_init_29 : decode cX1_init 29 = .ok (.aload_n 0, 1) := by decide +kernel
theorem dX1_init_30 : decode cX1_init 30 = .ok (.iconst 0, 1) := by decide +kernel
theorem dX1_init_31 : decode cX1_init 31 = .ok (.putfield 27, 3) := by decide +kernel
theorem dX1_init_34 : decode cX1_init 34 = .ok (.aload_n 0, 1) := by decide +kernel
theorem dX1_init_35 : decode cX1_init 35 = .ok (.iconst 0, 1) := by decide +kernel
theorem dX1_init_36 : decode cX1_init 36 = .ok (.putfield 30, 3) := by decide +kernel
theorem dX1_init_39 : decode cX1_init 39 = .ok (.aload_n 0, 1) := by decide +kernel
theorem dX1_init_40 : decode cX1_init 40 = .ok (.aconst_null, 1) := by decide +kernel
theorem dX1_init_41 : decode cX1_init 41 = .ok (.putfield 33, 3) := by decide +kernel
theorem dX1_init_44 : decode cX1_init 44 = .ok (.return_, 1) := by decide +kernel
theorem dX1_ofUser_0 : decode cX1_ofUser 0 = .ok (.aload_n 0, 1) := by decide +kernel
theorem dX1_ofUser_1 : decode cX1_ofUser 1 = .ok (.iload_n 1, 1) := by decide +kernel
theorem dX1_ofUser_2 : decode cX1_ofUser 2 = .ok (.putfield 9, 3) := by decide +kernel
theorem dX1_ofUser_5 : decode cX1_ofUser 5 = .ok (.aload_n 0, 1) := by decide +kernel
theorem dX1_ofUser_6 : decode cX1_ofUser 6 = .ok (.iload_n 2, 1) := by decide +kernel
theorem dX1_ofUser_7 : decode cX1_ofUser 7 = .ok (.putfield 15, 3) := by decide +kernel
theorem dX1_ofUser_10 : decode cX1_ofUser 10 = .ok (.aload_n 0, 1) := by decide +kernel
theorem dX1_ofUser_11 : decode cX1_ofUser 11 = .ok (.areturn, 1) := by decide +kernel
theorem dX1_ofLeave_0 : decode cX1_ofLeave 0 = .ok (.aload_n 0, 1) := by decide +kernel
theorem dX1_ofLeave_1 : decode cX1_ofLeave 1 = .ok (.iconst 3, 1) := by decide +kernel
theorem dX1_ofLeave_2 : decode cX1_ofLeave 2 = .ok (.putfield 9, 3) := by decide +kernel
theorem dX1_ofLeave_5 : decode cX1_ofLeave 5 = .ok (.aload_n 0, 1) := by decide +kernel
theorem dX1_ofLeave_6 : decode cX1_ofLeave 6 = .ok (.iload_n 1, 1) := by decide +kernel
theorem dX1_ofLeave_7 : decode cX1_ofLeave 7 = .ok (.putfield 18, 3) := by decide +kernel
theorem dX1_ofLeave_10 : decode cX1_ofLeave 10 = .ok (.aload_n 0, 1) := by decide +kernel
theorem dX1_ofLeave_11 : decode cX1_ofLeave 11 = .ok (.iload_n 2, 1) := by decide +kernel
theorem dX1_ofLeave_12 : decode cX1_ofLeave 12 = .ok (.putfield 15, 3) := by decide +kernel
theorem dX1_ofLeave_15 : decode cX1_ofLeave 15 = .ok (.aload_n 0, 1) := by decide +kernel
theorem dX1_ofLeave_16 : decode cX1_ofLeave 16 = .ok (.areturn, 1) := by decide +kernel
theorem dX1_ofChannel_0 : decode cX1_ofChannel 0 = .ok (.aload_n 0, 1) := by decide +kernel
theorem dX1_ofChannel_1 : decode cX1_ofChannel 1 = .ok (.iload_n 1, 1) := by decide +kernel
theorem dX1_ofChannel_2 : decode cX1_ofChannel 2 = .ok (.putfield 9, 3) := by decide +kernel
theorem dX1_ofChannel_5 : decode cX1_ofChannel 5 = .ok (.aload_n 0, 1) := by decide +kernel
theorem dX1_ofChannel_6 : decode cX1_ofChannel 6 = .ok (.iload_n 2, 1) := by decide +kernel
theorem dX1_ofChannel_7 : decode cX1_ofChannel 7 = .ok (.putfield 18, 3) := by decide +kernel
theorem dX1_ofChannel_10 : decode cX1_ofChannel 10 = .ok (.aload_n 0, 1) := by decide +kernel
theorem dX1_ofChannel_11 : decode cX1_ofChannel 11 = .ok (.aload_n 3, 1) := by decide +kernel
theorem dX1_ofChannel_12 : decode cX1_ofChannel 12 = .ok (.getfield 37, 3) := by decide +kernel
theorem dX1_ofChannel_15 : decode cX1_ofChannel 15 = .ok (.putfield 21, 3) := by decide +kernel
theorem dX1_ofChannel_18 : decode cX1_ofChannel 18 = .ok (.aload_n 0, 1) := by decide +kernel
theorem dX1_ofChannel_19 : decode cX1_ofChannel 19 = .ok (.aload_n 3, 1) := by decide +kernel
theorem dX1_ofChannel_20 : decode cX1_ofChannel 20 = .ok (.getfield 40, 3) := by decide +kernel
theorem dX1_ofChannel_23 : decode cX1_ofChannel 23 = .ok (.putfield 24, 3) := by decide +kernel
theorem dX1_ofChannel_26 : decode cX1_ofChannel 26 = .ok (.aload_n 0, 1) := by decide +kernel
theorem dX1_ofChannel_27 : decode cX1_ofChannel 27 = .ok (.aload_n 3, 1) := by decide +kernel
theorem dX1_ofChannel_28 : decode cX1_ofChannel 28 = .ok (.getfield 41, 3) := by decide +kernel
theorem dX1_ofChannel_31 : decode cX1_ofChannel 31 = .ok (.putfield 27, 3) := by decide +kernel
theorem dX1_ofChannel_34 : decode cX1_ofChannel 34 = .ok (.aload_n 0, 1) := by decide +kernel
theorem dX1_ofChannel_35 : decode cX1_ofChannel 35 = .ok (.iload 4, 2) := by decide +kernel
theorem dX1_ofChannel_37 : decode cX1_ofChannel 37 = .ok (.putfield 30, 3) := by decide +kernel
theorem dX1_ofChannel_40 : decode cX1_ofChannel 40 = .ok (.aload_n 0, 1) := by decide +kernel
theorem dX1_ofChannel_41 : decode cX1_ofChannel 41 = .ok (.areturn, 1) := by decide +kernel
theorem dX1_copyFrom_0 : decode cX1_copyFrom 0 = .ok (.aload_n 0, 1) := by decide +kernel
theorem dX1_copyFrom_1 : decode cX1_copyFrom 1 = .ok (.aload_n 1, 1) := by decide +kernel
theorem dX1_copyFrom_2 : decode cX1_copyFrom 2 = .ok (.getfield 9, 3) := by decide +kernel
theorem dX1_copyFrom_5 : decode cX1_copyFrom 5 = .ok (.putfield 9, 3) := by decide +kernel
theorem dX1_copyFrom_8 : decode cX1_copyFrom 8 = .ok (.aload_n 0, 1) := by decide +kernel
theorem dX1_copyFrom_9 : decode cX1_copyFrom 9 = .ok (.aload_n 1, 1) := by decide +kernel
theorem dX1_copyFrom_10 : decode cX1_copyFrom 10 = .ok (.getfield 15, 3) := by decide +kernel
theorem dX1_copyFrom_13 : decode cX1_copyFrom 13 = .ok (.putfield 15, 3) := by decide +kernel
theorem dX1_copyFrom_16 : decode cX1_copyFrom 16 = .ok (.aload_n 0, 1) := by decide +kernel
theorem dX1_copyFrom_17 : decode cX1_copyFrom 17 = .ok (.aload_n 1, 1) := by decide +kernel
theorem dX1_copyFrom_18 : decode cX1_copyFrom 18 = .ok (.getfield 18, 3) := by decide +kernel
theorem dX1_copyFrom_21 : decode cX1_copyFrom 21 = .ok (.putfield 18, 3) := by decide +kernel
theorem dX1_copyFrom_24 : decode cX1_copyFrom 24 = .ok (.aload_n 0, 1) := by decide +kernel
theorem dX1_copyFrom_25 : decode cX1_copyFrom 25 = .ok (.aload_n 1, 1) := by decide +kernel
theorem dX1_copyFrom_26 : decode cX1_copyFrom 26 = .ok (.getfield 21, 3) := by decide +kernel
theorem dX1_copyFrom_29 : decode cX1_copyFrom 29 = .ok (.putfield 21, 3) := by decide +kernel
theorem dX1_copyFrom_32 : decode cX1_copyFrom 32 = .ok (.aload_n 0, 1) := by decide +kernel
theorem dX1_copyFrom_33 : decode cX1_copyFrom 33 = .ok (.aload_n 1, 1) := by decide +kernel
theorem dX1_copyFrom_34 : decode cX1_copyFrom 34 = .ok (.getfield 24, 3) := by decide +kernel
theorem dX1_copyFrom_37 : decode cX1_copyFrom 37 = .ok (.putfield 24, 3) := by decide +kernel
theorem dX1_copyFrom_40 : decode cX1_copyFrom 40 = .ok (.aload_n 0, 1) := by decide +kernel
theorem dX1_copyFrom_41 : decode cX1_copyFrom 41 = .ok (.aload_n 1, 1) := by decide +kernel
theorem dX1_copyFrom_42 : decode cX1_copyFrom 42 = .ok (.getfield 27, 3) := by decide +kernel
theorem dX1_copyFrom_45 : decode cX1_copyFrom 45 = .ok (.putfield 27, 3) := by decide +kernel
theorem dX1_copyFrom_48 : decode cX1_copyFrom 48 = .ok (.aload_n 0, 1) := by decide +kernel
theorem dX1_copyFrom_49 : decode cX1_copyFrom 49 = .ok (.aload_n 1, 1) := by decide +kernel
theorem dX1_copyFrom_50 : decode cX1_copyFrom 50 = .ok (.getfield 30, 3) := by decide +kernel
theorem dX1_copyFrom_53 : decode cX1_copyFrom 53 = .ok (.putfield 30, 3) := by decide +kernel
theorem dX1_copyFrom_56 : decode cX1_copyFrom 56 = .ok (.return_, 1) := by decide +kernel
theorem dX2_init_0 : decode cX2_init 0 = .ok (.aload_n 0, 1) := by decide +kernel
theorem dX2_init_1 : decode cX2_init 1 = .ok (.invokespecial 1, 3) := by decide +kernel
theorem dX2_init_4 : decode cX2_init 4 = .ok (.aload_n 0, 1) := by decide +kernel
theorem dX2_init_5 : decode cX2_init 5 = .ok (.aconst_null, 1) := by decide +kernel
theorem dX2_init_6 : decode cX2_init 6 = .ok (.putfield 7, 3) := by decide +kernel
theorem dX2_init_9 : decode cX2_init 9 = .ok (.aload_n 0, 1) := by decide +kernel
theorem dX2_init_10 : decode cX2_init 10 = .ok (.aconst_null, 1) := by decide +kernel
theorem dX2_init_11 : decode cX2_init 11 = .ok (.putfield 13, 3) := by decide +kernel
theorem dX2_init_14 : decode cX2_init 14 = .ok (.return_, 1) := by decide +kernel
theorem dX2_append_0 : decode cX2_append 0 = .ok (.aload_n 1, 1) := by decide +kernel
theorem dX2_append_1 : decode cX2_append 1 = .ok (.aconst_null, 1) := by decide +kernel
theorem dX2_append_2 : decode cX2_append 2 = .ok (.putfield 16, 3) := by decide +kernel
theorem dX2_append_5 : decode cX2_append 5 = .ok (.aload_n 0, 1) := by decide +kernel
theorem dX2_append_6 : decode cX2_append 6 = .ok (.getfield 13, 3) := by decide +kernel
theorem dX2_append_9 : decode cX2_append 9 = .ok (.ifnonnull 11, 3) := by decide +kernel
theorem dX2_append_12 : decode cX2_append 12 = .ok (.aload_n 0, 1) := by decide +kernel
theorem dX2_append_13 : decode cX2_append 13 = .ok (.aload_n 1, 1) := by decide +kernel
theorem dX2_append_14 : decode cX2_append 14 = .ok (.putfield 7, 3) := by decide +kernel
theorem dX2_append_17 : decode cX2_append 17 = .ok (.goto 11, 3) := by decide +kernel
theorem dX2_append_20 : decode cX2_append 20 = .ok (.aload_n 0, 1) := by decide +kernel
theorem dX2_append_21 : decode cX2_append 21 = .ok (.getfield 13, 3) := by decide +kernel
theorem dX2_append_24 : decode cX2_append 24 = .ok (.aload_n 1, 1) := by decide +kernel
theorem dX2_append_25 : decode cX2_append 25 = .ok (.putfield 16, 3) := by decide +kernel
theorem dX2_append_28 : decode cX2_append 28 = .ok (.aload_n 0, 1) := by decide +kernel
theorem dX2_append_29 : decode cX2_append 29 = .ok (.aload_n 1, 1) := by decide +kernel
theorem dX2_append_30 : decode cX2_append 30 = .ok (.putfield 13, 3) := by decide +kernel
theorem dX2_append_33 : decode cX2_append 33 = .ok (.return_, 1) := by decide +kernel
theorem dX2_takeFirst_0 : decode cX2_takeFirst 0 = .ok (.aload_n 0, 1) := by decide +kernel
theorem dX2_takeFirst_1 : decode cX2_takeFirst 1 = .ok (.getfield 7, 3) := by decide +kernel
theorem dX2_takeFirst_4 : decode cX2_takeFirst 4 = .ok (.astore_n 1, 1) := by decide +kernel
theorem dX2_takeFirst_5 : decode cX2_takeFirst 5 = .ok (.aload_n 1, 1) := by decide +kernel
theorem dX2_takeFirst_6 : decode cX2_takeFirst 6 = .ok (.ifnull 28, 3) := by decide +kernel
theorem dX2_takeFirst_9 : decode cX2_takeFirst 9 = .ok (.aload_n 0, 1) := by decide +kernel
theorem dX2_takeFirst_10 : decode cX2_takeFirst 10 = .ok (.aload_n 1, 1) := by decide +kernel
theorem dX2_takeFirst_11 : decode cX2_takeFirst 11 = .ok (.getfield 16, 3) := by decide +kernel
theorem dX2_takeFirst_14 : decode cX2_takeFirst 14 = .ok (.putfield 7, 3) := by decide +kernel
theorem dX2_takeFirst_17 : decode cX2_takeFirst 17 = .ok (.aload_n 0, 1) := by decide +kernel
theorem dX2_takeFirst_18 : decode cX2_takeFirst 18 = .ok (.getfield 7, 3) := by decide +kernel
theorem dX2_takeFirst_21 : decode cX2_takeFirst 21 = .ok (.ifnonnull 8, 3) := by decide +kernel
theorem dX2_takeFirst_24 : decode cX2_takeFirst 24 = .ok (.aload_n 0, 1) := by decide +kernel
theorem dX2_takeFirst_25 : decode cX2_takeFirst 25 = .ok (.aconst_null, 1) := by decide +kernel
theorem dX2_takeFirst_26 : decode cX2_takeFirst 26 = .ok (.putfield 13, 3) := by decide +kernel
theorem dX2_takeFirst_29 : decode cX2_takeFirst 29 = .ok (.aload_n 1, 1) := by decide +kernel
theorem dX2_takeFirst_30 : decode cX2_takeFirst 30 = .ok (.aconst_null, 1) := by decide +kernel
theorem dX2_takeFirst_31 : decode cX2_takeFirst 31 = .ok (.putfield 16, 3) := by decide +kernel
theorem dX2_takeFirst_34 : decode cX2_takeFirst 34 = .ok (.aload_n 1, 1) := by decide +kernel
theorem dX2_takeFirst_35 : decode cX2_takeFirst 35 = .ok (.areturn, 1) := by decide +kernel
theorem dX3_init_0 : decode cX3_init 0 = .ok (.aload_n 0, 1) := by decide +kernel
theorem dX3_init_1 : decode cX3_init 1 = .ok (.invokespecial 3, 3) := by decide +kernel
theorem dX3_init_4 : decode cX3_init 4 = .ok (.aload_n 0, 1) := by decide +kernel
theorem dX3_init_5 : decode cX3_init 5 = .ok (.iconst 0, 1) := by decide +kernel
theorem dX3_init_6 : decode cX3_init 6 = .ok (.putfield 9, 3) := by decide +kernel
theorem dX3_init_9 : decode cX3_init 9 = .ok (.aload_n 0, 1) := by decide +kernel
theorem dX3_init_10 : decode cX3_init 10 = .ok (.iconst 4, 1) := by decide +kernel
theorem dX3_init_11 : decode cX3_init 11 = .ok (.anewarray 15, 3) := by decide +kernel
theorem dX3_init_14 : decode cX3_init 14 = .ok (.putfield 17, 3) := by decide +kernel
theorem dX3_init_17 : decode cX3_init 17 = .ok (.iconst 0, 1) := by decide +kernel
theorem dX3_init_18 : decode cX3_init 18 = .ok (.istore_n 1, 1) := by decide +kernel
theorem dX3_init_19 : decode cX3_init 19 = .ok (.iload_n 1, 1) := by decide +kernel
theorem dX3_init_20 : decode cX3_init 20 = .ok (.iconst 4, 1) := by decide +kernel
theorem dX3_init_21 : decode cX3_init 21 = .ok (.if_icmp .ge 22, 3) := by decide +kernel
theorem dX3_init_24 : decode cX3_init 24 = .ok (.aload_n 0, 1) := by decide +kernel
theorem dX3_init_25 : decode cX3_init 25 = .ok (.getfield 17, 3) := by decide +kernel
theorem dX3_init_28 : decode cX3_init 28 = .ok (.iload_n 1, 1) := by decide +kernel
theorem dX3_init_29 : decode cX3_init 29 = .ok (.new 15, 3) := by decide +kernel
theorem dX3_init_32 : decode cX3_init 32 = .ok (.dup, 1) := by decide +kernel
theorem dX3_init_33 : decode cX3_init 33 = .ok (.invokespecial 21, 3) := by decide +kernel
theorem dX3_init_36 : decode cX3_init 36 = .ok (.aastore, 1) := by decide +kernel
theorem dX3_init_37 : decode cX3_init 37 = .ok (.iinc 1 1, 3) := by decide +kernel
theorem dX3_init_40 : decode cX3_init 40 = .ok (.goto (-21), 3) := by decide +kernel
theorem dX3_init_43 : decode cX3_init 43 = .ok (.return_, 1) := by decide +kernel
theorem dX3_knows_0 : decode cX3_knows 0 = .ok (.aload_n 0, 1) := by decide +kernel
theorem dX3_knows_1 : decode cX3_knows 1 = .ok (.getfield 9, 3) := by decide +kernel
theorem dX3_knows_4 : decode cX3_knows 4 = .ok (.iload_n 1, 1) := by decide +kernel
theorem dX3_knows_5 : decode cX3_knows 5 = .ok (.invokestatic 22, 3) := by decide +kernel
theorem dX3_knows_8 : decode cX3_knows 8 = .ok (.ireturn, 1) := by decide +kernel
theorem dX3_learn_0 : decode cX3_learn 0 = .ok (.aload_n 0, 1) := by decide +kernel
theorem dX3_learn_1 : decode cX3_learn 1 = .ok (.dup, 1) := by decide +kernel
theorem dX3_learn_2 : decode cX3_learn 2 = .ok (.getfield 9, 3) := by decide +kernel
theorem dX3_learn_5 : decode cX3_learn 5 = .ok (.iconst 1, 1) := by decide +kernel
theorem dX3_learn_6 : decode cX3_learn 6 = .ok (.iload_n 1, 1) := by decide +kernel
theorem dX3_learn_7 : decode cX3_learn 7 = .ok (.ishl, 1) := by decide +kernel
theorem dX3_learn_8 : decode cX3_learn 8 = .ok (.ior, 1) := by decide +kernel
theorem dX3_learn_9 : decode cX3_learn 9 = .ok (.putfield 9, 3) := by decide +kernel
theorem dX3_learn_12 : decode cX3_learn 12 = .ok (.return_, 1) := by decide +kernel
theorem dX3_forget_0 : decode cX3_forget 0 = .ok (.aload_n 0, 1) := by decide +kernel
theorem dX3_forget_1 : decode cX3_forget 1 = .ok (.dup, 1) := by decide +kernel
theorem dX3_forget_2 : decode cX3_forget 2 = .ok (.getfield 9, 3) := by decide +kernel
theorem dX3_forget_5 : decode cX3_forget 5 = .ok (.iconst 1, 1) := by decide +kernel
theorem dX3_forget_6 : decode cX3_forget 6 = .ok (.iload_n 1, 1) := by decide +kernel
theorem dX3_forget_7 : decode cX3_forget 7 = .ok (.ishl, 1) := by decide +kernel
theorem dX3_forget_8 : decode cX3_forget 8 = .ok (.iconst (-1), 1) := by decide +kernel
theorem dX3_forget_9 : decode cX3_forget 9 = .ok (.ixor, 1) := by decide +kernel
theorem dX3_forget_10 : decode cX3_forget 10 = .ok (.iand, 1) := by decide +kernel
theorem dX3_forget_11 : decode cX3_forget 11 = .ok (.putfield 9, 3) := by decide +kernel
theorem dX3_forget_14 : decode cX3_forget 14 = .ok (.iconst 0, 1) := by decide +kernel
theorem dX3_forget_15 : decode cX3_forget 15 = .ok (.istore_n 2, 1) := by decide +kernel
theorem dX3_forget_16 : decode cX3_forget 16 = .ok (.iload_n 2, 1) := by decide +kernel
theorem dX3_forget_17 : decode cX3_forget 17 = .ok (.iconst 4, 1) := by decide +kernel
theorem dX3_forget_18 : decode cX3_forget 18 = .ok (.if_icmp .ge 19, 3) := by decide +kernel
theorem dX3_forget_21 : decode cX3_forget 21 = .ok (.aload_n 0, 1) := by decide +kernel
theorem dX3_forget_22 : decode cX3_forget 22 = .ok (.getfield 17, 3) := by decide +kernel
theorem dX3_forget_25 : decode cX3_forget 25 = .ok (.iload_n 2, 1) := by decide +kernel
theorem dX3_forget_26 : decode cX3_forget 26 = .ok (.aaload, 1) := by decide +kernel
theorem dX3_forget_27 : decode cX3_forget 27 = .ok (.iload_n 1, 1) := by decide +kernel
theorem dX3_forget_28 : decode cX3_forget 28 = .ok (.invokevirtual 26, 3) := by decide +kernel
theorem dX3_forget_31 : decode cX3_forget 31 = .ok (.iinc 2 1, 3) := by decide +kernel
theorem dX3_forget_34 : decode cX3_forget 34 = .ok (.goto (-18), 3) := by decide +kernel
theorem dX3_forget_37 : decode cX3_forget 37 = .ok (.return_, 1) := by decide +kernel
theorem dX3_looksLike_0 : decode cX3_looksLike 0 = .ok (.aload_n 0, 1) := by decide +kernel
theorem dX3_looksLike_1 : decode cX3_looksLike 1 = .ok (.getfield 9, 3) := by decide +kernel
theorem dX3_looksLike_4 : decode cX3_looksLike 4 = .ok (.aload_n 1, 1) := by decide +kernel
theorem dX3_looksLike_5 : decode cX3_looksLike 5 = .ok (.getfield 9, 3) := by decide +kernel
theorem dX3_looksLike_8 : decode cX3_looksLike 8 = .ok (.if_icmp .eq 5, 3) := by decide +kernel
theorem dX3_looksLike_11 : decode cX3_looksLike 11 = .ok (.iconst 0, 1) := by decide +kernel
theorem dX3_looksLike_12 : decode cX3_looksLike 12 = .ok (.ireturn, 1) := by decide +kernel
theorem dX3_looksLike_13 : decode cX3_looksLike 13 = .ok (.iconst 0, 1) := by decide +kernel
theorem dX3_looksLike_14 : decode cX3_looksLike 14 = .ok (.istore_n 2, 1) := by decide +kernel
theorem dX3_looksLike_15 : decode cX3_looksLike 15 = .ok (.iload_n 2, 1) := by decide +kernel
theorem dX3_looksLike_16 : decode cX3_looksLike 16 = .ok (.iconst 4, 1) := by decide +kernel
theorem dX3_looksLike_17 : decode cX3_looksLike 17 = .ok (.if_icmp .ge 29, 3) := by decide +kernel
theorem dX3_looksLike_20 : decode cX3_looksLike 20 = .ok (.aload_n 0, 1) := by decide +kernel
theorem dX3_looksLike_21 : decode cX3_looksLike 21 = .ok (.getfield 17, 3) := by decide +kernel
theorem dX3_looksLike_24 : decode cX3_looksLike 24 = .ok (.iload_n 2, 1) := by decide +kernel
theorem dX3_looksLike_25 : decode cX3_looksLike 25 = .ok (.aaload, 1) := by decide +kernel
theorem dX3_looksLike_26 : decode cX3_looksLike 26 = .ok (.aload_n 1, 1) := by decide +kernel
theorem dX3_looksLike_27 : decode cX3_looksLike 27 = .ok (.getfield 17, 3) := by decide +kernel
theorem dX3_looksLike_30 : decode cX3_looksLike 30 = .ok (.iload_n 2, 1) := by decide +kernel
theorem dX3_looksLike_31 : decode cX3_looksLike 31 = .ok (.aaload, 1) := by decide +kernel
theorem dX3_looksLike_32 : decode cX3_looksLike 32 = .ok (.invokevirtual 30, 3) := by decide +kernel
theorem dX3_looksLike_35 : decode cX3_looksLike 35 = .ok (.ifCond .ne 5, 3) := by decide +kernel
theorem dX3_looksLike_38 : decode cX3_looksLike 38 = .ok (.iconst 0, 1) := by decide +kernel
theorem dX3_looksLike_39 : decode cX3_looksLike 39 = .ok (.ireturn, 1) := by decide +kernel
theorem dX3_looksLike_40 : decode cX3_looksLike 40 = .ok (.iinc 2 1, 3) := by decide +kernel
theorem dX3_looksLike_43 : decode cX3_looksLike 43 = .ok (.goto (-28), 3) := by decide +kernel
theorem dX3_looksLike_46 : decode cX3_looksLike 46 = .ok (.iconst 1, 1) := by decide +kernel
theorem dX3_looksLike_47 : decode cX3_looksLike 47 = .ok (.ireturn, 1) := by decide +kernel
theorem dX4_init_0 : decode cX4_init 0 = .ok (.aload_n 0, 1) := by decide +kernel
theorem dX4_init_1 : decode cX4_init 1 = .ok (.invokespecial 3, 3) := by decide +kernel
theorem dX4_init_4 : decode cX4_init 4 = .ok (.aload_n 0, 1) := by decide +kernel
theorem dX4_init_5 : decode cX4_init 5 = .ok (.bipush 6, 2) := by decide +kernel
theorem dX4_init_7 : decode cX4_init 7 = .ok (.newarray .int, 2) := by decide +kernel
theorem dX4_init_9 : decode cX4_init 9 = .ok (.putfield 9, 3) := by decide +kernel
theorem dX4_init_12 : decode cX4_init 12 = .ok (.aload_n 0, 1) := by decide +kernel
theorem dX4_init_13 : decode cX4_init 13 = .ok (.bipush 36, 2) := by decide +kernel
theorem dX4_init_15 : decode cX4_init 15 = .ok (.anewarray 15, 3) := by decide +kernel
theorem dX4_init_18 : decode cX4_init 18 = .ok (.putfield 17, 3) := by decide +kernel
theorem dX4_init_21 : decode cX4_init 21 = .ok (.aload_n 0, 1) := by decide +kernel
theorem dX4_init_22 : decode cX4_init 22 = .ok (.iconst 0, 1) := by decide +kernel
theorem dX4_init_23 : decode cX4_init 23 = .ok (.putfield 21, 3) := by decide +kernel
theorem dX4_init_26 : decode cX4_init 26 = .ok (.aload_n 0, 1) := by decide +kernel
theorem dX4_init_27 : decode cX4_init 27 = .ok (.aconst_null, 1) := by decide +kernel
theorem dX4_init_28 : decode cX4_init 28 = .ok (.putfield 25, 3) := by decide +kernel
theorem dX4_init_31 : decode cX4_init 31 = .ok (.aload_n 0, 1) := by decide +kernel
theorem dX4_init_32 : decode cX4_init 32 = .ok (.iconst 0, 1) := by decide +kernel
theorem dX4_init_33 : decode cX4_init 33 = .ok (.putfield 29, 3) := by decide +kernel
theorem dX4_init_36 : decode cX4_init 36 = .ok (.iconst 0, 1) := by decide +kernel
theorem dX4_init_37 : decode cX4_init 37 = .ok (.istore_n 1, 1) := by decide +kernel
theorem dX4_init_38 : decode cX4_init 38 = .ok (.iload_n 1, 1) := by decide +kernel
theorem dX4_init_39 : decode cX4_init 39 = .ok (.bipush 36, 2) := by decide +kernel
theorem dX4_init_41 : decode cX4_init 41 = .ok (.if_icmp .ge 22, 3) := by decide +kernel
theorem dX4_init_44 : decode cX4_init 44 = .ok (.aload_n 0, 1) := by decide +kernel
theorem dX4_init_45 : decode cX4_init 45 = .ok (.getfield 17, 3) := by decide +kernel
theorem dX4_init_48 : decode cX4_init 48 = .ok (.iload_n 1, 1) := by decide +kernel
theorem dX4_init_49 : decode cX4_init 49 = .ok (.new 15, 3) := by decide +kernel
theorem dX4_init_52 : decode cX4_init 52 = .ok (.dup, 1) := by decide +kernel
theorem dX4_init_53 : decode cX4_init 53 = .ok (.invokespecial 32, 3) := by decide +kernel
theorem dX4_init_56 : decode cX4_init 56 = .ok (.aastore, 1) := by decide +kernel
theorem dX4_init_57 : decode cX4_init 57 = .ok (.iinc 1 1, 3) := by decide +kernel
theorem dX4_init_60 : decode cX4_init 60 = .ok (.goto (-22), 3) := by decide +kernel
theorem dX4_init_63 : decode cX4_init 63 = .ok (.return_, 1) := by decide +kernel
theorem dX4_haveLink_0 : decode cX4_haveLink 0 = .ok (.aload_n 0, 1) := by decide +kernel
theorem dX4_haveLink_1 : decode cX4_haveLink 1 = .ok (.getfield 9, 3) := by decide +kernel
theorem dX4_haveLink_4 : decode cX4_haveLink 4 = .ok (.iload_n 1, 1) := by decide +kernel
theorem dX4_haveLink_5 : decode cX4_haveLink 5 = .ok (.iaload, 1) := by decide +kernel
theorem dX4_haveLink_6 : decode cX4_haveLink 6 = .ok (.iload_n 2, 1) := by decide +kernel
theorem dX4_haveLink_7 : decode cX4_haveLink 7 = .ok (.invokestatic 33, 3) := by decide +kernel
theorem dX4_haveLink_10 : decode cX4_haveLink 10 = .ok (.ireturn, 1) := by decide +kernel
theorem dX4_treeOf_0 : decode cX4_treeOf 0 = .ok (.iconst 1, 1) := by decide +kernel
theorem dX4_treeOf_1 : decode cX4_treeOf 1 = .ok (.iload_n 1, 1) := by decide +kernel
theorem dX4_treeOf_2 : decode cX4_treeOf 2 = .ok (.ishl, 1) := by decide +kernel
theorem dX4_treeOf_3 : decode cX4_treeOf 3 = .ok (.istore_n 2, 1) := by decide +kernel
theorem dX4_treeOf_4 : decode cX4_treeOf 4 = .ok (.iconst 1, 1) := by decide +kernel
theorem dX4_treeOf_5 : decode cX4_treeOf 5 = .ok (.istore_n 3, 1) := by decide +kernel
theorem dX4_treeOf_6 : decode cX4_treeOf 6 = .ok (.iload_n 3, 1) := by decide +kernel
theorem dX4_treeOf_7 : decode cX4_treeOf 7 = .ok (.bipush 6, 2) := by decide +kernel
theorem dX4_treeOf_9 : decode cX4_treeOf 9 = .ok (.if_icmp .ge 44, 3) := by decide +kernel
theorem dX4_treeOf_12 : decode cX4_treeOf 12 = .ok (.iconst 0, 1) := by decide +kernel
theorem dX4_treeOf_13 : decode cX4_treeOf 13 = .ok (.istore 4, 2) := by decide +kernel
theorem dX4_treeOf_15 : decode cX4_treeOf 15 = .ok (.iload 4, 2) := by decide +kernel
theorem dX4_treeOf_17 : decode cX4_treeOf 17 = .ok (.bipush 6, 2) := by decide +kernel
theorem dX4_treeOf_19 : decode cX4_treeOf 19 = .ok (.if_icmp .ge 28, 3) := by decide +kernel
theorem dX4_treeOf_22 : decode cX4_treeOf 22 = .ok (.iload_n 2, 1) := by decide +kernel
theorem dX4_treeOf_23 : decode cX4_treeOf 23 = .ok (.iload 4, 2) := by decide +kernel
theorem dX4_treeOf_25 : decode cX4_treeOf 25 = .ok (.invokestatic 33, 3) := by decide +kernel
theorem dX4_treeOf_28 : decode cX4_treeOf 28 = .ok (.ifCond .eq 13, 3) := by decide +kernel
theorem dX4_treeOf_31 : decode cX4_treeOf 31 = .ok (.iload_n 2, 1) := by decide +kernel
theorem dX4_treeOf_32 : decode cX4_treeOf 32 = .ok (.aload_n 0, 1) := by decide +kernel
theorem dX4_treeOf_33 : decode cX4_treeOf 33 = .ok (.getfield 9, 3) := by decide +kernel
theorem dX4_treeOf_36 : decode cX4_treeOf 36 = .ok (.iload 4, 2) := by decide +kernel
theorem dX4_treeOf_38 : decode cX4_treeOf 38 = .ok (.iaload, 1) := by decide +kernel
theorem dX4_treeOf_39 : decode cX4_treeOf 39 = .ok (.ior, 1) := by decide +kernel
theorem dX4_treeOf_40 : decode cX4_treeOf 40 = .ok (.istore_n 2, 1) := by decide +kernel
theorem dX4_treeOf_41 : decode cX4_treeOf 41 = .ok (.iinc 4 1, 3) := by decide +kernel
theorem dX4_treeOf_44 : decode cX4_treeOf 44 = .ok (.goto (-29), 3) := by decide +kernel
theorem dX4_treeOf_47 : decode cX4_treeOf 47 = .ok (.iinc 3 1, 3) := by decide +kernel
theorem dX4_treeOf_50 : decode cX4_treeOf 50 = .ok (.goto (-44), 3) := by decide +kernel
theorem dX4_treeOf_53 : decode cX4_treeOf 53 = .ok (.iload_n 2, 1) := by decide +kernel
theorem dX4_treeOf_54 : decode cX4_treeOf 54 = .ok (.ireturn, 1) := by decide +kernel
theorem dX4_linksTowards_0 : decode cX4_linksTowards 0 = .ok (.iload_n 2, 1) := by decide +kernel
theorem dX4_linksTowards_1 : decode cX4_linksTowards 1 = .ok (.iconst 1, 1) := by decide +kernel
theorem dX4_linksTowards_2 : decode cX4_linksTowards 2 = .ok (.iload_n 1, 1) := by decide +kernel
theorem dX4_linksTowards_3 : decode cX4_linksTowards 3 = .ok (.ishl, 1) := by decide +kernel
theorem dX4_linksTowards_4 : decode cX4_linksTowards 4 = .ok (.ior, 1) := by decide +kernel
theorem dX4_linksTowards_5 : decode cX4_linksTowards 5 = .ok (.istore_n 3, 1) := by decide +kernel
theorem dX4_linksTowards_6 : decode cX4_linksTowards 6 = .ok (.aload_n 0, 1) := by decide +kernel
theorem dX4_linksTowards_7 : decode cX4_linksTowards 7 = .ok (.iload_n 1, 1) := by decide +kernel
theorem dX4_linksTowards_8 : decode cX4_linksTowards 8 = .ok (.invokevirtual 37, 3) := by decide +kernel
theorem dX4_linksTowards_11 : decode cX4_linksTowards 11 = .ok (.istore 4, 2) := by decide +kernel
theorem dX4_linksTowards_13 : decode cX4_linksTowards 13 = .ok (.iconst 1, 1) := by decide +kernel
theorem dX4_linksTowards_14 : decode cX4_linksTowards 14 = .ok (.istore 5, 2) := by decide +kernel
theorem dX4_linksTowards_16 : decode cX4_linksTowards 16 = .ok (.iload 5, 2) := by decide +kernel
theorem dX4_linksTowards_18 : decode cX4_linksTowards 18 = .ok (.bipush 6, 2) := by decide +kernel
theorem dX4_linksTowards_20 : decode cX4_linksTowards 20 = .ok (.if_icmp .ge 67, 3) := by decide +kernel
theorem dX4_linksTowards_23 : decode cX4_linksTowards 23 = .ok (.iconst 0, 1) := by decide +kernel
theorem dX4_linksTowards_24 : decode cX4_linksTowards 24 = .ok (.istore 6, 2) := by decide +kernel
theorem dX4_linksTowards_26 : decode cX4_linksTowards 26 = .ok (.iload 6, 2) := by decide +kernel
theorem dX4_linksTowards_28 : decode cX4_linksTowards 28 = .ok (.bipush 6, 2) := by decide +kernel
theorem dX4_linksTowards_30 : decode cX4_linksTowards 30 = .ok (.if_icmp .ge 51, 3) := by decide +kernel
theorem dX4_linksTowards_33 : decode cX4_linksTowards 33 = .ok (.iload 4, 2) := by decide +kernel
theorem dX4_linksTowards_35 : decode cX4_linksTowards 35 = .ok (.iload_n 3, 1) := by decide +kernel
theorem dX4_linksTowards_36 : decode cX4_linksTowards 36 = .ok (.iconst (-1), 1) := by decide +kernel
theorem dX4_linksTowards_37 : decode cX4_linksTowards 37 = .ok (.ixor, 1) := by decide +kernel
theorem dX4_linksTowards_38 : decode cX4_linksTowards 38 = .ok (.iand, 1) := by decide +kernel
theorem dX4_linksTowards_39 : decode cX4_linksTowards 39 = .ok (.iload 6, 2) := by decide +kernel
theorem dX4_linksTowards_41 : decode cX4_linksTowards 41 = .ok (.invokestatic 33, 3) := by decide +kernel
theorem dX4_linksTowards_44 : decode cX4_linksTowards 44 = .ok (.ifCond .eq 31, 3) := by decide +kernel
theorem dX4_linksTowards_47 : decode cX4_linksTowards 47 = .ok (.aload_n 0, 1) := by decide +kernel
theorem dX4_linksTowards_48 : decode cX4_linksTowards 48 = .ok (.getfield 9, 3) := by decide +kernel
theorem dX4_linksTowards_51 : decode cX4_linksTowards 51 = .ok (.iload 6, 2) := by decide +kernel
theorem dX4_linksTowards_53 : decode cX4_linksTowards 53 = .ok (.iaload, 1) := by decide +kernel
theorem dX4_linksTowards_54 : decode cX4_linksTowards 54 = .ok (.iload 4, 2) := by decide +kernel
theorem dX4_linksTowards_56 : decode cX4_linksTowards 56 = .ok (.iand, 1) := by decide +kernel
theorem dX4_linksTowards_57 : decode cX4_linksTowards 57 = .ok (.invokestatic 41, 3) := by decide +kernel
theorem dX4_linksTowards_60 : decode cX4_linksTowards 60 = .ok (.iconst 1, 1) := by decide +kernel
theorem dX4_linksTowards_61 : decode cX4_linksTowards 61 = .ok (.if_icmp .ne 14, 3) := by decide +kernel
theorem dX4_linksTowards_64 : decode cX4_linksTowards 64 = .ok (.iload 4, 2) := by decide +kernel
theorem dX4_linksTowards_66 : decode cX4_linksTowards 66 = .ok (.iconst 1, 1) := by decide +kernel
theorem dX4_linksTowards_67 : decode cX4_linksTowards 67 = .ok (.iload 6, 2) := by decide +kernel
theorem dX4_linksTowards_69 : decode cX4_linksTowards 69 = .ok (.ishl, 1) := by decide +kernel
theorem dX4_linksTowards_70 : decode cX4_linksTowards 70 = .ok (.iconst (-1), 1) := by decide +kernel
theorem dX4_linksTowards_71 : decode cX4_linksTowards 71 = .ok (.ixor, 1) := by decide +kernel
theorem dX4_linksTowards_72 : decode cX4_linksTowards 72 = .ok (.iand, 1) := by decide +kernel
theorem dX4_linksTowards_73 : decode cX4_linksTowards 73 = .ok (.istore 4, 2) := by decide +kernel
theorem dX4_linksTowards_75 : decode cX4_linksTowards 75 = .ok (.iinc 6 1, 3) := by decide +kernel
theorem dX4_linksTowards_78 : decode cX4_linksTowards 78 = .ok (.goto (-52), 3) := by decide +kernel
theorem dX4_linksTowards_81 : decode cX4_linksTowards 81 = .ok (.iinc 5 1, 3) := by decide +kernel
theorem dX4_linksTowards_84 : decode cX4_linksTowards 84 = .ok (.goto (-68), 3) := by decide +kernel
theorem dX4_linksTowards_87 : decode cX4_linksTowards 87 = .ok (.iload 4, 2) := by decide +kernel
theorem dX4_linksTowards_89 : decode cX4_linksTowards 89 = .ok (.invokestatic 41, 3) := by decide +kernel
theorem dX4_linksTowards_92 : decode cX4_linksTowards 92 = .ok (.iconst 1, 1) := by decide +kernel
theorem dX4_linksTowards_93 : decode cX4_linksTowards 93 = .ok (.isub, 1) := by decide +kernel
theorem dX4_linksTowards_94 : decode cX4_linksTowards 94 = .ok (.ireturn, 1) := by decide +kernel
theorem dX4_connect_0 : decode cX4_connect 0 = .ok (.aload_n 0, 1) := by decide +kernel
theorem dX4_connect_1 : decode cX4_connect 1 = .ok (.getfield 9, 3) := by decide +kernel
theorem dX4_connect_4 : decode cX4_connect 4 = .ok (.iload_n 1, 1) := by decide +kernel
theorem dX4_connect_5 : decode cX4_connect 5 = .ok (.dup2, 1) := by decide +kernel
theorem dX4_connect_6 : decode cX4_connect 6 = .ok (.iaload, 1) := by decide +kernel
theorem dX4_connect_7 : decode cX4_connect 7 = .ok (.iconst 1, 1) := by decide +kernel
theorem dX4_connect_8 : decode cX4_connect 8 = .ok (.iload_n 2, 1) := by decide +kernel
theorem dX4_connect_9 : decode cX4_connect 9 = .ok (.ishl, 1) := by decide +kernel
theorem dX4_connect_10 : decode cX4_connect 10 = .ok (.ior, 1) := by decide +kernel
theorem dX4_connect_11 : decode cX4_connect 11 = .ok (.iastore, 1) := by decide +kernel
theorem dX4_connect_12 : decode cX4_connect 12 = .ok (.aload_n 0, 1) := by decide +kernel
theorem dX4_connect_13 : decode cX4_connect 13 = .ok (.getfield 9, 3) := by decide +kernel
theorem dX4_connect_16 : decode cX4_connect 16 = .ok (.iload_n 2, 1) := by decide +kernel
theorem dX4_connect_17 : decode cX4_connect 17 = .ok (.dup2, 1) := by decide +kernel
theorem dX4_connect_18 : decode cX4_connect 18 = .ok (.iaload, 1) := by decide +kernel
theorem dX4_connect_19 : decode cX4_connect 19 = .ok (.iconst 1, 1) := by decide +kernel
theorem dX4_connect_20 : decode cX4_connect 20 = .ok (.iload_n 1, 1) := by decide +kernel
theorem dX4_connect_21 : decode cX4_connect 21 = .ok (.ishl, 1) := by decide +kernel
theorem dX4_connect_22 : decode cX4_connect 22 = .ok (.ior, 1) := by decide +kernel
theorem dX4_connect_23 : decode cX4_connect 23 = .ok (.iastore, 1) := by decide +kernel
theorem dX4_connect_24 : decode cX4_connect 24 = .ok (.return_, 1) := by decide +kernel
theorem dX4_cut_0 : decode cX4_cut 0 = .ok (.aload_n 0, 1) := by decide +kernel
theorem dX4_cut_1 : decode cX4_cut 1 = .ok (.getfield 9, 3) := by decide +kernel
theorem dX4_cut_4 : decode cX4_cut 4 = .ok (.iload_n 1, 1) := by decide +kernel
theorem dX4_cut_5 : decode cX4_cut 5 = .ok (.dup2, 1) := by decide +kernel
theorem dX4_cut_6 : decode cX4_cut 6 = .ok (.iaload, 1) := by decide +kernel
theorem dX4_cut_7 : decode cX4_cut 7 = .ok (.iconst 1, 1) := by decide +kernel
theorem dX4_cut_8 : decode cX4_cut 8 = .ok (.iload_n 2, 1) := by decide +kernel
theorem dX4_cut_9 : decode cX4_cut 9 = .ok (.ishl, 1) := by decide +kernel
theorem dX4_cut_10 : decode cX4_cut 10 = .ok (.iconst (-1), 1) := by decide +kernel
theorem dX4_cut_11 : decode cX4_cut 11 = .ok (.ixor, 1) := by decide +kernel
theorem dX4_cut_12 : decode cX4_cut 12 = .ok (.iand, 1) := by decide +kernel
theorem dX4_cut_13 : decode cX4_cut 13 = .ok (.iastore, 1) := by decide +kernel
theorem dX4_cut_14 : decode cX4_cut 14 = .ok (.aload_n 0, 1) := by decide +kernel
theorem dX4_cut_15 : decode cX4_cut 15 = .ok (.getfield 9, 3) := by decide +kernel
theorem dX4_cut_18 : decode cX4_cut 18 = .ok (.iload_n 2, 1) := by decide +kernel
theorem dX4_cut_19 : decode cX4_cut 19 = .ok (.dup2, 1) := by decide +kernel
theorem dX4_cut_20 : decode cX4_cut 20 = .ok (.iaload, 1) := by decide +kernel
theorem dX4_cut_21 : decode cX4_cut 21 = .ok (.iconst 1, 1) := by decide +kernel
theorem dX4_cut_22 : decode cX4_cut 22 = .ok (.iload_n 1, 1) := by decide +kernel
theorem dX4_cut_23 : decode cX4_cut 23 = .ok (.ishl, 1) := by decide +kernel
theorem dX4_cut_24 : decode cX4_cut 24 = .ok (.iconst (-1), 1) := by decide +kernel
theorem dX4_cut_25 : decode cX4_cut 25 = .ok (.ixor, 1) := by decide +kernel
theorem dX4_cut_26 : decode cX4_cut 26 = .ok (.iand, 1) := by decide +kernel
theorem dX4_cut_27 : decode cX4_cut 27 = .ok (.iastore, 1) := by decide +kernel
theorem dX4_cut_28 : decode cX4_cut 28 = .ok (.aload_n 0, 1) := by decide +kernel
theorem dX4_cut_29 : decode cX4_cut 29 = .ok (.iload_n 1, 1) := by decide +kernel
theorem dX4_cut_30 : decode cX4_cut 30 = .ok (.iload_n 2, 1) := by decide +kernel
theorem dX4_cut_31 : decode cX4_cut 31 = .ok (.invokevirtual 46, 3) := by decide +kernel
theorem dX4_cut_34 : decode cX4_cut 34 = .ok (.aload_n 0, 1) := by decide +kernel
theorem dX4_cut_35 : decode cX4_cut 35 = .ok (.iload_n 2, 1) := by decide +kernel
theorem dX4_cut_36 : decode cX4_cut 36 = .ok (.iload_n 1, 1) := by decide +kernel
theorem dX4_cut_37 : decode cX4_cut 37 = .ok (.invokevirtual 46, 3) := by decide +kernel
theorem dX4_cut_40 : decode cX4_cut 40 = .ok (.return_, 1) := by decide +kernel
theorem dX4_loseLines_0 : decode cX4_loseLines 0 = .ok (.aload_n 0, 1) := by decide +kernel
theorem dX4_loseLines_1 : decode cX4_loseLines 1 = .ok (.iload_n 1, 1) := by decide +kernel
theorem dX4_loseLines_2 : decode cX4_loseLines 2 = .ok (.iload_n 2, 1) := by decide +kernel
theorem dX4_loseLines_3 : decode cX4_loseLines 3 = .ok (.invokevirtual 50, 3) := by decide +kernel
theorem dX4_loseLines_6 : decode cX4_loseLines 6 = .ok (.astore_n 3, 1) := by decide +kernel
theorem dX4_loseLines_7 : decode cX4_loseLines 7 = .ok (.iconst 0, 1) := by decide +kernel
theorem dX4_loseLines_8 : decode cX4_loseLines 8 = .ok (.istore 4, 2) := by decide +kernel
theorem dX4_loseLines_10 : decode cX4_loseLines 10 = .ok (.iload 4, 2) := by decide +kernel
theorem dX4_loseLines_12 : decode cX4_loseLines 12 = .ok (.ldc 54, 2) := by decide +kernel
theorem dX4_loseLines_14 : decode cX4_loseLines 14 = .ok (.if_icmp .ge 25, 3) := by decide +kernel
theorem dX4_loseLines_17 : decode cX4_loseLines 17 = .ok (.aload_n 3, 1) := by decide +kernel
theorem dX4_loseLines_18 : decode cX4_loseLines 18 = .ok (.ifnull 21, 3) := by decide +kernel
theorem dX4_loseLines_21 : decode cX4_loseLines 21 = .ok (.aload_n 0, 1) := by decide +kernel
theorem dX4_loseLines_22 : decode cX4_loseLines 22 = .ok (.aload_n 3, 1) := by decide +kernel
theorem dX4_loseLines_23 : decode cX4_loseLines 23 = .ok (.invokevirtual 55, 3) := by decide +kernel
theorem dX4_loseLines_26 : decode cX4_loseLines 26 = .ok (.aload_n 0, 1) := by decide +kernel
theorem dX4_loseLines_27 : decode cX4_loseLines 27 = .ok (.iload_n 1, 1) := by decide +kernel
theorem dX4_loseLines_28 : decode cX4_loseLines 28 = .ok (.iload_n 2, 1) := by decide +kernel
theorem dX4_loseLines_29 : decode cX4_loseLines 29 = .ok (.invokevirtual 50, 3) := by decide +kernel
theorem dX4_loseLines_32 : decode cX4_loseLines 32 = .ok (.astore_n 3, 1) := by decide +kernel
theorem dX4_loseLines_33 : decode cX4_loseLines 33 = .ok (.iinc 4 1, 3) := by decide +kernel
theorem dX4_loseLines_36 : decode cX4_loseLines 36 = .ok (.goto (-26), 3) := by decide +kernel
theorem dX4_loseLines_39 : decode cX4_loseLines 39 = .ok (.return_, 1) := by decide +kernel
theorem dX4_spread_0 : decode cX4_spread 0 = .ok (.iconst 0, 1) := by decide +kernel
theorem dX4_spread_1 : decode cX4_spread 1 = .ok (.istore 4, 2) := by decide +kernel
theorem dX4_spread_3 : decode cX4_spread 3 = .ok (.iload 4, 2) := by decide +kernel
theorem dX4_spread_5 : decode cX4_spread 5 = .ok (.bipush 6, 2) := by decide +kernel
theorem dX4_spread_7 : decode cX4_spread 7 = .ok (.if_icmp .ge 33, 3) := by decide +kernel
theorem dX4_spread_10 : decode cX4_spread 10 = .ok (.iload 4, 2) := by decide +kernel
theorem dX4_spread_12 : decode cX4_spread 12 = .ok (.iload_n 2, 1) := by decide +kernel
theorem dX4_spread_13 : decode cX4_spread 13 = .ok (.if_icmp .eq 21, 3) := by decide +kernel
theorem dX4_spread_16 : decode cX4_spread 16 = .ok (.aload_n 0, 1) := by decide +kernel
theorem dX4_spread_17 : decode cX4_spread 17 = .ok (.iload_n 1, 1) := by decide +kernel
theorem dX4_spread_18 : decode cX4_spread 18 = .ok (.iload 4, 2) := by decide +kernel
theorem dX4_spread_20 : decode cX4_spread 20 = .ok (.invokevirtual 59, 3) := by decide +kernel
theorem dX4_spread_23 : decode cX4_spread 23 = .ok (.ifCond .eq 11, 3) := by decide +kernel
theorem dX4_spread_26 : decode cX4_spread 26 = .ok (.aload_n 0, 1) := by decide +kernel
theorem dX4_spread_27 : decode cX4_spread 27 = .ok (.iload_n 1, 1) := by decide +kernel
theorem dX4_spread_28 : decode cX4_spread 28 = .ok (.iload 4, 2) := by decide +kernel
theorem dX4_spread_30 : decode cX4_spread 30 = .ok (.aload_n 3, 1) := by decide +kernel
theorem dX4_spread_31 : decode cX4_spread 31 = .ok (.invokevirtual 62, 3) := by decide +kernel
theorem dX4_spread_34 : decode cX4_spread 34 = .ok (.iinc 4 1, 3) := by decide +kernel
theorem dX4_spread_37 : decode cX4_spread 37 = .ok (.goto (-34), 3) := by decide +kernel
theorem dX4_spread_40 : decode cX4_spread 40 = .ok (.return_, 1) := by decide +kernel
theorem dX4_put_0 : decode cX4_put 0 = .ok (.aload_n 0, 1) := by decide +kernel
theorem dX4_put_1 : decode cX4_put 1 = .ok (.getfield 25, 3) := by decide +kernel
theorem dX4_put_4 : decode cX4_put 4 = .ok (.astore 4, 2) := by decide +kernel
theorem dX4_put_6 : decode cX4_put 6 = .ok (.aload 4, 2) := by decide +kernel
theorem dX4_put_8 : decode cX4_put 8 = .ok (.ifnull 15, 3) := by decide +kernel
theorem dX4_put_11 : decode cX4_put 11 = .ok (.aload_n 0, 1) := by decide +kernel
theorem dX4_put_12 : decode cX4_put 12 = .ok (.aload 4, 2) := by decide +kernel
theorem dX4_put_14 : decode cX4_put 14 = .ok (.getfield 66, 3) := by decide +kernel
theorem dX4_put_17 : decode cX4_put 17 = .ok (.putfield 25, 3) := by decide +kernel
theorem dX4_put_20 : decode cX4_put 20 = .ok (.goto 35, 3) := by decide +kernel
theorem dX4_put_23 : decode cX4_put 23 = .ok (.aload_n 0, 1) := by decide +kernel
theorem dX4_put_24 : decode cX4_put 24 = .ok (.getfield 29, 3) := by decide +kernel
theorem dX4_put_27 : decode cX4_put 27 = .ok (.ldc 54, 2) := by decide +kernel
theorem dX4_put_29 : decode cX4_put 29 = .ok (.if_icmp .ge 25, 3) := by decide +kernel
theorem dX4_put_32 : decode cX4_put 32 = .ok (.aload_n 0, 1) := by decide +kernel
theorem dX4_put_33 : decode cX4_put 33 = .ok (.dup, 1) := by decide +kernel
theorem dX4_put_34 : decode cX4_put 34 = .ok (.getfield 29, 3) := by decide +kernel
theorem dX4_put_37 : decode cX4_put 37 = .ok (.iconst 1, 1) := by decide +kernel
theorem dX4_put_38 : decode cX4_put 38 = .ok (.iadd, 1) := by decide +kernel
theorem dX4_put_39 : decode cX4_put 39 = .ok (.putfield 29, 3) := by decide +kernel
theorem dX4_put_42 : decode cX4_put 42 = .ok (.new 67, 3) := by decide +kernel
theorem dX4_put_45 : decode cX4_put 45 = .ok (.dup, 1) := by decide +kernel
theorem dX4_put_46 : decode cX4_put 46 = .ok (.invokespecial 71, 3) := by decide +kernel
theorem dX4_put_49 : decode cX4_put 49 = .ok (.astore 4, 2) := by decide +kernel
theorem dX4_put_51 : decode cX4_put 51 = .ok (.goto 4, 3) := by decide +kernel
theorem dX4_put_54 : decode cX4_put 54 = .ok (.return_, 1) := by decide +kernel
theorem dX4_put_55 : decode cX4_put 55 = .ok (.aload 4, 2) := by decide +kernel
theorem dX4_put_57 : decode cX4_put 57 = .ok (.aload_n 3, 1) := by decide +kernel
theorem dX4_put_58 : decode cX4_put 58 = .ok (.invokevirtual 72, 3) := by decide +kernel
theorem dX4_put_61 : decode cX4_put 61 = .ok (.aload_n 0, 1) := by decide +kernel
theorem dX4_put_62 : decode cX4_put 62 = .ok (.getfield 17, 3) := by decide +kernel
theorem dX4_put_65 : decode cX4_put 65 = .ok (.iload_n 1, 1) := by decide +kernel
theorem dX4_put_66 : decode cX4_put 66 = .ok (.bipush 6, 2) := by decide +kernel
theorem dX4_put_68 : decode cX4_put 68 = .ok (.imul, 1) := by decide +kernel
theorem dX4_put_69 : decode cX4_put 69 = .ok (.iload_n 2, 1) := by decide +kernel
theorem dX4_put_70 : decode cX4_put 70 = .ok (.iadd, 1) := by decide +kernel
theorem dX4_put_71 : decode cX4_put 71 = .ok (.aaload, 1) := by decide +kernel
theorem dX4_put_72 : decode cX4_put 72 = .ok (.aload 4, 2) := by decide +kernel
theorem dX4_put_74 : decode cX4_put 74 = .ok (.invokevirtual 75, 3) := by decide +kernel
theorem dX4_put_77 : decode cX4_put 77 = .ok (.aload_n 0, 1) := by decide +kernel
theorem dX4_put_78 : decode cX4_put 78 = .ok (.dup, 1) := by decide +kernel
theorem dX4_put_79 : decode cX4_put 79 = .ok (.getfield 21, 3) := by decide +kernel
theorem dX4_put_82 : decode cX4_put 82 = .ok (.iconst 1, 1) := by decide +kernel
theorem dX4_put_83 : decode cX4_put 83 = .ok (.iadd, 1) := by decide +kernel
theorem dX4_put_84 : decode cX4_put 84 = .ok (.putfield 21, 3) := by decide +kernel
theorem dX4_put_87 : decode cX4_put 87 = .ok (.return_, 1) := by decide +kernel
theorem dX4_take_0 : decode cX4_take 0 = .ok (.aload_n 0, 1) := by decide +kernel
theorem dX4_take_1 : decode cX4_take 1 = .ok (.getfield 17, 3) := by decide +kernel
theorem dX4_take_4 : decode cX4_take 4 = .ok (.iload_n 1, 1) := by decide +kernel
theorem dX4_take_5 : decode cX4_take 5 = .ok (.bipush 6, 2) := by decide +kernel
theorem dX4_take_7 : decode cX4_take 7 = .ok (.imul, 1) := by decide +kernel
theorem dX4_take_8 : decode cX4_take 8 = .ok (.iload_n 2, 1) := by decide +kernel
theorem dX4_take_9 : decode cX4_take 9 = .ok (.iadd, 1) := by decide +kernel
theorem dX4_take_10 : decode cX4_take 10 = .ok (.aaload, 1) := by decide +kernel
theorem dX4_take_11 : decode cX4_take 11 = .ok (.invokevirtual 78, 3) := by decide +kernel
theorem dX4_take_14 : decode cX4_take 14 = .ok (.astore_n 3, 1) := by decide +kernel
theorem dX4_take_15 : decode cX4_take 15 = .ok (.aload_n 3, 1) := by decide +kernel
theorem dX4_take_16 : decode cX4_take 16 = .ok (.ifnull 13, 3) := by decide +kernel
theorem dX4_take_19 : decode cX4_take 19 = .ok (.aload_n 0, 1) := by decide +kernel
theorem dX4_take_20 : decode cX4_take 20 = .ok (.dup, 1) := by decide +kernel
theorem dX4_take_21 : decode cX4_take 21 = .ok (.getfield 21, 3) := by decide +kernel
theorem dX4_take_24 : decode cX4_take 24 = .ok (.iconst 1, 1) := by decide +kernel
theorem dX4_take_25 : decode cX4_take 25 = .ok (.isub, 1) := by decide +kernel
theorem dX4_take_26 : decode cX4_take 26 = .ok (.putfield 21, 3) := by decide +kernel
theorem dX4_take_29 : decode cX4_take 29 = .ok (.aload_n 3, 1) := by decide +kernel
theorem dX4_take_30 : decode cX4_take 30 = .ok (.areturn, 1) := by decide +kernel
theorem dX4_keepSpare_0 : decode cX4_keepSpare 0 = .ok (.aload_n 1, 1) := by decide +kernel
theorem dX4_keepSpare_1 : decode cX4_keepSpare 1 = .ok (.aload_n 0, 1) := by decide +kernel
theorem dX4_keepSpare_2 : decode cX4_keepSpare 2 = .ok (.getfield 25, 3) := by decide +kernel
theorem dX4_keepSpare_5 : decode cX4_keepSpare 5 = .ok (.putfield 66, 3) := by decide +kernel
theorem dX4_keepSpare_8 : decode cX4_keepSpare 8 = .ok (.aload_n 0, 1) := by decide +kernel
theorem dX4_keepSpare_9 : decode cX4_keepSpare 9 = .ok (.aload_n 1, 1) := by decide +kernel
theorem dX4_keepSpare_10 : decode cX4_keepSpare 10 = .ok (.putfield 25, 3) := by decide +kernel
theorem dX4_keepSpare_13 : decode cX4_keepSpare 13 = .ok (.return_, 1) := by decide +kernel
theorem dJ6_bitCount_0f7a4_0 : decode cJ6_bitCount_0f7a4 0 = .ok (.iload_n 0, 1) := by decide +kernel
theorem dJ6_bitCount_0f7a4_1 : decode cJ6_bitCount_0f7a4 1 = .ok (.iload_n 0, 1) := by decide +kernel
theorem dJ6_bitCount_0f7a4_2 : decode cJ6_bitCount_0f7a4 2 = .ok (.iconst 1, 1) := by decide +kernel
theorem dJ6_bitCount_0f7a4_3 : decode cJ6_bitCount_0f7a4 3 = .ok (.iushr, 1) := by decide +kernel
theorem dJ6_bitCount_0f7a4_4 : decode cJ6_bitCount_0f7a4 4 = .ok (.ldc_w 265, 3) := by decide +kernel
theorem dJ6_bitCount_0f7a4_7 : decode cJ6_bitCount_0f7a4 7 = .ok (.iand, 1) := by decide +kernel
theorem dJ6_bitCount_0f7a4_8 : decode cJ6_bitCount_0f7a4 8 = .ok (.isub, 1) := by decide +kernel
theorem dJ6_bitCount_0f7a4_9 : decode cJ6_bitCount_0f7a4 9 = .ok (.istore_n 0, 1) := by decide +kernel
theorem dJ6_bitCount_0f7a4_10 : decode cJ6_bitCount_0f7a4 10 = .ok (.iload_n 0, 1) := by decide +kernel
theorem dJ6_bitCount_0f7a4_11 : decode cJ6_bitCount_0f7a4 11 = .ok (.ldc_w 266, 3) := by decide +kernel
theorem dJ6_bitCount_0f7a4_14 : decode cJ6_bitCount_0f7a4 14 = .ok (.iand, 1) := by decide +kernel
theorem dJ6_bitCount_0f7a4_15 : decode cJ6_bitCount_0f7a4 15 = .ok (.iload_n 0, 1) := by decide +kernel
theorem dJ6_bitCount_0f7a4_16 : decode cJ6_bitCount_0f7a4 16 = .ok (.iconst 2, 1) := by decide +kernel
theorem dJ6_bitCount_0f7a4_17 : decode cJ6_bitCount_0f7a4 17 = .ok (.iushr, 1) := by decide +kernel
theorem dJ6_bitCount_0f7a4_18 : decode cJ6_bitCount_0f7a4 18 = .ok (.ldc_w 266, 3) := by decide +kernel
theorem dJ6_bitCount_0f7a4_21 : decode cJ6_bitCount_0f7a4 21 = .ok (.iand, 1) := by decide +kernel
theorem dJ6_bitCount_0f7a4_22 : decode cJ6_bitCount_0f7a4 22 = .ok (.iadd, 1) := by decide +kernel
theorem dJ6_bitCount_0f7a4_23 : decode cJ6_bitCount_0f7a4 23 = .ok (.istore_n 0, 1) := by decide +kernel
theorem dJ6_bitCount_0f7a4_24 : decode cJ6_bitCount_0f7a4 24 = .ok (.iload_n 0, 1) := by decide +kernel
theorem dJ6_bitCount_0f7a4_25 : decode cJ6_bitCount_0f7a4 25 = .ok (.iload_n 0, 1) := by decide +kernel
theorem dJ6_bitCount_0f7a4_26 : decode cJ6_bitCount_0f7a4 26 = .ok (.iconst 4, 1) := by decide +kernel
theorem dJ6_bitCount_0f7a4_27 : decode cJ6_bitCount_0f7a4 27 = .ok (.iushr, 1) := by decide +kernel
theorem dJ6_bitCount_0f7a4_28 : decode cJ6_bitCount_0f7a4 28 = .ok (.iadd, 1) := by decide +kernel
theorem dJ6_bitCount_0f7a4_29 : decode cJ6_bitCount_0f7a4 29 = .ok (.ldc_w 267, 3) := by decide +kernel
theorem dJ6_bitCount_0f7a4_32 : decode cJ6_bitCount_0f7a4 32 = .ok (.iand, 1) := by decide +kernel
theorem dJ6_bitCount_0f7a4_33 : decode cJ6_bitCount_0f7a4 33 = .ok (.istore_n 0, 1) := by decide +kernel
theorem dJ6_bitCount_0f7a4_34 : decode cJ6_bitCount_0f7a4 34 = .ok (.iload_n 0, 1) := by decide +kernel
theorem dJ6_bitCount_0f7a4_35 : decode cJ6_bitCount_0f7a4 35 = .ok (.iload_n 0, 1) := by decide +kernel
theorem dJ6_bitCount_0f7a4_36 : decode cJ6_bitCount_0f7a4 36 = .ok (.bipush 8, 2) := by decide +kernel
theorem dJ6_bitCount_0f7a4_38 : decode cJ6_bitCount_0f7a4 38 = .ok (.iushr, 1) := by decide +kernel
theorem dJ6_bitCount_0f7a4_39 : decode cJ6_bitCount_0f7a4 39 = .ok (.iadd, 1) := by decide +kernel
theorem dJ6_bitCount_0f7a4_40 : decode cJ6_bitCount_0f7a4 40 = .ok (.istore_n 0, 1) := by decide +kernel
theorem dJ6_bitCount_0f7a4_41 : decode cJ6_bitCount_0f7a4 41 = .ok (.iload_n 0, 1) := by decide +kernel
theorem dJ6_bitCount_0f7a4_42 : decode cJ6_bitCount_0f7a4 42 = .ok (.iload_n 0, 1) := by decide +kernel
theorem dJ6_bitCount_0f7a4_43 : decode cJ6_bitCount_0f7a4 43 = .ok (.bipush 16, 2) := by decide +kernel
theorem dJ6_bitCount_0f7a4_45 : decode cJ6_bitCount_0f7a4 45 = .ok (.iushr, 1) := by decide +kernel
theorem dJ6_bitCount_0f7a4_46 : decode cJ6_bitCount_0f7a4 46 = .ok (.iadd, 1) := by decide +kernel
theorem dJ6_bitCount_0f7a4_47 : decode cJ6_bitCount_0f7a4 47 = .ok (.istore_n 0, 1) := by decide +kernel
theorem dJ6_bitCount_0f7a4_48 : decode cJ6_bitCount_0f7a4 48 = .ok (.iload_n 0, 1) := by decide +kernel
theorem dJ6_bitCount_0f7a4_49 : decode cJ6_bitCount_0f7a4 49 = .ok (.bipush 63, 2) := by decide +kernel
theorem dJ6_bitCount_0f7a4_51 : decode cJ6_bitCount_0f7a4 51 = .ok (.iand, 1) := by decide +kernel
theorem dJ6_bitCount_0f7a4_52 : decode cJ6_bitCount_0f7a4 52 = .ok (.ireturn, 1) := by decide +kernel
theorem dJ9_min_7cf53_0 : decode cJ9_min_7cf53 0 = .ok (.iload_n 0, 1) := by decide +kernel
theorem dJ9_min_7cf53_1 : decode cJ9_min_7cf53 1 = .ok (.iload_n 1, 1) := by decide +kernel
theorem dJ9_min_7cf53_2 : decode cJ9_min_7cf53 2 = .ok (.if_icmp .gt 7, 3) := by decide +kernel
theorem dJ9_min_7cf53_5 : decode cJ9_min_7cf53 5 = .ok (.iload_n 0, 1) := by decide +kernel
theorem dJ9_min_7cf53_6 : decode cJ9_min_7cf53 6 = .ok (.goto 4, 3) := by decide +kernel
theorem dJ9_min_7cf53_9 : decode cJ9_min_7cf53 9 = .ok (.iload_n 1, 1) := by decide +kernel
theorem dJ9_min_7cf53_10 : decode cJ9_min_7cf53 10 = .ok (.ireturn, 1) := by decide +kernel
