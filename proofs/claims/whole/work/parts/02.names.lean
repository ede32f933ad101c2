/-! ===== BEGIN words of one list among another's, by their places ===== -/
theorem goodIn_r {big : List Cond} (ws : List Cond) (ps : List Nat) (hp : ws = ps.filterMap (fun i => big[i]?)) (h : ws.all goodWord = true) : GoodIn big ws := by
  intro w hw
  have h1 := List.all_eq_true.mp h w hw
  rw [hp] at hw
  obtain ⟨i, -, hi⟩ := List.mem_filterMap.mp hw
  have hm : w ∈ big := by first | exact List.mem_of_getElem? hi | exact List.getElem?_mem hi
  exact ⟨hm, good_of_word h1⟩
theorem goodIn_app {big a b : List Cond} (ha : GoodIn big a) (hb : GoodIn big b) : GoodIn big (a ++ b) := fun w h => (List.mem_append.mp h).elim (ha w) (hb w)
theorem goodIn_ca {big a b : List Cond} {c : Cond} (ha : GoodIn big (c :: a)) (hb : GoodIn big b) : GoodIn big (c :: (a ++ b)) := fun w h => (List.mem_cons.mp h).elim (fun e => ha w (List.mem_cons.mpr (Or.inl e))) (fun h => (List.mem_append.mp h).elim (fun h => ha w (List.mem_cons.mpr (Or.inr h))) (hb w))
theorem goodIn_sub {big ws : List Cond} (hm : ∀ w ∈ ws, w ∈ big) (h : ws.all goodWord = true) : GoodIn big ws := fun w hw => ⟨hm w hw, good_of_word (List.all_eq_true.mp h w hw)⟩
/-! ===== END ===== -/

/-! ===== BEGIN printed: names, fields, word lists, decode rows ===== -/
def RX0 : String := "NetWalkers$Hands"
def TX0 : u_T := fun k => match k with
  | _ => ("NetWalkers$Hands", "net", "LNetWalkers$Net;", true)
def tyX0 : Nat → FieldType := fun k => match k with
  | _ => .object "NetWalkers$Net"
abbrev wsX00 : List Cond := u_ws RX0 TX0 1
theorem nmX0 : ∀ a, a < 1 → ∀ b, b < 1 → a ≠ b → (TX0 a).2.1 ≠ (TX0 b).2.1 := by decide +kernel
theorem tyX0_ok : ∀ k, k < 1 → parseFieldDescriptor (TX0 k).2.2.1 = some (tyX0 k) := by decide +kernel
abbrev cX0_init : ByteArray := prog_2_method_1_code
def yX0_init : MethodName := ⟨RX0, "<init>", "(LNetWalkers$Net;)V"⟩
abbrev cX0_start : ByteArray := prog_2_method_2_code
def yX0_start : MethodName := ⟨RX0, "start", "(I)I"⟩
abbrev cX0_postAt : ByteArray := prog_2_method_3_code
def yX0_postAt : MethodName := ⟨RX0, "postAt", "(I)I"⟩
abbrev cX0_sendOn : ByteArray := prog_2_method_4_code
def yX0_sendOn : MethodName := ⟨RX0, "sendOn", "(I)I"⟩
abbrev cX0_isMarkTime : ByteArray := prog_2_method_5_code
def yX0_isMarkTime : MethodName := ⟨RX0, "isMarkTime", "(I)Z"⟩
abbrev cX0_stepsToAll : ByteArray := prog_2_method_6_code
def yX0_stepsToAll : MethodName := ⟨RX0, "stepsToAll", "(I)I"⟩
abbrev cX0_ringLength : ByteArray := prog_2_method_7_code
def yX0_ringLength : MethodName := ⟨RX0, "ringLength", "(I)I"⟩
abbrev cX0_stepsAhead : ByteArray := prog_2_method_8_code
def yX0_stepsAhead : MethodName := ⟨RX0, "stepsAhead", "(II)I"⟩
def RX1 : String := "NetWalkers$Looks"
def TX1 : u_T := fun k => match k with
  | 0 => ("NetWalkers$Looks", "net", "LNetWalkers$Net;", true)
  | 1 => ("NetWalkers$Looks", "kinds", "[I", true)
  | 2 => ("NetWalkers$Looks", "finer", "[I", true)
  | _ => ("NetWalkers$Looks", "count", "I", false)
def tyX1 : Nat → FieldType := fun k => match k with
  | 0 => .object "NetWalkers$Net"
  | 1 => .array .int
  | 2 => .array .int
  | _ => .int
abbrev wsX10 : List Cond := u_ws RX1 TX1 4
theorem nmX1 : ∀ a, a < 4 → ∀ b, b < 4 → a ≠ b → (TX1 a).2.1 ≠ (TX1 b).2.1 := by decide +kernel
theorem tyX1_ok : ∀ k, k < 4 → parseFieldDescriptor (TX1 k).2.2.1 = some (tyX1 k) := by decide +kernel
abbrev cX1_init : ByteArray := prog_3_method_1_code
def yX1_init : MethodName := ⟨RX1, "<init>", "(LNetWalkers$Net;)V"⟩
abbrev cX1_kindOf : ByteArray := prog_3_method_2_code
def yX1_kindOf : MethodName := ⟨RX1, "kindOf", "(I)I"⟩
abbrev cX1_lookTo : ByteArray := prog_3_method_3_code
def yX1_lookTo : MethodName := ⟨RX1, "lookTo", "(I)I"⟩
abbrev cX1_depthApart : ByteArray := prog_3_method_4_code
def yX1_depthApart : MethodName := ⟨RX1, "depthApart", "(II)I"⟩
abbrev cX1_lookAtDegrees : ByteArray := prog_3_method_5_code
def yX1_lookAtDegrees : MethodName := ⟨RX1, "lookAtDegrees", "()V"⟩
abbrev cX1_lookDeeper : ByteArray := prog_3_method_6_code
def yX1_lookDeeper : MethodName := ⟨RX1, "lookDeeper", "()V"⟩
abbrev cX1_split : ByteArray := prog_3_method_7_code
def yX1_split : MethodName := ⟨RX1, "split", "(Z)V"⟩
abbrev cX1_leastLike : ByteArray := prog_3_method_8_code
def yX1_leastLike : MethodName := ⟨RX1, "leastLike", "(IZ)I"⟩
abbrev cX1_staysAlike : ByteArray := prog_3_method_9_code
def yX1_staysAlike : MethodName := ⟨RX1, "staysAlike", "(II)Z"⟩
def RX2 : String := "NetWalkers$Net"
def TX2 : u_T := fun k => match k with
  | 0 => ("NetWalkers$Net", "ends", "[I", true)
  | 1 => ("NetWalkers$Net", "bads", "[Z", true)
  | 2 => ("NetWalkers$Net", "degrees", "[I", true)
  | 3 => ("NetWalkers$Net", "size", "I", false)
  | _ => ("NetWalkers$Net", "pairs", "I", false)
def tyX2 : Nat → FieldType := fun k => match k with
  | 0 => .array .int
  | 1 => .array .boolean
  | 2 => .array .int
  | 3 => .int
  | _ => .int
abbrev wsX20 : List Cond := u_ws RX2 TX2 5
theorem nmX2 : ∀ a, a < 5 → ∀ b, b < 5 → a ≠ b → (TX2 a).2.1 ≠ (TX2 b).2.1 := by decide +kernel
theorem tyX2_ok : ∀ k, k < 5 → parseFieldDescriptor (TX2 k).2.2.1 = some (tyX2 k) := by decide +kernel
abbrev cX2_init : ByteArray := prog_4_method_1_code
def yX2_init : MethodName := ⟨RX2, "<init>", "()V"⟩
abbrev cX2_begin : ByteArray := prog_4_method_2_code
def yX2_begin : MethodName := ⟨RX2, "begin", "(I)V"⟩
abbrev cX2_hasPost : ByteArray := prog_4_method_3_code
def yX2_hasPost : MethodName := ⟨RX2, "hasPost", "(I)Z"⟩
abbrev cX2_hasPlace : ByteArray := prog_4_method_4_code
def yX2_hasPlace : MethodName := ⟨RX2, "hasPlace", "(II)Z"⟩
abbrev cX2_allPosts : ByteArray := prog_4_method_5_code
def yX2_allPosts : MethodName := ⟨RX2, "allPosts", "()I"⟩
abbrev cX2_degreeOf : ByteArray := prog_4_method_6_code
def yX2_degreeOf : MethodName := ⟨RX2, "degreeOf", "(I)I"⟩
abbrev cX2_endOf : ByteArray := prog_4_method_7_code
def yX2_endOf : MethodName := ⟨RX2, "endOf", "(I)I"⟩
abbrev cX2_isBad : ByteArray := prog_4_method_8_code
def yX2_isBad : MethodName := ⟨RX2, "isBad", "(I)Z"⟩
abbrev cX2_setBad : ByteArray := prog_4_method_9_code
def yX2_setBad : MethodName := ⟨RX2, "setBad", "(IZ)V"⟩
abbrev cX2_badDoors : ByteArray := prog_4_method_10_code
def yX2_badDoors : MethodName := ⟨RX2, "badDoors", "()I"⟩
abbrev cX2_tie : ByteArray := prog_4_method_11_code
def yX2_tie : MethodName := ⟨RX2, "tie", "(II)V"⟩
abbrev cX2_untie : ByteArray := prog_4_method_12_code
def yX2_untie : MethodName := ⟨RX2, "untie", "(II)V"⟩
abbrev cX2_setEnd : ByteArray := prog_4_method_13_code
def yX2_setEnd : MethodName := ⟨RX2, "setEnd", "(III)V"⟩
abbrev cX2_isReady : ByteArray := prog_4_method_14_code
def yX2_isReady : MethodName := ⟨RX2, "isReady", "()Z"⟩
abbrev cX2_hasFirstDoors : ByteArray := prog_4_method_15_code
def yX2_hasFirstDoors : MethodName := ⟨RX2, "hasFirstDoors", "(I)Z"⟩
abbrev cX2_reachedFromFirst : ByteArray := prog_4_method_16_code
def yX2_reachedFromFirst : MethodName := ⟨RX2, "reachedFromFirst", "()I"⟩
abbrev cX2_through : ByteArray := prog_4_method_17_code
def yX2_through : MethodName := ⟨RX2, "through", "(I)I"⟩
abbrev cX2_walkOn : ByteArray := prog_4_method_18_code
def yX2_walkOn : MethodName := ⟨RX2, "walkOn", "(III)I"⟩
def RX3 : String := "NetWalkers$Rings"
def TX3 : u_T := fun k => match k with
  | 0 => ("NetWalkers$Rings", "lengths", "[I", true)
  | _ => ("NetWalkers$Rings", "found", "[I", true)
def tyX3 : Nat → FieldType := fun k => match k with
  | 0 => .array .int
  | _ => .array .int
abbrev wsX30 : List Cond := u_ws RX3 TX3 2
theorem nmX3 : ∀ a, a < 2 → ∀ b, b < 2 → a ≠ b → (TX3 a).2.1 ≠ (TX3 b).2.1 := by decide +kernel
theorem tyX3_ok : ∀ k, k < 2 → parseFieldDescriptor (TX3 k).2.2.1 = some (tyX3 k) := by decide +kernel
abbrev cX3_init : ByteArray := prog_5_method_1_code
def yX3_init : MethodName := ⟨RX3, "<init>", "()V"⟩
abbrev cX3_lengthFor : ByteArray := prog_5_method_2_code
def yX3_lengthFor : MethodName := ⟨RX3, "lengthFor", "(I)I"⟩
abbrev cX3_numberFor : ByteArray := prog_5_method_3_code
def yX3_numberFor : MethodName := ⟨RX3, "numberFor", "(II)I"⟩
abbrev cX3_find : ByteArray := prog_5_method_4_code
def yX3_find : MethodName := ⟨RX3, "find", "(I)V"⟩
abbrev cX3_firstOfLength : ByteArray := prog_5_method_5_code
def yX3_firstOfLength : MethodName := ⟨RX3, "firstOfLength", "(II)I"⟩
abbrev cX3_walksAllRings : ByteArray := prog_5_method_6_code
def yX3_walksAllRings : MethodName := ⟨RX3, "walksAllRings", "(III)Z"⟩
abbrev cX3_walksAll : ByteArray := prog_5_method_7_code
def yX3_walksAll : MethodName := ⟨RX3, "walksAll", "(IIIII)Z"⟩
abbrev cX3_numberOf : ByteArray := prog_5_method_8_code
def yX3_numberOf : MethodName := ⟨RX3, "numberOf", "(III)I"⟩
def RX4 : String := "NetWalkers$Row"
def TX4 : u_T := fun k => match k with
  | 0 => ("NetWalkers$Row", "numbers", "[I", true)
  | _ => ("NetWalkers$Row", "length", "I", false)
def tyX4 : Nat → FieldType := fun k => match k with
  | 0 => .array .int
  | _ => .int
abbrev wsX40 : List Cond := u_ws RX4 TX4 2
theorem nmX4 : ∀ a, a < 2 → ∀ b, b < 2 → a ≠ b → (TX4 a).2.1 ≠ (TX4 b).2.1 := by decide +kernel
theorem tyX4_ok : ∀ k, k < 2 → parseFieldDescriptor (TX4 k).2.2.1 = some (tyX4 k) := by decide +kernel
abbrev cX4_init : ByteArray := prog_6_method_1_code
def yX4_init : MethodName := ⟨RX4, "<init>", "()V"⟩
abbrev cX4_isFull : ByteArray := prog_6_method_2_code
def yX4_isFull : MethodName := ⟨RX4, "isFull", "()Z"⟩
abbrev cX4_append : ByteArray := prog_6_method_3_code
def yX4_append : MethodName := ⟨RX4, "append", "(I)V"⟩
abbrev cX4_empty : ByteArray := prog_6_method_4_code
def yX4_empty : MethodName := ⟨RX4, "empty", "()I"⟩
abbrev cX4_has : ByteArray := prog_6_method_5_code
def yX4_has : MethodName := ⟨RX4, "has", "(I)Z"⟩
abbrev cX4_numberAt : ByteArray := prog_6_method_6_code
def yX4_numberAt : MethodName := ⟨RX4, "numberAt", "(I)I"⟩
def RX5 : String := "NetWalkers"
def TX5 : u_T := fun k => match k with
  | 0 => ("NetWalkers", "net", "LNetWalkers$Net;", true)
  | 1 => ("NetWalkers", "row", "LNetWalkers$Row;", true)
  | 2 => ("NetWalkers", "otherRow", "LNetWalkers$Row;", true)
  | 3 => ("NetWalkers", "hands", "LNetWalkers$Hands;", true)
  | 4 => ("NetWalkers", "looks", "LNetWalkers$Looks;", true)
  | _ => ("NetWalkers", "rings", "LNetWalkers$Rings;", true)
def tyX5 : Nat → FieldType := fun k => match k with
  | 0 => .object "NetWalkers$Net"
  | 1 => .object "NetWalkers$Row"
  | 2 => .object "NetWalkers$Row"
  | 3 => .object "NetWalkers$Hands"
  | 4 => .object "NetWalkers$Looks"
  | _ => .object "NetWalkers$Rings"
abbrev wsX50 : List Cond := u_ws RX5 TX5 6
theorem nmX5 : ∀ a, a < 6 → ∀ b, b < 6 → a ≠ b → (TX5 a).2.1 ≠ (TX5 b).2.1 := by decide +kernel
theorem tyX5_ok : ∀ k, k < 6 → parseFieldDescriptor (TX5 k).2.2.1 = some (tyX5 k) := by decide +kernel
abbrev cX5_init : ByteArray := prog_1_method_1_code
def yX5_init : MethodName := ⟨RX5, "<init>", "()V"⟩
abbrev cX5_posts : ByteArray := prog_1_method_2_code
def yX5_posts : MethodName := ⟨RX5, "posts", "(I)I"⟩
abbrev cX5_join : ByteArray := prog_1_method_3_code
def yX5_join : MethodName := ⟨RX5, "join", "(IIII)I"⟩
abbrev cX5_part : ByteArray := prog_1_method_4_code
def yX5_part : MethodName := ⟨RX5, "part", "(II)I"⟩
abbrev cX5_bad : ByteArray := prog_1_method_5_code
def yX5_bad : MethodName := ⟨RX5, "bad", "(IIZ)I"⟩
abbrev cX5_leads : ByteArray := prog_1_method_6_code
def yX5_leads : MethodName := ⟨RX5, "leads", "(II)I"⟩
abbrev cX5_ready : ByteArray := prog_1_method_7_code
def yX5_ready : MethodName := ⟨RX5, "ready", "()I"⟩
abbrev cX5_degree : ByteArray := prog_1_method_8_code
def yX5_degree : MethodName := ⟨RX5, "degree", "(I)I"⟩
abbrev cX5_add : ByteArray := prog_1_method_9_code
def yX5_add : MethodName := ⟨RX5, "add", "(II)I"⟩
abbrev cX5_clear : ByteArray := prog_1_method_10_code
def yX5_clear : MethodName := ⟨RX5, "clear", "(I)I"⟩
abbrev cX5_after : ByteArray := prog_1_method_11_code
def yX5_after : MethodName := ⟨RX5, "after", "(III)I"⟩
abbrev cX5_walks : ByteArray := prog_1_method_12_code
def yX5_walks : MethodName := ⟨RX5, "walks", "(II)I"⟩
abbrev cX5_fails : ByteArray := prog_1_method_13_code
def yX5_fails : MethodName := ⟨RX5, "fails", "(I)I"⟩
abbrev cX5_sent : ByteArray := prog_1_method_14_code
def yX5_sent : MethodName := ⟨RX5, "sent", "(II)I"⟩
abbrev cX5_next : ByteArray := prog_1_method_15_code
def yX5_next : MethodName := ⟨RX5, "next", "(I)I"⟩
abbrev cX5_look : ByteArray := prog_1_method_16_code
def yX5_look : MethodName := ⟨RX5, "look", "(II)I"⟩
abbrev cX5_classes : ByteArray := prog_1_method_17_code
def yX5_classes : MethodName := ⟨RX5, "classes", "(I)I"⟩
abbrev cX5_deep : ByteArray := prog_1_method_18_code
def yX5_deep : MethodName := ⟨RX5, "deep", "()I"⟩
abbrev cX5_apart : ByteArray := prog_1_method_19_code
def yX5_apart : MethodName := ⟨RX5, "apart", "(II)I"⟩
abbrev cX5_meet : ByteArray := prog_1_method_20_code
def yX5_meet : MethodName := ⟨RX5, "meet", "(IIIZ)I"⟩
abbrev cX5_worst : ByteArray := prog_1_method_21_code
def yX5_worst : MethodName := ⟨RX5, "worst", "(IZ)I"⟩
abbrev cX5_ring : ByteArray := prog_1_method_22_code
def yX5_ring : MethodName := ⟨RX5, "ring", "(II)I"⟩
abbrev cX5_told : ByteArray := prog_1_method_23_code
def yX5_told : MethodName := ⟨RX5, "told", "(I)I"⟩
abbrev cX5_isWhich : ByteArray := prog_1_method_24_code
def yX5_isWhich : MethodName := ⟨RX5, "isWhich", "(I)Z"⟩
abbrev cX5_isHow : ByteArray := prog_1_method_25_code
def yX5_isHow : MethodName := ⟨RX5, "isHow", "(I)Z"⟩
abbrev cX5_isDepth : ByteArray := prog_1_method_26_code
def yX5_isDepth : MethodName := ⟨RX5, "isDepth", "(I)Z"⟩
abbrev cX5_rowOf : ByteArray := prog_1_method_27_code
def yX5_rowOf : MethodName := ⟨RX5, "rowOf", "(Z)LNetWalkers$Row;"⟩
abbrev cX5_placeOf : ByteArray := prog_1_method_28_code
def yX5_placeOf : MethodName := ⟨RX5, "placeOf", "(II)I"⟩
abbrev cX5_postOf : ByteArray := prog_1_method_29_code
def yX5_postOf : MethodName := ⟨RX5, "postOf", "(I)I"⟩
abbrev cX5_doorOf : ByteArray := prog_1_method_30_code
def yX5_doorOf : MethodName := ⟨RX5, "doorOf", "(I)I"⟩
abbrev cX5_asTold : ByteArray := prog_1_method_31_code
def yX5_asTold : MethodName := ⟨RX5, "asTold", "(I)I"⟩
abbrev cX5_follow : ByteArray := prog_1_method_32_code
def yX5_follow : MethodName := ⟨RX5, "follow", "(ILNetWalkers$Row;II)I"⟩
abbrev cX5_stepsToAll : ByteArray := prog_1_method_33_code
def yX5_stepsToAll : MethodName := ⟨RX5, "stepsToAll", "(II)I"⟩
abbrev cX5_meetingStep : ByteArray := prog_1_method_34_code
def yX5_meetingStep : MethodName := ⟨RX5, "meetingStep", "(IIILNetWalkers$Row;)I"⟩
abbrev cX5_latestMeeting : ByteArray := prog_1_method_35_code
def yX5_latestMeeting : MethodName := ⟨RX5, "latestMeeting", "(IIILNetWalkers$Row;)I"⟩
def RX6 : String := "NetWalkersModel"
def TX6 : u_T := fun k => match k with
  | 0 => ("NetWalkersModel", "posts", "I", false)
  | 1 => ("NetWalkersModel", "to", "[I", true)
  | 2 => ("NetWalkersModel", "isBad", "[Z", true)
  | 3 => ("NetWalkersModel", "length", "[I", true)
  | 4 => ("NetWalkersModel", "row", "[I", true)
  | 5 => ("NetWalkersModel", "at", "I", false)
  | 6 => ("NetWalkersModel", "by", "I", false)
  | 7 => ("NetWalkersModel", "look", "[I", true)
  | 8 => ("NetWalkersModel", "deeper", "[I", true)
  | 9 => ("NetWalkersModel", "classes", "I", false)
  | 10 => ("NetWalkersModel", "shortest", "[I", true)
  | _ => ("NetWalkersModel", "found", "[I", true)
def tyX6 : Nat → FieldType := fun k => match k with
  | 0 => .int
  | 1 => .array .int
  | 2 => .array .boolean
  | 3 => .array .int
  | 4 => .array .int
  | 5 => .int
  | 6 => .int
  | 7 => .array .int
  | 8 => .array .int
  | 9 => .int
  | 10 => .array .int
  | _ => .array .int
abbrev wsX60 : List Cond := u_ws RX6 TX6 12
theorem nmX6 : ∀ a, a < 12 → ∀ b, b < 12 → a ≠ b → (TX6 a).2.1 ≠ (TX6 b).2.1 := by decide +kernel
theorem tyX6_ok : ∀ k, k < 12 → parseFieldDescriptor (TX6 k).2.2.1 = some (tyX6 k) := by decide +kernel
abbrev cX6_init : ByteArray := prog_8_method_1_code
def yX6_init : MethodName := ⟨RX6, "<init>", "()V"⟩
abbrev cX6_in : ByteArray := prog_8_method_2_code
def yX6_in : MethodName := ⟨RX6, "in", "(III)Z"⟩
abbrev cX6_begin : ByteArray := prog_8_method_3_code
def yX6_begin : MethodName := ⟨RX6, "begin", "()V"⟩
abbrev cX6_isPost : ByteArray := prog_8_method_4_code
def yX6_isPost : MethodName := ⟨RX6, "isPost", "(I)Z"⟩
abbrev cX6_isDoor : ByteArray := prog_8_method_5_code
def yX6_isDoor : MethodName := ⟨RX6, "isDoor", "(II)Z"⟩
abbrev cX6_posts : ByteArray := prog_8_method_6_code
def yX6_posts : MethodName := ⟨RX6, "posts", "(I)I"⟩
abbrev cX6_pairs : ByteArray := prog_8_method_7_code
def yX6_pairs : MethodName := ⟨RX6, "pairs", "()I"⟩
abbrev cX6_join : ByteArray := prog_8_method_8_code
def yX6_join : MethodName := ⟨RX6, "join", "(IIII)I"⟩
abbrev cX6_named : ByteArray := prog_8_method_9_code
def yX6_named : MethodName := ⟨RX6, "named", "(I)I"⟩
abbrev cX6_part : ByteArray := prog_8_method_10_code
def yX6_part : MethodName := ⟨RX6, "part", "(II)I"⟩
abbrev cX6_bad : ByteArray := prog_8_method_11_code
def yX6_bad : MethodName := ⟨RX6, "bad", "(IIZ)I"⟩
abbrev cX6_leads : ByteArray := prog_8_method_12_code
def yX6_leads : MethodName := ⟨RX6, "leads", "(II)I"⟩
abbrev cX6_degreeOf : ByteArray := prog_8_method_13_code
def yX6_degreeOf : MethodName := ⟨RX6, "degreeOf", "(I)I"⟩
abbrev cX6_degree : ByteArray := prog_8_method_14_code
def yX6_degree : MethodName := ⟨RX6, "degree", "(I)I"⟩
abbrev cX6_all : ByteArray := prog_8_method_15_code
def yX6_all : MethodName := ⟨RX6, "all", "()I"⟩
abbrev cX6_isReady : ByteArray := prog_8_method_16_code
def yX6_isReady : MethodName := ⟨RX6, "isReady", "()Z"⟩
abbrev cX6_ready : ByteArray := prog_8_method_17_code
def yX6_ready : MethodName := ⟨RX6, "ready", "()I"⟩
abbrev cX6_add : ByteArray := prog_8_method_18_code
def yX6_add : MethodName := ⟨RX6, "add", "(II)I"⟩
abbrev cX6_clear : ByteArray := prog_8_method_19_code
def yX6_clear : MethodName := ⟨RX6, "clear", "(I)I"⟩
abbrev cX6_go : ByteArray := prog_8_method_20_code
def yX6_go : MethodName := ⟨RX6, "go", "(I)V"⟩
abbrev cX6_step : ByteArray := prog_8_method_21_code
def yX6_step : MethodName := ⟨RX6, "step", "(II)V"⟩
abbrev cX6_place : ByteArray := prog_8_method_22_code
def yX6_place : MethodName := ⟨RX6, "place", "(I)V"⟩
abbrev cX6_after : ByteArray := prog_8_method_23_code
def yX6_after : MethodName := ⟨RX6, "after", "(III)I"⟩
abbrev cX6_walkOf : ByteArray := prog_8_method_24_code
def yX6_walkOf : MethodName := ⟨RX6, "walkOf", "(II)I"⟩
abbrev cX6_walks : ByteArray := prog_8_method_25_code
def yX6_walks : MethodName := ⟨RX6, "walks", "(II)I"⟩
abbrev cX6_fails : ByteArray := prog_8_method_26_code
def yX6_fails : MethodName := ⟨RX6, "fails", "(I)I"⟩
abbrev cX6_sentOn : ByteArray := prog_8_method_27_code
def yX6_sentOn : MethodName := ⟨RX6, "sentOn", "(I)I"⟩
abbrev cX6_sentAll : ByteArray := prog_8_method_28_code
def yX6_sentAll : MethodName := ⟨RX6, "sentAll", "(I)I"⟩
abbrev cX6_ringOf : ByteArray := prog_8_method_29_code
def yX6_ringOf : MethodName := ⟨RX6, "ringOf", "(II)I"⟩
abbrev cX6_sent : ByteArray := prog_8_method_30_code
def yX6_sent : MethodName := ⟨RX6, "sent", "(II)I"⟩
abbrev cX6_next : ByteArray := prog_8_method_31_code
def yX6_next : MethodName := ⟨RX6, "next", "(I)I"⟩
abbrev cX6_areAlike : ByteArray := prog_8_method_32_code
def yX6_areAlike : MethodName := ⟨RX6, "areAlike", "(II)Z"⟩
abbrev cX6_layLooks : ByteArray := prog_8_method_33_code
def yX6_layLooks : MethodName := ⟨RX6, "layLooks", "(I)V"⟩
abbrev cX6_look : ByteArray := prog_8_method_34_code
def yX6_look : MethodName := ⟨RX6, "look", "(II)I"⟩
abbrev cX6_classes : ByteArray := prog_8_method_35_code
def yX6_classes : MethodName := ⟨RX6, "classes", "(I)I"⟩
abbrev cX6_classesAt : ByteArray := prog_8_method_36_code
def yX6_classesAt : MethodName := ⟨RX6, "classesAt", "(I)I"⟩
abbrev cX6_deep : ByteArray := prog_8_method_37_code
def yX6_deep : MethodName := ⟨RX6, "deep", "()I"⟩
abbrev cX6_apart : ByteArray := prog_8_method_38_code
def yX6_apart : MethodName := ⟨RX6, "apart", "(II)I"⟩
abbrev cX6_meetOf : ByteArray := prog_8_method_39_code
def yX6_meetOf : MethodName := ⟨RX6, "meetOf", "(IIII)I"⟩
abbrev cX6_meet : ByteArray := prog_8_method_40_code
def yX6_meet : MethodName := ⟨RX6, "meet", "(IIIZ)I"⟩
abbrev cX6_worst : ByteArray := prog_8_method_41_code
def yX6_worst : MethodName := ⟨RX6, "worst", "(IZ)I"⟩
abbrev cX6_walksRing : ByteArray := prog_8_method_42_code
def yX6_walksRing : MethodName := ⟨RX6, "walksRing", "(IIIII)Z"⟩
abbrev cX6_walksAllRings : ByteArray := prog_8_method_43_code
def yX6_walksAllRings : MethodName := ⟨RX6, "walksAllRings", "(III)Z"⟩
abbrev cX6_findRing : ByteArray := prog_8_method_44_code
def yX6_findRing : MethodName := ⟨RX6, "findRing", "(I)V"⟩
abbrev cX6_ring : ByteArray := prog_8_method_45_code
def yX6_ring : MethodName := ⟨RX6, "ring", "(II)I"⟩
abbrev cX6_told : ByteArray := prog_8_method_46_code
def yX6_told : MethodName := ⟨RX6, "told", "(I)I"⟩
def RJ9 : String := "java/lang/Math"
def TJ9 : u_T := fun k => match k with
  | _ => ("", "", "", false)
def tyJ9 : Nat → FieldType := fun k => match k with
  | _ => .int
abbrev wsJ90 : List Cond := u_ws RJ9 TJ9 0
theorem nmJ9 : ∀ a, a < 0 → ∀ b, b < 0 → a ≠ b → (TJ9 a).2.1 ≠ (TJ9 b).2.1 := by decide +kernel
theorem tyJ9_ok : ∀ k, k < 0 → parseFieldDescriptor (TJ9 k).2.2.1 = some (tyJ9 k) := by decide +kernel
abbrev cJ9_max_7cf53 : ByteArray := prog_9_method_65_code
def yJ9_max_7cf53 : MethodName := ⟨RJ9, "max", "(II)I"⟩
def RL : String := "NetWalkersLaw"
abbrev cL_law : ByteArray := code
def yL_law : MethodName := ⟨RL, "law", "([I)Z"⟩
def wsX0_init : List Cond := .code yX0_init cX0_init 2 none :: ([.methodLink RX0 5 objectInit, .instanceMethod objectInit, .code objectInit ⟨#[0xb1]⟩ 1 none, .fieldLink RX0 11 "NetWalkers$Hands" "net" "LNetWalkers$Net;"] ++ wsX00)
def wsX0_start : List Cond := .code yX0_start cX0_start 1 (some .int) :: ([])
def wsX0_postAt : List Cond := .code yX0_postAt cX0_postAt 1 (some .int) :: ([])
def wsX2_degreeOf : List Cond := .code yX2_degreeOf cX2_degreeOf 2 (some .int) :: ([.fieldLink RX2 19 "NetWalkers$Net" "degrees" "[I"] ++ wsX20)
def wsX5_placeOf : List Cond := .code yX5_placeOf cX5_placeOf 2 (some .int) :: ([])
def wsX2_endOf : List Cond := .code yX2_endOf cX2_endOf 2 (some .int) :: ([.fieldLink RX2 9 "NetWalkers$Net" "ends" "[I"] ++ wsX20)
def wsX2_isBad : List Cond := .code yX2_isBad cX2_isBad 2 (some .boolean) :: ([.fieldLink RX2 15 "NetWalkers$Net" "bads" "[Z"] ++ wsX20)
def wsX2_through : List Cond := .code yX2_through cX2_through 3 (some .int) :: ([.methodLink RX2 66 yX2_endOf, .instanceMethod yX2_endOf, .selects RX2 yX2_endOf yX2_endOf, .initialized RX2, .code yX2_endOf cX2_endOf 2 (some .int), .fieldLink RX2 9 "NetWalkers$Net" "ends" "[I", .methodLink RX2 69 yX2_isBad, .instanceMethod yX2_isBad, .selects RX2 yX2_isBad yX2_isBad, .code yX2_isBad cX2_isBad 2 (some .boolean), .fieldLink RX2 15 "NetWalkers$Net" "bads" "[Z"] ++ wsX20)
def wsX5_postOf : List Cond := .code yX5_postOf cX5_postOf 1 (some .int) :: ([])
def wsX0_sendOn_r1 : List Cond := [Cond.fieldLink RX0 11 "NetWalkers$Hands" "net" "LNetWalkers$Net;", Cond.constant RX0 24 (65535), Cond.methodLink RX0 15 yX0_postAt, Cond.static yX0_postAt, Cond.initialized RX0, Cond.code yX0_postAt cX0_postAt 1 (some .int), Cond.methodLink RX0 19 yX2_degreeOf, Cond.instanceMethod yX2_degreeOf, Cond.selects RX2 yX2_degreeOf yX2_degreeOf, Cond.initialized RX2, Cond.code yX2_degreeOf cX2_degreeOf 2 (some .int), Cond.fieldLink RX2 19 "NetWalkers$Net" "degrees" "[I", Cond.static yX5_placeOf, Cond.initialized RX5, Cond.code yX5_placeOf cX5_placeOf 2 (some .int), Cond.methodLink RX0 29 yX2_through, Cond.instanceMethod yX2_through, Cond.selects RX2 yX2_through yX2_through, Cond.code yX2_through cX2_through 3 (some .int), Cond.methodLink RX2 66 yX2_endOf, Cond.instanceMethod yX2_endOf, Cond.selects RX2 yX2_endOf yX2_endOf, Cond.code yX2_endOf cX2_endOf 2 (some .int), Cond.fieldLink RX2 9 "NetWalkers$Net" "ends" "[I"]
def wsX0_sendOn_r2 : List Cond := [Cond.methodLink RX2 69 yX2_isBad, Cond.instanceMethod yX2_isBad, Cond.selects RX2 yX2_isBad yX2_isBad, Cond.code yX2_isBad cX2_isBad 2 (some .boolean), Cond.fieldLink RX2 15 "NetWalkers$Net" "bads" "[Z", Cond.static yX5_postOf, Cond.code yX5_postOf cX5_postOf 1 (some .int), Cond.methodLink RX0 35 yX0_start, Cond.static yX0_start, Cond.code yX0_start cX0_start 1 (some .int)]
def wsX0_sendOn : List Cond := .code yX0_sendOn cX0_sendOn 9 (some .int) :: ((wsX0_sendOn_r1 ++ wsX0_sendOn_r2) ++ wsX00 ++ wsX20)
def wsX0_isMarkTime : List Cond := .code yX0_isMarkTime cX0_isMarkTime 1 (some .boolean) :: ([])
def wsX2_allPosts : List Cond := .code yX2_allPosts cX2_allPosts 1 (some .int) :: ([.fieldLink RX2 26 "NetWalkers$Net" "size" "I"] ++ wsX20)
def wsX0_stepsToAll_r1 : List Cond := [Cond.fieldLink RX0 11 "NetWalkers$Hands" "net" "LNetWalkers$Net;", Cond.methodLink RX0 35 yX0_start, Cond.static yX0_start, Cond.initialized RX0, Cond.code yX0_start cX0_start 1 (some .int), Cond.methodLink RX0 38 yX2_allPosts, Cond.instanceMethod yX2_allPosts, Cond.selects RX2 yX2_allPosts yX2_allPosts, Cond.initialized RX2, Cond.code yX2_allPosts cX2_allPosts 1 (some .int), Cond.fieldLink RX2 26 "NetWalkers$Net" "size" "I", Cond.methodLink RX0 42 yX0_sendOn, Cond.instanceMethod yX0_sendOn, Cond.selects RX0 yX0_sendOn yX0_sendOn, Cond.code yX0_sendOn cX0_sendOn 9 (some .int), Cond.constant RX0 24 (65535), Cond.methodLink RX0 15 yX0_postAt, Cond.static yX0_postAt, Cond.code yX0_postAt cX0_postAt 1 (some .int), Cond.methodLink RX0 19 yX2_degreeOf, Cond.instanceMethod yX2_degreeOf, Cond.selects RX2 yX2_degreeOf yX2_degreeOf, Cond.code yX2_degreeOf cX2_degreeOf 2 (some .int), Cond.fieldLink RX2 19 "NetWalkers$Net" "degrees" "[I"]
def wsX0_stepsToAll_r2 : List Cond := [Cond.static yX5_placeOf, Cond.initialized RX5, Cond.code yX5_placeOf cX5_placeOf 2 (some .int), Cond.methodLink RX0 29 yX2_through, Cond.instanceMethod yX2_through, Cond.selects RX2 yX2_through yX2_through, Cond.code yX2_through cX2_through 3 (some .int), Cond.methodLink RX2 66 yX2_endOf, Cond.instanceMethod yX2_endOf, Cond.selects RX2 yX2_endOf yX2_endOf, Cond.code yX2_endOf cX2_endOf 2 (some .int), Cond.fieldLink RX2 9 "NetWalkers$Net" "ends" "[I", Cond.methodLink RX2 69 yX2_isBad, Cond.instanceMethod yX2_isBad, Cond.selects RX2 yX2_isBad yX2_isBad, Cond.code yX2_isBad cX2_isBad 2 (some .boolean), Cond.fieldLink RX2 15 "NetWalkers$Net" "bads" "[Z", Cond.static yX5_postOf, Cond.code yX5_postOf cX5_postOf 1 (some .int), Cond.methodLink RX0 45 yX0_isMarkTime, Cond.static yX0_isMarkTime, Cond.code yX0_isMarkTime cX0_isMarkTime 1 (some .boolean)]
def wsX0_stepsToAll : List Cond := .code yX0_stepsToAll cX0_stepsToAll 6 (some .int) :: ((wsX0_stepsToAll_r1 ++ wsX0_stepsToAll_r2) ++ wsX00 ++ wsX20)
def wsX0_ringLength_r1 : List Cond := [Cond.constant RX0 49 (60000), Cond.methodLink RX0 35 yX0_start, Cond.static yX0_start, Cond.initialized RX0, Cond.code yX0_start cX0_start 1 (some .int), Cond.methodLink RX0 42 yX0_sendOn, Cond.instanceMethod yX0_sendOn, Cond.selects RX0 yX0_sendOn yX0_sendOn, Cond.code yX0_sendOn cX0_sendOn 9 (some .int), Cond.fieldLink RX0 11 "NetWalkers$Hands" "net" "LNetWalkers$Net;", Cond.constant RX0 24 (65535), Cond.methodLink RX0 15 yX0_postAt, Cond.static yX0_postAt, Cond.code yX0_postAt cX0_postAt 1 (some .int), Cond.methodLink RX0 19 yX2_degreeOf, Cond.instanceMethod yX2_degreeOf, Cond.selects RX2 yX2_degreeOf yX2_degreeOf, Cond.initialized RX2, Cond.code yX2_degreeOf cX2_degreeOf 2 (some .int), Cond.fieldLink RX2 19 "NetWalkers$Net" "degrees" "[I", Cond.static yX5_placeOf, Cond.initialized RX5, Cond.code yX5_placeOf cX5_placeOf 2 (some .int), Cond.methodLink RX0 29 yX2_through]
def wsX0_ringLength_r2 : List Cond := [Cond.instanceMethod yX2_through, Cond.selects RX2 yX2_through yX2_through, Cond.code yX2_through cX2_through 3 (some .int), Cond.methodLink RX2 66 yX2_endOf, Cond.instanceMethod yX2_endOf, Cond.selects RX2 yX2_endOf yX2_endOf, Cond.code yX2_endOf cX2_endOf 2 (some .int), Cond.fieldLink RX2 9 "NetWalkers$Net" "ends" "[I", Cond.methodLink RX2 69 yX2_isBad, Cond.instanceMethod yX2_isBad, Cond.selects RX2 yX2_isBad yX2_isBad, Cond.code yX2_isBad cX2_isBad 2 (some .boolean), Cond.fieldLink RX2 15 "NetWalkers$Net" "bads" "[Z", Cond.static yX5_postOf, Cond.code yX5_postOf cX5_postOf 1 (some .int), Cond.methodLink RX0 45 yX0_isMarkTime, Cond.static yX0_isMarkTime, Cond.code yX0_isMarkTime cX0_isMarkTime 1 (some .boolean)]
def wsX0_ringLength : List Cond := .code yX0_ringLength cX0_ringLength 7 (some .int) :: ((wsX0_ringLength_r1 ++ wsX0_ringLength_r2) ++ wsX00 ++ wsX20)
def wsX0_stepsAhead_r1 : List Cond := [Cond.methodLink RX0 35 yX0_start, Cond.static yX0_start, Cond.initialized RX0, Cond.code yX0_start cX0_start 1 (some .int), Cond.methodLink RX0 42 yX0_sendOn, Cond.instanceMethod yX0_sendOn, Cond.selects RX0 yX0_sendOn yX0_sendOn, Cond.code yX0_sendOn cX0_sendOn 9 (some .int), Cond.fieldLink RX0 11 "NetWalkers$Hands" "net" "LNetWalkers$Net;", Cond.constant RX0 24 (65535), Cond.methodLink RX0 15 yX0_postAt, Cond.static yX0_postAt, Cond.code yX0_postAt cX0_postAt 1 (some .int), Cond.methodLink RX0 19 yX2_degreeOf, Cond.instanceMethod yX2_degreeOf, Cond.selects RX2 yX2_degreeOf yX2_degreeOf, Cond.initialized RX2, Cond.code yX2_degreeOf cX2_degreeOf 2 (some .int), Cond.fieldLink RX2 19 "NetWalkers$Net" "degrees" "[I", Cond.static yX5_placeOf, Cond.initialized RX5, Cond.code yX5_placeOf cX5_placeOf 2 (some .int), Cond.methodLink RX0 29 yX2_through, Cond.instanceMethod yX2_through]
def wsX0_stepsAhead_r2 : List Cond := [Cond.selects RX2 yX2_through yX2_through, Cond.code yX2_through cX2_through 3 (some .int), Cond.methodLink RX2 66 yX2_endOf, Cond.instanceMethod yX2_endOf, Cond.selects RX2 yX2_endOf yX2_endOf, Cond.code yX2_endOf cX2_endOf 2 (some .int), Cond.fieldLink RX2 9 "NetWalkers$Net" "ends" "[I", Cond.methodLink RX2 69 yX2_isBad, Cond.instanceMethod yX2_isBad, Cond.selects RX2 yX2_isBad yX2_isBad, Cond.code yX2_isBad cX2_isBad 2 (some .boolean), Cond.fieldLink RX2 15 "NetWalkers$Net" "bads" "[Z", Cond.static yX5_postOf, Cond.code yX5_postOf cX5_postOf 1 (some .int)]
def wsX0_stepsAhead : List Cond := .code yX0_stepsAhead cX0_stepsAhead 6 (some .int) :: ((wsX0_stepsAhead_r1 ++ wsX0_stepsAhead_r2) ++ wsX00 ++ wsX20)
def wsX1_init : List Cond := .code yX1_init cX1_init 2 none :: ([.methodLink RX1 3 objectInit, .instanceMethod objectInit, .code objectInit ⟨#[0xb1]⟩ 1 none, .arrayClass .int, .fieldLink RX1 9 "NetWalkers$Looks" "kinds" "[I", .fieldLink RX1 15 "NetWalkers$Looks" "finer" "[I", .fieldLink RX1 18 "NetWalkers$Looks" "net" "LNetWalkers$Net;"] ++ wsX10)
def wsX1_kindOf : List Cond := .code yX1_kindOf cX1_kindOf 2 (some .int) :: ([.fieldLink RX1 9 "NetWalkers$Looks" "kinds" "[I"] ++ wsX10)
def wsX5_doorOf : List Cond := .code yX5_doorOf cX5_doorOf 1 (some .int) :: ([])
def wsX1_staysAlike_r1 : List Cond := [Cond.fieldLink RX1 18 "NetWalkers$Looks" "net" "LNetWalkers$Net;", Cond.methodLink RX1 32 yX1_kindOf, Cond.instanceMethod yX1_kindOf, Cond.selects RX1 yX1_kindOf yX1_kindOf, Cond.initialized RX1, Cond.code yX1_kindOf cX1_kindOf 2 (some .int), Cond.fieldLink RX1 9 "NetWalkers$Looks" "kinds" "[I", Cond.methodLink RX1 49 yX2_degreeOf, Cond.instanceMethod yX2_degreeOf, Cond.selects RX2 yX2_degreeOf yX2_degreeOf, Cond.initialized RX2, Cond.code yX2_degreeOf cX2_degreeOf 2 (some .int), Cond.fieldLink RX2 19 "NetWalkers$Net" "degrees" "[I", Cond.static yX5_placeOf, Cond.initialized RX5, Cond.code yX5_placeOf cX5_placeOf 2 (some .int), Cond.methodLink RX1 60 yX2_endOf, Cond.instanceMethod yX2_endOf, Cond.selects RX2 yX2_endOf yX2_endOf, Cond.code yX2_endOf cX2_endOf 2 (some .int), Cond.fieldLink RX2 9 "NetWalkers$Net" "ends" "[I", Cond.static yX5_doorOf, Cond.code yX5_doorOf cX5_doorOf 1 (some .int), Cond.static yX5_postOf]
def wsX1_staysAlike_r2 : List Cond := [Cond.code yX5_postOf cX5_postOf 1 (some .int)]
def wsX1_staysAlike : List Cond := .code yX1_staysAlike cX1_staysAlike 6 (some .boolean) :: ((wsX1_staysAlike_r1 ++ wsX1_staysAlike_r2) ++ wsX10 ++ wsX20)
def wsX1_leastLike_r1 : List Cond := [Cond.fieldLink RX1 18 "NetWalkers$Looks" "net" "LNetWalkers$Net;", Cond.methodLink RX1 49 yX2_degreeOf, Cond.instanceMethod yX2_degreeOf, Cond.selects RX2 yX2_degreeOf yX2_degreeOf, Cond.initialized RX2, Cond.code yX2_degreeOf cX2_degreeOf 2 (some .int), Cond.fieldLink RX2 19 "NetWalkers$Net" "degrees" "[I", Cond.methodLink RX1 52 yX1_staysAlike, Cond.instanceMethod yX1_staysAlike, Cond.selects RX1 yX1_staysAlike yX1_staysAlike, Cond.initialized RX1, Cond.code yX1_staysAlike cX1_staysAlike 6 (some .boolean), Cond.methodLink RX1 32 yX1_kindOf, Cond.instanceMethod yX1_kindOf, Cond.selects RX1 yX1_kindOf yX1_kindOf, Cond.code yX1_kindOf cX1_kindOf 2 (some .int), Cond.fieldLink RX1 9 "NetWalkers$Looks" "kinds" "[I", Cond.static yX5_placeOf, Cond.initialized RX5, Cond.code yX5_placeOf cX5_placeOf 2 (some .int), Cond.methodLink RX1 60 yX2_endOf, Cond.instanceMethod yX2_endOf, Cond.selects RX2 yX2_endOf yX2_endOf, Cond.code yX2_endOf cX2_endOf 2 (some .int)]
def wsX1_leastLike_r2 : List Cond := [Cond.fieldLink RX2 9 "NetWalkers$Net" "ends" "[I", Cond.static yX5_doorOf, Cond.code yX5_doorOf cX5_doorOf 1 (some .int), Cond.static yX5_postOf, Cond.code yX5_postOf cX5_postOf 1 (some .int)]
def wsX1_leastLike : List Cond := .code yX1_leastLike cX1_leastLike 4 (some .int) :: ((wsX1_leastLike_r1 ++ wsX1_leastLike_r2) ++ wsX10 ++ wsX20)
def wsX1_split_r1 : List Cond := [Cond.fieldLink RX1 25 "NetWalkers$Looks" "count" "I", Cond.fieldLink RX1 18 "NetWalkers$Looks" "net" "LNetWalkers$Net;", Cond.fieldLink RX1 40 "NetWalkers$Net" "size" "I", Cond.fieldLink RX1 15 "NetWalkers$Looks" "finer" "[I", Cond.fieldLink RX1 9 "NetWalkers$Looks" "kinds" "[I", Cond.methodLink RX1 45 yX1_leastLike, Cond.instanceMethod yX1_leastLike, Cond.selects RX1 yX1_leastLike yX1_leastLike, Cond.initialized RX1, Cond.code yX1_leastLike cX1_leastLike 4 (some .int), Cond.methodLink RX1 49 yX2_degreeOf, Cond.instanceMethod yX2_degreeOf, Cond.selects RX2 yX2_degreeOf yX2_degreeOf, Cond.initialized RX2, Cond.code yX2_degreeOf cX2_degreeOf 2 (some .int), Cond.fieldLink RX2 19 "NetWalkers$Net" "degrees" "[I", Cond.methodLink RX1 52 yX1_staysAlike, Cond.instanceMethod yX1_staysAlike, Cond.selects RX1 yX1_staysAlike yX1_staysAlike, Cond.code yX1_staysAlike cX1_staysAlike 6 (some .boolean), Cond.methodLink RX1 32 yX1_kindOf, Cond.instanceMethod yX1_kindOf, Cond.selects RX1 yX1_kindOf yX1_kindOf, Cond.code yX1_kindOf cX1_kindOf 2 (some .int)]
def wsX1_split_r2 : List Cond := [Cond.static yX5_placeOf, Cond.initialized RX5, Cond.code yX5_placeOf cX5_placeOf 2 (some .int), Cond.methodLink RX1 60 yX2_endOf, Cond.instanceMethod yX2_endOf, Cond.selects RX2 yX2_endOf yX2_endOf, Cond.code yX2_endOf cX2_endOf 2 (some .int), Cond.fieldLink RX2 9 "NetWalkers$Net" "ends" "[I", Cond.static yX5_doorOf, Cond.code yX5_doorOf cX5_doorOf 1 (some .int), Cond.static yX5_postOf, Cond.code yX5_postOf cX5_postOf 1 (some .int)]
def wsX1_split : List Cond := .code yX1_split cX1_split 4 none :: ((wsX1_split_r1 ++ wsX1_split_r2) ++ wsX10 ++ wsX20)
def wsX1_lookAtDegrees_r1 : List Cond := [Cond.fieldLink RX1 9 "NetWalkers$Looks" "kinds" "[I", Cond.methodLink RX1 36 yX1_split, Cond.instanceMethod yX1_split, Cond.selects RX1 yX1_split yX1_split, Cond.initialized RX1, Cond.code yX1_split cX1_split 4 none, Cond.fieldLink RX1 25 "NetWalkers$Looks" "count" "I", Cond.fieldLink RX1 18 "NetWalkers$Looks" "net" "LNetWalkers$Net;", Cond.fieldLink RX1 40 "NetWalkers$Net" "size" "I", Cond.fieldLink RX1 15 "NetWalkers$Looks" "finer" "[I", Cond.methodLink RX1 45 yX1_leastLike, Cond.instanceMethod yX1_leastLike, Cond.selects RX1 yX1_leastLike yX1_leastLike, Cond.code yX1_leastLike cX1_leastLike 4 (some .int), Cond.methodLink RX1 49 yX2_degreeOf, Cond.instanceMethod yX2_degreeOf, Cond.selects RX2 yX2_degreeOf yX2_degreeOf, Cond.initialized RX2, Cond.code yX2_degreeOf cX2_degreeOf 2 (some .int), Cond.fieldLink RX2 19 "NetWalkers$Net" "degrees" "[I", Cond.methodLink RX1 52 yX1_staysAlike, Cond.instanceMethod yX1_staysAlike, Cond.selects RX1 yX1_staysAlike yX1_staysAlike, Cond.code yX1_staysAlike cX1_staysAlike 6 (some .boolean)]
def wsX1_lookAtDegrees_r2 : List Cond := [Cond.methodLink RX1 32 yX1_kindOf, Cond.instanceMethod yX1_kindOf, Cond.selects RX1 yX1_kindOf yX1_kindOf, Cond.code yX1_kindOf cX1_kindOf 2 (some .int), Cond.static yX5_placeOf, Cond.initialized RX5, Cond.code yX5_placeOf cX5_placeOf 2 (some .int), Cond.methodLink RX1 60 yX2_endOf, Cond.instanceMethod yX2_endOf, Cond.selects RX2 yX2_endOf yX2_endOf, Cond.code yX2_endOf cX2_endOf 2 (some .int), Cond.fieldLink RX2 9 "NetWalkers$Net" "ends" "[I", Cond.static yX5_doorOf, Cond.code yX5_doorOf cX5_doorOf 1 (some .int), Cond.static yX5_postOf, Cond.code yX5_postOf cX5_postOf 1 (some .int)]
def wsX1_lookAtDegrees : List Cond := .code yX1_lookAtDegrees cX1_lookAtDegrees 2 none :: ((wsX1_lookAtDegrees_r1 ++ wsX1_lookAtDegrees_r2) ++ wsX10 ++ wsX20)
def wsX1_lookDeeper_r1 : List Cond := [Cond.methodLink RX1 36 yX1_split, Cond.instanceMethod yX1_split, Cond.selects RX1 yX1_split yX1_split, Cond.initialized RX1, Cond.code yX1_split cX1_split 4 none, Cond.fieldLink RX1 25 "NetWalkers$Looks" "count" "I", Cond.fieldLink RX1 18 "NetWalkers$Looks" "net" "LNetWalkers$Net;", Cond.fieldLink RX1 40 "NetWalkers$Net" "size" "I", Cond.fieldLink RX1 15 "NetWalkers$Looks" "finer" "[I", Cond.fieldLink RX1 9 "NetWalkers$Looks" "kinds" "[I", Cond.methodLink RX1 45 yX1_leastLike, Cond.instanceMethod yX1_leastLike, Cond.selects RX1 yX1_leastLike yX1_leastLike, Cond.code yX1_leastLike cX1_leastLike 4 (some .int), Cond.methodLink RX1 49 yX2_degreeOf, Cond.instanceMethod yX2_degreeOf, Cond.selects RX2 yX2_degreeOf yX2_degreeOf, Cond.initialized RX2, Cond.code yX2_degreeOf cX2_degreeOf 2 (some .int), Cond.fieldLink RX2 19 "NetWalkers$Net" "degrees" "[I", Cond.methodLink RX1 52 yX1_staysAlike, Cond.instanceMethod yX1_staysAlike, Cond.selects RX1 yX1_staysAlike yX1_staysAlike, Cond.code yX1_staysAlike cX1_staysAlike 6 (some .boolean)]
def wsX1_lookDeeper_r2 : List Cond := [Cond.methodLink RX1 32 yX1_kindOf, Cond.instanceMethod yX1_kindOf, Cond.selects RX1 yX1_kindOf yX1_kindOf, Cond.code yX1_kindOf cX1_kindOf 2 (some .int), Cond.static yX5_placeOf, Cond.initialized RX5, Cond.code yX5_placeOf cX5_placeOf 2 (some .int), Cond.methodLink RX1 60 yX2_endOf, Cond.instanceMethod yX2_endOf, Cond.selects RX2 yX2_endOf yX2_endOf, Cond.code yX2_endOf cX2_endOf 2 (some .int), Cond.fieldLink RX2 9 "NetWalkers$Net" "ends" "[I", Cond.static yX5_doorOf, Cond.code yX5_doorOf cX5_doorOf 1 (some .int), Cond.static yX5_postOf, Cond.code yX5_postOf cX5_postOf 1 (some .int)]
def wsX1_lookDeeper : List Cond := .code yX1_lookDeeper cX1_lookDeeper 1 none :: ((wsX1_lookDeeper_r1 ++ wsX1_lookDeeper_r2) ++ wsX10 ++ wsX20)
def wsX1_lookTo_r1 : List Cond := [Cond.fieldLink RX1 25 "NetWalkers$Looks" "count" "I", Cond.methodLink RX1 22 yX1_lookAtDegrees, Cond.instanceMethod yX1_lookAtDegrees, Cond.selects RX1 yX1_lookAtDegrees yX1_lookAtDegrees, Cond.initialized RX1, Cond.code yX1_lookAtDegrees cX1_lookAtDegrees 2 none, Cond.fieldLink RX1 9 "NetWalkers$Looks" "kinds" "[I", Cond.methodLink RX1 36 yX1_split, Cond.instanceMethod yX1_split, Cond.selects RX1 yX1_split yX1_split, Cond.code yX1_split cX1_split 4 none, Cond.fieldLink RX1 18 "NetWalkers$Looks" "net" "LNetWalkers$Net;", Cond.fieldLink RX1 40 "NetWalkers$Net" "size" "I", Cond.fieldLink RX1 15 "NetWalkers$Looks" "finer" "[I", Cond.methodLink RX1 45 yX1_leastLike, Cond.instanceMethod yX1_leastLike, Cond.selects RX1 yX1_leastLike yX1_leastLike, Cond.code yX1_leastLike cX1_leastLike 4 (some .int), Cond.methodLink RX1 49 yX2_degreeOf, Cond.instanceMethod yX2_degreeOf, Cond.selects RX2 yX2_degreeOf yX2_degreeOf, Cond.initialized RX2, Cond.code yX2_degreeOf cX2_degreeOf 2 (some .int), Cond.fieldLink RX2 19 "NetWalkers$Net" "degrees" "[I"]
def wsX1_lookTo_r2 : List Cond := [Cond.methodLink RX1 52 yX1_staysAlike, Cond.instanceMethod yX1_staysAlike, Cond.selects RX1 yX1_staysAlike yX1_staysAlike, Cond.code yX1_staysAlike cX1_staysAlike 6 (some .boolean), Cond.methodLink RX1 32 yX1_kindOf, Cond.instanceMethod yX1_kindOf, Cond.selects RX1 yX1_kindOf yX1_kindOf, Cond.code yX1_kindOf cX1_kindOf 2 (some .int), Cond.static yX5_placeOf, Cond.initialized RX5, Cond.code yX5_placeOf cX5_placeOf 2 (some .int), Cond.methodLink RX1 60 yX2_endOf, Cond.instanceMethod yX2_endOf, Cond.selects RX2 yX2_endOf yX2_endOf, Cond.code yX2_endOf cX2_endOf 2 (some .int), Cond.fieldLink RX2 9 "NetWalkers$Net" "ends" "[I", Cond.static yX5_doorOf, Cond.code yX5_doorOf cX5_doorOf 1 (some .int), Cond.static yX5_postOf, Cond.code yX5_postOf cX5_postOf 1 (some .int), Cond.methodLink RX1 29 yX1_lookDeeper, Cond.instanceMethod yX1_lookDeeper, Cond.selects RX1 yX1_lookDeeper yX1_lookDeeper, Cond.code yX1_lookDeeper cX1_lookDeeper 1 none]
def wsX1_lookTo : List Cond := .code yX1_lookTo cX1_lookTo 4 (some .int) :: ((wsX1_lookTo_r1 ++ wsX1_lookTo_r2) ++ wsX10 ++ wsX20)
def wsX1_depthApart_r1 : List Cond := [Cond.methodLink RX1 22 yX1_lookAtDegrees, Cond.instanceMethod yX1_lookAtDegrees, Cond.selects RX1 yX1_lookAtDegrees yX1_lookAtDegrees, Cond.initialized RX1, Cond.code yX1_lookAtDegrees cX1_lookAtDegrees 2 none, Cond.fieldLink RX1 9 "NetWalkers$Looks" "kinds" "[I", Cond.methodLink RX1 36 yX1_split, Cond.instanceMethod yX1_split, Cond.selects RX1 yX1_split yX1_split, Cond.code yX1_split cX1_split 4 none, Cond.fieldLink RX1 25 "NetWalkers$Looks" "count" "I", Cond.fieldLink RX1 18 "NetWalkers$Looks" "net" "LNetWalkers$Net;", Cond.fieldLink RX1 40 "NetWalkers$Net" "size" "I", Cond.fieldLink RX1 15 "NetWalkers$Looks" "finer" "[I", Cond.methodLink RX1 45 yX1_leastLike, Cond.instanceMethod yX1_leastLike, Cond.selects RX1 yX1_leastLike yX1_leastLike, Cond.code yX1_leastLike cX1_leastLike 4 (some .int), Cond.methodLink RX1 49 yX2_degreeOf, Cond.instanceMethod yX2_degreeOf, Cond.selects RX2 yX2_degreeOf yX2_degreeOf, Cond.initialized RX2, Cond.code yX2_degreeOf cX2_degreeOf 2 (some .int), Cond.fieldLink RX2 19 "NetWalkers$Net" "degrees" "[I"]
def wsX1_depthApart_r2 : List Cond := [Cond.methodLink RX1 52 yX1_staysAlike, Cond.instanceMethod yX1_staysAlike, Cond.selects RX1 yX1_staysAlike yX1_staysAlike, Cond.code yX1_staysAlike cX1_staysAlike 6 (some .boolean), Cond.methodLink RX1 32 yX1_kindOf, Cond.instanceMethod yX1_kindOf, Cond.selects RX1 yX1_kindOf yX1_kindOf, Cond.code yX1_kindOf cX1_kindOf 2 (some .int), Cond.static yX5_placeOf, Cond.initialized RX5, Cond.code yX5_placeOf cX5_placeOf 2 (some .int), Cond.methodLink RX1 60 yX2_endOf, Cond.instanceMethod yX2_endOf, Cond.selects RX2 yX2_endOf yX2_endOf, Cond.code yX2_endOf cX2_endOf 2 (some .int), Cond.fieldLink RX2 9 "NetWalkers$Net" "ends" "[I", Cond.static yX5_doorOf, Cond.code yX5_doorOf cX5_doorOf 1 (some .int), Cond.static yX5_postOf, Cond.code yX5_postOf cX5_postOf 1 (some .int), Cond.methodLink RX1 29 yX1_lookDeeper, Cond.instanceMethod yX1_lookDeeper, Cond.selects RX1 yX1_lookDeeper yX1_lookDeeper, Cond.code yX1_lookDeeper cX1_lookDeeper 1 none]
def wsX1_depthApart : List Cond := .code yX1_depthApart cX1_depthApart 4 (some .int) :: ((wsX1_depthApart_r1 ++ wsX1_depthApart_r2) ++ wsX10 ++ wsX20)
def wsX2_setBad : List Cond := .code yX2_setBad cX2_setBad 3 none :: ([.fieldLink RX2 15 "NetWalkers$Net" "bads" "[Z"] ++ wsX20)
def wsX2_begin : List Cond := .code yX2_begin cX2_begin 3 none :: ([.fieldLink RX2 26 "NetWalkers$Net" "size" "I", .fieldLink RX2 30 "NetWalkers$Net" "pairs" "I", .fieldLink RX2 9 "NetWalkers$Net" "ends" "[I", .fieldLink RX2 19 "NetWalkers$Net" "degrees" "[I", .methodLink RX2 33 yX2_setBad, .instanceMethod yX2_setBad, .selects RX2 yX2_setBad yX2_setBad, .initialized RX2, .code yX2_setBad cX2_setBad 3 none, .fieldLink RX2 15 "NetWalkers$Net" "bads" "[Z"] ++ wsX20)
def wsX2_init : List Cond := .code yX2_init cX2_init 1 none :: ([.methodLink RX2 3 objectInit, .instanceMethod objectInit, .code objectInit ⟨#[0xb1]⟩ 1 none, .arrayClass .int, .fieldLink RX2 9 "NetWalkers$Net" "ends" "[I", .arrayClass .boolean, .fieldLink RX2 15 "NetWalkers$Net" "bads" "[Z", .fieldLink RX2 19 "NetWalkers$Net" "degrees" "[I", .methodLink RX2 22 yX2_begin, .instanceMethod yX2_begin, .selects RX2 yX2_begin yX2_begin, .initialized RX2, .code yX2_begin cX2_begin 3 none, .fieldLink RX2 26 "NetWalkers$Net" "size" "I", .fieldLink RX2 30 "NetWalkers$Net" "pairs" "I", .methodLink RX2 33 yX2_setBad, .instanceMethod yX2_setBad, .selects RX2 yX2_setBad yX2_setBad, .code yX2_setBad cX2_setBad 3 none] ++ wsX20)
def wsX2_hasPost : List Cond := .code yX2_hasPost cX2_hasPost 2 (some .boolean) :: ([.fieldLink RX2 26 "NetWalkers$Net" "size" "I"] ++ wsX20)
def wsX2_hasPlace : List Cond := .code yX2_hasPlace cX2_hasPlace 3 (some .boolean) :: ([.methodLink RX2 37 yX2_hasPost, .instanceMethod yX2_hasPost, .selects RX2 yX2_hasPost yX2_hasPost, .initialized RX2, .code yX2_hasPost cX2_hasPost 2 (some .boolean), .fieldLink RX2 26 "NetWalkers$Net" "size" "I"] ++ wsX20)
def wsX2_badDoors : List Cond := .code yX2_badDoors cX2_badDoors 3 (some .int) :: ([.fieldLink RX2 15 "NetWalkers$Net" "bads" "[Z"] ++ wsX20)
def wsX2_setEnd : List Cond := .code yX2_setEnd cX2_setEnd 5 none :: ([.fieldLink RX2 9 "NetWalkers$Net" "ends" "[I", .fieldLink RX2 19 "NetWalkers$Net" "degrees" "[I", .static yX5_postOf, .initialized RX5, .code yX5_postOf cX5_postOf 1 (some .int)] ++ wsX20)
def wsX2_tie : List Cond := .code yX2_tie cX2_tie 3 none :: ([.fieldLink RX2 30 "NetWalkers$Net" "pairs" "I", .methodLink RX2 41 yX2_setEnd, .instanceMethod yX2_setEnd, .selects RX2 yX2_setEnd yX2_setEnd, .initialized RX2, .code yX2_setEnd cX2_setEnd 5 none, .fieldLink RX2 9 "NetWalkers$Net" "ends" "[I", .fieldLink RX2 19 "NetWalkers$Net" "degrees" "[I", .static yX5_postOf, .initialized RX5, .code yX5_postOf cX5_postOf 1 (some .int)] ++ wsX20)
def wsX2_untie : List Cond := .code yX2_untie cX2_untie 3 none :: ([.fieldLink RX2 30 "NetWalkers$Net" "pairs" "I", .methodLink RX2 41 yX2_setEnd, .instanceMethod yX2_setEnd, .selects RX2 yX2_setEnd yX2_setEnd, .initialized RX2, .code yX2_setEnd cX2_setEnd 5 none, .fieldLink RX2 9 "NetWalkers$Net" "ends" "[I", .fieldLink RX2 19 "NetWalkers$Net" "degrees" "[I", .static yX5_postOf, .initialized RX5, .code yX5_postOf cX5_postOf 1 (some .int)] ++ wsX20)
def wsX2_hasFirstDoors : List Cond := .code yX2_hasFirstDoors cX2_hasFirstDoors 3 (some .boolean) :: ([.methodLink RX2 59 yX2_degreeOf, .instanceMethod yX2_degreeOf, .selects RX2 yX2_degreeOf yX2_degreeOf, .initialized RX2, .code yX2_degreeOf cX2_degreeOf 2 (some .int), .fieldLink RX2 19 "NetWalkers$Net" "degrees" "[I", .static yX5_placeOf, .initialized RX5, .code yX5_placeOf cX5_placeOf 2 (some .int), .methodLink RX2 66 yX2_endOf, .instanceMethod yX2_endOf, .selects RX2 yX2_endOf yX2_endOf, .code yX2_endOf cX2_endOf 2 (some .int), .fieldLink RX2 9 "NetWalkers$Net" "ends" "[I"] ++ wsX20)
def wsX2_reachedFromFirst : List Cond := .code yX2_reachedFromFirst cX2_reachedFromFirst 4 (some .int) :: ([.fieldLink RX2 26 "NetWalkers$Net" "size" "I", .fieldLink RX2 9 "NetWalkers$Net" "ends" "[I", .static yX5_postOf, .initialized RX5, .code yX5_postOf cX5_postOf 1 (some .int), .methodLink RX2 66 yX2_endOf, .instanceMethod yX2_endOf, .selects RX2 yX2_endOf yX2_endOf, .initialized RX2, .code yX2_endOf cX2_endOf 2 (some .int)] ++ wsX20)
def wsX2_isReady_r1 : List Cond := [Cond.fieldLink RX2 26 "NetWalkers$Net" "size" "I", Cond.methodLink RX2 49 yX2_hasFirstDoors, Cond.instanceMethod yX2_hasFirstDoors, Cond.selects RX2 yX2_hasFirstDoors yX2_hasFirstDoors, Cond.initialized RX2, Cond.code yX2_hasFirstDoors cX2_hasFirstDoors 3 (some .boolean), Cond.methodLink RX2 59 yX2_degreeOf, Cond.instanceMethod yX2_degreeOf, Cond.selects RX2 yX2_degreeOf yX2_degreeOf, Cond.code yX2_degreeOf cX2_degreeOf 2 (some .int), Cond.fieldLink RX2 19 "NetWalkers$Net" "degrees" "[I", Cond.static yX5_placeOf, Cond.initialized RX5, Cond.code yX5_placeOf cX5_placeOf 2 (some .int), Cond.methodLink RX2 66 yX2_endOf, Cond.instanceMethod yX2_endOf, Cond.selects RX2 yX2_endOf yX2_endOf, Cond.code yX2_endOf cX2_endOf 2 (some .int), Cond.fieldLink RX2 9 "NetWalkers$Net" "ends" "[I", Cond.methodLink RX2 52 yX2_reachedFromFirst, Cond.instanceMethod yX2_reachedFromFirst, Cond.selects RX2 yX2_reachedFromFirst yX2_reachedFromFirst, Cond.code yX2_reachedFromFirst cX2_reachedFromFirst 4 (some .int), Cond.static yX5_postOf]
def wsX2_isReady_r2 : List Cond := [Cond.code yX5_postOf cX5_postOf 1 (some .int), Cond.methodLink RX2 56 yX2_allPosts, Cond.instanceMethod yX2_allPosts, Cond.selects RX2 yX2_allPosts yX2_allPosts, Cond.code yX2_allPosts cX2_allPosts 1 (some .int)]
def wsX2_isReady : List Cond := .code yX2_isReady cX2_isReady 2 (some .boolean) :: ((wsX2_isReady_r1 ++ wsX2_isReady_r2) ++ wsX20)
def wsX2_walkOn_r1 : List Cond := [Cond.static yX5_postOf, Cond.initialized RX5, Cond.code yX5_postOf cX5_postOf 1 (some .int), Cond.methodLink RX2 59 yX2_degreeOf, Cond.instanceMethod yX2_degreeOf, Cond.selects RX2 yX2_degreeOf yX2_degreeOf, Cond.initialized RX2, Cond.code yX2_degreeOf cX2_degreeOf 2 (some .int), Cond.fieldLink RX2 19 "NetWalkers$Net" "degrees" "[I", Cond.static yX5_doorOf, Cond.code yX5_doorOf cX5_doorOf 1 (some .int), Cond.static yX5_placeOf, Cond.code yX5_placeOf cX5_placeOf 2 (some .int), Cond.methodLink RX2 75 yX2_through, Cond.instanceMethod yX2_through, Cond.selects RX2 yX2_through yX2_through, Cond.code yX2_through cX2_through 3 (some .int), Cond.methodLink RX2 66 yX2_endOf, Cond.instanceMethod yX2_endOf, Cond.selects RX2 yX2_endOf yX2_endOf, Cond.code yX2_endOf cX2_endOf 2 (some .int), Cond.fieldLink RX2 9 "NetWalkers$Net" "ends" "[I", Cond.methodLink RX2 69 yX2_isBad, Cond.instanceMethod yX2_isBad]
def wsX2_walkOn_r2 : List Cond := [Cond.selects RX2 yX2_isBad yX2_isBad, Cond.code yX2_isBad cX2_isBad 2 (some .boolean), Cond.fieldLink RX2 15 "NetWalkers$Net" "bads" "[Z"]
def wsX2_walkOn : List Cond := .code yX2_walkOn cX2_walkOn 7 (some .int) :: ((wsX2_walkOn_r1 ++ wsX2_walkOn_r2) ++ wsX20)
def wsX3_init : List Cond := .code yX3_init cX3_init 1 none :: ([.methodLink RX3 3 objectInit, .instanceMethod objectInit, .code objectInit ⟨#[0xb1]⟩ 1 none, .arrayClass .int, .fieldLink RX3 11 "NetWalkers$Rings" "lengths" "[I", .fieldLink RX3 15 "NetWalkers$Rings" "found" "[I"] ++ wsX30)
def wsX3_numberOf : List Cond := .code yX3_numberOf cX3_numberOf 3 (some .int) :: ([])
def wsX3_walksAll : List Cond := .code yX3_walksAll cX3_walksAll 9 (some .boolean) :: ([.methodLink RX3 22 yX3_numberOf, .static yX3_numberOf, .initialized RX3, .code yX3_numberOf cX3_numberOf 3 (some .int)])
def wsX3_walksAllRings : List Cond := .code yX3_walksAllRings cX3_walksAllRings 5 (some .boolean) :: ([.methodLink RX3 34 yX3_walksAll, .static yX3_walksAll, .initialized RX3, .code yX3_walksAll cX3_walksAll 9 (some .boolean), .methodLink RX3 22 yX3_numberOf, .static yX3_numberOf, .code yX3_numberOf cX3_numberOf 3 (some .int)])
def wsX3_firstOfLength : List Cond := .code yX3_firstOfLength cX3_firstOfLength 3 (some .int) :: ([.methodLink RX3 30 yX3_walksAllRings, .static yX3_walksAllRings, .initialized RX3, .code yX3_walksAllRings cX3_walksAllRings 5 (some .boolean), .methodLink RX3 34 yX3_walksAll, .static yX3_walksAll, .code yX3_walksAll cX3_walksAll 9 (some .boolean), .methodLink RX3 22 yX3_numberOf, .static yX3_numberOf, .code yX3_numberOf cX3_numberOf 3 (some .int)])
def wsX3_find : List Cond := .code yX3_find cX3_find 4 none :: ([.fieldLink RX3 11 "NetWalkers$Rings" "lengths" "[I", .fieldLink RX3 15 "NetWalkers$Rings" "found" "[I", .methodLink RX3 26 yX3_firstOfLength, .static yX3_firstOfLength, .initialized RX3, .code yX3_firstOfLength cX3_firstOfLength 3 (some .int), .methodLink RX3 30 yX3_walksAllRings, .static yX3_walksAllRings, .code yX3_walksAllRings cX3_walksAllRings 5 (some .boolean), .methodLink RX3 34 yX3_walksAll, .static yX3_walksAll, .code yX3_walksAll cX3_walksAll 9 (some .boolean), .methodLink RX3 22 yX3_numberOf, .static yX3_numberOf, .code yX3_numberOf cX3_numberOf 3 (some .int)] ++ wsX30)
def wsX3_lengthFor : List Cond := .code yX3_lengthFor cX3_lengthFor 2 (some .int) :: ([.fieldLink RX3 11 "NetWalkers$Rings" "lengths" "[I", .methodLink RX3 18 yX3_find, .instanceMethod yX3_find, .selects RX3 yX3_find yX3_find, .initialized RX3, .code yX3_find cX3_find 4 none, .fieldLink RX3 15 "NetWalkers$Rings" "found" "[I", .methodLink RX3 26 yX3_firstOfLength, .static yX3_firstOfLength, .code yX3_firstOfLength cX3_firstOfLength 3 (some .int), .methodLink RX3 30 yX3_walksAllRings, .static yX3_walksAllRings, .code yX3_walksAllRings cX3_walksAllRings 5 (some .boolean), .methodLink RX3 34 yX3_walksAll, .static yX3_walksAll, .code yX3_walksAll cX3_walksAll 9 (some .boolean), .methodLink RX3 22 yX3_numberOf, .static yX3_numberOf, .code yX3_numberOf cX3_numberOf 3 (some .int)] ++ wsX30)
def wsX3_numberFor : List Cond := .code yX3_numberFor cX3_numberFor 4 (some .int) :: ([.fieldLink RX3 11 "NetWalkers$Rings" "lengths" "[I", .fieldLink RX3 15 "NetWalkers$Rings" "found" "[I", .methodLink RX3 22 yX3_numberOf, .static yX3_numberOf, .initialized RX3, .code yX3_numberOf cX3_numberOf 3 (some .int)] ++ wsX30)
def wsX4_init : List Cond := .code yX4_init cX4_init 1 none :: ([.methodLink RX4 3 objectInit, .instanceMethod objectInit, .code objectInit ⟨#[0xb1]⟩ 1 none, .arrayClass .int, .fieldLink RX4 9 "NetWalkers$Row" "numbers" "[I", .fieldLink RX4 15 "NetWalkers$Row" "length" "I"] ++ wsX40)
def wsX4_isFull : List Cond := .code yX4_isFull cX4_isFull 1 (some .boolean) :: ([.fieldLink RX4 15 "NetWalkers$Row" "length" "I", .fieldLink RX4 9 "NetWalkers$Row" "numbers" "[I"] ++ wsX40)
def wsX4_append : List Cond := .code yX4_append cX4_append 2 none :: ([.fieldLink RX4 9 "NetWalkers$Row" "numbers" "[I", .fieldLink RX4 15 "NetWalkers$Row" "length" "I", .methodLink RX4 19 yX4_isFull, .instanceMethod yX4_isFull, .selects RX4 yX4_isFull yX4_isFull, .initialized RX4, .code yX4_isFull cX4_isFull 1 (some .boolean)] ++ wsX40)
def wsX4_empty : List Cond := .code yX4_empty cX4_empty 2 (some .int) :: ([.fieldLink RX4 15 "NetWalkers$Row" "length" "I"] ++ wsX40)
def wsX4_has : List Cond := .code yX4_has cX4_has 2 (some .boolean) :: ([.fieldLink RX4 15 "NetWalkers$Row" "length" "I"] ++ wsX40)
def wsX4_numberAt : List Cond := .code yX4_numberAt cX4_numberAt 2 (some .int) :: ([.fieldLink RX4 9 "NetWalkers$Row" "numbers" "[I", .methodLink RX4 23 yX4_has, .instanceMethod yX4_has, .selects RX4 yX4_has yX4_has, .initialized RX4, .code yX4_has cX4_has 2 (some .boolean), .fieldLink RX4 15 "NetWalkers$Row" "length" "I"] ++ wsX40)
def wsX5_init_r1 : List Cond := [Cond.methodLink RX5 1 objectInit, Cond.instanceMethod objectInit, Cond.code objectInit ⟨#[0xb1]⟩ 1 none, Cond.classLink RX5 7 RX2, Cond.instantiable RX2 5, Cond.initialized RX2, Cond.fieldLink RX5 10 "NetWalkers" "net" "LNetWalkers$Net;", Cond.classLink RX5 16 RX4, Cond.instantiable RX4 2, Cond.initialized RX4, Cond.fieldLink RX5 19 "NetWalkers" "row" "LNetWalkers$Row;", Cond.fieldLink RX5 23 "NetWalkers" "otherRow" "LNetWalkers$Row;", Cond.classLink RX5 26 RX0, Cond.instantiable RX0 1, Cond.initialized RX0, Cond.fieldLink RX5 31 "NetWalkers" "hands" "LNetWalkers$Hands;", Cond.classLink RX5 35 RX1, Cond.instantiable RX1 4, Cond.initialized RX1, Cond.fieldLink RX5 38 "NetWalkers" "looks" "LNetWalkers$Looks;", Cond.classLink RX5 42 RX3, Cond.instantiable RX3 2, Cond.initialized RX3, Cond.fieldLink RX5 45 "NetWalkers" "rings" "LNetWalkers$Rings;"]
def wsX5_init_r2 : List Cond := [Cond.methodLink RX5 9 yX2_init, Cond.instanceMethod yX2_init, Cond.code yX2_init cX2_init 1 none, Cond.methodLink RX2 3 objectInit, Cond.arrayClass .int, Cond.fieldLink RX2 9 "NetWalkers$Net" "ends" "[I", Cond.arrayClass .boolean, Cond.fieldLink RX2 15 "NetWalkers$Net" "bads" "[Z", Cond.fieldLink RX2 19 "NetWalkers$Net" "degrees" "[I", Cond.methodLink RX2 22 yX2_begin, Cond.instanceMethod yX2_begin, Cond.selects RX2 yX2_begin yX2_begin, Cond.code yX2_begin cX2_begin 3 none, Cond.fieldLink RX2 26 "NetWalkers$Net" "size" "I", Cond.fieldLink RX2 30 "NetWalkers$Net" "pairs" "I", Cond.methodLink RX2 33 yX2_setBad, Cond.instanceMethod yX2_setBad, Cond.selects RX2 yX2_setBad yX2_setBad, Cond.code yX2_setBad cX2_setBad 3 none, Cond.instanceMethod yX4_init, Cond.code yX4_init cX4_init 1 none, Cond.methodLink RX4 3 objectInit, Cond.fieldLink RX4 9 "NetWalkers$Row" "numbers" "[I", Cond.fieldLink RX4 15 "NetWalkers$Row" "length" "I"]
def wsX5_init_r3 : List Cond := [Cond.methodLink RX5 28 yX0_init, Cond.instanceMethod yX0_init, Cond.code yX0_init cX0_init 2 none, Cond.methodLink RX0 5 objectInit, Cond.fieldLink RX0 11 "NetWalkers$Hands" "net" "LNetWalkers$Net;", Cond.methodLink RX5 37 yX1_init, Cond.instanceMethod yX1_init, Cond.code yX1_init cX1_init 2 none, Cond.methodLink RX1 3 objectInit, Cond.fieldLink RX1 9 "NetWalkers$Looks" "kinds" "[I", Cond.fieldLink RX1 15 "NetWalkers$Looks" "finer" "[I", Cond.fieldLink RX1 18 "NetWalkers$Looks" "net" "LNetWalkers$Net;", Cond.instanceMethod yX3_init, Cond.code yX3_init cX3_init 1 none, Cond.methodLink RX3 3 objectInit, Cond.fieldLink RX3 11 "NetWalkers$Rings" "lengths" "[I", Cond.fieldLink RX3 15 "NetWalkers$Rings" "found" "[I"]
def wsX5_init : List Cond := .code yX5_init cX5_init 1 none :: ((wsX5_init_r1 ++ (wsX5_init_r2 ++ wsX5_init_r3)) ++ wsX20 ++ wsX50 ++ wsX40 ++ wsX00 ++ wsX10 ++ wsX30)
def wsX5_posts : List Cond := .code yX5_posts cX5_posts 3 (some .int) :: ([.fieldLink RX5 10 "NetWalkers" "net" "LNetWalkers$Net;", .fieldLink RX5 49 "NetWalkers$Net" "size" "I", .methodLink RX5 53 yX2_begin, .instanceMethod yX2_begin, .selects RX2 yX2_begin yX2_begin, .initialized RX2, .code yX2_begin cX2_begin 3 none, .fieldLink RX2 26 "NetWalkers$Net" "size" "I", .fieldLink RX2 30 "NetWalkers$Net" "pairs" "I", .fieldLink RX2 9 "NetWalkers$Net" "ends" "[I", .fieldLink RX2 19 "NetWalkers$Net" "degrees" "[I", .methodLink RX2 33 yX2_setBad, .instanceMethod yX2_setBad, .selects RX2 yX2_setBad yX2_setBad, .code yX2_setBad cX2_setBad 3 none, .fieldLink RX2 15 "NetWalkers$Net" "bads" "[Z"] ++ wsX50 ++ wsX20)
def wsX5_join_r1 : List Cond := [Cond.fieldLink RX5 10 "NetWalkers" "net" "LNetWalkers$Net;", Cond.fieldLink RX5 73 "NetWalkers$Net" "pairs" "I", Cond.methodLink RX5 57 yX2_hasPlace, Cond.instanceMethod yX2_hasPlace, Cond.selects RX2 yX2_hasPlace yX2_hasPlace, Cond.initialized RX2, Cond.code yX2_hasPlace cX2_hasPlace 3 (some .boolean), Cond.methodLink RX2 37 yX2_hasPost, Cond.instanceMethod yX2_hasPost, Cond.selects RX2 yX2_hasPost yX2_hasPost, Cond.code yX2_hasPost cX2_hasPost 2 (some .boolean), Cond.fieldLink RX2 26 "NetWalkers$Net" "size" "I", Cond.methodLink RX5 61 yX5_placeOf, Cond.static yX5_placeOf, Cond.initialized RX5, Cond.code yX5_placeOf cX5_placeOf 2 (some .int), Cond.methodLink RX5 65 yX2_endOf, Cond.instanceMethod yX2_endOf, Cond.selects RX2 yX2_endOf yX2_endOf, Cond.code yX2_endOf cX2_endOf 2 (some .int), Cond.fieldLink RX2 9 "NetWalkers$Net" "ends" "[I", Cond.methodLink RX5 69 yX2_tie, Cond.instanceMethod yX2_tie, Cond.selects RX2 yX2_tie yX2_tie]
def wsX5_join_r2 : List Cond := [Cond.code yX2_tie cX2_tie 3 none, Cond.fieldLink RX2 30 "NetWalkers$Net" "pairs" "I", Cond.methodLink RX2 41 yX2_setEnd, Cond.instanceMethod yX2_setEnd, Cond.selects RX2 yX2_setEnd yX2_setEnd, Cond.code yX2_setEnd cX2_setEnd 5 none, Cond.fieldLink RX2 19 "NetWalkers$Net" "degrees" "[I", Cond.static yX5_postOf, Cond.code yX5_postOf cX5_postOf 1 (some .int)]
def wsX5_join : List Cond := .code yX5_join cX5_join 7 (some .int) :: ((wsX5_join_r1 ++ wsX5_join_r2) ++ wsX50 ++ wsX20)
def wsX5_asTold : List Cond := .code yX5_asTold cX5_asTold 1 (some .int) :: ([.methodLink RX5 130 yX5_postOf, .static yX5_postOf, .initialized RX5, .code yX5_postOf cX5_postOf 1 (some .int), .methodLink RX5 184 yX5_doorOf, .static yX5_doorOf, .code yX5_doorOf cX5_doorOf 1 (some .int)])
def wsX5_part_r1 : List Cond := [Cond.fieldLink RX5 10 "NetWalkers" "net" "LNetWalkers$Net;", Cond.methodLink RX5 57 yX2_hasPlace, Cond.instanceMethod yX2_hasPlace, Cond.selects RX2 yX2_hasPlace yX2_hasPlace, Cond.initialized RX2, Cond.code yX2_hasPlace cX2_hasPlace 3 (some .boolean), Cond.methodLink RX2 37 yX2_hasPost, Cond.instanceMethod yX2_hasPost, Cond.selects RX2 yX2_hasPost yX2_hasPost, Cond.code yX2_hasPost cX2_hasPost 2 (some .boolean), Cond.fieldLink RX2 26 "NetWalkers$Net" "size" "I", Cond.methodLink RX5 61 yX5_placeOf, Cond.static yX5_placeOf, Cond.initialized RX5, Cond.code yX5_placeOf cX5_placeOf 2 (some .int), Cond.methodLink RX5 65 yX2_endOf, Cond.instanceMethod yX2_endOf, Cond.selects RX2 yX2_endOf yX2_endOf, Cond.code yX2_endOf cX2_endOf 2 (some .int), Cond.fieldLink RX2 9 "NetWalkers$Net" "ends" "[I", Cond.methodLink RX5 76 yX2_untie, Cond.instanceMethod yX2_untie, Cond.selects RX2 yX2_untie yX2_untie, Cond.code yX2_untie cX2_untie 3 none]
def wsX5_part_r2 : List Cond := [Cond.fieldLink RX2 30 "NetWalkers$Net" "pairs" "I", Cond.methodLink RX2 41 yX2_setEnd, Cond.instanceMethod yX2_setEnd, Cond.selects RX2 yX2_setEnd yX2_setEnd, Cond.code yX2_setEnd cX2_setEnd 5 none, Cond.fieldLink RX2 19 "NetWalkers$Net" "degrees" "[I", Cond.static yX5_postOf, Cond.code yX5_postOf cX5_postOf 1 (some .int), Cond.methodLink RX5 79 yX5_asTold, Cond.static yX5_asTold, Cond.code yX5_asTold cX5_asTold 1 (some .int), Cond.methodLink RX5 130 yX5_postOf, Cond.methodLink RX5 184 yX5_doorOf, Cond.static yX5_doorOf, Cond.code yX5_doorOf cX5_doorOf 1 (some .int)]
def wsX5_part : List Cond := .code yX5_part cX5_part 5 (some .int) :: ((wsX5_part_r1 ++ wsX5_part_r2) ++ wsX50 ++ wsX20)
def wsX5_bad : List Cond := .code yX5_bad cX5_bad 6 (some .int) :: ([.fieldLink RX5 10 "NetWalkers" "net" "LNetWalkers$Net;", .methodLink RX5 57 yX2_hasPlace, .instanceMethod yX2_hasPlace, .selects RX2 yX2_hasPlace yX2_hasPlace, .initialized RX2, .code yX2_hasPlace cX2_hasPlace 3 (some .boolean), .methodLink RX2 37 yX2_hasPost, .instanceMethod yX2_hasPost, .selects RX2 yX2_hasPost yX2_hasPost, .code yX2_hasPost cX2_hasPost 2 (some .boolean), .fieldLink RX2 26 "NetWalkers$Net" "size" "I", .methodLink RX5 61 yX5_placeOf, .static yX5_placeOf, .initialized RX5, .code yX5_placeOf cX5_placeOf 2 (some .int), .methodLink RX5 82 yX2_isBad, .instanceMethod yX2_isBad, .selects RX2 yX2_isBad yX2_isBad, .code yX2_isBad cX2_isBad 2 (some .boolean), .fieldLink RX2 15 "NetWalkers$Net" "bads" "[Z", .methodLink RX5 86 yX2_setBad, .instanceMethod yX2_setBad, .selects RX2 yX2_setBad yX2_setBad, .code yX2_setBad cX2_setBad 3 none] ++ wsX50 ++ wsX20)
def wsX5_leads_r1 : List Cond := [Cond.fieldLink RX5 10 "NetWalkers" "net" "LNetWalkers$Net;", Cond.methodLink RX5 57 yX2_hasPlace, Cond.instanceMethod yX2_hasPlace, Cond.selects RX2 yX2_hasPlace yX2_hasPlace, Cond.initialized RX2, Cond.code yX2_hasPlace cX2_hasPlace 3 (some .boolean), Cond.methodLink RX2 37 yX2_hasPost, Cond.instanceMethod yX2_hasPost, Cond.selects RX2 yX2_hasPost yX2_hasPost, Cond.code yX2_hasPost cX2_hasPost 2 (some .boolean), Cond.fieldLink RX2 26 "NetWalkers$Net" "size" "I", Cond.methodLink RX5 61 yX5_placeOf, Cond.static yX5_placeOf, Cond.initialized RX5, Cond.code yX5_placeOf cX5_placeOf 2 (some .int), Cond.methodLink RX5 65 yX2_endOf, Cond.instanceMethod yX2_endOf, Cond.selects RX2 yX2_endOf yX2_endOf, Cond.code yX2_endOf cX2_endOf 2 (some .int), Cond.fieldLink RX2 9 "NetWalkers$Net" "ends" "[I", Cond.methodLink RX5 90 yX2_through, Cond.instanceMethod yX2_through, Cond.selects RX2 yX2_through yX2_through, Cond.code yX2_through cX2_through 3 (some .int)]
def wsX5_leads_r2 : List Cond := [Cond.methodLink RX2 66 yX2_endOf, Cond.methodLink RX2 69 yX2_isBad, Cond.instanceMethod yX2_isBad, Cond.selects RX2 yX2_isBad yX2_isBad, Cond.code yX2_isBad cX2_isBad 2 (some .boolean), Cond.fieldLink RX2 15 "NetWalkers$Net" "bads" "[Z", Cond.methodLink RX5 79 yX5_asTold, Cond.static yX5_asTold, Cond.code yX5_asTold cX5_asTold 1 (some .int), Cond.methodLink RX5 130 yX5_postOf, Cond.static yX5_postOf, Cond.code yX5_postOf cX5_postOf 1 (some .int), Cond.methodLink RX5 184 yX5_doorOf, Cond.static yX5_doorOf, Cond.code yX5_doorOf cX5_doorOf 1 (some .int)]
def wsX5_leads : List Cond := .code yX5_leads cX5_leads 4 (some .int) :: ((wsX5_leads_r1 ++ wsX5_leads_r2) ++ wsX50 ++ wsX20)
def wsX5_ready_r1 : List Cond := [Cond.fieldLink RX5 10 "NetWalkers" "net" "LNetWalkers$Net;", Cond.methodLink RX5 93 yX2_isReady, Cond.instanceMethod yX2_isReady, Cond.selects RX2 yX2_isReady yX2_isReady, Cond.initialized RX2, Cond.code yX2_isReady cX2_isReady 2 (some .boolean), Cond.fieldLink RX2 26 "NetWalkers$Net" "size" "I", Cond.methodLink RX2 49 yX2_hasFirstDoors, Cond.instanceMethod yX2_hasFirstDoors, Cond.selects RX2 yX2_hasFirstDoors yX2_hasFirstDoors, Cond.code yX2_hasFirstDoors cX2_hasFirstDoors 3 (some .boolean), Cond.methodLink RX2 59 yX2_degreeOf, Cond.instanceMethod yX2_degreeOf, Cond.selects RX2 yX2_degreeOf yX2_degreeOf, Cond.code yX2_degreeOf cX2_degreeOf 2 (some .int), Cond.fieldLink RX2 19 "NetWalkers$Net" "degrees" "[I", Cond.static yX5_placeOf, Cond.initialized RX5, Cond.code yX5_placeOf cX5_placeOf 2 (some .int), Cond.methodLink RX2 66 yX2_endOf, Cond.instanceMethod yX2_endOf, Cond.selects RX2 yX2_endOf yX2_endOf, Cond.code yX2_endOf cX2_endOf 2 (some .int), Cond.fieldLink RX2 9 "NetWalkers$Net" "ends" "[I"]
def wsX5_ready_r2 : List Cond := [Cond.methodLink RX2 52 yX2_reachedFromFirst, Cond.instanceMethod yX2_reachedFromFirst, Cond.selects RX2 yX2_reachedFromFirst yX2_reachedFromFirst, Cond.code yX2_reachedFromFirst cX2_reachedFromFirst 4 (some .int), Cond.static yX5_postOf, Cond.code yX5_postOf cX5_postOf 1 (some .int), Cond.methodLink RX2 56 yX2_allPosts, Cond.instanceMethod yX2_allPosts, Cond.selects RX2 yX2_allPosts yX2_allPosts, Cond.code yX2_allPosts cX2_allPosts 1 (some .int)]
def wsX5_ready : List Cond := .code yX5_ready cX5_ready 1 (some .int) :: ((wsX5_ready_r1 ++ wsX5_ready_r2) ++ wsX50 ++ wsX20)
def wsX5_degree : List Cond := .code yX5_degree cX5_degree 2 (some .int) :: ([.fieldLink RX5 10 "NetWalkers" "net" "LNetWalkers$Net;", .methodLink RX5 97 yX2_hasPost, .instanceMethod yX2_hasPost, .selects RX2 yX2_hasPost yX2_hasPost, .initialized RX2, .code yX2_hasPost cX2_hasPost 2 (some .boolean), .fieldLink RX2 26 "NetWalkers$Net" "size" "I", .methodLink RX5 100 yX2_degreeOf, .instanceMethod yX2_degreeOf, .selects RX2 yX2_degreeOf yX2_degreeOf, .code yX2_degreeOf cX2_degreeOf 2 (some .int), .fieldLink RX2 19 "NetWalkers$Net" "degrees" "[I"] ++ wsX50 ++ wsX20)
def wsX5_isWhich : List Cond := .code yX5_isWhich cX5_isWhich 1 (some .boolean) :: ([])
def wsX5_rowOf : List Cond := .code yX5_rowOf cX5_rowOf 2 (some (.object "NetWalkers$Row")) :: ([.fieldLink RX5 23 "NetWalkers" "otherRow" "LNetWalkers$Row;", .fieldLink RX5 19 "NetWalkers" "row" "LNetWalkers$Row;"] ++ wsX50)
def wsX5_add : List Cond := .code yX5_add cX5_add 4 (some .int) :: ([.fieldLink RX5 116 "NetWalkers$Row" "length" "I", .methodLink RX5 103 yX5_isWhich, .static yX5_isWhich, .initialized RX5, .code yX5_isWhich cX5_isWhich 1 (some .boolean), .methodLink RX5 106 yX5_rowOf, .instanceMethod yX5_rowOf, .selects RX5 yX5_rowOf yX5_rowOf, .code yX5_rowOf cX5_rowOf 2 (some (.object "NetWalkers$Row")), .fieldLink RX5 23 "NetWalkers" "otherRow" "LNetWalkers$Row;", .fieldLink RX5 19 "NetWalkers" "row" "LNetWalkers$Row;", .methodLink RX5 110 yX4_isFull, .instanceMethod yX4_isFull, .selects RX4 yX4_isFull yX4_isFull, .initialized RX4, .code yX4_isFull cX4_isFull 1 (some .boolean), .fieldLink RX4 15 "NetWalkers$Row" "length" "I", .fieldLink RX4 9 "NetWalkers$Row" "numbers" "[I", .methodLink RX5 113 yX4_append, .instanceMethod yX4_append, .selects RX4 yX4_append yX4_append, .code yX4_append cX4_append 2 none, .methodLink RX4 19 yX4_isFull] ++ wsX40 ++ wsX50)
def wsX5_clear : List Cond := .code yX5_clear cX5_clear 2 (some .int) :: ([.methodLink RX5 103 yX5_isWhich, .static yX5_isWhich, .initialized RX5, .code yX5_isWhich cX5_isWhich 1 (some .boolean), .methodLink RX5 106 yX5_rowOf, .instanceMethod yX5_rowOf, .selects RX5 yX5_rowOf yX5_rowOf, .code yX5_rowOf cX5_rowOf 2 (some (.object "NetWalkers$Row")), .fieldLink RX5 23 "NetWalkers" "otherRow" "LNetWalkers$Row;", .fieldLink RX5 19 "NetWalkers" "row" "LNetWalkers$Row;", .methodLink RX5 119 yX4_empty, .instanceMethod yX4_empty, .selects RX4 yX4_empty yX4_empty, .initialized RX4, .code yX4_empty cX4_empty 2 (some .int), .fieldLink RX4 15 "NetWalkers$Row" "length" "I"] ++ wsX50 ++ wsX40)
def wsX5_isHow : List Cond := .code yX5_isHow cX5_isHow 1 (some .boolean) :: ([])
def wsX5_follow_r1 : List Cond := [Cond.fieldLink RX5 10 "NetWalkers" "net" "LNetWalkers$Net;", Cond.methodLink RX5 187 yX4_has, Cond.instanceMethod yX4_has, Cond.selects RX4 yX4_has yX4_has, Cond.initialized RX4, Cond.code yX4_has cX4_has 2 (some .boolean), Cond.fieldLink RX4 15 "NetWalkers$Row" "length" "I", Cond.methodLink RX5 190 yX4_numberAt, Cond.instanceMethod yX4_numberAt, Cond.selects RX4 yX4_numberAt yX4_numberAt, Cond.code yX4_numberAt cX4_numberAt 2 (some .int), Cond.fieldLink RX4 9 "NetWalkers$Row" "numbers" "[I", Cond.methodLink RX4 23 yX4_has, Cond.methodLink RX5 144 yX2_walkOn, Cond.instanceMethod yX2_walkOn, Cond.selects RX2 yX2_walkOn yX2_walkOn, Cond.initialized RX2, Cond.code yX2_walkOn cX2_walkOn 7 (some .int), Cond.static yX5_postOf, Cond.initialized RX5, Cond.code yX5_postOf cX5_postOf 1 (some .int), Cond.methodLink RX2 59 yX2_degreeOf, Cond.instanceMethod yX2_degreeOf, Cond.selects RX2 yX2_degreeOf yX2_degreeOf]
def wsX5_follow_r2 : List Cond := [Cond.code yX2_degreeOf cX2_degreeOf 2 (some .int), Cond.fieldLink RX2 19 "NetWalkers$Net" "degrees" "[I", Cond.static yX5_doorOf, Cond.code yX5_doorOf cX5_doorOf 1 (some .int), Cond.static yX5_placeOf, Cond.code yX5_placeOf cX5_placeOf 2 (some .int), Cond.methodLink RX2 75 yX2_through, Cond.instanceMethod yX2_through, Cond.selects RX2 yX2_through yX2_through, Cond.code yX2_through cX2_through 3 (some .int), Cond.methodLink RX2 66 yX2_endOf, Cond.instanceMethod yX2_endOf, Cond.selects RX2 yX2_endOf yX2_endOf, Cond.code yX2_endOf cX2_endOf 2 (some .int), Cond.fieldLink RX2 9 "NetWalkers$Net" "ends" "[I", Cond.methodLink RX2 69 yX2_isBad, Cond.instanceMethod yX2_isBad, Cond.selects RX2 yX2_isBad yX2_isBad, Cond.code yX2_isBad cX2_isBad 2 (some .boolean), Cond.fieldLink RX2 15 "NetWalkers$Net" "bads" "[Z"]
def wsX5_follow : List Cond := .code yX5_follow cX5_follow 5 (some .int) :: ((wsX5_follow_r1 ++ wsX5_follow_r2) ++ wsX50 ++ wsX40 ++ wsX20)
def wsX5_after_r1 : List Cond := [Cond.fieldLink RX5 10 "NetWalkers" "net" "LNetWalkers$Net;", Cond.fieldLink RX5 19 "NetWalkers" "row" "LNetWalkers$Row;", Cond.fieldLink RX5 116 "NetWalkers$Row" "length" "I", Cond.methodLink RX5 97 yX2_hasPost, Cond.instanceMethod yX2_hasPost, Cond.selects RX2 yX2_hasPost yX2_hasPost, Cond.initialized RX2, Cond.code yX2_hasPost cX2_hasPost 2 (some .boolean), Cond.fieldLink RX2 26 "NetWalkers$Net" "size" "I", Cond.methodLink RX5 123 yX5_isHow, Cond.static yX5_isHow, Cond.initialized RX5, Cond.code yX5_isHow cX5_isHow 1 (some .boolean), Cond.methodLink RX5 93 yX2_isReady, Cond.instanceMethod yX2_isReady, Cond.selects RX2 yX2_isReady yX2_isReady, Cond.code yX2_isReady cX2_isReady 2 (some .boolean), Cond.methodLink RX2 49 yX2_hasFirstDoors, Cond.instanceMethod yX2_hasFirstDoors, Cond.selects RX2 yX2_hasFirstDoors yX2_hasFirstDoors, Cond.code yX2_hasFirstDoors cX2_hasFirstDoors 3 (some .boolean), Cond.methodLink RX2 59 yX2_degreeOf, Cond.instanceMethod yX2_degreeOf, Cond.selects RX2 yX2_degreeOf yX2_degreeOf]
def wsX5_after_r2 : List Cond := [Cond.code yX2_degreeOf cX2_degreeOf 2 (some .int), Cond.fieldLink RX2 19 "NetWalkers$Net" "degrees" "[I", Cond.static yX5_placeOf, Cond.code yX5_placeOf cX5_placeOf 2 (some .int), Cond.methodLink RX2 66 yX2_endOf, Cond.instanceMethod yX2_endOf, Cond.selects RX2 yX2_endOf yX2_endOf, Cond.code yX2_endOf cX2_endOf 2 (some .int), Cond.fieldLink RX2 9 "NetWalkers$Net" "ends" "[I", Cond.methodLink RX2 52 yX2_reachedFromFirst, Cond.instanceMethod yX2_reachedFromFirst, Cond.selects RX2 yX2_reachedFromFirst yX2_reachedFromFirst, Cond.code yX2_reachedFromFirst cX2_reachedFromFirst 4 (some .int), Cond.static yX5_postOf, Cond.code yX5_postOf cX5_postOf 1 (some .int), Cond.methodLink RX2 56 yX2_allPosts, Cond.instanceMethod yX2_allPosts, Cond.selects RX2 yX2_allPosts yX2_allPosts, Cond.code yX2_allPosts cX2_allPosts 1 (some .int), Cond.methodLink RX5 61 yX5_placeOf, Cond.methodLink RX5 126 yX5_follow, Cond.instanceMethod yX5_follow, Cond.selects RX5 yX5_follow yX5_follow, Cond.code yX5_follow cX5_follow 5 (some .int)]
def wsX5_after_r3 : List Cond := [Cond.methodLink RX5 187 yX4_has, Cond.instanceMethod yX4_has, Cond.selects RX4 yX4_has yX4_has, Cond.initialized RX4, Cond.code yX4_has cX4_has 2 (some .boolean), Cond.fieldLink RX4 15 "NetWalkers$Row" "length" "I", Cond.methodLink RX5 190 yX4_numberAt, Cond.instanceMethod yX4_numberAt, Cond.selects RX4 yX4_numberAt yX4_numberAt, Cond.code yX4_numberAt cX4_numberAt 2 (some .int), Cond.fieldLink RX4 9 "NetWalkers$Row" "numbers" "[I", Cond.methodLink RX4 23 yX4_has, Cond.methodLink RX5 144 yX2_walkOn, Cond.instanceMethod yX2_walkOn, Cond.selects RX2 yX2_walkOn yX2_walkOn, Cond.code yX2_walkOn cX2_walkOn 7 (some .int), Cond.static yX5_doorOf, Cond.code yX5_doorOf cX5_doorOf 1 (some .int), Cond.methodLink RX2 75 yX2_through, Cond.instanceMethod yX2_through, Cond.selects RX2 yX2_through yX2_through, Cond.code yX2_through cX2_through 3 (some .int), Cond.methodLink RX2 69 yX2_isBad, Cond.instanceMethod yX2_isBad]
def wsX5_after_r4 : List Cond := [Cond.selects RX2 yX2_isBad yX2_isBad, Cond.code yX2_isBad cX2_isBad 2 (some .boolean), Cond.fieldLink RX2 15 "NetWalkers$Net" "bads" "[Z", Cond.methodLink RX5 130 yX5_postOf]
def wsX5_after : List Cond := .code yX5_after cX5_after 6 (some .int) :: ((wsX5_after_r1 ++ (wsX5_after_r2 ++ (wsX5_after_r3 ++ wsX5_after_r4))) ++ wsX50 ++ wsX40 ++ wsX20)
def wsX5_stepsToAll_r1 : List Cond := [Cond.fieldLink RX5 19 "NetWalkers" "row" "LNetWalkers$Row;", Cond.fieldLink RX5 116 "NetWalkers$Row" "length" "I", Cond.fieldLink RX5 10 "NetWalkers" "net" "LNetWalkers$Net;", Cond.methodLink RX5 61 yX5_placeOf, Cond.static yX5_placeOf, Cond.initialized RX5, Cond.code yX5_placeOf cX5_placeOf 2 (some .int), Cond.methodLink RX5 193 yX2_allPosts, Cond.instanceMethod yX2_allPosts, Cond.selects RX2 yX2_allPosts yX2_allPosts, Cond.initialized RX2, Cond.code yX2_allPosts cX2_allPosts 1 (some .int), Cond.fieldLink RX2 26 "NetWalkers$Net" "size" "I", Cond.methodLink RX5 126 yX5_follow, Cond.instanceMethod yX5_follow, Cond.selects RX5 yX5_follow yX5_follow, Cond.code yX5_follow cX5_follow 5 (some .int), Cond.methodLink RX5 187 yX4_has, Cond.instanceMethod yX4_has, Cond.selects RX4 yX4_has yX4_has, Cond.initialized RX4, Cond.code yX4_has cX4_has 2 (some .boolean), Cond.fieldLink RX4 15 "NetWalkers$Row" "length" "I", Cond.methodLink RX5 190 yX4_numberAt]
def wsX5_stepsToAll_r2 : List Cond := [Cond.instanceMethod yX4_numberAt, Cond.selects RX4 yX4_numberAt yX4_numberAt, Cond.code yX4_numberAt cX4_numberAt 2 (some .int), Cond.fieldLink RX4 9 "NetWalkers$Row" "numbers" "[I", Cond.methodLink RX4 23 yX4_has, Cond.methodLink RX5 144 yX2_walkOn, Cond.instanceMethod yX2_walkOn, Cond.selects RX2 yX2_walkOn yX2_walkOn, Cond.code yX2_walkOn cX2_walkOn 7 (some .int), Cond.static yX5_postOf, Cond.code yX5_postOf cX5_postOf 1 (some .int), Cond.methodLink RX2 59 yX2_degreeOf, Cond.instanceMethod yX2_degreeOf, Cond.selects RX2 yX2_degreeOf yX2_degreeOf, Cond.code yX2_degreeOf cX2_degreeOf 2 (some .int), Cond.fieldLink RX2 19 "NetWalkers$Net" "degrees" "[I", Cond.static yX5_doorOf, Cond.code yX5_doorOf cX5_doorOf 1 (some .int), Cond.methodLink RX2 75 yX2_through, Cond.instanceMethod yX2_through, Cond.selects RX2 yX2_through yX2_through, Cond.code yX2_through cX2_through 3 (some .int), Cond.methodLink RX2 66 yX2_endOf, Cond.instanceMethod yX2_endOf]
def wsX5_stepsToAll_r3 : List Cond := [Cond.selects RX2 yX2_endOf yX2_endOf, Cond.code yX2_endOf cX2_endOf 2 (some .int), Cond.fieldLink RX2 9 "NetWalkers$Net" "ends" "[I", Cond.methodLink RX2 69 yX2_isBad, Cond.instanceMethod yX2_isBad, Cond.selects RX2 yX2_isBad yX2_isBad, Cond.code yX2_isBad cX2_isBad 2 (some .boolean), Cond.fieldLink RX2 15 "NetWalkers$Net" "bads" "[Z", Cond.methodLink RX5 130 yX5_postOf]
def wsX5_stepsToAll : List Cond := .code yX5_stepsToAll cX5_stepsToAll 6 (some .int) :: ((wsX5_stepsToAll_r1 ++ (wsX5_stepsToAll_r2 ++ wsX5_stepsToAll_r3)) ++ wsX50 ++ wsX40 ++ wsX20)
def wsX5_walks_r1 : List Cond := [Cond.fieldLink RX5 10 "NetWalkers" "net" "LNetWalkers$Net;", Cond.methodLink RX5 97 yX2_hasPost, Cond.instanceMethod yX2_hasPost, Cond.selects RX2 yX2_hasPost yX2_hasPost, Cond.initialized RX2, Cond.code yX2_hasPost cX2_hasPost 2 (some .boolean), Cond.fieldLink RX2 26 "NetWalkers$Net" "size" "I", Cond.methodLink RX5 123 yX5_isHow, Cond.static yX5_isHow, Cond.initialized RX5, Cond.code yX5_isHow cX5_isHow 1 (some .boolean), Cond.methodLink RX5 93 yX2_isReady, Cond.instanceMethod yX2_isReady, Cond.selects RX2 yX2_isReady yX2_isReady, Cond.code yX2_isReady cX2_isReady 2 (some .boolean), Cond.methodLink RX2 49 yX2_hasFirstDoors, Cond.instanceMethod yX2_hasFirstDoors, Cond.selects RX2 yX2_hasFirstDoors yX2_hasFirstDoors, Cond.code yX2_hasFirstDoors cX2_hasFirstDoors 3 (some .boolean), Cond.methodLink RX2 59 yX2_degreeOf, Cond.instanceMethod yX2_degreeOf, Cond.selects RX2 yX2_degreeOf yX2_degreeOf, Cond.code yX2_degreeOf cX2_degreeOf 2 (some .int), Cond.fieldLink RX2 19 "NetWalkers$Net" "degrees" "[I"]
def wsX5_walks_r2 : List Cond := [Cond.static yX5_placeOf, Cond.code yX5_placeOf cX5_placeOf 2 (some .int), Cond.methodLink RX2 66 yX2_endOf, Cond.instanceMethod yX2_endOf, Cond.selects RX2 yX2_endOf yX2_endOf, Cond.code yX2_endOf cX2_endOf 2 (some .int), Cond.fieldLink RX2 9 "NetWalkers$Net" "ends" "[I", Cond.methodLink RX2 52 yX2_reachedFromFirst, Cond.instanceMethod yX2_reachedFromFirst, Cond.selects RX2 yX2_reachedFromFirst yX2_reachedFromFirst, Cond.code yX2_reachedFromFirst cX2_reachedFromFirst 4 (some .int), Cond.static yX5_postOf, Cond.code yX5_postOf cX5_postOf 1 (some .int), Cond.methodLink RX2 56 yX2_allPosts, Cond.instanceMethod yX2_allPosts, Cond.selects RX2 yX2_allPosts yX2_allPosts, Cond.code yX2_allPosts cX2_allPosts 1 (some .int), Cond.methodLink RX5 133 yX5_stepsToAll, Cond.instanceMethod yX5_stepsToAll, Cond.selects RX5 yX5_stepsToAll yX5_stepsToAll, Cond.code yX5_stepsToAll cX5_stepsToAll 6 (some .int), Cond.fieldLink RX5 19 "NetWalkers" "row" "LNetWalkers$Row;", Cond.fieldLink RX5 116 "NetWalkers$Row" "length" "I", Cond.methodLink RX5 61 yX5_placeOf]
def wsX5_walks_r3 : List Cond := [Cond.methodLink RX5 193 yX2_allPosts, Cond.methodLink RX5 126 yX5_follow, Cond.instanceMethod yX5_follow, Cond.selects RX5 yX5_follow yX5_follow, Cond.code yX5_follow cX5_follow 5 (some .int), Cond.methodLink RX5 187 yX4_has, Cond.instanceMethod yX4_has, Cond.selects RX4 yX4_has yX4_has, Cond.initialized RX4, Cond.code yX4_has cX4_has 2 (some .boolean), Cond.fieldLink RX4 15 "NetWalkers$Row" "length" "I", Cond.methodLink RX5 190 yX4_numberAt, Cond.instanceMethod yX4_numberAt, Cond.selects RX4 yX4_numberAt yX4_numberAt, Cond.code yX4_numberAt cX4_numberAt 2 (some .int), Cond.fieldLink RX4 9 "NetWalkers$Row" "numbers" "[I", Cond.methodLink RX4 23 yX4_has, Cond.methodLink RX5 144 yX2_walkOn, Cond.instanceMethod yX2_walkOn, Cond.selects RX2 yX2_walkOn yX2_walkOn, Cond.code yX2_walkOn cX2_walkOn 7 (some .int), Cond.static yX5_doorOf, Cond.code yX5_doorOf cX5_doorOf 1 (some .int), Cond.methodLink RX2 75 yX2_through]
def wsX5_walks_r4 : List Cond := [Cond.instanceMethod yX2_through, Cond.selects RX2 yX2_through yX2_through, Cond.code yX2_through cX2_through 3 (some .int), Cond.methodLink RX2 69 yX2_isBad, Cond.instanceMethod yX2_isBad, Cond.selects RX2 yX2_isBad yX2_isBad, Cond.code yX2_isBad cX2_isBad 2 (some .boolean), Cond.fieldLink RX2 15 "NetWalkers$Net" "bads" "[Z", Cond.methodLink RX5 130 yX5_postOf]
def wsX5_walks : List Cond := .code yX5_walks cX5_walks 3 (some .int) :: ((wsX5_walks_r1 ++ (wsX5_walks_r2 ++ (wsX5_walks_r3 ++ wsX5_walks_r4))) ++ wsX50 ++ wsX20 ++ wsX40)
def wsX5_fails_r1 : List Cond := [Cond.fieldLink RX5 10 "NetWalkers" "net" "LNetWalkers$Net;", Cond.fieldLink RX5 49 "NetWalkers$Net" "size" "I", Cond.methodLink RX5 123 yX5_isHow, Cond.static yX5_isHow, Cond.initialized RX5, Cond.code yX5_isHow cX5_isHow 1 (some .boolean), Cond.methodLink RX5 93 yX2_isReady, Cond.instanceMethod yX2_isReady, Cond.selects RX2 yX2_isReady yX2_isReady, Cond.initialized RX2, Cond.code yX2_isReady cX2_isReady 2 (some .boolean), Cond.fieldLink RX2 26 "NetWalkers$Net" "size" "I", Cond.methodLink RX2 49 yX2_hasFirstDoors, Cond.instanceMethod yX2_hasFirstDoors, Cond.selects RX2 yX2_hasFirstDoors yX2_hasFirstDoors, Cond.code yX2_hasFirstDoors cX2_hasFirstDoors 3 (some .boolean), Cond.methodLink RX2 59 yX2_degreeOf, Cond.instanceMethod yX2_degreeOf, Cond.selects RX2 yX2_degreeOf yX2_degreeOf, Cond.code yX2_degreeOf cX2_degreeOf 2 (some .int), Cond.fieldLink RX2 19 "NetWalkers$Net" "degrees" "[I", Cond.static yX5_placeOf, Cond.code yX5_placeOf cX5_placeOf 2 (some .int), Cond.methodLink RX2 66 yX2_endOf]
def wsX5_fails_r2 : List Cond := [Cond.instanceMethod yX2_endOf, Cond.selects RX2 yX2_endOf yX2_endOf, Cond.code yX2_endOf cX2_endOf 2 (some .int), Cond.fieldLink RX2 9 "NetWalkers$Net" "ends" "[I", Cond.methodLink RX2 52 yX2_reachedFromFirst, Cond.instanceMethod yX2_reachedFromFirst, Cond.selects RX2 yX2_reachedFromFirst yX2_reachedFromFirst, Cond.code yX2_reachedFromFirst cX2_reachedFromFirst 4 (some .int), Cond.static yX5_postOf, Cond.code yX5_postOf cX5_postOf 1 (some .int), Cond.methodLink RX2 56 yX2_allPosts, Cond.instanceMethod yX2_allPosts, Cond.selects RX2 yX2_allPosts yX2_allPosts, Cond.code yX2_allPosts cX2_allPosts 1 (some .int), Cond.methodLink RX5 133 yX5_stepsToAll, Cond.instanceMethod yX5_stepsToAll, Cond.selects RX5 yX5_stepsToAll yX5_stepsToAll, Cond.code yX5_stepsToAll cX5_stepsToAll 6 (some .int), Cond.fieldLink RX5 19 "NetWalkers" "row" "LNetWalkers$Row;", Cond.fieldLink RX5 116 "NetWalkers$Row" "length" "I", Cond.methodLink RX5 61 yX5_placeOf, Cond.methodLink RX5 193 yX2_allPosts, Cond.methodLink RX5 126 yX5_follow, Cond.instanceMethod yX5_follow]
def wsX5_fails_r3 : List Cond := [Cond.selects RX5 yX5_follow yX5_follow, Cond.code yX5_follow cX5_follow 5 (some .int), Cond.methodLink RX5 187 yX4_has, Cond.instanceMethod yX4_has, Cond.selects RX4 yX4_has yX4_has, Cond.initialized RX4, Cond.code yX4_has cX4_has 2 (some .boolean), Cond.fieldLink RX4 15 "NetWalkers$Row" "length" "I", Cond.methodLink RX5 190 yX4_numberAt, Cond.instanceMethod yX4_numberAt, Cond.selects RX4 yX4_numberAt yX4_numberAt, Cond.code yX4_numberAt cX4_numberAt 2 (some .int), Cond.fieldLink RX4 9 "NetWalkers$Row" "numbers" "[I", Cond.methodLink RX4 23 yX4_has, Cond.methodLink RX5 144 yX2_walkOn, Cond.instanceMethod yX2_walkOn, Cond.selects RX2 yX2_walkOn yX2_walkOn, Cond.code yX2_walkOn cX2_walkOn 7 (some .int), Cond.static yX5_doorOf, Cond.code yX5_doorOf cX5_doorOf 1 (some .int), Cond.methodLink RX2 75 yX2_through, Cond.instanceMethod yX2_through, Cond.selects RX2 yX2_through yX2_through, Cond.code yX2_through cX2_through 3 (some .int)]
def wsX5_fails_r4 : List Cond := [Cond.methodLink RX2 69 yX2_isBad, Cond.instanceMethod yX2_isBad, Cond.selects RX2 yX2_isBad yX2_isBad, Cond.code yX2_isBad cX2_isBad 2 (some .boolean), Cond.fieldLink RX2 15 "NetWalkers$Net" "bads" "[Z", Cond.methodLink RX5 130 yX5_postOf]
def wsX5_fails : List Cond := .code yX5_fails cX5_fails 4 (some .int) :: ((wsX5_fails_r1 ++ (wsX5_fails_r2 ++ (wsX5_fails_r3 ++ wsX5_fails_r4))) ++ wsX50 ++ wsX20 ++ wsX40)
def wsX5_sent_r1 : List Cond := [Cond.fieldLink RX5 10 "NetWalkers" "net" "LNetWalkers$Net;", Cond.fieldLink RX5 31 "NetWalkers" "hands" "LNetWalkers$Hands;", Cond.methodLink RX5 97 yX2_hasPost, Cond.instanceMethod yX2_hasPost, Cond.selects RX2 yX2_hasPost yX2_hasPost, Cond.initialized RX2, Cond.code yX2_hasPost cX2_hasPost 2 (some .boolean), Cond.fieldLink RX2 26 "NetWalkers$Net" "size" "I", Cond.methodLink RX5 93 yX2_isReady, Cond.instanceMethod yX2_isReady, Cond.selects RX2 yX2_isReady yX2_isReady, Cond.code yX2_isReady cX2_isReady 2 (some .boolean), Cond.methodLink RX2 49 yX2_hasFirstDoors, Cond.instanceMethod yX2_hasFirstDoors, Cond.selects RX2 yX2_hasFirstDoors yX2_hasFirstDoors, Cond.code yX2_hasFirstDoors cX2_hasFirstDoors 3 (some .boolean), Cond.methodLink RX2 59 yX2_degreeOf, Cond.instanceMethod yX2_degreeOf, Cond.selects RX2 yX2_degreeOf yX2_degreeOf, Cond.code yX2_degreeOf cX2_degreeOf 2 (some .int), Cond.fieldLink RX2 19 "NetWalkers$Net" "degrees" "[I", Cond.static yX5_placeOf, Cond.initialized RX5, Cond.code yX5_placeOf cX5_placeOf 2 (some .int)]
def wsX5_sent_r2 : List Cond := [Cond.methodLink RX2 66 yX2_endOf, Cond.instanceMethod yX2_endOf, Cond.selects RX2 yX2_endOf yX2_endOf, Cond.code yX2_endOf cX2_endOf 2 (some .int), Cond.fieldLink RX2 9 "NetWalkers$Net" "ends" "[I", Cond.methodLink RX2 52 yX2_reachedFromFirst, Cond.instanceMethod yX2_reachedFromFirst, Cond.selects RX2 yX2_reachedFromFirst yX2_reachedFromFirst, Cond.code yX2_reachedFromFirst cX2_reachedFromFirst 4 (some .int), Cond.static yX5_postOf, Cond.code yX5_postOf cX5_postOf 1 (some .int), Cond.methodLink RX2 56 yX2_allPosts, Cond.instanceMethod yX2_allPosts, Cond.selects RX2 yX2_allPosts yX2_allPosts, Cond.code yX2_allPosts cX2_allPosts 1 (some .int), Cond.methodLink RX5 136 yX0_stepsToAll, Cond.instanceMethod yX0_stepsToAll, Cond.selects RX0 yX0_stepsToAll yX0_stepsToAll, Cond.initialized RX0, Cond.code yX0_stepsToAll cX0_stepsToAll 6 (some .int), Cond.fieldLink RX0 11 "NetWalkers$Hands" "net" "LNetWalkers$Net;", Cond.methodLink RX0 35 yX0_start, Cond.static yX0_start, Cond.code yX0_start cX0_start 1 (some .int)]
def wsX5_sent_r3 : List Cond := [Cond.methodLink RX0 38 yX2_allPosts, Cond.methodLink RX0 42 yX0_sendOn, Cond.instanceMethod yX0_sendOn, Cond.selects RX0 yX0_sendOn yX0_sendOn, Cond.code yX0_sendOn cX0_sendOn 9 (some .int), Cond.constant RX0 24 (65535), Cond.methodLink RX0 15 yX0_postAt, Cond.static yX0_postAt, Cond.code yX0_postAt cX0_postAt 1 (some .int), Cond.methodLink RX0 19 yX2_degreeOf, Cond.methodLink RX0 29 yX2_through, Cond.instanceMethod yX2_through, Cond.selects RX2 yX2_through yX2_through, Cond.code yX2_through cX2_through 3 (some .int), Cond.methodLink RX2 69 yX2_isBad, Cond.instanceMethod yX2_isBad, Cond.selects RX2 yX2_isBad yX2_isBad, Cond.code yX2_isBad cX2_isBad 2 (some .boolean), Cond.fieldLink RX2 15 "NetWalkers$Net" "bads" "[Z", Cond.methodLink RX0 45 yX0_isMarkTime, Cond.static yX0_isMarkTime, Cond.code yX0_isMarkTime cX0_isMarkTime 1 (some .boolean), Cond.methodLink RX5 138 yX0_ringLength, Cond.instanceMethod yX0_ringLength]
def wsX5_sent_r4 : List Cond := [Cond.selects RX0 yX0_ringLength yX0_ringLength, Cond.code yX0_ringLength cX0_ringLength 7 (some .int), Cond.constant RX0 49 (60000), Cond.methodLink RX5 141 yX0_stepsAhead, Cond.instanceMethod yX0_stepsAhead, Cond.selects RX0 yX0_stepsAhead yX0_stepsAhead, Cond.code yX0_stepsAhead cX0_stepsAhead 6 (some .int)]
def wsX5_sent : List Cond := .code yX5_sent cX5_sent 5 (some .int) :: ((wsX5_sent_r1 ++ (wsX5_sent_r2 ++ (wsX5_sent_r3 ++ wsX5_sent_r4))) ++ wsX50 ++ wsX20 ++ wsX00)
def wsX5_next_r1 : List Cond := [Cond.fieldLink RX5 10 "NetWalkers" "net" "LNetWalkers$Net;", Cond.methodLink RX5 97 yX2_hasPost, Cond.instanceMethod yX2_hasPost, Cond.selects RX2 yX2_hasPost yX2_hasPost, Cond.initialized RX2, Cond.code yX2_hasPost cX2_hasPost 2 (some .boolean), Cond.fieldLink RX2 26 "NetWalkers$Net" "size" "I", Cond.methodLink RX5 93 yX2_isReady, Cond.instanceMethod yX2_isReady, Cond.selects RX2 yX2_isReady yX2_isReady, Cond.code yX2_isReady cX2_isReady 2 (some .boolean), Cond.methodLink RX2 49 yX2_hasFirstDoors, Cond.instanceMethod yX2_hasFirstDoors, Cond.selects RX2 yX2_hasFirstDoors yX2_hasFirstDoors, Cond.code yX2_hasFirstDoors cX2_hasFirstDoors 3 (some .boolean), Cond.methodLink RX2 59 yX2_degreeOf, Cond.instanceMethod yX2_degreeOf, Cond.selects RX2 yX2_degreeOf yX2_degreeOf, Cond.code yX2_degreeOf cX2_degreeOf 2 (some .int), Cond.fieldLink RX2 19 "NetWalkers$Net" "degrees" "[I", Cond.static yX5_placeOf, Cond.initialized RX5, Cond.code yX5_placeOf cX5_placeOf 2 (some .int), Cond.methodLink RX2 66 yX2_endOf]
def wsX5_next_r2 : List Cond := [Cond.instanceMethod yX2_endOf, Cond.selects RX2 yX2_endOf yX2_endOf, Cond.code yX2_endOf cX2_endOf 2 (some .int), Cond.fieldLink RX2 9 "NetWalkers$Net" "ends" "[I", Cond.methodLink RX2 52 yX2_reachedFromFirst, Cond.instanceMethod yX2_reachedFromFirst, Cond.selects RX2 yX2_reachedFromFirst yX2_reachedFromFirst, Cond.code yX2_reachedFromFirst cX2_reachedFromFirst 4 (some .int), Cond.static yX5_postOf, Cond.code yX5_postOf cX5_postOf 1 (some .int), Cond.methodLink RX2 56 yX2_allPosts, Cond.instanceMethod yX2_allPosts, Cond.selects RX2 yX2_allPosts yX2_allPosts, Cond.code yX2_allPosts cX2_allPosts 1 (some .int), Cond.methodLink RX5 61 yX5_placeOf, Cond.methodLink RX5 144 yX2_walkOn, Cond.instanceMethod yX2_walkOn, Cond.selects RX2 yX2_walkOn yX2_walkOn, Cond.code yX2_walkOn cX2_walkOn 7 (some .int), Cond.static yX5_doorOf, Cond.code yX5_doorOf cX5_doorOf 1 (some .int), Cond.methodLink RX2 75 yX2_through, Cond.instanceMethod yX2_through, Cond.selects RX2 yX2_through yX2_through]
def wsX5_next_r3 : List Cond := [Cond.code yX2_through cX2_through 3 (some .int), Cond.methodLink RX2 69 yX2_isBad, Cond.instanceMethod yX2_isBad, Cond.selects RX2 yX2_isBad yX2_isBad, Cond.code yX2_isBad cX2_isBad 2 (some .boolean), Cond.fieldLink RX2 15 "NetWalkers$Net" "bads" "[Z", Cond.methodLink RX5 130 yX5_postOf]
def wsX5_next : List Cond := .code yX5_next cX5_next 5 (some .int) :: ((wsX5_next_r1 ++ (wsX5_next_r2 ++ wsX5_next_r3)) ++ wsX50 ++ wsX20)
def wsX5_isDepth : List Cond := .code yX5_isDepth cX5_isDepth 1 (some .boolean) :: ([])
def wsX5_look_r1 : List Cond := [Cond.fieldLink RX5 10 "NetWalkers" "net" "LNetWalkers$Net;", Cond.fieldLink RX5 38 "NetWalkers" "looks" "LNetWalkers$Looks;", Cond.methodLink RX5 97 yX2_hasPost, Cond.instanceMethod yX2_hasPost, Cond.selects RX2 yX2_hasPost yX2_hasPost, Cond.initialized RX2, Cond.code yX2_hasPost cX2_hasPost 2 (some .boolean), Cond.fieldLink RX2 26 "NetWalkers$Net" "size" "I", Cond.methodLink RX5 148 yX5_isDepth, Cond.static yX5_isDepth, Cond.initialized RX5, Cond.code yX5_isDepth cX5_isDepth 1 (some .boolean), Cond.methodLink RX5 93 yX2_isReady, Cond.instanceMethod yX2_isReady, Cond.selects RX2 yX2_isReady yX2_isReady, Cond.code yX2_isReady cX2_isReady 2 (some .boolean), Cond.methodLink RX2 49 yX2_hasFirstDoors, Cond.instanceMethod yX2_hasFirstDoors, Cond.selects RX2 yX2_hasFirstDoors yX2_hasFirstDoors, Cond.code yX2_hasFirstDoors cX2_hasFirstDoors 3 (some .boolean), Cond.methodLink RX2 59 yX2_degreeOf, Cond.instanceMethod yX2_degreeOf, Cond.selects RX2 yX2_degreeOf yX2_degreeOf, Cond.code yX2_degreeOf cX2_degreeOf 2 (some .int)]
def wsX5_look_r2 : List Cond := [Cond.fieldLink RX2 19 "NetWalkers$Net" "degrees" "[I", Cond.static yX5_placeOf, Cond.code yX5_placeOf cX5_placeOf 2 (some .int), Cond.methodLink RX2 66 yX2_endOf, Cond.instanceMethod yX2_endOf, Cond.selects RX2 yX2_endOf yX2_endOf, Cond.code yX2_endOf cX2_endOf 2 (some .int), Cond.fieldLink RX2 9 "NetWalkers$Net" "ends" "[I", Cond.methodLink RX2 52 yX2_reachedFromFirst, Cond.instanceMethod yX2_reachedFromFirst, Cond.selects RX2 yX2_reachedFromFirst yX2_reachedFromFirst, Cond.code yX2_reachedFromFirst cX2_reachedFromFirst 4 (some .int), Cond.static yX5_postOf, Cond.code yX5_postOf cX5_postOf 1 (some .int), Cond.methodLink RX2 56 yX2_allPosts, Cond.instanceMethod yX2_allPosts, Cond.selects RX2 yX2_allPosts yX2_allPosts, Cond.code yX2_allPosts cX2_allPosts 1 (some .int), Cond.methodLink RX5 151 yX1_lookTo, Cond.instanceMethod yX1_lookTo, Cond.selects RX1 yX1_lookTo yX1_lookTo, Cond.initialized RX1, Cond.code yX1_lookTo cX1_lookTo 4 (some .int), Cond.fieldLink RX1 25 "NetWalkers$Looks" "count" "I"]
def wsX5_look_r3 : List Cond := [Cond.methodLink RX1 22 yX1_lookAtDegrees, Cond.instanceMethod yX1_lookAtDegrees, Cond.selects RX1 yX1_lookAtDegrees yX1_lookAtDegrees, Cond.code yX1_lookAtDegrees cX1_lookAtDegrees 2 none, Cond.fieldLink RX1 9 "NetWalkers$Looks" "kinds" "[I", Cond.methodLink RX1 36 yX1_split, Cond.instanceMethod yX1_split, Cond.selects RX1 yX1_split yX1_split, Cond.code yX1_split cX1_split 4 none, Cond.fieldLink RX1 18 "NetWalkers$Looks" "net" "LNetWalkers$Net;", Cond.fieldLink RX1 40 "NetWalkers$Net" "size" "I", Cond.fieldLink RX1 15 "NetWalkers$Looks" "finer" "[I", Cond.methodLink RX1 45 yX1_leastLike, Cond.instanceMethod yX1_leastLike, Cond.selects RX1 yX1_leastLike yX1_leastLike, Cond.code yX1_leastLike cX1_leastLike 4 (some .int), Cond.methodLink RX1 49 yX2_degreeOf, Cond.methodLink RX1 52 yX1_staysAlike, Cond.instanceMethod yX1_staysAlike, Cond.selects RX1 yX1_staysAlike yX1_staysAlike, Cond.code yX1_staysAlike cX1_staysAlike 6 (some .boolean), Cond.methodLink RX1 32 yX1_kindOf, Cond.instanceMethod yX1_kindOf, Cond.selects RX1 yX1_kindOf yX1_kindOf]
def wsX5_look_r4 : List Cond := [Cond.code yX1_kindOf cX1_kindOf 2 (some .int), Cond.methodLink RX1 60 yX2_endOf, Cond.static yX5_doorOf, Cond.code yX5_doorOf cX5_doorOf 1 (some .int), Cond.methodLink RX1 29 yX1_lookDeeper, Cond.instanceMethod yX1_lookDeeper, Cond.selects RX1 yX1_lookDeeper yX1_lookDeeper, Cond.code yX1_lookDeeper cX1_lookDeeper 1 none, Cond.methodLink RX5 154 yX1_kindOf]
def wsX5_look : List Cond := .code yX5_look cX5_look 3 (some .int) :: ((wsX5_look_r1 ++ (wsX5_look_r2 ++ (wsX5_look_r3 ++ wsX5_look_r4))) ++ wsX50 ++ wsX20 ++ wsX10)
def wsX5_classes_r1 : List Cond := [Cond.fieldLink RX5 10 "NetWalkers" "net" "LNetWalkers$Net;", Cond.fieldLink RX5 38 "NetWalkers" "looks" "LNetWalkers$Looks;", Cond.fieldLink RX5 157 "NetWalkers$Looks" "count" "I", Cond.methodLink RX5 148 yX5_isDepth, Cond.static yX5_isDepth, Cond.initialized RX5, Cond.code yX5_isDepth cX5_isDepth 1 (some .boolean), Cond.methodLink RX5 93 yX2_isReady, Cond.instanceMethod yX2_isReady, Cond.selects RX2 yX2_isReady yX2_isReady, Cond.initialized RX2, Cond.code yX2_isReady cX2_isReady 2 (some .boolean), Cond.fieldLink RX2 26 "NetWalkers$Net" "size" "I", Cond.methodLink RX2 49 yX2_hasFirstDoors, Cond.instanceMethod yX2_hasFirstDoors, Cond.selects RX2 yX2_hasFirstDoors yX2_hasFirstDoors, Cond.code yX2_hasFirstDoors cX2_hasFirstDoors 3 (some .boolean), Cond.methodLink RX2 59 yX2_degreeOf, Cond.instanceMethod yX2_degreeOf, Cond.selects RX2 yX2_degreeOf yX2_degreeOf, Cond.code yX2_degreeOf cX2_degreeOf 2 (some .int), Cond.fieldLink RX2 19 "NetWalkers$Net" "degrees" "[I", Cond.static yX5_placeOf, Cond.code yX5_placeOf cX5_placeOf 2 (some .int)]
def wsX5_classes_r2 : List Cond := [Cond.methodLink RX2 66 yX2_endOf, Cond.instanceMethod yX2_endOf, Cond.selects RX2 yX2_endOf yX2_endOf, Cond.code yX2_endOf cX2_endOf 2 (some .int), Cond.fieldLink RX2 9 "NetWalkers$Net" "ends" "[I", Cond.methodLink RX2 52 yX2_reachedFromFirst, Cond.instanceMethod yX2_reachedFromFirst, Cond.selects RX2 yX2_reachedFromFirst yX2_reachedFromFirst, Cond.code yX2_reachedFromFirst cX2_reachedFromFirst 4 (some .int), Cond.static yX5_postOf, Cond.code yX5_postOf cX5_postOf 1 (some .int), Cond.methodLink RX2 56 yX2_allPosts, Cond.instanceMethod yX2_allPosts, Cond.selects RX2 yX2_allPosts yX2_allPosts, Cond.code yX2_allPosts cX2_allPosts 1 (some .int), Cond.methodLink RX5 151 yX1_lookTo, Cond.instanceMethod yX1_lookTo, Cond.selects RX1 yX1_lookTo yX1_lookTo, Cond.initialized RX1, Cond.code yX1_lookTo cX1_lookTo 4 (some .int), Cond.fieldLink RX1 25 "NetWalkers$Looks" "count" "I", Cond.methodLink RX1 22 yX1_lookAtDegrees, Cond.instanceMethod yX1_lookAtDegrees, Cond.selects RX1 yX1_lookAtDegrees yX1_lookAtDegrees]
def wsX5_classes_r3 : List Cond := [Cond.code yX1_lookAtDegrees cX1_lookAtDegrees 2 none, Cond.fieldLink RX1 9 "NetWalkers$Looks" "kinds" "[I", Cond.methodLink RX1 36 yX1_split, Cond.instanceMethod yX1_split, Cond.selects RX1 yX1_split yX1_split, Cond.code yX1_split cX1_split 4 none, Cond.fieldLink RX1 18 "NetWalkers$Looks" "net" "LNetWalkers$Net;", Cond.fieldLink RX1 40 "NetWalkers$Net" "size" "I", Cond.fieldLink RX1 15 "NetWalkers$Looks" "finer" "[I", Cond.methodLink RX1 45 yX1_leastLike, Cond.instanceMethod yX1_leastLike, Cond.selects RX1 yX1_leastLike yX1_leastLike, Cond.code yX1_leastLike cX1_leastLike 4 (some .int), Cond.methodLink RX1 49 yX2_degreeOf, Cond.methodLink RX1 52 yX1_staysAlike, Cond.instanceMethod yX1_staysAlike, Cond.selects RX1 yX1_staysAlike yX1_staysAlike, Cond.code yX1_staysAlike cX1_staysAlike 6 (some .boolean), Cond.methodLink RX1 32 yX1_kindOf, Cond.instanceMethod yX1_kindOf, Cond.selects RX1 yX1_kindOf yX1_kindOf, Cond.code yX1_kindOf cX1_kindOf 2 (some .int), Cond.methodLink RX1 60 yX2_endOf, Cond.static yX5_doorOf]
def wsX5_classes_r4 : List Cond := [Cond.code yX5_doorOf cX5_doorOf 1 (some .int), Cond.methodLink RX1 29 yX1_lookDeeper, Cond.instanceMethod yX1_lookDeeper, Cond.selects RX1 yX1_lookDeeper yX1_lookDeeper, Cond.code yX1_lookDeeper cX1_lookDeeper 1 none]
def wsX5_classes : List Cond := .code yX5_classes cX5_classes 2 (some .int) :: ((wsX5_classes_r1 ++ (wsX5_classes_r2 ++ (wsX5_classes_r3 ++ wsX5_classes_r4))) ++ wsX50 ++ wsX10 ++ wsX20)
def wsX5_deep_r1 : List Cond := [Cond.fieldLink RX5 10 "NetWalkers" "net" "LNetWalkers$Net;", Cond.fieldLink RX5 38 "NetWalkers" "looks" "LNetWalkers$Looks;", Cond.methodLink RX5 93 yX2_isReady, Cond.instanceMethod yX2_isReady, Cond.selects RX2 yX2_isReady yX2_isReady, Cond.initialized RX2, Cond.code yX2_isReady cX2_isReady 2 (some .boolean), Cond.fieldLink RX2 26 "NetWalkers$Net" "size" "I", Cond.methodLink RX2 49 yX2_hasFirstDoors, Cond.instanceMethod yX2_hasFirstDoors, Cond.selects RX2 yX2_hasFirstDoors yX2_hasFirstDoors, Cond.code yX2_hasFirstDoors cX2_hasFirstDoors 3 (some .boolean), Cond.methodLink RX2 59 yX2_degreeOf, Cond.instanceMethod yX2_degreeOf, Cond.selects RX2 yX2_degreeOf yX2_degreeOf, Cond.code yX2_degreeOf cX2_degreeOf 2 (some .int), Cond.fieldLink RX2 19 "NetWalkers$Net" "degrees" "[I", Cond.static yX5_placeOf, Cond.initialized RX5, Cond.code yX5_placeOf cX5_placeOf 2 (some .int), Cond.methodLink RX2 66 yX2_endOf, Cond.instanceMethod yX2_endOf, Cond.selects RX2 yX2_endOf yX2_endOf, Cond.code yX2_endOf cX2_endOf 2 (some .int)]
def wsX5_deep_r2 : List Cond := [Cond.fieldLink RX2 9 "NetWalkers$Net" "ends" "[I", Cond.methodLink RX2 52 yX2_reachedFromFirst, Cond.instanceMethod yX2_reachedFromFirst, Cond.selects RX2 yX2_reachedFromFirst yX2_reachedFromFirst, Cond.code yX2_reachedFromFirst cX2_reachedFromFirst 4 (some .int), Cond.static yX5_postOf, Cond.code yX5_postOf cX5_postOf 1 (some .int), Cond.methodLink RX2 56 yX2_allPosts, Cond.instanceMethod yX2_allPosts, Cond.selects RX2 yX2_allPosts yX2_allPosts, Cond.code yX2_allPosts cX2_allPosts 1 (some .int), Cond.methodLink RX5 151 yX1_lookTo, Cond.instanceMethod yX1_lookTo, Cond.selects RX1 yX1_lookTo yX1_lookTo, Cond.initialized RX1, Cond.code yX1_lookTo cX1_lookTo 4 (some .int), Cond.fieldLink RX1 25 "NetWalkers$Looks" "count" "I", Cond.methodLink RX1 22 yX1_lookAtDegrees, Cond.instanceMethod yX1_lookAtDegrees, Cond.selects RX1 yX1_lookAtDegrees yX1_lookAtDegrees, Cond.code yX1_lookAtDegrees cX1_lookAtDegrees 2 none, Cond.fieldLink RX1 9 "NetWalkers$Looks" "kinds" "[I", Cond.methodLink RX1 36 yX1_split, Cond.instanceMethod yX1_split]
def wsX5_deep_r3 : List Cond := [Cond.selects RX1 yX1_split yX1_split, Cond.code yX1_split cX1_split 4 none, Cond.fieldLink RX1 18 "NetWalkers$Looks" "net" "LNetWalkers$Net;", Cond.fieldLink RX1 40 "NetWalkers$Net" "size" "I", Cond.fieldLink RX1 15 "NetWalkers$Looks" "finer" "[I", Cond.methodLink RX1 45 yX1_leastLike, Cond.instanceMethod yX1_leastLike, Cond.selects RX1 yX1_leastLike yX1_leastLike, Cond.code yX1_leastLike cX1_leastLike 4 (some .int), Cond.methodLink RX1 49 yX2_degreeOf, Cond.methodLink RX1 52 yX1_staysAlike, Cond.instanceMethod yX1_staysAlike, Cond.selects RX1 yX1_staysAlike yX1_staysAlike, Cond.code yX1_staysAlike cX1_staysAlike 6 (some .boolean), Cond.methodLink RX1 32 yX1_kindOf, Cond.instanceMethod yX1_kindOf, Cond.selects RX1 yX1_kindOf yX1_kindOf, Cond.code yX1_kindOf cX1_kindOf 2 (some .int), Cond.methodLink RX1 60 yX2_endOf, Cond.static yX5_doorOf, Cond.code yX5_doorOf cX5_doorOf 1 (some .int), Cond.methodLink RX1 29 yX1_lookDeeper, Cond.instanceMethod yX1_lookDeeper, Cond.selects RX1 yX1_lookDeeper yX1_lookDeeper]
def wsX5_deep_r4 : List Cond := [Cond.code yX1_lookDeeper cX1_lookDeeper 1 none]
def wsX5_deep : List Cond := .code yX5_deep cX5_deep 1 (some .int) :: ((wsX5_deep_r1 ++ (wsX5_deep_r2 ++ (wsX5_deep_r3 ++ wsX5_deep_r4))) ++ wsX50 ++ wsX20 ++ wsX10)
def wsX5_apart_r1 : List Cond := [Cond.fieldLink RX5 10 "NetWalkers" "net" "LNetWalkers$Net;", Cond.fieldLink RX5 38 "NetWalkers" "looks" "LNetWalkers$Looks;", Cond.methodLink RX5 97 yX2_hasPost, Cond.instanceMethod yX2_hasPost, Cond.selects RX2 yX2_hasPost yX2_hasPost, Cond.initialized RX2, Cond.code yX2_hasPost cX2_hasPost 2 (some .boolean), Cond.fieldLink RX2 26 "NetWalkers$Net" "size" "I", Cond.methodLink RX5 93 yX2_isReady, Cond.instanceMethod yX2_isReady, Cond.selects RX2 yX2_isReady yX2_isReady, Cond.code yX2_isReady cX2_isReady 2 (some .boolean), Cond.methodLink RX2 49 yX2_hasFirstDoors, Cond.instanceMethod yX2_hasFirstDoors, Cond.selects RX2 yX2_hasFirstDoors yX2_hasFirstDoors, Cond.code yX2_hasFirstDoors cX2_hasFirstDoors 3 (some .boolean), Cond.methodLink RX2 59 yX2_degreeOf, Cond.instanceMethod yX2_degreeOf, Cond.selects RX2 yX2_degreeOf yX2_degreeOf, Cond.code yX2_degreeOf cX2_degreeOf 2 (some .int), Cond.fieldLink RX2 19 "NetWalkers$Net" "degrees" "[I", Cond.static yX5_placeOf, Cond.initialized RX5, Cond.code yX5_placeOf cX5_placeOf 2 (some .int)]
def wsX5_apart_r2 : List Cond := [Cond.methodLink RX2 66 yX2_endOf, Cond.instanceMethod yX2_endOf, Cond.selects RX2 yX2_endOf yX2_endOf, Cond.code yX2_endOf cX2_endOf 2 (some .int), Cond.fieldLink RX2 9 "NetWalkers$Net" "ends" "[I", Cond.methodLink RX2 52 yX2_reachedFromFirst, Cond.instanceMethod yX2_reachedFromFirst, Cond.selects RX2 yX2_reachedFromFirst yX2_reachedFromFirst, Cond.code yX2_reachedFromFirst cX2_reachedFromFirst 4 (some .int), Cond.static yX5_postOf, Cond.code yX5_postOf cX5_postOf 1 (some .int), Cond.methodLink RX2 56 yX2_allPosts, Cond.instanceMethod yX2_allPosts, Cond.selects RX2 yX2_allPosts yX2_allPosts, Cond.code yX2_allPosts cX2_allPosts 1 (some .int), Cond.methodLink RX5 160 yX1_depthApart, Cond.instanceMethod yX1_depthApart, Cond.selects RX1 yX1_depthApart yX1_depthApart, Cond.initialized RX1, Cond.code yX1_depthApart cX1_depthApart 4 (some .int), Cond.methodLink RX1 22 yX1_lookAtDegrees, Cond.instanceMethod yX1_lookAtDegrees, Cond.selects RX1 yX1_lookAtDegrees yX1_lookAtDegrees, Cond.code yX1_lookAtDegrees cX1_lookAtDegrees 2 none]
def wsX5_apart_r3 : List Cond := [Cond.fieldLink RX1 9 "NetWalkers$Looks" "kinds" "[I", Cond.methodLink RX1 36 yX1_split, Cond.instanceMethod yX1_split, Cond.selects RX1 yX1_split yX1_split, Cond.code yX1_split cX1_split 4 none, Cond.fieldLink RX1 25 "NetWalkers$Looks" "count" "I", Cond.fieldLink RX1 18 "NetWalkers$Looks" "net" "LNetWalkers$Net;", Cond.fieldLink RX1 40 "NetWalkers$Net" "size" "I", Cond.fieldLink RX1 15 "NetWalkers$Looks" "finer" "[I", Cond.methodLink RX1 45 yX1_leastLike, Cond.instanceMethod yX1_leastLike, Cond.selects RX1 yX1_leastLike yX1_leastLike, Cond.code yX1_leastLike cX1_leastLike 4 (some .int), Cond.methodLink RX1 49 yX2_degreeOf, Cond.methodLink RX1 52 yX1_staysAlike, Cond.instanceMethod yX1_staysAlike, Cond.selects RX1 yX1_staysAlike yX1_staysAlike, Cond.code yX1_staysAlike cX1_staysAlike 6 (some .boolean), Cond.methodLink RX1 32 yX1_kindOf, Cond.instanceMethod yX1_kindOf, Cond.selects RX1 yX1_kindOf yX1_kindOf, Cond.code yX1_kindOf cX1_kindOf 2 (some .int), Cond.methodLink RX1 60 yX2_endOf, Cond.static yX5_doorOf]
def wsX5_apart_r4 : List Cond := [Cond.code yX5_doorOf cX5_doorOf 1 (some .int), Cond.methodLink RX1 29 yX1_lookDeeper, Cond.instanceMethod yX1_lookDeeper, Cond.selects RX1 yX1_lookDeeper yX1_lookDeeper, Cond.code yX1_lookDeeper cX1_lookDeeper 1 none]
def wsX5_apart : List Cond := .code yX5_apart cX5_apart 3 (some .int) :: ((wsX5_apart_r1 ++ (wsX5_apart_r2 ++ (wsX5_apart_r3 ++ wsX5_apart_r4))) ++ wsX50 ++ wsX20 ++ wsX10)
def wsX5_meetingStep_r1 : List Cond := [Cond.fieldLink RX5 19 "NetWalkers" "row" "LNetWalkers$Row;", Cond.fieldLink RX5 116 "NetWalkers$Row" "length" "I", Cond.methodLink RX5 170 Lib.Math.max.name, Cond.static Lib.Math.max.name, Cond.initialized "java/lang/Math", Cond.code Lib.Math.max.name Lib.Math.max.code 2 (some .int), Cond.methodLink RX5 61 yX5_placeOf, Cond.static yX5_placeOf, Cond.initialized RX5, Cond.code yX5_placeOf cX5_placeOf 2 (some .int), Cond.methodLink RX5 130 yX5_postOf, Cond.static yX5_postOf, Cond.code yX5_postOf cX5_postOf 1 (some .int), Cond.methodLink RX5 126 yX5_follow, Cond.instanceMethod yX5_follow, Cond.selects RX5 yX5_follow yX5_follow, Cond.code yX5_follow cX5_follow 5 (some .int), Cond.fieldLink RX5 10 "NetWalkers" "net" "LNetWalkers$Net;", Cond.methodLink RX5 187 yX4_has, Cond.instanceMethod yX4_has, Cond.selects RX4 yX4_has yX4_has, Cond.initialized RX4, Cond.code yX4_has cX4_has 2 (some .boolean), Cond.fieldLink RX4 15 "NetWalkers$Row" "length" "I"]
def wsX5_meetingStep_r2 : List Cond := [Cond.methodLink RX5 190 yX4_numberAt, Cond.instanceMethod yX4_numberAt, Cond.selects RX4 yX4_numberAt yX4_numberAt, Cond.code yX4_numberAt cX4_numberAt 2 (some .int), Cond.fieldLink RX4 9 "NetWalkers$Row" "numbers" "[I", Cond.methodLink RX4 23 yX4_has, Cond.methodLink RX5 144 yX2_walkOn, Cond.instanceMethod yX2_walkOn, Cond.selects RX2 yX2_walkOn yX2_walkOn, Cond.initialized RX2, Cond.code yX2_walkOn cX2_walkOn 7 (some .int), Cond.methodLink RX2 59 yX2_degreeOf, Cond.instanceMethod yX2_degreeOf, Cond.selects RX2 yX2_degreeOf yX2_degreeOf, Cond.code yX2_degreeOf cX2_degreeOf 2 (some .int), Cond.fieldLink RX2 19 "NetWalkers$Net" "degrees" "[I", Cond.static yX5_doorOf, Cond.code yX5_doorOf cX5_doorOf 1 (some .int), Cond.methodLink RX2 75 yX2_through, Cond.instanceMethod yX2_through, Cond.selects RX2 yX2_through yX2_through, Cond.code yX2_through cX2_through 3 (some .int), Cond.methodLink RX2 66 yX2_endOf, Cond.instanceMethod yX2_endOf]
def wsX5_meetingStep_r3 : List Cond := [Cond.selects RX2 yX2_endOf yX2_endOf, Cond.code yX2_endOf cX2_endOf 2 (some .int), Cond.fieldLink RX2 9 "NetWalkers$Net" "ends" "[I", Cond.methodLink RX2 69 yX2_isBad, Cond.instanceMethod yX2_isBad, Cond.selects RX2 yX2_isBad yX2_isBad, Cond.code yX2_isBad cX2_isBad 2 (some .boolean), Cond.fieldLink RX2 15 "NetWalkers$Net" "bads" "[Z"]
def wsX5_meetingStep : List Cond := .code yX5_meetingStep cX5_meetingStep 9 (some .int) :: ((wsX5_meetingStep_r1 ++ (wsX5_meetingStep_r2 ++ wsX5_meetingStep_r3)) ++ wsX50 ++ wsX40 ++ wsX20)
def wsX5_meet_r1 : List Cond := [Cond.fieldLink RX5 10 "NetWalkers" "net" "LNetWalkers$Net;", Cond.methodLink RX5 97 yX2_hasPost, Cond.instanceMethod yX2_hasPost, Cond.selects RX2 yX2_hasPost yX2_hasPost, Cond.initialized RX2, Cond.code yX2_hasPost cX2_hasPost 2 (some .boolean), Cond.fieldLink RX2 26 "NetWalkers$Net" "size" "I", Cond.methodLink RX5 93 yX2_isReady, Cond.instanceMethod yX2_isReady, Cond.selects RX2 yX2_isReady yX2_isReady, Cond.code yX2_isReady cX2_isReady 2 (some .boolean), Cond.methodLink RX2 49 yX2_hasFirstDoors, Cond.instanceMethod yX2_hasFirstDoors, Cond.selects RX2 yX2_hasFirstDoors yX2_hasFirstDoors, Cond.code yX2_hasFirstDoors cX2_hasFirstDoors 3 (some .boolean), Cond.methodLink RX2 59 yX2_degreeOf, Cond.instanceMethod yX2_degreeOf, Cond.selects RX2 yX2_degreeOf yX2_degreeOf, Cond.code yX2_degreeOf cX2_degreeOf 2 (some .int), Cond.fieldLink RX2 19 "NetWalkers$Net" "degrees" "[I", Cond.static yX5_placeOf, Cond.initialized RX5, Cond.code yX5_placeOf cX5_placeOf 2 (some .int), Cond.methodLink RX2 66 yX2_endOf]
def wsX5_meet_r2 : List Cond := [Cond.instanceMethod yX2_endOf, Cond.selects RX2 yX2_endOf yX2_endOf, Cond.code yX2_endOf cX2_endOf 2 (some .int), Cond.fieldLink RX2 9 "NetWalkers$Net" "ends" "[I", Cond.methodLink RX2 52 yX2_reachedFromFirst, Cond.instanceMethod yX2_reachedFromFirst, Cond.selects RX2 yX2_reachedFromFirst yX2_reachedFromFirst, Cond.code yX2_reachedFromFirst cX2_reachedFromFirst 4 (some .int), Cond.static yX5_postOf, Cond.code yX5_postOf cX5_postOf 1 (some .int), Cond.methodLink RX2 56 yX2_allPosts, Cond.instanceMethod yX2_allPosts, Cond.selects RX2 yX2_allPosts yX2_allPosts, Cond.code yX2_allPosts cX2_allPosts 1 (some .int), Cond.methodLink RX5 106 yX5_rowOf, Cond.instanceMethod yX5_rowOf, Cond.selects RX5 yX5_rowOf yX5_rowOf, Cond.code yX5_rowOf cX5_rowOf 2 (some (.object "NetWalkers$Row")), Cond.fieldLink RX5 23 "NetWalkers" "otherRow" "LNetWalkers$Row;", Cond.fieldLink RX5 19 "NetWalkers" "row" "LNetWalkers$Row;", Cond.methodLink RX5 163 yX5_meetingStep, Cond.instanceMethod yX5_meetingStep, Cond.selects RX5 yX5_meetingStep yX5_meetingStep, Cond.code yX5_meetingStep cX5_meetingStep 9 (some .int)]
def wsX5_meet_r3 : List Cond := [Cond.fieldLink RX5 116 "NetWalkers$Row" "length" "I", Cond.methodLink RX5 170 Lib.Math.max.name, Cond.static Lib.Math.max.name, Cond.initialized "java/lang/Math", Cond.code Lib.Math.max.name Lib.Math.max.code 2 (some .int), Cond.methodLink RX5 61 yX5_placeOf, Cond.methodLink RX5 130 yX5_postOf, Cond.methodLink RX5 126 yX5_follow, Cond.instanceMethod yX5_follow, Cond.selects RX5 yX5_follow yX5_follow, Cond.code yX5_follow cX5_follow 5 (some .int), Cond.methodLink RX5 187 yX4_has, Cond.instanceMethod yX4_has, Cond.selects RX4 yX4_has yX4_has, Cond.initialized RX4, Cond.code yX4_has cX4_has 2 (some .boolean), Cond.fieldLink RX4 15 "NetWalkers$Row" "length" "I", Cond.methodLink RX5 190 yX4_numberAt, Cond.instanceMethod yX4_numberAt, Cond.selects RX4 yX4_numberAt yX4_numberAt, Cond.code yX4_numberAt cX4_numberAt 2 (some .int), Cond.fieldLink RX4 9 "NetWalkers$Row" "numbers" "[I", Cond.methodLink RX4 23 yX4_has, Cond.methodLink RX5 144 yX2_walkOn]
def wsX5_meet_r4 : List Cond := [Cond.instanceMethod yX2_walkOn, Cond.selects RX2 yX2_walkOn yX2_walkOn, Cond.code yX2_walkOn cX2_walkOn 7 (some .int), Cond.static yX5_doorOf, Cond.code yX5_doorOf cX5_doorOf 1 (some .int), Cond.methodLink RX2 75 yX2_through, Cond.instanceMethod yX2_through, Cond.selects RX2 yX2_through yX2_through, Cond.code yX2_through cX2_through 3 (some .int), Cond.methodLink RX2 69 yX2_isBad, Cond.instanceMethod yX2_isBad, Cond.selects RX2 yX2_isBad yX2_isBad, Cond.code yX2_isBad cX2_isBad 2 (some .boolean), Cond.fieldLink RX2 15 "NetWalkers$Net" "bads" "[Z"]
def wsX5_meet : List Cond := .code yX5_meet cX5_meet 5 (some .int) :: ((wsX5_meet_r1 ++ (wsX5_meet_r2 ++ (wsX5_meet_r3 ++ wsX5_meet_r4))) ++ wsX50 ++ wsX20 ++ wsX40)
def wsX5_latestMeeting_r1 : List Cond := [Cond.methodLink RX5 170 Lib.Math.max.name, Cond.static Lib.Math.max.name, Cond.initialized "java/lang/Math", Cond.code Lib.Math.max.name Lib.Math.max.code 2 (some .int), Cond.methodLink RX5 163 yX5_meetingStep, Cond.instanceMethod yX5_meetingStep, Cond.selects RX5 yX5_meetingStep yX5_meetingStep, Cond.initialized RX5, Cond.code yX5_meetingStep cX5_meetingStep 9 (some .int), Cond.fieldLink RX5 19 "NetWalkers" "row" "LNetWalkers$Row;", Cond.fieldLink RX5 116 "NetWalkers$Row" "length" "I", Cond.methodLink RX5 61 yX5_placeOf, Cond.static yX5_placeOf, Cond.code yX5_placeOf cX5_placeOf 2 (some .int), Cond.methodLink RX5 130 yX5_postOf, Cond.static yX5_postOf, Cond.code yX5_postOf cX5_postOf 1 (some .int), Cond.methodLink RX5 126 yX5_follow, Cond.instanceMethod yX5_follow, Cond.selects RX5 yX5_follow yX5_follow, Cond.code yX5_follow cX5_follow 5 (some .int), Cond.fieldLink RX5 10 "NetWalkers" "net" "LNetWalkers$Net;", Cond.methodLink RX5 187 yX4_has, Cond.instanceMethod yX4_has]
def wsX5_latestMeeting_r2 : List Cond := [Cond.selects RX4 yX4_has yX4_has, Cond.initialized RX4, Cond.code yX4_has cX4_has 2 (some .boolean), Cond.fieldLink RX4 15 "NetWalkers$Row" "length" "I", Cond.methodLink RX5 190 yX4_numberAt, Cond.instanceMethod yX4_numberAt, Cond.selects RX4 yX4_numberAt yX4_numberAt, Cond.code yX4_numberAt cX4_numberAt 2 (some .int), Cond.fieldLink RX4 9 "NetWalkers$Row" "numbers" "[I", Cond.methodLink RX4 23 yX4_has, Cond.methodLink RX5 144 yX2_walkOn, Cond.instanceMethod yX2_walkOn, Cond.selects RX2 yX2_walkOn yX2_walkOn, Cond.initialized RX2, Cond.code yX2_walkOn cX2_walkOn 7 (some .int), Cond.methodLink RX2 59 yX2_degreeOf, Cond.instanceMethod yX2_degreeOf, Cond.selects RX2 yX2_degreeOf yX2_degreeOf, Cond.code yX2_degreeOf cX2_degreeOf 2 (some .int), Cond.fieldLink RX2 19 "NetWalkers$Net" "degrees" "[I", Cond.static yX5_doorOf, Cond.code yX5_doorOf cX5_doorOf 1 (some .int), Cond.methodLink RX2 75 yX2_through, Cond.instanceMethod yX2_through]
def wsX5_latestMeeting_r3 : List Cond := [Cond.selects RX2 yX2_through yX2_through, Cond.code yX2_through cX2_through 3 (some .int), Cond.methodLink RX2 66 yX2_endOf, Cond.instanceMethod yX2_endOf, Cond.selects RX2 yX2_endOf yX2_endOf, Cond.code yX2_endOf cX2_endOf 2 (some .int), Cond.fieldLink RX2 9 "NetWalkers$Net" "ends" "[I", Cond.methodLink RX2 69 yX2_isBad, Cond.instanceMethod yX2_isBad, Cond.selects RX2 yX2_isBad yX2_isBad, Cond.code yX2_isBad cX2_isBad 2 (some .boolean), Cond.fieldLink RX2 15 "NetWalkers$Net" "bads" "[Z"]
def wsX5_latestMeeting : List Cond := .code yX5_latestMeeting cX5_latestMeeting 8 (some .int) :: ((wsX5_latestMeeting_r1 ++ (wsX5_latestMeeting_r2 ++ wsX5_latestMeeting_r3)) ++ wsX50 ++ wsX40 ++ wsX20)
def wsX5_worst_r1 : List Cond := [Cond.fieldLink RX5 10 "NetWalkers" "net" "LNetWalkers$Net;", Cond.fieldLink RX5 49 "NetWalkers$Net" "size" "I", Cond.methodLink RX5 170 Lib.Math.max.name, Cond.static Lib.Math.max.name, Cond.initialized "java/lang/Math", Cond.code Lib.Math.max.name Lib.Math.max.code 2 (some .int), Cond.methodLink RX5 93 yX2_isReady, Cond.instanceMethod yX2_isReady, Cond.selects RX2 yX2_isReady yX2_isReady, Cond.initialized RX2, Cond.code yX2_isReady cX2_isReady 2 (some .boolean), Cond.fieldLink RX2 26 "NetWalkers$Net" "size" "I", Cond.methodLink RX2 49 yX2_hasFirstDoors, Cond.instanceMethod yX2_hasFirstDoors, Cond.selects RX2 yX2_hasFirstDoors yX2_hasFirstDoors, Cond.code yX2_hasFirstDoors cX2_hasFirstDoors 3 (some .boolean), Cond.methodLink RX2 59 yX2_degreeOf, Cond.instanceMethod yX2_degreeOf, Cond.selects RX2 yX2_degreeOf yX2_degreeOf, Cond.code yX2_degreeOf cX2_degreeOf 2 (some .int), Cond.fieldLink RX2 19 "NetWalkers$Net" "degrees" "[I", Cond.static yX5_placeOf, Cond.initialized RX5, Cond.code yX5_placeOf cX5_placeOf 2 (some .int)]
def wsX5_worst_r2 : List Cond := [Cond.methodLink RX2 66 yX2_endOf, Cond.instanceMethod yX2_endOf, Cond.selects RX2 yX2_endOf yX2_endOf, Cond.code yX2_endOf cX2_endOf 2 (some .int), Cond.fieldLink RX2 9 "NetWalkers$Net" "ends" "[I", Cond.methodLink RX2 52 yX2_reachedFromFirst, Cond.instanceMethod yX2_reachedFromFirst, Cond.selects RX2 yX2_reachedFromFirst yX2_reachedFromFirst, Cond.code yX2_reachedFromFirst cX2_reachedFromFirst 4 (some .int), Cond.static yX5_postOf, Cond.code yX5_postOf cX5_postOf 1 (some .int), Cond.methodLink RX2 56 yX2_allPosts, Cond.instanceMethod yX2_allPosts, Cond.selects RX2 yX2_allPosts yX2_allPosts, Cond.code yX2_allPosts cX2_allPosts 1 (some .int), Cond.methodLink RX5 106 yX5_rowOf, Cond.instanceMethod yX5_rowOf, Cond.selects RX5 yX5_rowOf yX5_rowOf, Cond.code yX5_rowOf cX5_rowOf 2 (some (.object "NetWalkers$Row")), Cond.fieldLink RX5 23 "NetWalkers" "otherRow" "LNetWalkers$Row;", Cond.fieldLink RX5 19 "NetWalkers" "row" "LNetWalkers$Row;", Cond.methodLink RX5 167 yX5_latestMeeting, Cond.instanceMethod yX5_latestMeeting, Cond.selects RX5 yX5_latestMeeting yX5_latestMeeting]
def wsX5_worst_r3 : List Cond := [Cond.code yX5_latestMeeting cX5_latestMeeting 8 (some .int), Cond.methodLink RX5 163 yX5_meetingStep, Cond.instanceMethod yX5_meetingStep, Cond.selects RX5 yX5_meetingStep yX5_meetingStep, Cond.code yX5_meetingStep cX5_meetingStep 9 (some .int), Cond.fieldLink RX5 116 "NetWalkers$Row" "length" "I", Cond.methodLink RX5 61 yX5_placeOf, Cond.methodLink RX5 130 yX5_postOf, Cond.methodLink RX5 126 yX5_follow, Cond.instanceMethod yX5_follow, Cond.selects RX5 yX5_follow yX5_follow, Cond.code yX5_follow cX5_follow 5 (some .int), Cond.methodLink RX5 187 yX4_has, Cond.instanceMethod yX4_has, Cond.selects RX4 yX4_has yX4_has, Cond.initialized RX4, Cond.code yX4_has cX4_has 2 (some .boolean), Cond.fieldLink RX4 15 "NetWalkers$Row" "length" "I", Cond.methodLink RX5 190 yX4_numberAt, Cond.instanceMethod yX4_numberAt, Cond.selects RX4 yX4_numberAt yX4_numberAt, Cond.code yX4_numberAt cX4_numberAt 2 (some .int), Cond.fieldLink RX4 9 "NetWalkers$Row" "numbers" "[I", Cond.methodLink RX4 23 yX4_has]
def wsX5_worst_r4 : List Cond := [Cond.methodLink RX5 144 yX2_walkOn, Cond.instanceMethod yX2_walkOn, Cond.selects RX2 yX2_walkOn yX2_walkOn, Cond.code yX2_walkOn cX2_walkOn 7 (some .int), Cond.static yX5_doorOf, Cond.code yX5_doorOf cX5_doorOf 1 (some .int), Cond.methodLink RX2 75 yX2_through, Cond.instanceMethod yX2_through, Cond.selects RX2 yX2_through yX2_through, Cond.code yX2_through cX2_through 3 (some .int), Cond.methodLink RX2 69 yX2_isBad, Cond.instanceMethod yX2_isBad, Cond.selects RX2 yX2_isBad yX2_isBad, Cond.code yX2_isBad cX2_isBad 2 (some .boolean), Cond.fieldLink RX2 15 "NetWalkers$Net" "bads" "[Z"]
def wsX5_worst : List Cond := .code yX5_worst cX5_worst 7 (some .int) :: ((wsX5_worst_r1 ++ (wsX5_worst_r2 ++ (wsX5_worst_r3 ++ wsX5_worst_r4))) ++ wsX50 ++ wsX20 ++ wsX40)
def wsX5_ring_r1 : List Cond := [Cond.fieldLink RX5 45 "NetWalkers" "rings" "LNetWalkers$Rings;", Cond.methodLink RX5 175 yX3_lengthFor, Cond.instanceMethod yX3_lengthFor, Cond.selects RX3 yX3_lengthFor yX3_lengthFor, Cond.initialized RX3, Cond.code yX3_lengthFor cX3_lengthFor 2 (some .int), Cond.fieldLink RX3 11 "NetWalkers$Rings" "lengths" "[I", Cond.methodLink RX3 18 yX3_find, Cond.instanceMethod yX3_find, Cond.selects RX3 yX3_find yX3_find, Cond.code yX3_find cX3_find 4 none, Cond.fieldLink RX3 15 "NetWalkers$Rings" "found" "[I", Cond.methodLink RX3 26 yX3_firstOfLength, Cond.static yX3_firstOfLength, Cond.code yX3_firstOfLength cX3_firstOfLength 3 (some .int), Cond.methodLink RX3 30 yX3_walksAllRings, Cond.static yX3_walksAllRings, Cond.code yX3_walksAllRings cX3_walksAllRings 5 (some .boolean), Cond.methodLink RX3 34 yX3_walksAll, Cond.static yX3_walksAll, Cond.code yX3_walksAll cX3_walksAll 9 (some .boolean), Cond.methodLink RX3 22 yX3_numberOf, Cond.static yX3_numberOf, Cond.code yX3_numberOf cX3_numberOf 3 (some .int)]
def wsX5_ring_r2 : List Cond := [Cond.methodLink RX5 178 yX3_numberFor, Cond.instanceMethod yX3_numberFor, Cond.selects RX3 yX3_numberFor yX3_numberFor, Cond.code yX3_numberFor cX3_numberFor 4 (some .int)]
def wsX5_ring : List Cond := .code yX5_ring cX5_ring 4 (some .int) :: ((wsX5_ring_r1 ++ wsX5_ring_r2) ++ wsX50 ++ wsX30)
def wsX5_told : List Cond := .code yX5_told cX5_told 2 (some .int) :: ([.fieldLink RX5 10 "NetWalkers" "net" "LNetWalkers$Net;", .fieldLink RX5 49 "NetWalkers$Net" "size" "I", .fieldLink RX5 73 "NetWalkers$Net" "pairs" "I", .fieldLink RX5 19 "NetWalkers" "row" "LNetWalkers$Row;", .fieldLink RX5 116 "NetWalkers$Row" "length" "I", .fieldLink RX5 23 "NetWalkers" "otherRow" "LNetWalkers$Row;", .methodLink RX5 181 yX2_badDoors, .instanceMethod yX2_badDoors, .selects RX2 yX2_badDoors yX2_badDoors, .initialized RX2, .code yX2_badDoors cX2_badDoors 3 (some .int), .fieldLink RX2 15 "NetWalkers$Net" "bads" "[Z"] ++ wsX50 ++ wsX20 ++ wsX40)
def wsX6_begin : List Cond := .code yX6_begin cX6_begin 2 none :: ([.fieldLink RX6 13 "NetWalkersModel" "to" "[I", .fieldLink RX6 17 "NetWalkersModel" "isBad" "[Z"] ++ wsX60)
def wsX6_init : List Cond := .code yX6_init cX6_init 1 none :: ([.methodLink RX6 1 objectInit, .instanceMethod objectInit, .code objectInit ⟨#[0xb1]⟩ 1 none, .fieldLink RX6 7 "NetWalkersModel" "posts" "I", .arrayClass .int, .fieldLink RX6 13 "NetWalkersModel" "to" "[I", .arrayClass .boolean, .fieldLink RX6 17 "NetWalkersModel" "isBad" "[Z", .fieldLink RX6 21 "NetWalkersModel" "length" "[I", .fieldLink RX6 24 "NetWalkersModel" "row" "[I", .fieldLink RX6 27 "NetWalkersModel" "look" "[I", .fieldLink RX6 30 "NetWalkersModel" "deeper" "[I", .fieldLink RX6 33 "NetWalkersModel" "shortest" "[I", .fieldLink RX6 36 "NetWalkersModel" "found" "[I", .methodLink RX6 39 yX6_begin, .instanceMethod yX6_begin, .selects RX6 yX6_begin yX6_begin, .initialized RX6, .code yX6_begin cX6_begin 2 none] ++ wsX60)
def wsX6_in : List Cond := .code yX6_in cX6_in 3 (some .boolean) :: ([])
def wsX6_isPost : List Cond := .code yX6_isPost cX6_isPost 2 (some .boolean) :: ([.fieldLink RX6 7 "NetWalkersModel" "posts" "I", .methodLink RX6 42 yX6_in, .static yX6_in, .initialized RX6, .code yX6_in cX6_in 3 (some .boolean)] ++ wsX60)
def wsX6_isDoor : List Cond := .code yX6_isDoor cX6_isDoor 3 (some .boolean) :: ([.methodLink RX6 46 yX6_isPost, .instanceMethod yX6_isPost, .selects RX6 yX6_isPost yX6_isPost, .initialized RX6, .code yX6_isPost cX6_isPost 2 (some .boolean), .fieldLink RX6 7 "NetWalkersModel" "posts" "I", .methodLink RX6 42 yX6_in, .static yX6_in, .code yX6_in cX6_in 3 (some .boolean)] ++ wsX60)
def wsX6_posts : List Cond := .code yX6_posts cX6_posts 3 (some .int) :: ([.fieldLink RX6 7 "NetWalkersModel" "posts" "I", .methodLink RX6 42 yX6_in, .static yX6_in, .initialized RX6, .code yX6_in cX6_in 3 (some .boolean), .methodLink RX6 39 yX6_begin, .instanceMethod yX6_begin, .selects RX6 yX6_begin yX6_begin, .code yX6_begin cX6_begin 2 none, .fieldLink RX6 13 "NetWalkersModel" "to" "[I", .fieldLink RX6 17 "NetWalkersModel" "isBad" "[Z"] ++ wsX60)
def wsX6_pairs : List Cond := .code yX6_pairs cX6_pairs 3 (some .int) :: ([.fieldLink RX6 13 "NetWalkersModel" "to" "[I"] ++ wsX60)
def wsX6_join : List Cond := .code yX6_join cX6_join 7 (some .int) :: ([.fieldLink RX6 13 "NetWalkersModel" "to" "[I", .methodLink RX6 50 yX6_isDoor, .instanceMethod yX6_isDoor, .selects RX6 yX6_isDoor yX6_isDoor, .initialized RX6, .code yX6_isDoor cX6_isDoor 3 (some .boolean), .methodLink RX6 46 yX6_isPost, .instanceMethod yX6_isPost, .selects RX6 yX6_isPost yX6_isPost, .code yX6_isPost cX6_isPost 2 (some .boolean), .fieldLink RX6 7 "NetWalkersModel" "posts" "I", .methodLink RX6 42 yX6_in, .static yX6_in, .code yX6_in cX6_in 3 (some .boolean), .methodLink RX6 54 yX6_pairs, .instanceMethod yX6_pairs, .selects RX6 yX6_pairs yX6_pairs, .code yX6_pairs cX6_pairs 3 (some .int)] ++ wsX60)
def wsX6_named : List Cond := .code yX6_named cX6_named 1 (some .int) :: ([])
def wsX6_part : List Cond := .code yX6_part cX6_part 4 (some .int) :: ([.fieldLink RX6 13 "NetWalkersModel" "to" "[I", .methodLink RX6 50 yX6_isDoor, .instanceMethod yX6_isDoor, .selects RX6 yX6_isDoor yX6_isDoor, .initialized RX6, .code yX6_isDoor cX6_isDoor 3 (some .boolean), .methodLink RX6 46 yX6_isPost, .instanceMethod yX6_isPost, .selects RX6 yX6_isPost yX6_isPost, .code yX6_isPost cX6_isPost 2 (some .boolean), .fieldLink RX6 7 "NetWalkersModel" "posts" "I", .methodLink RX6 42 yX6_in, .static yX6_in, .code yX6_in cX6_in 3 (some .boolean), .methodLink RX6 58 yX6_named, .static yX6_named, .code yX6_named cX6_named 1 (some .int)] ++ wsX60)
def wsX6_bad : List Cond := .code yX6_bad cX6_bad 5 (some .int) :: ([.fieldLink RX6 17 "NetWalkersModel" "isBad" "[Z", .methodLink RX6 50 yX6_isDoor, .instanceMethod yX6_isDoor, .selects RX6 yX6_isDoor yX6_isDoor, .initialized RX6, .code yX6_isDoor cX6_isDoor 3 (some .boolean), .methodLink RX6 46 yX6_isPost, .instanceMethod yX6_isPost, .selects RX6 yX6_isPost yX6_isPost, .code yX6_isPost cX6_isPost 2 (some .boolean), .fieldLink RX6 7 "NetWalkersModel" "posts" "I", .methodLink RX6 42 yX6_in, .static yX6_in, .code yX6_in cX6_in 3 (some .boolean)] ++ wsX60)
def wsX6_leads : List Cond := .code yX6_leads cX6_leads 4 (some .int) :: ([.fieldLink RX6 13 "NetWalkersModel" "to" "[I", .fieldLink RX6 17 "NetWalkersModel" "isBad" "[Z", .methodLink RX6 50 yX6_isDoor, .instanceMethod yX6_isDoor, .selects RX6 yX6_isDoor yX6_isDoor, .initialized RX6, .code yX6_isDoor cX6_isDoor 3 (some .boolean), .methodLink RX6 46 yX6_isPost, .instanceMethod yX6_isPost, .selects RX6 yX6_isPost yX6_isPost, .code yX6_isPost cX6_isPost 2 (some .boolean), .fieldLink RX6 7 "NetWalkersModel" "posts" "I", .methodLink RX6 42 yX6_in, .static yX6_in, .code yX6_in cX6_in 3 (some .boolean), .methodLink RX6 58 yX6_named, .static yX6_named, .code yX6_named cX6_named 1 (some .int)] ++ wsX60)
def wsX6_degreeOf : List Cond := .code yX6_degreeOf cX6_degreeOf 4 (some .int) :: ([.fieldLink RX6 13 "NetWalkersModel" "to" "[I"] ++ wsX60)
def wsX6_degree : List Cond := .code yX6_degree cX6_degree 2 (some .int) :: ([.methodLink RX6 46 yX6_isPost, .instanceMethod yX6_isPost, .selects RX6 yX6_isPost yX6_isPost, .initialized RX6, .code yX6_isPost cX6_isPost 2 (some .boolean), .fieldLink RX6 7 "NetWalkersModel" "posts" "I", .methodLink RX6 42 yX6_in, .static yX6_in, .code yX6_in cX6_in 3 (some .boolean), .methodLink RX6 62 yX6_degreeOf, .instanceMethod yX6_degreeOf, .selects RX6 yX6_degreeOf yX6_degreeOf, .code yX6_degreeOf cX6_degreeOf 4 (some .int), .fieldLink RX6 13 "NetWalkersModel" "to" "[I"] ++ wsX60)
def wsX6_all : List Cond := .code yX6_all cX6_all 1 (some .int) :: ([.fieldLink RX6 7 "NetWalkersModel" "posts" "I"] ++ wsX60)
def wsX6_isReady : List Cond := .code yX6_isReady cX6_isReady 6 (some .boolean) :: ([.fieldLink RX6 7 "NetWalkersModel" "posts" "I", .fieldLink RX6 13 "NetWalkersModel" "to" "[I", .methodLink RX6 65 yX6_all, .instanceMethod yX6_all, .selects RX6 yX6_all yX6_all, .initialized RX6, .code yX6_all cX6_all 1 (some .int), .methodLink RX6 62 yX6_degreeOf, .instanceMethod yX6_degreeOf, .selects RX6 yX6_degreeOf yX6_degreeOf, .code yX6_degreeOf cX6_degreeOf 4 (some .int)] ++ wsX60)
def wsX6_ready : List Cond := .code yX6_ready cX6_ready 1 (some .int) :: ([.methodLink RX6 68 yX6_isReady, .instanceMethod yX6_isReady, .selects RX6 yX6_isReady yX6_isReady, .initialized RX6, .code yX6_isReady cX6_isReady 6 (some .boolean), .fieldLink RX6 7 "NetWalkersModel" "posts" "I", .fieldLink RX6 13 "NetWalkersModel" "to" "[I", .methodLink RX6 65 yX6_all, .instanceMethod yX6_all, .selects RX6 yX6_all yX6_all, .code yX6_all cX6_all 1 (some .int), .methodLink RX6 62 yX6_degreeOf, .instanceMethod yX6_degreeOf, .selects RX6 yX6_degreeOf yX6_degreeOf, .code yX6_degreeOf cX6_degreeOf 4 (some .int)] ++ wsX60)
def wsX6_add : List Cond := .code yX6_add cX6_add 3 (some .int) :: ([.fieldLink RX6 21 "NetWalkersModel" "length" "[I", .fieldLink RX6 24 "NetWalkersModel" "row" "[I", .methodLink RX6 42 yX6_in, .static yX6_in, .initialized RX6, .code yX6_in cX6_in 3 (some .boolean)] ++ wsX60)
def wsX6_clear : List Cond := .code yX6_clear cX6_clear 3 (some .int) :: ([.fieldLink RX6 21 "NetWalkersModel" "length" "[I", .methodLink RX6 42 yX6_in, .static yX6_in, .initialized RX6, .code yX6_in cX6_in 3 (some .boolean)] ++ wsX60)
def wsX6_go : List Cond := .code yX6_go cX6_go 4 none :: ([.fieldLink RX6 72 "NetWalkersModel" "at" "I", .fieldLink RX6 17 "NetWalkersModel" "isBad" "[Z", .fieldLink RX6 13 "NetWalkersModel" "to" "[I", .fieldLink RX6 75 "NetWalkersModel" "by" "I"] ++ wsX60)
def wsX6_step : List Cond := .code yX6_step cX6_step 4 none :: ([.fieldLink RX6 72 "NetWalkersModel" "at" "I", .fieldLink RX6 75 "NetWalkersModel" "by" "I", .methodLink RX6 62 yX6_degreeOf, .instanceMethod yX6_degreeOf, .selects RX6 yX6_degreeOf yX6_degreeOf, .initialized RX6, .code yX6_degreeOf cX6_degreeOf 4 (some .int), .fieldLink RX6 13 "NetWalkersModel" "to" "[I", .methodLink RX6 78 yX6_go, .instanceMethod yX6_go, .selects RX6 yX6_go yX6_go, .code yX6_go cX6_go 4 none, .fieldLink RX6 17 "NetWalkersModel" "isBad" "[Z"] ++ wsX60)
def wsX6_place : List Cond := .code yX6_place cX6_place 2 none :: ([.fieldLink RX6 72 "NetWalkersModel" "at" "I", .fieldLink RX6 75 "NetWalkersModel" "by" "I"] ++ wsX60)
def wsX6_after_r1 : List Cond := [Cond.fieldLink RX6 21 "NetWalkersModel" "length" "[I", Cond.fieldLink RX6 24 "NetWalkersModel" "row" "[I", Cond.fieldLink RX6 72 "NetWalkersModel" "at" "I", Cond.methodLink RX6 46 yX6_isPost, Cond.instanceMethod yX6_isPost, Cond.selects RX6 yX6_isPost yX6_isPost, Cond.initialized RX6, Cond.code yX6_isPost cX6_isPost 2 (some .boolean), Cond.fieldLink RX6 7 "NetWalkersModel" "posts" "I", Cond.methodLink RX6 42 yX6_in, Cond.static yX6_in, Cond.code yX6_in cX6_in 3 (some .boolean), Cond.methodLink RX6 68 yX6_isReady, Cond.instanceMethod yX6_isReady, Cond.selects RX6 yX6_isReady yX6_isReady, Cond.code yX6_isReady cX6_isReady 6 (some .boolean), Cond.fieldLink RX6 13 "NetWalkersModel" "to" "[I", Cond.methodLink RX6 65 yX6_all, Cond.instanceMethod yX6_all, Cond.selects RX6 yX6_all yX6_all, Cond.code yX6_all cX6_all 1 (some .int), Cond.methodLink RX6 62 yX6_degreeOf, Cond.instanceMethod yX6_degreeOf, Cond.selects RX6 yX6_degreeOf yX6_degreeOf]
def wsX6_after_r2 : List Cond := [Cond.code yX6_degreeOf cX6_degreeOf 4 (some .int), Cond.methodLink RX6 82 yX6_place, Cond.instanceMethod yX6_place, Cond.selects RX6 yX6_place yX6_place, Cond.code yX6_place cX6_place 2 none, Cond.fieldLink RX6 75 "NetWalkersModel" "by" "I", Cond.methodLink RX6 85 yX6_step, Cond.instanceMethod yX6_step, Cond.selects RX6 yX6_step yX6_step, Cond.code yX6_step cX6_step 4 none, Cond.methodLink RX6 78 yX6_go, Cond.instanceMethod yX6_go, Cond.selects RX6 yX6_go yX6_go, Cond.code yX6_go cX6_go 4 none, Cond.fieldLink RX6 17 "NetWalkersModel" "isBad" "[Z"]
def wsX6_after : List Cond := .code yX6_after cX6_after 5 (some .int) :: ((wsX6_after_r1 ++ wsX6_after_r2) ++ wsX60)
def wsX6_walkOf_r1 : List Cond := [Cond.fieldLink RX6 21 "NetWalkersModel" "length" "[I", Cond.fieldLink RX6 24 "NetWalkersModel" "row" "[I", Cond.fieldLink RX6 72 "NetWalkersModel" "at" "I", Cond.methodLink RX6 82 yX6_place, Cond.instanceMethod yX6_place, Cond.selects RX6 yX6_place yX6_place, Cond.initialized RX6, Cond.code yX6_place cX6_place 2 none, Cond.fieldLink RX6 75 "NetWalkersModel" "by" "I", Cond.methodLink RX6 65 yX6_all, Cond.instanceMethod yX6_all, Cond.selects RX6 yX6_all yX6_all, Cond.code yX6_all cX6_all 1 (some .int), Cond.fieldLink RX6 7 "NetWalkersModel" "posts" "I", Cond.methodLink RX6 85 yX6_step, Cond.instanceMethod yX6_step, Cond.selects RX6 yX6_step yX6_step, Cond.code yX6_step cX6_step 4 none, Cond.methodLink RX6 62 yX6_degreeOf, Cond.instanceMethod yX6_degreeOf, Cond.selects RX6 yX6_degreeOf yX6_degreeOf, Cond.code yX6_degreeOf cX6_degreeOf 4 (some .int), Cond.fieldLink RX6 13 "NetWalkersModel" "to" "[I", Cond.methodLink RX6 78 yX6_go]
def wsX6_walkOf_r2 : List Cond := [Cond.instanceMethod yX6_go, Cond.selects RX6 yX6_go yX6_go, Cond.code yX6_go cX6_go 4 none, Cond.fieldLink RX6 17 "NetWalkersModel" "isBad" "[Z"]
def wsX6_walkOf : List Cond := .code yX6_walkOf cX6_walkOf 5 (some .int) :: ((wsX6_walkOf_r1 ++ wsX6_walkOf_r2) ++ wsX60)
def wsX6_walks_r1 : List Cond := [Cond.methodLink RX6 46 yX6_isPost, Cond.instanceMethod yX6_isPost, Cond.selects RX6 yX6_isPost yX6_isPost, Cond.initialized RX6, Cond.code yX6_isPost cX6_isPost 2 (some .boolean), Cond.fieldLink RX6 7 "NetWalkersModel" "posts" "I", Cond.methodLink RX6 42 yX6_in, Cond.static yX6_in, Cond.code yX6_in cX6_in 3 (some .boolean), Cond.methodLink RX6 68 yX6_isReady, Cond.instanceMethod yX6_isReady, Cond.selects RX6 yX6_isReady yX6_isReady, Cond.code yX6_isReady cX6_isReady 6 (some .boolean), Cond.fieldLink RX6 13 "NetWalkersModel" "to" "[I", Cond.methodLink RX6 65 yX6_all, Cond.instanceMethod yX6_all, Cond.selects RX6 yX6_all yX6_all, Cond.code yX6_all cX6_all 1 (some .int), Cond.methodLink RX6 62 yX6_degreeOf, Cond.instanceMethod yX6_degreeOf, Cond.selects RX6 yX6_degreeOf yX6_degreeOf, Cond.code yX6_degreeOf cX6_degreeOf 4 (some .int), Cond.methodLink RX6 89 yX6_walkOf, Cond.instanceMethod yX6_walkOf]
def wsX6_walks_r2 : List Cond := [Cond.selects RX6 yX6_walkOf yX6_walkOf, Cond.code yX6_walkOf cX6_walkOf 5 (some .int), Cond.fieldLink RX6 21 "NetWalkersModel" "length" "[I", Cond.fieldLink RX6 24 "NetWalkersModel" "row" "[I", Cond.fieldLink RX6 72 "NetWalkersModel" "at" "I", Cond.methodLink RX6 82 yX6_place, Cond.instanceMethod yX6_place, Cond.selects RX6 yX6_place yX6_place, Cond.code yX6_place cX6_place 2 none, Cond.fieldLink RX6 75 "NetWalkersModel" "by" "I", Cond.methodLink RX6 85 yX6_step, Cond.instanceMethod yX6_step, Cond.selects RX6 yX6_step yX6_step, Cond.code yX6_step cX6_step 4 none, Cond.methodLink RX6 78 yX6_go, Cond.instanceMethod yX6_go, Cond.selects RX6 yX6_go yX6_go, Cond.code yX6_go cX6_go 4 none, Cond.fieldLink RX6 17 "NetWalkersModel" "isBad" "[Z"]
def wsX6_walks : List Cond := .code yX6_walks cX6_walks 3 (some .int) :: ((wsX6_walks_r1 ++ wsX6_walks_r2) ++ wsX60)
def wsX6_fails_r1 : List Cond := [Cond.fieldLink RX6 7 "NetWalkersModel" "posts" "I", Cond.methodLink RX6 42 yX6_in, Cond.static yX6_in, Cond.initialized RX6, Cond.code yX6_in cX6_in 3 (some .boolean), Cond.methodLink RX6 68 yX6_isReady, Cond.instanceMethod yX6_isReady, Cond.selects RX6 yX6_isReady yX6_isReady, Cond.code yX6_isReady cX6_isReady 6 (some .boolean), Cond.fieldLink RX6 13 "NetWalkersModel" "to" "[I", Cond.methodLink RX6 65 yX6_all, Cond.instanceMethod yX6_all, Cond.selects RX6 yX6_all yX6_all, Cond.code yX6_all cX6_all 1 (some .int), Cond.methodLink RX6 62 yX6_degreeOf, Cond.instanceMethod yX6_degreeOf, Cond.selects RX6 yX6_degreeOf yX6_degreeOf, Cond.code yX6_degreeOf cX6_degreeOf 4 (some .int), Cond.methodLink RX6 89 yX6_walkOf, Cond.instanceMethod yX6_walkOf, Cond.selects RX6 yX6_walkOf yX6_walkOf, Cond.code yX6_walkOf cX6_walkOf 5 (some .int), Cond.fieldLink RX6 21 "NetWalkersModel" "length" "[I", Cond.fieldLink RX6 24 "NetWalkersModel" "row" "[I"]
def wsX6_fails_r2 : List Cond := [Cond.fieldLink RX6 72 "NetWalkersModel" "at" "I", Cond.methodLink RX6 82 yX6_place, Cond.instanceMethod yX6_place, Cond.selects RX6 yX6_place yX6_place, Cond.code yX6_place cX6_place 2 none, Cond.fieldLink RX6 75 "NetWalkersModel" "by" "I", Cond.methodLink RX6 85 yX6_step, Cond.instanceMethod yX6_step, Cond.selects RX6 yX6_step yX6_step, Cond.code yX6_step cX6_step 4 none, Cond.methodLink RX6 78 yX6_go, Cond.instanceMethod yX6_go, Cond.selects RX6 yX6_go yX6_go, Cond.code yX6_go cX6_go 4 none, Cond.fieldLink RX6 17 "NetWalkersModel" "isBad" "[Z"]
def wsX6_fails : List Cond := .code yX6_fails cX6_fails 4 (some .int) :: ((wsX6_fails_r1 ++ wsX6_fails_r2) ++ wsX60)
def wsX6_sentOn : List Cond := .code yX6_sentOn cX6_sentOn 7 (some .int) :: ([.fieldLink RX6 72 "NetWalkersModel" "at" "I", .methodLink RX6 62 yX6_degreeOf, .instanceMethod yX6_degreeOf, .selects RX6 yX6_degreeOf yX6_degreeOf, .initialized RX6, .code yX6_degreeOf cX6_degreeOf 4 (some .int), .fieldLink RX6 13 "NetWalkersModel" "to" "[I", .methodLink RX6 82 yX6_place, .instanceMethod yX6_place, .selects RX6 yX6_place yX6_place, .code yX6_place cX6_place 2 none, .fieldLink RX6 75 "NetWalkersModel" "by" "I", .methodLink RX6 78 yX6_go, .instanceMethod yX6_go, .selects RX6 yX6_go yX6_go, .code yX6_go cX6_go 4 none, .fieldLink RX6 17 "NetWalkersModel" "isBad" "[Z"] ++ wsX60)
def wsX6_sentAll_r1 : List Cond := [Cond.methodLink RX6 65 yX6_all, Cond.instanceMethod yX6_all, Cond.selects RX6 yX6_all yX6_all, Cond.initialized RX6, Cond.code yX6_all cX6_all 1 (some .int), Cond.fieldLink RX6 7 "NetWalkersModel" "posts" "I", Cond.methodLink RX6 93 yX6_sentOn, Cond.instanceMethod yX6_sentOn, Cond.selects RX6 yX6_sentOn yX6_sentOn, Cond.code yX6_sentOn cX6_sentOn 7 (some .int), Cond.fieldLink RX6 72 "NetWalkersModel" "at" "I", Cond.methodLink RX6 62 yX6_degreeOf, Cond.instanceMethod yX6_degreeOf, Cond.selects RX6 yX6_degreeOf yX6_degreeOf, Cond.code yX6_degreeOf cX6_degreeOf 4 (some .int), Cond.fieldLink RX6 13 "NetWalkersModel" "to" "[I", Cond.methodLink RX6 82 yX6_place, Cond.instanceMethod yX6_place, Cond.selects RX6 yX6_place yX6_place, Cond.code yX6_place cX6_place 2 none, Cond.fieldLink RX6 75 "NetWalkersModel" "by" "I", Cond.methodLink RX6 78 yX6_go, Cond.instanceMethod yX6_go, Cond.selects RX6 yX6_go yX6_go]
def wsX6_sentAll_r2 : List Cond := [Cond.code yX6_go cX6_go 4 none, Cond.fieldLink RX6 17 "NetWalkersModel" "isBad" "[Z"]
def wsX6_sentAll : List Cond := .code yX6_sentAll cX6_sentAll 5 (some .int) :: ((wsX6_sentAll_r1 ++ wsX6_sentAll_r2) ++ wsX60)
def wsX6_ringOf : List Cond := .code yX6_ringOf cX6_ringOf 12 (some .int) :: ([.constant RX6 96 (120000), .methodLink RX6 93 yX6_sentOn, .instanceMethod yX6_sentOn, .selects RX6 yX6_sentOn yX6_sentOn, .initialized RX6, .code yX6_sentOn cX6_sentOn 7 (some .int), .fieldLink RX6 72 "NetWalkersModel" "at" "I", .methodLink RX6 62 yX6_degreeOf, .instanceMethod yX6_degreeOf, .selects RX6 yX6_degreeOf yX6_degreeOf, .code yX6_degreeOf cX6_degreeOf 4 (some .int), .fieldLink RX6 13 "NetWalkersModel" "to" "[I", .methodLink RX6 82 yX6_place, .instanceMethod yX6_place, .selects RX6 yX6_place yX6_place, .code yX6_place cX6_place 2 none, .fieldLink RX6 75 "NetWalkersModel" "by" "I", .methodLink RX6 78 yX6_go, .instanceMethod yX6_go, .selects RX6 yX6_go yX6_go, .code yX6_go cX6_go 4 none, .fieldLink RX6 17 "NetWalkersModel" "isBad" "[Z"] ++ wsX60)
def wsX6_sent_r1 : List Cond := [Cond.methodLink RX6 46 yX6_isPost, Cond.instanceMethod yX6_isPost, Cond.selects RX6 yX6_isPost yX6_isPost, Cond.initialized RX6, Cond.code yX6_isPost cX6_isPost 2 (some .boolean), Cond.fieldLink RX6 7 "NetWalkersModel" "posts" "I", Cond.methodLink RX6 42 yX6_in, Cond.static yX6_in, Cond.code yX6_in cX6_in 3 (some .boolean), Cond.methodLink RX6 68 yX6_isReady, Cond.instanceMethod yX6_isReady, Cond.selects RX6 yX6_isReady yX6_isReady, Cond.code yX6_isReady cX6_isReady 6 (some .boolean), Cond.fieldLink RX6 13 "NetWalkersModel" "to" "[I", Cond.methodLink RX6 65 yX6_all, Cond.instanceMethod yX6_all, Cond.selects RX6 yX6_all yX6_all, Cond.code yX6_all cX6_all 1 (some .int), Cond.methodLink RX6 62 yX6_degreeOf, Cond.instanceMethod yX6_degreeOf, Cond.selects RX6 yX6_degreeOf yX6_degreeOf, Cond.code yX6_degreeOf cX6_degreeOf 4 (some .int), Cond.methodLink RX6 97 yX6_sentAll, Cond.instanceMethod yX6_sentAll]
def wsX6_sent_r2 : List Cond := [Cond.selects RX6 yX6_sentAll yX6_sentAll, Cond.code yX6_sentAll cX6_sentAll 5 (some .int), Cond.methodLink RX6 93 yX6_sentOn, Cond.instanceMethod yX6_sentOn, Cond.selects RX6 yX6_sentOn yX6_sentOn, Cond.code yX6_sentOn cX6_sentOn 7 (some .int), Cond.fieldLink RX6 72 "NetWalkersModel" "at" "I", Cond.methodLink RX6 82 yX6_place, Cond.instanceMethod yX6_place, Cond.selects RX6 yX6_place yX6_place, Cond.code yX6_place cX6_place 2 none, Cond.fieldLink RX6 75 "NetWalkersModel" "by" "I", Cond.methodLink RX6 78 yX6_go, Cond.instanceMethod yX6_go, Cond.selects RX6 yX6_go yX6_go, Cond.code yX6_go cX6_go 4 none, Cond.fieldLink RX6 17 "NetWalkersModel" "isBad" "[Z", Cond.methodLink RX6 100 yX6_ringOf, Cond.instanceMethod yX6_ringOf, Cond.selects RX6 yX6_ringOf yX6_ringOf, Cond.code yX6_ringOf cX6_ringOf 12 (some .int), Cond.constant RX6 96 (120000)]
def wsX6_sent : List Cond := .code yX6_sent cX6_sent 3 (some .int) :: ((wsX6_sent_r1 ++ wsX6_sent_r2) ++ wsX60)
def wsX6_next_r1 : List Cond := [Cond.fieldLink RX6 72 "NetWalkersModel" "at" "I", Cond.methodLink RX6 46 yX6_isPost, Cond.instanceMethod yX6_isPost, Cond.selects RX6 yX6_isPost yX6_isPost, Cond.initialized RX6, Cond.code yX6_isPost cX6_isPost 2 (some .boolean), Cond.fieldLink RX6 7 "NetWalkersModel" "posts" "I", Cond.methodLink RX6 42 yX6_in, Cond.static yX6_in, Cond.code yX6_in cX6_in 3 (some .boolean), Cond.methodLink RX6 68 yX6_isReady, Cond.instanceMethod yX6_isReady, Cond.selects RX6 yX6_isReady yX6_isReady, Cond.code yX6_isReady cX6_isReady 6 (some .boolean), Cond.fieldLink RX6 13 "NetWalkersModel" "to" "[I", Cond.methodLink RX6 65 yX6_all, Cond.instanceMethod yX6_all, Cond.selects RX6 yX6_all yX6_all, Cond.code yX6_all cX6_all 1 (some .int), Cond.methodLink RX6 62 yX6_degreeOf, Cond.instanceMethod yX6_degreeOf, Cond.selects RX6 yX6_degreeOf yX6_degreeOf, Cond.code yX6_degreeOf cX6_degreeOf 4 (some .int), Cond.methodLink RX6 82 yX6_place]
def wsX6_next_r2 : List Cond := [Cond.instanceMethod yX6_place, Cond.selects RX6 yX6_place yX6_place, Cond.code yX6_place cX6_place 2 none, Cond.fieldLink RX6 75 "NetWalkersModel" "by" "I", Cond.methodLink RX6 85 yX6_step, Cond.instanceMethod yX6_step, Cond.selects RX6 yX6_step yX6_step, Cond.code yX6_step cX6_step 4 none, Cond.methodLink RX6 78 yX6_go, Cond.instanceMethod yX6_go, Cond.selects RX6 yX6_go yX6_go, Cond.code yX6_go cX6_go 4 none, Cond.fieldLink RX6 17 "NetWalkersModel" "isBad" "[Z"]
def wsX6_next : List Cond := .code yX6_next cX6_next 4 (some .int) :: ((wsX6_next_r1 ++ wsX6_next_r2) ++ wsX60)
def wsX6_areAlike : List Cond := .code yX6_areAlike cX6_areAlike 7 (some .boolean) :: ([.fieldLink RX6 27 "NetWalkersModel" "look" "[I", .fieldLink RX6 13 "NetWalkersModel" "to" "[I", .methodLink RX6 62 yX6_degreeOf, .instanceMethod yX6_degreeOf, .selects RX6 yX6_degreeOf yX6_degreeOf, .initialized RX6, .code yX6_degreeOf cX6_degreeOf 4 (some .int)] ++ wsX60)
def wsX6_layLooks : List Cond := .code yX6_layLooks cX6_layLooks 5 none :: ([.fieldLink RX6 103 "NetWalkersModel" "classes" "I", .fieldLink RX6 7 "NetWalkersModel" "posts" "I", .fieldLink RX6 27 "NetWalkersModel" "look" "[I", .fieldLink RX6 30 "NetWalkersModel" "deeper" "[I", .methodLink RX6 62 yX6_degreeOf, .instanceMethod yX6_degreeOf, .selects RX6 yX6_degreeOf yX6_degreeOf, .initialized RX6, .code yX6_degreeOf cX6_degreeOf 4 (some .int), .fieldLink RX6 13 "NetWalkersModel" "to" "[I", .methodLink RX6 106 yX6_areAlike, .instanceMethod yX6_areAlike, .selects RX6 yX6_areAlike yX6_areAlike, .code yX6_areAlike cX6_areAlike 7 (some .boolean)] ++ wsX60)
def wsX6_look_r1 : List Cond := [Cond.fieldLink RX6 27 "NetWalkersModel" "look" "[I", Cond.methodLink RX6 46 yX6_isPost, Cond.instanceMethod yX6_isPost, Cond.selects RX6 yX6_isPost yX6_isPost, Cond.initialized RX6, Cond.code yX6_isPost cX6_isPost 2 (some .boolean), Cond.fieldLink RX6 7 "NetWalkersModel" "posts" "I", Cond.methodLink RX6 42 yX6_in, Cond.static yX6_in, Cond.code yX6_in cX6_in 3 (some .boolean), Cond.methodLink RX6 68 yX6_isReady, Cond.instanceMethod yX6_isReady, Cond.selects RX6 yX6_isReady yX6_isReady, Cond.code yX6_isReady cX6_isReady 6 (some .boolean), Cond.fieldLink RX6 13 "NetWalkersModel" "to" "[I", Cond.methodLink RX6 65 yX6_all, Cond.instanceMethod yX6_all, Cond.selects RX6 yX6_all yX6_all, Cond.code yX6_all cX6_all 1 (some .int), Cond.methodLink RX6 62 yX6_degreeOf, Cond.instanceMethod yX6_degreeOf, Cond.selects RX6 yX6_degreeOf yX6_degreeOf, Cond.code yX6_degreeOf cX6_degreeOf 4 (some .int), Cond.methodLink RX6 109 yX6_layLooks]
def wsX6_look_r2 : List Cond := [Cond.instanceMethod yX6_layLooks, Cond.selects RX6 yX6_layLooks yX6_layLooks, Cond.code yX6_layLooks cX6_layLooks 5 none, Cond.fieldLink RX6 103 "NetWalkersModel" "classes" "I", Cond.fieldLink RX6 30 "NetWalkersModel" "deeper" "[I", Cond.methodLink RX6 106 yX6_areAlike, Cond.instanceMethod yX6_areAlike, Cond.selects RX6 yX6_areAlike yX6_areAlike, Cond.code yX6_areAlike cX6_areAlike 7 (some .boolean)]
def wsX6_look : List Cond := .code yX6_look cX6_look 3 (some .int) :: ((wsX6_look_r1 ++ wsX6_look_r2) ++ wsX60)
def wsX6_classes_r1 : List Cond := [Cond.fieldLink RX6 103 "NetWalkersModel" "classes" "I", Cond.methodLink RX6 42 yX6_in, Cond.static yX6_in, Cond.initialized RX6, Cond.code yX6_in cX6_in 3 (some .boolean), Cond.methodLink RX6 68 yX6_isReady, Cond.instanceMethod yX6_isReady, Cond.selects RX6 yX6_isReady yX6_isReady, Cond.code yX6_isReady cX6_isReady 6 (some .boolean), Cond.fieldLink RX6 7 "NetWalkersModel" "posts" "I", Cond.fieldLink RX6 13 "NetWalkersModel" "to" "[I", Cond.methodLink RX6 65 yX6_all, Cond.instanceMethod yX6_all, Cond.selects RX6 yX6_all yX6_all, Cond.code yX6_all cX6_all 1 (some .int), Cond.methodLink RX6 62 yX6_degreeOf, Cond.instanceMethod yX6_degreeOf, Cond.selects RX6 yX6_degreeOf yX6_degreeOf, Cond.code yX6_degreeOf cX6_degreeOf 4 (some .int), Cond.methodLink RX6 109 yX6_layLooks, Cond.instanceMethod yX6_layLooks, Cond.selects RX6 yX6_layLooks yX6_layLooks, Cond.code yX6_layLooks cX6_layLooks 5 none, Cond.fieldLink RX6 27 "NetWalkersModel" "look" "[I"]
def wsX6_classes_r2 : List Cond := [Cond.fieldLink RX6 30 "NetWalkersModel" "deeper" "[I", Cond.methodLink RX6 106 yX6_areAlike, Cond.instanceMethod yX6_areAlike, Cond.selects RX6 yX6_areAlike yX6_areAlike, Cond.code yX6_areAlike cX6_areAlike 7 (some .boolean)]
def wsX6_classes : List Cond := .code yX6_classes cX6_classes 2 (some .int) :: ((wsX6_classes_r1 ++ wsX6_classes_r2) ++ wsX60)
def wsX6_classesAt : List Cond := .code yX6_classesAt cX6_classesAt 2 (some .int) :: ([.fieldLink RX6 103 "NetWalkersModel" "classes" "I", .methodLink RX6 109 yX6_layLooks, .instanceMethod yX6_layLooks, .selects RX6 yX6_layLooks yX6_layLooks, .initialized RX6, .code yX6_layLooks cX6_layLooks 5 none, .fieldLink RX6 7 "NetWalkersModel" "posts" "I", .fieldLink RX6 27 "NetWalkersModel" "look" "[I", .fieldLink RX6 30 "NetWalkersModel" "deeper" "[I", .methodLink RX6 62 yX6_degreeOf, .instanceMethod yX6_degreeOf, .selects RX6 yX6_degreeOf yX6_degreeOf, .code yX6_degreeOf cX6_degreeOf 4 (some .int), .fieldLink RX6 13 "NetWalkersModel" "to" "[I", .methodLink RX6 106 yX6_areAlike, .instanceMethod yX6_areAlike, .selects RX6 yX6_areAlike yX6_areAlike, .code yX6_areAlike cX6_areAlike 7 (some .boolean)] ++ wsX60)
def wsX6_deep_r1 : List Cond := [Cond.methodLink RX6 68 yX6_isReady, Cond.instanceMethod yX6_isReady, Cond.selects RX6 yX6_isReady yX6_isReady, Cond.initialized RX6, Cond.code yX6_isReady cX6_isReady 6 (some .boolean), Cond.fieldLink RX6 7 "NetWalkersModel" "posts" "I", Cond.fieldLink RX6 13 "NetWalkersModel" "to" "[I", Cond.methodLink RX6 65 yX6_all, Cond.instanceMethod yX6_all, Cond.selects RX6 yX6_all yX6_all, Cond.code yX6_all cX6_all 1 (some .int), Cond.methodLink RX6 62 yX6_degreeOf, Cond.instanceMethod yX6_degreeOf, Cond.selects RX6 yX6_degreeOf yX6_degreeOf, Cond.code yX6_degreeOf cX6_degreeOf 4 (some .int), Cond.methodLink RX6 112 yX6_classesAt, Cond.instanceMethod yX6_classesAt, Cond.selects RX6 yX6_classesAt yX6_classesAt, Cond.code yX6_classesAt cX6_classesAt 2 (some .int), Cond.fieldLink RX6 103 "NetWalkersModel" "classes" "I", Cond.methodLink RX6 109 yX6_layLooks, Cond.instanceMethod yX6_layLooks, Cond.selects RX6 yX6_layLooks yX6_layLooks, Cond.code yX6_layLooks cX6_layLooks 5 none]
def wsX6_deep_r2 : List Cond := [Cond.fieldLink RX6 27 "NetWalkersModel" "look" "[I", Cond.fieldLink RX6 30 "NetWalkersModel" "deeper" "[I", Cond.methodLink RX6 106 yX6_areAlike, Cond.instanceMethod yX6_areAlike, Cond.selects RX6 yX6_areAlike yX6_areAlike, Cond.code yX6_areAlike cX6_areAlike 7 (some .boolean)]
def wsX6_deep : List Cond := .code yX6_deep cX6_deep 2 (some .int) :: ((wsX6_deep_r1 ++ wsX6_deep_r2) ++ wsX60)
def wsX6_apart_r1 : List Cond := [Cond.fieldLink RX6 27 "NetWalkersModel" "look" "[I", Cond.methodLink RX6 46 yX6_isPost, Cond.instanceMethod yX6_isPost, Cond.selects RX6 yX6_isPost yX6_isPost, Cond.initialized RX6, Cond.code yX6_isPost cX6_isPost 2 (some .boolean), Cond.fieldLink RX6 7 "NetWalkersModel" "posts" "I", Cond.methodLink RX6 42 yX6_in, Cond.static yX6_in, Cond.code yX6_in cX6_in 3 (some .boolean), Cond.methodLink RX6 68 yX6_isReady, Cond.instanceMethod yX6_isReady, Cond.selects RX6 yX6_isReady yX6_isReady, Cond.code yX6_isReady cX6_isReady 6 (some .boolean), Cond.fieldLink RX6 13 "NetWalkersModel" "to" "[I", Cond.methodLink RX6 65 yX6_all, Cond.instanceMethod yX6_all, Cond.selects RX6 yX6_all yX6_all, Cond.code yX6_all cX6_all 1 (some .int), Cond.methodLink RX6 62 yX6_degreeOf, Cond.instanceMethod yX6_degreeOf, Cond.selects RX6 yX6_degreeOf yX6_degreeOf, Cond.code yX6_degreeOf cX6_degreeOf 4 (some .int), Cond.methodLink RX6 109 yX6_layLooks]
def wsX6_apart_r2 : List Cond := [Cond.instanceMethod yX6_layLooks, Cond.selects RX6 yX6_layLooks yX6_layLooks, Cond.code yX6_layLooks cX6_layLooks 5 none, Cond.fieldLink RX6 103 "NetWalkersModel" "classes" "I", Cond.fieldLink RX6 30 "NetWalkersModel" "deeper" "[I", Cond.methodLink RX6 106 yX6_areAlike, Cond.instanceMethod yX6_areAlike, Cond.selects RX6 yX6_areAlike yX6_areAlike, Cond.code yX6_areAlike cX6_areAlike 7 (some .boolean)]
def wsX6_apart : List Cond := .code yX6_apart cX6_apart 4 (some .int) :: ((wsX6_apart_r1 ++ wsX6_apart_r2) ++ wsX60)
def wsX6_meetOf : List Cond := .code yX6_meetOf cX6_meetOf 11 (some .int) :: ([.fieldLink RX6 21 "NetWalkersModel" "length" "[I", .fieldLink RX6 72 "NetWalkersModel" "at" "I", .fieldLink RX6 75 "NetWalkersModel" "by" "I", .fieldLink RX6 24 "NetWalkersModel" "row" "[I", .methodLink RX6 85 yX6_step, .instanceMethod yX6_step, .selects RX6 yX6_step yX6_step, .initialized RX6, .code yX6_step cX6_step 4 none, .methodLink RX6 62 yX6_degreeOf, .instanceMethod yX6_degreeOf, .selects RX6 yX6_degreeOf yX6_degreeOf, .code yX6_degreeOf cX6_degreeOf 4 (some .int), .fieldLink RX6 13 "NetWalkersModel" "to" "[I", .methodLink RX6 78 yX6_go, .instanceMethod yX6_go, .selects RX6 yX6_go yX6_go, .code yX6_go cX6_go 4 none, .fieldLink RX6 17 "NetWalkersModel" "isBad" "[Z"] ++ wsX60)
def wsX6_meet_r1 : List Cond := [Cond.methodLink RX6 46 yX6_isPost, Cond.instanceMethod yX6_isPost, Cond.selects RX6 yX6_isPost yX6_isPost, Cond.initialized RX6, Cond.code yX6_isPost cX6_isPost 2 (some .boolean), Cond.fieldLink RX6 7 "NetWalkersModel" "posts" "I", Cond.methodLink RX6 42 yX6_in, Cond.static yX6_in, Cond.code yX6_in cX6_in 3 (some .boolean), Cond.methodLink RX6 68 yX6_isReady, Cond.instanceMethod yX6_isReady, Cond.selects RX6 yX6_isReady yX6_isReady, Cond.code yX6_isReady cX6_isReady 6 (some .boolean), Cond.fieldLink RX6 13 "NetWalkersModel" "to" "[I", Cond.methodLink RX6 65 yX6_all, Cond.instanceMethod yX6_all, Cond.selects RX6 yX6_all yX6_all, Cond.code yX6_all cX6_all 1 (some .int), Cond.methodLink RX6 62 yX6_degreeOf, Cond.instanceMethod yX6_degreeOf, Cond.selects RX6 yX6_degreeOf yX6_degreeOf, Cond.code yX6_degreeOf cX6_degreeOf 4 (some .int), Cond.methodLink RX6 115 yX6_meetOf, Cond.instanceMethod yX6_meetOf]
def wsX6_meet_r2 : List Cond := [Cond.selects RX6 yX6_meetOf yX6_meetOf, Cond.code yX6_meetOf cX6_meetOf 11 (some .int), Cond.fieldLink RX6 21 "NetWalkersModel" "length" "[I", Cond.fieldLink RX6 72 "NetWalkersModel" "at" "I", Cond.fieldLink RX6 75 "NetWalkersModel" "by" "I", Cond.fieldLink RX6 24 "NetWalkersModel" "row" "[I", Cond.methodLink RX6 85 yX6_step, Cond.instanceMethod yX6_step, Cond.selects RX6 yX6_step yX6_step, Cond.code yX6_step cX6_step 4 none, Cond.methodLink RX6 78 yX6_go, Cond.instanceMethod yX6_go, Cond.selects RX6 yX6_go yX6_go, Cond.code yX6_go cX6_go 4 none, Cond.fieldLink RX6 17 "NetWalkersModel" "isBad" "[Z"]
def wsX6_meet : List Cond := .code yX6_meet cX6_meet 5 (some .int) :: ((wsX6_meet_r1 ++ wsX6_meet_r2) ++ wsX60)
def wsX6_worst_r1 : List Cond := [Cond.fieldLink RX6 7 "NetWalkersModel" "posts" "I", Cond.methodLink RX6 42 yX6_in, Cond.static yX6_in, Cond.initialized RX6, Cond.code yX6_in cX6_in 3 (some .boolean), Cond.methodLink RX6 68 yX6_isReady, Cond.instanceMethod yX6_isReady, Cond.selects RX6 yX6_isReady yX6_isReady, Cond.code yX6_isReady cX6_isReady 6 (some .boolean), Cond.fieldLink RX6 13 "NetWalkersModel" "to" "[I", Cond.methodLink RX6 65 yX6_all, Cond.instanceMethod yX6_all, Cond.selects RX6 yX6_all yX6_all, Cond.code yX6_all cX6_all 1 (some .int), Cond.methodLink RX6 62 yX6_degreeOf, Cond.instanceMethod yX6_degreeOf, Cond.selects RX6 yX6_degreeOf yX6_degreeOf, Cond.code yX6_degreeOf cX6_degreeOf 4 (some .int), Cond.methodLink RX6 115 yX6_meetOf, Cond.instanceMethod yX6_meetOf, Cond.selects RX6 yX6_meetOf yX6_meetOf, Cond.code yX6_meetOf cX6_meetOf 11 (some .int), Cond.fieldLink RX6 21 "NetWalkersModel" "length" "[I", Cond.fieldLink RX6 72 "NetWalkersModel" "at" "I"]
def wsX6_worst_r2 : List Cond := [Cond.fieldLink RX6 75 "NetWalkersModel" "by" "I", Cond.fieldLink RX6 24 "NetWalkersModel" "row" "[I", Cond.methodLink RX6 85 yX6_step, Cond.instanceMethod yX6_step, Cond.selects RX6 yX6_step yX6_step, Cond.code yX6_step cX6_step 4 none, Cond.methodLink RX6 78 yX6_go, Cond.instanceMethod yX6_go, Cond.selects RX6 yX6_go yX6_go, Cond.code yX6_go cX6_go 4 none, Cond.fieldLink RX6 17 "NetWalkersModel" "isBad" "[Z"]
def wsX6_worst : List Cond := .code yX6_worst cX6_worst 8 (some .int) :: ((wsX6_worst_r1 ++ wsX6_worst_r2) ++ wsX60)
def wsX6_walksRing : List Cond := .code yX6_walksRing cX6_walksRing 9 (some .boolean) :: ([])
def wsX6_walksAllRings : List Cond := .code yX6_walksAllRings cX6_walksAllRings 6 (some .boolean) :: ([.methodLink RX6 119 yX6_walksRing, .static yX6_walksRing, .initialized RX6, .code yX6_walksRing cX6_walksRing 9 (some .boolean)])
def wsX6_findRing : List Cond := .code yX6_findRing cX6_findRing 4 none :: ([.fieldLink RX6 33 "NetWalkersModel" "shortest" "[I", .fieldLink RX6 36 "NetWalkersModel" "found" "[I", .methodLink RX6 123 yX6_walksAllRings, .static yX6_walksAllRings, .initialized RX6, .code yX6_walksAllRings cX6_walksAllRings 6 (some .boolean), .methodLink RX6 119 yX6_walksRing, .static yX6_walksRing, .code yX6_walksRing cX6_walksRing 9 (some .boolean)] ++ wsX60)
def wsX6_ring : List Cond := .code yX6_ring cX6_ring 3 (some .int) :: ([.fieldLink RX6 33 "NetWalkersModel" "shortest" "[I", .fieldLink RX6 36 "NetWalkersModel" "found" "[I", .methodLink RX6 42 yX6_in, .static yX6_in, .initialized RX6, .code yX6_in cX6_in 3 (some .boolean), .methodLink RX6 126 yX6_findRing, .instanceMethod yX6_findRing, .selects RX6 yX6_findRing yX6_findRing, .code yX6_findRing cX6_findRing 4 none, .methodLink RX6 123 yX6_walksAllRings, .static yX6_walksAllRings, .code yX6_walksAllRings cX6_walksAllRings 6 (some .boolean), .methodLink RX6 119 yX6_walksRing, .static yX6_walksRing, .code yX6_walksRing cX6_walksRing 9 (some .boolean)] ++ wsX60)
def wsX6_told : List Cond := .code yX6_told cX6_told 4 (some .int) :: ([.fieldLink RX6 7 "NetWalkersModel" "posts" "I", .fieldLink RX6 21 "NetWalkersModel" "length" "[I", .fieldLink RX6 17 "NetWalkersModel" "isBad" "[Z", .methodLink RX6 54 yX6_pairs, .instanceMethod yX6_pairs, .selects RX6 yX6_pairs yX6_pairs, .initialized RX6, .code yX6_pairs cX6_pairs 3 (some .int), .fieldLink RX6 13 "NetWalkersModel" "to" "[I"] ++ wsX60)
def wsJ9_max_7cf53 : List Cond := .code yJ9_max_7cf53 cJ9_max_7cf53 2 (some .int) :: ([])
theorem dX0_init_0 : decode cX0_init 0 = .ok (.aload_n 0, 1) := by decide +kernel
theorem dX0_init_1 : decode cX0_init 1 = .ok (.invokespecial 5, 3) := by decide +kernel
theorem dX0_init_4 : decode cX0_init 4 = .ok (.aload_n 0, 1) := by decide +kernel
theorem dX0_init_5 : decode cX0_init 5 = .ok (.aload_n 1, 1) := by decide +kernel
theorem dX0_init_6 : decode cX0_init 6 = .ok (.putfield 11, 3) := by decide +kernel
theorem dX0_init_9 : decode cX0_init 9 = .ok (.return_, 1) := by decide +kernel
theorem dX0_start_0 : decode cX0_start 0 = .ok (.iload_n 0, 1) := by decide +kernel
theorem dX0_start_1 : decode cX0_start 1 = .ok (.bipush 16, 2) := by decide +kernel
theorem dX0_start_3 : decode cX0_start 3 = .ok (.ishl, 1) := by decide +kernel
theorem dX0_start_4 : decode cX0_start 4 = .ok (.ireturn, 1) := by decide +kernel
theorem dX0_postAt_0 : decode cX0_postAt 0 = .ok (.iload_n 0, 1) := by decide +kernel
theorem dX0_postAt_1 : decode cX0_postAt 1 = .ok (.bipush 16, 2) := by decide +kernel
theorem dX0_postAt_3 : decode cX0_postAt 3 = .ok (.ishr, 1) := by decide +kernel
theorem dX0_postAt_4 : decode cX0_postAt 4 = .ok (.ireturn, 1) := by decide +kernel
set_option maxRecDepth 20000 in
theorem ggX0_sendOn_X0_postAt : GoodIn wsX0_sendOn wsX0_postAt := goodIn_r _ [6] (by decide +kernel) (by decide +kernel)
set_option maxRecDepth 20000 in
theorem gX0_sendOn_X0_postAt : GoodIn wsX0_sendOn (va_wsS RX0 15 yX0_postAt wsX0_postAt) := goodIn_app (goodIn_of _ (by decide +kernel)) ggX0_sendOn_X0_postAt
set_option maxRecDepth 20000 in
theorem ggX0_sendOn_X2_degreeOf : GoodIn wsX0_sendOn wsX2_degreeOf := goodIn_r _ [11, 12, 36, 37, 38, 39, 40] (by decide +kernel) (by decide +kernel)
set_option maxRecDepth 20000 in
theorem gX0_sendOn_X2_degreeOf : GoodIn wsX0_sendOn (wsV RX0 19 RX2 yX2_degreeOf wsX2_degreeOf) := goodIn_app (goodIn_of _ (by decide +kernel)) ggX0_sendOn_X2_degreeOf
set_option maxRecDepth 20000 in
theorem ggX0_sendOn_X5_placeOf : GoodIn wsX0_sendOn wsX5_placeOf := goodIn_r _ [15] (by decide +kernel) (by decide +kernel)
set_option maxRecDepth 20000 in
theorem gX0_sendOn_X5_placeOf_n25 : GoodIn wsX0_sendOn (wsX5_placeOf) := ggX0_sendOn_X5_placeOf
set_option maxRecDepth 20000 in
theorem ggX0_sendOn_X2_through : GoodIn wsX0_sendOn wsX2_through := goodIn_r _ [19, 20, 21, 22, 10, 23, 24, 25, 26, 27, 28, 29, 36, 37, 38, 39, 40] (by decide +kernel) (by decide +kernel)
set_option maxRecDepth 20000 in
theorem gX0_sendOn_X2_through : GoodIn wsX0_sendOn (wsV RX0 29 RX2 yX2_through wsX2_through) := goodIn_app (goodIn_of _ (by decide +kernel)) ggX0_sendOn_X2_through
set_option maxRecDepth 20000 in
theorem ggX0_sendOn_X5_postOf : GoodIn wsX0_sendOn wsX5_postOf := goodIn_r _ [31] (by decide +kernel) (by decide +kernel)
set_option maxRecDepth 20000 in
theorem gX0_sendOn_X5_postOf_n32 : GoodIn wsX0_sendOn (wsX5_postOf) := ggX0_sendOn_X5_postOf
set_option maxRecDepth 20000 in
theorem ggX0_sendOn_X0_start : GoodIn wsX0_sendOn wsX0_start := goodIn_r _ [34] (by decide +kernel) (by decide +kernel)
set_option maxRecDepth 20000 in
theorem gX0_sendOn_X0_start : GoodIn wsX0_sendOn (va_wsS RX0 35 yX0_start wsX0_start) := goodIn_app (goodIn_of _ (by decide +kernel)) ggX0_sendOn_X0_start
theorem dX0_sendOn_0 : decode cX0_sendOn 0 = .ok (.iload_n 1, 1) := by decide +kernel
theorem dX0_sendOn_1 : decode cX0_sendOn 1 = .ok (.invokestatic 15, 3) := by decide +kernel
theorem dX0_sendOn_4 : decode cX0_sendOn 4 = .ok (.istore_n 2, 1) := by decide +kernel
theorem dX0_sendOn_5 : decode cX0_sendOn 5 = .ok (.aload_n 0, 1) := by decide +kernel
theorem dX0_sendOn_6 : decode cX0_sendOn 6 = .ok (.getfield 11, 3) := by decide +kernel
theorem dX0_sendOn_9 : decode cX0_sendOn 9 = .ok (.iload_n 2, 1) := by decide +kernel
theorem dX0_sendOn_10 : decode cX0_sendOn 10 = .ok (.invokevirtual 19, 3) := by decide +kernel
theorem dX0_sendOn_13 : decode cX0_sendOn 13 = .ok (.istore_n 3, 1) := by decide +kernel
theorem dX0_sendOn_14 : decode cX0_sendOn 14 = .ok (.iload_n 3, 1) := by decide +kernel
theorem dX0_sendOn_15 : decode cX0_sendOn 15 = .ok (.ifCond .gt 5, 3) := by decide +kernel
theorem dX0_sendOn_18 : decode cX0_sendOn 18 = .ok (.iload_n 1, 1) := by decide +kernel
theorem dX0_sendOn_19 : decode cX0_sendOn 19 = .ok (.ireturn, 1) := by decide +kernel
theorem dX0_sendOn_20 : decode cX0_sendOn 20 = .ok (.iconst 2, 1) := by decide +kernel
theorem dX0_sendOn_21 : decode cX0_sendOn 21 = .ok (.iload_n 2, 1) := by decide +kernel
theorem dX0_sendOn_22 : decode cX0_sendOn 22 = .ok (.imul, 1) := by decide +kernel
theorem dX0_sendOn_23 : decode cX0_sendOn 23 = .ok (.istore 4, 2) := by decide +kernel
theorem dX0_sendOn_25 : decode cX0_sendOn 25 = .ok (.iload_n 1, 1) := by decide +kernel
theorem dX0_sendOn_26 : decode cX0_sendOn 26 = .ok (.iload 4, 2) := by decide +kernel
theorem dX0_sendOn_28 : decode cX0_sendOn 28 = .ok (.ishr, 1) := by decide +kernel
theorem dX0_sendOn_29 : decode cX0_sendOn 29 = .ok (.iconst 3, 1) := by decide +kernel
theorem dX0_sendOn_30 : decode cX0_sendOn 30 = .ok (.iand, 1) := by decide +kernel
theorem dX0_sendOn_31 : decode cX0_sendOn 31 = .ok (.istore 5, 2) := by decide +kernel
theorem dX0_sendOn_33 : decode cX0_sendOn 33 = .ok (.iload 5, 2) := by decide +kernel
theorem dX0_sendOn_35 : decode cX0_sendOn 35 = .ok (.iconst 1, 1) := by decide +kernel
theorem dX0_sendOn_36 : decode cX0_sendOn 36 = .ok (.iadd, 1) := by decide +kernel
theorem dX0_sendOn_37 : decode cX0_sendOn 37 = .ok (.iload_n 3, 1) := by decide +kernel
theorem dX0_sendOn_38 : decode cX0_sendOn 38 = .ok (.irem, 1) := by decide +kernel
theorem dX0_sendOn_39 : decode cX0_sendOn 39 = .ok (.istore 6, 2) := by decide +kernel
theorem dX0_sendOn_41 : decode cX0_sendOn 41 = .ok (.iload_n 1, 1) := by decide +kernel
theorem dX0_sendOn_42 : decode cX0_sendOn 42 = .ok (.ldc 24, 2) := by decide +kernel
theorem dX0_sendOn_44 : decode cX0_sendOn 44 = .ok (.iand, 1) := by decide +kernel
theorem dX0_sendOn_45 : decode cX0_sendOn 45 = .ok (.istore 7, 2) := by decide +kernel
theorem dX0_sendOn_47 : decode cX0_sendOn 47 = .ok (.iload 7, 2) := by decide +kernel
theorem dX0_sendOn_49 : decode cX0_sendOn 49 = .ok (.iload 5, 2) := by decide +kernel
theorem dX0_sendOn_51 : decode cX0_sendOn 51 = .ok (.iload 6, 2) := by decide +kernel
theorem dX0_sendOn_53 : decode cX0_sendOn 53 = .ok (.ixor, 1) := by decide +kernel
theorem dX0_sendOn_54 : decode cX0_sendOn 54 = .ok (.iload 4, 2) := by decide +kernel
theorem dX0_sendOn_56 : decode cX0_sendOn 56 = .ok (.ishl, 1) := by decide +kernel
theorem dX0_sendOn_57 : decode cX0_sendOn 57 = .ok (.ixor, 1) := by decide +kernel
theorem dX0_sendOn_58 : decode cX0_sendOn 58 = .ok (.istore 8, 2) := by decide +kernel
theorem dX0_sendOn_60 : decode cX0_sendOn 60 = .ok (.iload 8, 2) := by decide +kernel
theorem dX0_sendOn_62 : decode cX0_sendOn 62 = .ok (.aload_n 0, 1) := by decide +kernel
theorem dX0_sendOn_63 : decode cX0_sendOn 63 = .ok (.getfield 11, 3) := by decide +kernel
theorem dX0_sendOn_66 : decode cX0_sendOn 66 = .ok (.iload_n 2, 1) := by decide +kernel
theorem dX0_sendOn_67 : decode cX0_sendOn 67 = .ok (.iload 5, 2) := by decide +kernel
theorem dX0_sendOn_69 : decode cX0_sendOn 69 = .ok (.invokestatic 25, 3) := by decide +kernel
theorem dX0_sendOn_72 : decode cX0_sendOn 72 = .ok (.invokevirtual 29, 3) := by decide +kernel
theorem dX0_sendOn_75 : decode cX0_sendOn 75 = .ok (.invokestatic 32, 3) := by decide +kernel
theorem dX0_sendOn_78 : decode cX0_sendOn 78 = .ok (.invokestatic 35, 3) := by decide +kernel
theorem dX0_sendOn_81 : decode cX0_sendOn 81 = .ok (.ior, 1) := by decide +kernel
theorem dX0_sendOn_82 : decode cX0_sendOn 82 = .ok (.ireturn, 1) := by decide +kernel
theorem dX0_isMarkTime_0 : decode cX0_isMarkTime 0 = .ok (.iload_n 0, 1) := by decide +kernel
theorem dX0_isMarkTime_1 : decode cX0_isMarkTime 1 = .ok (.iload_n 0, 1) := by decide +kernel
theorem dX0_isMarkTime_2 : decode cX0_isMarkTime 2 = .ok (.iconst 1, 1) := by decide +kernel
theorem dX0_isMarkTime_3 : decode cX0_isMarkTime 3 = .ok (.isub, 1) := by decide +kernel
theorem dX0_isMarkTime_4 : decode cX0_isMarkTime 4 = .ok (.iand, 1) := by decide +kernel
theorem dX0_isMarkTime_5 : decode cX0_isMarkTime 5 = .ok (.ifCond .ne 7, 3) := by decide +kernel
theorem dX0_isMarkTime_8 : decode cX0_isMarkTime 8 = .ok (.iconst 1, 1) := by decide +kernel
theorem dX0_isMarkTime_9 : decode cX0_isMarkTime 9 = .ok (.goto 4, 3) := by decide +kernel
theorem dX0_isMarkTime_12 : decode cX0_isMarkTime 12 = .ok (.iconst 0, 1) := by decide +kernel
theorem dX0_isMarkTime_13 : decode cX0_isMarkTime 13 = .ok (.ireturn, 1) := by decide +kernel
set_option maxRecDepth 20000 in
theorem ggX0_stepsToAll_X0_start : GoodIn wsX0_stepsToAll wsX0_start := goodIn_r _ [5] (by decide +kernel) (by decide +kernel)
set_option maxRecDepth 20000 in
theorem gX0_stepsToAll_X0_start : GoodIn wsX0_stepsToAll (va_wsS RX0 35 yX0_start wsX0_start) := goodIn_app (goodIn_of _ (by decide +kernel)) ggX0_stepsToAll_X0_start
set_option maxRecDepth 20000 in
theorem ggX0_stepsToAll_X2_allPosts : GoodIn wsX0_stepsToAll wsX2_allPosts := goodIn_r _ [10, 11, 48, 49, 50, 51, 52] (by decide +kernel) (by decide +kernel)
set_option maxRecDepth 20000 in
theorem gX0_stepsToAll_X2_allPosts : GoodIn wsX0_stepsToAll (wsV RX0 38 RX2 yX2_allPosts wsX2_allPosts) := goodIn_app (goodIn_of _ (by decide +kernel)) ggX0_stepsToAll_X2_allPosts
set_option maxRecDepth 20000 in
theorem ggX0_stepsToAll_X0_sendOn : GoodIn wsX0_stepsToAll wsX0_sendOn := goodIn_r _ [15, 1, 16, 17, 18, 4, 19, 20, 21, 22, 9, 23, 24, 25, 26, 27, 28, 29, 30, 31, 32, 33, 34, 35, 36, 37, 38, 39, 40, 41, 42, 43, 2, 3, 5, 47, 48, 49, 50, 51, 52] (by decide +kernel) (by decide +kernel)
set_option maxRecDepth 20000 in
theorem gX0_stepsToAll_X0_sendOn : GoodIn wsX0_stepsToAll (wsV RX0 42 RX0 yX0_sendOn wsX0_sendOn) := goodIn_app (goodIn_of _ (by decide +kernel)) ggX0_stepsToAll_X0_sendOn
set_option maxRecDepth 20000 in
theorem ggX0_stepsToAll_X0_postAt : GoodIn wsX0_stepsToAll wsX0_postAt := goodIn_r _ [19] (by decide +kernel) (by decide +kernel)
set_option maxRecDepth 20000 in
theorem gX0_stepsToAll_X0_postAt : GoodIn wsX0_stepsToAll (va_wsS RX0 15 yX0_postAt wsX0_postAt) := goodIn_app (goodIn_of _ (by decide +kernel)) ggX0_stepsToAll_X0_postAt
set_option maxRecDepth 20000 in
theorem ggX0_stepsToAll_X0_isMarkTime : GoodIn wsX0_stepsToAll wsX0_isMarkTime := goodIn_r _ [46] (by decide +kernel) (by decide +kernel)
set_option maxRecDepth 20000 in
theorem gX0_stepsToAll_X0_isMarkTime : GoodIn wsX0_stepsToAll (va_wsS RX0 45 yX0_isMarkTime wsX0_isMarkTime) := goodIn_app (goodIn_of _ (by decide +kernel)) ggX0_stepsToAll_X0_isMarkTime
theorem dX0_stepsToAll_0 : decode cX0_stepsToAll 0 = .ok (.iload_n 1, 1) := by decide +kernel
theorem dX0_stepsToAll_1 : decode cX0_stepsToAll 1 = .ok (.invokestatic 35, 3) := by decide +kernel
theorem dX0_stepsToAll_4 : decode cX0_stepsToAll 4 = .ok (.istore_n 2, 1) := by decide +kernel
theorem dX0_stepsToAll_5 : decode cX0_stepsToAll 5 = .ok (.iload_n 2, 1) := by decide +kernel
theorem dX0_stepsToAll_6 : decode cX0_stepsToAll 6 = .ok (.istore_n 3, 1) := by decide +kernel
theorem dX0_stepsToAll_7 : decode cX0_stepsToAll 7 = .ok (.iconst 1, 1) := by decide +kernel
theorem dX0_stepsToAll_8 : decode cX0_stepsToAll 8 = .ok (.iload_n 1, 1) := by decide +kernel
theorem dX0_stepsToAll_9 : decode cX0_stepsToAll 9 = .ok (.ishl, 1) := by decide +kernel
theorem dX0_stepsToAll_10 : decode cX0_stepsToAll 10 = .ok (.istore 4, 2) := by decide +kernel
theorem dX0_stepsToAll_12 : decode cX0_stepsToAll 12 = .ok (.iconst 0, 1) := by decide +kernel
theorem dX0_stepsToAll_13 : decode cX0_stepsToAll 13 = .ok (.istore 5, 2) := by decide +kernel
theorem dX0_stepsToAll_15 : decode cX0_stepsToAll 15 = .ok (.iload 5, 2) := by decide +kernel
theorem dX0_stepsToAll_17 : decode cX0_stepsToAll 17 = .ok (.sipush 20000, 3) := by decide +kernel
theorem dX0_stepsToAll_20 : decode cX0_stepsToAll 20 = .ok (.if_icmp .gt 61, 3) := by decide +kernel
theorem dX0_stepsToAll_23 : decode cX0_stepsToAll 23 = .ok (.iload 4, 2) := by decide +kernel
theorem dX0_stepsToAll_25 : decode cX0_stepsToAll 25 = .ok (.aload_n 0, 1) := by decide +kernel
theorem dX0_stepsToAll_26 : decode cX0_stepsToAll 26 = .ok (.getfield 11, 3) := by decide +kernel
theorem dX0_stepsToAll_29 : decode cX0_stepsToAll 29 = .ok (.invokevirtual 38, 3) := by decide +kernel
theorem dX0_stepsToAll_32 : decode cX0_stepsToAll 32 = .ok (.if_icmp .ne 6, 3) := by decide +kernel
theorem dX0_stepsToAll_35 : decode cX0_stepsToAll 35 = .ok (.iload 5, 2) := by decide +kernel
theorem dX0_stepsToAll_37 : decode cX0_stepsToAll 37 = .ok (.ireturn, 1) := by decide +kernel
theorem dX0_stepsToAll_38 : decode cX0_stepsToAll 38 = .ok (.aload_n 0, 1) := by decide +kernel
theorem dX0_stepsToAll_39 : decode cX0_stepsToAll 39 = .ok (.iload_n 2, 1) := by decide +kernel
theorem dX0_stepsToAll_40 : decode cX0_stepsToAll 40 = .ok (.invokevirtual 42, 3) := by decide +kernel
theorem dX0_stepsToAll_43 : decode cX0_stepsToAll 43 = .ok (.istore_n 2, 1) := by decide +kernel
theorem dX0_stepsToAll_44 : decode cX0_stepsToAll 44 = .ok (.iload_n 2, 1) := by decide +kernel
theorem dX0_stepsToAll_45 : decode cX0_stepsToAll 45 = .ok (.iload_n 3, 1) := by decide +kernel
theorem dX0_stepsToAll_46 : decode cX0_stepsToAll 46 = .ok (.if_icmp .ne 6, 3) := by decide +kernel
theorem dX0_stepsToAll_49 : decode cX0_stepsToAll 49 = .ok (.bipush (-6), 2) := by decide +kernel
theorem dX0_stepsToAll_51 : decode cX0_stepsToAll 51 = .ok (.ireturn, 1) := by decide +kernel
theorem dX0_stepsToAll_52 : decode cX0_stepsToAll 52 = .ok (.iload 4, 2) := by decide +kernel
theorem dX0_stepsToAll_54 : decode cX0_stepsToAll 54 = .ok (.iconst 1, 1) := by decide +kernel
theorem dX0_stepsToAll_55 : decode cX0_stepsToAll 55 = .ok (.iload_n 2, 1) := by decide +kernel
theorem dX0_stepsToAll_56 : decode cX0_stepsToAll 56 = .ok (.invokestatic 15, 3) := by decide +kernel
theorem dX0_stepsToAll_59 : decode cX0_stepsToAll 59 = .ok (.ishl, 1) := by decide +kernel
theorem dX0_stepsToAll_60 : decode cX0_stepsToAll 60 = .ok (.ior, 1) := by decide +kernel
theorem dX0_stepsToAll_61 : decode cX0_stepsToAll 61 = .ok (.istore 4, 2) := by decide +kernel
theorem dX0_stepsToAll_63 : decode cX0_stepsToAll 63 = .ok (.iload 5, 2) := by decide +kernel
theorem dX0_stepsToAll_65 : decode cX0_stepsToAll 65 = .ok (.iconst 1, 1) := by decide +kernel
theorem dX0_stepsToAll_66 : decode cX0_stepsToAll 66 = .ok (.iadd, 1) := by decide +kernel
theorem dX0_stepsToAll_67 : decode cX0_stepsToAll 67 = .ok (.invokestatic 45, 3) := by decide +kernel
theorem dX0_stepsToAll_70 : decode cX0_stepsToAll 70 = .ok (.ifCond .eq 5, 3) := by decide +kernel
theorem dX0_stepsToAll_73 : decode cX0_stepsToAll 73 = .ok (.iload_n 2, 1) := by decide +kernel
theorem dX0_stepsToAll_74 : decode cX0_stepsToAll 74 = .ok (.istore_n 3, 1) := by decide +kernel
theorem dX0_stepsToAll_75 : decode cX0_stepsToAll 75 = .ok (.iinc 5 1, 3) := by decide +kernel
theorem dX0_stepsToAll_78 : decode cX0_stepsToAll 78 = .ok (.goto (-63), 3) := by decide +kernel
theorem dX0_stepsToAll_81 : decode cX0_stepsToAll 81 = .ok (.bipush (-6), 2) := by decide +kernel
theorem dX0_stepsToAll_83 : decode cX0_stepsToAll 83 = .ok (.ireturn, 1) := by decide +kernel
set_option maxRecDepth 20000 in
theorem ggX0_ringLength_X0_start : GoodIn wsX0_ringLength wsX0_start := goodIn_r _ [5] (by decide +kernel) (by decide +kernel)
set_option maxRecDepth 20000 in
theorem gX0_ringLength_X0_start : GoodIn wsX0_ringLength (va_wsS RX0 35 yX0_start wsX0_start) := goodIn_app (goodIn_of _ (by decide +kernel)) ggX0_ringLength_X0_start
set_option maxRecDepth 20000 in
theorem ggX0_ringLength_X0_sendOn : GoodIn wsX0_ringLength wsX0_sendOn := goodIn_r _ [9, 10, 11, 12, 13, 4, 14, 15, 16, 17, 18, 19, 20, 21, 22, 23, 24, 25, 26, 27, 28, 29, 30, 31, 32, 33, 34, 35, 36, 37, 38, 39, 2, 3, 5, 43, 44, 45, 46, 47, 48] (by decide +kernel) (by decide +kernel)
set_option maxRecDepth 20000 in
theorem gX0_ringLength_X0_sendOn : GoodIn wsX0_ringLength (wsV RX0 42 RX0 yX0_sendOn wsX0_sendOn) := goodIn_app (goodIn_of _ (by decide +kernel)) ggX0_ringLength_X0_sendOn
set_option maxRecDepth 20000 in
theorem ggX0_ringLength_X0_isMarkTime : GoodIn wsX0_ringLength wsX0_isMarkTime := goodIn_r _ [42] (by decide +kernel) (by decide +kernel)
set_option maxRecDepth 20000 in
theorem gX0_ringLength_X0_isMarkTime : GoodIn wsX0_ringLength (va_wsS RX0 45 yX0_isMarkTime wsX0_isMarkTime) := goodIn_app (goodIn_of _ (by decide +kernel)) ggX0_ringLength_X0_isMarkTime
theorem dX0_ringLength_0 : decode cX0_ringLength 0 = .ok (.iload_n 1, 1) := by decide +kernel
theorem dX0_ringLength_1 : decode cX0_ringLength 1 = .ok (.invokestatic 35, 3) := by decide +kernel
theorem dX0_ringLength_4 : decode cX0_ringLength 4 = .ok (.istore_n 2, 1) := by decide +kernel
theorem dX0_ringLength_5 : decode cX0_ringLength 5 = .ok (.iload_n 2, 1) := by decide +kernel
theorem dX0_ringLength_6 : decode cX0_ringLength 6 = .ok (.istore_n 3, 1) := by decide +kernel
theorem dX0_ringLength_7 : decode cX0_ringLength 7 = .ok (.iconst 0, 1) := by decide +kernel
theorem dX0_ringLength_8 : decode cX0_ringLength 8 = .ok (.istore 4, 2) := by decide +kernel
theorem dX0_ringLength_10 : decode cX0_ringLength 10 = .ok (.iconst 1, 1) := by decide +kernel
theorem dX0_ringLength_11 : decode cX0_ringLength 11 = .ok (.istore 5, 2) := by decide +kernel
theorem dX0_ringLength_13 : decode cX0_ringLength 13 = .ok (.iload 5, 2) := by decide +kernel
theorem dX0_ringLength_15 : decode cX0_ringLength 15 = .ok (.ldc 49, 2) := by decide +kernel
theorem dX0_ringLength_17 : decode cX0_ringLength 17 = .ok (.if_icmp .gt 57, 3) := by decide +kernel
theorem dX0_ringLength_20 : decode cX0_ringLength 20 = .ok (.aload_n 0, 1) := by decide +kernel
theorem dX0_ringLength_21 : decode cX0_ringLength 21 = .ok (.iload_n 2, 1) := by decide +kernel
theorem dX0_ringLength_22 : decode cX0_ringLength 22 = .ok (.invokevirtual 42, 3) := by decide +kernel
theorem dX0_ringLength_25 : decode cX0_ringLength 25 = .ok (.istore_n 2, 1) := by decide +kernel
theorem dX0_ringLength_26 : decode cX0_ringLength 26 = .ok (.iload_n 2, 1) := by decide +kernel
theorem dX0_ringLength_27 : decode cX0_ringLength 27 = .ok (.iload_n 3, 1) := by decide +kernel
theorem dX0_ringLength_28 : decode cX0_ringLength 28 = .ok (.if_icmp .ne 26, 3) := by decide +kernel
theorem dX0_ringLength_31 : decode cX0_ringLength 31 = .ok (.iload 5, 2) := by decide +kernel
theorem dX0_ringLength_33 : decode cX0_ringLength 33 = .ok (.iload 4, 2) := by decide +kernel
theorem dX0_ringLength_35 : decode cX0_ringLength 35 = .ok (.isub, 1) := by decide +kernel
theorem dX0_ringLength_36 : decode cX0_ringLength 36 = .ok (.istore 6, 2) := by decide +kernel
theorem dX0_ringLength_38 : decode cX0_ringLength 38 = .ok (.iload 6, 2) := by decide +kernel
theorem dX0_ringLength_40 : decode cX0_ringLength 40 = .ok (.sipush 20000, 3) := by decide +kernel
theorem dX0_ringLength_43 : decode cX0_ringLength 43 = .ok (.if_icmp .gt 8, 3) := by decide +kernel
theorem dX0_ringLength_46 : decode cX0_ringLength 46 = .ok (.iload 6, 2) := by decide +kernel
theorem dX0_ringLength_48 : decode cX0_ringLength 48 = .ok (.goto 5, 3) := by decide +kernel
theorem dX0_ringLength_51 : decode cX0_ringLength 51 = .ok (.bipush (-7), 2) := by decide +kernel
theorem dX0_ringLength_53 : decode cX0_ringLength 53 = .ok (.ireturn, 1) := by decide +kernel
theorem dX0_ringLength_54 : decode cX0_ringLength 54 = .ok (.iload 5, 2) := by decide +kernel
theorem dX0_ringLength_56 : decode cX0_ringLength 56 = .ok (.invokestatic 45, 3) := by decide +kernel
theorem dX0_ringLength_59 : decode cX0_ringLength 59 = .ok (.ifCond .eq 9, 3) := by decide +kernel
theorem dX0_ringLength_62 : decode cX0_ringLength 62 = .ok (.iload_n 2, 1) := by decide +kernel
theorem dX0_ringLength_63 : decode cX0_ringLength 63 = .ok (.istore_n 3, 1) := by decide +kernel
theorem dX0_ringLength_64 : decode cX0_ringLength 64 = .ok (.iload 5, 2) := by decide +kernel
theorem dX0_ringLength_66 : decode cX0_ringLength 66 = .ok (.istore 4, 2) := by decide +kernel
theorem dX0_ringLength_68 : decode cX0_ringLength 68 = .ok (.iinc 5 1, 3) := by decide +kernel
theorem dX0_ringLength_71 : decode cX0_ringLength 71 = .ok (.goto (-58), 3) := by decide +kernel
theorem dX0_ringLength_74 : decode cX0_ringLength 74 = .ok (.bipush (-7), 2) := by decide +kernel
theorem dX0_ringLength_76 : decode cX0_ringLength 76 = .ok (.ireturn, 1) := by decide +kernel
set_option maxRecDepth 20000 in
theorem ggX0_stepsAhead_X0_start : GoodIn wsX0_stepsAhead wsX0_start := goodIn_r _ [4] (by decide +kernel) (by decide +kernel)
set_option maxRecDepth 20000 in
theorem gX0_stepsAhead_X0_start : GoodIn wsX0_stepsAhead (va_wsS RX0 35 yX0_start wsX0_start) := goodIn_app (goodIn_of _ (by decide +kernel)) ggX0_stepsAhead_X0_start
set_option maxRecDepth 20000 in
theorem ggX0_stepsAhead_X0_sendOn : GoodIn wsX0_stepsAhead wsX0_sendOn := goodIn_r _ [8, 9, 10, 11, 12, 3, 13, 14, 15, 16, 17, 18, 19, 20, 21, 22, 23, 24, 25, 26, 27, 28, 29, 30, 31, 32, 33, 34, 35, 36, 37, 38, 1, 2, 4, 39, 40, 41, 42, 43, 44] (by decide +kernel) (by decide +kernel)
set_option maxRecDepth 20000 in
theorem gX0_stepsAhead_X0_sendOn : GoodIn wsX0_stepsAhead (wsV RX0 42 RX0 yX0_sendOn wsX0_sendOn) := goodIn_app (goodIn_of _ (by decide +kernel)) ggX0_stepsAhead_X0_sendOn
theorem dX0_stepsAhead_0 : decode cX0_stepsAhead 0 = .ok (.iload_n 1, 1) := by decide +kernel
theorem dX0_stepsAhead_1 : decode cX0_stepsAhead 1 = .ok (.invokestatic 35, 3) := by decide +kernel
theorem dX0_stepsAhead_4 : decode cX0_stepsAhead 4 = .ok (.istore_n 3, 1) := by decide +kernel
theorem dX0_stepsAhead_5 : decode cX0_stepsAhead 5 = .ok (.iload_n 3, 1) := by decide +kernel
theorem dX0_stepsAhead_6 : decode cX0_stepsAhead 6 = .ok (.istore 4, 2) := by decide +kernel
theorem dX0_stepsAhead_8 : decode cX0_stepsAhead 8 = .ok (.iconst 0, 1) := by decide +kernel
theorem dX0_stepsAhead_9 : decode cX0_stepsAhead 9 = .ok (.istore 5, 2) := by decide +kernel
theorem dX0_stepsAhead_11 : decode cX0_stepsAhead 11 = .ok (.iload 5, 2) := by decide +kernel
theorem dX0_stepsAhead_13 : decode cX0_stepsAhead 13 = .ok (.iload_n 2, 1) := by decide +kernel
theorem dX0_stepsAhead_14 : decode cX0_stepsAhead 14 = .ok (.if_icmp .ge 17, 3) := by decide +kernel
theorem dX0_stepsAhead_17 : decode cX0_stepsAhead 17 = .ok (.aload_n 0, 1) := by decide +kernel
theorem dX0_stepsAhead_18 : decode cX0_stepsAhead 18 = .ok (.iload 4, 2) := by decide +kernel
theorem dX0_stepsAhead_20 : decode cX0_stepsAhead 20 = .ok (.invokevirtual 42, 3) := by decide +kernel
theorem dX0_stepsAhead_23 : decode cX0_stepsAhead 23 = .ok (.istore 4, 2) := by decide +kernel
theorem dX0_stepsAhead_25 : decode cX0_stepsAhead 25 = .ok (.iinc 5 1, 3) := by decide +kernel
theorem dX0_stepsAhead_28 : decode cX0_stepsAhead 28 = .ok (.goto (-17), 3) := by decide +kernel
theorem dX0_stepsAhead_31 : decode cX0_stepsAhead 31 = .ok (.iconst 0, 1) := by decide +kernel
theorem dX0_stepsAhead_32 : decode cX0_stepsAhead 32 = .ok (.istore 5, 2) := by decide +kernel
theorem dX0_stepsAhead_34 : decode cX0_stepsAhead 34 = .ok (.iload 5, 2) := by decide +kernel
theorem dX0_stepsAhead_36 : decode cX0_stepsAhead 36 = .ok (.sipush 20000, 3) := by decide +kernel
theorem dX0_stepsAhead_39 : decode cX0_stepsAhead 39 = .ok (.iload_n 2, 1) := by decide +kernel
theorem dX0_stepsAhead_40 : decode cX0_stepsAhead 40 = .ok (.isub, 1) := by decide +kernel
theorem dX0_stepsAhead_41 : decode cX0_stepsAhead 41 = .ok (.if_icmp .gt 32, 3) := by decide +kernel
theorem dX0_stepsAhead_44 : decode cX0_stepsAhead 44 = .ok (.iload_n 3, 1) := by decide +kernel
theorem dX0_stepsAhead_45 : decode cX0_stepsAhead 45 = .ok (.iload 4, 2) := by decide +kernel
theorem dX0_stepsAhead_47 : decode cX0_stepsAhead 47 = .ok (.if_icmp .ne 6, 3) := by decide +kernel
theorem dX0_stepsAhead_50 : decode cX0_stepsAhead 50 = .ok (.iload 5, 2) := by decide +kernel
theorem dX0_stepsAhead_52 : decode cX0_stepsAhead 52 = .ok (.ireturn, 1) := by decide +kernel
theorem dX0_stepsAhead_53 : decode cX0_stepsAhead 53 = .ok (.aload_n 0, 1) := by decide +kernel
theorem dX0_stepsAhead_54 : decode cX0_stepsAhead 54 = .ok (.iload_n 3, 1) := by decide +kernel
theorem dX0_stepsAhead_55 : decode cX0_stepsAhead 55 = .ok (.invokevirtual 42, 3) := by decide +kernel
theorem dX0_stepsAhead_58 : decode cX0_stepsAhead 58 = .ok (.istore_n 3, 1) := by decide +kernel
theorem dX0_stepsAhead_59 : decode cX0_stepsAhead 59 = .ok (.aload_n 0, 1) := by decide +kernel
theorem dX0_stepsAhead_60 : decode cX0_stepsAhead 60 = .ok (.iload 4, 2) := by decide +kernel
theorem dX0_stepsAhead_62 : decode cX0_stepsAhead 62 = .ok (.invokevirtual 42, 3) := by decide +kernel
theorem dX0_stepsAhead_65 : decode cX0_stepsAhead 65 = .ok (.istore 4, 2) := by decide +kernel
theorem dX0_stepsAhead_67 : decode cX0_stepsAhead 67 = .ok (.iinc 5 1, 3) := by decide +kernel
theorem dX0_stepsAhead_70 : decode cX0_stepsAhead 70 = .ok (.goto (-36), 3) := by decide +kernel
theorem dX0_stepsAhead_73 : decode cX0_stepsAhead 73 = .ok (.bipush (-7), 2) := by decide +kernel
theorem dX0_stepsAhead_75 : decode cX0_stepsAhead 75 = .ok (.ireturn, 1) := by decide +kernel
theorem dX1_init_0 : decode cX1_init 0 = .ok (.aload_n 0, 1) := by decide +kernel
theorem dX1_init_1 : decode cX1_init 1 = .ok (.invokespecial 3, 3) := by decide +kernel
theorem dX1_init_4 : decode cX1_init 4 = .ok (.aload_n 0, 1) := by decide +kernel
theorem dX1_init_5 : decode cX1_init 5 = .ok (.bipush 8, 2) := by decide +kernel
theorem dX1_init_7 : decode cX1_init 7 = .ok (.newarray .int, 2) := by decide +kernel
theorem dX1_init_9 : decode cX1_init 9 = .ok (.putfield 9, 3) := by decide +kernel
theorem dX1_init_12 : decode cX1_init 12 = .ok (.aload_n 0, 1) := by decide +kernel
theorem dX1_init_13 : decode cX1_init 13 = .ok (.bipush 8, 2) := by decide +kernel
theorem dX1_init_15 : decode cX1_init 15 = .ok (.newarray .int, 2) := by decide +kernel
theorem dX1_init_17 : decode cX1_init 17 = .ok (.putfield 15, 3) := by decide +kernel
theorem dX1_init_20 : decode cX1_init 20 = .ok (.aload_n 0, 1) := by decide +kernel
theorem dX1_init_21 : decode cX1_init 21 = .ok (.aload_n 1, 1) := by decide +kernel
theorem dX1_init_22 : decode cX1_init 22 = .ok (.putfield 18, 3) := by decide +kernel
theorem dX1_init_25 : decode cX1_init 25 = .ok (.return_, 1) := by decide +kernel
theorem dX1_kindOf_0 : decode cX1_kindOf 0 = .ok (.iload_n 1, 1) := by decide +kernel
theorem dX1_kindOf_1 : decode cX1_kindOf 1 = .ok (.ifCond .lt 21, 3) := by decide +kernel
theorem dX1_kindOf_4 : decode cX1_kindOf 4 = .ok (.iload_n 1, 1) := by decide +kernel
theorem dX1_kindOf_5 : decode cX1_kindOf 5 = .ok (.aload_n 0, 1) := by decide +kernel
theorem dX1_kindOf_6 : decode cX1_kindOf 6 = .ok (.getfield 9, 3) := by decide +kernel
theorem dX1_kindOf_9 : decode cX1_kindOf 9 = .ok (.arraylength, 1) := by decide +kernel
theorem dX1_kindOf_10 : decode cX1_kindOf 10 = .ok (.if_icmp .ge 12, 3) := by decide +kernel
theorem dX1_kindOf_13 : decode cX1_kindOf 13 = .ok (.aload_n 0, 1) := by decide +kernel
theorem dX1_kindOf_14 : decode cX1_kindOf 14 = .ok (.getfield 9, 3) := by decide +kernel
theorem dX1_kindOf_17 : decode cX1_kindOf 17 = .ok (.iload_n 1, 1) := by decide +kernel
theorem dX1_kindOf_18 : decode cX1_kindOf 18 = .ok (.iaload, 1) := by decide +kernel
theorem dX1_kindOf_19 : decode cX1_kindOf 19 = .ok (.goto 4, 3) := by decide +kernel
theorem dX1_kindOf_22 : decode cX1_kindOf 22 = .ok (.iconst 0, 1) := by decide +kernel
theorem dX1_kindOf_23 : decode cX1_kindOf 23 = .ok (.ireturn, 1) := by decide +kernel
set_option maxRecDepth 20000 in
theorem ggX1_lookTo_X1_lookAtDegrees : GoodIn wsX1_lookTo wsX1_lookAtDegrees := goodIn_r _ [6, 7, 8, 9, 10, 5, 11, 1, 12, 13, 14, 15, 16, 17, 18, 19, 20, 21, 22, 23, 24, 25, 26, 27, 28, 29, 30, 31, 32, 33, 34, 35, 36, 37, 38, 39, 40, 41, 42, 43, 44, 49, 50, 51, 52, 53, 54, 55, 56, 57] (by decide +kernel) (by decide +kernel)
set_option maxRecDepth 20000 in
theorem gX1_lookTo_X1_lookAtDegrees : GoodIn wsX1_lookTo (wsV RX1 22 RX1 yX1_lookAtDegrees wsX1_lookAtDegrees) := goodIn_app (goodIn_of _ (by decide +kernel)) ggX1_lookTo_X1_lookAtDegrees
set_option maxRecDepth 20000 in
theorem ggX1_lookTo_X1_lookDeeper : GoodIn wsX1_lookTo wsX1_lookDeeper := goodIn_r _ [48, 8, 9, 10, 5, 11, 1, 12, 13, 14, 7, 15, 16, 17, 18, 19, 20, 21, 22, 23, 24, 25, 26, 27, 28, 29, 30, 31, 32, 33, 34, 35, 36, 37, 38, 39, 40, 41, 42, 43, 44, 49, 50, 51, 52, 53, 54, 55, 56, 57] (by decide +kernel) (by decide +kernel)
set_option maxRecDepth 20000 in
theorem gX1_lookTo_X1_lookDeeper : GoodIn wsX1_lookTo (wsV RX1 29 RX1 yX1_lookDeeper wsX1_lookDeeper) := goodIn_app (goodIn_of _ (by decide +kernel)) ggX1_lookTo_X1_lookDeeper
theorem dX1_lookTo_0 : decode cX1_lookTo 0 = .ok (.aload_n 0, 1) := by decide +kernel
theorem dX1_lookTo_1 : decode cX1_lookTo 1 = .ok (.invokevirtual 22, 3) := by decide +kernel
theorem dX1_lookTo_4 : decode cX1_lookTo 4 = .ok (.iconst 0, 1) := by decide +kernel
theorem dX1_lookTo_5 : decode cX1_lookTo 5 = .ok (.istore_n 2, 1) := by decide +kernel
theorem dX1_lookTo_6 : decode cX1_lookTo 6 = .ok (.iload_n 2, 1) := by decide +kernel
theorem dX1_lookTo_7 : decode cX1_lookTo 7 = .ok (.iload_n 1, 1) := by decide +kernel
theorem dX1_lookTo_8 : decode cX1_lookTo 8 = .ok (.if_icmp .ge 28, 3) := by decide +kernel
theorem dX1_lookTo_11 : decode cX1_lookTo 11 = .ok (.aload_n 0, 1) := by decide +kernel
theorem dX1_lookTo_12 : decode cX1_lookTo 12 = .ok (.getfield 25, 3) := by decide +kernel
theorem dX1_lookTo_15 : decode cX1_lookTo 15 = .ok (.istore_n 3, 1) := by decide +kernel
theorem dX1_lookTo_16 : decode cX1_lookTo 16 = .ok (.aload_n 0, 1) := by decide +kernel
theorem dX1_lookTo_17 : decode cX1_lookTo 17 = .ok (.invokevirtual 29, 3) := by decide +kernel
theorem dX1_lookTo_20 : decode cX1_lookTo 20 = .ok (.aload_n 0, 1) := by decide +kernel
theorem dX1_lookTo_21 : decode cX1_lookTo 21 = .ok (.getfield 25, 3) := by decide +kernel
theorem dX1_lookTo_24 : decode cX1_lookTo 24 = .ok (.iload_n 3, 1) := by decide +kernel
theorem dX1_lookTo_25 : decode cX1_lookTo 25 = .ok (.if_icmp .ne 5, 3) := by decide +kernel
theorem dX1_lookTo_28 : decode cX1_lookTo 28 = .ok (.iload_n 2, 1) := by decide +kernel
theorem dX1_lookTo_29 : decode cX1_lookTo 29 = .ok (.ireturn, 1) := by decide +kernel
theorem dX1_lookTo_30 : decode cX1_lookTo 30 = .ok (.iinc 2 1, 3) := by decide +kernel
theorem dX1_lookTo_33 : decode cX1_lookTo 33 = .ok (.goto (-27), 3) := by decide +kernel
theorem dX1_lookTo_36 : decode cX1_lookTo 36 = .ok (.iload_n 1, 1) := by decide +kernel
theorem dX1_lookTo_37 : decode cX1_lookTo 37 = .ok (.ireturn, 1) := by decide +kernel
set_option maxRecDepth 20000 in
theorem ggX1_depthApart_X1_lookAtDegrees : GoodIn wsX1_depthApart wsX1_lookAtDegrees := goodIn_r _ [5, 6, 7, 8, 9, 4, 10, 11, 12, 13, 14, 15, 16, 17, 18, 19, 20, 21, 22, 23, 24, 25, 26, 27, 28, 29, 30, 31, 32, 33, 34, 35, 36, 37, 38, 39, 40, 41, 42, 43, 44, 49, 50, 51, 52, 53, 54, 55, 56, 57] (by decide +kernel) (by decide +kernel)
set_option maxRecDepth 20000 in
theorem gX1_depthApart_X1_lookAtDegrees : GoodIn wsX1_depthApart (wsV RX1 22 RX1 yX1_lookAtDegrees wsX1_lookAtDegrees) := goodIn_app (goodIn_of _ (by decide +kernel)) ggX1_depthApart_X1_lookAtDegrees
set_option maxRecDepth 20000 in
theorem ggX1_depthApart_X1_kindOf : GoodIn wsX1_depthApart wsX1_kindOf := goodIn_r _ [32, 6, 49, 50, 51, 52] (by decide +kernel) (by decide +kernel)
set_option maxRecDepth 20000 in
theorem gX1_depthApart_X1_kindOf : GoodIn wsX1_depthApart (wsV RX1 32 RX1 yX1_kindOf wsX1_kindOf) := goodIn_app (goodIn_of _ (by decide +kernel)) ggX1_depthApart_X1_kindOf
set_option maxRecDepth 20000 in
theorem ggX1_depthApart_X1_lookDeeper : GoodIn wsX1_depthApart wsX1_lookDeeper := goodIn_r _ [48, 7, 8, 9, 4, 10, 11, 12, 13, 14, 6, 15, 16, 17, 18, 19, 20, 21, 22, 23, 24, 25, 26, 27, 28, 29, 30, 31, 32, 33, 34, 35, 36, 37, 38, 39, 40, 41, 42, 43, 44, 49, 50, 51, 52, 53, 54, 55, 56, 57] (by decide +kernel) (by decide +kernel)
set_option maxRecDepth 20000 in
theorem gX1_depthApart_X1_lookDeeper : GoodIn wsX1_depthApart (wsV RX1 29 RX1 yX1_lookDeeper wsX1_lookDeeper) := goodIn_app (goodIn_of _ (by decide +kernel)) ggX1_depthApart_X1_lookDeeper
theorem dX1_depthApart_0 : decode cX1_depthApart 0 = .ok (.aload_n 0, 1) := by decide +kernel
theorem dX1_depthApart_1 : decode cX1_depthApart 1 = .ok (.invokevirtual 22, 3) := by decide +kernel
theorem dX1_depthApart_4 : decode cX1_depthApart 4 = .ok (.iconst 0, 1) := by decide +kernel
theorem dX1_depthApart_5 : decode cX1_depthApart 5 = .ok (.istore_n 3, 1) := by decide +kernel
theorem dX1_depthApart_6 : decode cX1_depthApart 6 = .ok (.iload_n 3, 1) := by decide +kernel
theorem dX1_depthApart_7 : decode cX1_depthApart 7 = .ok (.bipush 8, 2) := by decide +kernel
theorem dX1_depthApart_9 : decode cX1_depthApart 9 = .ok (.if_icmp .ge 28, 3) := by decide +kernel
theorem dX1_depthApart_12 : decode cX1_depthApart 12 = .ok (.aload_n 0, 1) := by decide +kernel
theorem dX1_depthApart_13 : decode cX1_depthApart 13 = .ok (.iload_n 1, 1) := by decide +kernel
theorem dX1_depthApart_14 : decode cX1_depthApart 14 = .ok (.invokevirtual 32, 3) := by decide +kernel
theorem dX1_depthApart_17 : decode cX1_depthApart 17 = .ok (.aload_n 0, 1) := by decide +kernel
theorem dX1_depthApart_18 : decode cX1_depthApart 18 = .ok (.iload_n 2, 1) := by decide +kernel
theorem dX1_depthApart_19 : decode cX1_depthApart 19 = .ok (.invokevirtual 32, 3) := by decide +kernel
theorem dX1_depthApart_22 : decode cX1_depthApart 22 = .ok (.if_icmp .eq 5, 3) := by decide +kernel
theorem dX1_depthApart_25 : decode cX1_depthApart 25 = .ok (.iload_n 3, 1) := by decide +kernel
theorem dX1_depthApart_26 : decode cX1_depthApart 26 = .ok (.ireturn, 1) := by decide +kernel
theorem dX1_depthApart_27 : decode cX1_depthApart 27 = .ok (.aload_n 0, 1) := by decide +kernel
theorem dX1_depthApart_28 : decode cX1_depthApart 28 = .ok (.invokevirtual 29, 3) := by decide +kernel
theorem dX1_depthApart_31 : decode cX1_depthApart 31 = .ok (.iinc 3 1, 3) := by decide +kernel
theorem dX1_depthApart_34 : decode cX1_depthApart 34 = .ok (.goto (-28), 3) := by decide +kernel
theorem dX1_depthApart_37 : decode cX1_depthApart 37 = .ok (.bipush (-6), 2) := by decide +kernel
theorem dX1_depthApart_39 : decode cX1_depthApart 39 = .ok (.ireturn, 1) := by decide +kernel
set_option maxRecDepth 20000 in
theorem ggX1_lookAtDegrees_X1_split : GoodIn wsX1_lookAtDegrees wsX1_split := goodIn_r _ [6, 7, 8, 9, 10, 1, 11, 12, 13, 5, 14, 15, 16, 17, 18, 19, 20, 21, 22, 23, 24, 25, 26, 27, 28, 29, 30, 31, 32, 33, 34, 35, 36, 37, 38, 39, 40, 41, 42, 43, 44, 45, 46, 47, 48, 49] (by decide +kernel) (by decide +kernel)
set_option maxRecDepth 20000 in
theorem gX1_lookAtDegrees_X1_split : GoodIn wsX1_lookAtDegrees (wsV RX1 36 RX1 yX1_split wsX1_split) := goodIn_app (goodIn_of _ (by decide +kernel)) ggX1_lookAtDegrees_X1_split
theorem dX1_lookAtDegrees_0 : decode cX1_lookAtDegrees 0 = .ok (.iconst 0, 1) := by decide +kernel
theorem dX1_lookAtDegrees_1 : decode cX1_lookAtDegrees 1 = .ok (.istore_n 1, 1) := by decide +kernel
theorem dX1_lookAtDegrees_2 : decode cX1_lookAtDegrees 2 = .ok (.iload_n 1, 1) := by decide +kernel
theorem dX1_lookAtDegrees_3 : decode cX1_lookAtDegrees 3 = .ok (.aload_n 0, 1) := by decide +kernel
theorem dX1_lookAtDegrees_4 : decode cX1_lookAtDegrees 4 = .ok (.getfield 9, 3) := by decide +kernel
theorem dX1_lookAtDegrees_7 : decode cX1_lookAtDegrees 7 = .ok (.arraylength, 1) := by decide +kernel
theorem dX1_lookAtDegrees_8 : decode cX1_lookAtDegrees 8 = .ok (.if_icmp .ge 16, 3) := by decide +kernel
theorem dX1_lookAtDegrees_11 : decode cX1_lookAtDegrees 11 = .ok (.aload_n 0, 1) := by decide +kernel
theorem dX1_lookAtDegrees_12 : decode cX1_lookAtDegrees 12 = .ok (.getfield 9, 3) := by decide +kernel
theorem dX1_lookAtDegrees_15 : decode cX1_lookAtDegrees 15 = .ok (.iload_n 1, 1) := by decide +kernel
theorem dX1_lookAtDegrees_16 : decode cX1_lookAtDegrees 16 = .ok (.iconst 0, 1) := by decide +kernel
theorem dX1_lookAtDegrees_17 : decode cX1_lookAtDegrees 17 = .ok (.iastore, 1) := by decide +kernel
theorem dX1_lookAtDegrees_18 : decode cX1_lookAtDegrees 18 = .ok (.iinc 1 1, 3) := by decide +kernel
theorem dX1_lookAtDegrees_21 : decode cX1_lookAtDegrees 21 = .ok (.goto (-19), 3) := by decide +kernel
theorem dX1_lookAtDegrees_24 : decode cX1_lookAtDegrees 24 = .ok (.aload_n 0, 1) := by decide +kernel
theorem dX1_lookAtDegrees_25 : decode cX1_lookAtDegrees 25 = .ok (.iconst 1, 1) := by decide +kernel
theorem dX1_lookAtDegrees_26 : decode cX1_lookAtDegrees 26 = .ok (.invokevirtual 36, 3) := by decide +kernel
theorem dX1_lookAtDegrees_29 : decode cX1_lookAtDegrees 29 = .ok (.return_, 1) := by decide +kernel
set_option maxRecDepth 20000 in
theorem ggX1_lookDeeper_X1_split : GoodIn wsX1_lookDeeper wsX1_split := goodIn_r _ [5, 6, 7, 8, 9, 10, 11, 12, 13, 4, 14, 15, 16, 17, 18, 19, 20, 21, 22, 23, 24, 25, 26, 27, 28, 29, 30, 31, 32, 33, 34, 35, 36, 37, 38, 39, 40, 41, 42, 43, 44, 45, 46, 47, 48, 49] (by decide +kernel) (by decide +kernel)
set_option maxRecDepth 20000 in
theorem gX1_lookDeeper_X1_split : GoodIn wsX1_lookDeeper (wsV RX1 36 RX1 yX1_split wsX1_split) := goodIn_app (goodIn_of _ (by decide +kernel)) ggX1_lookDeeper_X1_split
theorem dX1_lookDeeper_0 : decode cX1_lookDeeper 0 = .ok (.aload_n 0, 1) := by decide +kernel
theorem dX1_lookDeeper_1 : decode cX1_lookDeeper 1 = .ok (.iconst 0, 1) := by decide +kernel
theorem dX1_lookDeeper_2 : decode cX1_lookDeeper 2 = .ok (.invokevirtual 36, 3) := by decide +kernel
theorem dX1_lookDeeper_5 : decode cX1_lookDeeper 5 = .ok (.return_, 1) := by decide +kernel
set_option maxRecDepth 20000 in
theorem ggX1_split_X1_leastLike : GoodIn wsX1_split wsX1_leastLike := goodIn_r _ [10, 2, 11, 12, 13, 14, 15, 16, 17, 18, 19, 9, 20, 21, 22, 23, 24, 5, 25, 26, 27, 28, 29, 30, 31, 32, 33, 34, 35, 36, 37, 38, 39, 40, 41, 42, 43, 44, 45] (by decide +kernel) (by decide +kernel)
set_option maxRecDepth 20000 in
theorem gX1_split_X1_leastLike : GoodIn wsX1_split (wsV RX1 45 RX1 yX1_leastLike wsX1_leastLike) := goodIn_app (goodIn_of _ (by decide +kernel)) ggX1_split_X1_leastLike
theorem dX1_split_0 : decode cX1_split 0 = .ok (.aload_n 0, 1) := by decide +kernel
theorem dX1_split_1 : decode cX1_split 1 = .ok (.iconst 0, 1) := by decide +kernel
theorem dX1_split_2 : decode cX1_split 2 = .ok (.putfield 25, 3) := by decide +kernel
theorem dX1_split_5 : decode cX1_split 5 = .ok (.iconst 0, 1) := by decide +kernel
theorem dX1_split_6 : decode cX1_split 6 = .ok (.istore_n 2, 1) := by decide +kernel
theorem dX1_split_7 : decode cX1_split 7 = .ok (.iload_n 2, 1) := by decide +kernel
theorem dX1_split_8 : decode cX1_split 8 = .ok (.aload_n 0, 1) := by decide +kernel
theorem dX1_split_9 : decode cX1_split 9 = .ok (.getfield 18, 3) := by decide +kernel
theorem dX1_split_12 : decode cX1_split 12 = .ok (.getfield 40, 3) := by decide +kernel
theorem dX1_split_15 : decode cX1_split 15 = .ok (.if_icmp .ge 69, 3) := by decide +kernel
theorem dX1_split_18 : decode cX1_split 18 = .ok (.iload_n 2, 1) := by decide +kernel
theorem dX1_split_19 : decode cX1_split 19 = .ok (.aload_n 0, 1) := by decide +kernel
theorem dX1_split_20 : decode cX1_split 20 = .ok (.getfield 15, 3) := by decide +kernel
theorem dX1_split_23 : decode cX1_split 23 = .ok (.arraylength, 1) := by decide +kernel
theorem dX1_split_24 : decode cX1_split 24 = .ok (.if_icmp .ge 60, 3) := by decide +kernel
theorem dX1_split_27 : decode cX1_split 27 = .ok (.aload_n 0, 1) := by decide +kernel
theorem dX1_split_28 : decode cX1_split 28 = .ok (.iload_n 2, 1) := by decide +kernel
theorem dX1_split_29 : decode cX1_split 29 = .ok (.iload_n 1, 1) := by decide +kernel
theorem dX1_split_30 : decode cX1_split 30 = .ok (.invokevirtual 45, 3) := by decide +kernel
theorem dX1_split_33 : decode cX1_split 33 = .ok (.istore_n 3, 1) := by decide +kernel
theorem dX1_split_34 : decode cX1_split 34 = .ok (.iload_n 3, 1) := by decide +kernel
theorem dX1_split_35 : decode cX1_split 35 = .ok (.iload_n 2, 1) := by decide +kernel
theorem dX1_split_36 : decode cX1_split 36 = .ok (.if_icmp .ge 22, 3) := by decide +kernel
theorem dX1_split_39 : decode cX1_split 39 = .ok (.iload_n 3, 1) := by decide +kernel
theorem dX1_split_40 : decode cX1_split 40 = .ok (.ifCond .lt 18, 3) := by decide +kernel
theorem dX1_split_43 : decode cX1_split 43 = .ok (.aload_n 0, 1) := by decide +kernel
theorem dX1_split_44 : decode cX1_split 44 = .ok (.getfield 15, 3) := by decide +kernel
theorem dX1_split_47 : decode cX1_split 47 = .ok (.iload_n 2, 1) := by decide +kernel
theorem dX1_split_48 : decode cX1_split 48 = .ok (.aload_n 0, 1) := by decide +kernel
theorem dX1_split_49 : decode cX1_split 49 = .ok (.getfield 15, 3) := by decide +kernel
theorem dX1_split_52 : decode cX1_split 52 = .ok (.iload_n 3, 1) := by decide +kernel
theorem dX1_split_53 : decode cX1_split 53 = .ok (.iaload, 1) := by decide +kernel
theorem dX1_split_54 : decode cX1_split 54 = .ok (.iastore, 1) := by decide +kernel
theorem dX1_split_55 : decode cX1_split 55 = .ok (.goto 23, 3) := by decide +kernel
theorem dX1_split_58 : decode cX1_split 58 = .ok (.aload_n 0, 1) := by decide +kernel
theorem dX1_split_59 : decode cX1_split 59 = .ok (.getfield 15, 3) := by decide +kernel
theorem dX1_split_62 : decode cX1_split 62 = .ok (.iload_n 2, 1) := by decide +kernel
theorem dX1_split_63 : decode cX1_split 63 = .ok (.aload_n 0, 1) := by decide +kernel
theorem dX1_split_64 : decode cX1_split 64 = .ok (.getfield 25, 3) := by decide +kernel
theorem dX1_split_67 : decode cX1_split 67 = .ok (.iastore, 1) := by decide +kernel
theorem dX1_split_68 : decode cX1_split 68 = .ok (.aload_n 0, 1) := by decide +kernel
theorem dX1_split_69 : decode cX1_split 69 = .ok (.dup, 1) := by decide +kernel
theorem dX1_split_70 : decode cX1_split 70 = .ok (.getfield 25, 3) := by decide +kernel
theorem dX1_split_73 : decode cX1_split 73 = .ok (.iconst 1, 1) := by decide +kernel
theorem dX1_split_74 : decode cX1_split 74 = .ok (.iadd, 1) := by decide +kernel
theorem dX1_split_75 : decode cX1_split 75 = .ok (.putfield 25, 3) := by decide +kernel
theorem dX1_split_78 : decode cX1_split 78 = .ok (.iinc 2 1, 3) := by decide +kernel
theorem dX1_split_81 : decode cX1_split 81 = .ok (.goto (-74), 3) := by decide +kernel
theorem dX1_split_84 : decode cX1_split 84 = .ok (.iconst 0, 1) := by decide +kernel
theorem dX1_split_85 : decode cX1_split 85 = .ok (.istore_n 2, 1) := by decide +kernel
theorem dX1_split_86 : decode cX1_split 86 = .ok (.iload_n 2, 1) := by decide +kernel
theorem dX1_split_87 : decode cX1_split 87 = .ok (.aload_n 0, 1) := by decide +kernel
theorem dX1_split_88 : decode cX1_split 88 = .ok (.getfield 9, 3) := by decide +kernel
theorem dX1_split_91 : decode cX1_split 91 = .ok (.arraylength, 1) := by decide +kernel
theorem dX1_split_92 : decode cX1_split 92 = .ok (.if_icmp .ge 30, 3) := by decide +kernel
theorem dX1_split_95 : decode cX1_split 95 = .ok (.iload_n 2, 1) := by decide +kernel
theorem dX1_split_96 : decode cX1_split 96 = .ok (.aload_n 0, 1) := by decide +kernel
theorem dX1_split_97 : decode cX1_split 97 = .ok (.getfield 15, 3) := by decide +kernel
theorem dX1_split_100 : decode cX1_split 100 = .ok (.arraylength, 1) := by decide +kernel
theorem dX1_split_101 : decode cX1_split 101 = .ok (.if_icmp .ge 21, 3) := by decide +kernel
theorem dX1_split_104 : decode cX1_split 104 = .ok (.aload_n 0, 1) := by decide +kernel
theorem dX1_split_105 : decode cX1_split 105 = .ok (.getfield 9, 3) := by decide +kernel
theorem dX1_split_108 : decode cX1_split 108 = .ok (.iload_n 2, 1) := by decide +kernel
theorem dX1_split_109 : decode cX1_split 109 = .ok (.aload_n 0, 1) := by decide +kernel
theorem dX1_split_110 : decode cX1_split 110 = .ok (.getfield 15, 3) := by decide +kernel
theorem dX1_split_113 : decode cX1_split 113 = .ok (.iload_n 2, 1) := by decide +kernel
theorem dX1_split_114 : decode cX1_split 114 = .ok (.iaload, 1) := by decide +kernel
theorem dX1_split_115 : decode cX1_split 115 = .ok (.iastore, 1) := by decide +kernel
theorem dX1_split_116 : decode cX1_split 116 = .ok (.iinc 2 1, 3) := by decide +kernel
theorem dX1_split_119 : decode cX1_split 119 = .ok (.goto (-33), 3) := by decide +kernel
theorem dX1_split_122 : decode cX1_split 122 = .ok (.return_, 1) := by decide +kernel
set_option maxRecDepth 20000 in
theorem ggX1_leastLike_X2_degreeOf : GoodIn wsX1_leastLike wsX2_degreeOf := goodIn_r _ [6, 7, 34, 35, 36, 37, 38] (by decide +kernel) (by decide +kernel)
set_option maxRecDepth 20000 in
theorem gX1_leastLike_X2_degreeOf : GoodIn wsX1_leastLike (wsV RX1 49 RX2 yX2_degreeOf wsX2_degreeOf) := goodIn_app (goodIn_of _ (by decide +kernel)) ggX1_leastLike_X2_degreeOf
set_option maxRecDepth 20000 in
theorem ggX1_leastLike_X1_staysAlike : GoodIn wsX1_leastLike wsX1_staysAlike := goodIn_r _ [12, 1, 13, 14, 15, 11, 16, 17, 2, 3, 4, 5, 6, 7, 18, 19, 20, 21, 22, 23, 24, 25, 26, 27, 28, 29, 30, 31, 32, 33, 34, 35, 36, 37, 38] (by decide +kernel) (by decide +kernel)
set_option maxRecDepth 20000 in
theorem gX1_leastLike_X1_staysAlike : GoodIn wsX1_leastLike (wsV RX1 52 RX1 yX1_staysAlike wsX1_staysAlike) := goodIn_app (goodIn_of _ (by decide +kernel)) ggX1_leastLike_X1_staysAlike
theorem dX1_leastLike_0 : decode cX1_leastLike 0 = .ok (.iconst 0, 1) := by decide +kernel
theorem dX1_leastLike_1 : decode cX1_leastLike 1 = .ok (.istore_n 3, 1) := by decide +kernel
theorem dX1_leastLike_2 : decode cX1_leastLike 2 = .ok (.iload_n 3, 1) := by decide +kernel
theorem dX1_leastLike_3 : decode cX1_leastLike 3 = .ok (.iload_n 1, 1) := by decide +kernel
theorem dX1_leastLike_4 : decode cX1_leastLike 4 = .ok (.if_icmp .ge 46, 3) := by decide +kernel
theorem dX1_leastLike_7 : decode cX1_leastLike 7 = .ok (.iload_n 2, 1) := by decide +kernel
theorem dX1_leastLike_8 : decode cX1_leastLike 8 = .ok (.ifCond .eq 25, 3) := by decide +kernel
theorem dX1_leastLike_11 : decode cX1_leastLike 11 = .ok (.aload_n 0, 1) := by decide +kernel
theorem dX1_leastLike_12 : decode cX1_leastLike 12 = .ok (.getfield 18, 3) := by decide +kernel
theorem dX1_leastLike_15 : decode cX1_leastLike 15 = .ok (.iload_n 3, 1) := by decide +kernel
theorem dX1_leastLike_16 : decode cX1_leastLike 16 = .ok (.invokevirtual 49, 3) := by decide +kernel
theorem dX1_leastLike_19 : decode cX1_leastLike 19 = .ok (.aload_n 0, 1) := by decide +kernel
theorem dX1_leastLike_20 : decode cX1_leastLike 20 = .ok (.getfield 18, 3) := by decide +kernel
theorem dX1_leastLike_23 : decode cX1_leastLike 23 = .ok (.iload_n 1, 1) := by decide +kernel
theorem dX1_leastLike_24 : decode cX1_leastLike 24 = .ok (.invokevirtual 49, 3) := by decide +kernel
theorem dX1_leastLike_27 : decode cX1_leastLike 27 = .ok (.if_icmp .ne 17, 3) := by decide +kernel
theorem dX1_leastLike_30 : decode cX1_leastLike 30 = .ok (.goto 12, 3) := by decide +kernel
theorem dX1_leastLike_33 : decode cX1_leastLike 33 = .ok (.aload_n 0, 1) := by decide +kernel
theorem dX1_leastLike_34 : decode cX1_leastLike 34 = .ok (.iload_n 3, 1) := by decide +kernel
theorem dX1_leastLike_35 : decode cX1_leastLike 35 = .ok (.iload_n 1, 1) := by decide +kernel
theorem dX1_leastLike_36 : decode cX1_leastLike 36 = .ok (.invokevirtual 52, 3) := by decide +kernel
theorem dX1_leastLike_39 : decode cX1_leastLike 39 = .ok (.ifCond .eq 5, 3) := by decide +kernel
theorem dX1_leastLike_42 : decode cX1_leastLike 42 = .ok (.iload_n 3, 1) := by decide +kernel
theorem dX1_leastLike_43 : decode cX1_leastLike 43 = .ok (.ireturn, 1) := by decide +kernel
theorem dX1_leastLike_44 : decode cX1_leastLike 44 = .ok (.iinc 3 1, 3) := by decide +kernel
theorem dX1_leastLike_47 : decode cX1_leastLike 47 = .ok (.goto (-45), 3) := by decide +kernel
theorem dX1_leastLike_50 : decode cX1_leastLike 50 = .ok (.iload_n 1, 1) := by decide +kernel
theorem dX1_leastLike_51 : decode cX1_leastLike 51 = .ok (.ireturn, 1) := by decide +kernel
set_option maxRecDepth 20000 in
theorem ggX1_staysAlike_X1_kindOf : GoodIn wsX1_staysAlike wsX1_kindOf := goodIn_r _ [6, 7, 26, 27, 28, 29] (by decide +kernel) (by decide +kernel)
set_option maxRecDepth 20000 in
theorem gX1_staysAlike_X1_kindOf : GoodIn wsX1_staysAlike (wsV RX1 32 RX1 yX1_kindOf wsX1_kindOf) := goodIn_app (goodIn_of _ (by decide +kernel)) ggX1_staysAlike_X1_kindOf
set_option maxRecDepth 20000 in
theorem ggX1_staysAlike_X2_degreeOf : GoodIn wsX1_staysAlike wsX2_degreeOf := goodIn_r _ [12, 13, 30, 31, 32, 33, 34] (by decide +kernel) (by decide +kernel)
set_option maxRecDepth 20000 in
theorem gX1_staysAlike_X2_degreeOf : GoodIn wsX1_staysAlike (wsV RX1 49 RX2 yX2_degreeOf wsX2_degreeOf) := goodIn_app (goodIn_of _ (by decide +kernel)) ggX1_staysAlike_X2_degreeOf
set_option maxRecDepth 20000 in
theorem ggX1_staysAlike_X5_placeOf : GoodIn wsX1_staysAlike wsX5_placeOf := goodIn_r _ [16] (by decide +kernel) (by decide +kernel)
set_option maxRecDepth 20000 in
theorem gX1_staysAlike_X5_placeOf_n56 : GoodIn wsX1_staysAlike (wsX5_placeOf) := ggX1_staysAlike_X5_placeOf
set_option maxRecDepth 20000 in
theorem ggX1_staysAlike_X2_endOf : GoodIn wsX1_staysAlike wsX2_endOf := goodIn_r _ [20, 21, 30, 31, 32, 33, 34] (by decide +kernel) (by decide +kernel)
set_option maxRecDepth 20000 in
theorem gX1_staysAlike_X2_endOf : GoodIn wsX1_staysAlike (wsV RX1 60 RX2 yX2_endOf wsX2_endOf) := goodIn_app (goodIn_of _ (by decide +kernel)) ggX1_staysAlike_X2_endOf
set_option maxRecDepth 20000 in
theorem ggX1_staysAlike_X5_doorOf : GoodIn wsX1_staysAlike wsX5_doorOf := goodIn_r _ [23] (by decide +kernel) (by decide +kernel)
set_option maxRecDepth 20000 in
theorem gX1_staysAlike_X5_doorOf_n63 : GoodIn wsX1_staysAlike (wsX5_doorOf) := ggX1_staysAlike_X5_doorOf
set_option maxRecDepth 20000 in
theorem ggX1_staysAlike_X5_postOf : GoodIn wsX1_staysAlike wsX5_postOf := goodIn_r _ [25] (by decide +kernel) (by decide +kernel)
set_option maxRecDepth 20000 in
theorem gX1_staysAlike_X5_postOf_n66 : GoodIn wsX1_staysAlike (wsX5_postOf) := ggX1_staysAlike_X5_postOf
theorem dX1_staysAlike_0 : decode cX1_staysAlike 0 = .ok (.aload_n 0, 1) := by decide +kernel
theorem dX1_staysAlike_1 : decode cX1_staysAlike 1 = .ok (.iload_n 1, 1) := by decide +kernel
theorem dX1_staysAlike_2 : decode cX1_staysAlike 2 = .ok (.invokevirtual 32, 3) := by decide +kernel
theorem dX1_staysAlike_5 : decode cX1_staysAlike 5 = .ok (.aload_n 0, 1) := by decide +kernel
theorem dX1_staysAlike_6 : decode cX1_staysAlike 6 = .ok (.iload_n 2, 1) := by decide +kernel
theorem dX1_staysAlike_7 : decode cX1_staysAlike 7 = .ok (.invokevirtual 32, 3) := by decide +kernel
theorem dX1_staysAlike_10 : decode cX1_staysAlike 10 = .ok (.if_icmp .eq 5, 3) := by decide +kernel
theorem dX1_staysAlike_13 : decode cX1_staysAlike 13 = .ok (.iconst 0, 1) := by decide +kernel
theorem dX1_staysAlike_14 : decode cX1_staysAlike 14 = .ok (.ireturn, 1) := by decide +kernel
theorem dX1_staysAlike_15 : decode cX1_staysAlike 15 = .ok (.iconst 0, 1) := by decide +kernel
theorem dX1_staysAlike_16 : decode cX1_staysAlike 16 = .ok (.istore_n 3, 1) := by decide +kernel
theorem dX1_staysAlike_17 : decode cX1_staysAlike 17 = .ok (.iload_n 3, 1) := by decide +kernel
theorem dX1_staysAlike_18 : decode cX1_staysAlike 18 = .ok (.aload_n 0, 1) := by decide +kernel
theorem dX1_staysAlike_19 : decode cX1_staysAlike 19 = .ok (.getfield 18, 3) := by decide +kernel
theorem dX1_staysAlike_22 : decode cX1_staysAlike 22 = .ok (.iload_n 1, 1) := by decide +kernel
theorem dX1_staysAlike_23 : decode cX1_staysAlike 23 = .ok (.invokevirtual 49, 3) := by decide +kernel
theorem dX1_staysAlike_26 : decode cX1_staysAlike 26 = .ok (.if_icmp .ge 73, 3) := by decide +kernel
theorem dX1_staysAlike_29 : decode cX1_staysAlike 29 = .ok (.aload_n 0, 1) := by decide +kernel
theorem dX1_staysAlike_30 : decode cX1_staysAlike 30 = .ok (.getfield 18, 3) := by decide +kernel
theorem dX1_staysAlike_33 : decode cX1_staysAlike 33 = .ok (.iload_n 1, 1) := by decide +kernel
theorem dX1_staysAlike_34 : decode cX1_staysAlike 34 = .ok (.iload_n 3, 1) := by decide +kernel
theorem dX1_staysAlike_35 : decode cX1_staysAlike 35 = .ok (.invokestatic 56, 3) := by decide +kernel
theorem dX1_staysAlike_38 : decode cX1_staysAlike 38 = .ok (.invokevirtual 60, 3) := by decide +kernel
theorem dX1_staysAlike_41 : decode cX1_staysAlike 41 = .ok (.istore 4, 2) := by decide +kernel
theorem dX1_staysAlike_43 : decode cX1_staysAlike 43 = .ok (.aload_n 0, 1) := by decide +kernel
theorem dX1_staysAlike_44 : decode cX1_staysAlike 44 = .ok (.getfield 18, 3) := by decide +kernel
theorem dX1_staysAlike_47 : decode cX1_staysAlike 47 = .ok (.iload_n 2, 1) := by decide +kernel
theorem dX1_staysAlike_48 : decode cX1_staysAlike 48 = .ok (.iload_n 3, 1) := by decide +kernel
theorem dX1_staysAlike_49 : decode cX1_staysAlike 49 = .ok (.invokestatic 56, 3) := by decide +kernel
theorem dX1_staysAlike_52 : decode cX1_staysAlike 52 = .ok (.invokevirtual 60, 3) := by decide +kernel
theorem dX1_staysAlike_55 : decode cX1_staysAlike 55 = .ok (.istore 5, 2) := by decide +kernel
theorem dX1_staysAlike_57 : decode cX1_staysAlike 57 = .ok (.iload 4, 2) := by decide +kernel
theorem dX1_staysAlike_59 : decode cX1_staysAlike 59 = .ok (.invokestatic 63, 3) := by decide +kernel
theorem dX1_staysAlike_62 : decode cX1_staysAlike 62 = .ok (.iload 5, 2) := by decide +kernel
theorem dX1_staysAlike_64 : decode cX1_staysAlike 64 = .ok (.invokestatic 63, 3) := by decide +kernel
theorem dX1_staysAlike_67 : decode cX1_staysAlike 67 = .ok (.if_icmp .ne 24, 3) := by decide +kernel
theorem dX1_staysAlike_70 : decode cX1_staysAlike 70 = .ok (.aload_n 0, 1) := by decide +kernel
theorem dX1_staysAlike_71 : decode cX1_staysAlike 71 = .ok (.iload 4, 2) := by decide +kernel
theorem dX1_staysAlike_73 : decode cX1_staysAlike 73 = .ok (.invokestatic 66, 3) := by decide +kernel
theorem dX1_staysAlike_76 : decode cX1_staysAlike 76 = .ok (.invokevirtual 32, 3) := by decide +kernel
theorem dX1_staysAlike_79 : decode cX1_staysAlike 79 = .ok (.aload_n 0, 1) := by decide +kernel
theorem dX1_staysAlike_80 : decode cX1_staysAlike 80 = .ok (.iload 5, 2) := by decide +kernel
theorem dX1_staysAlike_82 : decode cX1_staysAlike 82 = .ok (.invokestatic 66, 3) := by decide +kernel
theorem dX1_staysAlike_85 : decode cX1_staysAlike 85 = .ok (.invokevirtual 32, 3) := by decide +kernel
theorem dX1_staysAlike_88 : decode cX1_staysAlike 88 = .ok (.if_icmp .eq 5, 3) := by decide +kernel
theorem dX1_staysAlike_91 : decode cX1_staysAlike 91 = .ok (.iconst 0, 1) := by decide +kernel
theorem dX1_staysAlike_92 : decode cX1_staysAlike 92 = .ok (.ireturn, 1) := by decide +kernel
theorem dX1_staysAlike_93 : decode cX1_staysAlike 93 = .ok (.iinc 3 1, 3) := by decide +kernel
theorem dX1_staysAlike_96 : decode cX1_staysAlike 96 = .ok (.goto (-79), 3) := by decide +kernel
theorem dX1_staysAlike_99 : decode cX1_staysAlike 99 = .ok (.iconst 1, 1) := by decide +kernel
theorem dX1_staysAlike_100 : decode cX1_staysAlike 100 = .ok (.ireturn, 1) := by decide +kernel
set_option maxRecDepth 20000 in
theorem ggX2_init_X2_begin : GoodIn wsX2_init wsX2_begin := goodIn_r _ [13, 14, 15, 5, 8, 16, 17, 18, 12, 19, 7, 20, 21, 22, 23, 24] (by decide +kernel) (by decide +kernel)
set_option maxRecDepth 20000 in
theorem gX2_init_X2_begin : GoodIn wsX2_init (wsV RX2 22 RX2 yX2_begin wsX2_begin) := goodIn_app (goodIn_of _ (by decide +kernel)) ggX2_init_X2_begin
theorem dX2_init_0 : decode cX2_init 0 = .ok (.aload_n 0, 1) := by decide +kernel
theorem dX2_init_1 : decode cX2_init 1 = .ok (.invokespecial 3, 3) := by decide +kernel
theorem dX2_init_4 : decode cX2_init 4 = .ok (.aload_n 0, 1) := by decide +kernel
theorem dX2_init_5 : decode cX2_init 5 = .ok (.bipush 32, 2) := by decide +kernel
theorem dX2_init_7 : decode cX2_init 7 = .ok (.newarray .int, 2) := by decide +kernel
theorem dX2_init_9 : decode cX2_init 9 = .ok (.putfield 9, 3) := by decide +kernel
theorem dX2_init_12 : decode cX2_init 12 = .ok (.aload_n 0, 1) := by decide +kernel
theorem dX2_init_13 : decode cX2_init 13 = .ok (.bipush 32, 2) := by decide +kernel
theorem dX2_init_15 : decode cX2_init 15 = .ok (.newarray .boolean, 2) := by decide +kernel
theorem dX2_init_17 : decode cX2_init 17 = .ok (.putfield 15, 3) := by decide +kernel
theorem dX2_init_20 : decode cX2_init 20 = .ok (.aload_n 0, 1) := by decide +kernel
theorem dX2_init_21 : decode cX2_init 21 = .ok (.bipush 8, 2) := by decide +kernel
theorem dX2_init_23 : decode cX2_init 23 = .ok (.newarray .int, 2) := by decide +kernel
theorem dX2_init_25 : decode cX2_init 25 = .ok (.putfield 19, 3) := by decide +kernel
theorem dX2_init_28 : decode cX2_init 28 = .ok (.aload_n 0, 1) := by decide +kernel
theorem dX2_init_29 : decode cX2_init 29 = .ok (.iconst 3, 1) := by decide +kernel
theorem dX2_init_30 : decode cX2_init 30 = .ok (.invokevirtual 22, 3) := by decide +kernel
theorem dX2_init_33 : decode cX2_init 33 = .ok (.return_, 1) := by decide +kernel
set_option maxRecDepth 20000 in
theorem ggX2_begin_X2_setBad : GoodIn wsX2_begin wsX2_setBad := goodIn_r _ [9, 10, 11, 12, 13, 14, 15] (by decide +kernel) (by decide +kernel)
set_option maxRecDepth 20000 in
theorem gX2_begin_X2_setBad : GoodIn wsX2_begin (wsV RX2 33 RX2 yX2_setBad wsX2_setBad) := goodIn_app (goodIn_of _ (by decide +kernel)) ggX2_begin_X2_setBad
theorem dX2_begin_0 : decode cX2_begin 0 = .ok (.aload_n 0, 1) := by decide +kernel
theorem dX2_begin_1 : decode cX2_begin 1 = .ok (.iload_n 1, 1) := by decide +kernel
theorem dX2_begin_2 : decode cX2_begin 2 = .ok (.putfield 26, 3) := by decide +kernel
theorem dX2_begin_5 : decode cX2_begin 5 = .ok (.aload_n 0, 1) := by decide +kernel
theorem dX2_begin_6 : decode cX2_begin 6 = .ok (.iconst 0, 1) := by decide +kernel
theorem dX2_begin_7 : decode cX2_begin 7 = .ok (.putfield 30, 3) := by decide +kernel
theorem dX2_begin_10 : decode cX2_begin 10 = .ok (.iconst 0, 1) := by decide +kernel
theorem dX2_begin_11 : decode cX2_begin 11 = .ok (.istore_n 2, 1) := by decide +kernel
theorem dX2_begin_12 : decode cX2_begin 12 = .ok (.iload_n 2, 1) := by decide +kernel
theorem dX2_begin_13 : decode cX2_begin 13 = .ok (.aload_n 0, 1) := by decide +kernel
theorem dX2_begin_14 : decode cX2_begin 14 = .ok (.getfield 9, 3) := by decide +kernel
theorem dX2_begin_17 : decode cX2_begin 17 = .ok (.arraylength, 1) := by decide +kernel
theorem dX2_begin_18 : decode cX2_begin 18 = .ok (.if_icmp .ge 22, 3) := by decide +kernel
theorem dX2_begin_21 : decode cX2_begin 21 = .ok (.aload_n 0, 1) := by decide +kernel
theorem dX2_begin_22 : decode cX2_begin 22 = .ok (.getfield 9, 3) := by decide +kernel
theorem dX2_begin_25 : decode cX2_begin 25 = .ok (.iload_n 2, 1) := by decide +kernel
theorem dX2_begin_26 : decode cX2_begin 26 = .ok (.iconst (-1), 1) := by decide +kernel
theorem dX2_begin_27 : decode cX2_begin 27 = .ok (.iastore, 1) := by decide +kernel
theorem dX2_begin_28 : decode cX2_begin 28 = .ok (.aload_n 0, 1) := by decide +kernel
theorem dX2_begin_29 : decode cX2_begin 29 = .ok (.iload_n 2, 1) := by decide +kernel
theorem dX2_begin_30 : decode cX2_begin 30 = .ok (.iconst 0, 1) := by decide +kernel
theorem dX2_begin_31 : decode cX2_begin 31 = .ok (.invokevirtual 33, 3) := by decide +kernel
theorem dX2_begin_34 : decode cX2_begin 34 = .ok (.iinc 2 1, 3) := by decide +kernel
theorem dX2_begin_37 : decode cX2_begin 37 = .ok (.goto (-25), 3) := by decide +kernel
theorem dX2_begin_40 : decode cX2_begin 40 = .ok (.iconst 0, 1) := by decide +kernel
theorem dX2_begin_41 : decode cX2_begin 41 = .ok (.istore_n 2, 1) := by decide +kernel
theorem dX2_begin_42 : decode cX2_begin 42 = .ok (.iload_n 2, 1) := by decide +kernel
theorem dX2_begin_43 : decode cX2_begin 43 = .ok (.aload_n 0, 1) := by decide +kernel
theorem dX2_begin_44 : decode cX2_begin 44 = .ok (.getfield 19, 3) := by decide +kernel
theorem dX2_begin_47 : decode cX2_begin 47 = .ok (.arraylength, 1) := by decide +kernel
theorem dX2_begin_48 : decode cX2_begin 48 = .ok (.if_icmp .ge 16, 3) := by decide +kernel
theorem dX2_begin_51 : decode cX2_begin 51 = .ok (.aload_n 0, 1) := by decide +kernel
theorem dX2_begin_52 : decode cX2_begin 52 = .ok (.getfield 19, 3) := by decide +kernel
theorem dX2_begin_55 : decode cX2_begin 55 = .ok (.iload_n 2, 1) := by decide +kernel
theorem dX2_begin_56 : decode cX2_begin 56 = .ok (.iconst 0, 1) := by decide +kernel
theorem dX2_begin_57 : decode cX2_begin 57 = .ok (.iastore, 1) := by decide +kernel
theorem dX2_begin_58 : decode cX2_begin 58 = .ok (.iinc 2 1, 3) := by decide +kernel
theorem dX2_begin_61 : decode cX2_begin 61 = .ok (.goto (-19), 3) := by decide +kernel
theorem dX2_begin_64 : decode cX2_begin 64 = .ok (.return_, 1) := by decide +kernel
theorem dX2_hasPost_0 : decode cX2_hasPost 0 = .ok (.iload_n 1, 1) := by decide +kernel
theorem dX2_hasPost_1 : decode cX2_hasPost 1 = .ok (.ifCond .lt 15, 3) := by decide +kernel
theorem dX2_hasPost_4 : decode cX2_hasPost 4 = .ok (.iload_n 1, 1) := by decide +kernel
theorem dX2_hasPost_5 : decode cX2_hasPost 5 = .ok (.aload_n 0, 1) := by decide +kernel
theorem dX2_hasPost_6 : decode cX2_hasPost 6 = .ok (.getfield 26, 3) := by decide +kernel
theorem dX2_hasPost_9 : decode cX2_hasPost 9 = .ok (.if_icmp .ge 7, 3) := by decide +kernel
theorem dX2_hasPost_12 : decode cX2_hasPost 12 = .ok (.iconst 1, 1) := by decide +kernel
theorem dX2_hasPost_13 : decode cX2_hasPost 13 = .ok (.goto 4, 3) := by decide +kernel
theorem dX2_hasPost_16 : decode cX2_hasPost 16 = .ok (.iconst 0, 1) := by decide +kernel
theorem dX2_hasPost_17 : decode cX2_hasPost 17 = .ok (.ireturn, 1) := by decide +kernel
set_option maxRecDepth 20000 in
theorem ggX2_hasPlace_X2_hasPost : GoodIn wsX2_hasPlace wsX2_hasPost := goodIn_r _ [5, 6, 7, 8, 9, 10, 11] (by decide +kernel) (by decide +kernel)
set_option maxRecDepth 20000 in
theorem gX2_hasPlace_X2_hasPost : GoodIn wsX2_hasPlace (wsV RX2 37 RX2 yX2_hasPost wsX2_hasPost) := goodIn_app (goodIn_of _ (by decide +kernel)) ggX2_hasPlace_X2_hasPost
theorem dX2_hasPlace_0 : decode cX2_hasPlace 0 = .ok (.aload_n 0, 1) := by decide +kernel
theorem dX2_hasPlace_1 : decode cX2_hasPlace 1 = .ok (.iload_n 1, 1) := by decide +kernel
theorem dX2_hasPlace_2 : decode cX2_hasPlace 2 = .ok (.invokevirtual 37, 3) := by decide +kernel
theorem dX2_hasPlace_5 : decode cX2_hasPlace 5 = .ok (.ifCond .eq 16, 3) := by decide +kernel
theorem dX2_hasPlace_8 : decode cX2_hasPlace 8 = .ok (.iload_n 2, 1) := by decide +kernel
theorem dX2_hasPlace_9 : decode cX2_hasPlace 9 = .ok (.ifCond .lt 12, 3) := by decide +kernel
theorem dX2_hasPlace_12 : decode cX2_hasPlace 12 = .ok (.iload_n 2, 1) := by decide +kernel
theorem dX2_hasPlace_13 : decode cX2_hasPlace 13 = .ok (.iconst 4, 1) := by decide +kernel
theorem dX2_hasPlace_14 : decode cX2_hasPlace 14 = .ok (.if_icmp .ge 7, 3) := by decide +kernel
theorem dX2_hasPlace_17 : decode cX2_hasPlace 17 = .ok (.iconst 1, 1) := by decide +kernel
theorem dX2_hasPlace_18 : decode cX2_hasPlace 18 = .ok (.goto 4, 3) := by decide +kernel
theorem dX2_hasPlace_21 : decode cX2_hasPlace 21 = .ok (.iconst 0, 1) := by decide +kernel
theorem dX2_hasPlace_22 : decode cX2_hasPlace 22 = .ok (.ireturn, 1) := by decide +kernel
theorem dX2_allPosts_0 : decode cX2_allPosts 0 = .ok (.iconst 1, 1) := by decide +kernel
theorem dX2_allPosts_1 : decode cX2_allPosts 1 = .ok (.aload_n 0, 1) := by decide +kernel
theorem dX2_allPosts_2 : decode cX2_allPosts 2 = .ok (.getfield 26, 3) := by decide +kernel
theorem dX2_allPosts_5 : decode cX2_allPosts 5 = .ok (.ishl, 1) := by decide +kernel
theorem dX2_allPosts_6 : decode cX2_allPosts 6 = .ok (.iconst 1, 1) := by decide +kernel
theorem dX2_allPosts_7 : decode cX2_allPosts 7 = .ok (.isub, 1) := by decide +kernel
theorem dX2_allPosts_8 : decode cX2_allPosts 8 = .ok (.ireturn, 1) := by decide +kernel
theorem dX2_degreeOf_0 : decode cX2_degreeOf 0 = .ok (.iload_n 1, 1) := by decide +kernel
theorem dX2_degreeOf_1 : decode cX2_degreeOf 1 = .ok (.ifCond .lt 21, 3) := by decide +kernel
theorem dX2_degreeOf_4 : decode cX2_degreeOf 4 = .ok (.iload_n 1, 1) := by decide +kernel
theorem dX2_degreeOf_5 : decode cX2_degreeOf 5 = .ok (.aload_n 0, 1) := by decide +kernel
theorem dX2_degreeOf_6 : decode cX2_degreeOf 6 = .ok (.getfield 19, 3) := by decide +kernel
theorem dX2_degreeOf_9 : decode cX2_degreeOf 9 = .ok (.arraylength, 1) := by decide +kernel
theorem dX2_degreeOf_10 : decode cX2_degreeOf 10 = .ok (.if_icmp .ge 12, 3) := by decide +kernel
theorem dX2_degreeOf_13 : decode cX2_degreeOf 13 = .ok (.aload_n 0, 1) := by decide +kernel
theorem dX2_degreeOf_14 : decode cX2_degreeOf 14 = .ok (.getfield 19, 3) := by decide +kernel
theorem dX2_degreeOf_17 : decode cX2_degreeOf 17 = .ok (.iload_n 1, 1) := by decide +kernel
theorem dX2_degreeOf_18 : decode cX2_degreeOf 18 = .ok (.iaload, 1) := by decide +kernel
theorem dX2_degreeOf_19 : decode cX2_degreeOf 19 = .ok (.goto 4, 3) := by decide +kernel
theorem dX2_degreeOf_22 : decode cX2_degreeOf 22 = .ok (.iconst 0, 1) := by decide +kernel
theorem dX2_degreeOf_23 : decode cX2_degreeOf 23 = .ok (.ireturn, 1) := by decide +kernel
theorem dX2_endOf_0 : decode cX2_endOf 0 = .ok (.iload_n 1, 1) := by decide +kernel
theorem dX2_endOf_1 : decode cX2_endOf 1 = .ok (.ifCond .lt 21, 3) := by decide +kernel
theorem dX2_endOf_4 : decode cX2_endOf 4 = .ok (.iload_n 1, 1) := by decide +kernel
theorem dX2_endOf_5 : decode cX2_endOf 5 = .ok (.aload_n 0, 1) := by decide +kernel
theorem dX2_endOf_6 : decode cX2_endOf 6 = .ok (.getfield 9, 3) := by decide +kernel
theorem dX2_endOf_9 : decode cX2_endOf 9 = .ok (.arraylength, 1) := by decide +kernel
theorem dX2_endOf_10 : decode cX2_endOf 10 = .ok (.if_icmp .ge 12, 3) := by decide +kernel
theorem dX2_endOf_13 : decode cX2_endOf 13 = .ok (.aload_n 0, 1) := by decide +kernel
theorem dX2_endOf_14 : decode cX2_endOf 14 = .ok (.getfield 9, 3) := by decide +kernel
theorem dX2_endOf_17 : decode cX2_endOf 17 = .ok (.iload_n 1, 1) := by decide +kernel
theorem dX2_endOf_18 : decode cX2_endOf 18 = .ok (.iaload, 1) := by decide +kernel
theorem dX2_endOf_19 : decode cX2_endOf 19 = .ok (.goto 4, 3) := by decide +kernel
theorem dX2_endOf_22 : decode cX2_endOf 22 = .ok (.iconst (-1), 1) := by decide +kernel
theorem dX2_endOf_23 : decode cX2_endOf 23 = .ok (.ireturn, 1) := by decide +kernel
theorem dX2_isBad_0 : decode cX2_isBad 0 = .ok (.iload_n 1, 1) := by decide +kernel
theorem dX2_isBad_1 : decode cX2_isBad 1 = .ok (.ifCond .lt 25, 3) := by decide +kernel
theorem dX2_isBad_4 : decode cX2_isBad 4 = .ok (.iload_n 1, 1) := by decide +kernel
theorem dX2_isBad_5 : decode cX2_isBad 5 = .ok (.aload_n 0, 1) := by decide +kernel
theorem dX2_isBad_6 : decode cX2_isBad 6 = .ok (.getfield 15, 3) := by decide +kernel
theorem dX2_isBad_9 : decode cX2_isBad 9 = .ok (.arraylength, 1) := by decide +kernel
theorem dX2_isBad_10 : decode cX2_isBad 10 = .ok (.if_icmp .ge 16, 3) := by decide +kernel
theorem dX2_isBad_13 : decode cX2_isBad 13 = .ok (.aload_n 0, 1) := by decide +kernel
theorem dX2_isBad_14 : decode cX2_isBad 14 = .ok (.getfield 15, 3) := by decide +kernel
theorem dX2_isBad_17 : decode cX2_isBad 17 = .ok (.iload_n 1, 1) := by decide +kernel
theorem dX2_isBad_18 : decode cX2_isBad 18 = .ok (.baload, 1) := by decide +kernel
theorem dX2_isBad_19 : decode cX2_isBad 19 = .ok (.ifCond .eq 7, 3) := by decide +kernel
theorem dX2_isBad_22 : decode cX2_isBad 22 = .ok (.iconst 1, 1) := by decide +kernel
theorem dX2_isBad_23 : decode cX2_isBad 23 = .ok (.goto 4, 3) := by decide +kernel
theorem dX2_isBad_26 : decode cX2_isBad 26 = .ok (.iconst 0, 1) := by decide +kernel
theorem dX2_isBad_27 : decode cX2_isBad 27 = .ok (.ireturn, 1) := by decide +kernel
theorem dX2_setBad_0 : decode cX2_setBad 0 = .ok (.iload_n 1, 1) := by decide +kernel
theorem dX2_setBad_1 : decode cX2_setBad 1 = .ok (.ifCond .lt 19, 3) := by decide +kernel
theorem dX2_setBad_4 : decode cX2_setBad 4 = .ok (.iload_n 1, 1) := by decide +kernel
theorem dX2_setBad_5 : decode cX2_setBad 5 = .ok (.aload_n 0, 1) := by decide +kernel
theorem dX2_setBad_6 : decode cX2_setBad 6 = .ok (.getfield 15, 3) := by decide +kernel
theorem dX2_setBad_9 : decode cX2_setBad 9 = .ok (.arraylength, 1) := by decide +kernel
theorem dX2_setBad_10 : decode cX2_setBad 10 = .ok (.if_icmp .ge 10, 3) := by decide +kernel
theorem dX2_setBad_13 : decode cX2_setBad 13 = .ok (.aload_n 0, 1) := by decide +kernel
theorem dX2_setBad_14 : decode cX2_setBad 14 = .ok (.getfield 15, 3) := by decide +kernel
theorem dX2_setBad_17 : decode cX2_setBad 17 = .ok (.iload_n 1, 1) := by decide +kernel
theorem dX2_setBad_18 : decode cX2_setBad 18 = .ok (.iload_n 2, 1) := by decide +kernel
theorem dX2_setBad_19 : decode cX2_setBad 19 = .ok (.bastore, 1) := by decide +kernel
theorem dX2_setBad_20 : decode cX2_setBad 20 = .ok (.return_, 1) := by decide +kernel
theorem dX2_badDoors_0 : decode cX2_badDoors 0 = .ok (.iconst 0, 1) := by decide +kernel
theorem dX2_badDoors_1 : decode cX2_badDoors 1 = .ok (.istore_n 1, 1) := by decide +kernel
theorem dX2_badDoors_2 : decode cX2_badDoors 2 = .ok (.iconst 0, 1) := by decide +kernel
theorem dX2_badDoors_3 : decode cX2_badDoors 3 = .ok (.istore_n 2, 1) := by decide +kernel
theorem dX2_badDoors_4 : decode cX2_badDoors 4 = .ok (.iload_n 2, 1) := by decide +kernel
theorem dX2_badDoors_5 : decode cX2_badDoors 5 = .ok (.aload_n 0, 1) := by decide +kernel
theorem dX2_badDoors_6 : decode cX2_badDoors 6 = .ok (.getfield 15, 3) := by decide +kernel
theorem dX2_badDoors_9 : decode cX2_badDoors 9 = .ok (.arraylength, 1) := by decide +kernel
theorem dX2_badDoors_10 : decode cX2_badDoors 10 = .ok (.if_icmp .ge 26, 3) := by decide +kernel
theorem dX2_badDoors_13 : decode cX2_badDoors 13 = .ok (.iload_n 1, 1) := by decide +kernel
theorem dX2_badDoors_14 : decode cX2_badDoors 14 = .ok (.aload_n 0, 1) := by decide +kernel
theorem dX2_badDoors_15 : decode cX2_badDoors 15 = .ok (.getfield 15, 3) := by decide +kernel
theorem dX2_badDoors_18 : decode cX2_badDoors 18 = .ok (.iload_n 2, 1) := by decide +kernel
theorem dX2_badDoors_19 : decode cX2_badDoors 19 = .ok (.baload, 1) := by decide +kernel
theorem dX2_badDoors_20 : decode cX2_badDoors 20 = .ok (.ifCond .eq 7, 3) := by decide +kernel
theorem dX2_badDoors_23 : decode cX2_badDoors 23 = .ok (.iconst 1, 1) := by decide +kernel
theorem dX2_badDoors_24 : decode cX2_badDoors 24 = .ok (.goto 4, 3) := by decide +kernel
theorem dX2_badDoors_27 : decode cX2_badDoors 27 = .ok (.iconst 0, 1) := by decide +kernel
theorem dX2_badDoors_28 : decode cX2_badDoors 28 = .ok (.iadd, 1) := by decide +kernel
theorem dX2_badDoors_29 : decode cX2_badDoors 29 = .ok (.istore_n 1, 1) := by decide +kernel
theorem dX2_badDoors_30 : decode cX2_badDoors 30 = .ok (.iinc 2 1, 3) := by decide +kernel
theorem dX2_badDoors_33 : decode cX2_badDoors 33 = .ok (.goto (-29), 3) := by decide +kernel
theorem dX2_badDoors_36 : decode cX2_badDoors 36 = .ok (.iload_n 1, 1) := by decide +kernel
theorem dX2_badDoors_37 : decode cX2_badDoors 37 = .ok (.ireturn, 1) := by decide +kernel
set_option maxRecDepth 20000 in
theorem ggX2_tie_X2_setEnd : GoodIn wsX2_tie wsX2_setEnd := goodIn_r _ [6, 7, 8, 9, 10, 11, 12, 13, 14, 15, 16] (by decide +kernel) (by decide +kernel)
set_option maxRecDepth 20000 in
theorem gX2_tie_X2_setEnd : GoodIn wsX2_tie (wsV RX2 41 RX2 yX2_setEnd wsX2_setEnd) := goodIn_app (goodIn_of _ (by decide +kernel)) ggX2_tie_X2_setEnd
theorem dX2_tie_0 : decode cX2_tie 0 = .ok (.aload_n 0, 1) := by decide +kernel
theorem dX2_tie_1 : decode cX2_tie 1 = .ok (.iload_n 1, 1) := by decide +kernel
theorem dX2_tie_2 : decode cX2_tie 2 = .ok (.iload_n 2, 1) := by decide +kernel
theorem dX2_tie_3 : decode cX2_tie 3 = .ok (.iconst 1, 1) := by decide +kernel
theorem dX2_tie_4 : decode cX2_tie 4 = .ok (.invokevirtual 41, 3) := by decide +kernel
theorem dX2_tie_7 : decode cX2_tie 7 = .ok (.aload_n 0, 1) := by decide +kernel
theorem dX2_tie_8 : decode cX2_tie 8 = .ok (.iload_n 2, 1) := by decide +kernel
theorem dX2_tie_9 : decode cX2_tie 9 = .ok (.iload_n 1, 1) := by decide +kernel
theorem dX2_tie_10 : decode cX2_tie 10 = .ok (.iconst 1, 1) := by decide +kernel
theorem dX2_tie_11 : decode cX2_tie 11 = .ok (.invokevirtual 41, 3) := by decide +kernel
theorem dX2_tie_14 : decode cX2_tie 14 = .ok (.aload_n 0, 1) := by decide +kernel
theorem dX2_tie_15 : decode cX2_tie 15 = .ok (.dup, 1) := by decide +kernel
theorem dX2_tie_16 : decode cX2_tie 16 = .ok (.getfield 30, 3) := by decide +kernel
theorem dX2_tie_19 : decode cX2_tie 19 = .ok (.iconst 1, 1) := by decide +kernel
theorem dX2_tie_20 : decode cX2_tie 20 = .ok (.iadd, 1) := by decide +kernel
theorem dX2_tie_21 : decode cX2_tie 21 = .ok (.putfield 30, 3) := by decide +kernel
theorem dX2_tie_24 : decode cX2_tie 24 = .ok (.return_, 1) := by decide +kernel
set_option maxRecDepth 20000 in
theorem ggX2_untie_X2_setEnd : GoodIn wsX2_untie wsX2_setEnd := goodIn_r _ [6, 7, 8, 9, 10, 11, 12, 13, 14, 15, 16] (by decide +kernel) (by decide +kernel)
set_option maxRecDepth 20000 in
theorem gX2_untie_X2_setEnd : GoodIn wsX2_untie (wsV RX2 41 RX2 yX2_setEnd wsX2_setEnd) := goodIn_app (goodIn_of _ (by decide +kernel)) ggX2_untie_X2_setEnd
theorem dX2_untie_0 : decode cX2_untie 0 = .ok (.aload_n 0, 1) := by decide +kernel
theorem dX2_untie_1 : decode cX2_untie 1 = .ok (.iload_n 1, 1) := by decide +kernel
theorem dX2_untie_2 : decode cX2_untie 2 = .ok (.iconst (-1), 1) := by decide +kernel
theorem dX2_untie_3 : decode cX2_untie 3 = .ok (.iconst (-1), 1) := by decide +kernel
theorem dX2_untie_4 : decode cX2_untie 4 = .ok (.invokevirtual 41, 3) := by decide +kernel
theorem dX2_untie_7 : decode cX2_untie 7 = .ok (.aload_n 0, 1) := by decide +kernel
theorem dX2_untie_8 : decode cX2_untie 8 = .ok (.iload_n 2, 1) := by decide +kernel
theorem dX2_untie_9 : decode cX2_untie 9 = .ok (.iconst (-1), 1) := by decide +kernel
theorem dX2_untie_10 : decode cX2_untie 10 = .ok (.iconst (-1), 1) := by decide +kernel
theorem dX2_untie_11 : decode cX2_untie 11 = .ok (.invokevirtual 41, 3) := by decide +kernel
theorem dX2_untie_14 : decode cX2_untie 14 = .ok (.aload_n 0, 1) := by decide +kernel
theorem dX2_untie_15 : decode cX2_untie 15 = .ok (.dup, 1) := by decide +kernel
theorem dX2_untie_16 : decode cX2_untie 16 = .ok (.getfield 30, 3) := by decide +kernel
theorem dX2_untie_19 : decode cX2_untie 19 = .ok (.iconst 1, 1) := by decide +kernel
theorem dX2_untie_20 : decode cX2_untie 20 = .ok (.isub, 1) := by decide +kernel
theorem dX2_untie_21 : decode cX2_untie 21 = .ok (.putfield 30, 3) := by decide +kernel
theorem dX2_untie_24 : decode cX2_untie 24 = .ok (.return_, 1) := by decide +kernel
set_option maxRecDepth 20000 in
theorem ggX2_setEnd_X5_postOf : GoodIn wsX2_setEnd wsX5_postOf := goodIn_r _ [5] (by decide +kernel) (by decide +kernel)
set_option maxRecDepth 20000 in
theorem gX2_setEnd_X5_postOf_n45 : GoodIn wsX2_setEnd (wsX5_postOf) := ggX2_setEnd_X5_postOf
theorem dX2_setEnd_0 : decode cX2_setEnd 0 = .ok (.iload_n 1, 1) := by decide +kernel
theorem dX2_setEnd_1 : decode cX2_setEnd 1 = .ok (.invokestatic 45, 3) := by decide +kernel
theorem dX2_setEnd_4 : decode cX2_setEnd 4 = .ok (.istore 4, 2) := by decide +kernel
theorem dX2_setEnd_6 : decode cX2_setEnd 6 = .ok (.iload_n 1, 1) := by decide +kernel
theorem dX2_setEnd_7 : decode cX2_setEnd 7 = .ok (.ifCond .lt 40, 3) := by decide +kernel
theorem dX2_setEnd_10 : decode cX2_setEnd 10 = .ok (.iload_n 1, 1) := by decide +kernel
theorem dX2_setEnd_11 : decode cX2_setEnd 11 = .ok (.aload_n 0, 1) := by decide +kernel
theorem dX2_setEnd_12 : decode cX2_setEnd 12 = .ok (.getfield 9, 3) := by decide +kernel
theorem dX2_setEnd_15 : decode cX2_setEnd 15 = .ok (.arraylength, 1) := by decide +kernel
theorem dX2_setEnd_16 : decode cX2_setEnd 16 = .ok (.if_icmp .ge 31, 3) := by decide +kernel
theorem dX2_setEnd_19 : decode cX2_setEnd 19 = .ok (.iload 4, 2) := by decide +kernel
theorem dX2_setEnd_21 : decode cX2_setEnd 21 = .ok (.aload_n 0, 1) := by decide +kernel
theorem dX2_setEnd_22 : decode cX2_setEnd 22 = .ok (.getfield 19, 3) := by decide +kernel
theorem dX2_setEnd_25 : decode cX2_setEnd 25 = .ok (.arraylength, 1) := by decide +kernel
theorem dX2_setEnd_26 : decode cX2_setEnd 26 = .ok (.if_icmp .ge 21, 3) := by decide +kernel
theorem dX2_setEnd_29 : decode cX2_setEnd 29 = .ok (.aload_n 0, 1) := by decide +kernel
theorem dX2_setEnd_30 : decode cX2_setEnd 30 = .ok (.getfield 9, 3) := by decide +kernel
theorem dX2_setEnd_33 : decode cX2_setEnd 33 = .ok (.iload_n 1, 1) := by decide +kernel
theorem dX2_setEnd_34 : decode cX2_setEnd 34 = .ok (.iload_n 2, 1) := by decide +kernel
theorem dX2_setEnd_35 : decode cX2_setEnd 35 = .ok (.iastore, 1) := by decide +kernel
theorem dX2_setEnd_36 : decode cX2_setEnd 36 = .ok (.aload_n 0, 1) := by decide +kernel
theorem dX2_setEnd_37 : decode cX2_setEnd 37 = .ok (.getfield 19, 3) := by decide +kernel
theorem dX2_setEnd_40 : decode cX2_setEnd 40 = .ok (.iload 4, 2) := by decide +kernel
theorem dX2_setEnd_42 : decode cX2_setEnd 42 = .ok (.dup2, 1) := by decide +kernel
theorem dX2_setEnd_43 : decode cX2_setEnd 43 = .ok (.iaload, 1) := by decide +kernel
theorem dX2_setEnd_44 : decode cX2_setEnd 44 = .ok (.iload_n 3, 1) := by decide +kernel
theorem dX2_setEnd_45 : decode cX2_setEnd 45 = .ok (.iadd, 1) := by decide +kernel
theorem dX2_setEnd_46 : decode cX2_setEnd 46 = .ok (.iastore, 1) := by decide +kernel
theorem dX2_setEnd_47 : decode cX2_setEnd 47 = .ok (.return_, 1) := by decide +kernel
set_option maxRecDepth 20000 in
theorem ggX2_isReady_X2_hasFirstDoors : GoodIn wsX2_isReady wsX2_hasFirstDoors := goodIn_r _ [6, 7, 8, 9, 5, 10, 11, 12, 13, 14, 15, 16, 17, 18, 19, 30, 31, 32, 33, 34] (by decide +kernel) (by decide +kernel)
set_option maxRecDepth 20000 in
theorem gX2_isReady_X2_hasFirstDoors : GoodIn wsX2_isReady (wsV RX2 49 RX2 yX2_hasFirstDoors wsX2_hasFirstDoors) := goodIn_app (goodIn_of _ (by decide +kernel)) ggX2_isReady_X2_hasFirstDoors
set_option maxRecDepth 20000 in
theorem ggX2_isReady_X2_reachedFromFirst : GoodIn wsX2_isReady wsX2_reachedFromFirst := goodIn_r _ [23, 1, 19, 24, 13, 25, 15, 16, 17, 5, 18, 30, 31, 32, 33, 34] (by decide +kernel) (by decide +kernel)
set_option maxRecDepth 20000 in
theorem gX2_isReady_X2_reachedFromFirst : GoodIn wsX2_isReady (wsV RX2 52 RX2 yX2_reachedFromFirst wsX2_reachedFromFirst) := goodIn_app (goodIn_of _ (by decide +kernel)) ggX2_isReady_X2_reachedFromFirst
set_option maxRecDepth 20000 in
theorem ggX2_isReady_X2_allPosts : GoodIn wsX2_isReady wsX2_allPosts := goodIn_r _ [29, 1, 30, 31, 32, 33, 34] (by decide +kernel) (by decide +kernel)
set_option maxRecDepth 20000 in
theorem gX2_isReady_X2_allPosts : GoodIn wsX2_isReady (wsV RX2 56 RX2 yX2_allPosts wsX2_allPosts) := goodIn_app (goodIn_of _ (by decide +kernel)) ggX2_isReady_X2_allPosts
theorem dX2_isReady_0 : decode cX2_isReady 0 = .ok (.iconst 0, 1) := by decide +kernel
theorem dX2_isReady_1 : decode cX2_isReady 1 = .ok (.istore_n 1, 1) := by decide +kernel
theorem dX2_isReady_2 : decode cX2_isReady 2 = .ok (.iload_n 1, 1) := by decide +kernel
theorem dX2_isReady_3 : decode cX2_isReady 3 = .ok (.aload_n 0, 1) := by decide +kernel
theorem dX2_isReady_4 : decode cX2_isReady 4 = .ok (.getfield 26, 3) := by decide +kernel
theorem dX2_isReady_7 : decode cX2_isReady 7 = .ok (.if_icmp .ge 19, 3) := by decide +kernel
theorem dX2_isReady_10 : decode cX2_isReady 10 = .ok (.aload_n 0, 1) := by decide +kernel
theorem dX2_isReady_11 : decode cX2_isReady 11 = .ok (.iload_n 1, 1) := by decide +kernel
theorem dX2_isReady_12 : decode cX2_isReady 12 = .ok (.invokevirtual 49, 3) := by decide +kernel
theorem dX2_isReady_15 : decode cX2_isReady 15 = .ok (.ifCond .ne 5, 3) := by decide +kernel
theorem dX2_isReady_18 : decode cX2_isReady 18 = .ok (.iconst 0, 1) := by decide +kernel
theorem dX2_isReady_19 : decode cX2_isReady 19 = .ok (.ireturn, 1) := by decide +kernel
theorem dX2_isReady_20 : decode cX2_isReady 20 = .ok (.iinc 1 1, 3) := by decide +kernel
theorem dX2_isReady_23 : decode cX2_isReady 23 = .ok (.goto (-21), 3) := by decide +kernel
theorem dX2_isReady_26 : decode cX2_isReady 26 = .ok (.aload_n 0, 1) := by decide +kernel
theorem dX2_isReady_27 : decode cX2_isReady 27 = .ok (.invokevirtual 52, 3) := by decide +kernel
theorem dX2_isReady_30 : decode cX2_isReady 30 = .ok (.aload_n 0, 1) := by decide +kernel
theorem dX2_isReady_31 : decode cX2_isReady 31 = .ok (.invokevirtual 56, 3) := by decide +kernel
theorem dX2_isReady_34 : decode cX2_isReady 34 = .ok (.if_icmp .ne 7, 3) := by decide +kernel
theorem dX2_isReady_37 : decode cX2_isReady 37 = .ok (.iconst 1, 1) := by decide +kernel
theorem dX2_isReady_38 : decode cX2_isReady 38 = .ok (.goto 4, 3) := by decide +kernel
theorem dX2_isReady_41 : decode cX2_isReady 41 = .ok (.iconst 0, 1) := by decide +kernel
theorem dX2_isReady_42 : decode cX2_isReady 42 = .ok (.ireturn, 1) := by decide +kernel
set_option maxRecDepth 20000 in
theorem ggX2_hasFirstDoors_X2_degreeOf : GoodIn wsX2_hasFirstDoors wsX2_degreeOf := goodIn_r _ [5, 6, 15, 16, 17, 18, 19] (by decide +kernel) (by decide +kernel)
set_option maxRecDepth 20000 in
theorem gX2_hasFirstDoors_X2_degreeOf : GoodIn wsX2_hasFirstDoors (wsV RX2 59 RX2 yX2_degreeOf wsX2_degreeOf) := goodIn_app (goodIn_of _ (by decide +kernel)) ggX2_hasFirstDoors_X2_degreeOf
set_option maxRecDepth 20000 in
theorem ggX2_hasFirstDoors_X5_placeOf : GoodIn wsX2_hasFirstDoors wsX5_placeOf := goodIn_r _ [9] (by decide +kernel) (by decide +kernel)
set_option maxRecDepth 20000 in
theorem gX2_hasFirstDoors_X5_placeOf_n62 : GoodIn wsX2_hasFirstDoors (wsX5_placeOf) := ggX2_hasFirstDoors_X5_placeOf
set_option maxRecDepth 20000 in
theorem ggX2_hasFirstDoors_X2_endOf : GoodIn wsX2_hasFirstDoors wsX2_endOf := goodIn_r _ [13, 14, 15, 16, 17, 18, 19] (by decide +kernel) (by decide +kernel)
set_option maxRecDepth 20000 in
theorem gX2_hasFirstDoors_X2_endOf : GoodIn wsX2_hasFirstDoors (wsV RX2 66 RX2 yX2_endOf wsX2_endOf) := goodIn_app (goodIn_of _ (by decide +kernel)) ggX2_hasFirstDoors_X2_endOf
theorem dX2_hasFirstDoors_0 : decode cX2_hasFirstDoors 0 = .ok (.iconst 0, 1) := by decide +kernel
theorem dX2_hasFirstDoors_1 : decode cX2_hasFirstDoors 1 = .ok (.istore_n 2, 1) := by decide +kernel
theorem dX2_hasFirstDoors_2 : decode cX2_hasFirstDoors 2 = .ok (.iload_n 2, 1) := by decide +kernel
theorem dX2_hasFirstDoors_3 : decode cX2_hasFirstDoors 3 = .ok (.aload_n 0, 1) := by decide +kernel
theorem dX2_hasFirstDoors_4 : decode cX2_hasFirstDoors 4 = .ok (.iload_n 1, 1) := by decide +kernel
theorem dX2_hasFirstDoors_5 : decode cX2_hasFirstDoors 5 = .ok (.invokevirtual 59, 3) := by decide +kernel
theorem dX2_hasFirstDoors_8 : decode cX2_hasFirstDoors 8 = .ok (.if_icmp .ge 24, 3) := by decide +kernel
theorem dX2_hasFirstDoors_11 : decode cX2_hasFirstDoors 11 = .ok (.aload_n 0, 1) := by decide +kernel
theorem dX2_hasFirstDoors_12 : decode cX2_hasFirstDoors 12 = .ok (.iload_n 1, 1) := by decide +kernel
theorem dX2_hasFirstDoors_13 : decode cX2_hasFirstDoors 13 = .ok (.iload_n 2, 1) := by decide +kernel
theorem dX2_hasFirstDoors_14 : decode cX2_hasFirstDoors 14 = .ok (.invokestatic 62, 3) := by decide +kernel
theorem dX2_hasFirstDoors_17 : decode cX2_hasFirstDoors 17 = .ok (.invokevirtual 66, 3) := by decide +kernel
theorem dX2_hasFirstDoors_20 : decode cX2_hasFirstDoors 20 = .ok (.iconst (-1), 1) := by decide +kernel
theorem dX2_hasFirstDoors_21 : decode cX2_hasFirstDoors 21 = .ok (.if_icmp .ne 5, 3) := by decide +kernel
theorem dX2_hasFirstDoors_24 : decode cX2_hasFirstDoors 24 = .ok (.iconst 0, 1) := by decide +kernel
theorem dX2_hasFirstDoors_25 : decode cX2_hasFirstDoors 25 = .ok (.ireturn, 1) := by decide +kernel
theorem dX2_hasFirstDoors_26 : decode cX2_hasFirstDoors 26 = .ok (.iinc 2 1, 3) := by decide +kernel
theorem dX2_hasFirstDoors_29 : decode cX2_hasFirstDoors 29 = .ok (.goto (-27), 3) := by decide +kernel
theorem dX2_hasFirstDoors_32 : decode cX2_hasFirstDoors 32 = .ok (.iconst 1, 1) := by decide +kernel
theorem dX2_hasFirstDoors_33 : decode cX2_hasFirstDoors 33 = .ok (.ireturn, 1) := by decide +kernel
set_option maxRecDepth 20000 in
theorem ggX2_reachedFromFirst_X5_postOf : GoodIn wsX2_reachedFromFirst wsX5_postOf := goodIn_r _ [5] (by decide +kernel) (by decide +kernel)
set_option maxRecDepth 20000 in
theorem gX2_reachedFromFirst_X5_postOf_n45 : GoodIn wsX2_reachedFromFirst (wsX5_postOf) := ggX2_reachedFromFirst_X5_postOf
set_option maxRecDepth 20000 in
theorem ggX2_reachedFromFirst_X2_endOf : GoodIn wsX2_reachedFromFirst wsX2_endOf := goodIn_r _ [10, 2, 11, 12, 13, 14, 15] (by decide +kernel) (by decide +kernel)
set_option maxRecDepth 20000 in
theorem gX2_reachedFromFirst_X2_endOf : GoodIn wsX2_reachedFromFirst (wsV RX2 66 RX2 yX2_endOf wsX2_endOf) := goodIn_app (goodIn_of _ (by decide +kernel)) ggX2_reachedFromFirst_X2_endOf
theorem dX2_reachedFromFirst_0 : decode cX2_reachedFromFirst 0 = .ok (.iconst 1, 1) := by decide +kernel
theorem dX2_reachedFromFirst_1 : decode cX2_reachedFromFirst 1 = .ok (.istore_n 1, 1) := by decide +kernel
theorem dX2_reachedFromFirst_2 : decode cX2_reachedFromFirst 2 = .ok (.iconst 1, 1) := by decide +kernel
theorem dX2_reachedFromFirst_3 : decode cX2_reachedFromFirst 3 = .ok (.istore_n 2, 1) := by decide +kernel
theorem dX2_reachedFromFirst_4 : decode cX2_reachedFromFirst 4 = .ok (.iload_n 2, 1) := by decide +kernel
theorem dX2_reachedFromFirst_5 : decode cX2_reachedFromFirst 5 = .ok (.aload_n 0, 1) := by decide +kernel
theorem dX2_reachedFromFirst_6 : decode cX2_reachedFromFirst 6 = .ok (.getfield 26, 3) := by decide +kernel
theorem dX2_reachedFromFirst_9 : decode cX2_reachedFromFirst 9 = .ok (.if_icmp .ge 60, 3) := by decide +kernel
theorem dX2_reachedFromFirst_12 : decode cX2_reachedFromFirst 12 = .ok (.iconst 0, 1) := by decide +kernel
theorem dX2_reachedFromFirst_13 : decode cX2_reachedFromFirst 13 = .ok (.istore_n 3, 1) := by decide +kernel
theorem dX2_reachedFromFirst_14 : decode cX2_reachedFromFirst 14 = .ok (.iload_n 3, 1) := by decide +kernel
theorem dX2_reachedFromFirst_15 : decode cX2_reachedFromFirst 15 = .ok (.aload_n 0, 1) := by decide +kernel
theorem dX2_reachedFromFirst_16 : decode cX2_reachedFromFirst 16 = .ok (.getfield 9, 3) := by decide +kernel
theorem dX2_reachedFromFirst_19 : decode cX2_reachedFromFirst 19 = .ok (.arraylength, 1) := by decide +kernel
theorem dX2_reachedFromFirst_20 : decode cX2_reachedFromFirst 20 = .ok (.if_icmp .ge 43, 3) := by decide +kernel
theorem dX2_reachedFromFirst_23 : decode cX2_reachedFromFirst 23 = .ok (.iload_n 1, 1) := by decide +kernel
theorem dX2_reachedFromFirst_24 : decode cX2_reachedFromFirst 24 = .ok (.iload_n 3, 1) := by decide +kernel
theorem dX2_reachedFromFirst_25 : decode cX2_reachedFromFirst 25 = .ok (.invokestatic 45, 3) := by decide +kernel
theorem dX2_reachedFromFirst_28 : decode cX2_reachedFromFirst 28 = .ok (.ishr, 1) := by decide +kernel
theorem dX2_reachedFromFirst_29 : decode cX2_reachedFromFirst 29 = .ok (.iconst 1, 1) := by decide +kernel
theorem dX2_reachedFromFirst_30 : decode cX2_reachedFromFirst 30 = .ok (.iand, 1) := by decide +kernel
theorem dX2_reachedFromFirst_31 : decode cX2_reachedFromFirst 31 = .ok (.iconst 1, 1) := by decide +kernel
theorem dX2_reachedFromFirst_32 : decode cX2_reachedFromFirst 32 = .ok (.if_icmp .ne 25, 3) := by decide +kernel
theorem dX2_reachedFromFirst_35 : decode cX2_reachedFromFirst 35 = .ok (.aload_n 0, 1) := by decide +kernel
theorem dX2_reachedFromFirst_36 : decode cX2_reachedFromFirst 36 = .ok (.iload_n 3, 1) := by decide +kernel
theorem dX2_reachedFromFirst_37 : decode cX2_reachedFromFirst 37 = .ok (.invokevirtual 66, 3) := by decide +kernel
theorem dX2_reachedFromFirst_40 : decode cX2_reachedFromFirst 40 = .ok (.iconst (-1), 1) := by decide +kernel
theorem dX2_reachedFromFirst_41 : decode cX2_reachedFromFirst 41 = .ok (.if_icmp .eq 16, 3) := by decide +kernel
theorem dX2_reachedFromFirst_44 : decode cX2_reachedFromFirst 44 = .ok (.iload_n 1, 1) := by decide +kernel
theorem dX2_reachedFromFirst_45 : decode cX2_reachedFromFirst 45 = .ok (.iconst 1, 1) := by decide +kernel
theorem dX2_reachedFromFirst_46 : decode cX2_reachedFromFirst 46 = .ok (.aload_n 0, 1) := by decide +kernel
theorem dX2_reachedFromFirst_47 : decode cX2_reachedFromFirst 47 = .ok (.iload_n 3, 1) := by decide +kernel
theorem dX2_reachedFromFirst_48 : decode cX2_reachedFromFirst 48 = .ok (.invokevirtual 66, 3) := by decide +kernel
theorem dX2_reachedFromFirst_51 : decode cX2_reachedFromFirst 51 = .ok (.invokestatic 45, 3) := by decide +kernel
theorem dX2_reachedFromFirst_54 : decode cX2_reachedFromFirst 54 = .ok (.ishl, 1) := by decide +kernel
theorem dX2_reachedFromFirst_55 : decode cX2_reachedFromFirst 55 = .ok (.ior, 1) := by decide +kernel
theorem dX2_reachedFromFirst_56 : decode cX2_reachedFromFirst 56 = .ok (.istore_n 1, 1) := by decide +kernel
theorem dX2_reachedFromFirst_57 : decode cX2_reachedFromFirst 57 = .ok (.iinc 3 1, 3) := by decide +kernel
theorem dX2_reachedFromFirst_60 : decode cX2_reachedFromFirst 60 = .ok (.goto (-46), 3) := by decide +kernel
theorem dX2_reachedFromFirst_63 : decode cX2_reachedFromFirst 63 = .ok (.iinc 2 1, 3) := by decide +kernel
theorem dX2_reachedFromFirst_66 : decode cX2_reachedFromFirst 66 = .ok (.goto (-62), 3) := by decide +kernel
theorem dX2_reachedFromFirst_69 : decode cX2_reachedFromFirst 69 = .ok (.iload_n 1, 1) := by decide +kernel
theorem dX2_reachedFromFirst_70 : decode cX2_reachedFromFirst 70 = .ok (.ireturn, 1) := by decide +kernel
set_option maxRecDepth 20000 in
theorem ggX2_through_X2_endOf : GoodIn wsX2_through wsX2_endOf := goodIn_r _ [5, 6, 12, 13, 14, 15, 16] (by decide +kernel) (by decide +kernel)
set_option maxRecDepth 20000 in
theorem gX2_through_X2_endOf : GoodIn wsX2_through (wsV RX2 66 RX2 yX2_endOf wsX2_endOf) := goodIn_app (goodIn_of _ (by decide +kernel)) ggX2_through_X2_endOf
set_option maxRecDepth 20000 in
theorem ggX2_through_X2_isBad : GoodIn wsX2_through wsX2_isBad := goodIn_r _ [10, 11, 12, 13, 14, 15, 16] (by decide +kernel) (by decide +kernel)
set_option maxRecDepth 20000 in
theorem gX2_through_X2_isBad : GoodIn wsX2_through (wsV RX2 69 RX2 yX2_isBad wsX2_isBad) := goodIn_app (goodIn_of _ (by decide +kernel)) ggX2_through_X2_isBad
theorem dX2_through_0 : decode cX2_through 0 = .ok (.aload_n 0, 1) := by decide +kernel
theorem dX2_through_1 : decode cX2_through 1 = .ok (.iload_n 1, 1) := by decide +kernel
theorem dX2_through_2 : decode cX2_through 2 = .ok (.invokevirtual 66, 3) := by decide +kernel
theorem dX2_through_5 : decode cX2_through 5 = .ok (.istore_n 2, 1) := by decide +kernel
theorem dX2_through_6 : decode cX2_through 6 = .ok (.iload_n 2, 1) := by decide +kernel
theorem dX2_through_7 : decode cX2_through 7 = .ok (.iconst (-1), 1) := by decide +kernel
theorem dX2_through_8 : decode cX2_through 8 = .ok (.if_icmp .eq 11, 3) := by decide +kernel
theorem dX2_through_11 : decode cX2_through 11 = .ok (.aload_n 0, 1) := by decide +kernel
theorem dX2_through_12 : decode cX2_through 12 = .ok (.iload_n 1, 1) := by decide +kernel
theorem dX2_through_13 : decode cX2_through 13 = .ok (.invokevirtual 69, 3) := by decide +kernel
theorem dX2_through_16 : decode cX2_through 16 = .ok (.ifCond .eq 7, 3) := by decide +kernel
theorem dX2_through_19 : decode cX2_through 19 = .ok (.iload_n 1, 1) := by decide +kernel
theorem dX2_through_20 : decode cX2_through 20 = .ok (.goto 4, 3) := by decide +kernel
theorem dX2_through_23 : decode cX2_through 23 = .ok (.iload_n 2, 1) := by decide +kernel
theorem dX2_through_24 : decode cX2_through 24 = .ok (.ireturn, 1) := by decide +kernel
set_option maxRecDepth 20000 in
theorem ggX2_walkOn_X5_postOf : GoodIn wsX2_walkOn wsX5_postOf := goodIn_r _ [3] (by decide +kernel) (by decide +kernel)
set_option maxRecDepth 20000 in
theorem gX2_walkOn_X5_postOf_n45 : GoodIn wsX2_walkOn (wsX5_postOf) := ggX2_walkOn_X5_postOf
set_option maxRecDepth 20000 in
theorem ggX2_walkOn_X2_degreeOf : GoodIn wsX2_walkOn wsX2_degreeOf := goodIn_r _ [8, 9, 28, 29, 30, 31, 32] (by decide +kernel) (by decide +kernel)
set_option maxRecDepth 20000 in
theorem gX2_walkOn_X2_degreeOf : GoodIn wsX2_walkOn (wsV RX2 59 RX2 yX2_degreeOf wsX2_degreeOf) := goodIn_app (goodIn_of _ (by decide +kernel)) ggX2_walkOn_X2_degreeOf
set_option maxRecDepth 20000 in
theorem ggX2_walkOn_X5_doorOf : GoodIn wsX2_walkOn wsX5_doorOf := goodIn_r _ [11] (by decide +kernel) (by decide +kernel)
set_option maxRecDepth 20000 in
theorem gX2_walkOn_X5_doorOf_n72 : GoodIn wsX2_walkOn (wsX5_doorOf) := ggX2_walkOn_X5_doorOf
set_option maxRecDepth 20000 in
theorem ggX2_walkOn_X5_placeOf : GoodIn wsX2_walkOn wsX5_placeOf := goodIn_r _ [13] (by decide +kernel) (by decide +kernel)
set_option maxRecDepth 20000 in
theorem gX2_walkOn_X5_placeOf_n62 : GoodIn wsX2_walkOn (wsX5_placeOf) := ggX2_walkOn_X5_placeOf
set_option maxRecDepth 20000 in
theorem ggX2_walkOn_X2_through : GoodIn wsX2_walkOn wsX2_through := goodIn_r _ [17, 18, 19, 20, 7, 21, 22, 23, 24, 25, 26, 27, 28, 29, 30, 31, 32] (by decide +kernel) (by decide +kernel)
set_option maxRecDepth 20000 in
theorem gX2_walkOn_X2_through : GoodIn wsX2_walkOn (wsV RX2 75 RX2 yX2_through wsX2_through) := goodIn_app (goodIn_of _ (by decide +kernel)) ggX2_walkOn_X2_through
theorem dX2_walkOn_0 : decode cX2_walkOn 0 = .ok (.iload_n 1, 1) := by decide +kernel
theorem dX2_walkOn_1 : decode cX2_walkOn 1 = .ok (.invokestatic 45, 3) := by decide +kernel
theorem dX2_walkOn_4 : decode cX2_walkOn 4 = .ok (.istore 4, 2) := by decide +kernel
theorem dX2_walkOn_6 : decode cX2_walkOn 6 = .ok (.aload_n 0, 1) := by decide +kernel
theorem dX2_walkOn_7 : decode cX2_walkOn 7 = .ok (.iload 4, 2) := by decide +kernel
theorem dX2_walkOn_9 : decode cX2_walkOn 9 = .ok (.invokevirtual 59, 3) := by decide +kernel
theorem dX2_walkOn_12 : decode cX2_walkOn 12 = .ok (.istore 5, 2) := by decide +kernel
theorem dX2_walkOn_14 : decode cX2_walkOn 14 = .ok (.iload 5, 2) := by decide +kernel
theorem dX2_walkOn_16 : decode cX2_walkOn 16 = .ok (.ifCond .gt 5, 3) := by decide +kernel
theorem dX2_walkOn_19 : decode cX2_walkOn 19 = .ok (.iload_n 1, 1) := by decide +kernel
theorem dX2_walkOn_20 : decode cX2_walkOn 20 = .ok (.ireturn, 1) := by decide +kernel
theorem dX2_walkOn_21 : decode cX2_walkOn 21 = .ok (.iload_n 3, 1) := by decide +kernel
theorem dX2_walkOn_22 : decode cX2_walkOn 22 = .ok (.ifCond .ne 10, 3) := by decide +kernel
theorem dX2_walkOn_25 : decode cX2_walkOn 25 = .ok (.iload_n 1, 1) := by decide +kernel
theorem dX2_walkOn_26 : decode cX2_walkOn 26 = .ok (.invokestatic 72, 3) := by decide +kernel
theorem dX2_walkOn_29 : decode cX2_walkOn 29 = .ok (.goto 4, 3) := by decide +kernel
theorem dX2_walkOn_32 : decode cX2_walkOn 32 = .ok (.iconst 0, 1) := by decide +kernel
theorem dX2_walkOn_33 : decode cX2_walkOn 33 = .ok (.istore 6, 2) := by decide +kernel
theorem dX2_walkOn_35 : decode cX2_walkOn 35 = .ok (.aload_n 0, 1) := by decide +kernel
theorem dX2_walkOn_36 : decode cX2_walkOn 36 = .ok (.iload 4, 2) := by decide +kernel
theorem dX2_walkOn_38 : decode cX2_walkOn 38 = .ok (.iload 6, 2) := by decide +kernel
theorem dX2_walkOn_40 : decode cX2_walkOn 40 = .ok (.iload_n 2, 1) := by decide +kernel
theorem dX2_walkOn_41 : decode cX2_walkOn 41 = .ok (.iadd, 1) := by decide +kernel
theorem dX2_walkOn_42 : decode cX2_walkOn 42 = .ok (.iload 5, 2) := by decide +kernel
theorem dX2_walkOn_44 : decode cX2_walkOn 44 = .ok (.irem, 1) := by decide +kernel
theorem dX2_walkOn_45 : decode cX2_walkOn 45 = .ok (.invokestatic 62, 3) := by decide +kernel
theorem dX2_walkOn_48 : decode cX2_walkOn 48 = .ok (.invokevirtual 75, 3) := by decide +kernel
theorem dX2_walkOn_51 : decode cX2_walkOn 51 = .ok (.ireturn, 1) := by decide +kernel
theorem dX3_init_0 : decode cX3_init 0 = .ok (.aload_n 0, 1) := by decide +kernel
theorem dX3_init_1 : decode cX3_init 1 = .ok (.invokespecial 3, 3) := by decide +kernel
theorem dX3_init_4 : decode cX3_init 4 = .ok (.aload_n 0, 1) := by decide +kernel
theorem dX3_init_5 : decode cX3_init 5 = .ok (.iconst 5, 1) := by decide +kernel
theorem dX3_init_6 : decode cX3_init 6 = .ok (.newarray .int, 2) := by decide +kernel
theorem dX3_init_8 : decode cX3_init 8 = .ok (.putfield 11, 3) := by decide +kernel
theorem dX3_init_11 : decode cX3_init 11 = .ok (.aload_n 0, 1) := by decide +kernel
theorem dX3_init_12 : decode cX3_init 12 = .ok (.iconst 5, 1) := by decide +kernel
theorem dX3_init_13 : decode cX3_init 13 = .ok (.newarray .int, 2) := by decide +kernel
theorem dX3_init_15 : decode cX3_init 15 = .ok (.putfield 15, 3) := by decide +kernel
theorem dX3_init_18 : decode cX3_init 18 = .ok (.return_, 1) := by decide +kernel
set_option maxRecDepth 20000 in
theorem ggX3_lengthFor_X3_find : GoodIn wsX3_lengthFor wsX3_find := goodIn_r _ [6, 1, 7, 8, 9, 5, 10, 11, 12, 13, 14, 15, 16, 17, 18, 19, 20, 21] (by decide +kernel) (by decide +kernel)
set_option maxRecDepth 20000 in
theorem gX3_lengthFor_X3_find : GoodIn wsX3_lengthFor (wsV RX3 18 RX3 yX3_find wsX3_find) := goodIn_app (goodIn_of _ (by decide +kernel)) ggX3_lengthFor_X3_find
theorem dX3_lengthFor_0 : decode cX3_lengthFor 0 = .ok (.iload_n 1, 1) := by decide +kernel
theorem dX3_lengthFor_1 : decode cX3_lengthFor 1 = .ok (.iconst 2, 1) := by decide +kernel
theorem dX3_lengthFor_2 : decode cX3_lengthFor 2 = .ok (.if_icmp .lt 12, 3) := by decide +kernel
theorem dX3_lengthFor_5 : decode cX3_lengthFor 5 = .ok (.iload_n 1, 1) := by decide +kernel
theorem dX3_lengthFor_6 : decode cX3_lengthFor 6 = .ok (.aload_n 0, 1) := by decide +kernel
theorem dX3_lengthFor_7 : decode cX3_lengthFor 7 = .ok (.getfield 11, 3) := by decide +kernel
theorem dX3_lengthFor_10 : decode cX3_lengthFor 10 = .ok (.arraylength, 1) := by decide +kernel
theorem dX3_lengthFor_11 : decode cX3_lengthFor 11 = .ok (.if_icmp .lt 6, 3) := by decide +kernel
theorem dX3_lengthFor_14 : decode cX3_lengthFor 14 = .ok (.bipush (-6), 2) := by decide +kernel
theorem dX3_lengthFor_16 : decode cX3_lengthFor 16 = .ok (.ireturn, 1) := by decide +kernel
theorem dX3_lengthFor_17 : decode cX3_lengthFor 17 = .ok (.aload_n 0, 1) := by decide +kernel
theorem dX3_lengthFor_18 : decode cX3_lengthFor 18 = .ok (.getfield 11, 3) := by decide +kernel
theorem dX3_lengthFor_21 : decode cX3_lengthFor 21 = .ok (.iload_n 1, 1) := by decide +kernel
theorem dX3_lengthFor_22 : decode cX3_lengthFor 22 = .ok (.iaload, 1) := by decide +kernel
theorem dX3_lengthFor_23 : decode cX3_lengthFor 23 = .ok (.ifCond .ne 8, 3) := by decide +kernel
theorem dX3_lengthFor_26 : decode cX3_lengthFor 26 = .ok (.aload_n 0, 1) := by decide +kernel
theorem dX3_lengthFor_27 : decode cX3_lengthFor 27 = .ok (.iload_n 1, 1) := by decide +kernel
theorem dX3_lengthFor_28 : decode cX3_lengthFor 28 = .ok (.invokevirtual 18, 3) := by decide +kernel
theorem dX3_lengthFor_31 : decode cX3_lengthFor 31 = .ok (.aload_n 0, 1) := by decide +kernel
theorem dX3_lengthFor_32 : decode cX3_lengthFor 32 = .ok (.getfield 11, 3) := by decide +kernel
theorem dX3_lengthFor_35 : decode cX3_lengthFor 35 = .ok (.iload_n 1, 1) := by decide +kernel
theorem dX3_lengthFor_36 : decode cX3_lengthFor 36 = .ok (.iaload, 1) := by decide +kernel
theorem dX3_lengthFor_37 : decode cX3_lengthFor 37 = .ok (.ireturn, 1) := by decide +kernel
set_option maxRecDepth 20000 in
theorem ggX3_numberFor_X3_numberOf : GoodIn wsX3_numberFor wsX3_numberOf := goodIn_r _ [6] (by decide +kernel) (by decide +kernel)
set_option maxRecDepth 20000 in
theorem gX3_numberFor_X3_numberOf : GoodIn wsX3_numberFor (va_wsS RX3 22 yX3_numberOf wsX3_numberOf) := goodIn_app (goodIn_of _ (by decide +kernel)) ggX3_numberFor_X3_numberOf
theorem dX3_numberFor_0 : decode cX3_numberFor 0 = .ok (.iload_n 1, 1) := by decide +kernel
theorem dX3_numberFor_1 : decode cX3_numberFor 1 = .ok (.iconst 2, 1) := by decide +kernel
theorem dX3_numberFor_2 : decode cX3_numberFor 2 = .ok (.if_icmp .lt 21, 3) := by decide +kernel
theorem dX3_numberFor_5 : decode cX3_numberFor 5 = .ok (.iload_n 1, 1) := by decide +kernel
theorem dX3_numberFor_6 : decode cX3_numberFor 6 = .ok (.aload_n 0, 1) := by decide +kernel
theorem dX3_numberFor_7 : decode cX3_numberFor 7 = .ok (.getfield 11, 3) := by decide +kernel
theorem dX3_numberFor_10 : decode cX3_numberFor 10 = .ok (.arraylength, 1) := by decide +kernel
theorem dX3_numberFor_11 : decode cX3_numberFor 11 = .ok (.if_icmp .ge 12, 3) := by decide +kernel
theorem dX3_numberFor_14 : decode cX3_numberFor 14 = .ok (.iload_n 1, 1) := by decide +kernel
theorem dX3_numberFor_15 : decode cX3_numberFor 15 = .ok (.aload_n 0, 1) := by decide +kernel
theorem dX3_numberFor_16 : decode cX3_numberFor 16 = .ok (.getfield 15, 3) := by decide +kernel
theorem dX3_numberFor_19 : decode cX3_numberFor 19 = .ok (.arraylength, 1) := by decide +kernel
theorem dX3_numberFor_20 : decode cX3_numberFor 20 = .ok (.if_icmp .lt 6, 3) := by decide +kernel
theorem dX3_numberFor_23 : decode cX3_numberFor 23 = .ok (.bipush (-6), 2) := by decide +kernel
theorem dX3_numberFor_25 : decode cX3_numberFor 25 = .ok (.ireturn, 1) := by decide +kernel
theorem dX3_numberFor_26 : decode cX3_numberFor 26 = .ok (.aload_n 0, 1) := by decide +kernel
theorem dX3_numberFor_27 : decode cX3_numberFor 27 = .ok (.getfield 11, 3) := by decide +kernel
theorem dX3_numberFor_30 : decode cX3_numberFor 30 = .ok (.iload_n 1, 1) := by decide +kernel
theorem dX3_numberFor_31 : decode cX3_numberFor 31 = .ok (.iaload, 1) := by decide +kernel
theorem dX3_numberFor_32 : decode cX3_numberFor 32 = .ok (.istore_n 3, 1) := by decide +kernel
theorem dX3_numberFor_33 : decode cX3_numberFor 33 = .ok (.iload_n 2, 1) := by decide +kernel
theorem dX3_numberFor_34 : decode cX3_numberFor 34 = .ok (.ifCond .lt 22, 3) := by decide +kernel
theorem dX3_numberFor_37 : decode cX3_numberFor 37 = .ok (.iload_n 2, 1) := by decide +kernel
theorem dX3_numberFor_38 : decode cX3_numberFor 38 = .ok (.iload_n 3, 1) := by decide +kernel
theorem dX3_numberFor_39 : decode cX3_numberFor 39 = .ok (.if_icmp .ge 17, 3) := by decide +kernel
theorem dX3_numberFor_42 : decode cX3_numberFor 42 = .ok (.aload_n 0, 1) := by decide +kernel
theorem dX3_numberFor_43 : decode cX3_numberFor 43 = .ok (.getfield 15, 3) := by decide +kernel
theorem dX3_numberFor_46 : decode cX3_numberFor 46 = .ok (.iload_n 1, 1) := by decide +kernel
theorem dX3_numberFor_47 : decode cX3_numberFor 47 = .ok (.iaload, 1) := by decide +kernel
theorem dX3_numberFor_48 : decode cX3_numberFor 48 = .ok (.iload_n 3, 1) := by decide +kernel
theorem dX3_numberFor_49 : decode cX3_numberFor 49 = .ok (.iload_n 2, 1) := by decide +kernel
theorem dX3_numberFor_50 : decode cX3_numberFor 50 = .ok (.invokestatic 22, 3) := by decide +kernel
theorem dX3_numberFor_53 : decode cX3_numberFor 53 = .ok (.goto 5, 3) := by decide +kernel
theorem dX3_numberFor_56 : decode cX3_numberFor 56 = .ok (.bipush (-6), 2) := by decide +kernel
theorem dX3_numberFor_58 : decode cX3_numberFor 58 = .ok (.ireturn, 1) := by decide +kernel
set_option maxRecDepth 20000 in
theorem ggX3_find_X3_firstOfLength : GoodIn wsX3_find wsX3_firstOfLength := goodIn_r _ [6, 7, 8, 5, 9, 10, 11, 12, 13, 14, 15] (by decide +kernel) (by decide +kernel)
set_option maxRecDepth 20000 in
theorem gX3_find_X3_firstOfLength : GoodIn wsX3_find (va_wsS RX3 26 yX3_firstOfLength wsX3_firstOfLength) := goodIn_app (goodIn_of _ (by decide +kernel)) ggX3_find_X3_firstOfLength
theorem dX3_find_0 : decode cX3_find 0 = .ok (.iload_n 1, 1) := by decide +kernel
theorem dX3_find_1 : decode cX3_find 1 = .ok (.iconst 2, 1) := by decide +kernel
theorem dX3_find_2 : decode cX3_find 2 = .ok (.if_icmp .lt 21, 3) := by decide +kernel
theorem dX3_find_5 : decode cX3_find 5 = .ok (.iload_n 1, 1) := by decide +kernel
theorem dX3_find_6 : decode cX3_find 6 = .ok (.aload_n 0, 1) := by decide +kernel
theorem dX3_find_7 : decode cX3_find 7 = .ok (.getfield 11, 3) := by decide +kernel
theorem dX3_find_10 : decode cX3_find 10 = .ok (.arraylength, 1) := by decide +kernel
theorem dX3_find_11 : decode cX3_find 11 = .ok (.if_icmp .ge 12, 3) := by decide +kernel
theorem dX3_find_14 : decode cX3_find 14 = .ok (.iload_n 1, 1) := by decide +kernel
theorem dX3_find_15 : decode cX3_find 15 = .ok (.aload_n 0, 1) := by decide +kernel
theorem dX3_find_16 : decode cX3_find 16 = .ok (.getfield 15, 3) := by decide +kernel
theorem dX3_find_19 : decode cX3_find 19 = .ok (.arraylength, 1) := by decide +kernel
theorem dX3_find_20 : decode cX3_find 20 = .ok (.if_icmp .lt 4, 3) := by decide +kernel
theorem dX3_find_23 : decode cX3_find 23 = .ok (.return_, 1) := by decide +kernel
theorem dX3_find_24 : decode cX3_find 24 = .ok (.aload_n 0, 1) := by decide +kernel
theorem dX3_find_25 : decode cX3_find 25 = .ok (.getfield 11, 3) := by decide +kernel
theorem dX3_find_28 : decode cX3_find 28 = .ok (.iload_n 1, 1) := by decide +kernel
theorem dX3_find_29 : decode cX3_find 29 = .ok (.bipush (-6), 2) := by decide +kernel
theorem dX3_find_31 : decode cX3_find 31 = .ok (.iastore, 1) := by decide +kernel
theorem dX3_find_32 : decode cX3_find 32 = .ok (.iconst 1, 1) := by decide +kernel
theorem dX3_find_33 : decode cX3_find 33 = .ok (.istore_n 2, 1) := by decide +kernel
theorem dX3_find_34 : decode cX3_find 34 = .ok (.iload_n 2, 1) := by decide +kernel
theorem dX3_find_35 : decode cX3_find 35 = .ok (.bipush 12, 2) := by decide +kernel
theorem dX3_find_37 : decode cX3_find 37 = .ok (.if_icmp .gt 46, 3) := by decide +kernel
theorem dX3_find_40 : decode cX3_find 40 = .ok (.aload_n 0, 1) := by decide +kernel
theorem dX3_find_41 : decode cX3_find 41 = .ok (.getfield 11, 3) := by decide +kernel
theorem dX3_find_44 : decode cX3_find 44 = .ok (.iload_n 1, 1) := by decide +kernel
theorem dX3_find_45 : decode cX3_find 45 = .ok (.iaload, 1) := by decide +kernel
theorem dX3_find_46 : decode cX3_find 46 = .ok (.bipush (-6), 2) := by decide +kernel
theorem dX3_find_48 : decode cX3_find 48 = .ok (.if_icmp .ne 35, 3) := by decide +kernel
theorem dX3_find_51 : decode cX3_find 51 = .ok (.iload_n 1, 1) := by decide +kernel
theorem dX3_find_52 : decode cX3_find 52 = .ok (.iload_n 2, 1) := by decide +kernel
theorem dX3_find_53 : decode cX3_find 53 = .ok (.invokestatic 26, 3) := by decide +kernel
theorem dX3_find_56 : decode cX3_find 56 = .ok (.istore_n 3, 1) := by decide +kernel
theorem dX3_find_57 : decode cX3_find 57 = .ok (.iload_n 3, 1) := by decide +kernel
theorem dX3_find_58 : decode cX3_find 58 = .ok (.bipush (-6), 2) := by decide +kernel
theorem dX3_find_60 : decode cX3_find 60 = .ok (.if_icmp .eq 17, 3) := by decide +kernel
theorem dX3_find_63 : decode cX3_find 63 = .ok (.aload_n 0, 1) := by decide +kernel
theorem dX3_find_64 : decode cX3_find 64 = .ok (.getfield 11, 3) := by decide +kernel
theorem dX3_find_67 : decode cX3_find 67 = .ok (.iload_n 1, 1) := by decide +kernel
theorem dX3_find_68 : decode cX3_find 68 = .ok (.iload_n 2, 1) := by decide +kernel
theorem dX3_find_69 : decode cX3_find 69 = .ok (.iastore, 1) := by decide +kernel
theorem dX3_find_70 : decode cX3_find 70 = .ok (.aload_n 0, 1) := by decide +kernel
theorem dX3_find_71 : decode cX3_find 71 = .ok (.getfield 15, 3) := by decide +kernel
theorem dX3_find_74 : decode cX3_find 74 = .ok (.iload_n 1, 1) := by decide +kernel
theorem dX3_find_75 : decode cX3_find 75 = .ok (.iload_n 3, 1) := by decide +kernel
theorem dX3_find_76 : decode cX3_find 76 = .ok (.iastore, 1) := by decide +kernel
theorem dX3_find_77 : decode cX3_find 77 = .ok (.iinc 2 1, 3) := by decide +kernel
theorem dX3_find_80 : decode cX3_find 80 = .ok (.goto (-46), 3) := by decide +kernel
theorem dX3_find_83 : decode cX3_find 83 = .ok (.return_, 1) := by decide +kernel
set_option maxRecDepth 20000 in
theorem ggX3_firstOfLength_X3_walksAllRings : GoodIn wsX3_firstOfLength wsX3_walksAllRings := goodIn_r _ [4, 5, 6, 3, 7, 8, 9, 10] (by decide +kernel) (by decide +kernel)
set_option maxRecDepth 20000 in
theorem gX3_firstOfLength_X3_walksAllRings : GoodIn wsX3_firstOfLength (va_wsS RX3 30 yX3_walksAllRings wsX3_walksAllRings) := goodIn_app (goodIn_of _ (by decide +kernel)) ggX3_firstOfLength_X3_walksAllRings
theorem dX3_firstOfLength_0 : decode cX3_firstOfLength 0 = .ok (.iconst 0, 1) := by decide +kernel
theorem dX3_firstOfLength_1 : decode cX3_firstOfLength 1 = .ok (.istore_n 2, 1) := by decide +kernel
theorem dX3_firstOfLength_2 : decode cX3_firstOfLength 2 = .ok (.iload_n 2, 1) := by decide +kernel
theorem dX3_firstOfLength_3 : decode cX3_firstOfLength 3 = .ok (.iconst 1, 1) := by decide +kernel
theorem dX3_firstOfLength_4 : decode cX3_firstOfLength 4 = .ok (.iload_n 1, 1) := by decide +kernel
theorem dX3_firstOfLength_5 : decode cX3_firstOfLength 5 = .ok (.ishl, 1) := by decide +kernel
theorem dX3_firstOfLength_6 : decode cX3_firstOfLength 6 = .ok (.if_icmp .ge 20, 3) := by decide +kernel
theorem dX3_firstOfLength_9 : decode cX3_firstOfLength 9 = .ok (.iload_n 0, 1) := by decide +kernel
theorem dX3_firstOfLength_10 : decode cX3_firstOfLength 10 = .ok (.iload_n 2, 1) := by decide +kernel
theorem dX3_firstOfLength_11 : decode cX3_firstOfLength 11 = .ok (.iload_n 1, 1) := by decide +kernel
theorem dX3_firstOfLength_12 : decode cX3_firstOfLength 12 = .ok (.invokestatic 30, 3) := by decide +kernel
theorem dX3_firstOfLength_15 : decode cX3_firstOfLength 15 = .ok (.ifCond .eq 5, 3) := by decide +kernel
theorem dX3_firstOfLength_18 : decode cX3_firstOfLength 18 = .ok (.iload_n 2, 1) := by decide +kernel
theorem dX3_firstOfLength_19 : decode cX3_firstOfLength 19 = .ok (.ireturn, 1) := by decide +kernel
theorem dX3_firstOfLength_20 : decode cX3_firstOfLength 20 = .ok (.iinc 2 1, 3) := by decide +kernel
theorem dX3_firstOfLength_23 : decode cX3_firstOfLength 23 = .ok (.goto (-21), 3) := by decide +kernel
theorem dX3_firstOfLength_26 : decode cX3_firstOfLength 26 = .ok (.bipush (-6), 2) := by decide +kernel
theorem dX3_firstOfLength_28 : decode cX3_firstOfLength 28 = .ok (.ireturn, 1) := by decide +kernel
set_option maxRecDepth 20000 in
theorem ggX3_walksAllRings_X3_walksAll : GoodIn wsX3_walksAllRings wsX3_walksAll := goodIn_r _ [4, 5, 6, 3, 7] (by decide +kernel) (by decide +kernel)
set_option maxRecDepth 20000 in
theorem gX3_walksAllRings_X3_walksAll : GoodIn wsX3_walksAllRings (va_wsS RX3 34 yX3_walksAll wsX3_walksAll) := goodIn_app (goodIn_of _ (by decide +kernel)) ggX3_walksAllRings_X3_walksAll
theorem dX3_walksAllRings_0 : decode cX3_walksAllRings 0 = .ok (.iconst 0, 1) := by decide +kernel
theorem dX3_walksAllRings_1 : decode cX3_walksAllRings 1 = .ok (.istore_n 3, 1) := by decide +kernel
theorem dX3_walksAllRings_2 : decode cX3_walksAllRings 2 = .ok (.iload_n 3, 1) := by decide +kernel
theorem dX3_walksAllRings_3 : decode cX3_walksAllRings 3 = .ok (.iconst 1, 1) := by decide +kernel
theorem dX3_walksAllRings_4 : decode cX3_walksAllRings 4 = .ok (.iload_n 0, 1) := by decide +kernel
theorem dX3_walksAllRings_5 : decode cX3_walksAllRings 5 = .ok (.ishl, 1) := by decide +kernel
theorem dX3_walksAllRings_6 : decode cX3_walksAllRings 6 = .ok (.if_icmp .ge 38, 3) := by decide +kernel
theorem dX3_walksAllRings_9 : decode cX3_walksAllRings 9 = .ok (.iconst 0, 1) := by decide +kernel
theorem dX3_walksAllRings_10 : decode cX3_walksAllRings 10 = .ok (.istore 4, 2) := by decide +kernel
theorem dX3_walksAllRings_12 : decode cX3_walksAllRings 12 = .ok (.iload 4, 2) := by decide +kernel
theorem dX3_walksAllRings_14 : decode cX3_walksAllRings 14 = .ok (.iload_n 0, 1) := by decide +kernel
theorem dX3_walksAllRings_15 : decode cX3_walksAllRings 15 = .ok (.if_icmp .ge 23, 3) := by decide +kernel
theorem dX3_walksAllRings_18 : decode cX3_walksAllRings 18 = .ok (.iload_n 0, 1) := by decide +kernel
theorem dX3_walksAllRings_19 : decode cX3_walksAllRings 19 = .ok (.iload_n 3, 1) := by decide +kernel
theorem dX3_walksAllRings_20 : decode cX3_walksAllRings 20 = .ok (.iload 4, 2) := by decide +kernel
theorem dX3_walksAllRings_22 : decode cX3_walksAllRings 22 = .ok (.iload_n 1, 1) := by decide +kernel
theorem dX3_walksAllRings_23 : decode cX3_walksAllRings 23 = .ok (.iload_n 2, 1) := by decide +kernel
theorem dX3_walksAllRings_24 : decode cX3_walksAllRings 24 = .ok (.invokestatic 34, 3) := by decide +kernel
theorem dX3_walksAllRings_27 : decode cX3_walksAllRings 27 = .ok (.ifCond .ne 5, 3) := by decide +kernel
theorem dX3_walksAllRings_30 : decode cX3_walksAllRings 30 = .ok (.iconst 0, 1) := by decide +kernel
theorem dX3_walksAllRings_31 : decode cX3_walksAllRings 31 = .ok (.ireturn, 1) := by decide +kernel
theorem dX3_walksAllRings_32 : decode cX3_walksAllRings 32 = .ok (.iinc 4 1, 3) := by decide +kernel
theorem dX3_walksAllRings_35 : decode cX3_walksAllRings 35 = .ok (.goto (-23), 3) := by decide +kernel
theorem dX3_walksAllRings_38 : decode cX3_walksAllRings 38 = .ok (.iinc 3 1, 3) := by decide +kernel
theorem dX3_walksAllRings_41 : decode cX3_walksAllRings 41 = .ok (.goto (-39), 3) := by decide +kernel
theorem dX3_walksAllRings_44 : decode cX3_walksAllRings 44 = .ok (.iconst 1, 1) := by decide +kernel
theorem dX3_walksAllRings_45 : decode cX3_walksAllRings 45 = .ok (.ireturn, 1) := by decide +kernel
set_option maxRecDepth 20000 in
theorem ggX3_walksAll_X3_numberOf : GoodIn wsX3_walksAll wsX3_numberOf := goodIn_r _ [4] (by decide +kernel) (by decide +kernel)
set_option maxRecDepth 20000 in
theorem gX3_walksAll_X3_numberOf : GoodIn wsX3_walksAll (va_wsS RX3 22 yX3_numberOf wsX3_numberOf) := goodIn_app (goodIn_of _ (by decide +kernel)) ggX3_walksAll_X3_numberOf
theorem dX3_walksAll_0 : decode cX3_walksAll 0 = .ok (.iload_n 2, 1) := by decide +kernel
theorem dX3_walksAll_1 : decode cX3_walksAll 1 = .ok (.istore 5, 2) := by decide +kernel
theorem dX3_walksAll_3 : decode cX3_walksAll 3 = .ok (.iconst 1, 1) := by decide +kernel
theorem dX3_walksAll_4 : decode cX3_walksAll 4 = .ok (.iload_n 2, 1) := by decide +kernel
theorem dX3_walksAll_5 : decode cX3_walksAll 5 = .ok (.ishl, 1) := by decide +kernel
theorem dX3_walksAll_6 : decode cX3_walksAll 6 = .ok (.istore 6, 2) := by decide +kernel
theorem dX3_walksAll_8 : decode cX3_walksAll 8 = .ok (.iconst 0, 1) := by decide +kernel
theorem dX3_walksAll_9 : decode cX3_walksAll 9 = .ok (.istore 7, 2) := by decide +kernel
theorem dX3_walksAll_11 : decode cX3_walksAll 11 = .ok (.iload 7, 2) := by decide +kernel
theorem dX3_walksAll_13 : decode cX3_walksAll 13 = .ok (.iload 4, 2) := by decide +kernel
theorem dX3_walksAll_15 : decode cX3_walksAll 15 = .ok (.if_icmp .ge 79, 3) := by decide +kernel
theorem dX3_walksAll_18 : decode cX3_walksAll 18 = .ok (.iload_n 3, 1) := by decide +kernel
theorem dX3_walksAll_19 : decode cX3_walksAll 19 = .ok (.iload 4, 2) := by decide +kernel
theorem dX3_walksAll_21 : decode cX3_walksAll 21 = .ok (.iload 7, 2) := by decide +kernel
theorem dX3_walksAll_23 : decode cX3_walksAll 23 = .ok (.invokestatic 22, 3) := by decide +kernel
theorem dX3_walksAll_26 : decode cX3_walksAll 26 = .ok (.iload_n 1, 1) := by decide +kernel
theorem dX3_walksAll_27 : decode cX3_walksAll 27 = .ok (.iload 5, 2) := by decide +kernel
theorem dX3_walksAll_29 : decode cX3_walksAll 29 = .ok (.ishr, 1) := by decide +kernel
theorem dX3_walksAll_30 : decode cX3_walksAll 30 = .ok (.iconst 1, 1) := by decide +kernel
theorem dX3_walksAll_31 : decode cX3_walksAll 31 = .ok (.iand, 1) := by decide +kernel
theorem dX3_walksAll_32 : decode cX3_walksAll 32 = .ok (.if_icmp .ne 7, 3) := by decide +kernel
theorem dX3_walksAll_35 : decode cX3_walksAll 35 = .ok (.iconst 1, 1) := by decide +kernel
theorem dX3_walksAll_36 : decode cX3_walksAll 36 = .ok (.goto 4, 3) := by decide +kernel
theorem dX3_walksAll_39 : decode cX3_walksAll 39 = .ok (.iconst 0, 1) := by decide +kernel
theorem dX3_walksAll_40 : decode cX3_walksAll 40 = .ok (.istore 8, 2) := by decide +kernel
theorem dX3_walksAll_42 : decode cX3_walksAll 42 = .ok (.iload 5, 2) := by decide +kernel
theorem dX3_walksAll_44 : decode cX3_walksAll 44 = .ok (.iload 8, 2) := by decide +kernel
theorem dX3_walksAll_46 : decode cX3_walksAll 46 = .ok (.ifCond .eq 7, 3) := by decide +kernel
theorem dX3_walksAll_49 : decode cX3_walksAll 49 = .ok (.iconst 1, 1) := by decide +kernel
theorem dX3_walksAll_50 : decode cX3_walksAll 50 = .ok (.goto 4, 3) := by decide +kernel
theorem dX3_walksAll_53 : decode cX3_walksAll 53 = .ok (.iconst (-1), 1) := by decide +kernel
theorem dX3_walksAll_54 : decode cX3_walksAll 54 = .ok (.iadd, 1) := by decide +kernel
theorem dX3_walksAll_55 : decode cX3_walksAll 55 = .ok (.istore 5, 2) := by decide +kernel
theorem dX3_walksAll_57 : decode cX3_walksAll 57 = .ok (.iload 5, 2) := by decide +kernel
theorem dX3_walksAll_59 : decode cX3_walksAll 59 = .ok (.iload_n 0, 1) := by decide +kernel
theorem dX3_walksAll_60 : decode cX3_walksAll 60 = .ok (.if_icmp .ne 9, 3) := by decide +kernel
theorem dX3_walksAll_63 : decode cX3_walksAll 63 = .ok (.iconst 0, 1) := by decide +kernel
theorem dX3_walksAll_64 : decode cX3_walksAll 64 = .ok (.istore 5, 2) := by decide +kernel
theorem dX3_walksAll_66 : decode cX3_walksAll 66 = .ok (.goto 13, 3) := by decide +kernel
theorem dX3_walksAll_69 : decode cX3_walksAll 69 = .ok (.iload 5, 2) := by decide +kernel
theorem dX3_walksAll_71 : decode cX3_walksAll 71 = .ok (.ifCond .ge 8, 3) := by decide +kernel
theorem dX3_walksAll_74 : decode cX3_walksAll 74 = .ok (.iload_n 0, 1) := by decide +kernel
theorem dX3_walksAll_75 : decode cX3_walksAll 75 = .ok (.iconst 1, 1) := by decide +kernel
theorem dX3_walksAll_76 : decode cX3_walksAll 76 = .ok (.isub, 1) := by decide +kernel
theorem dX3_walksAll_77 : decode cX3_walksAll 77 = .ok (.istore 5, 2) := by decide +kernel
theorem dX3_walksAll_79 : decode cX3_walksAll 79 = .ok (.iload 6, 2) := by decide +kernel
theorem dX3_walksAll_81 : decode cX3_walksAll 81 = .ok (.iconst 1, 1) := by decide +kernel
theorem dX3_walksAll_82 : decode cX3_walksAll 82 = .ok (.iload 5, 2) := by decide +kernel
theorem dX3_walksAll_84 : decode cX3_walksAll 84 = .ok (.ishl, 1) := by decide +kernel
theorem dX3_walksAll_85 : decode cX3_walksAll 85 = .ok (.ior, 1) := by decide +kernel
theorem dX3_walksAll_86 : decode cX3_walksAll 86 = .ok (.istore 6, 2) := by decide +kernel
theorem dX3_walksAll_88 : decode cX3_walksAll 88 = .ok (.iinc 7 1, 3) := by decide +kernel
theorem dX3_walksAll_91 : decode cX3_walksAll 91 = .ok (.goto (-80), 3) := by decide +kernel
theorem dX3_walksAll_94 : decode cX3_walksAll 94 = .ok (.iload 6, 2) := by decide +kernel
theorem dX3_walksAll_96 : decode cX3_walksAll 96 = .ok (.iconst 1, 1) := by decide +kernel
theorem dX3_walksAll_97 : decode cX3_walksAll 97 = .ok (.iload_n 0, 1) := by decide +kernel
theorem dX3_walksAll_98 : decode cX3_walksAll 98 = .ok (.ishl, 1) := by decide +kernel
theorem dX3_walksAll_99 : decode cX3_walksAll 99 = .ok (.iconst 1, 1) := by decide +kernel
theorem dX3_walksAll_100 : decode cX3_walksAll 100 = .ok (.isub, 1) := by decide +kernel
theorem dX3_walksAll_101 : decode cX3_walksAll 101 = .ok (.if_icmp .ne 7, 3) := by decide +kernel
theorem dX3_walksAll_104 : decode cX3_walksAll 104 = .ok (.iconst 1, 1) := by decide +kernel
theorem dX3_walksAll_105 : decode cX3_walksAll 105 = .ok (.goto 4, 3) := by decide +kernel
theorem dX3_walksAll_108 : decode cX3_walksAll 108 = .ok (.iconst 0, 1) := by decide +kernel
theorem dX3_walksAll_109 : decode cX3_walksAll 109 = .ok (.ireturn, 1) := by decide +kernel
theorem dX3_numberOf_0 : decode cX3_numberOf 0 = .ok (.iload_n 0, 1) := by decide +kernel
theorem dX3_numberOf_1 : decode cX3_numberOf 1 = .ok (.iload_n 1, 1) := by decide +kernel
theorem dX3_numberOf_2 : decode cX3_numberOf 2 = .ok (.iconst 1, 1) := by decide +kernel
theorem dX3_numberOf_3 : decode cX3_numberOf 3 = .ok (.isub, 1) := by decide +kernel
theorem dX3_numberOf_4 : decode cX3_numberOf 4 = .ok (.iload_n 2, 1) := by decide +kernel
theorem dX3_numberOf_5 : decode cX3_numberOf 5 = .ok (.isub, 1) := by decide +kernel
theorem dX3_numberOf_6 : decode cX3_numberOf 6 = .ok (.ishr, 1) := by decide +kernel
theorem dX3_numberOf_7 : decode cX3_numberOf 7 = .ok (.iconst 1, 1) := by decide +kernel
theorem dX3_numberOf_8 : decode cX3_numberOf 8 = .ok (.iand, 1) := by decide +kernel
theorem dX3_numberOf_9 : decode cX3_numberOf 9 = .ok (.ireturn, 1) := by decide +kernel
theorem dX4_init_0 : decode cX4_init 0 = .ok (.aload_n 0, 1) := by decide +kernel
theorem dX4_init_1 : decode cX4_init 1 = .ok (.invokespecial 3, 3) := by decide +kernel
theorem dX4_init_4 : decode cX4_init 4 = .ok (.aload_n 0, 1) := by decide +kernel
theorem dX4_init_5 : decode cX4_init 5 = .ok (.bipush 40, 2) := by decide +kernel
theorem dX4_init_7 : decode cX4_init 7 = .ok (.newarray .int, 2) := by decide +kernel
theorem dX4_init_9 : decode cX4_init 9 = .ok (.putfield 9, 3) := by decide +kernel
theorem dX4_init_12 : decode cX4_init 12 = .ok (.aload_n 0, 1) := by decide +kernel
theorem dX4_init_13 : decode cX4_init 13 = .ok (.iconst 0, 1) := by decide +kernel
theorem dX4_init_14 : decode cX4_init 14 = .ok (.putfield 15, 3) := by decide +kernel
theorem dX4_init_17 : decode cX4_init 17 = .ok (.return_, 1) := by decide +kernel
theorem dX4_isFull_0 : decode cX4_isFull 0 = .ok (.aload_n 0, 1) := by decide +kernel
theorem dX4_isFull_1 : decode cX4_isFull 1 = .ok (.getfield 15, 3) := by decide +kernel
theorem dX4_isFull_4 : decode cX4_isFull 4 = .ok (.aload_n 0, 1) := by decide +kernel
theorem dX4_isFull_5 : decode cX4_isFull 5 = .ok (.getfield 9, 3) := by decide +kernel
theorem dX4_isFull_8 : decode cX4_isFull 8 = .ok (.arraylength, 1) := by decide +kernel
theorem dX4_isFull_9 : decode cX4_isFull 9 = .ok (.if_icmp .lt 7, 3) := by decide +kernel
theorem dX4_isFull_12 : decode cX4_isFull 12 = .ok (.iconst 1, 1) := by decide +kernel
theorem dX4_isFull_13 : decode cX4_isFull 13 = .ok (.goto 4, 3) := by decide +kernel
theorem dX4_isFull_16 : decode cX4_isFull 16 = .ok (.iconst 0, 1) := by decide +kernel
theorem dX4_isFull_17 : decode cX4_isFull 17 = .ok (.ireturn, 1) := by decide +kernel
set_option maxRecDepth 20000 in
theorem ggX4_append_X4_isFull : GoodIn wsX4_append wsX4_isFull := goodIn_r _ [7, 2, 1, 8, 9] (by decide +kernel) (by decide +kernel)
set_option maxRecDepth 20000 in
theorem gX4_append_X4_isFull : GoodIn wsX4_append (wsV RX4 19 RX4 yX4_isFull wsX4_isFull) := goodIn_app (goodIn_of _ (by decide +kernel)) ggX4_append_X4_isFull
theorem dX4_append_0 : decode cX4_append 0 = .ok (.aload_n 0, 1) := by decide +kernel
theorem dX4_append_1 : decode cX4_append 1 = .ok (.invokevirtual 19, 3) := by decide +kernel
theorem dX4_append_4 : decode cX4_append 4 = .ok (.ifCond .ne 23, 3) := by decide +kernel
theorem dX4_append_7 : decode cX4_append 7 = .ok (.aload_n 0, 1) := by decide +kernel
theorem dX4_append_8 : decode cX4_append 8 = .ok (.getfield 9, 3) := by decide +kernel
theorem dX4_append_11 : decode cX4_append 11 = .ok (.aload_n 0, 1) := by decide +kernel
theorem dX4_append_12 : decode cX4_append 12 = .ok (.getfield 15, 3) := by decide +kernel
theorem dX4_append_15 : decode cX4_append 15 = .ok (.iload_n 1, 1) := by decide +kernel
theorem dX4_append_16 : decode cX4_append 16 = .ok (.iastore, 1) := by decide +kernel
theorem dX4_append_17 : decode cX4_append 17 = .ok (.aload_n 0, 1) := by decide +kernel
theorem dX4_append_18 : decode cX4_append 18 = .ok (.dup, 1) := by decide +kernel
theorem dX4_append_19 : decode cX4_append 19 = .ok (.getfield 15, 3) := by decide +kernel
theorem dX4_append_22 : decode cX4_append 22 = .ok (.iconst 1, 1) := by decide +kernel
theorem dX4_append_23 : decode cX4_append 23 = .ok (.iadd, 1) := by decide +kernel
theorem dX4_append_24 : decode cX4_append 24 = .ok (.putfield 15, 3) := by decide +kernel
theorem dX4_append_27 : decode cX4_append 27 = .ok (.return_, 1) := by decide +kernel
theorem dX4_empty_0 : decode cX4_empty 0 = .ok (.aload_n 0, 1) := by decide +kernel
theorem dX4_empty_1 : decode cX4_empty 1 = .ok (.getfield 15, 3) := by decide +kernel
theorem dX4_empty_4 : decode cX4_empty 4 = .ok (.istore_n 1, 1) := by decide +kernel
theorem dX4_empty_5 : decode cX4_empty 5 = .ok (.aload_n 0, 1) := by decide +kernel
theorem dX4_empty_6 : decode cX4_empty 6 = .ok (.iconst 0, 1) := by decide +kernel
theorem dX4_empty_7 : decode cX4_empty 7 = .ok (.putfield 15, 3) := by decide +kernel
theorem dX4_empty_10 : decode cX4_empty 10 = .ok (.iload_n 1, 1) := by decide +kernel
theorem dX4_empty_11 : decode cX4_empty 11 = .ok (.ireturn, 1) := by decide +kernel
theorem dX4_has_0 : decode cX4_has 0 = .ok (.iload_n 1, 1) := by decide +kernel
theorem dX4_has_1 : decode cX4_has 1 = .ok (.ifCond .lt 15, 3) := by decide +kernel
theorem dX4_has_4 : decode cX4_has 4 = .ok (.iload_n 1, 1) := by decide +kernel
theorem dX4_has_5 : decode cX4_has 5 = .ok (.aload_n 0, 1) := by decide +kernel
theorem dX4_has_6 : decode cX4_has 6 = .ok (.getfield 15, 3) := by decide +kernel
theorem dX4_has_9 : decode cX4_has 9 = .ok (.if_icmp .ge 7, 3) := by decide +kernel
theorem dX4_has_12 : decode cX4_has 12 = .ok (.iconst 1, 1) := by decide +kernel
theorem dX4_has_13 : decode cX4_has 13 = .ok (.goto 4, 3) := by decide +kernel
theorem dX4_has_16 : decode cX4_has 16 = .ok (.iconst 0, 1) := by decide +kernel
theorem dX4_has_17 : decode cX4_has 17 = .ok (.ireturn, 1) := by decide +kernel
set_option maxRecDepth 20000 in
theorem ggX4_numberAt_X4_has : GoodIn wsX4_numberAt wsX4_has := goodIn_r _ [6, 7, 8, 9] (by decide +kernel) (by decide +kernel)
set_option maxRecDepth 20000 in
theorem gX4_numberAt_X4_has : GoodIn wsX4_numberAt (wsV RX4 23 RX4 yX4_has wsX4_has) := goodIn_app (goodIn_of _ (by decide +kernel)) ggX4_numberAt_X4_has
theorem dX4_numberAt_0 : decode cX4_numberAt 0 = .ok (.aload_n 0, 1) := by decide +kernel
theorem dX4_numberAt_1 : decode cX4_numberAt 1 = .ok (.iload_n 1, 1) := by decide +kernel
theorem dX4_numberAt_2 : decode cX4_numberAt 2 = .ok (.invokevirtual 23, 3) := by decide +kernel
theorem dX4_numberAt_5 : decode cX4_numberAt 5 = .ok (.ifCond .eq 21, 3) := by decide +kernel
theorem dX4_numberAt_8 : decode cX4_numberAt 8 = .ok (.iload_n 1, 1) := by decide +kernel
theorem dX4_numberAt_9 : decode cX4_numberAt 9 = .ok (.aload_n 0, 1) := by decide +kernel
theorem dX4_numberAt_10 : decode cX4_numberAt 10 = .ok (.getfield 9, 3) := by decide +kernel
theorem dX4_numberAt_13 : decode cX4_numberAt 13 = .ok (.arraylength, 1) := by decide +kernel
theorem dX4_numberAt_14 : decode cX4_numberAt 14 = .ok (.if_icmp .ge 12, 3) := by decide +kernel
theorem dX4_numberAt_17 : decode cX4_numberAt 17 = .ok (.aload_n 0, 1) := by decide +kernel
theorem dX4_numberAt_18 : decode cX4_numberAt 18 = .ok (.getfield 9, 3) := by decide +kernel
theorem dX4_numberAt_21 : decode cX4_numberAt 21 = .ok (.iload_n 1, 1) := by decide +kernel
theorem dX4_numberAt_22 : decode cX4_numberAt 22 = .ok (.iaload, 1) := by decide +kernel
theorem dX4_numberAt_23 : decode cX4_numberAt 23 = .ok (.goto 4, 3) := by decide +kernel
theorem dX4_numberAt_26 : decode cX4_numberAt 26 = .ok (.iconst 0, 1) := by decide +kernel
theorem dX4_numberAt_27 : decode cX4_numberAt 27 = .ok (.ireturn, 1) := by decide +kernel
set_option maxRecDepth 20000 in
theorem ggX5_init_X2_init : GoodIn wsX5_init wsX2_init := goodIn_r _ [27, 28, 2, 3, 29, 30, 31, 32, 33, 34, 35, 36, 6, 37, 38, 39, 40, 41, 42, 43, 66, 67, 68, 69, 70] (by decide +kernel) (by decide +kernel)
set_option maxRecDepth 20000 in
theorem gX5_init_X2_init : GoodIn wsX5_init (wsX2_init) := ggX5_init_X2_init
set_option maxRecDepth 20000 in
theorem ggX5_init_X4_init : GoodIn wsX5_init wsX4_init := goodIn_r _ [45, 46, 2, 3, 29, 47, 48, 77, 78] (by decide +kernel) (by decide +kernel)
set_option maxRecDepth 20000 in
theorem gX5_init_X4_init_n18 : GoodIn wsX5_init (wsX4_init) := ggX5_init_X4_init
set_option maxRecDepth 20000 in
theorem ggX5_init_X0_init : GoodIn wsX5_init wsX0_init := goodIn_r _ [51, 52, 2, 3, 53, 79] (by decide +kernel) (by decide +kernel)
set_option maxRecDepth 20000 in
theorem gX5_init_X0_init : GoodIn wsX5_init (wsX0_init) := ggX5_init_X0_init
set_option maxRecDepth 20000 in
theorem ggX5_init_X1_init : GoodIn wsX5_init wsX1_init := goodIn_r _ [56, 57, 2, 3, 29, 58, 59, 60, 80, 81, 82, 83] (by decide +kernel) (by decide +kernel)
set_option maxRecDepth 20000 in
theorem gX5_init_X1_init : GoodIn wsX5_init (wsX1_init) := ggX5_init_X1_init
set_option maxRecDepth 20000 in
theorem ggX5_init_X3_init : GoodIn wsX5_init wsX3_init := goodIn_r _ [62, 63, 2, 3, 29, 64, 65, 84, 85] (by decide +kernel) (by decide +kernel)
set_option maxRecDepth 20000 in
theorem gX5_init_X3_init_n44 : GoodIn wsX5_init (wsX3_init) := ggX5_init_X3_init
theorem dX5_init_0 : decode cX5_init 0 = .ok (.aload_n 0, 1) := by decide +kernel
theorem dX5_init_1 : decode cX5_init 1 = .ok (.invokespecial 1, 3) := by decide +kernel
theorem dX5_init_4 : decode cX5_init 4 = .ok (.aload_n 0, 1) := by decide +kernel
theorem dX5_init_5 : decode cX5_init 5 = .ok (.new 7, 3) := by decide +kernel
theorem dX5_init_8 : decode cX5_init 8 = .ok (.dup, 1) := by decide +kernel
theorem dX5_init_9 : decode cX5_init 9 = .ok (.invokespecial 9, 3) := by decide +kernel
theorem dX5_init_12 : decode cX5_init 12 = .ok (.putfield 10, 3) := by decide +kernel
theorem dX5_init_15 : decode cX5_init 15 = .ok (.aload_n 0, 1) := by decide +kernel
theorem dX5_init_16 : decode cX5_init 16 = .ok (.new 16, 3) := by decide +kernel
theorem dX5_init_19 : decode cX5_init 19 = .ok (.dup, 1) := by decide +kernel
theorem dX5_init_20 : decode cX5_init 20 = .ok (.invokespecial 18, 3) := by decide +kernel
theorem dX5_init_23 : decode cX5_init 23 = .ok (.putfield 19, 3) := by decide +kernel
theorem dX5_init_26 : decode cX5_init 26 = .ok (.aload_n 0, 1) := by decide +kernel
theorem dX5_init_27 : decode cX5_init 27 = .ok (.new 16, 3) := by decide +kernel
theorem dX5_init_30 : decode cX5_init 30 = .ok (.dup, 1) := by decide +kernel
theorem dX5_init_31 : decode cX5_init 31 = .ok (.invokespecial 18, 3) := by decide +kernel
theorem dX5_init_34 : decode cX5_init 34 = .ok (.putfield 23, 3) := by decide +kernel
theorem dX5_init_37 : decode cX5_init 37 = .ok (.aload_n 0, 1) := by decide +kernel
theorem dX5_init_38 : decode cX5_init 38 = .ok (.new 26, 3) := by decide +kernel
theorem dX5_init_41 : decode cX5_init 41 = .ok (.dup, 1) := by decide +kernel
theorem dX5_init_42 : decode cX5_init 42 = .ok (.aload_n 0, 1) := by decide +kernel
theorem dX5_init_43 : decode cX5_init 43 = .ok (.getfield 10, 3) := by decide +kernel
theorem dX5_init_46 : decode cX5_init 46 = .ok (.invokespecial 28, 3) := by decide +kernel
theorem dX5_init_49 : decode cX5_init 49 = .ok (.putfield 31, 3) := by decide +kernel
theorem dX5_init_52 : decode cX5_init 52 = .ok (.aload_n 0, 1) := by decide +kernel
theorem dX5_init_53 : decode cX5_init 53 = .ok (.new 35, 3) := by decide +kernel
theorem dX5_init_56 : decode cX5_init 56 = .ok (.dup, 1) := by decide +kernel
theorem dX5_init_57 : decode cX5_init 57 = .ok (.aload_n 0, 1) := by decide +kernel
theorem dX5_init_58 : decode cX5_init 58 = .ok (.getfield 10, 3) := by decide +kernel
theorem dX5_init_61 : decode cX5_init 61 = .ok (.invokespecial 37, 3) := by decide +kernel
theorem dX5_init_64 : decode cX5_init 64 = .ok (.putfield 38, 3) := by decide +kernel
theorem dX5_init_67 : decode cX5_init 67 = .ok (.aload_n 0, 1) := by decide +kernel
theorem dX5_init_68 : decode cX5_init 68 = .ok (.new 42, 3) := by decide +kernel
theorem dX5_init_71 : decode cX5_init 71 = .ok (.dup, 1) := by decide +kernel
theorem dX5_init_72 : decode cX5_init 72 = .ok (.invokespecial 44, 3) := by decide +kernel
theorem dX5_init_75 : decode cX5_init 75 = .ok (.putfield 45, 3) := by decide +kernel
theorem dX5_init_78 : decode cX5_init 78 = .ok (.return_, 1) := by decide +kernel
set_option maxRecDepth 20000 in
theorem ggX5_posts_X2_begin : GoodIn wsX5_posts wsX2_begin := goodIn_r _ [7, 8, 9, 10, 11, 12, 13, 14, 6, 15, 16, 23, 24, 25, 26, 27] (by decide +kernel) (by decide +kernel)
set_option maxRecDepth 20000 in
theorem gX5_posts_X2_begin : GoodIn wsX5_posts (wsV RX5 53 RX2 yX2_begin wsX2_begin) := goodIn_app (goodIn_of _ (by decide +kernel)) ggX5_posts_X2_begin
theorem dX5_posts_0 : decode cX5_posts 0 = .ok (.iload_n 1, 1) := by decide +kernel
theorem dX5_posts_1 : decode cX5_posts 1 = .ok (.iconst 1, 1) := by decide +kernel
theorem dX5_posts_2 : decode cX5_posts 2 = .ok (.if_icmp .lt 9, 3) := by decide +kernel
theorem dX5_posts_5 : decode cX5_posts 5 = .ok (.iload_n 1, 1) := by decide +kernel
theorem dX5_posts_6 : decode cX5_posts 6 = .ok (.bipush 8, 2) := by decide +kernel
theorem dX5_posts_8 : decode cX5_posts 8 = .ok (.if_icmp .le 6, 3) := by decide +kernel
theorem dX5_posts_11 : decode cX5_posts 11 = .ok (.bipush (-2), 2) := by decide +kernel
theorem dX5_posts_13 : decode cX5_posts 13 = .ok (.ireturn, 1) := by decide +kernel
theorem dX5_posts_14 : decode cX5_posts 14 = .ok (.aload_n 0, 1) := by decide +kernel
theorem dX5_posts_15 : decode cX5_posts 15 = .ok (.getfield 10, 3) := by decide +kernel
theorem dX5_posts_18 : decode cX5_posts 18 = .ok (.getfield 49, 3) := by decide +kernel
theorem dX5_posts_21 : decode cX5_posts 21 = .ok (.istore_n 2, 1) := by decide +kernel
theorem dX5_posts_22 : decode cX5_posts 22 = .ok (.aload_n 0, 1) := by decide +kernel
theorem dX5_posts_23 : decode cX5_posts 23 = .ok (.getfield 10, 3) := by decide +kernel
theorem dX5_posts_26 : decode cX5_posts 26 = .ok (.iload_n 1, 1) := by decide +kernel
theorem dX5_posts_27 : decode cX5_posts 27 = .ok (.invokevirtual 53, 3) := by decide +kernel
theorem dX5_posts_30 : decode cX5_posts 30 = .ok (.iload_n 2, 1) := by decide +kernel
theorem dX5_posts_31 : decode cX5_posts 31 = .ok (.ireturn, 1) := by decide +kernel
set_option maxRecDepth 20000 in
theorem ggX5_join_X2_hasPlace : GoodIn wsX5_join wsX2_hasPlace := goodIn_r _ [7, 8, 9, 10, 6, 11, 12, 40, 41, 42, 43, 44] (by decide +kernel) (by decide +kernel)
set_option maxRecDepth 20000 in
theorem gX5_join_X2_hasPlace : GoodIn wsX5_join (wsV RX5 57 RX2 yX2_hasPlace wsX2_hasPlace) := goodIn_app (goodIn_of _ (by decide +kernel)) ggX5_join_X2_hasPlace
set_option maxRecDepth 20000 in
theorem ggX5_join_X5_placeOf : GoodIn wsX5_join wsX5_placeOf := goodIn_r _ [16] (by decide +kernel) (by decide +kernel)
set_option maxRecDepth 20000 in
theorem gX5_join_X5_placeOf : GoodIn wsX5_join (va_wsS RX5 61 yX5_placeOf wsX5_placeOf) := goodIn_app (goodIn_of _ (by decide +kernel)) ggX5_join_X5_placeOf
set_option maxRecDepth 20000 in
theorem ggX5_join_X2_endOf : GoodIn wsX5_join wsX2_endOf := goodIn_r _ [20, 21, 40, 41, 42, 43, 44] (by decide +kernel) (by decide +kernel)
set_option maxRecDepth 20000 in
theorem gX5_join_X2_endOf : GoodIn wsX5_join (wsV RX5 65 RX2 yX2_endOf wsX2_endOf) := goodIn_app (goodIn_of _ (by decide +kernel)) ggX5_join_X2_endOf
set_option maxRecDepth 20000 in
theorem ggX5_join_X2_tie : GoodIn wsX5_join wsX2_tie := goodIn_r _ [25, 26, 27, 28, 29, 6, 30, 21, 31, 32, 15, 33, 40, 41, 42, 43, 44] (by decide +kernel) (by decide +kernel)
set_option maxRecDepth 20000 in
theorem gX5_join_X2_tie : GoodIn wsX5_join (wsV RX5 69 RX2 yX2_tie wsX2_tie) := goodIn_app (goodIn_of _ (by decide +kernel)) ggX5_join_X2_tie
theorem dX5_join_0 : decode cX5_join 0 = .ok (.aload_n 0, 1) := by decide +kernel
theorem dX5_join_1 : decode cX5_join 1 = .ok (.getfield 10, 3) := by decide +kernel
theorem dX5_join_4 : decode cX5_join 4 = .ok (.iload_n 1, 1) := by decide +kernel
theorem dX5_join_5 : decode cX5_join 5 = .ok (.iload_n 2, 1) := by decide +kernel
theorem dX5_join_6 : decode cX5_join 6 = .ok (.invokevirtual 57, 3) := by decide +kernel
theorem dX5_join_9 : decode cX5_join 9 = .ok (.ifCond .eq 16, 3) := by decide +kernel
theorem dX5_join_12 : decode cX5_join 12 = .ok (.aload_n 0, 1) := by decide +kernel
theorem dX5_join_13 : decode cX5_join 13 = .ok (.getfield 10, 3) := by decide +kernel
theorem dX5_join_16 : decode cX5_join 16 = .ok (.iload_n 3, 1) := by decide +kernel
theorem dX5_join_17 : decode cX5_join 17 = .ok (.iload 4, 2) := by decide +kernel
theorem dX5_join_19 : decode cX5_join 19 = .ok (.invokevirtual 57, 3) := by decide +kernel
theorem dX5_join_22 : decode cX5_join 22 = .ok (.ifCond .ne 5, 3) := by decide +kernel
theorem dX5_join_25 : decode cX5_join 25 = .ok (.iconst (-1), 1) := by decide +kernel
theorem dX5_join_26 : decode cX5_join 26 = .ok (.ireturn, 1) := by decide +kernel
theorem dX5_join_27 : decode cX5_join 27 = .ok (.iload_n 1, 1) := by decide +kernel
theorem dX5_join_28 : decode cX5_join 28 = .ok (.iload_n 2, 1) := by decide +kernel
theorem dX5_join_29 : decode cX5_join 29 = .ok (.invokestatic 61, 3) := by decide +kernel
theorem dX5_join_32 : decode cX5_join 32 = .ok (.istore 5, 2) := by decide +kernel
theorem dX5_join_34 : decode cX5_join 34 = .ok (.iload_n 3, 1) := by decide +kernel
theorem dX5_join_35 : decode cX5_join 35 = .ok (.iload 4, 2) := by decide +kernel
theorem dX5_join_37 : decode cX5_join 37 = .ok (.invokestatic 61, 3) := by decide +kernel
theorem dX5_join_40 : decode cX5_join 40 = .ok (.istore 6, 2) := by decide +kernel
theorem dX5_join_42 : decode cX5_join 42 = .ok (.iload 5, 2) := by decide +kernel
theorem dX5_join_44 : decode cX5_join 44 = .ok (.iload 6, 2) := by decide +kernel
theorem dX5_join_46 : decode cX5_join 46 = .ok (.if_icmp .eq 29, 3) := by decide +kernel
theorem dX5_join_49 : decode cX5_join 49 = .ok (.aload_n 0, 1) := by decide +kernel
theorem dX5_join_50 : decode cX5_join 50 = .ok (.getfield 10, 3) := by decide +kernel
theorem dX5_join_53 : decode cX5_join 53 = .ok (.iload 5, 2) := by decide +kernel
theorem dX5_join_55 : decode cX5_join 55 = .ok (.invokevirtual 65, 3) := by decide +kernel
theorem dX5_join_58 : decode cX5_join 58 = .ok (.iconst (-1), 1) := by decide +kernel
theorem dX5_join_59 : decode cX5_join 59 = .ok (.if_icmp .ne 16, 3) := by decide +kernel
theorem dX5_join_62 : decode cX5_join 62 = .ok (.aload_n 0, 1) := by decide +kernel
theorem dX5_join_63 : decode cX5_join 63 = .ok (.getfield 10, 3) := by decide +kernel
theorem dX5_join_66 : decode cX5_join 66 = .ok (.iload 6, 2) := by decide +kernel
theorem dX5_join_68 : decode cX5_join 68 = .ok (.invokevirtual 65, 3) := by decide +kernel
theorem dX5_join_71 : decode cX5_join 71 = .ok (.iconst (-1), 1) := by decide +kernel
theorem dX5_join_72 : decode cX5_join 72 = .ok (.if_icmp .eq 6, 3) := by decide +kernel
theorem dX5_join_75 : decode cX5_join 75 = .ok (.bipush (-5), 2) := by decide +kernel
theorem dX5_join_77 : decode cX5_join 77 = .ok (.ireturn, 1) := by decide +kernel
theorem dX5_join_78 : decode cX5_join 78 = .ok (.aload_n 0, 1) := by decide +kernel
theorem dX5_join_79 : decode cX5_join 79 = .ok (.getfield 10, 3) := by decide +kernel
theorem dX5_join_82 : decode cX5_join 82 = .ok (.iload 5, 2) := by decide +kernel
theorem dX5_join_84 : decode cX5_join 84 = .ok (.iload 6, 2) := by decide +kernel
theorem dX5_join_86 : decode cX5_join 86 = .ok (.invokevirtual 69, 3) := by decide +kernel
theorem dX5_join_89 : decode cX5_join 89 = .ok (.aload_n 0, 1) := by decide +kernel
theorem dX5_join_90 : decode cX5_join 90 = .ok (.getfield 10, 3) := by decide +kernel
theorem dX5_join_93 : decode cX5_join 93 = .ok (.getfield 73, 3) := by decide +kernel
theorem dX5_join_96 : decode cX5_join 96 = .ok (.ireturn, 1) := by decide +kernel
set_option maxRecDepth 20000 in
theorem ggX5_part_X2_hasPlace : GoodIn wsX5_part wsX2_hasPlace := goodIn_r _ [6, 7, 8, 9, 5, 10, 11, 46, 47, 48, 49, 50] (by decide +kernel) (by decide +kernel)
set_option maxRecDepth 20000 in
theorem gX5_part_X2_hasPlace : GoodIn wsX5_part (wsV RX5 57 RX2 yX2_hasPlace wsX2_hasPlace) := goodIn_app (goodIn_of _ (by decide +kernel)) ggX5_part_X2_hasPlace
set_option maxRecDepth 20000 in
theorem ggX5_part_X5_placeOf : GoodIn wsX5_part wsX5_placeOf := goodIn_r _ [15] (by decide +kernel) (by decide +kernel)
set_option maxRecDepth 20000 in
theorem gX5_part_X5_placeOf : GoodIn wsX5_part (va_wsS RX5 61 yX5_placeOf wsX5_placeOf) := goodIn_app (goodIn_of _ (by decide +kernel)) ggX5_part_X5_placeOf
set_option maxRecDepth 20000 in
theorem ggX5_part_X2_endOf : GoodIn wsX5_part wsX2_endOf := goodIn_r _ [19, 20, 46, 47, 48, 49, 50] (by decide +kernel) (by decide +kernel)
set_option maxRecDepth 20000 in
theorem gX5_part_X2_endOf : GoodIn wsX5_part (wsV RX5 65 RX2 yX2_endOf wsX2_endOf) := goodIn_app (goodIn_of _ (by decide +kernel)) ggX5_part_X2_endOf
set_option maxRecDepth 20000 in
theorem ggX5_part_X2_untie : GoodIn wsX5_part wsX2_untie := goodIn_r _ [24, 25, 26, 27, 28, 5, 29, 20, 30, 31, 14, 32, 46, 47, 48, 49, 50] (by decide +kernel) (by decide +kernel)
set_option maxRecDepth 20000 in
theorem gX5_part_X2_untie : GoodIn wsX5_part (wsV RX5 76 RX2 yX2_untie wsX2_untie) := goodIn_app (goodIn_of _ (by decide +kernel)) ggX5_part_X2_untie
set_option maxRecDepth 20000 in
theorem ggX5_part_X5_asTold : GoodIn wsX5_part wsX5_asTold := goodIn_r _ [35, 36, 31, 14, 32, 37, 38, 39] (by decide +kernel) (by decide +kernel)
set_option maxRecDepth 20000 in
theorem gX5_part_X5_asTold : GoodIn wsX5_part (va_wsS RX5 79 yX5_asTold wsX5_asTold) := goodIn_app (goodIn_of _ (by decide +kernel)) ggX5_part_X5_asTold
theorem dX5_part_0 : decode cX5_part 0 = .ok (.aload_n 0, 1) := by decide +kernel
theorem dX5_part_1 : decode cX5_part 1 = .ok (.getfield 10, 3) := by decide +kernel
theorem dX5_part_4 : decode cX5_part 4 = .ok (.iload_n 1, 1) := by decide +kernel
theorem dX5_part_5 : decode cX5_part 5 = .ok (.iload_n 2, 1) := by decide +kernel
theorem dX5_part_6 : decode cX5_part 6 = .ok (.invokevirtual 57, 3) := by decide +kernel
theorem dX5_part_9 : decode cX5_part 9 = .ok (.ifCond .ne 5, 3) := by decide +kernel
theorem dX5_part_12 : decode cX5_part 12 = .ok (.iconst (-1), 1) := by decide +kernel
theorem dX5_part_13 : decode cX5_part 13 = .ok (.ireturn, 1) := by decide +kernel
theorem dX5_part_14 : decode cX5_part 14 = .ok (.iload_n 1, 1) := by decide +kernel
theorem dX5_part_15 : decode cX5_part 15 = .ok (.iload_n 2, 1) := by decide +kernel
theorem dX5_part_16 : decode cX5_part 16 = .ok (.invokestatic 61, 3) := by decide +kernel
theorem dX5_part_19 : decode cX5_part 19 = .ok (.istore_n 3, 1) := by decide +kernel
theorem dX5_part_20 : decode cX5_part 20 = .ok (.aload_n 0, 1) := by decide +kernel
theorem dX5_part_21 : decode cX5_part 21 = .ok (.getfield 10, 3) := by decide +kernel
theorem dX5_part_24 : decode cX5_part 24 = .ok (.iload_n 3, 1) := by decide +kernel
theorem dX5_part_25 : decode cX5_part 25 = .ok (.invokevirtual 65, 3) := by decide +kernel
theorem dX5_part_28 : decode cX5_part 28 = .ok (.istore 4, 2) := by decide +kernel
theorem dX5_part_30 : decode cX5_part 30 = .ok (.iload 4, 2) := by decide +kernel
theorem dX5_part_32 : decode cX5_part 32 = .ok (.iconst (-1), 1) := by decide +kernel
theorem dX5_part_33 : decode cX5_part 33 = .ok (.if_icmp .ne 6, 3) := by decide +kernel
theorem dX5_part_36 : decode cX5_part 36 = .ok (.bipush (-6), 2) := by decide +kernel
theorem dX5_part_38 : decode cX5_part 38 = .ok (.ireturn, 1) := by decide +kernel
theorem dX5_part_39 : decode cX5_part 39 = .ok (.aload_n 0, 1) := by decide +kernel
theorem dX5_part_40 : decode cX5_part 40 = .ok (.getfield 10, 3) := by decide +kernel
theorem dX5_part_43 : decode cX5_part 43 = .ok (.iload_n 3, 1) := by decide +kernel
theorem dX5_part_44 : decode cX5_part 44 = .ok (.iload 4, 2) := by decide +kernel
theorem dX5_part_46 : decode cX5_part 46 = .ok (.invokevirtual 76, 3) := by decide +kernel
theorem dX5_part_49 : decode cX5_part 49 = .ok (.iload 4, 2) := by decide +kernel
theorem dX5_part_51 : decode cX5_part 51 = .ok (.invokestatic 79, 3) := by decide +kernel
theorem dX5_part_54 : decode cX5_part 54 = .ok (.ireturn, 1) := by decide +kernel
set_option maxRecDepth 20000 in
theorem ggX5_bad_X2_hasPlace : GoodIn wsX5_bad wsX2_hasPlace := goodIn_r _ [6, 7, 8, 9, 5, 10, 11, 31, 32, 33, 34, 35] (by decide +kernel) (by decide +kernel)
set_option maxRecDepth 20000 in
theorem gX5_bad_X2_hasPlace : GoodIn wsX5_bad (wsV RX5 57 RX2 yX2_hasPlace wsX2_hasPlace) := goodIn_app (goodIn_of _ (by decide +kernel)) ggX5_bad_X2_hasPlace
set_option maxRecDepth 20000 in
theorem ggX5_bad_X5_placeOf : GoodIn wsX5_bad wsX5_placeOf := goodIn_r _ [15] (by decide +kernel) (by decide +kernel)
set_option maxRecDepth 20000 in
theorem gX5_bad_X5_placeOf : GoodIn wsX5_bad (va_wsS RX5 61 yX5_placeOf wsX5_placeOf) := goodIn_app (goodIn_of _ (by decide +kernel)) ggX5_bad_X5_placeOf
set_option maxRecDepth 20000 in
theorem ggX5_bad_X2_isBad : GoodIn wsX5_bad wsX2_isBad := goodIn_r _ [19, 20, 31, 32, 33, 34, 35] (by decide +kernel) (by decide +kernel)
set_option maxRecDepth 20000 in
theorem gX5_bad_X2_isBad : GoodIn wsX5_bad (wsV RX5 82 RX2 yX2_isBad wsX2_isBad) := goodIn_app (goodIn_of _ (by decide +kernel)) ggX5_bad_X2_isBad
set_option maxRecDepth 20000 in
theorem ggX5_bad_X2_setBad : GoodIn wsX5_bad wsX2_setBad := goodIn_r _ [24, 20, 31, 32, 33, 34, 35] (by decide +kernel) (by decide +kernel)
set_option maxRecDepth 20000 in
theorem gX5_bad_X2_setBad : GoodIn wsX5_bad (wsV RX5 86 RX2 yX2_setBad wsX2_setBad) := goodIn_app (goodIn_of _ (by decide +kernel)) ggX5_bad_X2_setBad
theorem dX5_bad_0 : decode cX5_bad 0 = .ok (.aload_n 0, 1) := by decide +kernel
theorem dX5_bad_1 : decode cX5_bad 1 = .ok (.getfield 10, 3) := by decide +kernel
theorem dX5_bad_4 : decode cX5_bad 4 = .ok (.iload_n 1, 1) := by decide +kernel
theorem dX5_bad_5 : decode cX5_bad 5 = .ok (.iload_n 2, 1) := by decide +kernel
theorem dX5_bad_6 : decode cX5_bad 6 = .ok (.invokevirtual 57, 3) := by decide +kernel
theorem dX5_bad_9 : decode cX5_bad 9 = .ok (.ifCond .ne 5, 3) := by decide +kernel
theorem dX5_bad_12 : decode cX5_bad 12 = .ok (.iconst (-1), 1) := by decide +kernel
theorem dX5_bad_13 : decode cX5_bad 13 = .ok (.ireturn, 1) := by decide +kernel
theorem dX5_bad_14 : decode cX5_bad 14 = .ok (.iload_n 1, 1) := by decide +kernel
theorem dX5_bad_15 : decode cX5_bad 15 = .ok (.iload_n 2, 1) := by decide +kernel
theorem dX5_bad_16 : decode cX5_bad 16 = .ok (.invokestatic 61, 3) := by decide +kernel
theorem dX5_bad_19 : decode cX5_bad 19 = .ok (.istore 4, 2) := by decide +kernel
theorem dX5_bad_21 : decode cX5_bad 21 = .ok (.aload_n 0, 1) := by decide +kernel
theorem dX5_bad_22 : decode cX5_bad 22 = .ok (.getfield 10, 3) := by decide +kernel
theorem dX5_bad_25 : decode cX5_bad 25 = .ok (.iload 4, 2) := by decide +kernel
theorem dX5_bad_27 : decode cX5_bad 27 = .ok (.invokevirtual 82, 3) := by decide +kernel
theorem dX5_bad_30 : decode cX5_bad 30 = .ok (.istore 5, 2) := by decide +kernel
theorem dX5_bad_32 : decode cX5_bad 32 = .ok (.aload_n 0, 1) := by decide +kernel
theorem dX5_bad_33 : decode cX5_bad 33 = .ok (.getfield 10, 3) := by decide +kernel
theorem dX5_bad_36 : decode cX5_bad 36 = .ok (.iload 4, 2) := by decide +kernel
theorem dX5_bad_38 : decode cX5_bad 38 = .ok (.iload_n 3, 1) := by decide +kernel
theorem dX5_bad_39 : decode cX5_bad 39 = .ok (.invokevirtual 86, 3) := by decide +kernel
theorem dX5_bad_42 : decode cX5_bad 42 = .ok (.iload 5, 2) := by decide +kernel
theorem dX5_bad_44 : decode cX5_bad 44 = .ok (.ifCond .eq 7, 3) := by decide +kernel
theorem dX5_bad_47 : decode cX5_bad 47 = .ok (.iconst 1, 1) := by decide +kernel
theorem dX5_bad_48 : decode cX5_bad 48 = .ok (.goto 4, 3) := by decide +kernel
theorem dX5_bad_51 : decode cX5_bad 51 = .ok (.iconst 0, 1) := by decide +kernel
theorem dX5_bad_52 : decode cX5_bad 52 = .ok (.ireturn, 1) := by decide +kernel
set_option maxRecDepth 20000 in
theorem ggX5_leads_X2_hasPlace : GoodIn wsX5_leads wsX2_hasPlace := goodIn_r _ [6, 7, 8, 9, 5, 10, 11, 46, 47, 48, 49, 50] (by decide +kernel) (by decide +kernel)
set_option maxRecDepth 20000 in
theorem gX5_leads_X2_hasPlace : GoodIn wsX5_leads (wsV RX5 57 RX2 yX2_hasPlace wsX2_hasPlace) := goodIn_app (goodIn_of _ (by decide +kernel)) ggX5_leads_X2_hasPlace
set_option maxRecDepth 20000 in
theorem ggX5_leads_X5_placeOf : GoodIn wsX5_leads wsX5_placeOf := goodIn_r _ [15] (by decide +kernel) (by decide +kernel)
set_option maxRecDepth 20000 in
theorem gX5_leads_X5_placeOf : GoodIn wsX5_leads (va_wsS RX5 61 yX5_placeOf wsX5_placeOf) := goodIn_app (goodIn_of _ (by decide +kernel)) ggX5_leads_X5_placeOf
set_option maxRecDepth 20000 in
theorem ggX5_leads_X2_endOf : GoodIn wsX5_leads wsX2_endOf := goodIn_r _ [19, 20, 46, 47, 48, 49, 50] (by decide +kernel) (by decide +kernel)
set_option maxRecDepth 20000 in
theorem gX5_leads_X2_endOf : GoodIn wsX5_leads (wsV RX5 65 RX2 yX2_endOf wsX2_endOf) := goodIn_app (goodIn_of _ (by decide +kernel)) ggX5_leads_X2_endOf
set_option maxRecDepth 20000 in
theorem ggX5_leads_X2_through : GoodIn wsX5_leads wsX2_through := goodIn_r _ [24, 25, 17, 18, 5, 19, 20, 26, 27, 28, 29, 30, 46, 47, 48, 49, 50] (by decide +kernel) (by decide +kernel)
set_option maxRecDepth 20000 in
theorem gX5_leads_X2_through : GoodIn wsX5_leads (wsV RX5 90 RX2 yX2_through wsX2_through) := goodIn_app (goodIn_of _ (by decide +kernel)) ggX5_leads_X2_through
set_option maxRecDepth 20000 in
theorem ggX5_leads_X5_asTold : GoodIn wsX5_leads wsX5_asTold := goodIn_r _ [33, 34, 35, 14, 36, 37, 38, 39] (by decide +kernel) (by decide +kernel)
set_option maxRecDepth 20000 in
theorem gX5_leads_X5_asTold : GoodIn wsX5_leads (va_wsS RX5 79 yX5_asTold wsX5_asTold) := goodIn_app (goodIn_of _ (by decide +kernel)) ggX5_leads_X5_asTold
theorem dX5_leads_0 : decode cX5_leads 0 = .ok (.aload_n 0, 1) := by decide +kernel
theorem dX5_leads_1 : decode cX5_leads 1 = .ok (.getfield 10, 3) := by decide +kernel
theorem dX5_leads_4 : decode cX5_leads 4 = .ok (.iload_n 1, 1) := by decide +kernel
theorem dX5_leads_5 : decode cX5_leads 5 = .ok (.iload_n 2, 1) := by decide +kernel
theorem dX5_leads_6 : decode cX5_leads 6 = .ok (.invokevirtual 57, 3) := by decide +kernel
theorem dX5_leads_9 : decode cX5_leads 9 = .ok (.ifCond .ne 5, 3) := by decide +kernel
theorem dX5_leads_12 : decode cX5_leads 12 = .ok (.iconst (-1), 1) := by decide +kernel
theorem dX5_leads_13 : decode cX5_leads 13 = .ok (.ireturn, 1) := by decide +kernel
theorem dX5_leads_14 : decode cX5_leads 14 = .ok (.iload_n 1, 1) := by decide +kernel
theorem dX5_leads_15 : decode cX5_leads 15 = .ok (.iload_n 2, 1) := by decide +kernel
theorem dX5_leads_16 : decode cX5_leads 16 = .ok (.invokestatic 61, 3) := by decide +kernel
theorem dX5_leads_19 : decode cX5_leads 19 = .ok (.istore_n 3, 1) := by decide +kernel
theorem dX5_leads_20 : decode cX5_leads 20 = .ok (.aload_n 0, 1) := by decide +kernel
theorem dX5_leads_21 : decode cX5_leads 21 = .ok (.getfield 10, 3) := by decide +kernel
theorem dX5_leads_24 : decode cX5_leads 24 = .ok (.iload_n 3, 1) := by decide +kernel
theorem dX5_leads_25 : decode cX5_leads 25 = .ok (.invokevirtual 65, 3) := by decide +kernel
theorem dX5_leads_28 : decode cX5_leads 28 = .ok (.iconst (-1), 1) := by decide +kernel
theorem dX5_leads_29 : decode cX5_leads 29 = .ok (.if_icmp .ne 8, 3) := by decide +kernel
theorem dX5_leads_32 : decode cX5_leads 32 = .ok (.bipush (-6), 2) := by decide +kernel
theorem dX5_leads_34 : decode cX5_leads 34 = .ok (.goto 14, 3) := by decide +kernel
theorem dX5_leads_37 : decode cX5_leads 37 = .ok (.aload_n 0, 1) := by decide +kernel
theorem dX5_leads_38 : decode cX5_leads 38 = .ok (.getfield 10, 3) := by decide +kernel
theorem dX5_leads_41 : decode cX5_leads 41 = .ok (.iload_n 3, 1) := by decide +kernel
theorem dX5_leads_42 : decode cX5_leads 42 = .ok (.invokevirtual 90, 3) := by decide +kernel
theorem dX5_leads_45 : decode cX5_leads 45 = .ok (.invokestatic 79, 3) := by decide +kernel
theorem dX5_leads_48 : decode cX5_leads 48 = .ok (.ireturn, 1) := by decide +kernel
set_option maxRecDepth 20000 in
theorem ggX5_ready_X2_isReady : GoodIn wsX5_ready wsX2_isReady := goodIn_r _ [6, 7, 8, 9, 10, 5, 11, 12, 13, 14, 15, 16, 17, 18, 19, 20, 21, 22, 23, 24, 25, 26, 27, 28, 29, 30, 31, 32, 33, 34, 41, 42, 43, 44, 45] (by decide +kernel) (by decide +kernel)
set_option maxRecDepth 20000 in
theorem gX5_ready_X2_isReady : GoodIn wsX5_ready (wsV RX5 93 RX2 yX2_isReady wsX2_isReady) := goodIn_app (goodIn_of _ (by decide +kernel)) ggX5_ready_X2_isReady
theorem dX5_ready_0 : decode cX5_ready 0 = .ok (.aload_n 0, 1) := by decide +kernel
theorem dX5_ready_1 : decode cX5_ready 1 = .ok (.getfield 10, 3) := by decide +kernel
theorem dX5_ready_4 : decode cX5_ready 4 = .ok (.invokevirtual 93, 3) := by decide +kernel
theorem dX5_ready_7 : decode cX5_ready 7 = .ok (.ifCond .eq 7, 3) := by decide +kernel
theorem dX5_ready_10 : decode cX5_ready 10 = .ok (.iconst 1, 1) := by decide +kernel
theorem dX5_ready_11 : decode cX5_ready 11 = .ok (.goto 4, 3) := by decide +kernel
theorem dX5_ready_14 : decode cX5_ready 14 = .ok (.iconst 0, 1) := by decide +kernel
theorem dX5_ready_15 : decode cX5_ready 15 = .ok (.ireturn, 1) := by decide +kernel
set_option maxRecDepth 20000 in
theorem ggX5_degree_X2_hasPost : GoodIn wsX5_degree wsX2_hasPost := goodIn_r _ [6, 7, 19, 20, 21, 22, 23] (by decide +kernel) (by decide +kernel)
set_option maxRecDepth 20000 in
theorem gX5_degree_X2_hasPost : GoodIn wsX5_degree (wsV RX5 97 RX2 yX2_hasPost wsX2_hasPost) := goodIn_app (goodIn_of _ (by decide +kernel)) ggX5_degree_X2_hasPost
set_option maxRecDepth 20000 in
theorem ggX5_degree_X2_degreeOf : GoodIn wsX5_degree wsX2_degreeOf := goodIn_r _ [11, 12, 19, 20, 21, 22, 23] (by decide +kernel) (by decide +kernel)
set_option maxRecDepth 20000 in
theorem gX5_degree_X2_degreeOf : GoodIn wsX5_degree (wsV RX5 100 RX2 yX2_degreeOf wsX2_degreeOf) := goodIn_app (goodIn_of _ (by decide +kernel)) ggX5_degree_X2_degreeOf
theorem dX5_degree_0 : decode cX5_degree 0 = .ok (.aload_n 0, 1) := by decide +kernel
theorem dX5_degree_1 : decode cX5_degree 1 = .ok (.getfield 10, 3) := by decide +kernel
theorem dX5_degree_4 : decode cX5_degree 4 = .ok (.iload_n 1, 1) := by decide +kernel
theorem dX5_degree_5 : decode cX5_degree 5 = .ok (.invokevirtual 97, 3) := by decide +kernel
theorem dX5_degree_8 : decode cX5_degree 8 = .ok (.ifCond .eq 14, 3) := by decide +kernel
theorem dX5_degree_11 : decode cX5_degree 11 = .ok (.aload_n 0, 1) := by decide +kernel
theorem dX5_degree_12 : decode cX5_degree 12 = .ok (.getfield 10, 3) := by decide +kernel
theorem dX5_degree_15 : decode cX5_degree 15 = .ok (.iload_n 1, 1) := by decide +kernel
theorem dX5_degree_16 : decode cX5_degree 16 = .ok (.invokevirtual 100, 3) := by decide +kernel
theorem dX5_degree_19 : decode cX5_degree 19 = .ok (.goto 4, 3) := by decide +kernel
theorem dX5_degree_22 : decode cX5_degree 22 = .ok (.iconst (-1), 1) := by decide +kernel
theorem dX5_degree_23 : decode cX5_degree 23 = .ok (.ireturn, 1) := by decide +kernel
set_option maxRecDepth 20000 in
theorem ggX5_add_X5_isWhich : GoodIn wsX5_add wsX5_isWhich := goodIn_r _ [5] (by decide +kernel) (by decide +kernel)
set_option maxRecDepth 20000 in
theorem gX5_add_X5_isWhich : GoodIn wsX5_add (va_wsS RX5 103 yX5_isWhich wsX5_isWhich) := goodIn_app (goodIn_of _ (by decide +kernel)) ggX5_add_X5_isWhich
set_option maxRecDepth 20000 in
theorem ggX5_add_X5_rowOf : GoodIn wsX5_add wsX5_rowOf := goodIn_r _ [9, 10, 11, 26, 27, 28, 29, 30, 31] (by decide +kernel) (by decide +kernel)
set_option maxRecDepth 20000 in
theorem gX5_add_X5_rowOf : GoodIn wsX5_add (wsV RX5 106 RX5 yX5_rowOf wsX5_rowOf) := goodIn_app (goodIn_of _ (by decide +kernel)) ggX5_add_X5_rowOf
set_option maxRecDepth 20000 in
theorem ggX5_add_X4_isFull : GoodIn wsX5_add wsX4_isFull := goodIn_r _ [16, 17, 18, 24, 25] (by decide +kernel) (by decide +kernel)
set_option maxRecDepth 20000 in
theorem gX5_add_X4_isFull : GoodIn wsX5_add (wsV RX5 110 RX4 yX4_isFull wsX4_isFull) := goodIn_app (goodIn_of _ (by decide +kernel)) ggX5_add_X4_isFull
set_option maxRecDepth 20000 in
theorem ggX5_add_X4_append : GoodIn wsX5_add wsX4_append := goodIn_r _ [22, 18, 17, 23, 13, 14, 15, 16, 24, 25] (by decide +kernel) (by decide +kernel)
set_option maxRecDepth 20000 in
theorem gX5_add_X4_append : GoodIn wsX5_add (wsV RX5 113 RX4 yX4_append wsX4_append) := goodIn_app (goodIn_of _ (by decide +kernel)) ggX5_add_X4_append
theorem dX5_add_0 : decode cX5_add 0 = .ok (.iload_n 1, 1) := by decide +kernel
theorem dX5_add_1 : decode cX5_add 1 = .ok (.invokestatic 103, 3) := by decide +kernel
theorem dX5_add_4 : decode cX5_add 4 = .ok (.ifCond .eq 13, 3) := by decide +kernel
theorem dX5_add_7 : decode cX5_add 7 = .ok (.iload_n 2, 1) := by decide +kernel
theorem dX5_add_8 : decode cX5_add 8 = .ok (.ifCond .lt 9, 3) := by decide +kernel
theorem dX5_add_11 : decode cX5_add 11 = .ok (.iload_n 2, 1) := by decide +kernel
theorem dX5_add_12 : decode cX5_add 12 = .ok (.bipush 9, 2) := by decide +kernel
theorem dX5_add_14 : decode cX5_add 14 = .ok (.if_icmp .le 6, 3) := by decide +kernel
theorem dX5_add_17 : decode cX5_add 17 = .ok (.bipush (-2), 2) := by decide +kernel
theorem dX5_add_19 : decode cX5_add 19 = .ok (.ireturn, 1) := by decide +kernel
theorem dX5_add_20 : decode cX5_add 20 = .ok (.aload_n 0, 1) := by decide +kernel
theorem dX5_add_21 : decode cX5_add 21 = .ok (.iload_n 1, 1) := by decide +kernel
theorem dX5_add_22 : decode cX5_add 22 = .ok (.iconst 1, 1) := by decide +kernel
theorem dX5_add_23 : decode cX5_add 23 = .ok (.if_icmp .ne 7, 3) := by decide +kernel
theorem dX5_add_26 : decode cX5_add 26 = .ok (.iconst 1, 1) := by decide +kernel
theorem dX5_add_27 : decode cX5_add 27 = .ok (.goto 4, 3) := by decide +kernel
theorem dX5_add_30 : decode cX5_add 30 = .ok (.iconst 0, 1) := by decide +kernel
theorem dX5_add_31 : decode cX5_add 31 = .ok (.invokevirtual 106, 3) := by decide +kernel
theorem dX5_add_34 : decode cX5_add 34 = .ok (.astore_n 3, 1) := by decide +kernel
theorem dX5_add_35 : decode cX5_add 35 = .ok (.aload_n 3, 1) := by decide +kernel
theorem dX5_add_36 : decode cX5_add 36 = .ok (.invokevirtual 110, 3) := by decide +kernel
theorem dX5_add_39 : decode cX5_add 39 = .ok (.ifCond .eq 6, 3) := by decide +kernel
theorem dX5_add_42 : decode cX5_add 42 = .ok (.bipush (-4), 2) := by decide +kernel
theorem dX5_add_44 : decode cX5_add 44 = .ok (.ireturn, 1) := by decide +kernel
theorem dX5_add_45 : decode cX5_add 45 = .ok (.aload_n 3, 1) := by decide +kernel
theorem dX5_add_46 : decode cX5_add 46 = .ok (.iload_n 2, 1) := by decide +kernel
theorem dX5_add_47 : decode cX5_add 47 = .ok (.invokevirtual 113, 3) := by decide +kernel
theorem dX5_add_50 : decode cX5_add 50 = .ok (.aload_n 3, 1) := by decide +kernel
theorem dX5_add_51 : decode cX5_add 51 = .ok (.getfield 116, 3) := by decide +kernel
theorem dX5_add_54 : decode cX5_add 54 = .ok (.ireturn, 1) := by decide +kernel
set_option maxRecDepth 20000 in
theorem ggX5_clear_X5_isWhich : GoodIn wsX5_clear wsX5_isWhich := goodIn_r _ [4] (by decide +kernel) (by decide +kernel)
set_option maxRecDepth 20000 in
theorem gX5_clear_X5_isWhich : GoodIn wsX5_clear (va_wsS RX5 103 yX5_isWhich wsX5_isWhich) := goodIn_app (goodIn_of _ (by decide +kernel)) ggX5_clear_X5_isWhich
set_option maxRecDepth 20000 in
theorem ggX5_clear_X5_rowOf : GoodIn wsX5_clear wsX5_rowOf := goodIn_r _ [8, 9, 10, 17, 18, 19, 20, 21, 22] (by decide +kernel) (by decide +kernel)
set_option maxRecDepth 20000 in
theorem gX5_clear_X5_rowOf : GoodIn wsX5_clear (wsV RX5 106 RX5 yX5_rowOf wsX5_rowOf) := goodIn_app (goodIn_of _ (by decide +kernel)) ggX5_clear_X5_rowOf
set_option maxRecDepth 20000 in
theorem ggX5_clear_X4_empty : GoodIn wsX5_clear wsX4_empty := goodIn_r _ [15, 16, 23, 24] (by decide +kernel) (by decide +kernel)
set_option maxRecDepth 20000 in
theorem gX5_clear_X4_empty : GoodIn wsX5_clear (wsV RX5 119 RX4 yX4_empty wsX4_empty) := goodIn_app (goodIn_of _ (by decide +kernel)) ggX5_clear_X4_empty
theorem dX5_clear_0 : decode cX5_clear 0 = .ok (.iload_n 1, 1) := by decide +kernel
theorem dX5_clear_1 : decode cX5_clear 1 = .ok (.invokestatic 103, 3) := by decide +kernel
theorem dX5_clear_4 : decode cX5_clear 4 = .ok (.ifCond .eq 23, 3) := by decide +kernel
theorem dX5_clear_7 : decode cX5_clear 7 = .ok (.aload_n 0, 1) := by decide +kernel
theorem dX5_clear_8 : decode cX5_clear 8 = .ok (.iload_n 1, 1) := by decide +kernel
theorem dX5_clear_9 : decode cX5_clear 9 = .ok (.iconst 1, 1) := by decide +kernel
theorem dX5_clear_10 : decode cX5_clear 10 = .ok (.if_icmp .ne 7, 3) := by decide +kernel
theorem dX5_clear_13 : decode cX5_clear 13 = .ok (.iconst 1, 1) := by decide +kernel
theorem dX5_clear_14 : decode cX5_clear 14 = .ok (.goto 4, 3) := by decide +kernel
theorem dX5_clear_17 : decode cX5_clear 17 = .ok (.iconst 0, 1) := by decide +kernel
theorem dX5_clear_18 : decode cX5_clear 18 = .ok (.invokevirtual 106, 3) := by decide +kernel
theorem dX5_clear_21 : decode cX5_clear 21 = .ok (.invokevirtual 119, 3) := by decide +kernel
theorem dX5_clear_24 : decode cX5_clear 24 = .ok (.goto 5, 3) := by decide +kernel
theorem dX5_clear_27 : decode cX5_clear 27 = .ok (.bipush (-2), 2) := by decide +kernel
theorem dX5_clear_29 : decode cX5_clear 29 = .ok (.ireturn, 1) := by decide +kernel
set_option maxRecDepth 20000 in
theorem ggX5_after_X2_hasPost : GoodIn wsX5_after wsX2_hasPost := goodIn_r _ [8, 9, 85, 86, 87, 88, 89] (by decide +kernel) (by decide +kernel)
set_option maxRecDepth 20000 in
theorem gX5_after_X2_hasPost : GoodIn wsX5_after (wsV RX5 97 RX2 yX2_hasPost wsX2_hasPost) := goodIn_app (goodIn_of _ (by decide +kernel)) ggX5_after_X2_hasPost
set_option maxRecDepth 20000 in
theorem ggX5_after_X5_isHow : GoodIn wsX5_after wsX5_isHow := goodIn_r _ [13] (by decide +kernel) (by decide +kernel)
set_option maxRecDepth 20000 in
theorem gX5_after_X5_isHow : GoodIn wsX5_after (va_wsS RX5 123 yX5_isHow wsX5_isHow) := goodIn_app (goodIn_of _ (by decide +kernel)) ggX5_after_X5_isHow
set_option maxRecDepth 20000 in
theorem ggX5_after_X2_isReady : GoodIn wsX5_after wsX2_isReady := goodIn_r _ [17, 9, 18, 19, 20, 7, 21, 22, 23, 24, 25, 26, 27, 12, 28, 29, 30, 31, 32, 33, 34, 35, 36, 37, 38, 39, 40, 41, 42, 43, 85, 86, 87, 88, 89] (by decide +kernel) (by decide +kernel)
set_option maxRecDepth 20000 in
theorem gX5_after_X2_isReady : GoodIn wsX5_after (wsV RX5 93 RX2 yX2_isReady wsX2_isReady) := goodIn_app (goodIn_of _ (by decide +kernel)) ggX5_after_X2_isReady
set_option maxRecDepth 20000 in
theorem ggX5_after_X5_placeOf : GoodIn wsX5_after wsX5_placeOf := goodIn_r _ [28] (by decide +kernel) (by decide +kernel)
set_option maxRecDepth 20000 in
theorem gX5_after_X5_placeOf : GoodIn wsX5_after (va_wsS RX5 61 yX5_placeOf wsX5_placeOf) := goodIn_app (goodIn_of _ (by decide +kernel)) ggX5_after_X5_placeOf
set_option maxRecDepth 20000 in
theorem ggX5_after_X5_follow : GoodIn wsX5_after wsX5_follow := goodIn_r _ [48, 1, 49, 50, 51, 52, 53, 54, 55, 56, 57, 58, 59, 60, 61, 62, 63, 7, 64, 38, 12, 39, 22, 23, 24, 25, 26, 65, 66, 27, 28, 67, 68, 69, 70, 29, 30, 31, 32, 33, 71, 72, 73, 74, 75, 77, 78, 79, 80, 81, 82, 83, 84, 85, 86, 87, 88, 89] (by decide +kernel) (by decide +kernel)
set_option maxRecDepth 20000 in
theorem gX5_after_X5_follow : GoodIn wsX5_after (wsV RX5 126 RX5 yX5_follow wsX5_follow) := goodIn_app (goodIn_of _ (by decide +kernel)) ggX5_after_X5_follow
set_option maxRecDepth 20000 in
theorem ggX5_after_X5_postOf : GoodIn wsX5_after wsX5_postOf := goodIn_r _ [39] (by decide +kernel) (by decide +kernel)
set_option maxRecDepth 20000 in
theorem gX5_after_X5_postOf : GoodIn wsX5_after (va_wsS RX5 130 yX5_postOf wsX5_postOf) := goodIn_app (goodIn_of _ (by decide +kernel)) ggX5_after_X5_postOf
theorem dX5_after_0 : decode cX5_after 0 = .ok (.aload_n 0, 1) := by decide +kernel
theorem dX5_after_1 : decode cX5_after 1 = .ok (.getfield 10, 3) := by decide +kernel
theorem dX5_after_4 : decode cX5_after 4 = .ok (.iload_n 1, 1) := by decide +kernel
theorem dX5_after_5 : decode cX5_after 5 = .ok (.invokevirtual 97, 3) := by decide +kernel
theorem dX5_after_8 : decode cX5_after 8 = .ok (.ifCond .ne 5, 3) := by decide +kernel
theorem dX5_after_11 : decode cX5_after 11 = .ok (.iconst (-1), 1) := by decide +kernel
theorem dX5_after_12 : decode cX5_after 12 = .ok (.ireturn, 1) := by decide +kernel
theorem dX5_after_13 : decode cX5_after 13 = .ok (.iload_n 2, 1) := by decide +kernel
theorem dX5_after_14 : decode cX5_after 14 = .ok (.invokestatic 123, 3) := by decide +kernel
theorem dX5_after_17 : decode cX5_after 17 = .ok (.ifCond .eq 18, 3) := by decide +kernel
theorem dX5_after_20 : decode cX5_after 20 = .ok (.iload_n 3, 1) := by decide +kernel
theorem dX5_after_21 : decode cX5_after 21 = .ok (.ifCond .lt 14, 3) := by decide +kernel
theorem dX5_after_24 : decode cX5_after 24 = .ok (.iload_n 3, 1) := by decide +kernel
theorem dX5_after_25 : decode cX5_after 25 = .ok (.aload_n 0, 1) := by decide +kernel
theorem dX5_after_26 : decode cX5_after 26 = .ok (.getfield 19, 3) := by decide +kernel
theorem dX5_after_29 : decode cX5_after 29 = .ok (.getfield 116, 3) := by decide +kernel
theorem dX5_after_32 : decode cX5_after 32 = .ok (.if_icmp .le 6, 3) := by decide +kernel
theorem dX5_after_35 : decode cX5_after 35 = .ok (.bipush (-2), 2) := by decide +kernel
theorem dX5_after_37 : decode cX5_after 37 = .ok (.ireturn, 1) := by decide +kernel
theorem dX5_after_38 : decode cX5_after 38 = .ok (.aload_n 0, 1) := by decide +kernel
theorem dX5_after_39 : decode cX5_after 39 = .ok (.getfield 10, 3) := by decide +kernel
theorem dX5_after_42 : decode cX5_after 42 = .ok (.invokevirtual 93, 3) := by decide +kernel
theorem dX5_after_45 : decode cX5_after 45 = .ok (.ifCond .ne 6, 3) := by decide +kernel
theorem dX5_after_48 : decode cX5_after 48 = .ok (.bipush (-3), 2) := by decide +kernel
theorem dX5_after_50 : decode cX5_after 50 = .ok (.ireturn, 1) := by decide +kernel
theorem dX5_after_51 : decode cX5_after 51 = .ok (.iload_n 1, 1) := by decide +kernel
theorem dX5_after_52 : decode cX5_after 52 = .ok (.iconst 0, 1) := by decide +kernel
theorem dX5_after_53 : decode cX5_after 53 = .ok (.invokestatic 61, 3) := by decide +kernel
theorem dX5_after_56 : decode cX5_after 56 = .ok (.istore 4, 2) := by decide +kernel
theorem dX5_after_58 : decode cX5_after 58 = .ok (.iconst 0, 1) := by decide +kernel
theorem dX5_after_59 : decode cX5_after 59 = .ok (.istore 5, 2) := by decide +kernel
theorem dX5_after_61 : decode cX5_after 61 = .ok (.iload 5, 2) := by decide +kernel
theorem dX5_after_63 : decode cX5_after 63 = .ok (.iload_n 3, 1) := by decide +kernel
theorem dX5_after_64 : decode cX5_after 64 = .ok (.if_icmp .ge 24, 3) := by decide +kernel
theorem dX5_after_67 : decode cX5_after 67 = .ok (.aload_n 0, 1) := by decide +kernel
theorem dX5_after_68 : decode cX5_after 68 = .ok (.iload 4, 2) := by decide +kernel
theorem dX5_after_70 : decode cX5_after 70 = .ok (.aload_n 0, 1) := by decide +kernel
theorem dX5_after_71 : decode cX5_after 71 = .ok (.getfield 19, 3) := by decide +kernel
theorem dX5_after_74 : decode cX5_after 74 = .ok (.iload 5, 2) := by decide +kernel
theorem dX5_after_76 : decode cX5_after 76 = .ok (.iload_n 2, 1) := by decide +kernel
theorem dX5_after_77 : decode cX5_after 77 = .ok (.invokevirtual 126, 3) := by decide +kernel
theorem dX5_after_80 : decode cX5_after 80 = .ok (.istore 4, 2) := by decide +kernel
theorem dX5_after_82 : decode cX5_after 82 = .ok (.iinc 5 1, 3) := by decide +kernel
theorem dX5_after_85 : decode cX5_after 85 = .ok (.goto (-24), 3) := by decide +kernel
theorem dX5_after_88 : decode cX5_after 88 = .ok (.iload 4, 2) := by decide +kernel
theorem dX5_after_90 : decode cX5_after 90 = .ok (.invokestatic 130, 3) := by decide +kernel
theorem dX5_after_93 : decode cX5_after 93 = .ok (.ireturn, 1) := by decide +kernel
set_option maxRecDepth 20000 in
theorem ggX5_walks_X2_hasPost : GoodIn wsX5_walks wsX2_hasPost := goodIn_r _ [6, 7, 88, 89, 90, 91, 92] (by decide +kernel) (by decide +kernel)
set_option maxRecDepth 20000 in
theorem gX5_walks_X2_hasPost : GoodIn wsX5_walks (wsV RX5 97 RX2 yX2_hasPost wsX2_hasPost) := goodIn_app (goodIn_of _ (by decide +kernel)) ggX5_walks_X2_hasPost
set_option maxRecDepth 20000 in
theorem ggX5_walks_X5_isHow : GoodIn wsX5_walks wsX5_isHow := goodIn_r _ [11] (by decide +kernel) (by decide +kernel)
set_option maxRecDepth 20000 in
theorem gX5_walks_X5_isHow : GoodIn wsX5_walks (va_wsS RX5 123 yX5_isHow wsX5_isHow) := goodIn_app (goodIn_of _ (by decide +kernel)) ggX5_walks_X5_isHow
set_option maxRecDepth 20000 in
theorem ggX5_walks_X2_isReady : GoodIn wsX5_walks wsX2_isReady := goodIn_r _ [15, 7, 16, 17, 18, 5, 19, 20, 21, 22, 23, 24, 25, 10, 26, 27, 28, 29, 30, 31, 32, 33, 34, 35, 36, 37, 38, 39, 40, 41, 88, 89, 90, 91, 92] (by decide +kernel) (by decide +kernel)
set_option maxRecDepth 20000 in
theorem gX5_walks_X2_isReady : GoodIn wsX5_walks (wsV RX5 93 RX2 yX2_isReady wsX2_isReady) := goodIn_app (goodIn_of _ (by decide +kernel)) ggX5_walks_X2_isReady
set_option maxRecDepth 20000 in
theorem ggX5_walks_X5_stepsToAll : GoodIn wsX5_walks wsX5_stepsToAll := goodIn_r _ [45, 46, 47, 1, 48, 25, 10, 26, 49, 39, 40, 5, 41, 7, 50, 51, 52, 53, 54, 55, 56, 57, 58, 59, 60, 61, 62, 63, 64, 65, 66, 67, 68, 69, 36, 37, 20, 21, 22, 23, 24, 70, 71, 72, 73, 74, 75, 27, 28, 29, 30, 31, 76, 77, 78, 79, 80, 81, 82, 83, 84, 85, 86, 87, 93, 94, 88, 89, 90, 91, 92] (by decide +kernel) (by decide +kernel)
set_option maxRecDepth 20000 in
theorem gX5_walks_X5_stepsToAll : GoodIn wsX5_walks (wsV RX5 133 RX5 yX5_stepsToAll wsX5_stepsToAll) := goodIn_app (goodIn_of _ (by decide +kernel)) ggX5_walks_X5_stepsToAll
theorem dX5_walks_0 : decode cX5_walks 0 = .ok (.aload_n 0, 1) := by decide +kernel
theorem dX5_walks_1 : decode cX5_walks 1 = .ok (.getfield 10, 3) := by decide +kernel
theorem dX5_walks_4 : decode cX5_walks 4 = .ok (.iload_n 1, 1) := by decide +kernel
theorem dX5_walks_5 : decode cX5_walks 5 = .ok (.invokevirtual 97, 3) := by decide +kernel
theorem dX5_walks_8 : decode cX5_walks 8 = .ok (.ifCond .ne 5, 3) := by decide +kernel
theorem dX5_walks_11 : decode cX5_walks 11 = .ok (.iconst (-1), 1) := by decide +kernel
theorem dX5_walks_12 : decode cX5_walks 12 = .ok (.ireturn, 1) := by decide +kernel
theorem dX5_walks_13 : decode cX5_walks 13 = .ok (.iload_n 2, 1) := by decide +kernel
theorem dX5_walks_14 : decode cX5_walks 14 = .ok (.invokestatic 123, 3) := by decide +kernel
theorem dX5_walks_17 : decode cX5_walks 17 = .ok (.ifCond .ne 6, 3) := by decide +kernel
theorem dX5_walks_20 : decode cX5_walks 20 = .ok (.bipush (-2), 2) := by decide +kernel
theorem dX5_walks_22 : decode cX5_walks 22 = .ok (.ireturn, 1) := by decide +kernel
theorem dX5_walks_23 : decode cX5_walks 23 = .ok (.aload_n 0, 1) := by decide +kernel
theorem dX5_walks_24 : decode cX5_walks 24 = .ok (.getfield 10, 3) := by decide +kernel
theorem dX5_walks_27 : decode cX5_walks 27 = .ok (.invokevirtual 93, 3) := by decide +kernel
theorem dX5_walks_30 : decode cX5_walks 30 = .ok (.ifCond .eq 12, 3) := by decide +kernel
theorem dX5_walks_33 : decode cX5_walks 33 = .ok (.aload_n 0, 1) := by decide +kernel
theorem dX5_walks_34 : decode cX5_walks 34 = .ok (.iload_n 1, 1) := by decide +kernel
theorem dX5_walks_35 : decode cX5_walks 35 = .ok (.iload_n 2, 1) := by decide +kernel
theorem dX5_walks_36 : decode cX5_walks 36 = .ok (.invokevirtual 133, 3) := by decide +kernel
theorem dX5_walks_39 : decode cX5_walks 39 = .ok (.goto 5, 3) := by decide +kernel
theorem dX5_walks_42 : decode cX5_walks 42 = .ok (.bipush (-3), 2) := by decide +kernel
theorem dX5_walks_44 : decode cX5_walks 44 = .ok (.ireturn, 1) := by decide +kernel
set_option maxRecDepth 20000 in
theorem ggX5_fails_X5_isHow : GoodIn wsX5_fails wsX5_isHow := goodIn_r _ [6] (by decide +kernel) (by decide +kernel)
set_option maxRecDepth 20000 in
theorem gX5_fails_X5_isHow : GoodIn wsX5_fails (va_wsS RX5 123 yX5_isHow wsX5_isHow) := goodIn_app (goodIn_of _ (by decide +kernel)) ggX5_fails_X5_isHow
set_option maxRecDepth 20000 in
theorem ggX5_fails_X2_isReady : GoodIn wsX5_fails wsX2_isReady := goodIn_r _ [11, 12, 13, 14, 15, 10, 16, 17, 18, 19, 20, 21, 22, 5, 23, 24, 25, 26, 27, 28, 29, 30, 31, 32, 33, 34, 35, 36, 37, 38, 85, 86, 87, 88, 89] (by decide +kernel) (by decide +kernel)
set_option maxRecDepth 20000 in
theorem gX5_fails_X2_isReady : GoodIn wsX5_fails (wsV RX5 93 RX2 yX2_isReady wsX2_isReady) := goodIn_app (goodIn_of _ (by decide +kernel)) ggX5_fails_X2_isReady
set_option maxRecDepth 20000 in
theorem ggX5_fails_X5_stepsToAll : GoodIn wsX5_fails wsX5_stepsToAll := goodIn_r _ [42, 43, 44, 1, 45, 22, 5, 23, 46, 36, 37, 10, 38, 12, 47, 48, 49, 50, 51, 52, 53, 54, 55, 56, 57, 58, 59, 60, 61, 62, 63, 64, 65, 66, 33, 34, 17, 18, 19, 20, 21, 67, 68, 69, 70, 71, 72, 24, 25, 26, 27, 28, 73, 74, 75, 76, 77, 78, 79, 80, 81, 82, 83, 84, 90, 91, 85, 86, 87, 88, 89] (by decide +kernel) (by decide +kernel)
set_option maxRecDepth 20000 in
theorem gX5_fails_X5_stepsToAll : GoodIn wsX5_fails (wsV RX5 133 RX5 yX5_stepsToAll wsX5_stepsToAll) := goodIn_app (goodIn_of _ (by decide +kernel)) ggX5_fails_X5_stepsToAll
theorem dX5_fails_0 : decode cX5_fails 0 = .ok (.iload_n 1, 1) := by decide +kernel
theorem dX5_fails_1 : decode cX5_fails 1 = .ok (.invokestatic 123, 3) := by decide +kernel
theorem dX5_fails_4 : decode cX5_fails 4 = .ok (.ifCond .ne 6, 3) := by decide +kernel
theorem dX5_fails_7 : decode cX5_fails 7 = .ok (.bipush (-2), 2) := by decide +kernel
theorem dX5_fails_9 : decode cX5_fails 9 = .ok (.ireturn, 1) := by decide +kernel
theorem dX5_fails_10 : decode cX5_fails 10 = .ok (.aload_n 0, 1) := by decide +kernel
theorem dX5_fails_11 : decode cX5_fails 11 = .ok (.getfield 10, 3) := by decide +kernel
theorem dX5_fails_14 : decode cX5_fails 14 = .ok (.invokevirtual 93, 3) := by decide +kernel
theorem dX5_fails_17 : decode cX5_fails 17 = .ok (.ifCond .ne 6, 3) := by decide +kernel
theorem dX5_fails_20 : decode cX5_fails 20 = .ok (.bipush (-3), 2) := by decide +kernel
theorem dX5_fails_22 : decode cX5_fails 22 = .ok (.ireturn, 1) := by decide +kernel
theorem dX5_fails_23 : decode cX5_fails 23 = .ok (.iconst 0, 1) := by decide +kernel
theorem dX5_fails_24 : decode cX5_fails 24 = .ok (.istore_n 2, 1) := by decide +kernel
theorem dX5_fails_25 : decode cX5_fails 25 = .ok (.iconst 0, 1) := by decide +kernel
theorem dX5_fails_26 : decode cX5_fails 26 = .ok (.istore_n 3, 1) := by decide +kernel
theorem dX5_fails_27 : decode cX5_fails 27 = .ok (.iload_n 3, 1) := by decide +kernel
theorem dX5_fails_28 : decode cX5_fails 28 = .ok (.aload_n 0, 1) := by decide +kernel
theorem dX5_fails_29 : decode cX5_fails 29 = .ok (.getfield 10, 3) := by decide +kernel
theorem dX5_fails_32 : decode cX5_fails 32 = .ok (.getfield 49, 3) := by decide +kernel
theorem dX5_fails_35 : decode cX5_fails 35 = .ok (.if_icmp .ge 26, 3) := by decide +kernel
theorem dX5_fails_38 : decode cX5_fails 38 = .ok (.aload_n 0, 1) := by decide +kernel
theorem dX5_fails_39 : decode cX5_fails 39 = .ok (.iload_n 3, 1) := by decide +kernel
theorem dX5_fails_40 : decode cX5_fails 40 = .ok (.iload_n 1, 1) := by decide +kernel
theorem dX5_fails_41 : decode cX5_fails 41 = .ok (.invokevirtual 133, 3) := by decide +kernel
theorem dX5_fails_44 : decode cX5_fails 44 = .ok (.bipush (-6), 2) := by decide +kernel
theorem dX5_fails_46 : decode cX5_fails 46 = .ok (.if_icmp .ne 9, 3) := by decide +kernel
theorem dX5_fails_49 : decode cX5_fails 49 = .ok (.iload_n 2, 1) := by decide +kernel
theorem dX5_fails_50 : decode cX5_fails 50 = .ok (.iconst 1, 1) := by decide +kernel
theorem dX5_fails_51 : decode cX5_fails 51 = .ok (.iload_n 3, 1) := by decide +kernel
theorem dX5_fails_52 : decode cX5_fails 52 = .ok (.ishl, 1) := by decide +kernel
theorem dX5_fails_53 : decode cX5_fails 53 = .ok (.ior, 1) := by decide +kernel
theorem dX5_fails_54 : decode cX5_fails 54 = .ok (.istore_n 2, 1) := by decide +kernel
theorem dX5_fails_55 : decode cX5_fails 55 = .ok (.iinc 3 1, 3) := by decide +kernel
theorem dX5_fails_58 : decode cX5_fails 58 = .ok (.goto (-31), 3) := by decide +kernel
theorem dX5_fails_61 : decode cX5_fails 61 = .ok (.iload_n 2, 1) := by decide +kernel
theorem dX5_fails_62 : decode cX5_fails 62 = .ok (.ireturn, 1) := by decide +kernel
set_option maxRecDepth 20000 in
theorem ggX5_sent_X2_hasPost : GoodIn wsX5_sent wsX2_hasPost := goodIn_r _ [7, 8, 86, 87, 88, 89, 90] (by decide +kernel) (by decide +kernel)
set_option maxRecDepth 20000 in
theorem gX5_sent_X2_hasPost : GoodIn wsX5_sent (wsV RX5 97 RX2 yX2_hasPost wsX2_hasPost) := goodIn_app (goodIn_of _ (by decide +kernel)) ggX5_sent_X2_hasPost
set_option maxRecDepth 20000 in
theorem ggX5_sent_X2_isReady : GoodIn wsX5_sent wsX2_isReady := goodIn_r _ [12, 8, 13, 14, 15, 6, 16, 17, 18, 19, 20, 21, 22, 23, 24, 25, 26, 27, 28, 29, 30, 31, 32, 33, 34, 35, 36, 37, 38, 39, 86, 87, 88, 89, 90] (by decide +kernel) (by decide +kernel)
set_option maxRecDepth 20000 in
theorem gX5_sent_X2_isReady : GoodIn wsX5_sent (wsV RX5 93 RX2 yX2_isReady wsX2_isReady) := goodIn_app (goodIn_of _ (by decide +kernel)) ggX5_sent_X2_isReady
set_option maxRecDepth 20000 in
theorem ggX5_sent_X0_stepsToAll : GoodIn wsX5_sent wsX0_stepsToAll := goodIn_r _ [44, 45, 46, 47, 43, 48, 49, 37, 38, 6, 39, 8, 50, 51, 52, 53, 54, 55, 56, 57, 58, 18, 19, 20, 21, 22, 23, 24, 59, 60, 61, 62, 25, 26, 27, 28, 29, 63, 64, 65, 66, 67, 34, 35, 68, 69, 70, 91, 86, 87, 88, 89, 90] (by decide +kernel) (by decide +kernel)
set_option maxRecDepth 20000 in
theorem gX5_sent_X0_stepsToAll : GoodIn wsX5_sent (wsV RX5 136 RX0 yX0_stepsToAll wsX0_stepsToAll) := goodIn_app (goodIn_of _ (by decide +kernel)) ggX5_sent_X0_stepsToAll
set_option maxRecDepth 20000 in
theorem ggX5_sent_X0_ringLength : GoodIn wsX5_sent wsX0_ringLength := goodIn_r _ [74, 75, 46, 47, 43, 48, 50, 51, 52, 53, 45, 54, 55, 56, 57, 58, 18, 19, 6, 20, 21, 22, 23, 24, 59, 60, 61, 62, 25, 26, 27, 28, 29, 63, 64, 65, 66, 67, 34, 35, 68, 69, 70, 91, 86, 87, 88, 89, 90] (by decide +kernel) (by decide +kernel)
set_option maxRecDepth 20000 in
theorem gX5_sent_X0_ringLength : GoodIn wsX5_sent (wsV RX5 138 RX0 yX0_ringLength wsX0_ringLength) := goodIn_app (goodIn_of _ (by decide +kernel)) ggX5_sent_X0_ringLength
set_option maxRecDepth 20000 in
theorem ggX5_sent_X0_stepsAhead : GoodIn wsX5_sent wsX0_stepsAhead := goodIn_r _ [79, 46, 47, 43, 48, 50, 51, 52, 53, 45, 54, 55, 56, 57, 58, 18, 19, 6, 20, 21, 22, 23, 24, 59, 60, 61, 62, 25, 26, 27, 28, 29, 63, 64, 65, 66, 67, 34, 35, 91, 86, 87, 88, 89, 90] (by decide +kernel) (by decide +kernel)
set_option maxRecDepth 20000 in
theorem gX5_sent_X0_stepsAhead : GoodIn wsX5_sent (wsV RX5 141 RX0 yX0_stepsAhead wsX0_stepsAhead) := goodIn_app (goodIn_of _ (by decide +kernel)) ggX5_sent_X0_stepsAhead
theorem dX5_sent_0 : decode cX5_sent 0 = .ok (.aload_n 0, 1) := by decide +kernel
theorem dX5_sent_1 : decode cX5_sent 1 = .ok (.getfield 10, 3) := by decide +kernel
theorem dX5_sent_4 : decode cX5_sent 4 = .ok (.iload_n 1, 1) := by decide +kernel
theorem dX5_sent_5 : decode cX5_sent 5 = .ok (.invokevirtual 97, 3) := by decide +kernel
theorem dX5_sent_8 : decode cX5_sent 8 = .ok (.ifCond .ne 5, 3) := by decide +kernel
theorem dX5_sent_11 : decode cX5_sent 11 = .ok (.iconst (-1), 1) := by decide +kernel
theorem dX5_sent_12 : decode cX5_sent 12 = .ok (.ireturn, 1) := by decide +kernel
theorem dX5_sent_13 : decode cX5_sent 13 = .ok (.iload_n 2, 1) := by decide +kernel
theorem dX5_sent_14 : decode cX5_sent 14 = .ok (.ifCond .lt 8, 3) := by decide +kernel
theorem dX5_sent_17 : decode cX5_sent 17 = .ok (.iload_n 2, 1) := by decide +kernel
theorem dX5_sent_18 : decode cX5_sent 18 = .ok (.iconst 2, 1) := by decide +kernel
theorem dX5_sent_19 : decode cX5_sent 19 = .ok (.if_icmp .le 6, 3) := by decide +kernel
theorem dX5_sent_22 : decode cX5_sent 22 = .ok (.bipush (-2), 2) := by decide +kernel
theorem dX5_sent_24 : decode cX5_sent 24 = .ok (.ireturn, 1) := by decide +kernel
theorem dX5_sent_25 : decode cX5_sent 25 = .ok (.aload_n 0, 1) := by decide +kernel
theorem dX5_sent_26 : decode cX5_sent 26 = .ok (.getfield 10, 3) := by decide +kernel
theorem dX5_sent_29 : decode cX5_sent 29 = .ok (.invokevirtual 93, 3) := by decide +kernel
theorem dX5_sent_32 : decode cX5_sent 32 = .ok (.ifCond .ne 6, 3) := by decide +kernel
theorem dX5_sent_35 : decode cX5_sent 35 = .ok (.bipush (-3), 2) := by decide +kernel
theorem dX5_sent_37 : decode cX5_sent 37 = .ok (.ireturn, 1) := by decide +kernel
theorem dX5_sent_38 : decode cX5_sent 38 = .ok (.iload_n 2, 1) := by decide +kernel
theorem dX5_sent_39 : decode cX5_sent 39 = .ok (.ifCond .ne 12, 3) := by decide +kernel
theorem dX5_sent_42 : decode cX5_sent 42 = .ok (.aload_n 0, 1) := by decide +kernel
theorem dX5_sent_43 : decode cX5_sent 43 = .ok (.getfield 31, 3) := by decide +kernel
theorem dX5_sent_46 : decode cX5_sent 46 = .ok (.iload_n 1, 1) := by decide +kernel
theorem dX5_sent_47 : decode cX5_sent 47 = .ok (.invokevirtual 136, 3) := by decide +kernel
theorem dX5_sent_50 : decode cX5_sent 50 = .ok (.ireturn, 1) := by decide +kernel
theorem dX5_sent_51 : decode cX5_sent 51 = .ok (.aload_n 0, 1) := by decide +kernel
theorem dX5_sent_52 : decode cX5_sent 52 = .ok (.getfield 31, 3) := by decide +kernel
theorem dX5_sent_55 : decode cX5_sent 55 = .ok (.iload_n 1, 1) := by decide +kernel
theorem dX5_sent_56 : decode cX5_sent 56 = .ok (.invokevirtual 138, 3) := by decide +kernel
theorem dX5_sent_59 : decode cX5_sent 59 = .ok (.istore_n 3, 1) := by decide +kernel
theorem dX5_sent_60 : decode cX5_sent 60 = .ok (.iload_n 3, 1) := by decide +kernel
theorem dX5_sent_61 : decode cX5_sent 61 = .ok (.bipush (-7), 2) := by decide +kernel
theorem dX5_sent_63 : decode cX5_sent 63 = .ok (.if_icmp .ne 6, 3) := by decide +kernel
theorem dX5_sent_66 : decode cX5_sent 66 = .ok (.bipush (-7), 2) := by decide +kernel
theorem dX5_sent_68 : decode cX5_sent 68 = .ok (.ireturn, 1) := by decide +kernel
theorem dX5_sent_69 : decode cX5_sent 69 = .ok (.aload_n 0, 1) := by decide +kernel
theorem dX5_sent_70 : decode cX5_sent 70 = .ok (.getfield 31, 3) := by decide +kernel
theorem dX5_sent_73 : decode cX5_sent 73 = .ok (.iload_n 1, 1) := by decide +kernel
theorem dX5_sent_74 : decode cX5_sent 74 = .ok (.iload_n 3, 1) := by decide +kernel
theorem dX5_sent_75 : decode cX5_sent 75 = .ok (.invokevirtual 141, 3) := by decide +kernel
theorem dX5_sent_78 : decode cX5_sent 78 = .ok (.istore 4, 2) := by decide +kernel
theorem dX5_sent_80 : decode cX5_sent 80 = .ok (.iload_n 2, 1) := by decide +kernel
theorem dX5_sent_81 : decode cX5_sent 81 = .ok (.iconst 1, 1) := by decide +kernel
theorem dX5_sent_82 : decode cX5_sent 82 = .ok (.if_icmp .eq 10, 3) := by decide +kernel
theorem dX5_sent_85 : decode cX5_sent 85 = .ok (.iload 4, 2) := by decide +kernel
theorem dX5_sent_87 : decode cX5_sent 87 = .ok (.bipush (-7), 2) := by decide +kernel
theorem dX5_sent_89 : decode cX5_sent 89 = .ok (.if_icmp .ne 8, 3) := by decide +kernel
theorem dX5_sent_92 : decode cX5_sent 92 = .ok (.iload 4, 2) := by decide +kernel
theorem dX5_sent_94 : decode cX5_sent 94 = .ok (.goto 4, 3) := by decide +kernel
theorem dX5_sent_97 : decode cX5_sent 97 = .ok (.iload_n 3, 1) := by decide +kernel
theorem dX5_sent_98 : decode cX5_sent 98 = .ok (.ireturn, 1) := by decide +kernel
set_option maxRecDepth 20000 in
theorem ggX5_next_X2_hasPost : GoodIn wsX5_next wsX2_hasPost := goodIn_r _ [6, 7, 62, 63, 64, 65, 66] (by decide +kernel) (by decide +kernel)
set_option maxRecDepth 20000 in
theorem gX5_next_X2_hasPost : GoodIn wsX5_next (wsV RX5 97 RX2 yX2_hasPost wsX2_hasPost) := goodIn_app (goodIn_of _ (by decide +kernel)) ggX5_next_X2_hasPost
set_option maxRecDepth 20000 in
theorem ggX5_next_X2_isReady : GoodIn wsX5_next wsX2_isReady := goodIn_r _ [11, 7, 12, 13, 14, 5, 15, 16, 17, 18, 19, 20, 21, 22, 23, 24, 25, 26, 27, 28, 29, 30, 31, 32, 33, 34, 35, 36, 37, 38, 62, 63, 64, 65, 66] (by decide +kernel) (by decide +kernel)
set_option maxRecDepth 20000 in
theorem gX5_next_X2_isReady : GoodIn wsX5_next (wsV RX5 93 RX2 yX2_isReady wsX2_isReady) := goodIn_app (goodIn_of _ (by decide +kernel)) ggX5_next_X2_isReady
set_option maxRecDepth 20000 in
theorem ggX5_next_X5_placeOf : GoodIn wsX5_next wsX5_placeOf := goodIn_r _ [23] (by decide +kernel) (by decide +kernel)
set_option maxRecDepth 20000 in
theorem gX5_next_X5_placeOf : GoodIn wsX5_next (va_wsS RX5 61 yX5_placeOf wsX5_placeOf) := goodIn_app (goodIn_of _ (by decide +kernel)) ggX5_next_X5_placeOf
set_option maxRecDepth 20000 in
theorem ggX5_next_X2_walkOn : GoodIn wsX5_next wsX2_walkOn := goodIn_r _ [43, 33, 22, 34, 16, 17, 18, 5, 19, 20, 44, 45, 21, 23, 46, 47, 48, 49, 24, 25, 26, 27, 28, 50, 51, 52, 53, 54, 62, 63, 64, 65, 66] (by decide +kernel) (by decide +kernel)
set_option maxRecDepth 20000 in
theorem gX5_next_X2_walkOn : GoodIn wsX5_next (wsV RX5 144 RX2 yX2_walkOn wsX2_walkOn) := goodIn_app (goodIn_of _ (by decide +kernel)) ggX5_next_X2_walkOn
set_option maxRecDepth 20000 in
theorem ggX5_next_X5_postOf : GoodIn wsX5_next wsX5_postOf := goodIn_r _ [34] (by decide +kernel) (by decide +kernel)
set_option maxRecDepth 20000 in
theorem gX5_next_X5_postOf : GoodIn wsX5_next (va_wsS RX5 130 yX5_postOf wsX5_postOf) := goodIn_app (goodIn_of _ (by decide +kernel)) ggX5_next_X5_postOf
theorem dX5_next_0 : decode cX5_next 0 = .ok (.aload_n 0, 1) := by decide +kernel
theorem dX5_next_1 : decode cX5_next 1 = .ok (.getfield 10, 3) := by decide +kernel
theorem dX5_next_4 : decode cX5_next 4 = .ok (.iload_n 1, 1) := by decide +kernel
theorem dX5_next_5 : decode cX5_next 5 = .ok (.invokevirtual 97, 3) := by decide +kernel
theorem dX5_next_8 : decode cX5_next 8 = .ok (.ifCond .ne 5, 3) := by decide +kernel
theorem dX5_next_11 : decode cX5_next 11 = .ok (.iconst (-1), 1) := by decide +kernel
theorem dX5_next_12 : decode cX5_next 12 = .ok (.ireturn, 1) := by decide +kernel
theorem dX5_next_13 : decode cX5_next 13 = .ok (.aload_n 0, 1) := by decide +kernel
theorem dX5_next_14 : decode cX5_next 14 = .ok (.getfield 10, 3) := by decide +kernel
theorem dX5_next_17 : decode cX5_next 17 = .ok (.invokevirtual 93, 3) := by decide +kernel
theorem dX5_next_20 : decode cX5_next 20 = .ok (.ifCond .ne 6, 3) := by decide +kernel
theorem dX5_next_23 : decode cX5_next 23 = .ok (.bipush (-3), 2) := by decide +kernel
theorem dX5_next_25 : decode cX5_next 25 = .ok (.ireturn, 1) := by decide +kernel
theorem dX5_next_26 : decode cX5_next 26 = .ok (.iload_n 1, 1) := by decide +kernel
theorem dX5_next_27 : decode cX5_next 27 = .ok (.iconst 0, 1) := by decide +kernel
theorem dX5_next_28 : decode cX5_next 28 = .ok (.invokestatic 61, 3) := by decide +kernel
theorem dX5_next_31 : decode cX5_next 31 = .ok (.istore_n 2, 1) := by decide +kernel
theorem dX5_next_32 : decode cX5_next 32 = .ok (.iconst 1, 1) := by decide +kernel
theorem dX5_next_33 : decode cX5_next 33 = .ok (.iload_n 1, 1) := by decide +kernel
theorem dX5_next_34 : decode cX5_next 34 = .ok (.ishl, 1) := by decide +kernel
theorem dX5_next_35 : decode cX5_next 35 = .ok (.istore_n 3, 1) := by decide +kernel
theorem dX5_next_36 : decode cX5_next 36 = .ok (.iconst 0, 1) := by decide +kernel
theorem dX5_next_37 : decode cX5_next 37 = .ok (.istore 4, 2) := by decide +kernel
theorem dX5_next_39 : decode cX5_next 39 = .ok (.iload 4, 2) := by decide +kernel
theorem dX5_next_41 : decode cX5_next 41 = .ok (.bipush 32, 2) := by decide +kernel
theorem dX5_next_43 : decode cX5_next 43 = .ok (.if_icmp .ge 29, 3) := by decide +kernel
theorem dX5_next_46 : decode cX5_next 46 = .ok (.aload_n 0, 1) := by decide +kernel
theorem dX5_next_47 : decode cX5_next 47 = .ok (.getfield 10, 3) := by decide +kernel
theorem dX5_next_50 : decode cX5_next 50 = .ok (.iload_n 2, 1) := by decide +kernel
theorem dX5_next_51 : decode cX5_next 51 = .ok (.iconst 1, 1) := by decide +kernel
theorem dX5_next_52 : decode cX5_next 52 = .ok (.iconst 0, 1) := by decide +kernel
theorem dX5_next_53 : decode cX5_next 53 = .ok (.invokevirtual 144, 3) := by decide +kernel
theorem dX5_next_56 : decode cX5_next 56 = .ok (.istore_n 2, 1) := by decide +kernel
theorem dX5_next_57 : decode cX5_next 57 = .ok (.iload_n 3, 1) := by decide +kernel
theorem dX5_next_58 : decode cX5_next 58 = .ok (.iconst 1, 1) := by decide +kernel
theorem dX5_next_59 : decode cX5_next 59 = .ok (.iload_n 2, 1) := by decide +kernel
theorem dX5_next_60 : decode cX5_next 60 = .ok (.invokestatic 130, 3) := by decide +kernel
theorem dX5_next_63 : decode cX5_next 63 = .ok (.ishl, 1) := by decide +kernel
theorem dX5_next_64 : decode cX5_next 64 = .ok (.ior, 1) := by decide +kernel
theorem dX5_next_65 : decode cX5_next 65 = .ok (.istore_n 3, 1) := by decide +kernel
theorem dX5_next_66 : decode cX5_next 66 = .ok (.iinc 4 1, 3) := by decide +kernel
theorem dX5_next_69 : decode cX5_next 69 = .ok (.goto (-30), 3) := by decide +kernel
theorem dX5_next_72 : decode cX5_next 72 = .ok (.iload_n 3, 1) := by decide +kernel
theorem dX5_next_73 : decode cX5_next 73 = .ok (.ireturn, 1) := by decide +kernel
set_option maxRecDepth 20000 in
theorem ggX5_look_X2_hasPost : GoodIn wsX5_look wsX2_hasPost := goodIn_r _ [7, 8, 88, 89, 90, 91, 92] (by decide +kernel) (by decide +kernel)
set_option maxRecDepth 20000 in
theorem gX5_look_X2_hasPost : GoodIn wsX5_look (wsV RX5 97 RX2 yX2_hasPost wsX2_hasPost) := goodIn_app (goodIn_of _ (by decide +kernel)) ggX5_look_X2_hasPost
set_option maxRecDepth 20000 in
theorem ggX5_look_X5_isDepth : GoodIn wsX5_look wsX5_isDepth := goodIn_r _ [12] (by decide +kernel) (by decide +kernel)
set_option maxRecDepth 20000 in
theorem gX5_look_X5_isDepth : GoodIn wsX5_look (va_wsS RX5 148 yX5_isDepth wsX5_isDepth) := goodIn_app (goodIn_of _ (by decide +kernel)) ggX5_look_X5_isDepth
set_option maxRecDepth 20000 in
theorem ggX5_look_X2_isReady : GoodIn wsX5_look wsX2_isReady := goodIn_r _ [16, 8, 17, 18, 19, 6, 20, 21, 22, 23, 24, 25, 26, 11, 27, 28, 29, 30, 31, 32, 33, 34, 35, 36, 37, 38, 39, 40, 41, 42, 88, 89, 90, 91, 92] (by decide +kernel) (by decide +kernel)
set_option maxRecDepth 20000 in
theorem gX5_look_X2_isReady : GoodIn wsX5_look (wsV RX5 93 RX2 yX2_isReady wsX2_isReady) := goodIn_app (goodIn_of _ (by decide +kernel)) ggX5_look_X2_isReady
set_option maxRecDepth 20000 in
theorem ggX5_look_X1_lookTo : GoodIn wsX5_look wsX1_lookTo := goodIn_r _ [47, 48, 49, 50, 51, 46, 52, 53, 54, 55, 56, 57, 58, 59, 60, 61, 62, 63, 64, 65, 22, 23, 6, 24, 25, 66, 67, 68, 69, 70, 71, 72, 73, 26, 11, 27, 74, 29, 30, 31, 32, 75, 76, 37, 38, 77, 78, 79, 80, 93, 94, 95, 96, 88, 89, 90, 91, 92] (by decide +kernel) (by decide +kernel)
set_option maxRecDepth 20000 in
theorem gX5_look_X1_lookTo : GoodIn wsX5_look (wsV RX5 151 RX1 yX1_lookTo wsX1_lookTo) := goodIn_app (goodIn_of _ (by decide +kernel)) ggX5_look_X1_lookTo
set_option maxRecDepth 20000 in
theorem ggX5_look_X1_kindOf : GoodIn wsX5_look wsX1_kindOf := goodIn_r _ [73, 53, 93, 94, 95, 96] (by decide +kernel) (by decide +kernel)
set_option maxRecDepth 20000 in
theorem gX5_look_X1_kindOf : GoodIn wsX5_look (wsV RX5 154 RX1 yX1_kindOf wsX1_kindOf) := goodIn_app (goodIn_of _ (by decide +kernel)) ggX5_look_X1_kindOf
theorem dX5_look_0 : decode cX5_look 0 = .ok (.aload_n 0, 1) := by decide +kernel
theorem dX5_look_1 : decode cX5_look 1 = .ok (.getfield 10, 3) := by decide +kernel
theorem dX5_look_4 : decode cX5_look 4 = .ok (.iload_n 1, 1) := by decide +kernel
theorem dX5_look_5 : decode cX5_look 5 = .ok (.invokevirtual 97, 3) := by decide +kernel
theorem dX5_look_8 : decode cX5_look 8 = .ok (.ifCond .ne 5, 3) := by decide +kernel
theorem dX5_look_11 : decode cX5_look 11 = .ok (.iconst (-1), 1) := by decide +kernel
theorem dX5_look_12 : decode cX5_look 12 = .ok (.ireturn, 1) := by decide +kernel
theorem dX5_look_13 : decode cX5_look 13 = .ok (.iload_n 2, 1) := by decide +kernel
theorem dX5_look_14 : decode cX5_look 14 = .ok (.invokestatic 148, 3) := by decide +kernel
theorem dX5_look_17 : decode cX5_look 17 = .ok (.ifCond .ne 6, 3) := by decide +kernel
theorem dX5_look_20 : decode cX5_look 20 = .ok (.bipush (-2), 2) := by decide +kernel
theorem dX5_look_22 : decode cX5_look 22 = .ok (.ireturn, 1) := by decide +kernel
theorem dX5_look_23 : decode cX5_look 23 = .ok (.aload_n 0, 1) := by decide +kernel
theorem dX5_look_24 : decode cX5_look 24 = .ok (.getfield 10, 3) := by decide +kernel
theorem dX5_look_27 : decode cX5_look 27 = .ok (.invokevirtual 93, 3) := by decide +kernel
theorem dX5_look_30 : decode cX5_look 30 = .ok (.ifCond .ne 6, 3) := by decide +kernel
theorem dX5_look_33 : decode cX5_look 33 = .ok (.bipush (-3), 2) := by decide +kernel
theorem dX5_look_35 : decode cX5_look 35 = .ok (.ireturn, 1) := by decide +kernel
theorem dX5_look_36 : decode cX5_look 36 = .ok (.aload_n 0, 1) := by decide +kernel
theorem dX5_look_37 : decode cX5_look 37 = .ok (.getfield 38, 3) := by decide +kernel
theorem dX5_look_40 : decode cX5_look 40 = .ok (.iload_n 2, 1) := by decide +kernel
theorem dX5_look_41 : decode cX5_look 41 = .ok (.invokevirtual 151, 3) := by decide +kernel
theorem dX5_look_44 : decode cX5_look 44 = .ok (.pop, 1) := by decide +kernel
theorem dX5_look_45 : decode cX5_look 45 = .ok (.aload_n 0, 1) := by decide +kernel
theorem dX5_look_46 : decode cX5_look 46 = .ok (.getfield 38, 3) := by decide +kernel
theorem dX5_look_49 : decode cX5_look 49 = .ok (.iload_n 1, 1) := by decide +kernel
theorem dX5_look_50 : decode cX5_look 50 = .ok (.invokevirtual 154, 3) := by decide +kernel
theorem dX5_look_53 : decode cX5_look 53 = .ok (.ireturn, 1) := by decide +kernel
set_option maxRecDepth 20000 in
theorem ggX5_classes_X5_isDepth : GoodIn wsX5_classes wsX5_isDepth := goodIn_r _ [7] (by decide +kernel) (by decide +kernel)
set_option maxRecDepth 20000 in
theorem gX5_classes_X5_isDepth : GoodIn wsX5_classes (va_wsS RX5 148 yX5_isDepth wsX5_isDepth) := goodIn_app (goodIn_of _ (by decide +kernel)) ggX5_classes_X5_isDepth
set_option maxRecDepth 20000 in
theorem ggX5_classes_X2_isReady : GoodIn wsX5_classes wsX2_isReady := goodIn_r _ [12, 13, 14, 15, 16, 11, 17, 18, 19, 20, 21, 22, 23, 6, 24, 25, 26, 27, 28, 29, 30, 31, 32, 33, 34, 35, 36, 37, 38, 39, 88, 89, 90, 91, 92] (by decide +kernel) (by decide +kernel)
set_option maxRecDepth 20000 in
theorem gX5_classes_X2_isReady : GoodIn wsX5_classes (wsV RX5 93 RX2 yX2_isReady wsX2_isReady) := goodIn_app (goodIn_of _ (by decide +kernel)) ggX5_classes_X2_isReady
set_option maxRecDepth 20000 in
theorem ggX5_classes_X1_lookTo : GoodIn wsX5_classes wsX1_lookTo := goodIn_r _ [44, 45, 46, 47, 48, 43, 49, 50, 51, 52, 53, 54, 55, 56, 57, 58, 59, 60, 61, 62, 19, 20, 11, 21, 22, 63, 64, 65, 66, 67, 68, 69, 70, 23, 6, 24, 71, 26, 27, 28, 29, 72, 73, 34, 35, 74, 75, 76, 77, 84, 85, 86, 87, 88, 89, 90, 91, 92] (by decide +kernel) (by decide +kernel)
set_option maxRecDepth 20000 in
theorem gX5_classes_X1_lookTo : GoodIn wsX5_classes (wsV RX5 151 RX1 yX1_lookTo wsX1_lookTo) := goodIn_app (goodIn_of _ (by decide +kernel)) ggX5_classes_X1_lookTo
theorem dX5_classes_0 : decode cX5_classes 0 = .ok (.iload_n 1, 1) := by decide +kernel
theorem dX5_classes_1 : decode cX5_classes 1 = .ok (.invokestatic 148, 3) := by decide +kernel
theorem dX5_classes_4 : decode cX5_classes 4 = .ok (.ifCond .ne 6, 3) := by decide +kernel
theorem dX5_classes_7 : decode cX5_classes 7 = .ok (.bipush (-2), 2) := by decide +kernel
theorem dX5_classes_9 : decode cX5_classes 9 = .ok (.ireturn, 1) := by decide +kernel
theorem dX5_classes_10 : decode cX5_classes 10 = .ok (.aload_n 0, 1) := by decide +kernel
theorem dX5_classes_11 : decode cX5_classes 11 = .ok (.getfield 10, 3) := by decide +kernel
theorem dX5_classes_14 : decode cX5_classes 14 = .ok (.invokevirtual 93, 3) := by decide +kernel
theorem dX5_classes_17 : decode cX5_classes 17 = .ok (.ifCond .ne 6, 3) := by decide +kernel
theorem dX5_classes_20 : decode cX5_classes 20 = .ok (.bipush (-3), 2) := by decide +kernel
theorem dX5_classes_22 : decode cX5_classes 22 = .ok (.ireturn, 1) := by decide +kernel
theorem dX5_classes_23 : decode cX5_classes 23 = .ok (.aload_n 0, 1) := by decide +kernel
theorem dX5_classes_24 : decode cX5_classes 24 = .ok (.getfield 38, 3) := by decide +kernel
theorem dX5_classes_27 : decode cX5_classes 27 = .ok (.iload_n 1, 1) := by decide +kernel
theorem dX5_classes_28 : decode cX5_classes 28 = .ok (.invokevirtual 151, 3) := by decide +kernel
theorem dX5_classes_31 : decode cX5_classes 31 = .ok (.pop, 1) := by decide +kernel
theorem dX5_classes_32 : decode cX5_classes 32 = .ok (.aload_n 0, 1) := by decide +kernel
theorem dX5_classes_33 : decode cX5_classes 33 = .ok (.getfield 38, 3) := by decide +kernel
theorem dX5_classes_36 : decode cX5_classes 36 = .ok (.getfield 157, 3) := by decide +kernel
theorem dX5_classes_39 : decode cX5_classes 39 = .ok (.ireturn, 1) := by decide +kernel
set_option maxRecDepth 20000 in
theorem ggX5_deep_X2_isReady : GoodIn wsX5_deep wsX2_isReady := goodIn_r _ [7, 8, 9, 10, 11, 6, 12, 13, 14, 15, 16, 17, 18, 19, 20, 21, 22, 23, 24, 25, 26, 27, 28, 29, 30, 31, 32, 33, 34, 35, 80, 81, 82, 83, 84] (by decide +kernel) (by decide +kernel)
set_option maxRecDepth 20000 in
theorem gX5_deep_X2_isReady : GoodIn wsX5_deep (wsV RX5 93 RX2 yX2_isReady wsX2_isReady) := goodIn_app (goodIn_of _ (by decide +kernel)) ggX5_deep_X2_isReady
set_option maxRecDepth 20000 in
theorem ggX5_deep_X1_lookTo : GoodIn wsX5_deep wsX1_lookTo := goodIn_r _ [40, 41, 42, 43, 44, 39, 45, 46, 47, 48, 49, 50, 51, 52, 53, 54, 55, 56, 57, 58, 14, 15, 6, 16, 17, 59, 60, 61, 62, 63, 64, 65, 66, 18, 19, 20, 67, 22, 23, 24, 25, 68, 69, 30, 31, 70, 71, 72, 73, 85, 86, 87, 88, 80, 81, 82, 83, 84] (by decide +kernel) (by decide +kernel)
set_option maxRecDepth 20000 in
theorem gX5_deep_X1_lookTo : GoodIn wsX5_deep (wsV RX5 151 RX1 yX1_lookTo wsX1_lookTo) := goodIn_app (goodIn_of _ (by decide +kernel)) ggX5_deep_X1_lookTo
theorem dX5_deep_0 : decode cX5_deep 0 = .ok (.aload_n 0, 1) := by decide +kernel
theorem dX5_deep_1 : decode cX5_deep 1 = .ok (.getfield 10, 3) := by decide +kernel
theorem dX5_deep_4 : decode cX5_deep 4 = .ok (.invokevirtual 93, 3) := by decide +kernel
theorem dX5_deep_7 : decode cX5_deep 7 = .ok (.ifCond .eq 15, 3) := by decide +kernel
theorem dX5_deep_10 : decode cX5_deep 10 = .ok (.aload_n 0, 1) := by decide +kernel
theorem dX5_deep_11 : decode cX5_deep 11 = .ok (.getfield 38, 3) := by decide +kernel
theorem dX5_deep_14 : decode cX5_deep 14 = .ok (.bipush 20, 2) := by decide +kernel
theorem dX5_deep_16 : decode cX5_deep 16 = .ok (.invokevirtual 151, 3) := by decide +kernel
theorem dX5_deep_19 : decode cX5_deep 19 = .ok (.goto 5, 3) := by decide +kernel
theorem dX5_deep_22 : decode cX5_deep 22 = .ok (.bipush (-3), 2) := by decide +kernel
theorem dX5_deep_24 : decode cX5_deep 24 = .ok (.ireturn, 1) := by decide +kernel
set_option maxRecDepth 20000 in
theorem ggX5_apart_X2_hasPost : GoodIn wsX5_apart wsX2_hasPost := goodIn_r _ [7, 8, 84, 85, 86, 87, 88] (by decide +kernel) (by decide +kernel)
set_option maxRecDepth 20000 in
theorem gX5_apart_X2_hasPost : GoodIn wsX5_apart (wsV RX5 97 RX2 yX2_hasPost wsX2_hasPost) := goodIn_app (goodIn_of _ (by decide +kernel)) ggX5_apart_X2_hasPost
set_option maxRecDepth 20000 in
theorem ggX5_apart_X2_isReady : GoodIn wsX5_apart wsX2_isReady := goodIn_r _ [12, 8, 13, 14, 15, 6, 16, 17, 18, 19, 20, 21, 22, 23, 24, 25, 26, 27, 28, 29, 30, 31, 32, 33, 34, 35, 36, 37, 38, 39, 84, 85, 86, 87, 88] (by decide +kernel) (by decide +kernel)
set_option maxRecDepth 20000 in
theorem gX5_apart_X2_isReady : GoodIn wsX5_apart (wsV RX5 93 RX2 yX2_isReady wsX2_isReady) := goodIn_app (goodIn_of _ (by decide +kernel)) ggX5_apart_X2_isReady
set_option maxRecDepth 20000 in
theorem ggX5_apart_X1_depthApart : GoodIn wsX5_apart wsX1_depthApart := goodIn_r _ [44, 45, 46, 47, 43, 48, 49, 50, 51, 52, 53, 54, 55, 56, 57, 58, 59, 60, 61, 62, 18, 19, 6, 20, 21, 63, 64, 65, 66, 67, 68, 69, 70, 22, 23, 24, 71, 26, 27, 28, 29, 72, 73, 34, 35, 74, 75, 76, 77, 89, 90, 91, 92, 84, 85, 86, 87, 88] (by decide +kernel) (by decide +kernel)
set_option maxRecDepth 20000 in
theorem gX5_apart_X1_depthApart : GoodIn wsX5_apart (wsV RX5 160 RX1 yX1_depthApart wsX1_depthApart) := goodIn_app (goodIn_of _ (by decide +kernel)) ggX5_apart_X1_depthApart
theorem dX5_apart_0 : decode cX5_apart 0 = .ok (.aload_n 0, 1) := by decide +kernel
theorem dX5_apart_1 : decode cX5_apart 1 = .ok (.getfield 10, 3) := by decide +kernel
theorem dX5_apart_4 : decode cX5_apart 4 = .ok (.iload_n 1, 1) := by decide +kernel
theorem dX5_apart_5 : decode cX5_apart 5 = .ok (.invokevirtual 97, 3) := by decide +kernel
theorem dX5_apart_8 : decode cX5_apart 8 = .ok (.ifCond .eq 14, 3) := by decide +kernel
theorem dX5_apart_11 : decode cX5_apart 11 = .ok (.aload_n 0, 1) := by decide +kernel
theorem dX5_apart_12 : decode cX5_apart 12 = .ok (.getfield 10, 3) := by decide +kernel
theorem dX5_apart_15 : decode cX5_apart 15 = .ok (.iload_n 2, 1) := by decide +kernel
theorem dX5_apart_16 : decode cX5_apart 16 = .ok (.invokevirtual 97, 3) := by decide +kernel
theorem dX5_apart_19 : decode cX5_apart 19 = .ok (.ifCond .ne 5, 3) := by decide +kernel
theorem dX5_apart_22 : decode cX5_apart 22 = .ok (.iconst (-1), 1) := by decide +kernel
theorem dX5_apart_23 : decode cX5_apart 23 = .ok (.ireturn, 1) := by decide +kernel
theorem dX5_apart_24 : decode cX5_apart 24 = .ok (.aload_n 0, 1) := by decide +kernel
theorem dX5_apart_25 : decode cX5_apart 25 = .ok (.getfield 10, 3) := by decide +kernel
theorem dX5_apart_28 : decode cX5_apart 28 = .ok (.invokevirtual 93, 3) := by decide +kernel
theorem dX5_apart_31 : decode cX5_apart 31 = .ok (.ifCond .eq 15, 3) := by decide +kernel
theorem dX5_apart_34 : decode cX5_apart 34 = .ok (.aload_n 0, 1) := by decide +kernel
theorem dX5_apart_35 : decode cX5_apart 35 = .ok (.getfield 38, 3) := by decide +kernel
theorem dX5_apart_38 : decode cX5_apart 38 = .ok (.iload_n 1, 1) := by decide +kernel
theorem dX5_apart_39 : decode cX5_apart 39 = .ok (.iload_n 2, 1) := by decide +kernel
theorem dX5_apart_40 : decode cX5_apart 40 = .ok (.invokevirtual 160, 3) := by decide +kernel
theorem dX5_apart_43 : decode cX5_apart 43 = .ok (.goto 5, 3) := by decide +kernel
theorem dX5_apart_46 : decode cX5_apart 46 = .ok (.bipush (-3), 2) := by decide +kernel
theorem dX5_apart_48 : decode cX5_apart 48 = .ok (.ireturn, 1) := by decide +kernel
set_option maxRecDepth 20000 in
theorem ggX5_meet_X2_hasPost : GoodIn wsX5_meet wsX2_hasPost := goodIn_r _ [6, 7, 93, 94, 95, 96, 97] (by decide +kernel) (by decide +kernel)
set_option maxRecDepth 20000 in
theorem gX5_meet_X2_hasPost : GoodIn wsX5_meet (wsV RX5 97 RX2 yX2_hasPost wsX2_hasPost) := goodIn_app (goodIn_of _ (by decide +kernel)) ggX5_meet_X2_hasPost
set_option maxRecDepth 20000 in
theorem ggX5_meet_X2_isReady : GoodIn wsX5_meet wsX2_isReady := goodIn_r _ [11, 7, 12, 13, 14, 5, 15, 16, 17, 18, 19, 20, 21, 22, 23, 24, 25, 26, 27, 28, 29, 30, 31, 32, 33, 34, 35, 36, 37, 38, 93, 94, 95, 96, 97] (by decide +kernel) (by decide +kernel)
set_option maxRecDepth 20000 in
theorem gX5_meet_X2_isReady : GoodIn wsX5_meet (wsV RX5 93 RX2 yX2_isReady wsX2_isReady) := goodIn_app (goodIn_of _ (by decide +kernel)) ggX5_meet_X2_isReady
set_option maxRecDepth 20000 in
theorem ggX5_meet_X5_rowOf : GoodIn wsX5_meet wsX5_rowOf := goodIn_r _ [42, 43, 44, 87, 88, 89, 90, 91, 92] (by decide +kernel) (by decide +kernel)
set_option maxRecDepth 20000 in
theorem gX5_meet_X5_rowOf : GoodIn wsX5_meet (wsV RX5 106 RX5 yX5_rowOf wsX5_rowOf) := goodIn_app (goodIn_of _ (by decide +kernel)) ggX5_meet_X5_rowOf
set_option maxRecDepth 20000 in
theorem ggX5_meet_X5_meetingStep : GoodIn wsX5_meet wsX5_meetingStep := goodIn_r _ [48, 44, 49, 50, 51, 52, 53, 54, 21, 22, 23, 55, 33, 34, 56, 57, 58, 59, 1, 60, 61, 62, 63, 64, 65, 66, 67, 68, 69, 70, 71, 72, 73, 74, 5, 75, 16, 17, 18, 19, 20, 76, 77, 78, 79, 80, 81, 24, 25, 26, 27, 28, 82, 83, 84, 85, 86, 87, 88, 89, 90, 91, 92, 98, 99, 93, 94, 95, 96, 97] (by decide +kernel) (by decide +kernel)
set_option maxRecDepth 20000 in
theorem gX5_meet_X5_meetingStep : GoodIn wsX5_meet (wsV RX5 163 RX5 yX5_meetingStep wsX5_meetingStep) := goodIn_app (goodIn_of _ (by decide +kernel)) ggX5_meet_X5_meetingStep
theorem dX5_meet_0 : decode cX5_meet 0 = .ok (.aload_n 0, 1) := by decide +kernel
theorem dX5_meet_1 : decode cX5_meet 1 = .ok (.getfield 10, 3) := by decide +kernel
theorem dX5_meet_4 : decode cX5_meet 4 = .ok (.iload_n 1, 1) := by decide +kernel
theorem dX5_meet_5 : decode cX5_meet 5 = .ok (.invokevirtual 97, 3) := by decide +kernel
theorem dX5_meet_8 : decode cX5_meet 8 = .ok (.ifCond .eq 14, 3) := by decide +kernel
theorem dX5_meet_11 : decode cX5_meet 11 = .ok (.aload_n 0, 1) := by decide +kernel
theorem dX5_meet_12 : decode cX5_meet 12 = .ok (.getfield 10, 3) := by decide +kernel
theorem dX5_meet_15 : decode cX5_meet 15 = .ok (.iload_n 2, 1) := by decide +kernel
theorem dX5_meet_16 : decode cX5_meet 16 = .ok (.invokevirtual 97, 3) := by decide +kernel
theorem dX5_meet_19 : decode cX5_meet 19 = .ok (.ifCond .ne 5, 3) := by decide +kernel
theorem dX5_meet_22 : decode cX5_meet 22 = .ok (.iconst (-1), 1) := by decide +kernel
theorem dX5_meet_23 : decode cX5_meet 23 = .ok (.ireturn, 1) := by decide +kernel
theorem dX5_meet_24 : decode cX5_meet 24 = .ok (.iload_n 3, 1) := by decide +kernel
theorem dX5_meet_25 : decode cX5_meet 25 = .ok (.ifCond .lt 9, 3) := by decide +kernel
theorem dX5_meet_28 : decode cX5_meet 28 = .ok (.iload_n 3, 1) := by decide +kernel
theorem dX5_meet_29 : decode cX5_meet 29 = .ok (.bipush 20, 2) := by decide +kernel
theorem dX5_meet_31 : decode cX5_meet 31 = .ok (.if_icmp .le 6, 3) := by decide +kernel
theorem dX5_meet_34 : decode cX5_meet 34 = .ok (.bipush (-2), 2) := by decide +kernel
theorem dX5_meet_36 : decode cX5_meet 36 = .ok (.ireturn, 1) := by decide +kernel
theorem dX5_meet_37 : decode cX5_meet 37 = .ok (.aload_n 0, 1) := by decide +kernel
theorem dX5_meet_38 : decode cX5_meet 38 = .ok (.getfield 10, 3) := by decide +kernel
theorem dX5_meet_41 : decode cX5_meet 41 = .ok (.invokevirtual 93, 3) := by decide +kernel
theorem dX5_meet_44 : decode cX5_meet 44 = .ok (.ifCond .eq 19, 3) := by decide +kernel
theorem dX5_meet_47 : decode cX5_meet 47 = .ok (.aload_n 0, 1) := by decide +kernel
theorem dX5_meet_48 : decode cX5_meet 48 = .ok (.iload_n 1, 1) := by decide +kernel
theorem dX5_meet_49 : decode cX5_meet 49 = .ok (.iload_n 2, 1) := by decide +kernel
theorem dX5_meet_50 : decode cX5_meet 50 = .ok (.iload_n 3, 1) := by decide +kernel
theorem dX5_meet_51 : decode cX5_meet 51 = .ok (.aload_n 0, 1) := by decide +kernel
theorem dX5_meet_52 : decode cX5_meet 52 = .ok (.iload 4, 2) := by decide +kernel
theorem dX5_meet_54 : decode cX5_meet 54 = .ok (.invokevirtual 106, 3) := by decide +kernel
theorem dX5_meet_57 : decode cX5_meet 57 = .ok (.invokevirtual 163, 3) := by decide +kernel
theorem dX5_meet_60 : decode cX5_meet 60 = .ok (.goto 5, 3) := by decide +kernel
theorem dX5_meet_63 : decode cX5_meet 63 = .ok (.bipush (-3), 2) := by decide +kernel
theorem dX5_meet_65 : decode cX5_meet 65 = .ok (.ireturn, 1) := by decide +kernel
set_option maxRecDepth 20000 in
theorem ggX5_worst_X2_isReady : GoodIn wsX5_worst wsX2_isReady := goodIn_r _ [11, 12, 13, 14, 15, 10, 16, 17, 18, 19, 20, 21, 22, 23, 24, 25, 26, 27, 28, 29, 30, 31, 32, 33, 34, 35, 36, 37, 38, 39, 94, 95, 96, 97, 98] (by decide +kernel) (by decide +kernel)
set_option maxRecDepth 20000 in
theorem gX5_worst_X2_isReady : GoodIn wsX5_worst (wsV RX5 93 RX2 yX2_isReady wsX2_isReady) := goodIn_app (goodIn_of _ (by decide +kernel)) ggX5_worst_X2_isReady
set_option maxRecDepth 20000 in
theorem ggX5_worst_X5_rowOf : GoodIn wsX5_worst wsX5_rowOf := goodIn_r _ [43, 44, 45, 88, 89, 90, 91, 92, 93] (by decide +kernel) (by decide +kernel)
set_option maxRecDepth 20000 in
theorem gX5_worst_X5_rowOf : GoodIn wsX5_worst (wsV RX5 106 RX5 yX5_rowOf wsX5_rowOf) := goodIn_app (goodIn_of _ (by decide +kernel)) ggX5_worst_X5_rowOf
set_option maxRecDepth 20000 in
theorem ggX5_worst_X5_latestMeeting : GoodIn wsX5_worst wsX5_latestMeeting := goodIn_r _ [49, 3, 4, 5, 6, 50, 51, 52, 23, 53, 45, 54, 55, 22, 24, 56, 34, 35, 57, 58, 59, 60, 1, 61, 62, 63, 64, 65, 66, 67, 68, 69, 70, 71, 72, 73, 74, 75, 10, 76, 17, 18, 19, 20, 21, 77, 78, 79, 80, 81, 82, 25, 26, 27, 28, 29, 83, 84, 85, 86, 87, 88, 89, 90, 91, 92, 93, 99, 100, 94, 95, 96, 97, 98] (by decide +kernel) (by decide +kernel)
set_option maxRecDepth 20000 in
theorem gX5_worst_X5_latestMeeting : GoodIn wsX5_worst (wsV RX5 167 RX5 yX5_latestMeeting wsX5_latestMeeting) := goodIn_app (goodIn_of _ (by decide +kernel)) ggX5_worst_X5_latestMeeting
theorem dX5_worst_0 : decode cX5_worst 0 = .ok (.iload_n 1, 1) := by decide +kernel
theorem dX5_worst_1 : decode cX5_worst 1 = .ok (.ifCond .lt 9, 3) := by decide +kernel
theorem dX5_worst_4 : decode cX5_worst 4 = .ok (.iload_n 1, 1) := by decide +kernel
theorem dX5_worst_5 : decode cX5_worst 5 = .ok (.bipush 20, 2) := by decide +kernel
theorem dX5_worst_7 : decode cX5_worst 7 = .ok (.if_icmp .le 6, 3) := by decide +kernel
theorem dX5_worst_10 : decode cX5_worst 10 = .ok (.bipush (-2), 2) := by decide +kernel
theorem dX5_worst_12 : decode cX5_worst 12 = .ok (.ireturn, 1) := by decide +kernel
theorem dX5_worst_13 : decode cX5_worst 13 = .ok (.aload_n 0, 1) := by decide +kernel
theorem dX5_worst_14 : decode cX5_worst 14 = .ok (.getfield 10, 3) := by decide +kernel
theorem dX5_worst_17 : decode cX5_worst 17 = .ok (.invokevirtual 93, 3) := by decide +kernel
theorem dX5_worst_20 : decode cX5_worst 20 = .ok (.ifCond .ne 6, 3) := by decide +kernel
theorem dX5_worst_23 : decode cX5_worst 23 = .ok (.bipush (-3), 2) := by decide +kernel
theorem dX5_worst_25 : decode cX5_worst 25 = .ok (.ireturn, 1) := by decide +kernel
theorem dX5_worst_26 : decode cX5_worst 26 = .ok (.iconst 0, 1) := by decide +kernel
theorem dX5_worst_27 : decode cX5_worst 27 = .ok (.istore_n 3, 1) := by decide +kernel
theorem dX5_worst_28 : decode cX5_worst 28 = .ok (.iconst 0, 1) := by decide +kernel
theorem dX5_worst_29 : decode cX5_worst 29 = .ok (.istore 4, 2) := by decide +kernel
theorem dX5_worst_31 : decode cX5_worst 31 = .ok (.iload 4, 2) := by decide +kernel
theorem dX5_worst_33 : decode cX5_worst 33 = .ok (.aload_n 0, 1) := by decide +kernel
theorem dX5_worst_34 : decode cX5_worst 34 = .ok (.getfield 10, 3) := by decide +kernel
theorem dX5_worst_37 : decode cX5_worst 37 = .ok (.getfield 49, 3) := by decide +kernel
theorem dX5_worst_40 : decode cX5_worst 40 = .ok (.if_icmp .ge 74, 3) := by decide +kernel
theorem dX5_worst_43 : decode cX5_worst 43 = .ok (.iconst 0, 1) := by decide +kernel
theorem dX5_worst_44 : decode cX5_worst 44 = .ok (.istore 5, 2) := by decide +kernel
theorem dX5_worst_46 : decode cX5_worst 46 = .ok (.iload 5, 2) := by decide +kernel
theorem dX5_worst_48 : decode cX5_worst 48 = .ok (.aload_n 0, 1) := by decide +kernel
theorem dX5_worst_49 : decode cX5_worst 49 = .ok (.getfield 10, 3) := by decide +kernel
theorem dX5_worst_52 : decode cX5_worst 52 = .ok (.getfield 49, 3) := by decide +kernel
theorem dX5_worst_55 : decode cX5_worst 55 = .ok (.if_icmp .ge 53, 3) := by decide +kernel
theorem dX5_worst_58 : decode cX5_worst 58 = .ok (.iload 4, 2) := by decide +kernel
theorem dX5_worst_60 : decode cX5_worst 60 = .ok (.iload 5, 2) := by decide +kernel
theorem dX5_worst_62 : decode cX5_worst 62 = .ok (.if_icmp .ne 7, 3) := by decide +kernel
theorem dX5_worst_65 : decode cX5_worst 65 = .ok (.iconst 0, 1) := by decide +kernel
theorem dX5_worst_66 : decode cX5_worst 66 = .ok (.goto 17, 3) := by decide +kernel
theorem dX5_worst_69 : decode cX5_worst 69 = .ok (.aload_n 0, 1) := by decide +kernel
theorem dX5_worst_70 : decode cX5_worst 70 = .ok (.iload 4, 2) := by decide +kernel
theorem dX5_worst_72 : decode cX5_worst 72 = .ok (.iload 5, 2) := by decide +kernel
theorem dX5_worst_74 : decode cX5_worst 74 = .ok (.iload_n 1, 1) := by decide +kernel
theorem dX5_worst_75 : decode cX5_worst 75 = .ok (.aload_n 0, 1) := by decide +kernel
theorem dX5_worst_76 : decode cX5_worst 76 = .ok (.iload_n 2, 1) := by decide +kernel
theorem dX5_worst_77 : decode cX5_worst 77 = .ok (.invokevirtual 106, 3) := by decide +kernel
theorem dX5_worst_80 : decode cX5_worst 80 = .ok (.invokevirtual 167, 3) := by decide +kernel
theorem dX5_worst_83 : decode cX5_worst 83 = .ok (.istore 6, 2) := by decide +kernel
theorem dX5_worst_85 : decode cX5_worst 85 = .ok (.iload 6, 2) := by decide +kernel
theorem dX5_worst_87 : decode cX5_worst 87 = .ok (.bipush (-6), 2) := by decide +kernel
theorem dX5_worst_89 : decode cX5_worst 89 = .ok (.if_icmp .ne 6, 3) := by decide +kernel
theorem dX5_worst_92 : decode cX5_worst 92 = .ok (.bipush (-6), 2) := by decide +kernel
theorem dX5_worst_94 : decode cX5_worst 94 = .ok (.ireturn, 1) := by decide +kernel
theorem dX5_worst_95 : decode cX5_worst 95 = .ok (.iload_n 3, 1) := by decide +kernel
theorem dX5_worst_96 : decode cX5_worst 96 = .ok (.iload 6, 2) := by decide +kernel
theorem dX5_worst_98 : decode cX5_worst 98 = .ok (.invokestatic 170, 3) := by decide +kernel
theorem dX5_worst_101 : decode cX5_worst 101 = .ok (.istore_n 3, 1) := by decide +kernel
theorem dX5_worst_102 : decode cX5_worst 102 = .ok (.iinc 5 1, 3) := by decide +kernel
theorem dX5_worst_105 : decode cX5_worst 105 = .ok (.goto (-59), 3) := by decide +kernel
theorem dX5_worst_108 : decode cX5_worst 108 = .ok (.iinc 4 1, 3) := by decide +kernel
theorem dX5_worst_111 : decode cX5_worst 111 = .ok (.goto (-80), 3) := by decide +kernel
theorem dX5_worst_114 : decode cX5_worst 114 = .ok (.iload_n 3, 1) := by decide +kernel
theorem dX5_worst_115 : decode cX5_worst 115 = .ok (.ireturn, 1) := by decide +kernel
set_option maxRecDepth 20000 in
theorem ggX5_ring_X3_lengthFor : GoodIn wsX5_ring wsX3_lengthFor := goodIn_r _ [6, 7, 8, 9, 10, 5, 11, 12, 13, 14, 15, 16, 17, 18, 19, 20, 21, 22, 23, 24, 35, 36] (by decide +kernel) (by decide +kernel)
set_option maxRecDepth 20000 in
theorem gX5_ring_X3_lengthFor : GoodIn wsX5_ring (wsV RX5 175 RX3 yX3_lengthFor wsX3_lengthFor) := goodIn_app (goodIn_of _ (by decide +kernel)) ggX5_ring_X3_lengthFor
set_option maxRecDepth 20000 in
theorem ggX5_ring_X3_numberFor : GoodIn wsX5_ring wsX3_numberFor := goodIn_r _ [28, 7, 12, 22, 23, 5, 24, 35, 36] (by decide +kernel) (by decide +kernel)
set_option maxRecDepth 20000 in
theorem gX5_ring_X3_numberFor : GoodIn wsX5_ring (wsV RX5 178 RX3 yX3_numberFor wsX3_numberFor) := goodIn_app (goodIn_of _ (by decide +kernel)) ggX5_ring_X3_numberFor
theorem dX5_ring_0 : decode cX5_ring 0 = .ok (.iload_n 1, 1) := by decide +kernel
theorem dX5_ring_1 : decode cX5_ring 1 = .ok (.iconst 2, 1) := by decide +kernel
theorem dX5_ring_2 : decode cX5_ring 2 = .ok (.if_icmp .lt 8, 3) := by decide +kernel
theorem dX5_ring_5 : decode cX5_ring 5 = .ok (.iload_n 1, 1) := by decide +kernel
theorem dX5_ring_6 : decode cX5_ring 6 = .ok (.iconst 4, 1) := by decide +kernel
theorem dX5_ring_7 : decode cX5_ring 7 = .ok (.if_icmp .le 6, 3) := by decide +kernel
theorem dX5_ring_10 : decode cX5_ring 10 = .ok (.bipush (-2), 2) := by decide +kernel
theorem dX5_ring_12 : decode cX5_ring 12 = .ok (.ireturn, 1) := by decide +kernel
theorem dX5_ring_13 : decode cX5_ring 13 = .ok (.aload_n 0, 1) := by decide +kernel
theorem dX5_ring_14 : decode cX5_ring 14 = .ok (.getfield 45, 3) := by decide +kernel
theorem dX5_ring_17 : decode cX5_ring 17 = .ok (.iload_n 1, 1) := by decide +kernel
theorem dX5_ring_18 : decode cX5_ring 18 = .ok (.invokevirtual 175, 3) := by decide +kernel
theorem dX5_ring_21 : decode cX5_ring 21 = .ok (.istore_n 3, 1) := by decide +kernel
theorem dX5_ring_22 : decode cX5_ring 22 = .ok (.iload_n 2, 1) := by decide +kernel
theorem dX5_ring_23 : decode cX5_ring 23 = .ok (.iconst (-1), 1) := by decide +kernel
theorem dX5_ring_24 : decode cX5_ring 24 = .ok (.if_icmp .ne 5, 3) := by decide +kernel
theorem dX5_ring_27 : decode cX5_ring 27 = .ok (.iload_n 3, 1) := by decide +kernel
theorem dX5_ring_28 : decode cX5_ring 28 = .ok (.ireturn, 1) := by decide +kernel
theorem dX5_ring_29 : decode cX5_ring 29 = .ok (.aload_n 0, 1) := by decide +kernel
theorem dX5_ring_30 : decode cX5_ring 30 = .ok (.getfield 45, 3) := by decide +kernel
theorem dX5_ring_33 : decode cX5_ring 33 = .ok (.iload_n 1, 1) := by decide +kernel
theorem dX5_ring_34 : decode cX5_ring 34 = .ok (.iload_n 2, 1) := by decide +kernel
theorem dX5_ring_35 : decode cX5_ring 35 = .ok (.invokevirtual 178, 3) := by decide +kernel
theorem dX5_ring_38 : decode cX5_ring 38 = .ok (.ireturn, 1) := by decide +kernel
set_option maxRecDepth 20000 in
theorem ggX5_told_X2_badDoors : GoodIn wsX5_told wsX2_badDoors := goodIn_r _ [11, 12, 19, 20, 21, 22, 23] (by decide +kernel) (by decide +kernel)
set_option maxRecDepth 20000 in
theorem gX5_told_X2_badDoors : GoodIn wsX5_told (wsV RX5 181 RX2 yX2_badDoors wsX2_badDoors) := goodIn_app (goodIn_of _ (by decide +kernel)) ggX5_told_X2_badDoors
theorem dX5_told_0 : decode cX5_told 0 = .ok (.iload_n 1, 1) := by decide +kernel
theorem dX5_told_1 : decode cX5_told 1 = .ok (.tableswitch 75 0 4 #[35, 43, 51, 59, 67], 35) := by decide +kernel
theorem dX5_told_36 : decode cX5_told 36 = .ok (.aload_n 0, 1) := by decide +kernel
theorem dX5_told_37 : decode cX5_told 37 = .ok (.getfield 10, 3) := by decide +kernel
theorem dX5_told_40 : decode cX5_told 40 = .ok (.getfield 49, 3) := by decide +kernel
theorem dX5_told_43 : decode cX5_told 43 = .ok (.ireturn, 1) := by decide +kernel
theorem dX5_told_44 : decode cX5_told 44 = .ok (.aload_n 0, 1) := by decide +kernel
theorem dX5_told_45 : decode cX5_told 45 = .ok (.getfield 10, 3) := by decide +kernel
theorem dX5_told_48 : decode cX5_told 48 = .ok (.getfield 73, 3) := by decide +kernel
theorem dX5_told_51 : decode cX5_told 51 = .ok (.ireturn, 1) := by decide +kernel
theorem dX5_told_52 : decode cX5_told 52 = .ok (.aload_n 0, 1) := by decide +kernel
theorem dX5_told_53 : decode cX5_told 53 = .ok (.getfield 19, 3) := by decide +kernel
theorem dX5_told_56 : decode cX5_told 56 = .ok (.getfield 116, 3) := by decide +kernel
theorem dX5_told_59 : decode cX5_told 59 = .ok (.ireturn, 1) := by decide +kernel
theorem dX5_told_60 : decode cX5_told 60 = .ok (.aload_n 0, 1) := by decide +kernel
theorem dX5_told_61 : decode cX5_told 61 = .ok (.getfield 23, 3) := by decide +kernel
theorem dX5_told_64 : decode cX5_told 64 = .ok (.getfield 116, 3) := by decide +kernel
theorem dX5_told_67 : decode cX5_told 67 = .ok (.ireturn, 1) := by decide +kernel
theorem dX5_told_68 : decode cX5_told 68 = .ok (.aload_n 0, 1) := by decide +kernel
theorem dX5_told_69 : decode cX5_told 69 = .ok (.getfield 10, 3) := by decide +kernel
theorem dX5_told_72 : decode cX5_told 72 = .ok (.invokevirtual 181, 3) := by decide +kernel
theorem dX5_told_75 : decode cX5_told 75 = .ok (.ireturn, 1) := by decide +kernel
theorem dX5_told_76 : decode cX5_told 76 = .ok (.bipush (-2), 2) := by decide +kernel
theorem dX5_told_78 : decode cX5_told 78 = .ok (.ireturn, 1) := by decide +kernel
theorem dX5_isWhich_0 : decode cX5_isWhich 0 = .ok (.iload_n 0, 1) := by decide +kernel
theorem dX5_isWhich_1 : decode cX5_isWhich 1 = .ok (.ifCond .eq 8, 3) := by decide +kernel
theorem dX5_isWhich_4 : decode cX5_isWhich 4 = .ok (.iload_n 0, 1) := by decide +kernel
theorem dX5_isWhich_5 : decode cX5_isWhich 5 = .ok (.iconst 1, 1) := by decide +kernel
theorem dX5_isWhich_6 : decode cX5_isWhich 6 = .ok (.if_icmp .ne 7, 3) := by decide +kernel
theorem dX5_isWhich_9 : decode cX5_isWhich 9 = .ok (.iconst 1, 1) := by decide +kernel
theorem dX5_isWhich_10 : decode cX5_isWhich 10 = .ok (.goto 4, 3) := by decide +kernel
theorem dX5_isWhich_13 : decode cX5_isWhich 13 = .ok (.iconst 0, 1) := by decide +kernel
theorem dX5_isWhich_14 : decode cX5_isWhich 14 = .ok (.ireturn, 1) := by decide +kernel
theorem dX5_isHow_0 : decode cX5_isHow 0 = .ok (.iload_n 0, 1) := by decide +kernel
theorem dX5_isHow_1 : decode cX5_isHow 1 = .ok (.ifCond .eq 8, 3) := by decide +kernel
theorem dX5_isHow_4 : decode cX5_isHow 4 = .ok (.iload_n 0, 1) := by decide +kernel
theorem dX5_isHow_5 : decode cX5_isHow 5 = .ok (.iconst 1, 1) := by decide +kernel
theorem dX5_isHow_6 : decode cX5_isHow 6 = .ok (.if_icmp .ne 7, 3) := by decide +kernel
theorem dX5_isHow_9 : decode cX5_isHow 9 = .ok (.iconst 1, 1) := by decide +kernel
theorem dX5_isHow_10 : decode cX5_isHow 10 = .ok (.goto 4, 3) := by decide +kernel
theorem dX5_isHow_13 : decode cX5_isHow 13 = .ok (.iconst 0, 1) := by decide +kernel
theorem dX5_isHow_14 : decode cX5_isHow 14 = .ok (.ireturn, 1) := by decide +kernel
theorem dX5_isDepth_0 : decode cX5_isDepth 0 = .ok (.iload_n 0, 1) := by decide +kernel
theorem dX5_isDepth_1 : decode cX5_isDepth 1 = .ok (.ifCond .lt 13, 3) := by decide +kernel
theorem dX5_isDepth_4 : decode cX5_isDepth 4 = .ok (.iload_n 0, 1) := by decide +kernel
theorem dX5_isDepth_5 : decode cX5_isDepth 5 = .ok (.bipush 20, 2) := by decide +kernel
theorem dX5_isDepth_7 : decode cX5_isDepth 7 = .ok (.if_icmp .gt 7, 3) := by decide +kernel
theorem dX5_isDepth_10 : decode cX5_isDepth 10 = .ok (.iconst 1, 1) := by decide +kernel
theorem dX5_isDepth_11 : decode cX5_isDepth 11 = .ok (.goto 4, 3) := by decide +kernel
theorem dX5_isDepth_14 : decode cX5_isDepth 14 = .ok (.iconst 0, 1) := by decide +kernel
theorem dX5_isDepth_15 : decode cX5_isDepth 15 = .ok (.ireturn, 1) := by decide +kernel
theorem dX5_rowOf_0 : decode cX5_rowOf 0 = .ok (.iload_n 1, 1) := by decide +kernel
theorem dX5_rowOf_1 : decode cX5_rowOf 1 = .ok (.ifCond .eq 10, 3) := by decide +kernel
theorem dX5_rowOf_4 : decode cX5_rowOf 4 = .ok (.aload_n 0, 1) := by decide +kernel
theorem dX5_rowOf_5 : decode cX5_rowOf 5 = .ok (.getfield 23, 3) := by decide +kernel
theorem dX5_rowOf_8 : decode cX5_rowOf 8 = .ok (.goto 7, 3) := by decide +kernel
theorem dX5_rowOf_11 : decode cX5_rowOf 11 = .ok (.aload_n 0, 1) := by decide +kernel
theorem dX5_rowOf_12 : decode cX5_rowOf 12 = .ok (.getfield 19, 3) := by decide +kernel
theorem dX5_rowOf_15 : decode cX5_rowOf 15 = .ok (.areturn, 1) := by decide +kernel
theorem dX5_placeOf_0 : decode cX5_placeOf 0 = .ok (.iconst 4, 1) := by decide +kernel
theorem dX5_placeOf_1 : decode cX5_placeOf 1 = .ok (.iload_n 0, 1) := by decide +kernel
theorem dX5_placeOf_2 : decode cX5_placeOf 2 = .ok (.imul, 1) := by decide +kernel
theorem dX5_placeOf_3 : decode cX5_placeOf 3 = .ok (.iload_n 1, 1) := by decide +kernel
theorem dX5_placeOf_4 : decode cX5_placeOf 4 = .ok (.iadd, 1) := by decide +kernel
theorem dX5_placeOf_5 : decode cX5_placeOf 5 = .ok (.ireturn, 1) := by decide +kernel
theorem dX5_postOf_0 : decode cX5_postOf 0 = .ok (.iload_n 0, 1) := by decide +kernel
theorem dX5_postOf_1 : decode cX5_postOf 1 = .ok (.iconst 4, 1) := by decide +kernel
theorem dX5_postOf_2 : decode cX5_postOf 2 = .ok (.idiv, 1) := by decide +kernel
theorem dX5_postOf_3 : decode cX5_postOf 3 = .ok (.ireturn, 1) := by decide +kernel
theorem dX5_doorOf_0 : decode cX5_doorOf 0 = .ok (.iload_n 0, 1) := by decide +kernel
theorem dX5_doorOf_1 : decode cX5_doorOf 1 = .ok (.iconst 4, 1) := by decide +kernel
theorem dX5_doorOf_2 : decode cX5_doorOf 2 = .ok (.irem, 1) := by decide +kernel
theorem dX5_doorOf_3 : decode cX5_doorOf 3 = .ok (.ireturn, 1) := by decide +kernel
set_option maxRecDepth 20000 in
theorem ggX5_asTold_X5_postOf : GoodIn wsX5_asTold wsX5_postOf := goodIn_r _ [4] (by decide +kernel) (by decide +kernel)
set_option maxRecDepth 20000 in
theorem gX5_asTold_X5_postOf : GoodIn wsX5_asTold (va_wsS RX5 130 yX5_postOf wsX5_postOf) := goodIn_app (goodIn_of _ (by decide +kernel)) ggX5_asTold_X5_postOf
set_option maxRecDepth 20000 in
theorem ggX5_asTold_X5_doorOf : GoodIn wsX5_asTold wsX5_doorOf := goodIn_r _ [7] (by decide +kernel) (by decide +kernel)
set_option maxRecDepth 20000 in
theorem gX5_asTold_X5_doorOf : GoodIn wsX5_asTold (va_wsS RX5 184 yX5_doorOf wsX5_doorOf) := goodIn_app (goodIn_of _ (by decide +kernel)) ggX5_asTold_X5_doorOf
theorem dX5_asTold_0 : decode cX5_asTold 0 = .ok (.bipush 10, 2) := by decide +kernel
theorem dX5_asTold_2 : decode cX5_asTold 2 = .ok (.iload_n 0, 1) := by decide +kernel
theorem dX5_asTold_3 : decode cX5_asTold 3 = .ok (.invokestatic 130, 3) := by decide +kernel
theorem dX5_asTold_6 : decode cX5_asTold 6 = .ok (.imul, 1) := by decide +kernel
theorem dX5_asTold_7 : decode cX5_asTold 7 = .ok (.iload_n 0, 1) := by decide +kernel
theorem dX5_asTold_8 : decode cX5_asTold 8 = .ok (.invokestatic 184, 3) := by decide +kernel
theorem dX5_asTold_11 : decode cX5_asTold 11 = .ok (.iadd, 1) := by decide +kernel
theorem dX5_asTold_12 : decode cX5_asTold 12 = .ok (.ireturn, 1) := by decide +kernel
set_option maxRecDepth 20000 in
theorem ggX5_follow_X4_has : GoodIn wsX5_follow wsX4_has := goodIn_r _ [6, 7, 51, 52] (by decide +kernel) (by decide +kernel)
set_option maxRecDepth 20000 in
theorem gX5_follow_X4_has : GoodIn wsX5_follow (wsV RX5 187 RX4 yX4_has wsX4_has) := goodIn_app (goodIn_of _ (by decide +kernel)) ggX5_follow_X4_has
set_option maxRecDepth 20000 in
theorem ggX5_follow_X4_numberAt : GoodIn wsX5_follow wsX4_numberAt := goodIn_r _ [11, 12, 13, 3, 4, 5, 6, 7, 51, 52] (by decide +kernel) (by decide +kernel)
set_option maxRecDepth 20000 in
theorem gX5_follow_X4_numberAt : GoodIn wsX5_follow (wsV RX5 190 RX4 yX4_numberAt wsX4_numberAt) := goodIn_app (goodIn_of _ (by decide +kernel)) ggX5_follow_X4_numberAt
set_option maxRecDepth 20000 in
theorem ggX5_follow_X2_walkOn : GoodIn wsX5_follow wsX2_walkOn := goodIn_r _ [18, 19, 20, 21, 22, 23, 24, 17, 25, 26, 27, 28, 29, 30, 31, 32, 33, 34, 35, 36, 37, 38, 39, 40, 41, 42, 43, 44, 53, 54, 55, 56, 57] (by decide +kernel) (by decide +kernel)
set_option maxRecDepth 20000 in
theorem gX5_follow_X2_walkOn : GoodIn wsX5_follow (wsV RX5 144 RX2 yX2_walkOn wsX2_walkOn) := goodIn_app (goodIn_of _ (by decide +kernel)) ggX5_follow_X2_walkOn
theorem dX5_follow_0 : decode cX5_follow 0 = .ok (.aload_n 2, 1) := by decide +kernel
theorem dX5_follow_1 : decode cX5_follow 1 = .ok (.iload_n 3, 1) := by decide +kernel
theorem dX5_follow_2 : decode cX5_follow 2 = .ok (.invokevirtual 187, 3) := by decide +kernel
theorem dX5_follow_5 : decode cX5_follow 5 = .ok (.ifCond .eq 21, 3) := by decide +kernel
theorem dX5_follow_8 : decode cX5_follow 8 = .ok (.aload_n 0, 1) := by decide +kernel
theorem dX5_follow_9 : decode cX5_follow 9 = .ok (.getfield 10, 3) := by decide +kernel
theorem dX5_follow_12 : decode cX5_follow 12 = .ok (.iload_n 1, 1) := by decide +kernel
theorem dX5_follow_13 : decode cX5_follow 13 = .ok (.aload_n 2, 1) := by decide +kernel
theorem dX5_follow_14 : decode cX5_follow 14 = .ok (.iload_n 3, 1) := by decide +kernel
theorem dX5_follow_15 : decode cX5_follow 15 = .ok (.invokevirtual 190, 3) := by decide +kernel
theorem dX5_follow_18 : decode cX5_follow 18 = .ok (.iload 4, 2) := by decide +kernel
theorem dX5_follow_20 : decode cX5_follow 20 = .ok (.invokevirtual 144, 3) := by decide +kernel
theorem dX5_follow_23 : decode cX5_follow 23 = .ok (.goto 4, 3) := by decide +kernel
theorem dX5_follow_26 : decode cX5_follow 26 = .ok (.iload_n 1, 1) := by decide +kernel
theorem dX5_follow_27 : decode cX5_follow 27 = .ok (.ireturn, 1) := by decide +kernel
set_option maxRecDepth 20000 in
theorem ggX5_stepsToAll_X5_placeOf : GoodIn wsX5_stepsToAll wsX5_placeOf := goodIn_r _ [7] (by decide +kernel) (by decide +kernel)
set_option maxRecDepth 20000 in
theorem gX5_stepsToAll_X5_placeOf : GoodIn wsX5_stepsToAll (va_wsS RX5 61 yX5_placeOf wsX5_placeOf) := goodIn_app (goodIn_of _ (by decide +kernel)) ggX5_stepsToAll_X5_placeOf
set_option maxRecDepth 20000 in
theorem ggX5_stepsToAll_X2_allPosts : GoodIn wsX5_stepsToAll wsX2_allPosts := goodIn_r _ [12, 13, 66, 67, 68, 69, 70] (by decide +kernel) (by decide +kernel)
set_option maxRecDepth 20000 in
theorem gX5_stepsToAll_X2_allPosts : GoodIn wsX5_stepsToAll (wsV RX5 193 RX2 yX2_allPosts wsX2_allPosts) := goodIn_app (goodIn_of _ (by decide +kernel)) ggX5_stepsToAll_X2_allPosts
set_option maxRecDepth 20000 in
theorem ggX5_stepsToAll_X5_follow : GoodIn wsX5_stepsToAll wsX5_follow := goodIn_r _ [17, 3, 18, 19, 20, 21, 22, 23, 24, 25, 26, 27, 28, 29, 30, 31, 32, 11, 33, 34, 6, 35, 36, 37, 38, 39, 40, 41, 42, 5, 7, 43, 44, 45, 46, 47, 48, 49, 50, 51, 52, 53, 54, 55, 56, 58, 59, 60, 61, 62, 63, 64, 65, 66, 67, 68, 69, 70] (by decide +kernel) (by decide +kernel)
set_option maxRecDepth 20000 in
theorem gX5_stepsToAll_X5_follow : GoodIn wsX5_stepsToAll (wsV RX5 126 RX5 yX5_follow wsX5_follow) := goodIn_app (goodIn_of _ (by decide +kernel)) ggX5_stepsToAll_X5_follow
set_option maxRecDepth 20000 in
theorem ggX5_stepsToAll_X5_postOf : GoodIn wsX5_stepsToAll wsX5_postOf := goodIn_r _ [35] (by decide +kernel) (by decide +kernel)
set_option maxRecDepth 20000 in
theorem gX5_stepsToAll_X5_postOf : GoodIn wsX5_stepsToAll (va_wsS RX5 130 yX5_postOf wsX5_postOf) := goodIn_app (goodIn_of _ (by decide +kernel)) ggX5_stepsToAll_X5_postOf
theorem dX5_stepsToAll_0 : decode cX5_stepsToAll 0 = .ok (.iload_n 1, 1) := by decide +kernel
theorem dX5_stepsToAll_1 : decode cX5_stepsToAll 1 = .ok (.iconst 0, 1) := by decide +kernel
theorem dX5_stepsToAll_2 : decode cX5_stepsToAll 2 = .ok (.invokestatic 61, 3) := by decide +kernel
theorem dX5_stepsToAll_5 : decode cX5_stepsToAll 5 = .ok (.istore_n 3, 1) := by decide +kernel
theorem dX5_stepsToAll_6 : decode cX5_stepsToAll 6 = .ok (.iconst 1, 1) := by decide +kernel
theorem dX5_stepsToAll_7 : decode cX5_stepsToAll 7 = .ok (.iload_n 1, 1) := by decide +kernel
theorem dX5_stepsToAll_8 : decode cX5_stepsToAll 8 = .ok (.ishl, 1) := by decide +kernel
theorem dX5_stepsToAll_9 : decode cX5_stepsToAll 9 = .ok (.istore 4, 2) := by decide +kernel
theorem dX5_stepsToAll_11 : decode cX5_stepsToAll 11 = .ok (.iconst 0, 1) := by decide +kernel
theorem dX5_stepsToAll_12 : decode cX5_stepsToAll 12 = .ok (.istore 5, 2) := by decide +kernel
theorem dX5_stepsToAll_14 : decode cX5_stepsToAll 14 = .ok (.iload 5, 2) := by decide +kernel
theorem dX5_stepsToAll_16 : decode cX5_stepsToAll 16 = .ok (.aload_n 0, 1) := by decide +kernel
theorem dX5_stepsToAll_17 : decode cX5_stepsToAll 17 = .ok (.getfield 19, 3) := by decide +kernel
theorem dX5_stepsToAll_20 : decode cX5_stepsToAll 20 = .ok (.getfield 116, 3) := by decide +kernel
theorem dX5_stepsToAll_23 : decode cX5_stepsToAll 23 = .ok (.if_icmp .gt 48, 3) := by decide +kernel
theorem dX5_stepsToAll_26 : decode cX5_stepsToAll 26 = .ok (.iload 4, 2) := by decide +kernel
theorem dX5_stepsToAll_28 : decode cX5_stepsToAll 28 = .ok (.aload_n 0, 1) := by decide +kernel
theorem dX5_stepsToAll_29 : decode cX5_stepsToAll 29 = .ok (.getfield 10, 3) := by decide +kernel
theorem dX5_stepsToAll_32 : decode cX5_stepsToAll 32 = .ok (.invokevirtual 193, 3) := by decide +kernel
theorem dX5_stepsToAll_35 : decode cX5_stepsToAll 35 = .ok (.if_icmp .ne 6, 3) := by decide +kernel
theorem dX5_stepsToAll_38 : decode cX5_stepsToAll 38 = .ok (.iload 5, 2) := by decide +kernel
theorem dX5_stepsToAll_40 : decode cX5_stepsToAll 40 = .ok (.ireturn, 1) := by decide +kernel
theorem dX5_stepsToAll_41 : decode cX5_stepsToAll 41 = .ok (.aload_n 0, 1) := by decide +kernel
theorem dX5_stepsToAll_42 : decode cX5_stepsToAll 42 = .ok (.iload_n 3, 1) := by decide +kernel
theorem dX5_stepsToAll_43 : decode cX5_stepsToAll 43 = .ok (.aload_n 0, 1) := by decide +kernel
theorem dX5_stepsToAll_44 : decode cX5_stepsToAll 44 = .ok (.getfield 19, 3) := by decide +kernel
theorem dX5_stepsToAll_47 : decode cX5_stepsToAll 47 = .ok (.iload 5, 2) := by decide +kernel
theorem dX5_stepsToAll_49 : decode cX5_stepsToAll 49 = .ok (.iload_n 2, 1) := by decide +kernel
theorem dX5_stepsToAll_50 : decode cX5_stepsToAll 50 = .ok (.invokevirtual 126, 3) := by decide +kernel
theorem dX5_stepsToAll_53 : decode cX5_stepsToAll 53 = .ok (.istore_n 3, 1) := by decide +kernel
theorem dX5_stepsToAll_54 : decode cX5_stepsToAll 54 = .ok (.iload 4, 2) := by decide +kernel
theorem dX5_stepsToAll_56 : decode cX5_stepsToAll 56 = .ok (.iconst 1, 1) := by decide +kernel
theorem dX5_stepsToAll_57 : decode cX5_stepsToAll 57 = .ok (.iload_n 3, 1) := by decide +kernel
theorem dX5_stepsToAll_58 : decode cX5_stepsToAll 58 = .ok (.invokestatic 130, 3) := by decide +kernel
theorem dX5_stepsToAll_61 : decode cX5_stepsToAll 61 = .ok (.ishl, 1) := by decide +kernel
theorem dX5_stepsToAll_62 : decode cX5_stepsToAll 62 = .ok (.ior, 1) := by decide +kernel
theorem dX5_stepsToAll_63 : decode cX5_stepsToAll 63 = .ok (.istore 4, 2) := by decide +kernel
theorem dX5_stepsToAll_65 : decode cX5_stepsToAll 65 = .ok (.iinc 5 1, 3) := by decide +kernel
theorem dX5_stepsToAll_68 : decode cX5_stepsToAll 68 = .ok (.goto (-54), 3) := by decide +kernel
theorem dX5_stepsToAll_71 : decode cX5_stepsToAll 71 = .ok (.bipush (-6), 2) := by decide +kernel
theorem dX5_stepsToAll_73 : decode cX5_stepsToAll 73 = .ok (.ireturn, 1) := by decide +kernel
set_option maxRecDepth 20000 in
theorem ggX5_meetingStep_X5_placeOf : GoodIn wsX5_meetingStep wsX5_placeOf := goodIn_r _ [10] (by decide +kernel) (by decide +kernel)
set_option maxRecDepth 20000 in
theorem gX5_meetingStep_X5_placeOf : GoodIn wsX5_meetingStep (va_wsS RX5 61 yX5_placeOf wsX5_placeOf) := goodIn_app (goodIn_of _ (by decide +kernel)) ggX5_meetingStep_X5_placeOf
set_option maxRecDepth 20000 in
theorem ggX5_meetingStep_X5_postOf : GoodIn wsX5_meetingStep wsX5_postOf := goodIn_r _ [13] (by decide +kernel) (by decide +kernel)
set_option maxRecDepth 20000 in
theorem gX5_meetingStep_X5_postOf : GoodIn wsX5_meetingStep (va_wsS RX5 130 yX5_postOf wsX5_postOf) := goodIn_app (goodIn_of _ (by decide +kernel)) ggX5_meetingStep_X5_postOf
set_option maxRecDepth 20000 in
theorem ggX5_meetingStep_X5_follow : GoodIn wsX5_meetingStep wsX5_follow := goodIn_r _ [17, 18, 19, 20, 21, 22, 23, 24, 25, 26, 27, 28, 29, 30, 31, 32, 33, 34, 35, 12, 9, 13, 36, 37, 38, 39, 40, 41, 42, 8, 10, 43, 44, 45, 46, 47, 48, 49, 50, 51, 52, 53, 54, 55, 56, 57, 58, 59, 60, 61, 62, 63, 64, 65, 66, 67, 68, 69] (by decide +kernel) (by decide +kernel)
set_option maxRecDepth 20000 in
theorem gX5_meetingStep_X5_follow : GoodIn wsX5_meetingStep (wsV RX5 126 RX5 yX5_follow wsX5_follow) := goodIn_app (goodIn_of _ (by decide +kernel)) ggX5_meetingStep_X5_follow
theorem dX5_meetingStep_0 : decode cX5_meetingStep 0 = .ok (.iload_n 1, 1) := by decide +kernel
theorem dX5_meetingStep_1 : decode cX5_meetingStep 1 = .ok (.iconst 0, 1) := by decide +kernel
theorem dX5_meetingStep_2 : decode cX5_meetingStep 2 = .ok (.invokestatic 61, 3) := by decide +kernel
theorem dX5_meetingStep_5 : decode cX5_meetingStep 5 = .ok (.istore 5, 2) := by decide +kernel
theorem dX5_meetingStep_7 : decode cX5_meetingStep 7 = .ok (.iload_n 2, 1) := by decide +kernel
theorem dX5_meetingStep_8 : decode cX5_meetingStep 8 = .ok (.iconst 0, 1) := by decide +kernel
theorem dX5_meetingStep_9 : decode cX5_meetingStep 9 = .ok (.invokestatic 61, 3) := by decide +kernel
theorem dX5_meetingStep_12 : decode cX5_meetingStep 12 = .ok (.istore 6, 2) := by decide +kernel
theorem dX5_meetingStep_14 : decode cX5_meetingStep 14 = .ok (.aload_n 0, 1) := by decide +kernel
theorem dX5_meetingStep_15 : decode cX5_meetingStep 15 = .ok (.getfield 19, 3) := by decide +kernel
theorem dX5_meetingStep_18 : decode cX5_meetingStep 18 = .ok (.getfield 116, 3) := by decide +kernel
theorem dX5_meetingStep_21 : decode cX5_meetingStep 21 = .ok (.iload_n 3, 1) := by decide +kernel
theorem dX5_meetingStep_22 : decode cX5_meetingStep 22 = .ok (.aload 4, 2) := by decide +kernel
theorem dX5_meetingStep_24 : decode cX5_meetingStep 24 = .ok (.getfield 116, 3) := by decide +kernel
theorem dX5_meetingStep_27 : decode cX5_meetingStep 27 = .ok (.iadd, 1) := by decide +kernel
theorem dX5_meetingStep_28 : decode cX5_meetingStep 28 = .ok (.invokestatic 170, 3) := by decide +kernel
theorem dX5_meetingStep_31 : decode cX5_meetingStep 31 = .ok (.istore 7, 2) := by decide +kernel
theorem dX5_meetingStep_33 : decode cX5_meetingStep 33 = .ok (.iconst 0, 1) := by decide +kernel
theorem dX5_meetingStep_34 : decode cX5_meetingStep 34 = .ok (.istore 8, 2) := by decide +kernel
theorem dX5_meetingStep_36 : decode cX5_meetingStep 36 = .ok (.iload 8, 2) := by decide +kernel
theorem dX5_meetingStep_38 : decode cX5_meetingStep 38 = .ok (.iload 7, 2) := by decide +kernel
theorem dX5_meetingStep_40 : decode cX5_meetingStep 40 = .ok (.if_icmp .gt 55, 3) := by decide +kernel
theorem dX5_meetingStep_43 : decode cX5_meetingStep 43 = .ok (.iload 5, 2) := by decide +kernel
theorem dX5_meetingStep_45 : decode cX5_meetingStep 45 = .ok (.invokestatic 130, 3) := by decide +kernel
theorem dX5_meetingStep_48 : decode cX5_meetingStep 48 = .ok (.iload 6, 2) := by decide +kernel
theorem dX5_meetingStep_50 : decode cX5_meetingStep 50 = .ok (.invokestatic 130, 3) := by decide +kernel
theorem dX5_meetingStep_53 : decode cX5_meetingStep 53 = .ok (.if_icmp .ne 6, 3) := by decide +kernel
theorem dX5_meetingStep_56 : decode cX5_meetingStep 56 = .ok (.iload 8, 2) := by decide +kernel
theorem dX5_meetingStep_58 : decode cX5_meetingStep 58 = .ok (.ireturn, 1) := by decide +kernel
theorem dX5_meetingStep_59 : decode cX5_meetingStep 59 = .ok (.aload_n 0, 1) := by decide +kernel
theorem dX5_meetingStep_60 : decode cX5_meetingStep 60 = .ok (.iload 5, 2) := by decide +kernel
theorem dX5_meetingStep_62 : decode cX5_meetingStep 62 = .ok (.aload_n 0, 1) := by decide +kernel
theorem dX5_meetingStep_63 : decode cX5_meetingStep 63 = .ok (.getfield 19, 3) := by decide +kernel
theorem dX5_meetingStep_66 : decode cX5_meetingStep 66 = .ok (.iload 8, 2) := by decide +kernel
theorem dX5_meetingStep_68 : decode cX5_meetingStep 68 = .ok (.iconst 0, 1) := by decide +kernel
theorem dX5_meetingStep_69 : decode cX5_meetingStep 69 = .ok (.invokevirtual 126, 3) := by decide +kernel
theorem dX5_meetingStep_72 : decode cX5_meetingStep 72 = .ok (.istore 5, 2) := by decide +kernel
theorem dX5_meetingStep_74 : decode cX5_meetingStep 74 = .ok (.aload_n 0, 1) := by decide +kernel
theorem dX5_meetingStep_75 : decode cX5_meetingStep 75 = .ok (.iload 6, 2) := by decide +kernel
theorem dX5_meetingStep_77 : decode cX5_meetingStep 77 = .ok (.aload 4, 2) := by decide +kernel
theorem dX5_meetingStep_79 : decode cX5_meetingStep 79 = .ok (.iload 8, 2) := by decide +kernel
theorem dX5_meetingStep_81 : decode cX5_meetingStep 81 = .ok (.iload_n 3, 1) := by decide +kernel
theorem dX5_meetingStep_82 : decode cX5_meetingStep 82 = .ok (.isub, 1) := by decide +kernel
theorem dX5_meetingStep_83 : decode cX5_meetingStep 83 = .ok (.iconst 0, 1) := by decide +kernel
theorem dX5_meetingStep_84 : decode cX5_meetingStep 84 = .ok (.invokevirtual 126, 3) := by decide +kernel
theorem dX5_meetingStep_87 : decode cX5_meetingStep 87 = .ok (.istore 6, 2) := by decide +kernel
theorem dX5_meetingStep_89 : decode cX5_meetingStep 89 = .ok (.iinc 8 1, 3) := by decide +kernel
theorem dX5_meetingStep_92 : decode cX5_meetingStep 92 = .ok (.goto (-56), 3) := by decide +kernel
theorem dX5_meetingStep_95 : decode cX5_meetingStep 95 = .ok (.bipush (-6), 2) := by decide +kernel
theorem dX5_meetingStep_97 : decode cX5_meetingStep 97 = .ok (.ireturn, 1) := by decide +kernel
set_option maxRecDepth 20000 in
theorem ggX5_latestMeeting_X5_meetingStep : GoodIn wsX5_latestMeeting wsX5_meetingStep := goodIn_r _ [9, 10, 11, 1, 2, 3, 4, 12, 13, 8, 14, 15, 16, 17, 18, 19, 20, 21, 22, 23, 24, 25, 26, 27, 28, 29, 30, 31, 32, 33, 34, 35, 36, 37, 38, 39, 40, 41, 42, 43, 44, 45, 46, 47, 48, 49, 50, 51, 52, 53, 54, 55, 56, 57, 58, 59, 60, 61, 62, 63, 64, 65, 66, 67, 68, 69, 70, 71, 72, 73] (by decide +kernel) (by decide +kernel)
set_option maxRecDepth 20000 in
theorem gX5_latestMeeting_X5_meetingStep : GoodIn wsX5_latestMeeting (wsV RX5 163 RX5 yX5_meetingStep wsX5_meetingStep) := goodIn_app (goodIn_of _ (by decide +kernel)) ggX5_latestMeeting_X5_meetingStep
theorem dX5_latestMeeting_0 : decode cX5_latestMeeting 0 = .ok (.iconst 0, 1) := by decide +kernel
theorem dX5_latestMeeting_1 : decode cX5_latestMeeting 1 = .ok (.istore 5, 2) := by decide +kernel
theorem dX5_latestMeeting_3 : decode cX5_latestMeeting 3 = .ok (.iconst 0, 1) := by decide +kernel
theorem dX5_latestMeeting_4 : decode cX5_latestMeeting 4 = .ok (.istore 6, 2) := by decide +kernel
theorem dX5_latestMeeting_6 : decode cX5_latestMeeting 6 = .ok (.iload 6, 2) := by decide +kernel
theorem dX5_latestMeeting_8 : decode cX5_latestMeeting 8 = .ok (.iload_n 3, 1) := by decide +kernel
theorem dX5_latestMeeting_9 : decode cX5_latestMeeting 9 = .ok (.if_icmp .gt 40, 3) := by decide +kernel
theorem dX5_latestMeeting_12 : decode cX5_latestMeeting 12 = .ok (.aload_n 0, 1) := by decide +kernel
theorem dX5_latestMeeting_13 : decode cX5_latestMeeting 13 = .ok (.iload_n 1, 1) := by decide +kernel
theorem dX5_latestMeeting_14 : decode cX5_latestMeeting 14 = .ok (.iload_n 2, 1) := by decide +kernel
theorem dX5_latestMeeting_15 : decode cX5_latestMeeting 15 = .ok (.iload 6, 2) := by decide +kernel
theorem dX5_latestMeeting_17 : decode cX5_latestMeeting 17 = .ok (.aload 4, 2) := by decide +kernel
theorem dX5_latestMeeting_19 : decode cX5_latestMeeting 19 = .ok (.invokevirtual 163, 3) := by decide +kernel
theorem dX5_latestMeeting_22 : decode cX5_latestMeeting 22 = .ok (.istore 7, 2) := by decide +kernel
theorem dX5_latestMeeting_24 : decode cX5_latestMeeting 24 = .ok (.iload 7, 2) := by decide +kernel
theorem dX5_latestMeeting_26 : decode cX5_latestMeeting 26 = .ok (.bipush (-6), 2) := by decide +kernel
theorem dX5_latestMeeting_28 : decode cX5_latestMeeting 28 = .ok (.if_icmp .ne 6, 3) := by decide +kernel
theorem dX5_latestMeeting_31 : decode cX5_latestMeeting 31 = .ok (.bipush (-6), 2) := by decide +kernel
theorem dX5_latestMeeting_33 : decode cX5_latestMeeting 33 = .ok (.ireturn, 1) := by decide +kernel
theorem dX5_latestMeeting_34 : decode cX5_latestMeeting 34 = .ok (.iload 5, 2) := by decide +kernel
theorem dX5_latestMeeting_36 : decode cX5_latestMeeting 36 = .ok (.iload 7, 2) := by decide +kernel
theorem dX5_latestMeeting_38 : decode cX5_latestMeeting 38 = .ok (.invokestatic 170, 3) := by decide +kernel
theorem dX5_latestMeeting_41 : decode cX5_latestMeeting 41 = .ok (.istore 5, 2) := by decide +kernel
theorem dX5_latestMeeting_43 : decode cX5_latestMeeting 43 = .ok (.iinc 6 1, 3) := by decide +kernel
theorem dX5_latestMeeting_46 : decode cX5_latestMeeting 46 = .ok (.goto (-40), 3) := by decide +kernel
theorem dX5_latestMeeting_49 : decode cX5_latestMeeting 49 = .ok (.iload 5, 2) := by decide +kernel
theorem dX5_latestMeeting_51 : decode cX5_latestMeeting 51 = .ok (.ireturn, 1) := by decide +kernel
set_option maxRecDepth 20000 in
theorem ggX6_init_X6_begin : GoodIn wsX6_init wsX6_begin := goodIn_r _ [19, 6, 8, 20, 21, 22, 23, 24, 25, 26, 27, 28, 29, 30, 31] (by decide +kernel) (by decide +kernel)
set_option maxRecDepth 20000 in
theorem gX6_init_X6_begin : GoodIn wsX6_init (wsV RX6 39 RX6 yX6_begin wsX6_begin) := goodIn_app (goodIn_of _ (by decide +kernel)) ggX6_init_X6_begin
theorem dX6_init_0 : decode cX6_init 0 = .ok (.aload_n 0, 1) := by decide +kernel
theorem dX6_init_1 : decode cX6_init 1 = .ok (.invokespecial 1, 3) := by decide +kernel
theorem dX6_init_4 : decode cX6_init 4 = .ok (.aload_n 0, 1) := by decide +kernel
theorem dX6_init_5 : decode cX6_init 5 = .ok (.iconst 3, 1) := by decide +kernel
theorem dX6_init_6 : decode cX6_init 6 = .ok (.putfield 7, 3) := by decide +kernel
theorem dX6_init_9 : decode cX6_init 9 = .ok (.aload_n 0, 1) := by decide +kernel
theorem dX6_init_10 : decode cX6_init 10 = .ok (.bipush 32, 2) := by decide +kernel
theorem dX6_init_12 : decode cX6_init 12 = .ok (.newarray .int, 2) := by decide +kernel
theorem dX6_init_14 : decode cX6_init 14 = .ok (.putfield 13, 3) := by decide +kernel
theorem dX6_init_17 : decode cX6_init 17 = .ok (.aload_n 0, 1) := by decide +kernel
theorem dX6_init_18 : decode cX6_init 18 = .ok (.bipush 32, 2) := by decide +kernel
theorem dX6_init_20 : decode cX6_init 20 = .ok (.newarray .boolean, 2) := by decide +kernel
theorem dX6_init_22 : decode cX6_init 22 = .ok (.putfield 17, 3) := by decide +kernel
theorem dX6_init_25 : decode cX6_init 25 = .ok (.aload_n 0, 1) := by decide +kernel
theorem dX6_init_26 : decode cX6_init 26 = .ok (.iconst 2, 1) := by decide +kernel
theorem dX6_init_27 : decode cX6_init 27 = .ok (.newarray .int, 2) := by decide +kernel
theorem dX6_init_29 : decode cX6_init 29 = .ok (.putfield 21, 3) := by decide +kernel
theorem dX6_init_32 : decode cX6_init 32 = .ok (.aload_n 0, 1) := by decide +kernel
theorem dX6_init_33 : decode cX6_init 33 = .ok (.bipush 80, 2) := by decide +kernel
theorem dX6_init_35 : decode cX6_init 35 = .ok (.newarray .int, 2) := by decide +kernel
theorem dX6_init_37 : decode cX6_init 37 = .ok (.putfield 24, 3) := by decide +kernel
theorem dX6_init_40 : decode cX6_init 40 = .ok (.aload_n 0, 1) := by decide +kernel
theorem dX6_init_41 : decode cX6_init 41 = .ok (.bipush 8, 2) := by decide +kernel
theorem dX6_init_43 : decode cX6_init 43 = .ok (.newarray .int, 2) := by decide +kernel
theorem dX6_init_45 : decode cX6_init 45 = .ok (.putfield 27, 3) := by decide +kernel
theorem dX6_init_48 : decode cX6_init 48 = .ok (.aload_n 0, 1) := by decide +kernel
theorem dX6_init_49 : decode cX6_init 49 = .ok (.bipush 8, 2) := by decide +kernel
theorem dX6_init_51 : decode cX6_init 51 = .ok (.newarray .int, 2) := by decide +kernel
theorem dX6_init_53 : decode cX6_init 53 = .ok (.putfield 30, 3) := by decide +kernel
theorem dX6_init_56 : decode cX6_init 56 = .ok (.aload_n 0, 1) := by decide +kernel
theorem dX6_init_57 : decode cX6_init 57 = .ok (.iconst 5, 1) := by decide +kernel
theorem dX6_init_58 : decode cX6_init 58 = .ok (.newarray .int, 2) := by decide +kernel
theorem dX6_init_60 : decode cX6_init 60 = .ok (.putfield 33, 3) := by decide +kernel
theorem dX6_init_63 : decode cX6_init 63 = .ok (.aload_n 0, 1) := by decide +kernel
theorem dX6_init_64 : decode cX6_init 64 = .ok (.iconst 5, 1) := by decide +kernel
theorem dX6_init_65 : decode cX6_init 65 = .ok (.newarray .int, 2) := by decide +kernel
theorem dX6_init_67 : decode cX6_init 67 = .ok (.putfield 36, 3) := by decide +kernel
theorem dX6_init_70 : decode cX6_init 70 = .ok (.aload_n 0, 1) := by decide +kernel
theorem dX6_init_71 : decode cX6_init 71 = .ok (.invokevirtual 39, 3) := by decide +kernel
theorem dX6_init_74 : decode cX6_init 74 = .ok (.return_, 1) := by decide +kernel
theorem dX6_in_0 : decode cX6_in 0 = .ok (.iload_n 0, 1) := by decide +kernel
theorem dX6_in_1 : decode cX6_in 1 = .ok (.iload_n 1, 1) := by decide +kernel
theorem dX6_in_2 : decode cX6_in 2 = .ok (.if_icmp .lt 12, 3) := by decide +kernel
theorem dX6_in_5 : decode cX6_in 5 = .ok (.iload_n 0, 1) := by decide +kernel
theorem dX6_in_6 : decode cX6_in 6 = .ok (.iload_n 2, 1) := by decide +kernel
theorem dX6_in_7 : decode cX6_in 7 = .ok (.if_icmp .gt 7, 3) := by decide +kernel
theorem dX6_in_10 : decode cX6_in 10 = .ok (.iconst 1, 1) := by decide +kernel
theorem dX6_in_11 : decode cX6_in 11 = .ok (.goto 4, 3) := by decide +kernel
theorem dX6_in_14 : decode cX6_in 14 = .ok (.iconst 0, 1) := by decide +kernel
theorem dX6_in_15 : decode cX6_in 15 = .ok (.ireturn, 1) := by decide +kernel
theorem dX6_begin_0 : decode cX6_begin 0 = .ok (.iconst 0, 1) := by decide +kernel
theorem dX6_begin_1 : decode cX6_begin 1 = .ok (.istore_n 1, 1) := by decide +kernel
theorem dX6_begin_2 : decode cX6_begin 2 = .ok (.iload_n 1, 1) := by decide +kernel
theorem dX6_begin_3 : decode cX6_begin 3 = .ok (.bipush 32, 2) := by decide +kernel
theorem dX6_begin_5 : decode cX6_begin 5 = .ok (.if_icmp .ge 24, 3) := by decide +kernel
theorem dX6_begin_8 : decode cX6_begin 8 = .ok (.aload_n 0, 1) := by decide +kernel
theorem dX6_begin_9 : decode cX6_begin 9 = .ok (.getfield 13, 3) := by decide +kernel
theorem dX6_begin_12 : decode cX6_begin 12 = .ok (.iload_n 1, 1) := by decide +kernel
theorem dX6_begin_13 : decode cX6_begin 13 = .ok (.bipush (-6), 2) := by decide +kernel
theorem dX6_begin_15 : decode cX6_begin 15 = .ok (.iastore, 1) := by decide +kernel
theorem dX6_begin_16 : decode cX6_begin 16 = .ok (.aload_n 0, 1) := by decide +kernel
theorem dX6_begin_17 : decode cX6_begin 17 = .ok (.getfield 17, 3) := by decide +kernel
theorem dX6_begin_20 : decode cX6_begin 20 = .ok (.iload_n 1, 1) := by decide +kernel
theorem dX6_begin_21 : decode cX6_begin 21 = .ok (.iconst 0, 1) := by decide +kernel
theorem dX6_begin_22 : decode cX6_begin 22 = .ok (.bastore, 1) := by decide +kernel
theorem dX6_begin_23 : decode cX6_begin 23 = .ok (.iinc 1 1, 3) := by decide +kernel
theorem dX6_begin_26 : decode cX6_begin 26 = .ok (.goto (-24), 3) := by decide +kernel
theorem dX6_begin_29 : decode cX6_begin 29 = .ok (.return_, 1) := by decide +kernel
set_option maxRecDepth 20000 in
theorem ggX6_isPost_X6_in : GoodIn wsX6_isPost wsX6_in := goodIn_r _ [5] (by decide +kernel) (by decide +kernel)
set_option maxRecDepth 20000 in
theorem gX6_isPost_X6_in : GoodIn wsX6_isPost (va_wsS RX6 42 yX6_in wsX6_in) := goodIn_app (goodIn_of _ (by decide +kernel)) ggX6_isPost_X6_in
theorem dX6_isPost_0 : decode cX6_isPost 0 = .ok (.iload_n 1, 1) := by decide +kernel
theorem dX6_isPost_1 : decode cX6_isPost 1 = .ok (.iconst 0, 1) := by decide +kernel
theorem dX6_isPost_2 : decode cX6_isPost 2 = .ok (.aload_n 0, 1) := by decide +kernel
theorem dX6_isPost_3 : decode cX6_isPost 3 = .ok (.getfield 7, 3) := by decide +kernel
theorem dX6_isPost_6 : decode cX6_isPost 6 = .ok (.iconst 1, 1) := by decide +kernel
theorem dX6_isPost_7 : decode cX6_isPost 7 = .ok (.isub, 1) := by decide +kernel
theorem dX6_isPost_8 : decode cX6_isPost 8 = .ok (.invokestatic 42, 3) := by decide +kernel
theorem dX6_isPost_11 : decode cX6_isPost 11 = .ok (.ireturn, 1) := by decide +kernel
set_option maxRecDepth 20000 in
theorem ggX6_isDoor_X6_isPost : GoodIn wsX6_isDoor wsX6_isPost := goodIn_r _ [5, 6, 7, 8, 4, 9, 10, 11, 12, 13, 14, 15, 16, 17, 18, 19, 20, 21] (by decide +kernel) (by decide +kernel)
set_option maxRecDepth 20000 in
theorem gX6_isDoor_X6_isPost : GoodIn wsX6_isDoor (wsV RX6 46 RX6 yX6_isPost wsX6_isPost) := goodIn_app (goodIn_of _ (by decide +kernel)) ggX6_isDoor_X6_isPost
set_option maxRecDepth 20000 in
theorem ggX6_isDoor_X6_in : GoodIn wsX6_isDoor wsX6_in := goodIn_r _ [9] (by decide +kernel) (by decide +kernel)
set_option maxRecDepth 20000 in
theorem gX6_isDoor_X6_in : GoodIn wsX6_isDoor (va_wsS RX6 42 yX6_in wsX6_in) := goodIn_app (goodIn_of _ (by decide +kernel)) ggX6_isDoor_X6_in
theorem dX6_isDoor_0 : decode cX6_isDoor 0 = .ok (.aload_n 0, 1) := by decide +kernel
theorem dX6_isDoor_1 : decode cX6_isDoor 1 = .ok (.iload_n 1, 1) := by decide +kernel
theorem dX6_isDoor_2 : decode cX6_isDoor 2 = .ok (.invokevirtual 46, 3) := by decide +kernel
theorem dX6_isDoor_5 : decode cX6_isDoor 5 = .ok (.ifCond .eq 16, 3) := by decide +kernel
theorem dX6_isDoor_8 : decode cX6_isDoor 8 = .ok (.iload_n 2, 1) := by decide +kernel
theorem dX6_isDoor_9 : decode cX6_isDoor 9 = .ok (.iconst 0, 1) := by decide +kernel
theorem dX6_isDoor_10 : decode cX6_isDoor 10 = .ok (.iconst 3, 1) := by decide +kernel
theorem dX6_isDoor_11 : decode cX6_isDoor 11 = .ok (.invokestatic 42, 3) := by decide +kernel
theorem dX6_isDoor_14 : decode cX6_isDoor 14 = .ok (.ifCond .eq 7, 3) := by decide +kernel
theorem dX6_isDoor_17 : decode cX6_isDoor 17 = .ok (.iconst 1, 1) := by decide +kernel
theorem dX6_isDoor_18 : decode cX6_isDoor 18 = .ok (.goto 4, 3) := by decide +kernel
theorem dX6_isDoor_21 : decode cX6_isDoor 21 = .ok (.iconst 0, 1) := by decide +kernel
theorem dX6_isDoor_22 : decode cX6_isDoor 22 = .ok (.ireturn, 1) := by decide +kernel
set_option maxRecDepth 20000 in
theorem ggX6_posts_X6_in : GoodIn wsX6_posts wsX6_in := goodIn_r _ [5] (by decide +kernel) (by decide +kernel)
set_option maxRecDepth 20000 in
theorem gX6_posts_X6_in : GoodIn wsX6_posts (va_wsS RX6 42 yX6_in wsX6_in) := goodIn_app (goodIn_of _ (by decide +kernel)) ggX6_posts_X6_in
set_option maxRecDepth 20000 in
theorem ggX6_posts_X6_begin : GoodIn wsX6_posts wsX6_begin := goodIn_r _ [9, 10, 11, 12, 13, 14, 15, 16, 17, 18, 19, 20, 21, 22, 23] (by decide +kernel) (by decide +kernel)
set_option maxRecDepth 20000 in
theorem gX6_posts_X6_begin : GoodIn wsX6_posts (wsV RX6 39 RX6 yX6_begin wsX6_begin) := goodIn_app (goodIn_of _ (by decide +kernel)) ggX6_posts_X6_begin
theorem dX6_posts_0 : decode cX6_posts 0 = .ok (.iload_n 1, 1) := by decide +kernel
theorem dX6_posts_1 : decode cX6_posts 1 = .ok (.iconst 1, 1) := by decide +kernel
theorem dX6_posts_2 : decode cX6_posts 2 = .ok (.bipush 8, 2) := by decide +kernel
theorem dX6_posts_4 : decode cX6_posts 4 = .ok (.invokestatic 42, 3) := by decide +kernel
theorem dX6_posts_7 : decode cX6_posts 7 = .ok (.ifCond .ne 6, 3) := by decide +kernel
theorem dX6_posts_10 : decode cX6_posts 10 = .ok (.bipush (-2), 2) := by decide +kernel
theorem dX6_posts_12 : decode cX6_posts 12 = .ok (.ireturn, 1) := by decide +kernel
theorem dX6_posts_13 : decode cX6_posts 13 = .ok (.aload_n 0, 1) := by decide +kernel
theorem dX6_posts_14 : decode cX6_posts 14 = .ok (.getfield 7, 3) := by decide +kernel
theorem dX6_posts_17 : decode cX6_posts 17 = .ok (.istore_n 2, 1) := by decide +kernel
theorem dX6_posts_18 : decode cX6_posts 18 = .ok (.aload_n 0, 1) := by decide +kernel
theorem dX6_posts_19 : decode cX6_posts 19 = .ok (.iload_n 1, 1) := by decide +kernel
theorem dX6_posts_20 : decode cX6_posts 20 = .ok (.putfield 7, 3) := by decide +kernel
theorem dX6_posts_23 : decode cX6_posts 23 = .ok (.aload_n 0, 1) := by decide +kernel
theorem dX6_posts_24 : decode cX6_posts 24 = .ok (.invokevirtual 39, 3) := by decide +kernel
theorem dX6_posts_27 : decode cX6_posts 27 = .ok (.iload_n 2, 1) := by decide +kernel
theorem dX6_posts_28 : decode cX6_posts 28 = .ok (.ireturn, 1) := by decide +kernel
theorem dX6_pairs_0 : decode cX6_pairs 0 = .ok (.iconst 0, 1) := by decide +kernel
theorem dX6_pairs_1 : decode cX6_pairs 1 = .ok (.istore_n 1, 1) := by decide +kernel
theorem dX6_pairs_2 : decode cX6_pairs 2 = .ok (.iconst 0, 1) := by decide +kernel
theorem dX6_pairs_3 : decode cX6_pairs 3 = .ok (.istore_n 2, 1) := by decide +kernel
theorem dX6_pairs_4 : decode cX6_pairs 4 = .ok (.iload_n 2, 1) := by decide +kernel
theorem dX6_pairs_5 : decode cX6_pairs 5 = .ok (.bipush 32, 2) := by decide +kernel
theorem dX6_pairs_7 : decode cX6_pairs 7 = .ok (.if_icmp .ge 27, 3) := by decide +kernel
theorem dX6_pairs_10 : decode cX6_pairs 10 = .ok (.iload_n 1, 1) := by decide +kernel
theorem dX6_pairs_11 : decode cX6_pairs 11 = .ok (.aload_n 0, 1) := by decide +kernel
theorem dX6_pairs_12 : decode cX6_pairs 12 = .ok (.getfield 13, 3) := by decide +kernel
theorem dX6_pairs_15 : decode cX6_pairs 15 = .ok (.iload_n 2, 1) := by decide +kernel
theorem dX6_pairs_16 : decode cX6_pairs 16 = .ok (.iaload, 1) := by decide +kernel
theorem dX6_pairs_17 : decode cX6_pairs 17 = .ok (.iload_n 2, 1) := by decide +kernel
theorem dX6_pairs_18 : decode cX6_pairs 18 = .ok (.if_icmp .le 7, 3) := by decide +kernel
theorem dX6_pairs_21 : decode cX6_pairs 21 = .ok (.iconst 1, 1) := by decide +kernel
theorem dX6_pairs_22 : decode cX6_pairs 22 = .ok (.goto 4, 3) := by decide +kernel
theorem dX6_pairs_25 : decode cX6_pairs 25 = .ok (.iconst 0, 1) := by decide +kernel
theorem dX6_pairs_26 : decode cX6_pairs 26 = .ok (.iadd, 1) := by decide +kernel
theorem dX6_pairs_27 : decode cX6_pairs 27 = .ok (.istore_n 1, 1) := by decide +kernel
theorem dX6_pairs_28 : decode cX6_pairs 28 = .ok (.iinc 2 1, 3) := by decide +kernel
theorem dX6_pairs_31 : decode cX6_pairs 31 = .ok (.goto (-27), 3) := by decide +kernel
theorem dX6_pairs_34 : decode cX6_pairs 34 = .ok (.iload_n 1, 1) := by decide +kernel
theorem dX6_pairs_35 : decode cX6_pairs 35 = .ok (.ireturn, 1) := by decide +kernel
set_option maxRecDepth 20000 in
theorem ggX6_join_X6_isDoor : GoodIn wsX6_join wsX6_isDoor := goodIn_r _ [6, 7, 8, 9, 5, 10, 11, 12, 13, 14, 19, 20, 21, 22, 23, 24, 25, 26, 27, 28, 29, 30] (by decide +kernel) (by decide +kernel)
set_option maxRecDepth 20000 in
theorem gX6_join_X6_isDoor : GoodIn wsX6_join (wsV RX6 50 RX6 yX6_isDoor wsX6_isDoor) := goodIn_app (goodIn_of _ (by decide +kernel)) ggX6_join_X6_isDoor
set_option maxRecDepth 20000 in
theorem ggX6_join_X6_pairs : GoodIn wsX6_join wsX6_pairs := goodIn_r _ [18, 1, 19, 20, 21, 22, 23, 24, 25, 26, 27, 28, 29, 30] (by decide +kernel) (by decide +kernel)
set_option maxRecDepth 20000 in
theorem gX6_join_X6_pairs : GoodIn wsX6_join (wsV RX6 54 RX6 yX6_pairs wsX6_pairs) := goodIn_app (goodIn_of _ (by decide +kernel)) ggX6_join_X6_pairs
theorem dX6_join_0 : decode cX6_join 0 = .ok (.aload_n 0, 1) := by decide +kernel
theorem dX6_join_1 : decode cX6_join 1 = .ok (.iload_n 1, 1) := by decide +kernel
theorem dX6_join_2 : decode cX6_join 2 = .ok (.iload_n 2, 1) := by decide +kernel
theorem dX6_join_3 : decode cX6_join 3 = .ok (.invokevirtual 50, 3) := by decide +kernel
theorem dX6_join_6 : decode cX6_join 6 = .ok (.ifCond .eq 13, 3) := by decide +kernel
theorem dX6_join_9 : decode cX6_join 9 = .ok (.aload_n 0, 1) := by decide +kernel
theorem dX6_join_10 : decode cX6_join 10 = .ok (.iload_n 3, 1) := by decide +kernel
theorem dX6_join_11 : decode cX6_join 11 = .ok (.iload 4, 2) := by decide +kernel
theorem dX6_join_13 : decode cX6_join 13 = .ok (.invokevirtual 50, 3) := by decide +kernel
theorem dX6_join_16 : decode cX6_join 16 = .ok (.ifCond .ne 5, 3) := by decide +kernel
theorem dX6_join_19 : decode cX6_join 19 = .ok (.iconst (-1), 1) := by decide +kernel
theorem dX6_join_20 : decode cX6_join 20 = .ok (.ireturn, 1) := by decide +kernel
theorem dX6_join_21 : decode cX6_join 21 = .ok (.iconst 4, 1) := by decide +kernel
theorem dX6_join_22 : decode cX6_join 22 = .ok (.iload_n 1, 1) := by decide +kernel
theorem dX6_join_23 : decode cX6_join 23 = .ok (.imul, 1) := by decide +kernel
theorem dX6_join_24 : decode cX6_join 24 = .ok (.iload_n 2, 1) := by decide +kernel
theorem dX6_join_25 : decode cX6_join 25 = .ok (.iadd, 1) := by decide +kernel
theorem dX6_join_26 : decode cX6_join 26 = .ok (.istore 5, 2) := by decide +kernel
theorem dX6_join_28 : decode cX6_join 28 = .ok (.iconst 4, 1) := by decide +kernel
theorem dX6_join_29 : decode cX6_join 29 = .ok (.iload_n 3, 1) := by decide +kernel
theorem dX6_join_30 : decode cX6_join 30 = .ok (.imul, 1) := by decide +kernel
theorem dX6_join_31 : decode cX6_join 31 = .ok (.iload 4, 2) := by decide +kernel
theorem dX6_join_33 : decode cX6_join 33 = .ok (.iadd, 1) := by decide +kernel
theorem dX6_join_34 : decode cX6_join 34 = .ok (.istore 6, 2) := by decide +kernel
theorem dX6_join_36 : decode cX6_join 36 = .ok (.iload 5, 2) := by decide +kernel
theorem dX6_join_38 : decode cX6_join 38 = .ok (.iload 6, 2) := by decide +kernel
theorem dX6_join_40 : decode cX6_join 40 = .ok (.if_icmp .eq 23, 3) := by decide +kernel
theorem dX6_join_43 : decode cX6_join 43 = .ok (.aload_n 0, 1) := by decide +kernel
theorem dX6_join_44 : decode cX6_join 44 = .ok (.getfield 13, 3) := by decide +kernel
theorem dX6_join_47 : decode cX6_join 47 = .ok (.iload 5, 2) := by decide +kernel
theorem dX6_join_49 : decode cX6_join 49 = .ok (.iaload, 1) := by decide +kernel
theorem dX6_join_50 : decode cX6_join 50 = .ok (.ifCond .ge 13, 3) := by decide +kernel
theorem dX6_join_53 : decode cX6_join 53 = .ok (.aload_n 0, 1) := by decide +kernel
theorem dX6_join_54 : decode cX6_join 54 = .ok (.getfield 13, 3) := by decide +kernel
theorem dX6_join_57 : decode cX6_join 57 = .ok (.iload 6, 2) := by decide +kernel
theorem dX6_join_59 : decode cX6_join 59 = .ok (.iaload, 1) := by decide +kernel
theorem dX6_join_60 : decode cX6_join 60 = .ok (.ifCond .lt 6, 3) := by decide +kernel
theorem dX6_join_63 : decode cX6_join 63 = .ok (.bipush (-5), 2) := by decide +kernel
theorem dX6_join_65 : decode cX6_join 65 = .ok (.ireturn, 1) := by decide +kernel
theorem dX6_join_66 : decode cX6_join 66 = .ok (.aload_n 0, 1) := by decide +kernel
theorem dX6_join_67 : decode cX6_join 67 = .ok (.getfield 13, 3) := by decide +kernel
theorem dX6_join_70 : decode cX6_join 70 = .ok (.iload 5, 2) := by decide +kernel
theorem dX6_join_72 : decode cX6_join 72 = .ok (.iload 6, 2) := by decide +kernel
theorem dX6_join_74 : decode cX6_join 74 = .ok (.iastore, 1) := by decide +kernel
theorem dX6_join_75 : decode cX6_join 75 = .ok (.aload_n 0, 1) := by decide +kernel
theorem dX6_join_76 : decode cX6_join 76 = .ok (.getfield 13, 3) := by decide +kernel
theorem dX6_join_79 : decode cX6_join 79 = .ok (.iload 6, 2) := by decide +kernel
theorem dX6_join_81 : decode cX6_join 81 = .ok (.iload 5, 2) := by decide +kernel
theorem dX6_join_83 : decode cX6_join 83 = .ok (.iastore, 1) := by decide +kernel
theorem dX6_join_84 : decode cX6_join 84 = .ok (.aload_n 0, 1) := by decide +kernel
theorem dX6_join_85 : decode cX6_join 85 = .ok (.invokevirtual 54, 3) := by decide +kernel
theorem dX6_join_88 : decode cX6_join 88 = .ok (.ireturn, 1) := by decide +kernel
theorem dX6_named_0 : decode cX6_named 0 = .ok (.bipush 10, 2) := by decide +kernel
theorem dX6_named_2 : decode cX6_named 2 = .ok (.iload_n 0, 1) := by decide +kernel
theorem dX6_named_3 : decode cX6_named 3 = .ok (.iconst 4, 1) := by decide +kernel
theorem dX6_named_4 : decode cX6_named 4 = .ok (.idiv, 1) := by decide +kernel
theorem dX6_named_5 : decode cX6_named 5 = .ok (.imul, 1) := by decide +kernel
theorem dX6_named_6 : decode cX6_named 6 = .ok (.iload_n 0, 1) := by decide +kernel
theorem dX6_named_7 : decode cX6_named 7 = .ok (.iconst 4, 1) := by decide +kernel
theorem dX6_named_8 : decode cX6_named 8 = .ok (.irem, 1) := by decide +kernel
theorem dX6_named_9 : decode cX6_named 9 = .ok (.iadd, 1) := by decide +kernel
theorem dX6_named_10 : decode cX6_named 10 = .ok (.ireturn, 1) := by decide +kernel
set_option maxRecDepth 20000 in
theorem ggX6_part_X6_isDoor : GoodIn wsX6_part wsX6_isDoor := goodIn_r _ [6, 7, 8, 9, 5, 10, 11, 12, 13, 14, 18, 19, 20, 21, 22, 23, 24, 25, 26, 27, 28, 29] (by decide +kernel) (by decide +kernel)
set_option maxRecDepth 20000 in
theorem gX6_part_X6_isDoor : GoodIn wsX6_part (wsV RX6 50 RX6 yX6_isDoor wsX6_isDoor) := goodIn_app (goodIn_of _ (by decide +kernel)) ggX6_part_X6_isDoor
set_option maxRecDepth 20000 in
theorem ggX6_part_X6_named : GoodIn wsX6_part wsX6_named := goodIn_r _ [17] (by decide +kernel) (by decide +kernel)
set_option maxRecDepth 20000 in
theorem gX6_part_X6_named : GoodIn wsX6_part (va_wsS RX6 58 yX6_named wsX6_named) := goodIn_app (goodIn_of _ (by decide +kernel)) ggX6_part_X6_named
theorem dX6_part_0 : decode cX6_part 0 = .ok (.aload_n 0, 1) := by decide +kernel
theorem dX6_part_1 : decode cX6_part 1 = .ok (.iload_n 1, 1) := by decide +kernel
theorem dX6_part_2 : decode cX6_part 2 = .ok (.iload_n 2, 1) := by decide +kernel
theorem dX6_part_3 : decode cX6_part 3 = .ok (.invokevirtual 50, 3) := by decide +kernel
theorem dX6_part_6 : decode cX6_part 6 = .ok (.ifCond .ne 5, 3) := by decide +kernel
theorem dX6_part_9 : decode cX6_part 9 = .ok (.iconst (-1), 1) := by decide +kernel
theorem dX6_part_10 : decode cX6_part 10 = .ok (.ireturn, 1) := by decide +kernel
theorem dX6_part_11 : decode cX6_part 11 = .ok (.aload_n 0, 1) := by decide +kernel
theorem dX6_part_12 : decode cX6_part 12 = .ok (.getfield 13, 3) := by decide +kernel
theorem dX6_part_15 : decode cX6_part 15 = .ok (.iconst 4, 1) := by decide +kernel
theorem dX6_part_16 : decode cX6_part 16 = .ok (.iload_n 1, 1) := by decide +kernel
theorem dX6_part_17 : decode cX6_part 17 = .ok (.imul, 1) := by decide +kernel
theorem dX6_part_18 : decode cX6_part 18 = .ok (.iload_n 2, 1) := by decide +kernel
theorem dX6_part_19 : decode cX6_part 19 = .ok (.iadd, 1) := by decide +kernel
theorem dX6_part_20 : decode cX6_part 20 = .ok (.iaload, 1) := by decide +kernel
theorem dX6_part_21 : decode cX6_part 21 = .ok (.istore_n 3, 1) := by decide +kernel
theorem dX6_part_22 : decode cX6_part 22 = .ok (.iload_n 3, 1) := by decide +kernel
theorem dX6_part_23 : decode cX6_part 23 = .ok (.ifCond .ge 6, 3) := by decide +kernel
theorem dX6_part_26 : decode cX6_part 26 = .ok (.bipush (-6), 2) := by decide +kernel
theorem dX6_part_28 : decode cX6_part 28 = .ok (.ireturn, 1) := by decide +kernel
theorem dX6_part_29 : decode cX6_part 29 = .ok (.aload_n 0, 1) := by decide +kernel
theorem dX6_part_30 : decode cX6_part 30 = .ok (.getfield 13, 3) := by decide +kernel
theorem dX6_part_33 : decode cX6_part 33 = .ok (.iconst 4, 1) := by decide +kernel
theorem dX6_part_34 : decode cX6_part 34 = .ok (.iload_n 1, 1) := by decide +kernel
theorem dX6_part_35 : decode cX6_part 35 = .ok (.imul, 1) := by decide +kernel
theorem dX6_part_36 : decode cX6_part 36 = .ok (.iload_n 2, 1) := by decide +kernel
theorem dX6_part_37 : decode cX6_part 37 = .ok (.iadd, 1) := by decide +kernel
theorem dX6_part_38 : decode cX6_part 38 = .ok (.bipush (-6), 2) := by decide +kernel
theorem dX6_part_40 : decode cX6_part 40 = .ok (.iastore, 1) := by decide +kernel
theorem dX6_part_41 : decode cX6_part 41 = .ok (.aload_n 0, 1) := by decide +kernel
theorem dX6_part_42 : decode cX6_part 42 = .ok (.getfield 13, 3) := by decide +kernel
theorem dX6_part_45 : decode cX6_part 45 = .ok (.iload_n 3, 1) := by decide +kernel
theorem dX6_part_46 : decode cX6_part 46 = .ok (.bipush (-6), 2) := by decide +kernel
theorem dX6_part_48 : decode cX6_part 48 = .ok (.iastore, 1) := by decide +kernel
theorem dX6_part_49 : decode cX6_part 49 = .ok (.iload_n 3, 1) := by decide +kernel
theorem dX6_part_50 : decode cX6_part 50 = .ok (.invokestatic 58, 3) := by decide +kernel
theorem dX6_part_53 : decode cX6_part 53 = .ok (.ireturn, 1) := by decide +kernel
set_option maxRecDepth 20000 in
theorem ggX6_bad_X6_isDoor : GoodIn wsX6_bad wsX6_isDoor := goodIn_r _ [6, 7, 8, 9, 5, 10, 11, 12, 13, 14, 15, 16, 17, 18, 19, 20, 21, 22, 23, 24, 25, 26] (by decide +kernel) (by decide +kernel)
set_option maxRecDepth 20000 in
theorem gX6_bad_X6_isDoor : GoodIn wsX6_bad (wsV RX6 50 RX6 yX6_isDoor wsX6_isDoor) := goodIn_app (goodIn_of _ (by decide +kernel)) ggX6_bad_X6_isDoor
theorem dX6_bad_0 : decode cX6_bad 0 = .ok (.aload_n 0, 1) := by decide +kernel
theorem dX6_bad_1 : decode cX6_bad 1 = .ok (.iload_n 1, 1) := by decide +kernel
theorem dX6_bad_2 : decode cX6_bad 2 = .ok (.iload_n 2, 1) := by decide +kernel
theorem dX6_bad_3 : decode cX6_bad 3 = .ok (.invokevirtual 50, 3) := by decide +kernel
theorem dX6_bad_6 : decode cX6_bad 6 = .ok (.ifCond .ne 5, 3) := by decide +kernel
theorem dX6_bad_9 : decode cX6_bad 9 = .ok (.iconst (-1), 1) := by decide +kernel
theorem dX6_bad_10 : decode cX6_bad 10 = .ok (.ireturn, 1) := by decide +kernel
theorem dX6_bad_11 : decode cX6_bad 11 = .ok (.aload_n 0, 1) := by decide +kernel
theorem dX6_bad_12 : decode cX6_bad 12 = .ok (.getfield 17, 3) := by decide +kernel
theorem dX6_bad_15 : decode cX6_bad 15 = .ok (.iconst 4, 1) := by decide +kernel
theorem dX6_bad_16 : decode cX6_bad 16 = .ok (.iload_n 1, 1) := by decide +kernel
theorem dX6_bad_17 : decode cX6_bad 17 = .ok (.imul, 1) := by decide +kernel
theorem dX6_bad_18 : decode cX6_bad 18 = .ok (.iload_n 2, 1) := by decide +kernel
theorem dX6_bad_19 : decode cX6_bad 19 = .ok (.iadd, 1) := by decide +kernel
theorem dX6_bad_20 : decode cX6_bad 20 = .ok (.baload, 1) := by decide +kernel
theorem dX6_bad_21 : decode cX6_bad 21 = .ok (.ifCond .eq 7, 3) := by decide +kernel
theorem dX6_bad_24 : decode cX6_bad 24 = .ok (.iconst 1, 1) := by decide +kernel
theorem dX6_bad_25 : decode cX6_bad 25 = .ok (.goto 4, 3) := by decide +kernel
theorem dX6_bad_28 : decode cX6_bad 28 = .ok (.iconst 0, 1) := by decide +kernel
theorem dX6_bad_29 : decode cX6_bad 29 = .ok (.istore 4, 2) := by decide +kernel
theorem dX6_bad_31 : decode cX6_bad 31 = .ok (.aload_n 0, 1) := by decide +kernel
theorem dX6_bad_32 : decode cX6_bad 32 = .ok (.getfield 17, 3) := by decide +kernel
theorem dX6_bad_35 : decode cX6_bad 35 = .ok (.iconst 4, 1) := by decide +kernel
theorem dX6_bad_36 : decode cX6_bad 36 = .ok (.iload_n 1, 1) := by decide +kernel
theorem dX6_bad_37 : decode cX6_bad 37 = .ok (.imul, 1) := by decide +kernel
theorem dX6_bad_38 : decode cX6_bad 38 = .ok (.iload_n 2, 1) := by decide +kernel
theorem dX6_bad_39 : decode cX6_bad 39 = .ok (.iadd, 1) := by decide +kernel
theorem dX6_bad_40 : decode cX6_bad 40 = .ok (.iload_n 3, 1) := by decide +kernel
theorem dX6_bad_41 : decode cX6_bad 41 = .ok (.bastore, 1) := by decide +kernel
theorem dX6_bad_42 : decode cX6_bad 42 = .ok (.iload 4, 2) := by decide +kernel
theorem dX6_bad_44 : decode cX6_bad 44 = .ok (.ireturn, 1) := by decide +kernel
set_option maxRecDepth 20000 in
theorem ggX6_leads_X6_isDoor : GoodIn wsX6_leads wsX6_isDoor := goodIn_r _ [7, 8, 9, 10, 6, 11, 12, 13, 14, 15, 19, 20, 21, 22, 23, 24, 25, 26, 27, 28, 29, 30] (by decide +kernel) (by decide +kernel)
set_option maxRecDepth 20000 in
theorem gX6_leads_X6_isDoor : GoodIn wsX6_leads (wsV RX6 50 RX6 yX6_isDoor wsX6_isDoor) := goodIn_app (goodIn_of _ (by decide +kernel)) ggX6_leads_X6_isDoor
set_option maxRecDepth 20000 in
theorem ggX6_leads_X6_named : GoodIn wsX6_leads wsX6_named := goodIn_r _ [18] (by decide +kernel) (by decide +kernel)
set_option maxRecDepth 20000 in
theorem gX6_leads_X6_named : GoodIn wsX6_leads (va_wsS RX6 58 yX6_named wsX6_named) := goodIn_app (goodIn_of _ (by decide +kernel)) ggX6_leads_X6_named
theorem dX6_leads_0 : decode cX6_leads 0 = .ok (.aload_n 0, 1) := by decide +kernel
theorem dX6_leads_1 : decode cX6_leads 1 = .ok (.iload_n 1, 1) := by decide +kernel
theorem dX6_leads_2 : decode cX6_leads 2 = .ok (.iload_n 2, 1) := by decide +kernel
theorem dX6_leads_3 : decode cX6_leads 3 = .ok (.invokevirtual 50, 3) := by decide +kernel
theorem dX6_leads_6 : decode cX6_leads 6 = .ok (.ifCond .ne 5, 3) := by decide +kernel
theorem dX6_leads_9 : decode cX6_leads 9 = .ok (.iconst (-1), 1) := by decide +kernel
theorem dX6_leads_10 : decode cX6_leads 10 = .ok (.ireturn, 1) := by decide +kernel
theorem dX6_leads_11 : decode cX6_leads 11 = .ok (.iconst 4, 1) := by decide +kernel
theorem dX6_leads_12 : decode cX6_leads 12 = .ok (.iload_n 1, 1) := by decide +kernel
theorem dX6_leads_13 : decode cX6_leads 13 = .ok (.imul, 1) := by decide +kernel
theorem dX6_leads_14 : decode cX6_leads 14 = .ok (.iload_n 2, 1) := by decide +kernel
theorem dX6_leads_15 : decode cX6_leads 15 = .ok (.iadd, 1) := by decide +kernel
theorem dX6_leads_16 : decode cX6_leads 16 = .ok (.istore_n 3, 1) := by decide +kernel
theorem dX6_leads_17 : decode cX6_leads 17 = .ok (.aload_n 0, 1) := by decide +kernel
theorem dX6_leads_18 : decode cX6_leads 18 = .ok (.getfield 13, 3) := by decide +kernel
theorem dX6_leads_21 : decode cX6_leads 21 = .ok (.iload_n 3, 1) := by decide +kernel
theorem dX6_leads_22 : decode cX6_leads 22 = .ok (.iaload, 1) := by decide +kernel
theorem dX6_leads_23 : decode cX6_leads 23 = .ok (.ifCond .ge 8, 3) := by decide +kernel
theorem dX6_leads_26 : decode cX6_leads 26 = .ok (.bipush (-6), 2) := by decide +kernel
theorem dX6_leads_28 : decode cX6_leads 28 = .ok (.goto 25, 3) := by decide +kernel
theorem dX6_leads_31 : decode cX6_leads 31 = .ok (.aload_n 0, 1) := by decide +kernel
theorem dX6_leads_32 : decode cX6_leads 32 = .ok (.getfield 17, 3) := by decide +kernel
theorem dX6_leads_35 : decode cX6_leads 35 = .ok (.iload_n 3, 1) := by decide +kernel
theorem dX6_leads_36 : decode cX6_leads 36 = .ok (.baload, 1) := by decide +kernel
theorem dX6_leads_37 : decode cX6_leads 37 = .ok (.ifCond .eq 7, 3) := by decide +kernel
theorem dX6_leads_40 : decode cX6_leads 40 = .ok (.iload_n 3, 1) := by decide +kernel
theorem dX6_leads_41 : decode cX6_leads 41 = .ok (.goto 9, 3) := by decide +kernel
theorem dX6_leads_44 : decode cX6_leads 44 = .ok (.aload_n 0, 1) := by decide +kernel
theorem dX6_leads_45 : decode cX6_leads 45 = .ok (.getfield 13, 3) := by decide +kernel
theorem dX6_leads_48 : decode cX6_leads 48 = .ok (.iload_n 3, 1) := by decide +kernel
theorem dX6_leads_49 : decode cX6_leads 49 = .ok (.iaload, 1) := by decide +kernel
theorem dX6_leads_50 : decode cX6_leads 50 = .ok (.invokestatic 58, 3) := by decide +kernel
theorem dX6_leads_53 : decode cX6_leads 53 = .ok (.ireturn, 1) := by decide +kernel
theorem dX6_degreeOf_0 : decode cX6_degreeOf 0 = .ok (.iconst 0, 1) := by decide +kernel
theorem dX6_degreeOf_1 : decode cX6_degreeOf 1 = .ok (.istore_n 2, 1) := by decide +kernel
theorem dX6_degreeOf_2 : decode cX6_degreeOf 2 = .ok (.iconst 0, 1) := by decide +kernel
theorem dX6_degreeOf_3 : decode cX6_degreeOf 3 = .ok (.istore_n 3, 1) := by decide +kernel
theorem dX6_degreeOf_4 : decode cX6_degreeOf 4 = .ok (.iload_n 3, 1) := by decide +kernel
theorem dX6_degreeOf_5 : decode cX6_degreeOf 5 = .ok (.iconst 4, 1) := by decide +kernel
theorem dX6_degreeOf_6 : decode cX6_degreeOf 6 = .ok (.if_icmp .ge 30, 3) := by decide +kernel
theorem dX6_degreeOf_9 : decode cX6_degreeOf 9 = .ok (.iload_n 2, 1) := by decide +kernel
theorem dX6_degreeOf_10 : decode cX6_degreeOf 10 = .ok (.aload_n 0, 1) := by decide +kernel
theorem dX6_degreeOf_11 : decode cX6_degreeOf 11 = .ok (.getfield 13, 3) := by decide +kernel
theorem dX6_degreeOf_14 : decode cX6_degreeOf 14 = .ok (.iconst 4, 1) := by decide +kernel
theorem dX6_degreeOf_15 : decode cX6_degreeOf 15 = .ok (.iload_n 1, 1) := by decide +kernel
theorem dX6_degreeOf_16 : decode cX6_degreeOf 16 = .ok (.imul, 1) := by decide +kernel
theorem dX6_degreeOf_17 : decode cX6_degreeOf 17 = .ok (.iload_n 3, 1) := by decide +kernel
theorem dX6_degreeOf_18 : decode cX6_degreeOf 18 = .ok (.iadd, 1) := by decide +kernel
theorem dX6_degreeOf_19 : decode cX6_degreeOf 19 = .ok (.iaload, 1) := by decide +kernel
theorem dX6_degreeOf_20 : decode cX6_degreeOf 20 = .ok (.ifCond .lt 7, 3) := by decide +kernel
theorem dX6_degreeOf_23 : decode cX6_degreeOf 23 = .ok (.iconst 1, 1) := by decide +kernel
theorem dX6_degreeOf_24 : decode cX6_degreeOf 24 = .ok (.goto 4, 3) := by decide +kernel
theorem dX6_degreeOf_27 : decode cX6_degreeOf 27 = .ok (.iconst 0, 1) := by decide +kernel
theorem dX6_degreeOf_28 : decode cX6_degreeOf 28 = .ok (.iadd, 1) := by decide +kernel
theorem dX6_degreeOf_29 : decode cX6_degreeOf 29 = .ok (.istore_n 2, 1) := by decide +kernel
theorem dX6_degreeOf_30 : decode cX6_degreeOf 30 = .ok (.iinc 3 1, 3) := by decide +kernel
theorem dX6_degreeOf_33 : decode cX6_degreeOf 33 = .ok (.goto (-29), 3) := by decide +kernel
theorem dX6_degreeOf_36 : decode cX6_degreeOf 36 = .ok (.iload_n 2, 1) := by decide +kernel
theorem dX6_degreeOf_37 : decode cX6_degreeOf 37 = .ok (.ireturn, 1) := by decide +kernel
set_option maxRecDepth 20000 in
theorem ggX6_degree_X6_isPost : GoodIn wsX6_degree wsX6_isPost := goodIn_r _ [5, 6, 7, 8, 4, 9, 15, 16, 17, 18, 19, 20, 21, 22, 23, 24, 25, 26] (by decide +kernel) (by decide +kernel)
set_option maxRecDepth 20000 in
theorem gX6_degree_X6_isPost : GoodIn wsX6_degree (wsV RX6 46 RX6 yX6_isPost wsX6_isPost) := goodIn_app (goodIn_of _ (by decide +kernel)) ggX6_degree_X6_isPost
set_option maxRecDepth 20000 in
theorem ggX6_degree_X6_degreeOf : GoodIn wsX6_degree wsX6_degreeOf := goodIn_r _ [13, 14, 15, 16, 17, 18, 19, 20, 21, 22, 23, 24, 25, 26] (by decide +kernel) (by decide +kernel)
set_option maxRecDepth 20000 in
theorem gX6_degree_X6_degreeOf : GoodIn wsX6_degree (wsV RX6 62 RX6 yX6_degreeOf wsX6_degreeOf) := goodIn_app (goodIn_of _ (by decide +kernel)) ggX6_degree_X6_degreeOf
theorem dX6_degree_0 : decode cX6_degree 0 = .ok (.aload_n 0, 1) := by decide +kernel
theorem dX6_degree_1 : decode cX6_degree 1 = .ok (.iload_n 1, 1) := by decide +kernel
theorem dX6_degree_2 : decode cX6_degree 2 = .ok (.invokevirtual 46, 3) := by decide +kernel
theorem dX6_degree_5 : decode cX6_degree 5 = .ok (.ifCond .eq 11, 3) := by decide +kernel
theorem dX6_degree_8 : decode cX6_degree 8 = .ok (.aload_n 0, 1) := by decide +kernel
theorem dX6_degree_9 : decode cX6_degree 9 = .ok (.iload_n 1, 1) := by decide +kernel
theorem dX6_degree_10 : decode cX6_degree 10 = .ok (.invokevirtual 62, 3) := by decide +kernel
theorem dX6_degree_13 : decode cX6_degree 13 = .ok (.goto 4, 3) := by decide +kernel
theorem dX6_degree_16 : decode cX6_degree 16 = .ok (.iconst (-1), 1) := by decide +kernel
theorem dX6_degree_17 : decode cX6_degree 17 = .ok (.ireturn, 1) := by decide +kernel
theorem dX6_all_0 : decode cX6_all 0 = .ok (.iconst 1, 1) := by decide +kernel
theorem dX6_all_1 : decode cX6_all 1 = .ok (.aload_n 0, 1) := by decide +kernel
theorem dX6_all_2 : decode cX6_all 2 = .ok (.getfield 7, 3) := by decide +kernel
theorem dX6_all_5 : decode cX6_all 5 = .ok (.ishl, 1) := by decide +kernel
theorem dX6_all_6 : decode cX6_all 6 = .ok (.iconst 1, 1) := by decide +kernel
theorem dX6_all_7 : decode cX6_all 7 = .ok (.isub, 1) := by decide +kernel
theorem dX6_all_8 : decode cX6_all 8 = .ok (.ireturn, 1) := by decide +kernel
set_option maxRecDepth 20000 in
theorem ggX6_isReady_X6_all : GoodIn wsX6_isReady wsX6_all := goodIn_r _ [7, 1, 12, 13, 14, 15, 16, 17, 18, 19, 20, 21, 22, 23] (by decide +kernel) (by decide +kernel)
set_option maxRecDepth 20000 in
theorem gX6_isReady_X6_all : GoodIn wsX6_isReady (wsV RX6 65 RX6 yX6_all wsX6_all) := goodIn_app (goodIn_of _ (by decide +kernel)) ggX6_isReady_X6_all
set_option maxRecDepth 20000 in
theorem ggX6_isReady_X6_degreeOf : GoodIn wsX6_isReady wsX6_degreeOf := goodIn_r _ [11, 2, 12, 13, 14, 15, 16, 17, 18, 19, 20, 21, 22, 23] (by decide +kernel) (by decide +kernel)
set_option maxRecDepth 20000 in
theorem gX6_isReady_X6_degreeOf : GoodIn wsX6_isReady (wsV RX6 62 RX6 yX6_degreeOf wsX6_degreeOf) := goodIn_app (goodIn_of _ (by decide +kernel)) ggX6_isReady_X6_degreeOf
theorem dX6_isReady_0 : decode cX6_isReady 0 = .ok (.iconst 1, 1) := by decide +kernel
theorem dX6_isReady_1 : decode cX6_isReady 1 = .ok (.istore_n 1, 1) := by decide +kernel
theorem dX6_isReady_2 : decode cX6_isReady 2 = .ok (.iconst 0, 1) := by decide +kernel
theorem dX6_isReady_3 : decode cX6_isReady 3 = .ok (.istore_n 2, 1) := by decide +kernel
theorem dX6_isReady_4 : decode cX6_isReady 4 = .ok (.iload_n 2, 1) := by decide +kernel
theorem dX6_isReady_5 : decode cX6_isReady 5 = .ok (.aload_n 0, 1) := by decide +kernel
theorem dX6_isReady_6 : decode cX6_isReady 6 = .ok (.getfield 7, 3) := by decide +kernel
theorem dX6_isReady_9 : decode cX6_isReady 9 = .ok (.if_icmp .ge 64, 3) := by decide +kernel
theorem dX6_isReady_12 : decode cX6_isReady 12 = .ok (.iconst 0, 1) := by decide +kernel
theorem dX6_isReady_13 : decode cX6_isReady 13 = .ok (.istore_n 3, 1) := by decide +kernel
theorem dX6_isReady_14 : decode cX6_isReady 14 = .ok (.iload_n 3, 1) := by decide +kernel
theorem dX6_isReady_15 : decode cX6_isReady 15 = .ok (.iconst 4, 1) := by decide +kernel
theorem dX6_isReady_16 : decode cX6_isReady 16 = .ok (.aload_n 0, 1) := by decide +kernel
theorem dX6_isReady_17 : decode cX6_isReady 17 = .ok (.getfield 7, 3) := by decide +kernel
theorem dX6_isReady_20 : decode cX6_isReady 20 = .ok (.imul, 1) := by decide +kernel
theorem dX6_isReady_21 : decode cX6_isReady 21 = .ok (.if_icmp .ge 46, 3) := by decide +kernel
theorem dX6_isReady_24 : decode cX6_isReady 24 = .ok (.iload_n 1, 1) := by decide +kernel
theorem dX6_isReady_25 : decode cX6_isReady 25 = .ok (.iload_n 1, 1) := by decide +kernel
theorem dX6_isReady_26 : decode cX6_isReady 26 = .ok (.iload_n 3, 1) := by decide +kernel
theorem dX6_isReady_27 : decode cX6_isReady 27 = .ok (.iconst 4, 1) := by decide +kernel
theorem dX6_isReady_28 : decode cX6_isReady 28 = .ok (.idiv, 1) := by decide +kernel
theorem dX6_isReady_29 : decode cX6_isReady 29 = .ok (.ishr, 1) := by decide +kernel
theorem dX6_isReady_30 : decode cX6_isReady 30 = .ok (.iconst 1, 1) := by decide +kernel
theorem dX6_isReady_31 : decode cX6_isReady 31 = .ok (.iand, 1) := by decide +kernel
theorem dX6_isReady_32 : decode cX6_isReady 32 = .ok (.iconst 1, 1) := by decide +kernel
theorem dX6_isReady_33 : decode cX6_isReady 33 = .ok (.if_icmp .ne 25, 3) := by decide +kernel
theorem dX6_isReady_36 : decode cX6_isReady 36 = .ok (.aload_n 0, 1) := by decide +kernel
theorem dX6_isReady_37 : decode cX6_isReady 37 = .ok (.getfield 13, 3) := by decide +kernel
theorem dX6_isReady_40 : decode cX6_isReady 40 = .ok (.iload_n 3, 1) := by decide +kernel
theorem dX6_isReady_41 : decode cX6_isReady 41 = .ok (.iaload, 1) := by decide +kernel
theorem dX6_isReady_42 : decode cX6_isReady 42 = .ok (.ifCond .lt 16, 3) := by decide +kernel
theorem dX6_isReady_45 : decode cX6_isReady 45 = .ok (.iconst 1, 1) := by decide +kernel
theorem dX6_isReady_46 : decode cX6_isReady 46 = .ok (.aload_n 0, 1) := by decide +kernel
theorem dX6_isReady_47 : decode cX6_isReady 47 = .ok (.getfield 13, 3) := by decide +kernel
theorem dX6_isReady_50 : decode cX6_isReady 50 = .ok (.iload_n 3, 1) := by decide +kernel
theorem dX6_isReady_51 : decode cX6_isReady 51 = .ok (.iaload, 1) := by decide +kernel
theorem dX6_isReady_52 : decode cX6_isReady 52 = .ok (.iconst 4, 1) := by decide +kernel
theorem dX6_isReady_53 : decode cX6_isReady 53 = .ok (.idiv, 1) := by decide +kernel
theorem dX6_isReady_54 : decode cX6_isReady 54 = .ok (.ishl, 1) := by decide +kernel
theorem dX6_isReady_55 : decode cX6_isReady 55 = .ok (.goto 4, 3) := by decide +kernel
theorem dX6_isReady_58 : decode cX6_isReady 58 = .ok (.iconst 0, 1) := by decide +kernel
theorem dX6_isReady_59 : decode cX6_isReady 59 = .ok (.ior, 1) := by decide +kernel
theorem dX6_isReady_60 : decode cX6_isReady 60 = .ok (.istore_n 1, 1) := by decide +kernel
theorem dX6_isReady_61 : decode cX6_isReady 61 = .ok (.iinc 3 1, 3) := by decide +kernel
theorem dX6_isReady_64 : decode cX6_isReady 64 = .ok (.goto (-50), 3) := by decide +kernel
theorem dX6_isReady_67 : decode cX6_isReady 67 = .ok (.iinc 2 1, 3) := by decide +kernel
theorem dX6_isReady_70 : decode cX6_isReady 70 = .ok (.goto (-66), 3) := by decide +kernel
theorem dX6_isReady_73 : decode cX6_isReady 73 = .ok (.iload_n 1, 1) := by decide +kernel
theorem dX6_isReady_74 : decode cX6_isReady 74 = .ok (.aload_n 0, 1) := by decide +kernel
theorem dX6_isReady_75 : decode cX6_isReady 75 = .ok (.invokevirtual 65, 3) := by decide +kernel
theorem dX6_isReady_78 : decode cX6_isReady 78 = .ok (.if_icmp .ne 7, 3) := by decide +kernel
theorem dX6_isReady_81 : decode cX6_isReady 81 = .ok (.iconst 1, 1) := by decide +kernel
theorem dX6_isReady_82 : decode cX6_isReady 82 = .ok (.goto 4, 3) := by decide +kernel
theorem dX6_isReady_85 : decode cX6_isReady 85 = .ok (.iconst 0, 1) := by decide +kernel
theorem dX6_isReady_86 : decode cX6_isReady 86 = .ok (.istore_n 2, 1) := by decide +kernel
theorem dX6_isReady_87 : decode cX6_isReady 87 = .ok (.iconst 0, 1) := by decide +kernel
theorem dX6_isReady_88 : decode cX6_isReady 88 = .ok (.istore_n 3, 1) := by decide +kernel
theorem dX6_isReady_89 : decode cX6_isReady 89 = .ok (.iload_n 3, 1) := by decide +kernel
theorem dX6_isReady_90 : decode cX6_isReady 90 = .ok (.aload_n 0, 1) := by decide +kernel
theorem dX6_isReady_91 : decode cX6_isReady 91 = .ok (.getfield 7, 3) := by decide +kernel
theorem dX6_isReady_94 : decode cX6_isReady 94 = .ok (.if_icmp .ge 79, 3) := by decide +kernel
theorem dX6_isReady_97 : decode cX6_isReady 97 = .ok (.aload_n 0, 1) := by decide +kernel
theorem dX6_isReady_98 : decode cX6_isReady 98 = .ok (.iload_n 3, 1) := by decide +kernel
theorem dX6_isReady_99 : decode cX6_isReady 99 = .ok (.invokevirtual 62, 3) := by decide +kernel
theorem dX6_isReady_102 : decode cX6_isReady 102 = .ok (.istore 4, 2) := by decide +kernel
theorem dX6_isReady_104 : decode cX6_isReady 104 = .ok (.iload_n 2, 1) := by decide +kernel
theorem dX6_isReady_105 : decode cX6_isReady 105 = .ok (.ifCond .eq 20, 3) := by decide +kernel
theorem dX6_isReady_108 : decode cX6_isReady 108 = .ok (.iload 4, 2) := by decide +kernel
theorem dX6_isReady_110 : decode cX6_isReady 110 = .ok (.ifCond .gt 11, 3) := by decide +kernel
theorem dX6_isReady_113 : decode cX6_isReady 113 = .ok (.aload_n 0, 1) := by decide +kernel
theorem dX6_isReady_114 : decode cX6_isReady 114 = .ok (.getfield 7, 3) := by decide +kernel
theorem dX6_isReady_117 : decode cX6_isReady 117 = .ok (.iconst 1, 1) := by decide +kernel
theorem dX6_isReady_118 : decode cX6_isReady 118 = .ok (.if_icmp .ne 7, 3) := by decide +kernel
theorem dX6_isReady_121 : decode cX6_isReady 121 = .ok (.iconst 1, 1) := by decide +kernel
theorem dX6_isReady_122 : decode cX6_isReady 122 = .ok (.goto 4, 3) := by decide +kernel
theorem dX6_isReady_125 : decode cX6_isReady 125 = .ok (.iconst 0, 1) := by decide +kernel
theorem dX6_isReady_126 : decode cX6_isReady 126 = .ok (.istore_n 2, 1) := by decide +kernel
theorem dX6_isReady_127 : decode cX6_isReady 127 = .ok (.iconst 0, 1) := by decide +kernel
theorem dX6_isReady_128 : decode cX6_isReady 128 = .ok (.istore 5, 2) := by decide +kernel
theorem dX6_isReady_130 : decode cX6_isReady 130 = .ok (.iload 5, 2) := by decide +kernel
theorem dX6_isReady_132 : decode cX6_isReady 132 = .ok (.iload 4, 2) := by decide +kernel
theorem dX6_isReady_134 : decode cX6_isReady 134 = .ok (.if_icmp .ge 33, 3) := by decide +kernel
theorem dX6_isReady_137 : decode cX6_isReady 137 = .ok (.iload_n 2, 1) := by decide +kernel
theorem dX6_isReady_138 : decode cX6_isReady 138 = .ok (.ifCond .eq 21, 3) := by decide +kernel
theorem dX6_isReady_141 : decode cX6_isReady 141 = .ok (.aload_n 0, 1) := by decide +kernel
theorem dX6_isReady_142 : decode cX6_isReady 142 = .ok (.getfield 13, 3) := by decide +kernel
theorem dX6_isReady_145 : decode cX6_isReady 145 = .ok (.iconst 4, 1) := by decide +kernel
theorem dX6_isReady_146 : decode cX6_isReady 146 = .ok (.iload_n 3, 1) := by decide +kernel
theorem dX6_isReady_147 : decode cX6_isReady 147 = .ok (.imul, 1) := by decide +kernel
theorem dX6_isReady_148 : decode cX6_isReady 148 = .ok (.iload 5, 2) := by decide +kernel
theorem dX6_isReady_150 : decode cX6_isReady 150 = .ok (.iadd, 1) := by decide +kernel
theorem dX6_isReady_151 : decode cX6_isReady 151 = .ok (.iaload, 1) := by decide +kernel
theorem dX6_isReady_152 : decode cX6_isReady 152 = .ok (.ifCond .lt 7, 3) := by decide +kernel
theorem dX6_isReady_155 : decode cX6_isReady 155 = .ok (.iconst 1, 1) := by decide +kernel
theorem dX6_isReady_156 : decode cX6_isReady 156 = .ok (.goto 4, 3) := by decide +kernel
theorem dX6_isReady_159 : decode cX6_isReady 159 = .ok (.iconst 0, 1) := by decide +kernel
theorem dX6_isReady_160 : decode cX6_isReady 160 = .ok (.istore_n 2, 1) := by decide +kernel
theorem dX6_isReady_161 : decode cX6_isReady 161 = .ok (.iinc 5 1, 3) := by decide +kernel
theorem dX6_isReady_164 : decode cX6_isReady 164 = .ok (.goto (-34), 3) := by decide +kernel
theorem dX6_isReady_167 : decode cX6_isReady 167 = .ok (.iinc 3 1, 3) := by decide +kernel
theorem dX6_isReady_170 : decode cX6_isReady 170 = .ok (.goto (-81), 3) := by decide +kernel
theorem dX6_isReady_173 : decode cX6_isReady 173 = .ok (.iload_n 2, 1) := by decide +kernel
theorem dX6_isReady_174 : decode cX6_isReady 174 = .ok (.ireturn, 1) := by decide +kernel
set_option maxRecDepth 20000 in
theorem ggX6_ready_X6_isReady : GoodIn wsX6_ready wsX6_isReady := goodIn_r _ [5, 6, 7, 8, 9, 10, 4, 11, 12, 13, 14, 15, 16, 17, 18, 19, 20, 21, 22, 23, 24, 25, 26, 27] (by decide +kernel) (by decide +kernel)
set_option maxRecDepth 20000 in
theorem gX6_ready_X6_isReady : GoodIn wsX6_ready (wsV RX6 68 RX6 yX6_isReady wsX6_isReady) := goodIn_app (goodIn_of _ (by decide +kernel)) ggX6_ready_X6_isReady
theorem dX6_ready_0 : decode cX6_ready 0 = .ok (.aload_n 0, 1) := by decide +kernel
theorem dX6_ready_1 : decode cX6_ready 1 = .ok (.invokevirtual 68, 3) := by decide +kernel
theorem dX6_ready_4 : decode cX6_ready 4 = .ok (.ifCond .eq 7, 3) := by decide +kernel
theorem dX6_ready_7 : decode cX6_ready 7 = .ok (.iconst 1, 1) := by decide +kernel
theorem dX6_ready_8 : decode cX6_ready 8 = .ok (.goto 4, 3) := by decide +kernel
theorem dX6_ready_11 : decode cX6_ready 11 = .ok (.iconst 0, 1) := by decide +kernel
theorem dX6_ready_12 : decode cX6_ready 12 = .ok (.ireturn, 1) := by decide +kernel
set_option maxRecDepth 20000 in
theorem ggX6_add_X6_in : GoodIn wsX6_add wsX6_in := goodIn_r _ [6] (by decide +kernel) (by decide +kernel)
set_option maxRecDepth 20000 in
theorem gX6_add_X6_in : GoodIn wsX6_add (va_wsS RX6 42 yX6_in wsX6_in) := goodIn_app (goodIn_of _ (by decide +kernel)) ggX6_add_X6_in
theorem dX6_add_0 : decode cX6_add 0 = .ok (.iload_n 1, 1) := by decide +kernel
theorem dX6_add_1 : decode cX6_add 1 = .ok (.iconst 0, 1) := by decide +kernel
theorem dX6_add_2 : decode cX6_add 2 = .ok (.iconst 1, 1) := by decide +kernel
theorem dX6_add_3 : decode cX6_add 3 = .ok (.invokestatic 42, 3) := by decide +kernel
theorem dX6_add_6 : decode cX6_add 6 = .ok (.ifCond .eq 13, 3) := by decide +kernel
theorem dX6_add_9 : decode cX6_add 9 = .ok (.iload_n 2, 1) := by decide +kernel
theorem dX6_add_10 : decode cX6_add 10 = .ok (.iconst 0, 1) := by decide +kernel
theorem dX6_add_11 : decode cX6_add 11 = .ok (.bipush 9, 2) := by decide +kernel
theorem dX6_add_13 : decode cX6_add 13 = .ok (.invokestatic 42, 3) := by decide +kernel
theorem dX6_add_16 : decode cX6_add 16 = .ok (.ifCond .ne 6, 3) := by decide +kernel
theorem dX6_add_19 : decode cX6_add 19 = .ok (.bipush (-2), 2) := by decide +kernel
theorem dX6_add_21 : decode cX6_add 21 = .ok (.ireturn, 1) := by decide +kernel
theorem dX6_add_22 : decode cX6_add 22 = .ok (.aload_n 0, 1) := by decide +kernel
theorem dX6_add_23 : decode cX6_add 23 = .ok (.getfield 21, 3) := by decide +kernel
theorem dX6_add_26 : decode cX6_add 26 = .ok (.iload_n 1, 1) := by decide +kernel
theorem dX6_add_27 : decode cX6_add 27 = .ok (.iaload, 1) := by decide +kernel
theorem dX6_add_28 : decode cX6_add 28 = .ok (.bipush 40, 2) := by decide +kernel
theorem dX6_add_30 : decode cX6_add 30 = .ok (.if_icmp .ne 6, 3) := by decide +kernel
theorem dX6_add_33 : decode cX6_add 33 = .ok (.bipush (-4), 2) := by decide +kernel
theorem dX6_add_35 : decode cX6_add 35 = .ok (.ireturn, 1) := by decide +kernel
theorem dX6_add_36 : decode cX6_add 36 = .ok (.aload_n 0, 1) := by decide +kernel
theorem dX6_add_37 : decode cX6_add 37 = .ok (.getfield 24, 3) := by decide +kernel
theorem dX6_add_40 : decode cX6_add 40 = .ok (.bipush 40, 2) := by decide +kernel
theorem dX6_add_42 : decode cX6_add 42 = .ok (.iload_n 1, 1) := by decide +kernel
theorem dX6_add_43 : decode cX6_add 43 = .ok (.imul, 1) := by decide +kernel
theorem dX6_add_44 : decode cX6_add 44 = .ok (.aload_n 0, 1) := by decide +kernel
theorem dX6_add_45 : decode cX6_add 45 = .ok (.getfield 21, 3) := by decide +kernel
theorem dX6_add_48 : decode cX6_add 48 = .ok (.iload_n 1, 1) := by decide +kernel
theorem dX6_add_49 : decode cX6_add 49 = .ok (.iaload, 1) := by decide +kernel
theorem dX6_add_50 : decode cX6_add 50 = .ok (.iadd, 1) := by decide +kernel
theorem dX6_add_51 : decode cX6_add 51 = .ok (.iload_n 2, 1) := by decide +kernel
theorem dX6_add_52 : decode cX6_add 52 = .ok (.iastore, 1) := by decide +kernel
theorem dX6_add_53 : decode cX6_add 53 = .ok (.aload_n 0, 1) := by decide +kernel
theorem dX6_add_54 : decode cX6_add 54 = .ok (.getfield 21, 3) := by decide +kernel
theorem dX6_add_57 : decode cX6_add 57 = .ok (.iload_n 1, 1) := by decide +kernel
theorem dX6_add_58 : decode cX6_add 58 = .ok (.dup2, 1) := by decide +kernel
theorem dX6_add_59 : decode cX6_add 59 = .ok (.iaload, 1) := by decide +kernel
theorem dX6_add_60 : decode cX6_add 60 = .ok (.iconst 1, 1) := by decide +kernel
theorem dX6_add_61 : decode cX6_add 61 = .ok (.iadd, 1) := by decide +kernel
theorem dX6_add_62 : decode cX6_add 62 = .ok (.iastore, 1) := by decide +kernel
theorem dX6_add_63 : decode cX6_add 63 = .ok (.aload_n 0, 1) := by decide +kernel
theorem dX6_add_64 : decode cX6_add 64 = .ok (.getfield 21, 3) := by decide +kernel
theorem dX6_add_67 : decode cX6_add 67 = .ok (.iload_n 1, 1) := by decide +kernel
theorem dX6_add_68 : decode cX6_add 68 = .ok (.iaload, 1) := by decide +kernel
theorem dX6_add_69 : decode cX6_add 69 = .ok (.ireturn, 1) := by decide +kernel
set_option maxRecDepth 20000 in
theorem ggX6_clear_X6_in : GoodIn wsX6_clear wsX6_in := goodIn_r _ [5] (by decide +kernel) (by decide +kernel)
set_option maxRecDepth 20000 in
theorem gX6_clear_X6_in : GoodIn wsX6_clear (va_wsS RX6 42 yX6_in wsX6_in) := goodIn_app (goodIn_of _ (by decide +kernel)) ggX6_clear_X6_in
theorem dX6_clear_0 : decode cX6_clear 0 = .ok (.iload_n 1, 1) := by decide +kernel
theorem dX6_clear_1 : decode cX6_clear 1 = .ok (.iconst 0, 1) := by decide +kernel
theorem dX6_clear_2 : decode cX6_clear 2 = .ok (.iconst 1, 1) := by decide +kernel
theorem dX6_clear_3 : decode cX6_clear 3 = .ok (.invokestatic 42, 3) := by decide +kernel
theorem dX6_clear_6 : decode cX6_clear 6 = .ok (.ifCond .ne 6, 3) := by decide +kernel
theorem dX6_clear_9 : decode cX6_clear 9 = .ok (.bipush (-2), 2) := by decide +kernel
theorem dX6_clear_11 : decode cX6_clear 11 = .ok (.ireturn, 1) := by decide +kernel
theorem dX6_clear_12 : decode cX6_clear 12 = .ok (.aload_n 0, 1) := by decide +kernel
theorem dX6_clear_13 : decode cX6_clear 13 = .ok (.getfield 21, 3) := by decide +kernel
theorem dX6_clear_16 : decode cX6_clear 16 = .ok (.iload_n 1, 1) := by decide +kernel
theorem dX6_clear_17 : decode cX6_clear 17 = .ok (.iaload, 1) := by decide +kernel
theorem dX6_clear_18 : decode cX6_clear 18 = .ok (.istore_n 2, 1) := by decide +kernel
theorem dX6_clear_19 : decode cX6_clear 19 = .ok (.aload_n 0, 1) := by decide +kernel
theorem dX6_clear_20 : decode cX6_clear 20 = .ok (.getfield 21, 3) := by decide +kernel
theorem dX6_clear_23 : decode cX6_clear 23 = .ok (.iload_n 1, 1) := by decide +kernel
theorem dX6_clear_24 : decode cX6_clear 24 = .ok (.iconst 0, 1) := by decide +kernel
theorem dX6_clear_25 : decode cX6_clear 25 = .ok (.iastore, 1) := by decide +kernel
theorem dX6_clear_26 : decode cX6_clear 26 = .ok (.iload_n 2, 1) := by decide +kernel
theorem dX6_clear_27 : decode cX6_clear 27 = .ok (.ireturn, 1) := by decide +kernel
theorem dX6_go_0 : decode cX6_go 0 = .ok (.iconst 4, 1) := by decide +kernel
theorem dX6_go_1 : decode cX6_go 1 = .ok (.aload_n 0, 1) := by decide +kernel
theorem dX6_go_2 : decode cX6_go 2 = .ok (.getfield 72, 3) := by decide +kernel
theorem dX6_go_5 : decode cX6_go 5 = .ok (.imul, 1) := by decide +kernel
theorem dX6_go_6 : decode cX6_go 6 = .ok (.iload_n 1, 1) := by decide +kernel
theorem dX6_go_7 : decode cX6_go 7 = .ok (.iadd, 1) := by decide +kernel
theorem dX6_go_8 : decode cX6_go 8 = .ok (.istore_n 2, 1) := by decide +kernel
theorem dX6_go_9 : decode cX6_go 9 = .ok (.aload_n 0, 1) := by decide +kernel
theorem dX6_go_10 : decode cX6_go 10 = .ok (.getfield 17, 3) := by decide +kernel
theorem dX6_go_13 : decode cX6_go 13 = .ok (.iload_n 2, 1) := by decide +kernel
theorem dX6_go_14 : decode cX6_go 14 = .ok (.baload, 1) := by decide +kernel
theorem dX6_go_15 : decode cX6_go 15 = .ok (.ifCond .eq 7, 3) := by decide +kernel
theorem dX6_go_18 : decode cX6_go 18 = .ok (.iload_n 2, 1) := by decide +kernel
theorem dX6_go_19 : decode cX6_go 19 = .ok (.goto 9, 3) := by decide +kernel
theorem dX6_go_22 : decode cX6_go 22 = .ok (.aload_n 0, 1) := by decide +kernel
theorem dX6_go_23 : decode cX6_go 23 = .ok (.getfield 13, 3) := by decide +kernel
theorem dX6_go_26 : decode cX6_go 26 = .ok (.iload_n 2, 1) := by decide +kernel
theorem dX6_go_27 : decode cX6_go 27 = .ok (.iaload, 1) := by decide +kernel
theorem dX6_go_28 : decode cX6_go 28 = .ok (.istore_n 3, 1) := by decide +kernel
theorem dX6_go_29 : decode cX6_go 29 = .ok (.aload_n 0, 1) := by decide +kernel
theorem dX6_go_30 : decode cX6_go 30 = .ok (.iload_n 3, 1) := by decide +kernel
theorem dX6_go_31 : decode cX6_go 31 = .ok (.iconst 4, 1) := by decide +kernel
theorem dX6_go_32 : decode cX6_go 32 = .ok (.idiv, 1) := by decide +kernel
theorem dX6_go_33 : decode cX6_go 33 = .ok (.putfield 72, 3) := by decide +kernel
theorem dX6_go_36 : decode cX6_go 36 = .ok (.aload_n 0, 1) := by decide +kernel
theorem dX6_go_37 : decode cX6_go 37 = .ok (.iload_n 3, 1) := by decide +kernel
theorem dX6_go_38 : decode cX6_go 38 = .ok (.iconst 4, 1) := by decide +kernel
theorem dX6_go_39 : decode cX6_go 39 = .ok (.irem, 1) := by decide +kernel
theorem dX6_go_40 : decode cX6_go 40 = .ok (.putfield 75, 3) := by decide +kernel
theorem dX6_go_43 : decode cX6_go 43 = .ok (.return_, 1) := by decide +kernel
set_option maxRecDepth 20000 in
theorem ggX6_step_X6_degreeOf : GoodIn wsX6_step wsX6_degreeOf := goodIn_r _ [7, 8, 14, 15, 16, 17, 18, 19, 20, 21, 22, 23, 24, 25] (by decide +kernel) (by decide +kernel)
set_option maxRecDepth 20000 in
theorem gX6_step_X6_degreeOf : GoodIn wsX6_step (wsV RX6 62 RX6 yX6_degreeOf wsX6_degreeOf) := goodIn_app (goodIn_of _ (by decide +kernel)) ggX6_step_X6_degreeOf
set_option maxRecDepth 20000 in
theorem ggX6_step_X6_go : GoodIn wsX6_step wsX6_go := goodIn_r _ [12, 1, 13, 8, 2, 14, 15, 16, 17, 18, 19, 20, 21, 22, 23, 24, 25] (by decide +kernel) (by decide +kernel)
set_option maxRecDepth 20000 in
theorem gX6_step_X6_go : GoodIn wsX6_step (wsV RX6 78 RX6 yX6_go wsX6_go) := goodIn_app (goodIn_of _ (by decide +kernel)) ggX6_step_X6_go
theorem dX6_step_0 : decode cX6_step 0 = .ok (.aload_n 0, 1) := by decide +kernel
theorem dX6_step_1 : decode cX6_step 1 = .ok (.aload_n 0, 1) := by decide +kernel
theorem dX6_step_2 : decode cX6_step 2 = .ok (.getfield 72, 3) := by decide +kernel
theorem dX6_step_5 : decode cX6_step 5 = .ok (.invokevirtual 62, 3) := by decide +kernel
theorem dX6_step_8 : decode cX6_step 8 = .ok (.istore_n 3, 1) := by decide +kernel
theorem dX6_step_9 : decode cX6_step 9 = .ok (.iload_n 3, 1) := by decide +kernel
theorem dX6_step_10 : decode cX6_step 10 = .ok (.ifCond .le 23, 3) := by decide +kernel
theorem dX6_step_13 : decode cX6_step 13 = .ok (.aload_n 0, 1) := by decide +kernel
theorem dX6_step_14 : decode cX6_step 14 = .ok (.iload_n 1, 1) := by decide +kernel
theorem dX6_step_15 : decode cX6_step 15 = .ok (.ifCond .ne 12, 3) := by decide +kernel
theorem dX6_step_18 : decode cX6_step 18 = .ok (.aload_n 0, 1) := by decide +kernel
theorem dX6_step_19 : decode cX6_step 19 = .ok (.getfield 75, 3) := by decide +kernel
theorem dX6_step_22 : decode cX6_step 22 = .ok (.iload_n 2, 1) := by decide +kernel
theorem dX6_step_23 : decode cX6_step 23 = .ok (.iadd, 1) := by decide +kernel
theorem dX6_step_24 : decode cX6_step 24 = .ok (.goto 4, 3) := by decide +kernel
theorem dX6_step_27 : decode cX6_step 27 = .ok (.iload_n 2, 1) := by decide +kernel
theorem dX6_step_28 : decode cX6_step 28 = .ok (.iload_n 3, 1) := by decide +kernel
theorem dX6_step_29 : decode cX6_step 29 = .ok (.irem, 1) := by decide +kernel
theorem dX6_step_30 : decode cX6_step 30 = .ok (.invokevirtual 78, 3) := by decide +kernel
theorem dX6_step_33 : decode cX6_step 33 = .ok (.return_, 1) := by decide +kernel
theorem dX6_place_0 : decode cX6_place 0 = .ok (.aload_n 0, 1) := by decide +kernel
theorem dX6_place_1 : decode cX6_place 1 = .ok (.iload_n 1, 1) := by decide +kernel
theorem dX6_place_2 : decode cX6_place 2 = .ok (.putfield 72, 3) := by decide +kernel
theorem dX6_place_5 : decode cX6_place 5 = .ok (.aload_n 0, 1) := by decide +kernel
theorem dX6_place_6 : decode cX6_place 6 = .ok (.iconst 0, 1) := by decide +kernel
theorem dX6_place_7 : decode cX6_place 7 = .ok (.putfield 75, 3) := by decide +kernel
theorem dX6_place_10 : decode cX6_place 10 = .ok (.return_, 1) := by decide +kernel
set_option maxRecDepth 20000 in
theorem ggX6_after_X6_isPost : GoodIn wsX6_after wsX6_isPost := goodIn_r _ [8, 9, 10, 11, 7, 12, 40, 41, 42, 43, 44, 45, 46, 47, 48, 49, 50, 51] (by decide +kernel) (by decide +kernel)
set_option maxRecDepth 20000 in
theorem gX6_after_X6_isPost : GoodIn wsX6_after (wsV RX6 46 RX6 yX6_isPost wsX6_isPost) := goodIn_app (goodIn_of _ (by decide +kernel)) ggX6_after_X6_isPost
set_option maxRecDepth 20000 in
theorem ggX6_after_X6_in : GoodIn wsX6_after wsX6_in := goodIn_r _ [12] (by decide +kernel) (by decide +kernel)
set_option maxRecDepth 20000 in
theorem gX6_after_X6_in : GoodIn wsX6_after (va_wsS RX6 42 yX6_in wsX6_in) := goodIn_app (goodIn_of _ (by decide +kernel)) ggX6_after_X6_in
set_option maxRecDepth 20000 in
theorem ggX6_after_X6_isReady : GoodIn wsX6_after wsX6_isReady := goodIn_r _ [16, 9, 17, 18, 19, 20, 7, 21, 22, 23, 24, 25, 40, 41, 42, 43, 44, 45, 46, 47, 48, 49, 50, 51] (by decide +kernel) (by decide +kernel)
set_option maxRecDepth 20000 in
theorem gX6_after_X6_isReady : GoodIn wsX6_after (wsV RX6 68 RX6 yX6_isReady wsX6_isReady) := goodIn_app (goodIn_of _ (by decide +kernel)) ggX6_after_X6_isReady
set_option maxRecDepth 20000 in
theorem ggX6_after_X6_place : GoodIn wsX6_after wsX6_place := goodIn_r _ [29, 3, 30, 40, 41, 42, 43, 44, 45, 46, 47, 48, 49, 50, 51] (by decide +kernel) (by decide +kernel)
set_option maxRecDepth 20000 in
theorem gX6_after_X6_place : GoodIn wsX6_after (wsV RX6 82 RX6 yX6_place wsX6_place) := goodIn_app (goodIn_of _ (by decide +kernel)) ggX6_after_X6_place
set_option maxRecDepth 20000 in
theorem ggX6_after_X6_step : GoodIn wsX6_after wsX6_step := goodIn_r _ [34, 3, 30, 22, 23, 24, 7, 25, 17, 35, 36, 37, 38, 39, 40, 41, 42, 43, 44, 45, 46, 47, 48, 49, 50, 51] (by decide +kernel) (by decide +kernel)
set_option maxRecDepth 20000 in
theorem gX6_after_X6_step : GoodIn wsX6_after (wsV RX6 85 RX6 yX6_step wsX6_step) := goodIn_app (goodIn_of _ (by decide +kernel)) ggX6_after_X6_step
theorem dX6_after_0 : decode cX6_after 0 = .ok (.aload_n 0, 1) := by decide +kernel
theorem dX6_after_1 : decode cX6_after 1 = .ok (.iload_n 1, 1) := by decide +kernel
theorem dX6_after_2 : decode cX6_after 2 = .ok (.invokevirtual 46, 3) := by decide +kernel
theorem dX6_after_5 : decode cX6_after 5 = .ok (.ifCond .ne 5, 3) := by decide +kernel
theorem dX6_after_8 : decode cX6_after 8 = .ok (.iconst (-1), 1) := by decide +kernel
theorem dX6_after_9 : decode cX6_after 9 = .ok (.ireturn, 1) := by decide +kernel
theorem dX6_after_10 : decode cX6_after 10 = .ok (.iload_n 2, 1) := by decide +kernel
theorem dX6_after_11 : decode cX6_after 11 = .ok (.iconst 0, 1) := by decide +kernel
theorem dX6_after_12 : decode cX6_after 12 = .ok (.iconst 1, 1) := by decide +kernel
theorem dX6_after_13 : decode cX6_after 13 = .ok (.invokestatic 42, 3) := by decide +kernel
theorem dX6_after_16 : decode cX6_after 16 = .ok (.ifCond .eq 17, 3) := by decide +kernel
theorem dX6_after_19 : decode cX6_after 19 = .ok (.iload_n 3, 1) := by decide +kernel
theorem dX6_after_20 : decode cX6_after 20 = .ok (.iconst 0, 1) := by decide +kernel
theorem dX6_after_21 : decode cX6_after 21 = .ok (.aload_n 0, 1) := by decide +kernel
theorem dX6_after_22 : decode cX6_after 22 = .ok (.getfield 21, 3) := by decide +kernel
theorem dX6_after_25 : decode cX6_after 25 = .ok (.iconst 0, 1) := by decide +kernel
theorem dX6_after_26 : decode cX6_after 26 = .ok (.iaload, 1) := by decide +kernel
theorem dX6_after_27 : decode cX6_after 27 = .ok (.invokestatic 42, 3) := by decide +kernel
theorem dX6_after_30 : decode cX6_after 30 = .ok (.ifCond .ne 6, 3) := by decide +kernel
theorem dX6_after_33 : decode cX6_after 33 = .ok (.bipush (-2), 2) := by decide +kernel
theorem dX6_after_35 : decode cX6_after 35 = .ok (.ireturn, 1) := by decide +kernel
theorem dX6_after_36 : decode cX6_after 36 = .ok (.aload_n 0, 1) := by decide +kernel
theorem dX6_after_37 : decode cX6_after 37 = .ok (.invokevirtual 68, 3) := by decide +kernel
theorem dX6_after_40 : decode cX6_after 40 = .ok (.ifCond .ne 6, 3) := by decide +kernel
theorem dX6_after_43 : decode cX6_after 43 = .ok (.bipush (-3), 2) := by decide +kernel
theorem dX6_after_45 : decode cX6_after 45 = .ok (.ireturn, 1) := by decide +kernel
theorem dX6_after_46 : decode cX6_after 46 = .ok (.aload_n 0, 1) := by decide +kernel
theorem dX6_after_47 : decode cX6_after 47 = .ok (.iload_n 1, 1) := by decide +kernel
theorem dX6_after_48 : decode cX6_after 48 = .ok (.invokevirtual 82, 3) := by decide +kernel
theorem dX6_after_51 : decode cX6_after 51 = .ok (.iconst 0, 1) := by decide +kernel
theorem dX6_after_52 : decode cX6_after 52 = .ok (.istore 4, 2) := by decide +kernel
theorem dX6_after_54 : decode cX6_after 54 = .ok (.iload 4, 2) := by decide +kernel
theorem dX6_after_56 : decode cX6_after 56 = .ok (.iload_n 3, 1) := by decide +kernel
theorem dX6_after_57 : decode cX6_after 57 = .ok (.if_icmp .ge 21, 3) := by decide +kernel
theorem dX6_after_60 : decode cX6_after 60 = .ok (.aload_n 0, 1) := by decide +kernel
theorem dX6_after_61 : decode cX6_after 61 = .ok (.iload_n 2, 1) := by decide +kernel
theorem dX6_after_62 : decode cX6_after 62 = .ok (.aload_n 0, 1) := by decide +kernel
theorem dX6_after_63 : decode cX6_after 63 = .ok (.getfield 24, 3) := by decide +kernel
theorem dX6_after_66 : decode cX6_after 66 = .ok (.iload 4, 2) := by decide +kernel
theorem dX6_after_68 : decode cX6_after 68 = .ok (.iaload, 1) := by decide +kernel
theorem dX6_after_69 : decode cX6_after 69 = .ok (.invokevirtual 85, 3) := by decide +kernel
theorem dX6_after_72 : decode cX6_after 72 = .ok (.iinc 4 1, 3) := by decide +kernel
theorem dX6_after_75 : decode cX6_after 75 = .ok (.goto (-21), 3) := by decide +kernel
theorem dX6_after_78 : decode cX6_after 78 = .ok (.aload_n 0, 1) := by decide +kernel
theorem dX6_after_79 : decode cX6_after 79 = .ok (.getfield 72, 3) := by decide +kernel
theorem dX6_after_82 : decode cX6_after 82 = .ok (.ireturn, 1) := by decide +kernel
set_option maxRecDepth 20000 in
theorem ggX6_walkOf_X6_place : GoodIn wsX6_walkOf wsX6_place := goodIn_r _ [8, 3, 9, 29, 30, 31, 32, 33, 34, 35, 36, 37, 38, 39, 40] (by decide +kernel) (by decide +kernel)
set_option maxRecDepth 20000 in
theorem gX6_walkOf_X6_place : GoodIn wsX6_walkOf (wsV RX6 82 RX6 yX6_place wsX6_place) := goodIn_app (goodIn_of _ (by decide +kernel)) ggX6_walkOf_X6_place
set_option maxRecDepth 20000 in
theorem ggX6_walkOf_X6_all : GoodIn wsX6_walkOf wsX6_all := goodIn_r _ [13, 14, 29, 30, 31, 32, 33, 34, 35, 36, 37, 38, 39, 40] (by decide +kernel) (by decide +kernel)
set_option maxRecDepth 20000 in
theorem gX6_walkOf_X6_all : GoodIn wsX6_walkOf (wsV RX6 65 RX6 yX6_all wsX6_all) := goodIn_app (goodIn_of _ (by decide +kernel)) ggX6_walkOf_X6_all
set_option maxRecDepth 20000 in
theorem ggX6_walkOf_X6_step : GoodIn wsX6_walkOf wsX6_step := goodIn_r _ [18, 3, 9, 19, 20, 21, 7, 22, 23, 24, 25, 26, 27, 28, 29, 30, 31, 32, 33, 34, 35, 36, 37, 38, 39, 40] (by decide +kernel) (by decide +kernel)
set_option maxRecDepth 20000 in
theorem gX6_walkOf_X6_step : GoodIn wsX6_walkOf (wsV RX6 85 RX6 yX6_step wsX6_step) := goodIn_app (goodIn_of _ (by decide +kernel)) ggX6_walkOf_X6_step
theorem dX6_walkOf_0 : decode cX6_walkOf 0 = .ok (.aload_n 0, 1) := by decide +kernel
theorem dX6_walkOf_1 : decode cX6_walkOf 1 = .ok (.iload_n 1, 1) := by decide +kernel
theorem dX6_walkOf_2 : decode cX6_walkOf 2 = .ok (.invokevirtual 82, 3) := by decide +kernel
theorem dX6_walkOf_5 : decode cX6_walkOf 5 = .ok (.iconst 1, 1) := by decide +kernel
theorem dX6_walkOf_6 : decode cX6_walkOf 6 = .ok (.iload_n 1, 1) := by decide +kernel
theorem dX6_walkOf_7 : decode cX6_walkOf 7 = .ok (.ishl, 1) := by decide +kernel
theorem dX6_walkOf_8 : decode cX6_walkOf 8 = .ok (.istore_n 3, 1) := by decide +kernel
theorem dX6_walkOf_9 : decode cX6_walkOf 9 = .ok (.iconst 0, 1) := by decide +kernel
theorem dX6_walkOf_10 : decode cX6_walkOf 10 = .ok (.istore 4, 2) := by decide +kernel
theorem dX6_walkOf_12 : decode cX6_walkOf 12 = .ok (.iload 4, 2) := by decide +kernel
theorem dX6_walkOf_14 : decode cX6_walkOf 14 = .ok (.aload_n 0, 1) := by decide +kernel
theorem dX6_walkOf_15 : decode cX6_walkOf 15 = .ok (.getfield 21, 3) := by decide +kernel
theorem dX6_walkOf_18 : decode cX6_walkOf 18 = .ok (.iconst 0, 1) := by decide +kernel
theorem dX6_walkOf_19 : decode cX6_walkOf 19 = .ok (.iaload, 1) := by decide +kernel
theorem dX6_walkOf_20 : decode cX6_walkOf 20 = .ok (.if_icmp .gt 52, 3) := by decide +kernel
theorem dX6_walkOf_23 : decode cX6_walkOf 23 = .ok (.iload_n 3, 1) := by decide +kernel
theorem dX6_walkOf_24 : decode cX6_walkOf 24 = .ok (.aload_n 0, 1) := by decide +kernel
theorem dX6_walkOf_25 : decode cX6_walkOf 25 = .ok (.invokevirtual 65, 3) := by decide +kernel
theorem dX6_walkOf_28 : decode cX6_walkOf 28 = .ok (.if_icmp .ne 6, 3) := by decide +kernel
theorem dX6_walkOf_31 : decode cX6_walkOf 31 = .ok (.iload 4, 2) := by decide +kernel
theorem dX6_walkOf_33 : decode cX6_walkOf 33 = .ok (.ireturn, 1) := by decide +kernel
theorem dX6_walkOf_34 : decode cX6_walkOf 34 = .ok (.iload 4, 2) := by decide +kernel
theorem dX6_walkOf_36 : decode cX6_walkOf 36 = .ok (.aload_n 0, 1) := by decide +kernel
theorem dX6_walkOf_37 : decode cX6_walkOf 37 = .ok (.getfield 21, 3) := by decide +kernel
theorem dX6_walkOf_40 : decode cX6_walkOf 40 = .ok (.iconst 0, 1) := by decide +kernel
theorem dX6_walkOf_41 : decode cX6_walkOf 41 = .ok (.iaload, 1) := by decide +kernel
theorem dX6_walkOf_42 : decode cX6_walkOf 42 = .ok (.if_icmp .ge 24, 3) := by decide +kernel
theorem dX6_walkOf_45 : decode cX6_walkOf 45 = .ok (.aload_n 0, 1) := by decide +kernel
theorem dX6_walkOf_46 : decode cX6_walkOf 46 = .ok (.iload_n 2, 1) := by decide +kernel
theorem dX6_walkOf_47 : decode cX6_walkOf 47 = .ok (.aload_n 0, 1) := by decide +kernel
theorem dX6_walkOf_48 : decode cX6_walkOf 48 = .ok (.getfield 24, 3) := by decide +kernel
theorem dX6_walkOf_51 : decode cX6_walkOf 51 = .ok (.iload 4, 2) := by decide +kernel
theorem dX6_walkOf_53 : decode cX6_walkOf 53 = .ok (.iaload, 1) := by decide +kernel
theorem dX6_walkOf_54 : decode cX6_walkOf 54 = .ok (.invokevirtual 85, 3) := by decide +kernel
theorem dX6_walkOf_57 : decode cX6_walkOf 57 = .ok (.iload_n 3, 1) := by decide +kernel
theorem dX6_walkOf_58 : decode cX6_walkOf 58 = .ok (.iconst 1, 1) := by decide +kernel
theorem dX6_walkOf_59 : decode cX6_walkOf 59 = .ok (.aload_n 0, 1) := by decide +kernel
theorem dX6_walkOf_60 : decode cX6_walkOf 60 = .ok (.getfield 72, 3) := by decide +kernel
theorem dX6_walkOf_63 : decode cX6_walkOf 63 = .ok (.ishl, 1) := by decide +kernel
theorem dX6_walkOf_64 : decode cX6_walkOf 64 = .ok (.ior, 1) := by decide +kernel
theorem dX6_walkOf_65 : decode cX6_walkOf 65 = .ok (.istore_n 3, 1) := by decide +kernel
theorem dX6_walkOf_66 : decode cX6_walkOf 66 = .ok (.iinc 4 1, 3) := by decide +kernel
theorem dX6_walkOf_69 : decode cX6_walkOf 69 = .ok (.goto (-57), 3) := by decide +kernel
theorem dX6_walkOf_72 : decode cX6_walkOf 72 = .ok (.bipush (-6), 2) := by decide +kernel
theorem dX6_walkOf_74 : decode cX6_walkOf 74 = .ok (.ireturn, 1) := by decide +kernel
set_option maxRecDepth 20000 in
theorem ggX6_walks_X6_isPost : GoodIn wsX6_walks wsX6_isPost := goodIn_r _ [5, 6, 7, 8, 4, 9, 44, 45, 46, 47, 48, 49, 50, 51, 52, 53, 54, 55] (by decide +kernel) (by decide +kernel)
set_option maxRecDepth 20000 in
theorem gX6_walks_X6_isPost : GoodIn wsX6_walks (wsV RX6 46 RX6 yX6_isPost wsX6_isPost) := goodIn_app (goodIn_of _ (by decide +kernel)) ggX6_walks_X6_isPost
set_option maxRecDepth 20000 in
theorem ggX6_walks_X6_in : GoodIn wsX6_walks wsX6_in := goodIn_r _ [9] (by decide +kernel) (by decide +kernel)
set_option maxRecDepth 20000 in
theorem gX6_walks_X6_in : GoodIn wsX6_walks (va_wsS RX6 42 yX6_in wsX6_in) := goodIn_app (goodIn_of _ (by decide +kernel)) ggX6_walks_X6_in
set_option maxRecDepth 20000 in
theorem ggX6_walks_X6_isReady : GoodIn wsX6_walks wsX6_isReady := goodIn_r _ [13, 6, 14, 15, 16, 17, 4, 18, 19, 20, 21, 22, 44, 45, 46, 47, 48, 49, 50, 51, 52, 53, 54, 55] (by decide +kernel) (by decide +kernel)
set_option maxRecDepth 20000 in
theorem gX6_walks_X6_isReady : GoodIn wsX6_walks (wsV RX6 68 RX6 yX6_isReady wsX6_isReady) := goodIn_app (goodIn_of _ (by decide +kernel)) ggX6_walks_X6_isReady
set_option maxRecDepth 20000 in
theorem ggX6_walks_X6_walkOf : GoodIn wsX6_walks wsX6_walkOf := goodIn_r _ [26, 27, 28, 29, 30, 31, 32, 4, 33, 34, 15, 16, 17, 18, 6, 35, 36, 37, 38, 19, 20, 21, 22, 14, 39, 40, 41, 42, 43, 44, 45, 46, 47, 48, 49, 50, 51, 52, 53, 54, 55] (by decide +kernel) (by decide +kernel)
set_option maxRecDepth 20000 in
theorem gX6_walks_X6_walkOf : GoodIn wsX6_walks (wsV RX6 89 RX6 yX6_walkOf wsX6_walkOf) := goodIn_app (goodIn_of _ (by decide +kernel)) ggX6_walks_X6_walkOf
theorem dX6_walks_0 : decode cX6_walks 0 = .ok (.aload_n 0, 1) := by decide +kernel
theorem dX6_walks_1 : decode cX6_walks 1 = .ok (.iload_n 1, 1) := by decide +kernel
theorem dX6_walks_2 : decode cX6_walks 2 = .ok (.invokevirtual 46, 3) := by decide +kernel
theorem dX6_walks_5 : decode cX6_walks 5 = .ok (.ifCond .ne 5, 3) := by decide +kernel
theorem dX6_walks_8 : decode cX6_walks 8 = .ok (.iconst (-1), 1) := by decide +kernel
theorem dX6_walks_9 : decode cX6_walks 9 = .ok (.ireturn, 1) := by decide +kernel
theorem dX6_walks_10 : decode cX6_walks 10 = .ok (.iload_n 2, 1) := by decide +kernel
theorem dX6_walks_11 : decode cX6_walks 11 = .ok (.iconst 0, 1) := by decide +kernel
theorem dX6_walks_12 : decode cX6_walks 12 = .ok (.iconst 1, 1) := by decide +kernel
theorem dX6_walks_13 : decode cX6_walks 13 = .ok (.invokestatic 42, 3) := by decide +kernel
theorem dX6_walks_16 : decode cX6_walks 16 = .ok (.ifCond .ne 6, 3) := by decide +kernel
theorem dX6_walks_19 : decode cX6_walks 19 = .ok (.bipush (-2), 2) := by decide +kernel
theorem dX6_walks_21 : decode cX6_walks 21 = .ok (.ireturn, 1) := by decide +kernel
theorem dX6_walks_22 : decode cX6_walks 22 = .ok (.aload_n 0, 1) := by decide +kernel
theorem dX6_walks_23 : decode cX6_walks 23 = .ok (.invokevirtual 68, 3) := by decide +kernel
theorem dX6_walks_26 : decode cX6_walks 26 = .ok (.ifCond .eq 12, 3) := by decide +kernel
theorem dX6_walks_29 : decode cX6_walks 29 = .ok (.aload_n 0, 1) := by decide +kernel
theorem dX6_walks_30 : decode cX6_walks 30 = .ok (.iload_n 1, 1) := by decide +kernel
theorem dX6_walks_31 : decode cX6_walks 31 = .ok (.iload_n 2, 1) := by decide +kernel
theorem dX6_walks_32 : decode cX6_walks 32 = .ok (.invokevirtual 89, 3) := by decide +kernel
theorem dX6_walks_35 : decode cX6_walks 35 = .ok (.goto 5, 3) := by decide +kernel
theorem dX6_walks_38 : decode cX6_walks 38 = .ok (.bipush (-3), 2) := by decide +kernel
theorem dX6_walks_40 : decode cX6_walks 40 = .ok (.ireturn, 1) := by decide +kernel
set_option maxRecDepth 20000 in
theorem ggX6_fails_X6_in : GoodIn wsX6_fails wsX6_in := goodIn_r _ [5] (by decide +kernel) (by decide +kernel)
set_option maxRecDepth 20000 in
theorem gX6_fails_X6_in : GoodIn wsX6_fails (va_wsS RX6 42 yX6_in wsX6_in) := goodIn_app (goodIn_of _ (by decide +kernel)) ggX6_fails_X6_in
set_option maxRecDepth 20000 in
theorem ggX6_fails_X6_isReady : GoodIn wsX6_fails wsX6_isReady := goodIn_r _ [9, 1, 10, 11, 12, 13, 4, 14, 15, 16, 17, 18, 40, 41, 42, 43, 44, 45, 46, 47, 48, 49, 50, 51] (by decide +kernel) (by decide +kernel)
set_option maxRecDepth 20000 in
theorem gX6_fails_X6_isReady : GoodIn wsX6_fails (wsV RX6 68 RX6 yX6_isReady wsX6_isReady) := goodIn_app (goodIn_of _ (by decide +kernel)) ggX6_fails_X6_isReady
set_option maxRecDepth 20000 in
theorem ggX6_fails_X6_walkOf : GoodIn wsX6_fails wsX6_walkOf := goodIn_r _ [22, 23, 24, 25, 26, 27, 28, 4, 29, 30, 11, 12, 13, 14, 1, 31, 32, 33, 34, 15, 16, 17, 18, 10, 35, 36, 37, 38, 39, 40, 41, 42, 43, 44, 45, 46, 47, 48, 49, 50, 51] (by decide +kernel) (by decide +kernel)
set_option maxRecDepth 20000 in
theorem gX6_fails_X6_walkOf : GoodIn wsX6_fails (wsV RX6 89 RX6 yX6_walkOf wsX6_walkOf) := goodIn_app (goodIn_of _ (by decide +kernel)) ggX6_fails_X6_walkOf
theorem dX6_fails_0 : decode cX6_fails 0 = .ok (.iload_n 1, 1) := by decide +kernel
theorem dX6_fails_1 : decode cX6_fails 1 = .ok (.iconst 0, 1) := by decide +kernel
theorem dX6_fails_2 : decode cX6_fails 2 = .ok (.iconst 1, 1) := by decide +kernel
theorem dX6_fails_3 : decode cX6_fails 3 = .ok (.invokestatic 42, 3) := by decide +kernel
theorem dX6_fails_6 : decode cX6_fails 6 = .ok (.ifCond .ne 6, 3) := by decide +kernel
theorem dX6_fails_9 : decode cX6_fails 9 = .ok (.bipush (-2), 2) := by decide +kernel
theorem dX6_fails_11 : decode cX6_fails 11 = .ok (.ireturn, 1) := by decide +kernel
theorem dX6_fails_12 : decode cX6_fails 12 = .ok (.aload_n 0, 1) := by decide +kernel
theorem dX6_fails_13 : decode cX6_fails 13 = .ok (.invokevirtual 68, 3) := by decide +kernel
theorem dX6_fails_16 : decode cX6_fails 16 = .ok (.ifCond .ne 6, 3) := by decide +kernel
theorem dX6_fails_19 : decode cX6_fails 19 = .ok (.bipush (-3), 2) := by decide +kernel
theorem dX6_fails_21 : decode cX6_fails 21 = .ok (.ireturn, 1) := by decide +kernel
theorem dX6_fails_22 : decode cX6_fails 22 = .ok (.iconst 0, 1) := by decide +kernel
theorem dX6_fails_23 : decode cX6_fails 23 = .ok (.istore_n 2, 1) := by decide +kernel
theorem dX6_fails_24 : decode cX6_fails 24 = .ok (.iconst 0, 1) := by decide +kernel
theorem dX6_fails_25 : decode cX6_fails 25 = .ok (.istore_n 3, 1) := by decide +kernel
theorem dX6_fails_26 : decode cX6_fails 26 = .ok (.iload_n 3, 1) := by decide +kernel
theorem dX6_fails_27 : decode cX6_fails 27 = .ok (.aload_n 0, 1) := by decide +kernel
theorem dX6_fails_28 : decode cX6_fails 28 = .ok (.getfield 7, 3) := by decide +kernel
theorem dX6_fails_31 : decode cX6_fails 31 = .ok (.if_icmp .ge 28, 3) := by decide +kernel
theorem dX6_fails_34 : decode cX6_fails 34 = .ok (.iload_n 2, 1) := by decide +kernel
theorem dX6_fails_35 : decode cX6_fails 35 = .ok (.aload_n 0, 1) := by decide +kernel
theorem dX6_fails_36 : decode cX6_fails 36 = .ok (.iload_n 3, 1) := by decide +kernel
theorem dX6_fails_37 : decode cX6_fails 37 = .ok (.iload_n 1, 1) := by decide +kernel
theorem dX6_fails_38 : decode cX6_fails 38 = .ok (.invokevirtual 89, 3) := by decide +kernel
theorem dX6_fails_41 : decode cX6_fails 41 = .ok (.ifCond .ge 9, 3) := by decide +kernel
theorem dX6_fails_44 : decode cX6_fails 44 = .ok (.iconst 1, 1) := by decide +kernel
theorem dX6_fails_45 : decode cX6_fails 45 = .ok (.iload_n 3, 1) := by decide +kernel
theorem dX6_fails_46 : decode cX6_fails 46 = .ok (.ishl, 1) := by decide +kernel
theorem dX6_fails_47 : decode cX6_fails 47 = .ok (.goto 4, 3) := by decide +kernel
theorem dX6_fails_50 : decode cX6_fails 50 = .ok (.iconst 0, 1) := by decide +kernel
theorem dX6_fails_51 : decode cX6_fails 51 = .ok (.ior, 1) := by decide +kernel
theorem dX6_fails_52 : decode cX6_fails 52 = .ok (.istore_n 2, 1) := by decide +kernel
theorem dX6_fails_53 : decode cX6_fails 53 = .ok (.iinc 3 1, 3) := by decide +kernel
theorem dX6_fails_56 : decode cX6_fails 56 = .ok (.goto (-30), 3) := by decide +kernel
theorem dX6_fails_59 : decode cX6_fails 59 = .ok (.iload_n 2, 1) := by decide +kernel
theorem dX6_fails_60 : decode cX6_fails 60 = .ok (.ireturn, 1) := by decide +kernel
set_option maxRecDepth 20000 in
theorem ggX6_sentOn_X6_degreeOf : GoodIn wsX6_sentOn wsX6_degreeOf := goodIn_r _ [6, 7, 18, 19, 20, 21, 22, 23, 24, 25, 26, 27, 28, 29] (by decide +kernel) (by decide +kernel)
set_option maxRecDepth 20000 in
theorem gX6_sentOn_X6_degreeOf : GoodIn wsX6_sentOn (wsV RX6 62 RX6 yX6_degreeOf wsX6_degreeOf) := goodIn_app (goodIn_of _ (by decide +kernel)) ggX6_sentOn_X6_degreeOf
set_option maxRecDepth 20000 in
theorem ggX6_sentOn_X6_place : GoodIn wsX6_sentOn wsX6_place := goodIn_r _ [11, 1, 12, 18, 19, 20, 21, 22, 23, 24, 25, 26, 27, 28, 29] (by decide +kernel) (by decide +kernel)
set_option maxRecDepth 20000 in
theorem gX6_sentOn_X6_place : GoodIn wsX6_sentOn (wsV RX6 82 RX6 yX6_place wsX6_place) := goodIn_app (goodIn_of _ (by decide +kernel)) ggX6_sentOn_X6_place
set_option maxRecDepth 20000 in
theorem ggX6_sentOn_X6_go : GoodIn wsX6_sentOn wsX6_go := goodIn_r _ [16, 1, 17, 7, 12, 18, 19, 20, 21, 22, 23, 24, 25, 26, 27, 28, 29] (by decide +kernel) (by decide +kernel)
set_option maxRecDepth 20000 in
theorem gX6_sentOn_X6_go : GoodIn wsX6_sentOn (wsV RX6 78 RX6 yX6_go wsX6_go) := goodIn_app (goodIn_of _ (by decide +kernel)) ggX6_sentOn_X6_go
theorem dX6_sentOn_0 : decode cX6_sentOn 0 = .ok (.iload_n 1, 1) := by decide +kernel
theorem dX6_sentOn_1 : decode cX6_sentOn 1 = .ok (.bipush 7, 2) := by decide +kernel
theorem dX6_sentOn_3 : decode cX6_sentOn 3 = .ok (.iand, 1) := by decide +kernel
theorem dX6_sentOn_4 : decode cX6_sentOn 4 = .ok (.istore_n 2, 1) := by decide +kernel
theorem dX6_sentOn_5 : decode cX6_sentOn 5 = .ok (.aload_n 0, 1) := by decide +kernel
theorem dX6_sentOn_6 : decode cX6_sentOn 6 = .ok (.iload_n 2, 1) := by decide +kernel
theorem dX6_sentOn_7 : decode cX6_sentOn 7 = .ok (.invokevirtual 62, 3) := by decide +kernel
theorem dX6_sentOn_10 : decode cX6_sentOn 10 = .ok (.istore_n 3, 1) := by decide +kernel
theorem dX6_sentOn_11 : decode cX6_sentOn 11 = .ok (.iload_n 3, 1) := by decide +kernel
theorem dX6_sentOn_12 : decode cX6_sentOn 12 = .ok (.ifCond .ne 5, 3) := by decide +kernel
theorem dX6_sentOn_15 : decode cX6_sentOn 15 = .ok (.iload_n 1, 1) := by decide +kernel
theorem dX6_sentOn_16 : decode cX6_sentOn 16 = .ok (.ireturn, 1) := by decide +kernel
theorem dX6_sentOn_17 : decode cX6_sentOn 17 = .ok (.iconst 3, 1) := by decide +kernel
theorem dX6_sentOn_18 : decode cX6_sentOn 18 = .ok (.iconst 2, 1) := by decide +kernel
theorem dX6_sentOn_19 : decode cX6_sentOn 19 = .ok (.iload_n 2, 1) := by decide +kernel
theorem dX6_sentOn_20 : decode cX6_sentOn 20 = .ok (.imul, 1) := by decide +kernel
theorem dX6_sentOn_21 : decode cX6_sentOn 21 = .ok (.iadd, 1) := by decide +kernel
theorem dX6_sentOn_22 : decode cX6_sentOn 22 = .ok (.istore 4, 2) := by decide +kernel
theorem dX6_sentOn_24 : decode cX6_sentOn 24 = .ok (.iload_n 1, 1) := by decide +kernel
theorem dX6_sentOn_25 : decode cX6_sentOn 25 = .ok (.iload 4, 2) := by decide +kernel
theorem dX6_sentOn_27 : decode cX6_sentOn 27 = .ok (.ishr, 1) := by decide +kernel
theorem dX6_sentOn_28 : decode cX6_sentOn 28 = .ok (.iconst 3, 1) := by decide +kernel
theorem dX6_sentOn_29 : decode cX6_sentOn 29 = .ok (.iand, 1) := by decide +kernel
theorem dX6_sentOn_30 : decode cX6_sentOn 30 = .ok (.istore 5, 2) := by decide +kernel
theorem dX6_sentOn_32 : decode cX6_sentOn 32 = .ok (.aload_n 0, 1) := by decide +kernel
theorem dX6_sentOn_33 : decode cX6_sentOn 33 = .ok (.iload_n 2, 1) := by decide +kernel
theorem dX6_sentOn_34 : decode cX6_sentOn 34 = .ok (.invokevirtual 82, 3) := by decide +kernel
theorem dX6_sentOn_37 : decode cX6_sentOn 37 = .ok (.aload_n 0, 1) := by decide +kernel
theorem dX6_sentOn_38 : decode cX6_sentOn 38 = .ok (.iload 5, 2) := by decide +kernel
theorem dX6_sentOn_40 : decode cX6_sentOn 40 = .ok (.invokevirtual 78, 3) := by decide +kernel
theorem dX6_sentOn_43 : decode cX6_sentOn 43 = .ok (.iload_n 1, 1) := by decide +kernel
theorem dX6_sentOn_44 : decode cX6_sentOn 44 = .ok (.iconst 3, 1) := by decide +kernel
theorem dX6_sentOn_45 : decode cX6_sentOn 45 = .ok (.iload 4, 2) := by decide +kernel
theorem dX6_sentOn_47 : decode cX6_sentOn 47 = .ok (.ishl, 1) := by decide +kernel
theorem dX6_sentOn_48 : decode cX6_sentOn 48 = .ok (.iconst (-1), 1) := by decide +kernel
theorem dX6_sentOn_49 : decode cX6_sentOn 49 = .ok (.ixor, 1) := by decide +kernel
theorem dX6_sentOn_50 : decode cX6_sentOn 50 = .ok (.iand, 1) := by decide +kernel
theorem dX6_sentOn_51 : decode cX6_sentOn 51 = .ok (.iload 5, 2) := by decide +kernel
theorem dX6_sentOn_53 : decode cX6_sentOn 53 = .ok (.iconst 1, 1) := by decide +kernel
theorem dX6_sentOn_54 : decode cX6_sentOn 54 = .ok (.iadd, 1) := by decide +kernel
theorem dX6_sentOn_55 : decode cX6_sentOn 55 = .ok (.iload_n 3, 1) := by decide +kernel
theorem dX6_sentOn_56 : decode cX6_sentOn 56 = .ok (.irem, 1) := by decide +kernel
theorem dX6_sentOn_57 : decode cX6_sentOn 57 = .ok (.iload 4, 2) := by decide +kernel
theorem dX6_sentOn_59 : decode cX6_sentOn 59 = .ok (.ishl, 1) := by decide +kernel
theorem dX6_sentOn_60 : decode cX6_sentOn 60 = .ok (.ior, 1) := by decide +kernel
theorem dX6_sentOn_61 : decode cX6_sentOn 61 = .ok (.istore 6, 2) := by decide +kernel
theorem dX6_sentOn_63 : decode cX6_sentOn 63 = .ok (.iload 6, 2) := by decide +kernel
theorem dX6_sentOn_65 : decode cX6_sentOn 65 = .ok (.bipush (-8), 2) := by decide +kernel
theorem dX6_sentOn_67 : decode cX6_sentOn 67 = .ok (.iand, 1) := by decide +kernel
theorem dX6_sentOn_68 : decode cX6_sentOn 68 = .ok (.aload_n 0, 1) := by decide +kernel
theorem dX6_sentOn_69 : decode cX6_sentOn 69 = .ok (.getfield 72, 3) := by decide +kernel
theorem dX6_sentOn_72 : decode cX6_sentOn 72 = .ok (.ior, 1) := by decide +kernel
theorem dX6_sentOn_73 : decode cX6_sentOn 73 = .ok (.ireturn, 1) := by decide +kernel
set_option maxRecDepth 20000 in
theorem ggX6_sentAll_X6_all : GoodIn wsX6_sentAll wsX6_all := goodIn_r _ [5, 6, 27, 28, 29, 30, 31, 32, 33, 34, 35, 36, 37, 38] (by decide +kernel) (by decide +kernel)
set_option maxRecDepth 20000 in
theorem gX6_sentAll_X6_all : GoodIn wsX6_sentAll (wsV RX6 65 RX6 yX6_all wsX6_all) := goodIn_app (goodIn_of _ (by decide +kernel)) ggX6_sentAll_X6_all
set_option maxRecDepth 20000 in
theorem ggX6_sentAll_X6_sentOn : GoodIn wsX6_sentAll wsX6_sentOn := goodIn_r _ [10, 11, 12, 13, 14, 4, 15, 16, 17, 18, 19, 20, 21, 22, 23, 24, 25, 26, 27, 28, 29, 30, 31, 32, 33, 34, 35, 36, 37, 38] (by decide +kernel) (by decide +kernel)
set_option maxRecDepth 20000 in
theorem gX6_sentAll_X6_sentOn : GoodIn wsX6_sentAll (wsV RX6 93 RX6 yX6_sentOn wsX6_sentOn) := goodIn_app (goodIn_of _ (by decide +kernel)) ggX6_sentAll_X6_sentOn
theorem dX6_sentAll_0 : decode cX6_sentAll 0 = .ok (.iload_n 1, 1) := by decide +kernel
theorem dX6_sentAll_1 : decode cX6_sentAll 1 = .ok (.istore_n 2, 1) := by decide +kernel
theorem dX6_sentAll_2 : decode cX6_sentAll 2 = .ok (.iconst 1, 1) := by decide +kernel
theorem dX6_sentAll_3 : decode cX6_sentAll 3 = .ok (.iload_n 1, 1) := by decide +kernel
theorem dX6_sentAll_4 : decode cX6_sentAll 4 = .ok (.ishl, 1) := by decide +kernel
theorem dX6_sentAll_5 : decode cX6_sentAll 5 = .ok (.istore_n 3, 1) := by decide +kernel
theorem dX6_sentAll_6 : decode cX6_sentAll 6 = .ok (.iconst 0, 1) := by decide +kernel
theorem dX6_sentAll_7 : decode cX6_sentAll 7 = .ok (.istore 4, 2) := by decide +kernel
theorem dX6_sentAll_9 : decode cX6_sentAll 9 = .ok (.iload 4, 2) := by decide +kernel
theorem dX6_sentAll_11 : decode cX6_sentAll 11 = .ok (.sipush 20000, 3) := by decide +kernel
theorem dX6_sentAll_14 : decode cX6_sentAll 14 = .ok (.if_icmp .gt 35, 3) := by decide +kernel
theorem dX6_sentAll_17 : decode cX6_sentAll 17 = .ok (.iload_n 3, 1) := by decide +kernel
theorem dX6_sentAll_18 : decode cX6_sentAll 18 = .ok (.aload_n 0, 1) := by decide +kernel
theorem dX6_sentAll_19 : decode cX6_sentAll 19 = .ok (.invokevirtual 65, 3) := by decide +kernel
theorem dX6_sentAll_22 : decode cX6_sentAll 22 = .ok (.if_icmp .ne 6, 3) := by decide +kernel
theorem dX6_sentAll_25 : decode cX6_sentAll 25 = .ok (.iload 4, 2) := by decide +kernel
theorem dX6_sentAll_27 : decode cX6_sentAll 27 = .ok (.ireturn, 1) := by decide +kernel
theorem dX6_sentAll_28 : decode cX6_sentAll 28 = .ok (.aload_n 0, 1) := by decide +kernel
theorem dX6_sentAll_29 : decode cX6_sentAll 29 = .ok (.iload_n 2, 1) := by decide +kernel
theorem dX6_sentAll_30 : decode cX6_sentAll 30 = .ok (.invokevirtual 93, 3) := by decide +kernel
theorem dX6_sentAll_33 : decode cX6_sentAll 33 = .ok (.istore_n 2, 1) := by decide +kernel
theorem dX6_sentAll_34 : decode cX6_sentAll 34 = .ok (.iload_n 3, 1) := by decide +kernel
theorem dX6_sentAll_35 : decode cX6_sentAll 35 = .ok (.iconst 1, 1) := by decide +kernel
theorem dX6_sentAll_36 : decode cX6_sentAll 36 = .ok (.iload_n 2, 1) := by decide +kernel
theorem dX6_sentAll_37 : decode cX6_sentAll 37 = .ok (.bipush 7, 2) := by decide +kernel
theorem dX6_sentAll_39 : decode cX6_sentAll 39 = .ok (.iand, 1) := by decide +kernel
theorem dX6_sentAll_40 : decode cX6_sentAll 40 = .ok (.ishl, 1) := by decide +kernel
theorem dX6_sentAll_41 : decode cX6_sentAll 41 = .ok (.ior, 1) := by decide +kernel
theorem dX6_sentAll_42 : decode cX6_sentAll 42 = .ok (.istore_n 3, 1) := by decide +kernel
theorem dX6_sentAll_43 : decode cX6_sentAll 43 = .ok (.iinc 4 1, 3) := by decide +kernel
theorem dX6_sentAll_46 : decode cX6_sentAll 46 = .ok (.goto (-37), 3) := by decide +kernel
theorem dX6_sentAll_49 : decode cX6_sentAll 49 = .ok (.bipush (-6), 2) := by decide +kernel
theorem dX6_sentAll_51 : decode cX6_sentAll 51 = .ok (.ireturn, 1) := by decide +kernel
set_option maxRecDepth 20000 in
theorem ggX6_ringOf_X6_sentOn : GoodIn wsX6_ringOf wsX6_sentOn := goodIn_r _ [6, 7, 8, 9, 10, 5, 11, 12, 13, 14, 15, 16, 17, 18, 19, 20, 21, 22, 23, 24, 25, 26, 27, 28, 29, 30, 31, 32, 33, 34] (by decide +kernel) (by decide +kernel)
set_option maxRecDepth 20000 in
theorem gX6_ringOf_X6_sentOn : GoodIn wsX6_ringOf (wsV RX6 93 RX6 yX6_sentOn wsX6_sentOn) := goodIn_app (goodIn_of _ (by decide +kernel)) ggX6_ringOf_X6_sentOn
theorem dX6_ringOf_0 : decode cX6_ringOf 0 = .ok (.iload_n 1, 1) := by decide +kernel
theorem dX6_ringOf_1 : decode cX6_ringOf 1 = .ok (.istore_n 3, 1) := by decide +kernel
theorem dX6_ringOf_2 : decode cX6_ringOf 2 = .ok (.aload_n 0, 1) := by decide +kernel
theorem dX6_ringOf_3 : decode cX6_ringOf 3 = .ok (.iload_n 1, 1) := by decide +kernel
theorem dX6_ringOf_4 : decode cX6_ringOf 4 = .ok (.invokevirtual 93, 3) := by decide +kernel
theorem dX6_ringOf_7 : decode cX6_ringOf 7 = .ok (.istore 4, 2) := by decide +kernel
theorem dX6_ringOf_9 : decode cX6_ringOf 9 = .ok (.iconst 1, 1) := by decide +kernel
theorem dX6_ringOf_10 : decode cX6_ringOf 10 = .ok (.istore 5, 2) := by decide +kernel
theorem dX6_ringOf_12 : decode cX6_ringOf 12 = .ok (.iconst 1, 1) := by decide +kernel
theorem dX6_ringOf_13 : decode cX6_ringOf 13 = .ok (.istore 6, 2) := by decide +kernel
theorem dX6_ringOf_15 : decode cX6_ringOf 15 = .ok (.iconst 1, 1) := by decide +kernel
theorem dX6_ringOf_16 : decode cX6_ringOf 16 = .ok (.istore 7, 2) := by decide +kernel
theorem dX6_ringOf_18 : decode cX6_ringOf 18 = .ok (.iload 4, 2) := by decide +kernel
theorem dX6_ringOf_20 : decode cX6_ringOf 20 = .ok (.iload_n 3, 1) := by decide +kernel
theorem dX6_ringOf_21 : decode cX6_ringOf 21 = .ok (.if_icmp .eq 46, 3) := by decide +kernel
theorem dX6_ringOf_24 : decode cX6_ringOf 24 = .ok (.iload 7, 2) := by decide +kernel
theorem dX6_ringOf_26 : decode cX6_ringOf 26 = .ok (.ldc 96, 2) := by decide +kernel
theorem dX6_ringOf_28 : decode cX6_ringOf 28 = .ok (.if_icmp .ge 39, 3) := by decide +kernel
theorem dX6_ringOf_31 : decode cX6_ringOf 31 = .ok (.iload 6, 2) := by decide +kernel
theorem dX6_ringOf_33 : decode cX6_ringOf 33 = .ok (.iload 5, 2) := by decide +kernel
theorem dX6_ringOf_35 : decode cX6_ringOf 35 = .ok (.if_icmp .ne 15, 3) := by decide +kernel
theorem dX6_ringOf_38 : decode cX6_ringOf 38 = .ok (.iload 4, 2) := by decide +kernel
theorem dX6_ringOf_40 : decode cX6_ringOf 40 = .ok (.istore_n 3, 1) := by decide +kernel
theorem dX6_ringOf_41 : decode cX6_ringOf 41 = .ok (.iload 5, 2) := by decide +kernel
theorem dX6_ringOf_43 : decode cX6_ringOf 43 = .ok (.iconst 2, 1) := by decide +kernel
theorem dX6_ringOf_44 : decode cX6_ringOf 44 = .ok (.imul, 1) := by decide +kernel
theorem dX6_ringOf_45 : decode cX6_ringOf 45 = .ok (.istore 5, 2) := by decide +kernel
theorem dX6_ringOf_47 : decode cX6_ringOf 47 = .ok (.iconst 0, 1) := by decide +kernel
theorem dX6_ringOf_48 : decode cX6_ringOf 48 = .ok (.istore 6, 2) := by decide +kernel
theorem dX6_ringOf_50 : decode cX6_ringOf 50 = .ok (.aload_n 0, 1) := by decide +kernel
theorem dX6_ringOf_51 : decode cX6_ringOf 51 = .ok (.iload 4, 2) := by decide +kernel
theorem dX6_ringOf_53 : decode cX6_ringOf 53 = .ok (.invokevirtual 93, 3) := by decide +kernel
theorem dX6_ringOf_56 : decode cX6_ringOf 56 = .ok (.istore 4, 2) := by decide +kernel
theorem dX6_ringOf_58 : decode cX6_ringOf 58 = .ok (.iinc 6 1, 3) := by decide +kernel
theorem dX6_ringOf_61 : decode cX6_ringOf 61 = .ok (.iinc 7 1, 3) := by decide +kernel
theorem dX6_ringOf_64 : decode cX6_ringOf 64 = .ok (.goto (-46), 3) := by decide +kernel
theorem dX6_ringOf_67 : decode cX6_ringOf 67 = .ok (.iload 4, 2) := by decide +kernel
theorem dX6_ringOf_69 : decode cX6_ringOf 69 = .ok (.iload_n 3, 1) := by decide +kernel
theorem dX6_ringOf_70 : decode cX6_ringOf 70 = .ok (.if_icmp .ne 11, 3) := by decide +kernel
theorem dX6_ringOf_73 : decode cX6_ringOf 73 = .ok (.iload 6, 2) := by decide +kernel
theorem dX6_ringOf_75 : decode cX6_ringOf 75 = .ok (.sipush 20000, 3) := by decide +kernel
theorem dX6_ringOf_78 : decode cX6_ringOf 78 = .ok (.if_icmp .le 6, 3) := by decide +kernel
theorem dX6_ringOf_81 : decode cX6_ringOf 81 = .ok (.bipush (-7), 2) := by decide +kernel
theorem dX6_ringOf_83 : decode cX6_ringOf 83 = .ok (.ireturn, 1) := by decide +kernel
theorem dX6_ringOf_84 : decode cX6_ringOf 84 = .ok (.iconst 0, 1) := by decide +kernel
theorem dX6_ringOf_85 : decode cX6_ringOf 85 = .ok (.istore 8, 2) := by decide +kernel
theorem dX6_ringOf_87 : decode cX6_ringOf 87 = .ok (.iload_n 1, 1) := by decide +kernel
theorem dX6_ringOf_88 : decode cX6_ringOf 88 = .ok (.istore 9, 2) := by decide +kernel
theorem dX6_ringOf_90 : decode cX6_ringOf 90 = .ok (.iload_n 1, 1) := by decide +kernel
theorem dX6_ringOf_91 : decode cX6_ringOf 91 = .ok (.istore 10, 2) := by decide +kernel
theorem dX6_ringOf_93 : decode cX6_ringOf 93 = .ok (.iconst 0, 1) := by decide +kernel
theorem dX6_ringOf_94 : decode cX6_ringOf 94 = .ok (.istore 11, 2) := by decide +kernel
theorem dX6_ringOf_96 : decode cX6_ringOf 96 = .ok (.iload 11, 2) := by decide +kernel
theorem dX6_ringOf_98 : decode cX6_ringOf 98 = .ok (.iload 6, 2) := by decide +kernel
theorem dX6_ringOf_100 : decode cX6_ringOf 100 = .ok (.if_icmp .ge 17, 3) := by decide +kernel
theorem dX6_ringOf_103 : decode cX6_ringOf 103 = .ok (.aload_n 0, 1) := by decide +kernel
theorem dX6_ringOf_104 : decode cX6_ringOf 104 = .ok (.iload 10, 2) := by decide +kernel
theorem dX6_ringOf_106 : decode cX6_ringOf 106 = .ok (.invokevirtual 93, 3) := by decide +kernel
theorem dX6_ringOf_109 : decode cX6_ringOf 109 = .ok (.istore 10, 2) := by decide +kernel
theorem dX6_ringOf_111 : decode cX6_ringOf 111 = .ok (.iinc 11 1, 3) := by decide +kernel
theorem dX6_ringOf_114 : decode cX6_ringOf 114 = .ok (.goto (-18), 3) := by decide +kernel
theorem dX6_ringOf_117 : decode cX6_ringOf 117 = .ok (.iload 9, 2) := by decide +kernel
theorem dX6_ringOf_119 : decode cX6_ringOf 119 = .ok (.iload 10, 2) := by decide +kernel
theorem dX6_ringOf_121 : decode cX6_ringOf 121 = .ok (.if_icmp .eq 33, 3) := by decide +kernel
theorem dX6_ringOf_124 : decode cX6_ringOf 124 = .ok (.iload 8, 2) := by decide +kernel
theorem dX6_ringOf_126 : decode cX6_ringOf 126 = .ok (.sipush 20000, 3) := by decide +kernel
theorem dX6_ringOf_129 : decode cX6_ringOf 129 = .ok (.if_icmp .gt 25, 3) := by decide +kernel
theorem dX6_ringOf_132 : decode cX6_ringOf 132 = .ok (.aload_n 0, 1) := by decide +kernel
theorem dX6_ringOf_133 : decode cX6_ringOf 133 = .ok (.iload 9, 2) := by decide +kernel
theorem dX6_ringOf_135 : decode cX6_ringOf 135 = .ok (.invokevirtual 93, 3) := by decide +kernel
theorem dX6_ringOf_138 : decode cX6_ringOf 138 = .ok (.istore 9, 2) := by decide +kernel
theorem dX6_ringOf_140 : decode cX6_ringOf 140 = .ok (.aload_n 0, 1) := by decide +kernel
theorem dX6_ringOf_141 : decode cX6_ringOf 141 = .ok (.iload 10, 2) := by decide +kernel
theorem dX6_ringOf_143 : decode cX6_ringOf 143 = .ok (.invokevirtual 93, 3) := by decide +kernel
theorem dX6_ringOf_146 : decode cX6_ringOf 146 = .ok (.istore 10, 2) := by decide +kernel
theorem dX6_ringOf_148 : decode cX6_ringOf 148 = .ok (.iinc 8 1, 3) := by decide +kernel
theorem dX6_ringOf_151 : decode cX6_ringOf 151 = .ok (.goto (-34), 3) := by decide +kernel
theorem dX6_ringOf_154 : decode cX6_ringOf 154 = .ok (.iload 8, 2) := by decide +kernel
theorem dX6_ringOf_156 : decode cX6_ringOf 156 = .ok (.iload 6, 2) := by decide +kernel
theorem dX6_ringOf_158 : decode cX6_ringOf 158 = .ok (.iadd, 1) := by decide +kernel
theorem dX6_ringOf_159 : decode cX6_ringOf 159 = .ok (.sipush 20000, 3) := by decide +kernel
theorem dX6_ringOf_162 : decode cX6_ringOf 162 = .ok (.if_icmp .le 8, 3) := by decide +kernel
theorem dX6_ringOf_165 : decode cX6_ringOf 165 = .ok (.bipush (-7), 2) := by decide +kernel
theorem dX6_ringOf_167 : decode cX6_ringOf 167 = .ok (.goto 15, 3) := by decide +kernel
theorem dX6_ringOf_170 : decode cX6_ringOf 170 = .ok (.iload_n 2, 1) := by decide +kernel
theorem dX6_ringOf_171 : decode cX6_ringOf 171 = .ok (.iconst 1, 1) := by decide +kernel
theorem dX6_ringOf_172 : decode cX6_ringOf 172 = .ok (.if_icmp .ne 8, 3) := by decide +kernel
theorem dX6_ringOf_175 : decode cX6_ringOf 175 = .ok (.iload 8, 2) := by decide +kernel
theorem dX6_ringOf_177 : decode cX6_ringOf 177 = .ok (.goto 5, 3) := by decide +kernel
theorem dX6_ringOf_180 : decode cX6_ringOf 180 = .ok (.iload 6, 2) := by decide +kernel
theorem dX6_ringOf_182 : decode cX6_ringOf 182 = .ok (.ireturn, 1) := by decide +kernel
set_option maxRecDepth 20000 in
theorem ggX6_sent_X6_isPost : GoodIn wsX6_sent wsX6_isPost := goodIn_r _ [5, 6, 7, 8, 4, 9, 47, 48, 49, 50, 51, 52, 53, 54, 55, 56, 57, 58] (by decide +kernel) (by decide +kernel)
set_option maxRecDepth 20000 in
theorem gX6_sent_X6_isPost : GoodIn wsX6_sent (wsV RX6 46 RX6 yX6_isPost wsX6_isPost) := goodIn_app (goodIn_of _ (by decide +kernel)) ggX6_sent_X6_isPost
set_option maxRecDepth 20000 in
theorem ggX6_sent_X6_in : GoodIn wsX6_sent wsX6_in := goodIn_r _ [9] (by decide +kernel) (by decide +kernel)
set_option maxRecDepth 20000 in
theorem gX6_sent_X6_in : GoodIn wsX6_sent (va_wsS RX6 42 yX6_in wsX6_in) := goodIn_app (goodIn_of _ (by decide +kernel)) ggX6_sent_X6_in
set_option maxRecDepth 20000 in
theorem ggX6_sent_X6_isReady : GoodIn wsX6_sent wsX6_isReady := goodIn_r _ [13, 6, 14, 15, 16, 17, 4, 18, 19, 20, 21, 22, 47, 48, 49, 50, 51, 52, 53, 54, 55, 56, 57, 58] (by decide +kernel) (by decide +kernel)
set_option maxRecDepth 20000 in
theorem gX6_sent_X6_isReady : GoodIn wsX6_sent (wsV RX6 68 RX6 yX6_isReady wsX6_isReady) := goodIn_app (goodIn_of _ (by decide +kernel)) ggX6_sent_X6_isReady
set_option maxRecDepth 20000 in
theorem ggX6_sent_X6_sentAll : GoodIn wsX6_sent wsX6_sentAll := goodIn_r _ [26, 15, 16, 17, 4, 18, 6, 27, 28, 29, 30, 31, 19, 20, 21, 22, 14, 32, 33, 34, 35, 36, 37, 38, 39, 40, 41, 47, 48, 49, 50, 51, 52, 53, 54, 55, 56, 57, 58] (by decide +kernel) (by decide +kernel)
set_option maxRecDepth 20000 in
theorem gX6_sent_X6_sentAll : GoodIn wsX6_sent (wsV RX6 97 RX6 yX6_sentAll wsX6_sentAll) := goodIn_app (goodIn_of _ (by decide +kernel)) ggX6_sent_X6_sentAll
set_option maxRecDepth 20000 in
theorem ggX6_sent_X6_ringOf : GoodIn wsX6_sent wsX6_ringOf := goodIn_r _ [45, 46, 27, 28, 29, 4, 30, 31, 19, 20, 21, 22, 14, 32, 33, 34, 35, 36, 37, 38, 39, 40, 41, 47, 48, 49, 50, 51, 52, 53, 54, 55, 56, 57, 58] (by decide +kernel) (by decide +kernel)
set_option maxRecDepth 20000 in
theorem gX6_sent_X6_ringOf : GoodIn wsX6_sent (wsV RX6 100 RX6 yX6_ringOf wsX6_ringOf) := goodIn_app (goodIn_of _ (by decide +kernel)) ggX6_sent_X6_ringOf
theorem dX6_sent_0 : decode cX6_sent 0 = .ok (.aload_n 0, 1) := by decide +kernel
theorem dX6_sent_1 : decode cX6_sent 1 = .ok (.iload_n 1, 1) := by decide +kernel
theorem dX6_sent_2 : decode cX6_sent 2 = .ok (.invokevirtual 46, 3) := by decide +kernel
theorem dX6_sent_5 : decode cX6_sent 5 = .ok (.ifCond .ne 5, 3) := by decide +kernel
theorem dX6_sent_8 : decode cX6_sent 8 = .ok (.iconst (-1), 1) := by decide +kernel
theorem dX6_sent_9 : decode cX6_sent 9 = .ok (.ireturn, 1) := by decide +kernel
theorem dX6_sent_10 : decode cX6_sent 10 = .ok (.iload_n 2, 1) := by decide +kernel
theorem dX6_sent_11 : decode cX6_sent 11 = .ok (.iconst 0, 1) := by decide +kernel
theorem dX6_sent_12 : decode cX6_sent 12 = .ok (.iconst 2, 1) := by decide +kernel
theorem dX6_sent_13 : decode cX6_sent 13 = .ok (.invokestatic 42, 3) := by decide +kernel
theorem dX6_sent_16 : decode cX6_sent 16 = .ok (.ifCond .ne 6, 3) := by decide +kernel
theorem dX6_sent_19 : decode cX6_sent 19 = .ok (.bipush (-2), 2) := by decide +kernel
theorem dX6_sent_21 : decode cX6_sent 21 = .ok (.ireturn, 1) := by decide +kernel
theorem dX6_sent_22 : decode cX6_sent 22 = .ok (.aload_n 0, 1) := by decide +kernel
theorem dX6_sent_23 : decode cX6_sent 23 = .ok (.invokevirtual 68, 3) := by decide +kernel
theorem dX6_sent_26 : decode cX6_sent 26 = .ok (.ifCond .ne 8, 3) := by decide +kernel
theorem dX6_sent_29 : decode cX6_sent 29 = .ok (.bipush (-3), 2) := by decide +kernel
theorem dX6_sent_31 : decode cX6_sent 31 = .ok (.goto 21, 3) := by decide +kernel
theorem dX6_sent_34 : decode cX6_sent 34 = .ok (.iload_n 2, 1) := by decide +kernel
theorem dX6_sent_35 : decode cX6_sent 35 = .ok (.ifCond .ne 11, 3) := by decide +kernel
theorem dX6_sent_38 : decode cX6_sent 38 = .ok (.aload_n 0, 1) := by decide +kernel
theorem dX6_sent_39 : decode cX6_sent 39 = .ok (.iload_n 1, 1) := by decide +kernel
theorem dX6_sent_40 : decode cX6_sent 40 = .ok (.invokevirtual 97, 3) := by decide +kernel
theorem dX6_sent_43 : decode cX6_sent 43 = .ok (.goto 9, 3) := by decide +kernel
theorem dX6_sent_46 : decode cX6_sent 46 = .ok (.aload_n 0, 1) := by decide +kernel
theorem dX6_sent_47 : decode cX6_sent 47 = .ok (.iload_n 1, 1) := by decide +kernel
theorem dX6_sent_48 : decode cX6_sent 48 = .ok (.iload_n 2, 1) := by decide +kernel
theorem dX6_sent_49 : decode cX6_sent 49 = .ok (.invokevirtual 100, 3) := by decide +kernel
theorem dX6_sent_52 : decode cX6_sent 52 = .ok (.ireturn, 1) := by decide +kernel
set_option maxRecDepth 20000 in
theorem ggX6_next_X6_isPost : GoodIn wsX6_next wsX6_isPost := goodIn_r _ [6, 7, 8, 9, 5, 10, 38, 39, 40, 41, 42, 43, 44, 45, 46, 47, 48, 49] (by decide +kernel) (by decide +kernel)
set_option maxRecDepth 20000 in
theorem gX6_next_X6_isPost : GoodIn wsX6_next (wsV RX6 46 RX6 yX6_isPost wsX6_isPost) := goodIn_app (goodIn_of _ (by decide +kernel)) ggX6_next_X6_isPost
set_option maxRecDepth 20000 in
theorem ggX6_next_X6_isReady : GoodIn wsX6_next wsX6_isReady := goodIn_r _ [14, 7, 15, 16, 17, 18, 5, 19, 20, 21, 22, 23, 38, 39, 40, 41, 42, 43, 44, 45, 46, 47, 48, 49] (by decide +kernel) (by decide +kernel)
set_option maxRecDepth 20000 in
theorem gX6_next_X6_isReady : GoodIn wsX6_next (wsV RX6 68 RX6 yX6_isReady wsX6_isReady) := goodIn_app (goodIn_of _ (by decide +kernel)) ggX6_next_X6_isReady
set_option maxRecDepth 20000 in
theorem ggX6_next_X6_place : GoodIn wsX6_next wsX6_place := goodIn_r _ [27, 1, 28, 38, 39, 40, 41, 42, 43, 44, 45, 46, 47, 48, 49] (by decide +kernel) (by decide +kernel)
set_option maxRecDepth 20000 in
theorem gX6_next_X6_place : GoodIn wsX6_next (wsV RX6 82 RX6 yX6_place wsX6_place) := goodIn_app (goodIn_of _ (by decide +kernel)) ggX6_next_X6_place
set_option maxRecDepth 20000 in
theorem ggX6_next_X6_step : GoodIn wsX6_next wsX6_step := goodIn_r _ [32, 1, 28, 20, 21, 22, 5, 23, 15, 33, 34, 35, 36, 37, 38, 39, 40, 41, 42, 43, 44, 45, 46, 47, 48, 49] (by decide +kernel) (by decide +kernel)
set_option maxRecDepth 20000 in
theorem gX6_next_X6_step : GoodIn wsX6_next (wsV RX6 85 RX6 yX6_step wsX6_step) := goodIn_app (goodIn_of _ (by decide +kernel)) ggX6_next_X6_step
theorem dX6_next_0 : decode cX6_next 0 = .ok (.aload_n 0, 1) := by decide +kernel
theorem dX6_next_1 : decode cX6_next 1 = .ok (.iload_n 1, 1) := by decide +kernel
theorem dX6_next_2 : decode cX6_next 2 = .ok (.invokevirtual 46, 3) := by decide +kernel
theorem dX6_next_5 : decode cX6_next 5 = .ok (.ifCond .ne 5, 3) := by decide +kernel
theorem dX6_next_8 : decode cX6_next 8 = .ok (.iconst (-1), 1) := by decide +kernel
theorem dX6_next_9 : decode cX6_next 9 = .ok (.ireturn, 1) := by decide +kernel
theorem dX6_next_10 : decode cX6_next 10 = .ok (.aload_n 0, 1) := by decide +kernel
theorem dX6_next_11 : decode cX6_next 11 = .ok (.invokevirtual 68, 3) := by decide +kernel
theorem dX6_next_14 : decode cX6_next 14 = .ok (.ifCond .ne 6, 3) := by decide +kernel
theorem dX6_next_17 : decode cX6_next 17 = .ok (.bipush (-3), 2) := by decide +kernel
theorem dX6_next_19 : decode cX6_next 19 = .ok (.ireturn, 1) := by decide +kernel
theorem dX6_next_20 : decode cX6_next 20 = .ok (.aload_n 0, 1) := by decide +kernel
theorem dX6_next_21 : decode cX6_next 21 = .ok (.iload_n 1, 1) := by decide +kernel
theorem dX6_next_22 : decode cX6_next 22 = .ok (.invokevirtual 82, 3) := by decide +kernel
theorem dX6_next_25 : decode cX6_next 25 = .ok (.iconst 1, 1) := by decide +kernel
theorem dX6_next_26 : decode cX6_next 26 = .ok (.iload_n 1, 1) := by decide +kernel
theorem dX6_next_27 : decode cX6_next 27 = .ok (.ishl, 1) := by decide +kernel
theorem dX6_next_28 : decode cX6_next 28 = .ok (.istore_n 2, 1) := by decide +kernel
theorem dX6_next_29 : decode cX6_next 29 = .ok (.iconst 0, 1) := by decide +kernel
theorem dX6_next_30 : decode cX6_next 30 = .ok (.istore_n 3, 1) := by decide +kernel
theorem dX6_next_31 : decode cX6_next 31 = .ok (.iload_n 3, 1) := by decide +kernel
theorem dX6_next_32 : decode cX6_next 32 = .ok (.bipush 40, 2) := by decide +kernel
theorem dX6_next_34 : decode cX6_next 34 = .ok (.if_icmp .ge 24, 3) := by decide +kernel
theorem dX6_next_37 : decode cX6_next 37 = .ok (.aload_n 0, 1) := by decide +kernel
theorem dX6_next_38 : decode cX6_next 38 = .ok (.iconst 0, 1) := by decide +kernel
theorem dX6_next_39 : decode cX6_next 39 = .ok (.iconst 1, 1) := by decide +kernel
theorem dX6_next_40 : decode cX6_next 40 = .ok (.invokevirtual 85, 3) := by decide +kernel
theorem dX6_next_43 : decode cX6_next 43 = .ok (.iload_n 2, 1) := by decide +kernel
theorem dX6_next_44 : decode cX6_next 44 = .ok (.iconst 1, 1) := by decide +kernel
theorem dX6_next_45 : decode cX6_next 45 = .ok (.aload_n 0, 1) := by decide +kernel
theorem dX6_next_46 : decode cX6_next 46 = .ok (.getfield 72, 3) := by decide +kernel
theorem dX6_next_49 : decode cX6_next 49 = .ok (.ishl, 1) := by decide +kernel
theorem dX6_next_50 : decode cX6_next 50 = .ok (.ior, 1) := by decide +kernel
theorem dX6_next_51 : decode cX6_next 51 = .ok (.istore_n 2, 1) := by decide +kernel
theorem dX6_next_52 : decode cX6_next 52 = .ok (.iinc 3 1, 3) := by decide +kernel
theorem dX6_next_55 : decode cX6_next 55 = .ok (.goto (-24), 3) := by decide +kernel
theorem dX6_next_58 : decode cX6_next 58 = .ok (.iload_n 2, 1) := by decide +kernel
theorem dX6_next_59 : decode cX6_next 59 = .ok (.ireturn, 1) := by decide +kernel
set_option maxRecDepth 20000 in
theorem ggX6_areAlike_X6_degreeOf : GoodIn wsX6_areAlike wsX6_degreeOf := goodIn_r _ [7, 2, 8, 9, 10, 11, 12, 13, 14, 15, 16, 17, 18, 19] (by decide +kernel) (by decide +kernel)
set_option maxRecDepth 20000 in
theorem gX6_areAlike_X6_degreeOf : GoodIn wsX6_areAlike (wsV RX6 62 RX6 yX6_degreeOf wsX6_degreeOf) := goodIn_app (goodIn_of _ (by decide +kernel)) ggX6_areAlike_X6_degreeOf
theorem dX6_areAlike_0 : decode cX6_areAlike 0 = .ok (.aload_n 0, 1) := by decide +kernel
theorem dX6_areAlike_1 : decode cX6_areAlike 1 = .ok (.getfield 27, 3) := by decide +kernel
theorem dX6_areAlike_4 : decode cX6_areAlike 4 = .ok (.iload_n 1, 1) := by decide +kernel
theorem dX6_areAlike_5 : decode cX6_areAlike 5 = .ok (.iaload, 1) := by decide +kernel
theorem dX6_areAlike_6 : decode cX6_areAlike 6 = .ok (.aload_n 0, 1) := by decide +kernel
theorem dX6_areAlike_7 : decode cX6_areAlike 7 = .ok (.getfield 27, 3) := by decide +kernel
theorem dX6_areAlike_10 : decode cX6_areAlike 10 = .ok (.iload_n 2, 1) := by decide +kernel
theorem dX6_areAlike_11 : decode cX6_areAlike 11 = .ok (.iaload, 1) := by decide +kernel
theorem dX6_areAlike_12 : decode cX6_areAlike 12 = .ok (.if_icmp .ne 7, 3) := by decide +kernel
theorem dX6_areAlike_15 : decode cX6_areAlike 15 = .ok (.iconst 1, 1) := by decide +kernel
theorem dX6_areAlike_16 : decode cX6_areAlike 16 = .ok (.goto 4, 3) := by decide +kernel
theorem dX6_areAlike_19 : decode cX6_areAlike 19 = .ok (.iconst 0, 1) := by decide +kernel
theorem dX6_areAlike_20 : decode cX6_areAlike 20 = .ok (.istore_n 3, 1) := by decide +kernel
theorem dX6_areAlike_21 : decode cX6_areAlike 21 = .ok (.iconst 0, 1) := by decide +kernel
theorem dX6_areAlike_22 : decode cX6_areAlike 22 = .ok (.istore 4, 2) := by decide +kernel
theorem dX6_areAlike_24 : decode cX6_areAlike 24 = .ok (.iload 4, 2) := by decide +kernel
theorem dX6_areAlike_26 : decode cX6_areAlike 26 = .ok (.aload_n 0, 1) := by decide +kernel
theorem dX6_areAlike_27 : decode cX6_areAlike 27 = .ok (.iload_n 1, 1) := by decide +kernel
theorem dX6_areAlike_28 : decode cX6_areAlike 28 = .ok (.invokevirtual 62, 3) := by decide +kernel
theorem dX6_areAlike_31 : decode cX6_areAlike 31 = .ok (.if_icmp .ge 77, 3) := by decide +kernel
theorem dX6_areAlike_34 : decode cX6_areAlike 34 = .ok (.iload_n 3, 1) := by decide +kernel
theorem dX6_areAlike_35 : decode cX6_areAlike 35 = .ok (.ifCond .eq 73, 3) := by decide +kernel
theorem dX6_areAlike_38 : decode cX6_areAlike 38 = .ok (.aload_n 0, 1) := by decide +kernel
theorem dX6_areAlike_39 : decode cX6_areAlike 39 = .ok (.getfield 13, 3) := by decide +kernel
theorem dX6_areAlike_42 : decode cX6_areAlike 42 = .ok (.iconst 4, 1) := by decide +kernel
theorem dX6_areAlike_43 : decode cX6_areAlike 43 = .ok (.iload_n 1, 1) := by decide +kernel
theorem dX6_areAlike_44 : decode cX6_areAlike 44 = .ok (.imul, 1) := by decide +kernel
theorem dX6_areAlike_45 : decode cX6_areAlike 45 = .ok (.iload 4, 2) := by decide +kernel
theorem dX6_areAlike_47 : decode cX6_areAlike 47 = .ok (.iadd, 1) := by decide +kernel
theorem dX6_areAlike_48 : decode cX6_areAlike 48 = .ok (.iaload, 1) := by decide +kernel
theorem dX6_areAlike_49 : decode cX6_areAlike 49 = .ok (.istore 5, 2) := by decide +kernel
theorem dX6_areAlike_51 : decode cX6_areAlike 51 = .ok (.aload_n 0, 1) := by decide +kernel
theorem dX6_areAlike_52 : decode cX6_areAlike 52 = .ok (.getfield 13, 3) := by decide +kernel
theorem dX6_areAlike_55 : decode cX6_areAlike 55 = .ok (.iconst 4, 1) := by decide +kernel
theorem dX6_areAlike_56 : decode cX6_areAlike 56 = .ok (.iload_n 2, 1) := by decide +kernel
theorem dX6_areAlike_57 : decode cX6_areAlike 57 = .ok (.imul, 1) := by decide +kernel
theorem dX6_areAlike_58 : decode cX6_areAlike 58 = .ok (.iload 4, 2) := by decide +kernel
theorem dX6_areAlike_60 : decode cX6_areAlike 60 = .ok (.iadd, 1) := by decide +kernel
theorem dX6_areAlike_61 : decode cX6_areAlike 61 = .ok (.iaload, 1) := by decide +kernel
theorem dX6_areAlike_62 : decode cX6_areAlike 62 = .ok (.istore 6, 2) := by decide +kernel
theorem dX6_areAlike_64 : decode cX6_areAlike 64 = .ok (.iload 5, 2) := by decide +kernel
theorem dX6_areAlike_66 : decode cX6_areAlike 66 = .ok (.iconst 4, 1) := by decide +kernel
theorem dX6_areAlike_67 : decode cX6_areAlike 67 = .ok (.irem, 1) := by decide +kernel
theorem dX6_areAlike_68 : decode cX6_areAlike 68 = .ok (.iload 6, 2) := by decide +kernel
theorem dX6_areAlike_70 : decode cX6_areAlike 70 = .ok (.iconst 4, 1) := by decide +kernel
theorem dX6_areAlike_71 : decode cX6_areAlike 71 = .ok (.irem, 1) := by decide +kernel
theorem dX6_areAlike_72 : decode cX6_areAlike 72 = .ok (.if_icmp .ne 28, 3) := by decide +kernel
theorem dX6_areAlike_75 : decode cX6_areAlike 75 = .ok (.aload_n 0, 1) := by decide +kernel
theorem dX6_areAlike_76 : decode cX6_areAlike 76 = .ok (.getfield 27, 3) := by decide +kernel
theorem dX6_areAlike_79 : decode cX6_areAlike 79 = .ok (.iload 5, 2) := by decide +kernel
theorem dX6_areAlike_81 : decode cX6_areAlike 81 = .ok (.iconst 4, 1) := by decide +kernel
theorem dX6_areAlike_82 : decode cX6_areAlike 82 = .ok (.idiv, 1) := by decide +kernel
theorem dX6_areAlike_83 : decode cX6_areAlike 83 = .ok (.iaload, 1) := by decide +kernel
theorem dX6_areAlike_84 : decode cX6_areAlike 84 = .ok (.aload_n 0, 1) := by decide +kernel
theorem dX6_areAlike_85 : decode cX6_areAlike 85 = .ok (.getfield 27, 3) := by decide +kernel
theorem dX6_areAlike_88 : decode cX6_areAlike 88 = .ok (.iload 6, 2) := by decide +kernel
theorem dX6_areAlike_90 : decode cX6_areAlike 90 = .ok (.iconst 4, 1) := by decide +kernel
theorem dX6_areAlike_91 : decode cX6_areAlike 91 = .ok (.idiv, 1) := by decide +kernel
theorem dX6_areAlike_92 : decode cX6_areAlike 92 = .ok (.iaload, 1) := by decide +kernel
theorem dX6_areAlike_93 : decode cX6_areAlike 93 = .ok (.if_icmp .ne 7, 3) := by decide +kernel
theorem dX6_areAlike_96 : decode cX6_areAlike 96 = .ok (.iconst 1, 1) := by decide +kernel
theorem dX6_areAlike_97 : decode cX6_areAlike 97 = .ok (.goto 4, 3) := by decide +kernel
theorem dX6_areAlike_100 : decode cX6_areAlike 100 = .ok (.iconst 0, 1) := by decide +kernel
theorem dX6_areAlike_101 : decode cX6_areAlike 101 = .ok (.istore_n 3, 1) := by decide +kernel
theorem dX6_areAlike_102 : decode cX6_areAlike 102 = .ok (.iinc 4 1, 3) := by decide +kernel
theorem dX6_areAlike_105 : decode cX6_areAlike 105 = .ok (.goto (-81), 3) := by decide +kernel
theorem dX6_areAlike_108 : decode cX6_areAlike 108 = .ok (.iload_n 3, 1) := by decide +kernel
theorem dX6_areAlike_109 : decode cX6_areAlike 109 = .ok (.ireturn, 1) := by decide +kernel
set_option maxRecDepth 20000 in
theorem ggX6_layLooks_X6_degreeOf : GoodIn wsX6_layLooks wsX6_degreeOf := goodIn_r _ [9, 10, 15, 16, 17, 18, 19, 20, 21, 22, 23, 24, 25, 26] (by decide +kernel) (by decide +kernel)
set_option maxRecDepth 20000 in
theorem gX6_layLooks_X6_degreeOf : GoodIn wsX6_layLooks (wsV RX6 62 RX6 yX6_degreeOf wsX6_degreeOf) := goodIn_app (goodIn_of _ (by decide +kernel)) ggX6_layLooks_X6_degreeOf
set_option maxRecDepth 20000 in
theorem ggX6_layLooks_X6_areAlike : GoodIn wsX6_layLooks wsX6_areAlike := goodIn_r _ [14, 3, 10, 5, 6, 7, 8, 9, 15, 16, 17, 18, 19, 20, 21, 22, 23, 24, 25, 26] (by decide +kernel) (by decide +kernel)
set_option maxRecDepth 20000 in
theorem gX6_layLooks_X6_areAlike : GoodIn wsX6_layLooks (wsV RX6 106 RX6 yX6_areAlike wsX6_areAlike) := goodIn_app (goodIn_of _ (by decide +kernel)) ggX6_layLooks_X6_areAlike
theorem dX6_layLooks_0 : decode cX6_layLooks 0 = .ok (.aload_n 0, 1) := by decide +kernel
theorem dX6_layLooks_1 : decode cX6_layLooks 1 = .ok (.iconst 0, 1) := by decide +kernel
theorem dX6_layLooks_2 : decode cX6_layLooks 2 = .ok (.putfield 103, 3) := by decide +kernel
theorem dX6_layLooks_5 : decode cX6_layLooks 5 = .ok (.iconst 0, 1) := by decide +kernel
theorem dX6_layLooks_6 : decode cX6_layLooks 6 = .ok (.istore_n 2, 1) := by decide +kernel
theorem dX6_layLooks_7 : decode cX6_layLooks 7 = .ok (.iload_n 2, 1) := by decide +kernel
theorem dX6_layLooks_8 : decode cX6_layLooks 8 = .ok (.aload_n 0, 1) := by decide +kernel
theorem dX6_layLooks_9 : decode cX6_layLooks 9 = .ok (.getfield 7, 3) := by decide +kernel
theorem dX6_layLooks_12 : decode cX6_layLooks 12 = .ok (.if_icmp .ge 96, 3) := by decide +kernel
theorem dX6_layLooks_15 : decode cX6_layLooks 15 = .ok (.aload_n 0, 1) := by decide +kernel
theorem dX6_layLooks_16 : decode cX6_layLooks 16 = .ok (.getfield 27, 3) := by decide +kernel
theorem dX6_layLooks_19 : decode cX6_layLooks 19 = .ok (.iload_n 2, 1) := by decide +kernel
theorem dX6_layLooks_20 : decode cX6_layLooks 20 = .ok (.iconst (-1), 1) := by decide +kernel
theorem dX6_layLooks_21 : decode cX6_layLooks 21 = .ok (.iastore, 1) := by decide +kernel
theorem dX6_layLooks_22 : decode cX6_layLooks 22 = .ok (.iconst 0, 1) := by decide +kernel
theorem dX6_layLooks_23 : decode cX6_layLooks 23 = .ok (.istore_n 3, 1) := by decide +kernel
theorem dX6_layLooks_24 : decode cX6_layLooks 24 = .ok (.iload_n 3, 1) := by decide +kernel
theorem dX6_layLooks_25 : decode cX6_layLooks 25 = .ok (.iload_n 2, 1) := by decide +kernel
theorem dX6_layLooks_26 : decode cX6_layLooks 26 = .ok (.if_icmp .ge 47, 3) := by decide +kernel
theorem dX6_layLooks_29 : decode cX6_layLooks 29 = .ok (.aload_n 0, 1) := by decide +kernel
theorem dX6_layLooks_30 : decode cX6_layLooks 30 = .ok (.getfield 27, 3) := by decide +kernel
theorem dX6_layLooks_33 : decode cX6_layLooks 33 = .ok (.iload_n 2, 1) := by decide +kernel
theorem dX6_layLooks_34 : decode cX6_layLooks 34 = .ok (.iaload, 1) := by decide +kernel
theorem dX6_layLooks_35 : decode cX6_layLooks 35 = .ok (.ifCond .ge 38, 3) := by decide +kernel
theorem dX6_layLooks_38 : decode cX6_layLooks 38 = .ok (.aload_n 0, 1) := by decide +kernel
theorem dX6_layLooks_39 : decode cX6_layLooks 39 = .ok (.getfield 27, 3) := by decide +kernel
theorem dX6_layLooks_42 : decode cX6_layLooks 42 = .ok (.iload_n 2, 1) := by decide +kernel
theorem dX6_layLooks_43 : decode cX6_layLooks 43 = .ok (.aload_n 0, 1) := by decide +kernel
theorem dX6_layLooks_44 : decode cX6_layLooks 44 = .ok (.iload_n 3, 1) := by decide +kernel
theorem dX6_layLooks_45 : decode cX6_layLooks 45 = .ok (.invokevirtual 62, 3) := by decide +kernel
theorem dX6_layLooks_48 : decode cX6_layLooks 48 = .ok (.aload_n 0, 1) := by decide +kernel
theorem dX6_layLooks_49 : decode cX6_layLooks 49 = .ok (.iload_n 2, 1) := by decide +kernel
theorem dX6_layLooks_50 : decode cX6_layLooks 50 = .ok (.invokevirtual 62, 3) := by decide +kernel
theorem dX6_layLooks_53 : decode cX6_layLooks 53 = .ok (.if_icmp .ne 12, 3) := by decide +kernel
theorem dX6_layLooks_56 : decode cX6_layLooks 56 = .ok (.aload_n 0, 1) := by decide +kernel
theorem dX6_layLooks_57 : decode cX6_layLooks 57 = .ok (.getfield 27, 3) := by decide +kernel
theorem dX6_layLooks_60 : decode cX6_layLooks 60 = .ok (.iload_n 3, 1) := by decide +kernel
theorem dX6_layLooks_61 : decode cX6_layLooks 61 = .ok (.iaload, 1) := by decide +kernel
theorem dX6_layLooks_62 : decode cX6_layLooks 62 = .ok (.goto 4, 3) := by decide +kernel
theorem dX6_layLooks_65 : decode cX6_layLooks 65 = .ok (.iconst (-1), 1) := by decide +kernel
theorem dX6_layLooks_66 : decode cX6_layLooks 66 = .ok (.iastore, 1) := by decide +kernel
theorem dX6_layLooks_67 : decode cX6_layLooks 67 = .ok (.iinc 3 1, 3) := by decide +kernel
theorem dX6_layLooks_70 : decode cX6_layLooks 70 = .ok (.goto (-46), 3) := by decide +kernel
theorem dX6_layLooks_73 : decode cX6_layLooks 73 = .ok (.aload_n 0, 1) := by decide +kernel
theorem dX6_layLooks_74 : decode cX6_layLooks 74 = .ok (.getfield 27, 3) := by decide +kernel
theorem dX6_layLooks_77 : decode cX6_layLooks 77 = .ok (.iload_n 2, 1) := by decide +kernel
theorem dX6_layLooks_78 : decode cX6_layLooks 78 = .ok (.iaload, 1) := by decide +kernel
theorem dX6_layLooks_79 : decode cX6_layLooks 79 = .ok (.ifCond .ge 23, 3) := by decide +kernel
theorem dX6_layLooks_82 : decode cX6_layLooks 82 = .ok (.aload_n 0, 1) := by decide +kernel
theorem dX6_layLooks_83 : decode cX6_layLooks 83 = .ok (.getfield 27, 3) := by decide +kernel
theorem dX6_layLooks_86 : decode cX6_layLooks 86 = .ok (.iload_n 2, 1) := by decide +kernel
theorem dX6_layLooks_87 : decode cX6_layLooks 87 = .ok (.aload_n 0, 1) := by decide +kernel
theorem dX6_layLooks_88 : decode cX6_layLooks 88 = .ok (.getfield 103, 3) := by decide +kernel
theorem dX6_layLooks_91 : decode cX6_layLooks 91 = .ok (.iastore, 1) := by decide +kernel
theorem dX6_layLooks_92 : decode cX6_layLooks 92 = .ok (.aload_n 0, 1) := by decide +kernel
theorem dX6_layLooks_93 : decode cX6_layLooks 93 = .ok (.dup, 1) := by decide +kernel
theorem dX6_layLooks_94 : decode cX6_layLooks 94 = .ok (.getfield 103, 3) := by decide +kernel
theorem dX6_layLooks_97 : decode cX6_layLooks 97 = .ok (.iconst 1, 1) := by decide +kernel
theorem dX6_layLooks_98 : decode cX6_layLooks 98 = .ok (.iadd, 1) := by decide +kernel
theorem dX6_layLooks_99 : decode cX6_layLooks 99 = .ok (.putfield 103, 3) := by decide +kernel
theorem dX6_layLooks_102 : decode cX6_layLooks 102 = .ok (.iinc 2 1, 3) := by decide +kernel
theorem dX6_layLooks_105 : decode cX6_layLooks 105 = .ok (.goto (-98), 3) := by decide +kernel
theorem dX6_layLooks_108 : decode cX6_layLooks 108 = .ok (.iconst 0, 1) := by decide +kernel
theorem dX6_layLooks_109 : decode cX6_layLooks 109 = .ok (.istore_n 2, 1) := by decide +kernel
theorem dX6_layLooks_110 : decode cX6_layLooks 110 = .ok (.iload_n 2, 1) := by decide +kernel
theorem dX6_layLooks_111 : decode cX6_layLooks 111 = .ok (.iload_n 1, 1) := by decide +kernel
theorem dX6_layLooks_112 : decode cX6_layLooks 112 = .ok (.if_icmp .ge 145, 3) := by decide +kernel
theorem dX6_layLooks_115 : decode cX6_layLooks 115 = .ok (.aload_n 0, 1) := by decide +kernel
theorem dX6_layLooks_116 : decode cX6_layLooks 116 = .ok (.iconst 0, 1) := by decide +kernel
theorem dX6_layLooks_117 : decode cX6_layLooks 117 = .ok (.putfield 103, 3) := by decide +kernel
theorem dX6_layLooks_120 : decode cX6_layLooks 120 = .ok (.iconst 0, 1) := by decide +kernel
theorem dX6_layLooks_121 : decode cX6_layLooks 121 = .ok (.istore_n 3, 1) := by decide +kernel
theorem dX6_layLooks_122 : decode cX6_layLooks 122 = .ok (.iload_n 3, 1) := by decide +kernel
theorem dX6_layLooks_123 : decode cX6_layLooks 123 = .ok (.aload_n 0, 1) := by decide +kernel
theorem dX6_layLooks_124 : decode cX6_layLooks 124 = .ok (.getfield 7, 3) := by decide +kernel
theorem dX6_layLooks_127 : decode cX6_layLooks 127 = .ok (.if_icmp .ge 96, 3) := by decide +kernel
theorem dX6_layLooks_130 : decode cX6_layLooks 130 = .ok (.aload_n 0, 1) := by decide +kernel
theorem dX6_layLooks_131 : decode cX6_layLooks 131 = .ok (.getfield 30, 3) := by decide +kernel
theorem dX6_layLooks_134 : decode cX6_layLooks 134 = .ok (.iload_n 3, 1) := by decide +kernel
theorem dX6_layLooks_135 : decode cX6_layLooks 135 = .ok (.iconst (-1), 1) := by decide +kernel
theorem dX6_layLooks_136 : decode cX6_layLooks 136 = .ok (.iastore, 1) := by decide +kernel
theorem dX6_layLooks_137 : decode cX6_layLooks 137 = .ok (.iconst 0, 1) := by decide +kernel
theorem dX6_layLooks_138 : decode cX6_layLooks 138 = .ok (.istore 4, 2) := by decide +kernel
theorem dX6_layLooks_140 : decode cX6_layLooks 140 = .ok (.iload 4, 2) := by decide +kernel
theorem dX6_layLooks_142 : decode cX6_layLooks 142 = .ok (.iload_n 3, 1) := by decide +kernel
theorem dX6_layLooks_143 : decode cX6_layLooks 143 = .ok (.if_icmp .ge 45, 3) := by decide +kernel
theorem dX6_layLooks_146 : decode cX6_layLooks 146 = .ok (.aload_n 0, 1) := by decide +kernel
theorem dX6_layLooks_147 : decode cX6_layLooks 147 = .ok (.getfield 30, 3) := by decide +kernel
theorem dX6_layLooks_150 : decode cX6_layLooks 150 = .ok (.iload_n 3, 1) := by decide +kernel
theorem dX6_layLooks_151 : decode cX6_layLooks 151 = .ok (.iaload, 1) := by decide +kernel
theorem dX6_layLooks_152 : decode cX6_layLooks 152 = .ok (.ifCond .ge 36, 3) := by decide +kernel
theorem dX6_layLooks_155 : decode cX6_layLooks 155 = .ok (.aload_n 0, 1) := by decide +kernel
theorem dX6_layLooks_156 : decode cX6_layLooks 156 = .ok (.getfield 30, 3) := by decide +kernel
theorem dX6_layLooks_159 : decode cX6_layLooks 159 = .ok (.iload_n 3, 1) := by decide +kernel
theorem dX6_layLooks_160 : decode cX6_layLooks 160 = .ok (.aload_n 0, 1) := by decide +kernel
theorem dX6_layLooks_161 : decode cX6_layLooks 161 = .ok (.iload_n 3, 1) := by decide +kernel
theorem dX6_layLooks_162 : decode cX6_layLooks 162 = .ok (.iload 4, 2) := by decide +kernel
theorem dX6_layLooks_164 : decode cX6_layLooks 164 = .ok (.invokevirtual 106, 3) := by decide +kernel
theorem dX6_layLooks_167 : decode cX6_layLooks 167 = .ok (.ifCond .eq 13, 3) := by decide +kernel
theorem dX6_layLooks_170 : decode cX6_layLooks 170 = .ok (.aload_n 0, 1) := by decide +kernel
theorem dX6_layLooks_171 : decode cX6_layLooks 171 = .ok (.getfield 30, 3) := by decide +kernel
theorem dX6_layLooks_174 : decode cX6_layLooks 174 = .ok (.iload 4, 2) := by decide +kernel
theorem dX6_layLooks_176 : decode cX6_layLooks 176 = .ok (.iaload, 1) := by decide +kernel
theorem dX6_layLooks_177 : decode cX6_layLooks 177 = .ok (.goto 4, 3) := by decide +kernel
theorem dX6_layLooks_180 : decode cX6_layLooks 180 = .ok (.iconst (-1), 1) := by decide +kernel
theorem dX6_layLooks_181 : decode cX6_layLooks 181 = .ok (.iastore, 1) := by decide +kernel
theorem dX6_layLooks_182 : decode cX6_layLooks 182 = .ok (.iinc 4 1, 3) := by decide +kernel
theorem dX6_layLooks_185 : decode cX6_layLooks 185 = .ok (.goto (-45), 3) := by decide +kernel
theorem dX6_layLooks_188 : decode cX6_layLooks 188 = .ok (.aload_n 0, 1) := by decide +kernel
theorem dX6_layLooks_189 : decode cX6_layLooks 189 = .ok (.getfield 30, 3) := by decide +kernel
theorem dX6_layLooks_192 : decode cX6_layLooks 192 = .ok (.iload_n 3, 1) := by decide +kernel
theorem dX6_layLooks_193 : decode cX6_layLooks 193 = .ok (.iaload, 1) := by decide +kernel
theorem dX6_layLooks_194 : decode cX6_layLooks 194 = .ok (.ifCond .ge 23, 3) := by decide +kernel
theorem dX6_layLooks_197 : decode cX6_layLooks 197 = .ok (.aload_n 0, 1) := by decide +kernel
theorem dX6_layLooks_198 : decode cX6_layLooks 198 = .ok (.getfield 30, 3) := by decide +kernel
theorem dX6_layLooks_201 : decode cX6_layLooks 201 = .ok (.iload_n 3, 1) := by decide +kernel
theorem dX6_layLooks_202 : decode cX6_layLooks 202 = .ok (.aload_n 0, 1) := by decide +kernel
theorem dX6_layLooks_203 : decode cX6_layLooks 203 = .ok (.getfield 103, 3) := by decide +kernel
theorem dX6_layLooks_206 : decode cX6_layLooks 206 = .ok (.iastore, 1) := by decide +kernel
theorem dX6_layLooks_207 : decode cX6_layLooks 207 = .ok (.aload_n 0, 1) := by decide +kernel
theorem dX6_layLooks_208 : decode cX6_layLooks 208 = .ok (.dup, 1) := by decide +kernel
theorem dX6_layLooks_209 : decode cX6_layLooks 209 = .ok (.getfield 103, 3) := by decide +kernel
theorem dX6_layLooks_212 : decode cX6_layLooks 212 = .ok (.iconst 1, 1) := by decide +kernel
theorem dX6_layLooks_213 : decode cX6_layLooks 213 = .ok (.iadd, 1) := by decide +kernel
theorem dX6_layLooks_214 : decode cX6_layLooks 214 = .ok (.putfield 103, 3) := by decide +kernel
theorem dX6_layLooks_217 : decode cX6_layLooks 217 = .ok (.iinc 3 1, 3) := by decide +kernel
theorem dX6_layLooks_220 : decode cX6_layLooks 220 = .ok (.goto (-98), 3) := by decide +kernel
theorem dX6_layLooks_223 : decode cX6_layLooks 223 = .ok (.iconst 0, 1) := by decide +kernel
theorem dX6_layLooks_224 : decode cX6_layLooks 224 = .ok (.istore_n 3, 1) := by decide +kernel
theorem dX6_layLooks_225 : decode cX6_layLooks 225 = .ok (.iload_n 3, 1) := by decide +kernel
theorem dX6_layLooks_226 : decode cX6_layLooks 226 = .ok (.aload_n 0, 1) := by decide +kernel
theorem dX6_layLooks_227 : decode cX6_layLooks 227 = .ok (.getfield 7, 3) := by decide +kernel
theorem dX6_layLooks_230 : decode cX6_layLooks 230 = .ok (.if_icmp .ge 21, 3) := by decide +kernel
theorem dX6_layLooks_233 : decode cX6_layLooks 233 = .ok (.aload_n 0, 1) := by decide +kernel
theorem dX6_layLooks_234 : decode cX6_layLooks 234 = .ok (.getfield 27, 3) := by decide +kernel
theorem dX6_layLooks_237 : decode cX6_layLooks 237 = .ok (.iload_n 3, 1) := by decide +kernel
theorem dX6_layLooks_238 : decode cX6_layLooks 238 = .ok (.aload_n 0, 1) := by decide +kernel
theorem dX6_layLooks_239 : decode cX6_layLooks 239 = .ok (.getfield 30, 3) := by decide +kernel
theorem dX6_layLooks_242 : decode cX6_layLooks 242 = .ok (.iload_n 3, 1) := by decide +kernel
theorem dX6_layLooks_243 : decode cX6_layLooks 243 = .ok (.iaload, 1) := by decide +kernel
theorem dX6_layLooks_244 : decode cX6_layLooks 244 = .ok (.iastore, 1) := by decide +kernel
theorem dX6_layLooks_245 : decode cX6_layLooks 245 = .ok (.iinc 3 1, 3) := by decide +kernel
theorem dX6_layLooks_248 : decode cX6_layLooks 248 = .ok (.goto (-23), 3) := by decide +kernel
theorem dX6_layLooks_251 : decode cX6_layLooks 251 = .ok (.iinc 2 1, 3) := by decide +kernel
theorem dX6_layLooks_254 : decode cX6_layLooks 254 = .ok (.goto (-144), 3) := by decide +kernel
theorem dX6_layLooks_257 : decode cX6_layLooks 257 = .ok (.return_, 1) := by decide +kernel
set_option maxRecDepth 20000 in
theorem ggX6_look_X6_isPost : GoodIn wsX6_look wsX6_isPost := goodIn_r _ [6, 7, 8, 9, 5, 10, 34, 35, 36, 37, 38, 39, 40, 41, 42, 43, 44, 45] (by decide +kernel) (by decide +kernel)
set_option maxRecDepth 20000 in
theorem gX6_look_X6_isPost : GoodIn wsX6_look (wsV RX6 46 RX6 yX6_isPost wsX6_isPost) := goodIn_app (goodIn_of _ (by decide +kernel)) ggX6_look_X6_isPost
set_option maxRecDepth 20000 in
theorem ggX6_look_X6_in : GoodIn wsX6_look wsX6_in := goodIn_r _ [10] (by decide +kernel) (by decide +kernel)
set_option maxRecDepth 20000 in
theorem gX6_look_X6_in : GoodIn wsX6_look (va_wsS RX6 42 yX6_in wsX6_in) := goodIn_app (goodIn_of _ (by decide +kernel)) ggX6_look_X6_in
set_option maxRecDepth 20000 in
theorem ggX6_look_X6_isReady : GoodIn wsX6_look wsX6_isReady := goodIn_r _ [14, 7, 15, 16, 17, 18, 5, 19, 20, 21, 22, 23, 34, 35, 36, 37, 38, 39, 40, 41, 42, 43, 44, 45] (by decide +kernel) (by decide +kernel)
set_option maxRecDepth 20000 in
theorem gX6_look_X6_isReady : GoodIn wsX6_look (wsV RX6 68 RX6 yX6_isReady wsX6_isReady) := goodIn_app (goodIn_of _ (by decide +kernel)) ggX6_look_X6_isReady
set_option maxRecDepth 20000 in
theorem ggX6_look_X6_layLooks : GoodIn wsX6_look wsX6_layLooks := goodIn_r _ [27, 28, 7, 1, 29, 20, 21, 22, 5, 23, 15, 30, 31, 32, 33, 34, 35, 36, 37, 38, 39, 40, 41, 42, 43, 44, 45] (by decide +kernel) (by decide +kernel)
set_option maxRecDepth 20000 in
theorem gX6_look_X6_layLooks : GoodIn wsX6_look (wsV RX6 109 RX6 yX6_layLooks wsX6_layLooks) := goodIn_app (goodIn_of _ (by decide +kernel)) ggX6_look_X6_layLooks
theorem dX6_look_0 : decode cX6_look 0 = .ok (.aload_n 0, 1) := by decide +kernel
theorem dX6_look_1 : decode cX6_look 1 = .ok (.iload_n 1, 1) := by decide +kernel
theorem dX6_look_2 : decode cX6_look 2 = .ok (.invokevirtual 46, 3) := by decide +kernel
theorem dX6_look_5 : decode cX6_look 5 = .ok (.ifCond .ne 5, 3) := by decide +kernel
theorem dX6_look_8 : decode cX6_look 8 = .ok (.iconst (-1), 1) := by decide +kernel
theorem dX6_look_9 : decode cX6_look 9 = .ok (.ireturn, 1) := by decide +kernel
theorem dX6_look_10 : decode cX6_look 10 = .ok (.iload_n 2, 1) := by decide +kernel
theorem dX6_look_11 : decode cX6_look 11 = .ok (.iconst 0, 1) := by decide +kernel
theorem dX6_look_12 : decode cX6_look 12 = .ok (.bipush 20, 2) := by decide +kernel
theorem dX6_look_14 : decode cX6_look 14 = .ok (.invokestatic 42, 3) := by decide +kernel
theorem dX6_look_17 : decode cX6_look 17 = .ok (.ifCond .ne 6, 3) := by decide +kernel
theorem dX6_look_20 : decode cX6_look 20 = .ok (.bipush (-2), 2) := by decide +kernel
theorem dX6_look_22 : decode cX6_look 22 = .ok (.ireturn, 1) := by decide +kernel
theorem dX6_look_23 : decode cX6_look 23 = .ok (.aload_n 0, 1) := by decide +kernel
theorem dX6_look_24 : decode cX6_look 24 = .ok (.invokevirtual 68, 3) := by decide +kernel
theorem dX6_look_27 : decode cX6_look 27 = .ok (.ifCond .ne 6, 3) := by decide +kernel
theorem dX6_look_30 : decode cX6_look 30 = .ok (.bipush (-3), 2) := by decide +kernel
theorem dX6_look_32 : decode cX6_look 32 = .ok (.ireturn, 1) := by decide +kernel
theorem dX6_look_33 : decode cX6_look 33 = .ok (.aload_n 0, 1) := by decide +kernel
theorem dX6_look_34 : decode cX6_look 34 = .ok (.iload_n 2, 1) := by decide +kernel
theorem dX6_look_35 : decode cX6_look 35 = .ok (.invokevirtual 109, 3) := by decide +kernel
theorem dX6_look_38 : decode cX6_look 38 = .ok (.aload_n 0, 1) := by decide +kernel
theorem dX6_look_39 : decode cX6_look 39 = .ok (.getfield 27, 3) := by decide +kernel
theorem dX6_look_42 : decode cX6_look 42 = .ok (.iload_n 1, 1) := by decide +kernel
theorem dX6_look_43 : decode cX6_look 43 = .ok (.iaload, 1) := by decide +kernel
theorem dX6_look_44 : decode cX6_look 44 = .ok (.ireturn, 1) := by decide +kernel
set_option maxRecDepth 20000 in
theorem ggX6_classes_X6_in : GoodIn wsX6_classes wsX6_in := goodIn_r _ [5] (by decide +kernel) (by decide +kernel)
set_option maxRecDepth 20000 in
theorem gX6_classes_X6_in : GoodIn wsX6_classes (va_wsS RX6 42 yX6_in wsX6_in) := goodIn_app (goodIn_of _ (by decide +kernel)) ggX6_classes_X6_in
set_option maxRecDepth 20000 in
theorem ggX6_classes_X6_isReady : GoodIn wsX6_classes wsX6_isReady := goodIn_r _ [9, 10, 11, 12, 13, 14, 4, 15, 16, 17, 18, 19, 30, 31, 32, 33, 34, 35, 36, 37, 38, 39, 40, 41] (by decide +kernel) (by decide +kernel)
set_option maxRecDepth 20000 in
theorem gX6_classes_X6_isReady : GoodIn wsX6_classes (wsV RX6 68 RX6 yX6_isReady wsX6_isReady) := goodIn_app (goodIn_of _ (by decide +kernel)) ggX6_classes_X6_isReady
set_option maxRecDepth 20000 in
theorem ggX6_classes_X6_layLooks : GoodIn wsX6_classes wsX6_layLooks := goodIn_r _ [23, 1, 10, 24, 25, 16, 17, 18, 4, 19, 11, 26, 27, 28, 29, 30, 31, 32, 33, 34, 35, 36, 37, 38, 39, 40, 41] (by decide +kernel) (by decide +kernel)
set_option maxRecDepth 20000 in
theorem gX6_classes_X6_layLooks : GoodIn wsX6_classes (wsV RX6 109 RX6 yX6_layLooks wsX6_layLooks) := goodIn_app (goodIn_of _ (by decide +kernel)) ggX6_classes_X6_layLooks
theorem dX6_classes_0 : decode cX6_classes 0 = .ok (.iload_n 1, 1) := by decide +kernel
theorem dX6_classes_1 : decode cX6_classes 1 = .ok (.iconst 0, 1) := by decide +kernel
theorem dX6_classes_2 : decode cX6_classes 2 = .ok (.bipush 20, 2) := by decide +kernel
theorem dX6_classes_4 : decode cX6_classes 4 = .ok (.invokestatic 42, 3) := by decide +kernel
theorem dX6_classes_7 : decode cX6_classes 7 = .ok (.ifCond .ne 6, 3) := by decide +kernel
theorem dX6_classes_10 : decode cX6_classes 10 = .ok (.bipush (-2), 2) := by decide +kernel
theorem dX6_classes_12 : decode cX6_classes 12 = .ok (.ireturn, 1) := by decide +kernel
theorem dX6_classes_13 : decode cX6_classes 13 = .ok (.aload_n 0, 1) := by decide +kernel
theorem dX6_classes_14 : decode cX6_classes 14 = .ok (.invokevirtual 68, 3) := by decide +kernel
theorem dX6_classes_17 : decode cX6_classes 17 = .ok (.ifCond .ne 6, 3) := by decide +kernel
theorem dX6_classes_20 : decode cX6_classes 20 = .ok (.bipush (-3), 2) := by decide +kernel
theorem dX6_classes_22 : decode cX6_classes 22 = .ok (.ireturn, 1) := by decide +kernel
theorem dX6_classes_23 : decode cX6_classes 23 = .ok (.aload_n 0, 1) := by decide +kernel
theorem dX6_classes_24 : decode cX6_classes 24 = .ok (.iload_n 1, 1) := by decide +kernel
theorem dX6_classes_25 : decode cX6_classes 25 = .ok (.invokevirtual 109, 3) := by decide +kernel
theorem dX6_classes_28 : decode cX6_classes 28 = .ok (.aload_n 0, 1) := by decide +kernel
theorem dX6_classes_29 : decode cX6_classes 29 = .ok (.getfield 103, 3) := by decide +kernel
theorem dX6_classes_32 : decode cX6_classes 32 = .ok (.ireturn, 1) := by decide +kernel
set_option maxRecDepth 20000 in
theorem ggX6_classesAt_X6_layLooks : GoodIn wsX6_classesAt wsX6_layLooks := goodIn_r _ [6, 1, 7, 8, 9, 10, 11, 12, 5, 13, 14, 15, 16, 17, 18, 19, 20, 21, 22, 23, 24, 25, 26, 27, 28, 29, 30] (by decide +kernel) (by decide +kernel)
set_option maxRecDepth 20000 in
theorem gX6_classesAt_X6_layLooks : GoodIn wsX6_classesAt (wsV RX6 109 RX6 yX6_layLooks wsX6_layLooks) := goodIn_app (goodIn_of _ (by decide +kernel)) ggX6_classesAt_X6_layLooks
theorem dX6_classesAt_0 : decode cX6_classesAt 0 = .ok (.aload_n 0, 1) := by decide +kernel
theorem dX6_classesAt_1 : decode cX6_classesAt 1 = .ok (.iload_n 1, 1) := by decide +kernel
theorem dX6_classesAt_2 : decode cX6_classesAt 2 = .ok (.invokevirtual 109, 3) := by decide +kernel
theorem dX6_classesAt_5 : decode cX6_classesAt 5 = .ok (.aload_n 0, 1) := by decide +kernel
theorem dX6_classesAt_6 : decode cX6_classesAt 6 = .ok (.getfield 103, 3) := by decide +kernel
theorem dX6_classesAt_9 : decode cX6_classesAt 9 = .ok (.ireturn, 1) := by decide +kernel
set_option maxRecDepth 20000 in
theorem ggX6_deep_X6_isReady : GoodIn wsX6_deep wsX6_isReady := goodIn_r _ [5, 6, 7, 8, 9, 10, 4, 11, 12, 13, 14, 15, 31, 32, 33, 34, 35, 36, 37, 38, 39, 40, 41, 42] (by decide +kernel) (by decide +kernel)
set_option maxRecDepth 20000 in
theorem gX6_deep_X6_isReady : GoodIn wsX6_deep (wsV RX6 68 RX6 yX6_isReady wsX6_isReady) := goodIn_app (goodIn_of _ (by decide +kernel)) ggX6_deep_X6_isReady
set_option maxRecDepth 20000 in
theorem ggX6_deep_X6_classesAt : GoodIn wsX6_deep wsX6_classesAt := goodIn_r _ [19, 20, 21, 22, 23, 4, 24, 6, 25, 26, 12, 13, 14, 15, 7, 27, 28, 29, 30, 31, 32, 33, 34, 35, 36, 37, 38, 39, 40, 41, 42] (by decide +kernel) (by decide +kernel)
set_option maxRecDepth 20000 in
theorem gX6_deep_X6_classesAt : GoodIn wsX6_deep (wsV RX6 112 RX6 yX6_classesAt wsX6_classesAt) := goodIn_app (goodIn_of _ (by decide +kernel)) ggX6_deep_X6_classesAt
theorem dX6_deep_0 : decode cX6_deep 0 = .ok (.aload_n 0, 1) := by decide +kernel
theorem dX6_deep_1 : decode cX6_deep 1 = .ok (.invokevirtual 68, 3) := by decide +kernel
theorem dX6_deep_4 : decode cX6_deep 4 = .ok (.ifCond .ne 6, 3) := by decide +kernel
theorem dX6_deep_7 : decode cX6_deep 7 = .ok (.bipush (-3), 2) := by decide +kernel
theorem dX6_deep_9 : decode cX6_deep 9 = .ok (.ireturn, 1) := by decide +kernel
theorem dX6_deep_10 : decode cX6_deep 10 = .ok (.iconst 0, 1) := by decide +kernel
theorem dX6_deep_11 : decode cX6_deep 11 = .ok (.istore_n 1, 1) := by decide +kernel
theorem dX6_deep_12 : decode cX6_deep 12 = .ok (.aload_n 0, 1) := by decide +kernel
theorem dX6_deep_13 : decode cX6_deep 13 = .ok (.iload_n 1, 1) := by decide +kernel
theorem dX6_deep_14 : decode cX6_deep 14 = .ok (.invokevirtual 112, 3) := by decide +kernel
theorem dX6_deep_17 : decode cX6_deep 17 = .ok (.aload_n 0, 1) := by decide +kernel
theorem dX6_deep_18 : decode cX6_deep 18 = .ok (.iload_n 1, 1) := by decide +kernel
theorem dX6_deep_19 : decode cX6_deep 19 = .ok (.iconst 1, 1) := by decide +kernel
theorem dX6_deep_20 : decode cX6_deep 20 = .ok (.iadd, 1) := by decide +kernel
theorem dX6_deep_21 : decode cX6_deep 21 = .ok (.invokevirtual 112, 3) := by decide +kernel
theorem dX6_deep_24 : decode cX6_deep 24 = .ok (.if_icmp .eq 9, 3) := by decide +kernel
theorem dX6_deep_27 : decode cX6_deep 27 = .ok (.iinc 1 1, 3) := by decide +kernel
theorem dX6_deep_30 : decode cX6_deep 30 = .ok (.goto (-18), 3) := by decide +kernel
theorem dX6_deep_33 : decode cX6_deep 33 = .ok (.iload_n 1, 1) := by decide +kernel
theorem dX6_deep_34 : decode cX6_deep 34 = .ok (.ireturn, 1) := by decide +kernel
set_option maxRecDepth 20000 in
theorem ggX6_apart_X6_isPost : GoodIn wsX6_apart wsX6_isPost := goodIn_r _ [6, 7, 8, 9, 5, 10, 34, 35, 36, 37, 38, 39, 40, 41, 42, 43, 44, 45] (by decide +kernel) (by decide +kernel)
set_option maxRecDepth 20000 in
theorem gX6_apart_X6_isPost : GoodIn wsX6_apart (wsV RX6 46 RX6 yX6_isPost wsX6_isPost) := goodIn_app (goodIn_of _ (by decide +kernel)) ggX6_apart_X6_isPost
set_option maxRecDepth 20000 in
theorem ggX6_apart_X6_isReady : GoodIn wsX6_apart wsX6_isReady := goodIn_r _ [14, 7, 15, 16, 17, 18, 5, 19, 20, 21, 22, 23, 34, 35, 36, 37, 38, 39, 40, 41, 42, 43, 44, 45] (by decide +kernel) (by decide +kernel)
set_option maxRecDepth 20000 in
theorem gX6_apart_X6_isReady : GoodIn wsX6_apart (wsV RX6 68 RX6 yX6_isReady wsX6_isReady) := goodIn_app (goodIn_of _ (by decide +kernel)) ggX6_apart_X6_isReady
set_option maxRecDepth 20000 in
theorem ggX6_apart_X6_layLooks : GoodIn wsX6_apart wsX6_layLooks := goodIn_r _ [27, 28, 7, 1, 29, 20, 21, 22, 5, 23, 15, 30, 31, 32, 33, 34, 35, 36, 37, 38, 39, 40, 41, 42, 43, 44, 45] (by decide +kernel) (by decide +kernel)
set_option maxRecDepth 20000 in
theorem gX6_apart_X6_layLooks : GoodIn wsX6_apart (wsV RX6 109 RX6 yX6_layLooks wsX6_layLooks) := goodIn_app (goodIn_of _ (by decide +kernel)) ggX6_apart_X6_layLooks
theorem dX6_apart_0 : decode cX6_apart 0 = .ok (.aload_n 0, 1) := by decide +kernel
theorem dX6_apart_1 : decode cX6_apart 1 = .ok (.iload_n 1, 1) := by decide +kernel
theorem dX6_apart_2 : decode cX6_apart 2 = .ok (.invokevirtual 46, 3) := by decide +kernel
theorem dX6_apart_5 : decode cX6_apart 5 = .ok (.ifCond .eq 11, 3) := by decide +kernel
theorem dX6_apart_8 : decode cX6_apart 8 = .ok (.aload_n 0, 1) := by decide +kernel
theorem dX6_apart_9 : decode cX6_apart 9 = .ok (.iload_n 2, 1) := by decide +kernel
theorem dX6_apart_10 : decode cX6_apart 10 = .ok (.invokevirtual 46, 3) := by decide +kernel
theorem dX6_apart_13 : decode cX6_apart 13 = .ok (.ifCond .ne 5, 3) := by decide +kernel
theorem dX6_apart_16 : decode cX6_apart 16 = .ok (.iconst (-1), 1) := by decide +kernel
theorem dX6_apart_17 : decode cX6_apart 17 = .ok (.ireturn, 1) := by decide +kernel
theorem dX6_apart_18 : decode cX6_apart 18 = .ok (.aload_n 0, 1) := by decide +kernel
theorem dX6_apart_19 : decode cX6_apart 19 = .ok (.invokevirtual 68, 3) := by decide +kernel
theorem dX6_apart_22 : decode cX6_apart 22 = .ok (.ifCond .ne 6, 3) := by decide +kernel
theorem dX6_apart_25 : decode cX6_apart 25 = .ok (.bipush (-3), 2) := by decide +kernel
theorem dX6_apart_27 : decode cX6_apart 27 = .ok (.ireturn, 1) := by decide +kernel
theorem dX6_apart_28 : decode cX6_apart 28 = .ok (.iconst 0, 1) := by decide +kernel
theorem dX6_apart_29 : decode cX6_apart 29 = .ok (.istore_n 3, 1) := by decide +kernel
theorem dX6_apart_30 : decode cX6_apart 30 = .ok (.iload_n 3, 1) := by decide +kernel
theorem dX6_apart_31 : decode cX6_apart 31 = .ok (.bipush 10, 2) := by decide +kernel
theorem dX6_apart_33 : decode cX6_apart 33 = .ok (.if_icmp .ge 31, 3) := by decide +kernel
theorem dX6_apart_36 : decode cX6_apart 36 = .ok (.aload_n 0, 1) := by decide +kernel
theorem dX6_apart_37 : decode cX6_apart 37 = .ok (.iload_n 3, 1) := by decide +kernel
theorem dX6_apart_38 : decode cX6_apart 38 = .ok (.invokevirtual 109, 3) := by decide +kernel
theorem dX6_apart_41 : decode cX6_apart 41 = .ok (.aload_n 0, 1) := by decide +kernel
theorem dX6_apart_42 : decode cX6_apart 42 = .ok (.getfield 27, 3) := by decide +kernel
theorem dX6_apart_45 : decode cX6_apart 45 = .ok (.iload_n 1, 1) := by decide +kernel
theorem dX6_apart_46 : decode cX6_apart 46 = .ok (.iaload, 1) := by decide +kernel
theorem dX6_apart_47 : decode cX6_apart 47 = .ok (.aload_n 0, 1) := by decide +kernel
theorem dX6_apart_48 : decode cX6_apart 48 = .ok (.getfield 27, 3) := by decide +kernel
theorem dX6_apart_51 : decode cX6_apart 51 = .ok (.iload_n 2, 1) := by decide +kernel
theorem dX6_apart_52 : decode cX6_apart 52 = .ok (.iaload, 1) := by decide +kernel
theorem dX6_apart_53 : decode cX6_apart 53 = .ok (.if_icmp .eq 5, 3) := by decide +kernel
theorem dX6_apart_56 : decode cX6_apart 56 = .ok (.iload_n 3, 1) := by decide +kernel
theorem dX6_apart_57 : decode cX6_apart 57 = .ok (.ireturn, 1) := by decide +kernel
theorem dX6_apart_58 : decode cX6_apart 58 = .ok (.iinc 3 1, 3) := by decide +kernel
theorem dX6_apart_61 : decode cX6_apart 61 = .ok (.goto (-31), 3) := by decide +kernel
theorem dX6_apart_64 : decode cX6_apart 64 = .ok (.bipush (-6), 2) := by decide +kernel
theorem dX6_apart_66 : decode cX6_apart 66 = .ok (.ireturn, 1) := by decide +kernel
set_option maxRecDepth 20000 in
theorem ggX6_meetOf_X6_step : GoodIn wsX6_meetOf wsX6_step := goodIn_r _ [9, 2, 3, 10, 11, 12, 8, 13, 14, 15, 16, 17, 18, 19, 20, 21, 22, 23, 24, 25, 26, 27, 28, 29, 30, 31] (by decide +kernel) (by decide +kernel)
set_option maxRecDepth 20000 in
theorem gX6_meetOf_X6_step : GoodIn wsX6_meetOf (wsV RX6 85 RX6 yX6_step wsX6_step) := goodIn_app (goodIn_of _ (by decide +kernel)) ggX6_meetOf_X6_step
theorem dX6_meetOf_0 : decode cX6_meetOf 0 = .ok (.aload_n 0, 1) := by decide +kernel
theorem dX6_meetOf_1 : decode cX6_meetOf 1 = .ok (.getfield 21, 3) := by decide +kernel
theorem dX6_meetOf_4 : decode cX6_meetOf 4 = .ok (.iconst 0, 1) := by decide +kernel
theorem dX6_meetOf_5 : decode cX6_meetOf 5 = .ok (.iaload, 1) := by decide +kernel
theorem dX6_meetOf_6 : decode cX6_meetOf 6 = .ok (.iload_n 3, 1) := by decide +kernel
theorem dX6_meetOf_7 : decode cX6_meetOf 7 = .ok (.aload_n 0, 1) := by decide +kernel
theorem dX6_meetOf_8 : decode cX6_meetOf 8 = .ok (.getfield 21, 3) := by decide +kernel
theorem dX6_meetOf_11 : decode cX6_meetOf 11 = .ok (.iload 4, 2) := by decide +kernel
theorem dX6_meetOf_13 : decode cX6_meetOf 13 = .ok (.iaload, 1) := by decide +kernel
theorem dX6_meetOf_14 : decode cX6_meetOf 14 = .ok (.iadd, 1) := by decide +kernel
theorem dX6_meetOf_15 : decode cX6_meetOf 15 = .ok (.if_icmp .le 12, 3) := by decide +kernel
theorem dX6_meetOf_18 : decode cX6_meetOf 18 = .ok (.aload_n 0, 1) := by decide +kernel
theorem dX6_meetOf_19 : decode cX6_meetOf 19 = .ok (.getfield 21, 3) := by decide +kernel
theorem dX6_meetOf_22 : decode cX6_meetOf 22 = .ok (.iconst 0, 1) := by decide +kernel
theorem dX6_meetOf_23 : decode cX6_meetOf 23 = .ok (.iaload, 1) := by decide +kernel
theorem dX6_meetOf_24 : decode cX6_meetOf 24 = .ok (.goto 12, 3) := by decide +kernel
theorem dX6_meetOf_27 : decode cX6_meetOf 27 = .ok (.iload_n 3, 1) := by decide +kernel
theorem dX6_meetOf_28 : decode cX6_meetOf 28 = .ok (.aload_n 0, 1) := by decide +kernel
theorem dX6_meetOf_29 : decode cX6_meetOf 29 = .ok (.getfield 21, 3) := by decide +kernel
theorem dX6_meetOf_32 : decode cX6_meetOf 32 = .ok (.iload 4, 2) := by decide +kernel
theorem dX6_meetOf_34 : decode cX6_meetOf 34 = .ok (.iaload, 1) := by decide +kernel
theorem dX6_meetOf_35 : decode cX6_meetOf 35 = .ok (.iadd, 1) := by decide +kernel
theorem dX6_meetOf_36 : decode cX6_meetOf 36 = .ok (.istore 5, 2) := by decide +kernel
theorem dX6_meetOf_38 : decode cX6_meetOf 38 = .ok (.iload_n 1, 1) := by decide +kernel
theorem dX6_meetOf_39 : decode cX6_meetOf 39 = .ok (.istore 6, 2) := by decide +kernel
theorem dX6_meetOf_41 : decode cX6_meetOf 41 = .ok (.iconst 0, 1) := by decide +kernel
theorem dX6_meetOf_42 : decode cX6_meetOf 42 = .ok (.istore 7, 2) := by decide +kernel
theorem dX6_meetOf_44 : decode cX6_meetOf 44 = .ok (.iload_n 2, 1) := by decide +kernel
theorem dX6_meetOf_45 : decode cX6_meetOf 45 = .ok (.istore 8, 2) := by decide +kernel
theorem dX6_meetOf_47 : decode cX6_meetOf 47 = .ok (.iconst 0, 1) := by decide +kernel
theorem dX6_meetOf_48 : decode cX6_meetOf 48 = .ok (.istore 9, 2) := by decide +kernel
theorem dX6_meetOf_50 : decode cX6_meetOf 50 = .ok (.iconst 0, 1) := by decide +kernel
theorem dX6_meetOf_51 : decode cX6_meetOf 51 = .ok (.istore 10, 2) := by decide +kernel
theorem dX6_meetOf_53 : decode cX6_meetOf 53 = .ok (.iload 10, 2) := by decide +kernel
theorem dX6_meetOf_55 : decode cX6_meetOf 55 = .ok (.iload 5, 2) := by decide +kernel
theorem dX6_meetOf_57 : decode cX6_meetOf 57 = .ok (.if_icmp .gt 130, 3) := by decide +kernel
theorem dX6_meetOf_60 : decode cX6_meetOf 60 = .ok (.iload 6, 2) := by decide +kernel
theorem dX6_meetOf_62 : decode cX6_meetOf 62 = .ok (.iload 8, 2) := by decide +kernel
theorem dX6_meetOf_64 : decode cX6_meetOf 64 = .ok (.if_icmp .ne 6, 3) := by decide +kernel
theorem dX6_meetOf_67 : decode cX6_meetOf 67 = .ok (.iload 10, 2) := by decide +kernel
theorem dX6_meetOf_69 : decode cX6_meetOf 69 = .ok (.ireturn, 1) := by decide +kernel
theorem dX6_meetOf_70 : decode cX6_meetOf 70 = .ok (.iload 10, 2) := by decide +kernel
theorem dX6_meetOf_72 : decode cX6_meetOf 72 = .ok (.aload_n 0, 1) := by decide +kernel
theorem dX6_meetOf_73 : decode cX6_meetOf 73 = .ok (.getfield 21, 3) := by decide +kernel
theorem dX6_meetOf_76 : decode cX6_meetOf 76 = .ok (.iconst 0, 1) := by decide +kernel
theorem dX6_meetOf_77 : decode cX6_meetOf 77 = .ok (.iaload, 1) := by decide +kernel
theorem dX6_meetOf_78 : decode cX6_meetOf 78 = .ok (.if_icmp .ge 39, 3) := by decide +kernel
theorem dX6_meetOf_81 : decode cX6_meetOf 81 = .ok (.aload_n 0, 1) := by decide +kernel
theorem dX6_meetOf_82 : decode cX6_meetOf 82 = .ok (.iload 6, 2) := by decide +kernel
theorem dX6_meetOf_84 : decode cX6_meetOf 84 = .ok (.putfield 72, 3) := by decide +kernel
theorem dX6_meetOf_87 : decode cX6_meetOf 87 = .ok (.aload_n 0, 1) := by decide +kernel
theorem dX6_meetOf_88 : decode cX6_meetOf 88 = .ok (.iload 7, 2) := by decide +kernel
theorem dX6_meetOf_90 : decode cX6_meetOf 90 = .ok (.putfield 75, 3) := by decide +kernel
theorem dX6_meetOf_93 : decode cX6_meetOf 93 = .ok (.aload_n 0, 1) := by decide +kernel
theorem dX6_meetOf_94 : decode cX6_meetOf 94 = .ok (.iconst 0, 1) := by decide +kernel
theorem dX6_meetOf_95 : decode cX6_meetOf 95 = .ok (.aload_n 0, 1) := by decide +kernel
theorem dX6_meetOf_96 : decode cX6_meetOf 96 = .ok (.getfield 24, 3) := by decide +kernel
theorem dX6_meetOf_99 : decode cX6_meetOf 99 = .ok (.iload 10, 2) := by decide +kernel
theorem dX6_meetOf_101 : decode cX6_meetOf 101 = .ok (.iaload, 1) := by decide +kernel
theorem dX6_meetOf_102 : decode cX6_meetOf 102 = .ok (.invokevirtual 85, 3) := by decide +kernel
theorem dX6_meetOf_105 : decode cX6_meetOf 105 = .ok (.aload_n 0, 1) := by decide +kernel
theorem dX6_meetOf_106 : decode cX6_meetOf 106 = .ok (.getfield 72, 3) := by decide +kernel
theorem dX6_meetOf_109 : decode cX6_meetOf 109 = .ok (.istore 6, 2) := by decide +kernel
theorem dX6_meetOf_111 : decode cX6_meetOf 111 = .ok (.aload_n 0, 1) := by decide +kernel
theorem dX6_meetOf_112 : decode cX6_meetOf 112 = .ok (.getfield 75, 3) := by decide +kernel
theorem dX6_meetOf_115 : decode cX6_meetOf 115 = .ok (.istore 7, 2) := by decide +kernel
theorem dX6_meetOf_117 : decode cX6_meetOf 117 = .ok (.iload 10, 2) := by decide +kernel
theorem dX6_meetOf_119 : decode cX6_meetOf 119 = .ok (.iload_n 3, 1) := by decide +kernel
theorem dX6_meetOf_120 : decode cX6_meetOf 120 = .ok (.if_icmp .lt 61, 3) := by decide +kernel
theorem dX6_meetOf_123 : decode cX6_meetOf 123 = .ok (.iload 10, 2) := by decide +kernel
theorem dX6_meetOf_125 : decode cX6_meetOf 125 = .ok (.iload_n 3, 1) := by decide +kernel
theorem dX6_meetOf_126 : decode cX6_meetOf 126 = .ok (.isub, 1) := by decide +kernel
theorem dX6_meetOf_127 : decode cX6_meetOf 127 = .ok (.aload_n 0, 1) := by decide +kernel
theorem dX6_meetOf_128 : decode cX6_meetOf 128 = .ok (.getfield 21, 3) := by decide +kernel
theorem dX6_meetOf_131 : decode cX6_meetOf 131 = .ok (.iload 4, 2) := by decide +kernel
theorem dX6_meetOf_133 : decode cX6_meetOf 133 = .ok (.iaload, 1) := by decide +kernel
theorem dX6_meetOf_134 : decode cX6_meetOf 134 = .ok (.if_icmp .ge 47, 3) := by decide +kernel
theorem dX6_meetOf_137 : decode cX6_meetOf 137 = .ok (.aload_n 0, 1) := by decide +kernel
theorem dX6_meetOf_138 : decode cX6_meetOf 138 = .ok (.iload 8, 2) := by decide +kernel
theorem dX6_meetOf_140 : decode cX6_meetOf 140 = .ok (.putfield 72, 3) := by decide +kernel
theorem dX6_meetOf_143 : decode cX6_meetOf 143 = .ok (.aload_n 0, 1) := by decide +kernel
theorem dX6_meetOf_144 : decode cX6_meetOf 144 = .ok (.iload 9, 2) := by decide +kernel
theorem dX6_meetOf_146 : decode cX6_meetOf 146 = .ok (.putfield 75, 3) := by decide +kernel
theorem dX6_meetOf_149 : decode cX6_meetOf 149 = .ok (.aload_n 0, 1) := by decide +kernel
theorem dX6_meetOf_150 : decode cX6_meetOf 150 = .ok (.iconst 0, 1) := by decide +kernel
theorem dX6_meetOf_151 : decode cX6_meetOf 151 = .ok (.aload_n 0, 1) := by decide +kernel
theorem dX6_meetOf_152 : decode cX6_meetOf 152 = .ok (.getfield 24, 3) := by decide +kernel
theorem dX6_meetOf_155 : decode cX6_meetOf 155 = .ok (.bipush 40, 2) := by decide +kernel
theorem dX6_meetOf_157 : decode cX6_meetOf 157 = .ok (.iload 4, 2) := by decide +kernel
theorem dX6_meetOf_159 : decode cX6_meetOf 159 = .ok (.imul, 1) := by decide +kernel
theorem dX6_meetOf_160 : decode cX6_meetOf 160 = .ok (.iload 10, 2) := by decide +kernel
theorem dX6_meetOf_162 : decode cX6_meetOf 162 = .ok (.iadd, 1) := by decide +kernel
theorem dX6_meetOf_163 : decode cX6_meetOf 163 = .ok (.iload_n 3, 1) := by decide +kernel
theorem dX6_meetOf_164 : decode cX6_meetOf 164 = .ok (.isub, 1) := by decide +kernel
theorem dX6_meetOf_165 : decode cX6_meetOf 165 = .ok (.iaload, 1) := by decide +kernel
theorem dX6_meetOf_166 : decode cX6_meetOf 166 = .ok (.invokevirtual 85, 3) := by decide +kernel
theorem dX6_meetOf_169 : decode cX6_meetOf 169 = .ok (.aload_n 0, 1) := by decide +kernel
theorem dX6_meetOf_170 : decode cX6_meetOf 170 = .ok (.getfield 72, 3) := by decide +kernel
theorem dX6_meetOf_173 : decode cX6_meetOf 173 = .ok (.istore 8, 2) := by decide +kernel
theorem dX6_meetOf_175 : decode cX6_meetOf 175 = .ok (.aload_n 0, 1) := by decide +kernel
theorem dX6_meetOf_176 : decode cX6_meetOf 176 = .ok (.getfield 75, 3) := by decide +kernel
theorem dX6_meetOf_179 : decode cX6_meetOf 179 = .ok (.istore 9, 2) := by decide +kernel
theorem dX6_meetOf_181 : decode cX6_meetOf 181 = .ok (.iinc 10 1, 3) := by decide +kernel
theorem dX6_meetOf_184 : decode cX6_meetOf 184 = .ok (.goto (-131), 3) := by decide +kernel
theorem dX6_meetOf_187 : decode cX6_meetOf 187 = .ok (.bipush (-6), 2) := by decide +kernel
theorem dX6_meetOf_189 : decode cX6_meetOf 189 = .ok (.ireturn, 1) := by decide +kernel
set_option maxRecDepth 20000 in
theorem ggX6_meet_X6_isPost : GoodIn wsX6_meet wsX6_isPost := goodIn_r _ [5, 6, 7, 8, 4, 9, 40, 41, 42, 43, 44, 45, 46, 47, 48, 49, 50, 51] (by decide +kernel) (by decide +kernel)
set_option maxRecDepth 20000 in
theorem gX6_meet_X6_isPost : GoodIn wsX6_meet (wsV RX6 46 RX6 yX6_isPost wsX6_isPost) := goodIn_app (goodIn_of _ (by decide +kernel)) ggX6_meet_X6_isPost
set_option maxRecDepth 20000 in
theorem ggX6_meet_X6_in : GoodIn wsX6_meet wsX6_in := goodIn_r _ [9] (by decide +kernel) (by decide +kernel)
set_option maxRecDepth 20000 in
theorem gX6_meet_X6_in : GoodIn wsX6_meet (va_wsS RX6 42 yX6_in wsX6_in) := goodIn_app (goodIn_of _ (by decide +kernel)) ggX6_meet_X6_in
set_option maxRecDepth 20000 in
theorem ggX6_meet_X6_isReady : GoodIn wsX6_meet wsX6_isReady := goodIn_r _ [13, 6, 14, 15, 16, 17, 4, 18, 19, 20, 21, 22, 40, 41, 42, 43, 44, 45, 46, 47, 48, 49, 50, 51] (by decide +kernel) (by decide +kernel)
set_option maxRecDepth 20000 in
theorem gX6_meet_X6_isReady : GoodIn wsX6_meet (wsV RX6 68 RX6 yX6_isReady wsX6_isReady) := goodIn_app (goodIn_of _ (by decide +kernel)) ggX6_meet_X6_isReady
set_option maxRecDepth 20000 in
theorem ggX6_meet_X6_meetOf : GoodIn wsX6_meet wsX6_meetOf := goodIn_r _ [26, 27, 28, 29, 30, 31, 32, 33, 4, 34, 19, 20, 21, 22, 14, 35, 36, 37, 38, 39, 40, 41, 42, 43, 44, 45, 46, 47, 48, 49, 50, 51] (by decide +kernel) (by decide +kernel)
set_option maxRecDepth 20000 in
theorem gX6_meet_X6_meetOf : GoodIn wsX6_meet (wsV RX6 115 RX6 yX6_meetOf wsX6_meetOf) := goodIn_app (goodIn_of _ (by decide +kernel)) ggX6_meet_X6_meetOf
theorem dX6_meet_0 : decode cX6_meet 0 = .ok (.aload_n 0, 1) := by decide +kernel
theorem dX6_meet_1 : decode cX6_meet 1 = .ok (.iload_n 1, 1) := by decide +kernel
theorem dX6_meet_2 : decode cX6_meet 2 = .ok (.invokevirtual 46, 3) := by decide +kernel
theorem dX6_meet_5 : decode cX6_meet 5 = .ok (.ifCond .eq 11, 3) := by decide +kernel
theorem dX6_meet_8 : decode cX6_meet 8 = .ok (.aload_n 0, 1) := by decide +kernel
theorem dX6_meet_9 : decode cX6_meet 9 = .ok (.iload_n 2, 1) := by decide +kernel
theorem dX6_meet_10 : decode cX6_meet 10 = .ok (.invokevirtual 46, 3) := by decide +kernel
theorem dX6_meet_13 : decode cX6_meet 13 = .ok (.ifCond .ne 5, 3) := by decide +kernel
theorem dX6_meet_16 : decode cX6_meet 16 = .ok (.iconst (-1), 1) := by decide +kernel
theorem dX6_meet_17 : decode cX6_meet 17 = .ok (.ireturn, 1) := by decide +kernel
theorem dX6_meet_18 : decode cX6_meet 18 = .ok (.iload_n 3, 1) := by decide +kernel
theorem dX6_meet_19 : decode cX6_meet 19 = .ok (.iconst 0, 1) := by decide +kernel
theorem dX6_meet_20 : decode cX6_meet 20 = .ok (.bipush 20, 2) := by decide +kernel
theorem dX6_meet_22 : decode cX6_meet 22 = .ok (.invokestatic 42, 3) := by decide +kernel
theorem dX6_meet_25 : decode cX6_meet 25 = .ok (.ifCond .ne 6, 3) := by decide +kernel
theorem dX6_meet_28 : decode cX6_meet 28 = .ok (.bipush (-2), 2) := by decide +kernel
theorem dX6_meet_30 : decode cX6_meet 30 = .ok (.ireturn, 1) := by decide +kernel
theorem dX6_meet_31 : decode cX6_meet 31 = .ok (.aload_n 0, 1) := by decide +kernel
theorem dX6_meet_32 : decode cX6_meet 32 = .ok (.invokevirtual 68, 3) := by decide +kernel
theorem dX6_meet_35 : decode cX6_meet 35 = .ok (.ifCond .eq 23, 3) := by decide +kernel
theorem dX6_meet_38 : decode cX6_meet 38 = .ok (.aload_n 0, 1) := by decide +kernel
theorem dX6_meet_39 : decode cX6_meet 39 = .ok (.iload_n 1, 1) := by decide +kernel
theorem dX6_meet_40 : decode cX6_meet 40 = .ok (.iload_n 2, 1) := by decide +kernel
theorem dX6_meet_41 : decode cX6_meet 41 = .ok (.iload_n 3, 1) := by decide +kernel
theorem dX6_meet_42 : decode cX6_meet 42 = .ok (.iload 4, 2) := by decide +kernel
theorem dX6_meet_44 : decode cX6_meet 44 = .ok (.ifCond .eq 7, 3) := by decide +kernel
theorem dX6_meet_47 : decode cX6_meet 47 = .ok (.iconst 1, 1) := by decide +kernel
theorem dX6_meet_48 : decode cX6_meet 48 = .ok (.goto 4, 3) := by decide +kernel
theorem dX6_meet_51 : decode cX6_meet 51 = .ok (.iconst 0, 1) := by decide +kernel
theorem dX6_meet_52 : decode cX6_meet 52 = .ok (.invokevirtual 115, 3) := by decide +kernel
theorem dX6_meet_55 : decode cX6_meet 55 = .ok (.goto 5, 3) := by decide +kernel
theorem dX6_meet_58 : decode cX6_meet 58 = .ok (.bipush (-3), 2) := by decide +kernel
theorem dX6_meet_60 : decode cX6_meet 60 = .ok (.ireturn, 1) := by decide +kernel
set_option maxRecDepth 20000 in
theorem ggX6_worst_X6_in : GoodIn wsX6_worst wsX6_in := goodIn_r _ [5] (by decide +kernel) (by decide +kernel)
set_option maxRecDepth 20000 in
theorem gX6_worst_X6_in : GoodIn wsX6_worst (va_wsS RX6 42 yX6_in wsX6_in) := goodIn_app (goodIn_of _ (by decide +kernel)) ggX6_worst_X6_in
set_option maxRecDepth 20000 in
theorem ggX6_worst_X6_isReady : GoodIn wsX6_worst wsX6_isReady := goodIn_r _ [9, 1, 10, 11, 12, 13, 4, 14, 15, 16, 17, 18, 36, 37, 38, 39, 40, 41, 42, 43, 44, 45, 46, 47] (by decide +kernel) (by decide +kernel)
set_option maxRecDepth 20000 in
theorem gX6_worst_X6_isReady : GoodIn wsX6_worst (wsV RX6 68 RX6 yX6_isReady wsX6_isReady) := goodIn_app (goodIn_of _ (by decide +kernel)) ggX6_worst_X6_isReady
set_option maxRecDepth 20000 in
theorem ggX6_worst_X6_meetOf : GoodIn wsX6_worst wsX6_meetOf := goodIn_r _ [22, 23, 24, 25, 26, 27, 28, 29, 4, 30, 15, 16, 17, 18, 10, 31, 32, 33, 34, 35, 36, 37, 38, 39, 40, 41, 42, 43, 44, 45, 46, 47] (by decide +kernel) (by decide +kernel)
set_option maxRecDepth 20000 in
theorem gX6_worst_X6_meetOf : GoodIn wsX6_worst (wsV RX6 115 RX6 yX6_meetOf wsX6_meetOf) := goodIn_app (goodIn_of _ (by decide +kernel)) ggX6_worst_X6_meetOf
theorem dX6_worst_0 : decode cX6_worst 0 = .ok (.iload_n 1, 1) := by decide +kernel
theorem dX6_worst_1 : decode cX6_worst 1 = .ok (.iconst 0, 1) := by decide +kernel
theorem dX6_worst_2 : decode cX6_worst 2 = .ok (.bipush 20, 2) := by decide +kernel
theorem dX6_worst_4 : decode cX6_worst 4 = .ok (.invokestatic 42, 3) := by decide +kernel
theorem dX6_worst_7 : decode cX6_worst 7 = .ok (.ifCond .ne 6, 3) := by decide +kernel
theorem dX6_worst_10 : decode cX6_worst 10 = .ok (.bipush (-2), 2) := by decide +kernel
theorem dX6_worst_12 : decode cX6_worst 12 = .ok (.ireturn, 1) := by decide +kernel
theorem dX6_worst_13 : decode cX6_worst 13 = .ok (.aload_n 0, 1) := by decide +kernel
theorem dX6_worst_14 : decode cX6_worst 14 = .ok (.invokevirtual 68, 3) := by decide +kernel
theorem dX6_worst_17 : decode cX6_worst 17 = .ok (.ifCond .ne 6, 3) := by decide +kernel
theorem dX6_worst_20 : decode cX6_worst 20 = .ok (.bipush (-3), 2) := by decide +kernel
theorem dX6_worst_22 : decode cX6_worst 22 = .ok (.ireturn, 1) := by decide +kernel
theorem dX6_worst_23 : decode cX6_worst 23 = .ok (.iconst 0, 1) := by decide +kernel
theorem dX6_worst_24 : decode cX6_worst 24 = .ok (.istore_n 3, 1) := by decide +kernel
theorem dX6_worst_25 : decode cX6_worst 25 = .ok (.iconst 0, 1) := by decide +kernel
theorem dX6_worst_26 : decode cX6_worst 26 = .ok (.istore 4, 2) := by decide +kernel
theorem dX6_worst_28 : decode cX6_worst 28 = .ok (.iload 4, 2) := by decide +kernel
theorem dX6_worst_30 : decode cX6_worst 30 = .ok (.aload_n 0, 1) := by decide +kernel
theorem dX6_worst_31 : decode cX6_worst 31 = .ok (.getfield 7, 3) := by decide +kernel
theorem dX6_worst_34 : decode cX6_worst 34 = .ok (.aload_n 0, 1) := by decide +kernel
theorem dX6_worst_35 : decode cX6_worst 35 = .ok (.getfield 7, 3) := by decide +kernel
theorem dX6_worst_38 : decode cX6_worst 38 = .ok (.imul, 1) := by decide +kernel
theorem dX6_worst_39 : decode cX6_worst 39 = .ok (.iload_n 1, 1) := by decide +kernel
theorem dX6_worst_40 : decode cX6_worst 40 = .ok (.iconst 1, 1) := by decide +kernel
theorem dX6_worst_41 : decode cX6_worst 41 = .ok (.iadd, 1) := by decide +kernel
theorem dX6_worst_42 : decode cX6_worst 42 = .ok (.imul, 1) := by decide +kernel
theorem dX6_worst_43 : decode cX6_worst 43 = .ok (.if_icmp .ge 91, 3) := by decide +kernel
theorem dX6_worst_46 : decode cX6_worst 46 = .ok (.iload 4, 2) := by decide +kernel
theorem dX6_worst_48 : decode cX6_worst 48 = .ok (.aload_n 0, 1) := by decide +kernel
theorem dX6_worst_49 : decode cX6_worst 49 = .ok (.getfield 7, 3) := by decide +kernel
theorem dX6_worst_52 : decode cX6_worst 52 = .ok (.idiv, 1) := by decide +kernel
theorem dX6_worst_53 : decode cX6_worst 53 = .ok (.aload_n 0, 1) := by decide +kernel
theorem dX6_worst_54 : decode cX6_worst 54 = .ok (.getfield 7, 3) := by decide +kernel
theorem dX6_worst_57 : decode cX6_worst 57 = .ok (.irem, 1) := by decide +kernel
theorem dX6_worst_58 : decode cX6_worst 58 = .ok (.istore 5, 2) := by decide +kernel
theorem dX6_worst_60 : decode cX6_worst 60 = .ok (.iload 4, 2) := by decide +kernel
theorem dX6_worst_62 : decode cX6_worst 62 = .ok (.aload_n 0, 1) := by decide +kernel
theorem dX6_worst_63 : decode cX6_worst 63 = .ok (.getfield 7, 3) := by decide +kernel
theorem dX6_worst_66 : decode cX6_worst 66 = .ok (.irem, 1) := by decide +kernel
theorem dX6_worst_67 : decode cX6_worst 67 = .ok (.istore 6, 2) := by decide +kernel
theorem dX6_worst_69 : decode cX6_worst 69 = .ok (.iload 5, 2) := by decide +kernel
theorem dX6_worst_71 : decode cX6_worst 71 = .ok (.iload 6, 2) := by decide +kernel
theorem dX6_worst_73 : decode cX6_worst 73 = .ok (.if_icmp .eq 55, 3) := by decide +kernel
theorem dX6_worst_76 : decode cX6_worst 76 = .ok (.aload_n 0, 1) := by decide +kernel
theorem dX6_worst_77 : decode cX6_worst 77 = .ok (.iload 5, 2) := by decide +kernel
theorem dX6_worst_79 : decode cX6_worst 79 = .ok (.iload 6, 2) := by decide +kernel
theorem dX6_worst_81 : decode cX6_worst 81 = .ok (.iload 4, 2) := by decide +kernel
theorem dX6_worst_83 : decode cX6_worst 83 = .ok (.aload_n 0, 1) := by decide +kernel
theorem dX6_worst_84 : decode cX6_worst 84 = .ok (.getfield 7, 3) := by decide +kernel
theorem dX6_worst_87 : decode cX6_worst 87 = .ok (.aload_n 0, 1) := by decide +kernel
theorem dX6_worst_88 : decode cX6_worst 88 = .ok (.getfield 7, 3) := by decide +kernel
theorem dX6_worst_91 : decode cX6_worst 91 = .ok (.imul, 1) := by decide +kernel
theorem dX6_worst_92 : decode cX6_worst 92 = .ok (.idiv, 1) := by decide +kernel
theorem dX6_worst_93 : decode cX6_worst 93 = .ok (.iload_n 2, 1) := by decide +kernel
theorem dX6_worst_94 : decode cX6_worst 94 = .ok (.ifCond .eq 7, 3) := by decide +kernel
theorem dX6_worst_97 : decode cX6_worst 97 = .ok (.iconst 1, 1) := by decide +kernel
theorem dX6_worst_98 : decode cX6_worst 98 = .ok (.goto 4, 3) := by decide +kernel
theorem dX6_worst_101 : decode cX6_worst 101 = .ok (.iconst 0, 1) := by decide +kernel
theorem dX6_worst_102 : decode cX6_worst 102 = .ok (.invokevirtual 115, 3) := by decide +kernel
theorem dX6_worst_105 : decode cX6_worst 105 = .ok (.istore 7, 2) := by decide +kernel
theorem dX6_worst_107 : decode cX6_worst 107 = .ok (.iload 7, 2) := by decide +kernel
theorem dX6_worst_109 : decode cX6_worst 109 = .ok (.ifCond .ge 6, 3) := by decide +kernel
theorem dX6_worst_112 : decode cX6_worst 112 = .ok (.bipush (-6), 2) := by decide +kernel
theorem dX6_worst_114 : decode cX6_worst 114 = .ok (.ireturn, 1) := by decide +kernel
theorem dX6_worst_115 : decode cX6_worst 115 = .ok (.iload 7, 2) := by decide +kernel
theorem dX6_worst_117 : decode cX6_worst 117 = .ok (.iload_n 3, 1) := by decide +kernel
theorem dX6_worst_118 : decode cX6_worst 118 = .ok (.if_icmp .le 8, 3) := by decide +kernel
theorem dX6_worst_121 : decode cX6_worst 121 = .ok (.iload 7, 2) := by decide +kernel
theorem dX6_worst_123 : decode cX6_worst 123 = .ok (.goto 4, 3) := by decide +kernel
theorem dX6_worst_126 : decode cX6_worst 126 = .ok (.iload_n 3, 1) := by decide +kernel
theorem dX6_worst_127 : decode cX6_worst 127 = .ok (.istore_n 3, 1) := by decide +kernel
theorem dX6_worst_128 : decode cX6_worst 128 = .ok (.iinc 4 1, 3) := by decide +kernel
theorem dX6_worst_131 : decode cX6_worst 131 = .ok (.goto (-103), 3) := by decide +kernel
theorem dX6_worst_134 : decode cX6_worst 134 = .ok (.iload_n 3, 1) := by decide +kernel
theorem dX6_worst_135 : decode cX6_worst 135 = .ok (.ireturn, 1) := by decide +kernel
theorem dX6_walksRing_0 : decode cX6_walksRing 0 = .ok (.iload_n 2, 1) := by decide +kernel
theorem dX6_walksRing_1 : decode cX6_walksRing 1 = .ok (.istore 5, 2) := by decide +kernel
theorem dX6_walksRing_3 : decode cX6_walksRing 3 = .ok (.iconst 1, 1) := by decide +kernel
theorem dX6_walksRing_4 : decode cX6_walksRing 4 = .ok (.iload 5, 2) := by decide +kernel
theorem dX6_walksRing_6 : decode cX6_walksRing 6 = .ok (.ishl, 1) := by decide +kernel
theorem dX6_walksRing_7 : decode cX6_walksRing 7 = .ok (.istore 6, 2) := by decide +kernel
theorem dX6_walksRing_9 : decode cX6_walksRing 9 = .ok (.iload_n 3, 1) := by decide +kernel
theorem dX6_walksRing_10 : decode cX6_walksRing 10 = .ok (.iconst 1, 1) := by decide +kernel
theorem dX6_walksRing_11 : decode cX6_walksRing 11 = .ok (.isub, 1) := by decide +kernel
theorem dX6_walksRing_12 : decode cX6_walksRing 12 = .ok (.istore 7, 2) := by decide +kernel
theorem dX6_walksRing_14 : decode cX6_walksRing 14 = .ok (.iload 7, 2) := by decide +kernel
theorem dX6_walksRing_16 : decode cX6_walksRing 16 = .ok (.ifCond .lt 63, 3) := by decide +kernel
theorem dX6_walksRing_19 : decode cX6_walksRing 19 = .ok (.iload 4, 2) := by decide +kernel
theorem dX6_walksRing_21 : decode cX6_walksRing 21 = .ok (.iload 7, 2) := by decide +kernel
theorem dX6_walksRing_23 : decode cX6_walksRing 23 = .ok (.ishr, 1) := by decide +kernel
theorem dX6_walksRing_24 : decode cX6_walksRing 24 = .ok (.iconst 1, 1) := by decide +kernel
theorem dX6_walksRing_25 : decode cX6_walksRing 25 = .ok (.iand, 1) := by decide +kernel
theorem dX6_walksRing_26 : decode cX6_walksRing 26 = .ok (.iload_n 1, 1) := by decide +kernel
theorem dX6_walksRing_27 : decode cX6_walksRing 27 = .ok (.iload 5, 2) := by decide +kernel
theorem dX6_walksRing_29 : decode cX6_walksRing 29 = .ok (.ishr, 1) := by decide +kernel
theorem dX6_walksRing_30 : decode cX6_walksRing 30 = .ok (.iconst 1, 1) := by decide +kernel
theorem dX6_walksRing_31 : decode cX6_walksRing 31 = .ok (.iand, 1) := by decide +kernel
theorem dX6_walksRing_32 : decode cX6_walksRing 32 = .ok (.if_icmp .ne 7, 3) := by decide +kernel
theorem dX6_walksRing_35 : decode cX6_walksRing 35 = .ok (.iconst 1, 1) := by decide +kernel
theorem dX6_walksRing_36 : decode cX6_walksRing 36 = .ok (.goto 4, 3) := by decide +kernel
theorem dX6_walksRing_39 : decode cX6_walksRing 39 = .ok (.iconst 0, 1) := by decide +kernel
theorem dX6_walksRing_40 : decode cX6_walksRing 40 = .ok (.istore 8, 2) := by decide +kernel
theorem dX6_walksRing_42 : decode cX6_walksRing 42 = .ok (.iload 8, 2) := by decide +kernel
theorem dX6_walksRing_44 : decode cX6_walksRing 44 = .ok (.ifCond .eq 10, 3) := by decide +kernel
theorem dX6_walksRing_47 : decode cX6_walksRing 47 = .ok (.iload 5, 2) := by decide +kernel
theorem dX6_walksRing_49 : decode cX6_walksRing 49 = .ok (.iconst 1, 1) := by decide +kernel
theorem dX6_walksRing_50 : decode cX6_walksRing 50 = .ok (.iadd, 1) := by decide +kernel
theorem dX6_walksRing_51 : decode cX6_walksRing 51 = .ok (.goto 9, 3) := by decide +kernel
theorem dX6_walksRing_54 : decode cX6_walksRing 54 = .ok (.iload 5, 2) := by decide +kernel
theorem dX6_walksRing_56 : decode cX6_walksRing 56 = .ok (.iload_n 0, 1) := by decide +kernel
theorem dX6_walksRing_57 : decode cX6_walksRing 57 = .ok (.iadd, 1) := by decide +kernel
theorem dX6_walksRing_58 : decode cX6_walksRing 58 = .ok (.iconst 1, 1) := by decide +kernel
theorem dX6_walksRing_59 : decode cX6_walksRing 59 = .ok (.isub, 1) := by decide +kernel
theorem dX6_walksRing_60 : decode cX6_walksRing 60 = .ok (.iload_n 0, 1) := by decide +kernel
theorem dX6_walksRing_61 : decode cX6_walksRing 61 = .ok (.irem, 1) := by decide +kernel
theorem dX6_walksRing_62 : decode cX6_walksRing 62 = .ok (.istore 5, 2) := by decide +kernel
theorem dX6_walksRing_64 : decode cX6_walksRing 64 = .ok (.iload 6, 2) := by decide +kernel
theorem dX6_walksRing_66 : decode cX6_walksRing 66 = .ok (.iconst 1, 1) := by decide +kernel
theorem dX6_walksRing_67 : decode cX6_walksRing 67 = .ok (.iload 5, 2) := by decide +kernel
theorem dX6_walksRing_69 : decode cX6_walksRing 69 = .ok (.ishl, 1) := by decide +kernel
theorem dX6_walksRing_70 : decode cX6_walksRing 70 = .ok (.ior, 1) := by decide +kernel
theorem dX6_walksRing_71 : decode cX6_walksRing 71 = .ok (.istore 6, 2) := by decide +kernel
theorem dX6_walksRing_73 : decode cX6_walksRing 73 = .ok (.iinc 7 (-1), 3) := by decide +kernel
theorem dX6_walksRing_76 : decode cX6_walksRing 76 = .ok (.goto (-62), 3) := by decide +kernel
theorem dX6_walksRing_79 : decode cX6_walksRing 79 = .ok (.iload 6, 2) := by decide +kernel
theorem dX6_walksRing_81 : decode cX6_walksRing 81 = .ok (.iconst 1, 1) := by decide +kernel
theorem dX6_walksRing_82 : decode cX6_walksRing 82 = .ok (.iload_n 0, 1) := by decide +kernel
theorem dX6_walksRing_83 : decode cX6_walksRing 83 = .ok (.ishl, 1) := by decide +kernel
theorem dX6_walksRing_84 : decode cX6_walksRing 84 = .ok (.iconst 1, 1) := by decide +kernel
theorem dX6_walksRing_85 : decode cX6_walksRing 85 = .ok (.isub, 1) := by decide +kernel
theorem dX6_walksRing_86 : decode cX6_walksRing 86 = .ok (.if_icmp .ne 7, 3) := by decide +kernel
theorem dX6_walksRing_89 : decode cX6_walksRing 89 = .ok (.iconst 1, 1) := by decide +kernel
theorem dX6_walksRing_90 : decode cX6_walksRing 90 = .ok (.goto 4, 3) := by decide +kernel
theorem dX6_walksRing_93 : decode cX6_walksRing 93 = .ok (.iconst 0, 1) := by decide +kernel
theorem dX6_walksRing_94 : decode cX6_walksRing 94 = .ok (.ireturn, 1) := by decide +kernel
set_option maxRecDepth 20000 in
theorem ggX6_walksAllRings_X6_walksRing : GoodIn wsX6_walksAllRings wsX6_walksRing := goodIn_r _ [4] (by decide +kernel) (by decide +kernel)
set_option maxRecDepth 20000 in
theorem gX6_walksAllRings_X6_walksRing : GoodIn wsX6_walksAllRings (va_wsS RX6 119 yX6_walksRing wsX6_walksRing) := goodIn_app (goodIn_of _ (by decide +kernel)) ggX6_walksAllRings_X6_walksRing
theorem dX6_walksAllRings_0 : decode cX6_walksAllRings 0 = .ok (.iconst 1, 1) := by decide +kernel
theorem dX6_walksAllRings_1 : decode cX6_walksAllRings 1 = .ok (.istore_n 3, 1) := by decide +kernel
theorem dX6_walksAllRings_2 : decode cX6_walksAllRings 2 = .ok (.iconst 0, 1) := by decide +kernel
theorem dX6_walksAllRings_3 : decode cX6_walksAllRings 3 = .ok (.istore 4, 2) := by decide +kernel
theorem dX6_walksAllRings_5 : decode cX6_walksAllRings 5 = .ok (.iload 4, 2) := by decide +kernel
theorem dX6_walksAllRings_7 : decode cX6_walksAllRings 7 = .ok (.iconst 1, 1) := by decide +kernel
theorem dX6_walksAllRings_8 : decode cX6_walksAllRings 8 = .ok (.iload_n 0, 1) := by decide +kernel
theorem dX6_walksAllRings_9 : decode cX6_walksAllRings 9 = .ok (.ishl, 1) := by decide +kernel
theorem dX6_walksAllRings_10 : decode cX6_walksAllRings 10 = .ok (.if_icmp .ge 43, 3) := by decide +kernel
theorem dX6_walksAllRings_13 : decode cX6_walksAllRings 13 = .ok (.iload_n 3, 1) := by decide +kernel
theorem dX6_walksAllRings_14 : decode cX6_walksAllRings 14 = .ok (.ifCond .eq 39, 3) := by decide +kernel
theorem dX6_walksAllRings_17 : decode cX6_walksAllRings 17 = .ok (.iconst 0, 1) := by decide +kernel
theorem dX6_walksAllRings_18 : decode cX6_walksAllRings 18 = .ok (.istore 5, 2) := by decide +kernel
theorem dX6_walksAllRings_20 : decode cX6_walksAllRings 20 = .ok (.iload 5, 2) := by decide +kernel
theorem dX6_walksAllRings_22 : decode cX6_walksAllRings 22 = .ok (.iload_n 0, 1) := by decide +kernel
theorem dX6_walksAllRings_23 : decode cX6_walksAllRings 23 = .ok (.if_icmp .ge 24, 3) := by decide +kernel
theorem dX6_walksAllRings_26 : decode cX6_walksAllRings 26 = .ok (.iload_n 3, 1) := by decide +kernel
theorem dX6_walksAllRings_27 : decode cX6_walksAllRings 27 = .ok (.ifCond .eq 20, 3) := by decide +kernel
theorem dX6_walksAllRings_30 : decode cX6_walksAllRings 30 = .ok (.iload_n 0, 1) := by decide +kernel
theorem dX6_walksAllRings_31 : decode cX6_walksAllRings 31 = .ok (.iload 4, 2) := by decide +kernel
theorem dX6_walksAllRings_33 : decode cX6_walksAllRings 33 = .ok (.iload 5, 2) := by decide +kernel
theorem dX6_walksAllRings_35 : decode cX6_walksAllRings 35 = .ok (.iload_n 1, 1) := by decide +kernel
theorem dX6_walksAllRings_36 : decode cX6_walksAllRings 36 = .ok (.iload_n 2, 1) := by decide +kernel
theorem dX6_walksAllRings_37 : decode cX6_walksAllRings 37 = .ok (.invokestatic 119, 3) := by decide +kernel
theorem dX6_walksAllRings_40 : decode cX6_walksAllRings 40 = .ok (.istore_n 3, 1) := by decide +kernel
theorem dX6_walksAllRings_41 : decode cX6_walksAllRings 41 = .ok (.iinc 5 1, 3) := by decide +kernel
theorem dX6_walksAllRings_44 : decode cX6_walksAllRings 44 = .ok (.goto (-24), 3) := by decide +kernel
theorem dX6_walksAllRings_47 : decode cX6_walksAllRings 47 = .ok (.iinc 4 1, 3) := by decide +kernel
theorem dX6_walksAllRings_50 : decode cX6_walksAllRings 50 = .ok (.goto (-45), 3) := by decide +kernel
theorem dX6_walksAllRings_53 : decode cX6_walksAllRings 53 = .ok (.iload_n 3, 1) := by decide +kernel
theorem dX6_walksAllRings_54 : decode cX6_walksAllRings 54 = .ok (.ireturn, 1) := by decide +kernel
set_option maxRecDepth 20000 in
theorem ggX6_findRing_X6_walksAllRings : GoodIn wsX6_findRing wsX6_walksAllRings := goodIn_r _ [6, 7, 8, 5, 9] (by decide +kernel) (by decide +kernel)
set_option maxRecDepth 20000 in
theorem gX6_findRing_X6_walksAllRings : GoodIn wsX6_findRing (va_wsS RX6 123 yX6_walksAllRings wsX6_walksAllRings) := goodIn_app (goodIn_of _ (by decide +kernel)) ggX6_findRing_X6_walksAllRings
theorem dX6_findRing_0 : decode cX6_findRing 0 = .ok (.iconst 1, 1) := by decide +kernel
theorem dX6_findRing_1 : decode cX6_findRing 1 = .ok (.istore_n 2, 1) := by decide +kernel
theorem dX6_findRing_2 : decode cX6_findRing 2 = .ok (.iload_n 2, 1) := by decide +kernel
theorem dX6_findRing_3 : decode cX6_findRing 3 = .ok (.bipush 12, 2) := by decide +kernel
theorem dX6_findRing_5 : decode cX6_findRing 5 = .ok (.if_icmp .gt 65, 3) := by decide +kernel
theorem dX6_findRing_8 : decode cX6_findRing 8 = .ok (.aload_n 0, 1) := by decide +kernel
theorem dX6_findRing_9 : decode cX6_findRing 9 = .ok (.getfield 33, 3) := by decide +kernel
theorem dX6_findRing_12 : decode cX6_findRing 12 = .ok (.iload_n 1, 1) := by decide +kernel
theorem dX6_findRing_13 : decode cX6_findRing 13 = .ok (.iaload, 1) := by decide +kernel
theorem dX6_findRing_14 : decode cX6_findRing 14 = .ok (.ifCond .ne 56, 3) := by decide +kernel
theorem dX6_findRing_17 : decode cX6_findRing 17 = .ok (.iconst 0, 1) := by decide +kernel
theorem dX6_findRing_18 : decode cX6_findRing 18 = .ok (.istore_n 3, 1) := by decide +kernel
theorem dX6_findRing_19 : decode cX6_findRing 19 = .ok (.iload_n 3, 1) := by decide +kernel
theorem dX6_findRing_20 : decode cX6_findRing 20 = .ok (.iconst 1, 1) := by decide +kernel
theorem dX6_findRing_21 : decode cX6_findRing 21 = .ok (.iload_n 2, 1) := by decide +kernel
theorem dX6_findRing_22 : decode cX6_findRing 22 = .ok (.ishl, 1) := by decide +kernel
theorem dX6_findRing_23 : decode cX6_findRing 23 = .ok (.if_icmp .ge 41, 3) := by decide +kernel
theorem dX6_findRing_26 : decode cX6_findRing 26 = .ok (.aload_n 0, 1) := by decide +kernel
theorem dX6_findRing_27 : decode cX6_findRing 27 = .ok (.getfield 33, 3) := by decide +kernel
theorem dX6_findRing_30 : decode cX6_findRing 30 = .ok (.iload_n 1, 1) := by decide +kernel
theorem dX6_findRing_31 : decode cX6_findRing 31 = .ok (.iaload, 1) := by decide +kernel
theorem dX6_findRing_32 : decode cX6_findRing 32 = .ok (.ifCond .ne 32, 3) := by decide +kernel
theorem dX6_findRing_35 : decode cX6_findRing 35 = .ok (.iload_n 1, 1) := by decide +kernel
theorem dX6_findRing_36 : decode cX6_findRing 36 = .ok (.iload_n 2, 1) := by decide +kernel
theorem dX6_findRing_37 : decode cX6_findRing 37 = .ok (.iload_n 3, 1) := by decide +kernel
theorem dX6_findRing_38 : decode cX6_findRing 38 = .ok (.invokestatic 123, 3) := by decide +kernel
theorem dX6_findRing_41 : decode cX6_findRing 41 = .ok (.ifCond .eq 17, 3) := by decide +kernel
theorem dX6_findRing_44 : decode cX6_findRing 44 = .ok (.aload_n 0, 1) := by decide +kernel
theorem dX6_findRing_45 : decode cX6_findRing 45 = .ok (.getfield 33, 3) := by decide +kernel
theorem dX6_findRing_48 : decode cX6_findRing 48 = .ok (.iload_n 1, 1) := by decide +kernel
theorem dX6_findRing_49 : decode cX6_findRing 49 = .ok (.iload_n 2, 1) := by decide +kernel
theorem dX6_findRing_50 : decode cX6_findRing 50 = .ok (.iastore, 1) := by decide +kernel
theorem dX6_findRing_51 : decode cX6_findRing 51 = .ok (.aload_n 0, 1) := by decide +kernel
theorem dX6_findRing_52 : decode cX6_findRing 52 = .ok (.getfield 36, 3) := by decide +kernel
theorem dX6_findRing_55 : decode cX6_findRing 55 = .ok (.iload_n 1, 1) := by decide +kernel
theorem dX6_findRing_56 : decode cX6_findRing 56 = .ok (.iload_n 3, 1) := by decide +kernel
theorem dX6_findRing_57 : decode cX6_findRing 57 = .ok (.iastore, 1) := by decide +kernel
theorem dX6_findRing_58 : decode cX6_findRing 58 = .ok (.iinc 3 1, 3) := by decide +kernel
theorem dX6_findRing_61 : decode cX6_findRing 61 = .ok (.goto (-42), 3) := by decide +kernel
theorem dX6_findRing_64 : decode cX6_findRing 64 = .ok (.iinc 2 1, 3) := by decide +kernel
theorem dX6_findRing_67 : decode cX6_findRing 67 = .ok (.goto (-65), 3) := by decide +kernel
theorem dX6_findRing_70 : decode cX6_findRing 70 = .ok (.return_, 1) := by decide +kernel
set_option maxRecDepth 20000 in
theorem ggX6_ring_X6_in : GoodIn wsX6_ring wsX6_in := goodIn_r _ [6] (by decide +kernel) (by decide +kernel)
set_option maxRecDepth 20000 in
theorem gX6_ring_X6_in : GoodIn wsX6_ring (va_wsS RX6 42 yX6_in wsX6_in) := goodIn_app (goodIn_of _ (by decide +kernel)) ggX6_ring_X6_in
set_option maxRecDepth 20000 in
theorem ggX6_ring_X6_findRing : GoodIn wsX6_ring wsX6_findRing := goodIn_r _ [10, 1, 2, 11, 12, 5, 13, 14, 15, 16, 17, 18, 19, 20, 21, 22, 23, 24, 25, 26, 27, 28] (by decide +kernel) (by decide +kernel)
set_option maxRecDepth 20000 in
theorem gX6_ring_X6_findRing : GoodIn wsX6_ring (wsV RX6 126 RX6 yX6_findRing wsX6_findRing) := goodIn_app (goodIn_of _ (by decide +kernel)) ggX6_ring_X6_findRing
theorem dX6_ring_0 : decode cX6_ring 0 = .ok (.iload_n 1, 1) := by decide +kernel
theorem dX6_ring_1 : decode cX6_ring 1 = .ok (.iconst 2, 1) := by decide +kernel
theorem dX6_ring_2 : decode cX6_ring 2 = .ok (.iconst 4, 1) := by decide +kernel
theorem dX6_ring_3 : decode cX6_ring 3 = .ok (.invokestatic 42, 3) := by decide +kernel
theorem dX6_ring_6 : decode cX6_ring 6 = .ok (.ifCond .ne 6, 3) := by decide +kernel
theorem dX6_ring_9 : decode cX6_ring 9 = .ok (.bipush (-2), 2) := by decide +kernel
theorem dX6_ring_11 : decode cX6_ring 11 = .ok (.ireturn, 1) := by decide +kernel
theorem dX6_ring_12 : decode cX6_ring 12 = .ok (.aload_n 0, 1) := by decide +kernel
theorem dX6_ring_13 : decode cX6_ring 13 = .ok (.iload_n 1, 1) := by decide +kernel
theorem dX6_ring_14 : decode cX6_ring 14 = .ok (.invokevirtual 126, 3) := by decide +kernel
theorem dX6_ring_17 : decode cX6_ring 17 = .ok (.aload_n 0, 1) := by decide +kernel
theorem dX6_ring_18 : decode cX6_ring 18 = .ok (.getfield 33, 3) := by decide +kernel
theorem dX6_ring_21 : decode cX6_ring 21 = .ok (.iload_n 1, 1) := by decide +kernel
theorem dX6_ring_22 : decode cX6_ring 22 = .ok (.iaload, 1) := by decide +kernel
theorem dX6_ring_23 : decode cX6_ring 23 = .ok (.ifCond .ne 6, 3) := by decide +kernel
theorem dX6_ring_26 : decode cX6_ring 26 = .ok (.bipush (-6), 2) := by decide +kernel
theorem dX6_ring_28 : decode cX6_ring 28 = .ok (.ireturn, 1) := by decide +kernel
theorem dX6_ring_29 : decode cX6_ring 29 = .ok (.iload_n 2, 1) := by decide +kernel
theorem dX6_ring_30 : decode cX6_ring 30 = .ok (.iconst (-1), 1) := by decide +kernel
theorem dX6_ring_31 : decode cX6_ring 31 = .ok (.if_icmp .ne 12, 3) := by decide +kernel
theorem dX6_ring_34 : decode cX6_ring 34 = .ok (.aload_n 0, 1) := by decide +kernel
theorem dX6_ring_35 : decode cX6_ring 35 = .ok (.getfield 33, 3) := by decide +kernel
theorem dX6_ring_38 : decode cX6_ring 38 = .ok (.iload_n 1, 1) := by decide +kernel
theorem dX6_ring_39 : decode cX6_ring 39 = .ok (.iaload, 1) := by decide +kernel
theorem dX6_ring_40 : decode cX6_ring 40 = .ok (.goto 43, 3) := by decide +kernel
theorem dX6_ring_43 : decode cX6_ring 43 = .ok (.iload_n 2, 1) := by decide +kernel
theorem dX6_ring_44 : decode cX6_ring 44 = .ok (.iconst 0, 1) := by decide +kernel
theorem dX6_ring_45 : decode cX6_ring 45 = .ok (.aload_n 0, 1) := by decide +kernel
theorem dX6_ring_46 : decode cX6_ring 46 = .ok (.getfield 33, 3) := by decide +kernel
theorem dX6_ring_49 : decode cX6_ring 49 = .ok (.iload_n 1, 1) := by decide +kernel
theorem dX6_ring_50 : decode cX6_ring 50 = .ok (.iaload, 1) := by decide +kernel
theorem dX6_ring_51 : decode cX6_ring 51 = .ok (.iconst 1, 1) := by decide +kernel
theorem dX6_ring_52 : decode cX6_ring 52 = .ok (.isub, 1) := by decide +kernel
theorem dX6_ring_53 : decode cX6_ring 53 = .ok (.invokestatic 42, 3) := by decide +kernel
theorem dX6_ring_56 : decode cX6_ring 56 = .ok (.ifCond .eq 25, 3) := by decide +kernel
theorem dX6_ring_59 : decode cX6_ring 59 = .ok (.aload_n 0, 1) := by decide +kernel
theorem dX6_ring_60 : decode cX6_ring 60 = .ok (.getfield 36, 3) := by decide +kernel
theorem dX6_ring_63 : decode cX6_ring 63 = .ok (.iload_n 1, 1) := by decide +kernel
theorem dX6_ring_64 : decode cX6_ring 64 = .ok (.iaload, 1) := by decide +kernel
theorem dX6_ring_65 : decode cX6_ring 65 = .ok (.aload_n 0, 1) := by decide +kernel
theorem dX6_ring_66 : decode cX6_ring 66 = .ok (.getfield 33, 3) := by decide +kernel
theorem dX6_ring_69 : decode cX6_ring 69 = .ok (.iload_n 1, 1) := by decide +kernel
theorem dX6_ring_70 : decode cX6_ring 70 = .ok (.iaload, 1) := by decide +kernel
theorem dX6_ring_71 : decode cX6_ring 71 = .ok (.iconst 1, 1) := by decide +kernel
theorem dX6_ring_72 : decode cX6_ring 72 = .ok (.isub, 1) := by decide +kernel
theorem dX6_ring_73 : decode cX6_ring 73 = .ok (.iload_n 2, 1) := by decide +kernel
theorem dX6_ring_74 : decode cX6_ring 74 = .ok (.isub, 1) := by decide +kernel
theorem dX6_ring_75 : decode cX6_ring 75 = .ok (.ishr, 1) := by decide +kernel
theorem dX6_ring_76 : decode cX6_ring 76 = .ok (.iconst 1, 1) := by decide +kernel
theorem dX6_ring_77 : decode cX6_ring 77 = .ok (.iand, 1) := by decide +kernel
theorem dX6_ring_78 : decode cX6_ring 78 = .ok (.goto 5, 3) := by decide +kernel
theorem dX6_ring_81 : decode cX6_ring 81 = .ok (.bipush (-6), 2) := by decide +kernel
theorem dX6_ring_83 : decode cX6_ring 83 = .ok (.ireturn, 1) := by decide +kernel
set_option maxRecDepth 20000 in
theorem ggX6_told_X6_pairs : GoodIn wsX6_told wsX6_pairs := goodIn_r _ [8, 9, 10, 11, 12, 13, 14, 15, 16, 17, 18, 19, 20, 21] (by decide +kernel) (by decide +kernel)
set_option maxRecDepth 20000 in
theorem gX6_told_X6_pairs : GoodIn wsX6_told (wsV RX6 54 RX6 yX6_pairs wsX6_pairs) := goodIn_app (goodIn_of _ (by decide +kernel)) ggX6_told_X6_pairs
theorem dX6_told_0 : decode cX6_told 0 = .ok (.iload_n 1, 1) := by decide +kernel
theorem dX6_told_1 : decode cX6_told 1 = .ok (.tableswitch 89 0 4 #[35, 40, 45, 45, 54], 35) := by decide +kernel
theorem dX6_told_36 : decode cX6_told 36 = .ok (.aload_n 0, 1) := by decide +kernel
theorem dX6_told_37 : decode cX6_told 37 = .ok (.getfield 7, 3) := by decide +kernel
theorem dX6_told_40 : decode cX6_told 40 = .ok (.ireturn, 1) := by decide +kernel
theorem dX6_told_41 : decode cX6_told 41 = .ok (.aload_n 0, 1) := by decide +kernel
theorem dX6_told_42 : decode cX6_told 42 = .ok (.invokevirtual 54, 3) := by decide +kernel
theorem dX6_told_45 : decode cX6_told 45 = .ok (.ireturn, 1) := by decide +kernel
theorem dX6_told_46 : decode cX6_told 46 = .ok (.aload_n 0, 1) := by decide +kernel
theorem dX6_told_47 : decode cX6_told 47 = .ok (.getfield 21, 3) := by decide +kernel
theorem dX6_told_50 : decode cX6_told 50 = .ok (.iload_n 1, 1) := by decide +kernel
theorem dX6_told_51 : decode cX6_told 51 = .ok (.iconst 2, 1) := by decide +kernel
theorem dX6_told_52 : decode cX6_told 52 = .ok (.isub, 1) := by decide +kernel
theorem dX6_told_53 : decode cX6_told 53 = .ok (.iaload, 1) := by decide +kernel
theorem dX6_told_54 : decode cX6_told 54 = .ok (.ireturn, 1) := by decide +kernel
theorem dX6_told_55 : decode cX6_told 55 = .ok (.iconst 0, 1) := by decide +kernel
theorem dX6_told_56 : decode cX6_told 56 = .ok (.istore_n 2, 1) := by decide +kernel
theorem dX6_told_57 : decode cX6_told 57 = .ok (.iconst 0, 1) := by decide +kernel
theorem dX6_told_58 : decode cX6_told 58 = .ok (.istore_n 3, 1) := by decide +kernel
theorem dX6_told_59 : decode cX6_told 59 = .ok (.iload_n 3, 1) := by decide +kernel
theorem dX6_told_60 : decode cX6_told 60 = .ok (.bipush 32, 2) := by decide +kernel
theorem dX6_told_62 : decode cX6_told 62 = .ok (.if_icmp .ge 26, 3) := by decide +kernel
theorem dX6_told_65 : decode cX6_told 65 = .ok (.iload_n 2, 1) := by decide +kernel
theorem dX6_told_66 : decode cX6_told 66 = .ok (.aload_n 0, 1) := by decide +kernel
theorem dX6_told_67 : decode cX6_told 67 = .ok (.getfield 17, 3) := by decide +kernel
theorem dX6_told_70 : decode cX6_told 70 = .ok (.iload_n 3, 1) := by decide +kernel
theorem dX6_told_71 : decode cX6_told 71 = .ok (.baload, 1) := by decide +kernel
theorem dX6_told_72 : decode cX6_told 72 = .ok (.ifCond .eq 7, 3) := by decide +kernel
theorem dX6_told_75 : decode cX6_told 75 = .ok (.iconst 1, 1) := by decide +kernel
theorem dX6_told_76 : decode cX6_told 76 = .ok (.goto 4, 3) := by decide +kernel
theorem dX6_told_79 : decode cX6_told 79 = .ok (.iconst 0, 1) := by decide +kernel
theorem dX6_told_80 : decode cX6_told 80 = .ok (.iadd, 1) := by decide +kernel
theorem dX6_told_81 : decode cX6_told 81 = .ok (.istore_n 2, 1) := by decide +kernel
theorem dX6_told_82 : decode cX6_told 82 = .ok (.iinc 3 1, 3) := by decide +kernel
theorem dX6_told_85 : decode cX6_told 85 = .ok (.goto (-26), 3) := by decide +kernel
theorem dX6_told_88 : decode cX6_told 88 = .ok (.iload_n 2, 1) := by decide +kernel
theorem dX6_told_89 : decode cX6_told 89 = .ok (.ireturn, 1) := by decide +kernel
theorem dX6_told_90 : decode cX6_told 90 = .ok (.bipush (-2), 2) := by decide +kernel
theorem dX6_told_92 : decode cX6_told 92 = .ok (.ireturn, 1) := by decide +kernel
theorem dJ9_max_7cf53_0 : decode cJ9_max_7cf53 0 = .ok (.iload_n 0, 1) := by decide +kernel
theorem dJ9_max_7cf53_1 : decode cJ9_max_7cf53 1 = .ok (.iload_n 1, 1) := by decide +kernel
theorem dJ9_max_7cf53_2 : decode cJ9_max_7cf53 2 = .ok (.if_icmp .lt 7, 3) := by decide +kernel
theorem dJ9_max_7cf53_5 : decode cJ9_max_7cf53 5 = .ok (.iload_n 0, 1) := by decide +kernel
theorem dJ9_max_7cf53_6 : decode cJ9_max_7cf53 6 = .ok (.goto 4, 3) := by decide +kernel
theorem dJ9_max_7cf53_9 : decode cJ9_max_7cf53 9 = .ok (.iload_n 1, 1) := by decide +kernel
theorem dJ9_max_7cf53_10 : decode cJ9_max_7cf53 10 = .ok (.ireturn, 1) := by decide +kernel
abbrev vwCl : List vw_C := [(RX0, TX0, 1), (RX1, TX1, 4), (RX2, TX2, 5), (RX3, TX3, 2), (RX4, TX4, 2), (RX5, TX5, 6), (RX6, TX6, 12)]
