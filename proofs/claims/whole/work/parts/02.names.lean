/-! ===== BEGIN words of one list among another's, by their places ===== -/
theorem goodIn_r {big : List Cond} (ws : List Cond) (ps : List Nat) (hp : ws = ps.filterMap (fun i => big[i]?)) (h : ws.all goodWord = true) : GoodIn big ws := by
  intro w hw
  have h1 := List.all_eq_true.mp h w hw
  rw [hp] at hw
  obtain ⟨i, -, hi⟩ := List.mem_filterMap.mp hw
  have hm : w ∈ big := by first | exact List.mem_of_getElem? hi | exact List.getElem?_mem hi
  exact ⟨hm, good_of_word h1⟩
theorem goodIn_app {big a b : List Cond} (ha : GoodIn big a) (hb : GoodIn big b) : GoodIn big (a ++ b) := fun w h => (List.mem_append.mp h).elim (ha w) (hb w)
theorem goodIn_ca {big a b : List Cond} {c : Cond} (ha : GoodIn big (c :: a)) (hb : GoodIn big b) : GoodIn big (c :: (a ++ b)) := fun w h => (List.mem_cons.mp h).elim (fun e => ha w (List.mem_cons.mpr (Or.inl e))) (fun h => (List.mem_append.mp h).elim (fun h => ha w (List.mem_cons.mpr (Or.inr h))) (hb w))
theorem goodIn_sub {big ws : List Cond} (hm : ∀ w ∈ ws, w ∈ big) (h : ws.all goodWord = true) : GoodIn big ws := fun w hw => ⟨hm w hw, good_of_word (List.all_eq_true.mp h w hw)⟩
/-! ===== END ===== -/
def RX0 : String := "LateMover$Expressions"
def TX0 : u_T := fun k => match k with
  | 0 => ("LateMover$Expressions", "sign", "[I", true)
  | 1 => ("LateMover$Expressions", "left", "[I", true)
  | 2 => ("LateMover$Expressions", "right", "[I", true)
  | _ => ("LateMover$Expressions", "count", "I", false)
def tyX0 : Nat → FieldType := fun k => match k with
  | 0 => .array .int
  | 1 => .array .int
  | 2 => .array .int
  | _ => .int
abbrev wsX00 : List Cond := u_ws RX0 TX0 4
theorem nmX0 : ∀ a, a < 4 → ∀ b, b < 4 → a ≠ b → (TX0 a).2.1 ≠ (TX0 b).2.1 := by decide +kernel
theorem tyX0_ok : ∀ k, k < 4 → parseFieldDescriptor (TX0 k).2.2.1 = some (tyX0 k) := by decide +kernel
abbrev cX0_init : ByteArray := prog_2_method_1_code
def yX0_init : MethodName := ⟨RX0, "<init>", "()V"⟩
abbrev cX0_isOne : ByteArray := prog_2_method_2_code
def yX0_isOne : MethodName := ⟨RX0, "isOne", "(I)Z"⟩
abbrev cX0_numberOf : ByteArray := prog_2_method_3_code
def yX0_numberOf : MethodName := ⟨RX0, "numberOf", "(III)I"⟩
abbrev cX0_isRisky : ByteArray := prog_2_method_4_code
def yX0_isRisky : MethodName := ⟨RX0, "isRisky", "(I)Z"⟩
abbrev cX0_lettersOf : ByteArray := prog_2_method_5_code
def yX0_lettersOf : MethodName := ⟨RX0, "lettersOf", "(I)I"⟩
abbrev cX0_letterBit : ByteArray := prog_2_method_6_code
def yX0_letterBit : MethodName := ⟨RX0, "letterBit", "(I)I"⟩
abbrev cX0_copyFrom : ByteArray := prog_2_method_7_code
def yX0_copyFrom : MethodName := ⟨RX0, "copyFrom", "(LLateMover$Expressions;)V"⟩
def RX1 : String := "LateMover$Facts"
def TX1 : u_T := fun k => match k with
  | 0 => ("LateMover$Facts", "flow", "LLateMover$Flow;", true)
  | 1 => ("LateMover$Facts", "uses", "[I", true)
  | 2 => ("LateMover$Facts", "keeps", "[I", true)
  | 3 => ("LateMover$Facts", "needed", "[I", true)
  | 4 => ("LateMover$Facts", "atHand", "[I", true)
  | 5 => ("LateMover$Facts", "early", "[I", true)
  | 6 => ("LateMover$Facts", "delayed", "[I", true)
  | 7 => ("LateMover$Facts", "late", "[I", true)
  | 8 => ("LateMover$Facts", "alone", "[I", true)
  | 9 => ("LateMover$Facts", "maybe", "[I", true)
  | 10 => ("LateMover$Facts", "live", "[I", true)
  | 11 => ("LateMover$Facts", "ends", "[I", true)
  | 12 => ("LateMover$Facts", "sound", "Z", false)
  | _ => ("LateMover$Facts", "all", "I", false)
def tyX1 : Nat → FieldType := fun k => match k with
  | 0 => .object "LateMover$Flow"
  | 1 => .array .int
  | 2 => .array .int
  | 3 => .array .int
  | 4 => .array .int
  | 5 => .array .int
  | 6 => .array .int
  | 7 => .array .int
  | 8 => .array .int
  | 9 => .array .int
  | 10 => .array .int
  | 11 => .array .int
  | 12 => .boolean
  | _ => .int
abbrev wsX10 : List Cond := u_ws RX1 TX1 14
theorem nmX1 : ∀ a, a < 14 → ∀ b, b < 14 → a ≠ b → (TX1 a).2.1 ≠ (TX1 b).2.1 := by decide +kernel
theorem tyX1_ok : ∀ k, k < 14 → parseFieldDescriptor (TX1 k).2.2.1 = some (tyX1 k) := by decide +kernel
abbrev cX1_init : ByteArray := prog_3_method_1_code
def yX1_init : MethodName := ⟨RX1, "<init>", "()V"⟩
abbrev cX1_build : ByteArray := prog_3_method_2_code
def yX1_build : MethodName := ⟨RX1, "build", "(LLateMover$Graph;)V"⟩
abbrev cX1_usedAt : ByteArray := prog_3_method_3_code
def yX1_usedAt : MethodName := ⟨RX1, "usedAt", "(LLateMover$Graph;I)I"⟩
abbrev cX1_keptAt : ByteArray := prog_3_method_4_code
def yX1_keptAt : MethodName := ⟨RX1, "keptAt", "(LLateMover$Graph;I)I"⟩
abbrev cX1_hinders : ByteArray := prog_3_method_5_code
def yX1_hinders : MethodName := ⟨RX1, "hinders", "(LLateMover$Graph;II)Z"⟩
abbrev cX1_letterChangedAt : ByteArray := prog_3_method_6_code
def yX1_letterChangedAt : MethodName := ⟨RX1, "letterChangedAt", "(LLateMover$Graph;I)I"⟩
abbrev cX1_lettersReadAt : ByteArray := prog_3_method_7_code
def yX1_lettersReadAt : MethodName := ⟨RX1, "lettersReadAt", "(LLateMover$Graph;I)I"⟩
abbrev cX1_findSound : ByteArray := prog_3_method_8_code
def yX1_findSound : MethodName := ⟨RX1, "findSound", "(LLateMover$Graph;)V"⟩
abbrev cX1_findLive : ByteArray := prog_3_method_9_code
def yX1_findLive : MethodName := ⟨RX1, "findLive", "(LLateMover$Graph;)V"⟩
abbrev cX1_isDead : ByteArray := prog_3_method_10_code
def yX1_isDead : MethodName := ⟨RX1, "isDead", "(LLateMover$Graph;I)Z"⟩
abbrev cX1_findNeeded : ByteArray := prog_3_method_11_code
def yX1_findNeeded : MethodName := ⟨RX1, "findNeeded", "(LLateMover$Graph;)V"⟩
abbrev cX1_findAtHand : ByteArray := prog_3_method_12_code
def yX1_findAtHand : MethodName := ⟨RX1, "findAtHand", "(LLateMover$Graph;)V"⟩
abbrev cX1_findMaybe : ByteArray := prog_3_method_13_code
def yX1_findMaybe : MethodName := ⟨RX1, "findMaybe", "(LLateMover$Graph;)V"⟩
abbrev cX1_findEarly : ByteArray := prog_3_method_14_code
def yX1_findEarly : MethodName := ⟨RX1, "findEarly", "(LLateMover$Graph;)V"⟩
abbrev cX1_findDelayed : ByteArray := prog_3_method_15_code
def yX1_findDelayed : MethodName := ⟨RX1, "findDelayed", "(LLateMover$Graph;)V"⟩
abbrev cX1_findLate : ByteArray := prog_3_method_16_code
def yX1_findLate : MethodName := ⟨RX1, "findLate", "(LLateMover$Graph;)V"⟩
abbrev cX1_findAlone : ByteArray := prog_3_method_17_code
def yX1_findAlone : MethodName := ⟨RX1, "findAlone", "(LLateMover$Graph;)V"⟩
def RX2 : String := "LateMover$Flow"
def TX2 : u_T := fun k => match k with
  | 0 => ("LateMover$Flow", "own", "[I", true)
  | 1 => ("LateMover$Flow", "lets", "[I", true)
  | 2 => ("LateMover$Flow", "gives", "[I", true)
  | _ => ("LateMover$Flow", "passes", "[I", true)
def tyX2 : Nat → FieldType := fun k => match k with
  | 0 => .array .int
  | 1 => .array .int
  | 2 => .array .int
  | _ => .array .int
abbrev wsX20 : List Cond := u_ws RX2 TX2 4
theorem nmX2 : ∀ a, a < 4 → ∀ b, b < 4 → a ≠ b → (TX2 a).2.1 ≠ (TX2 b).2.1 := by decide +kernel
theorem tyX2_ok : ∀ k, k < 4 → parseFieldDescriptor (TX2 k).2.2.1 = some (tyX2 k) := by decide +kernel
abbrev cX2_init : ByteArray := prog_4_method_1_code
def yX2_init : MethodName := ⟨RX2, "<init>", "()V"⟩
abbrev cX2_tell : ByteArray := prog_4_method_2_code
def yX2_tell : MethodName := ⟨RX2, "tell", "(IIIII)V"⟩
abbrev cX2_solve : ByteArray := prog_4_method_3_code
def yX2_solve : MethodName := ⟨RX2, "solve", "(LLateMover$Graph;[IIZZ)V"⟩
abbrev cX2_inAll : ByteArray := prog_4_method_4_code
def yX2_inAll : MethodName := ⟨RX2, "inAll", "(LLateMover$Graph;[IIZI)I"⟩
abbrev cX2_inOne : ByteArray := prog_4_method_5_code
def yX2_inOne : MethodName := ⟨RX2, "inOne", "(LLateMover$Graph;[IIZ)I"⟩
abbrev cX2_side : ByteArray := prog_4_method_6_code
def yX2_side : MethodName := ⟨RX2, "side", "(LLateMover$Graph;[II)I"⟩
def RX3 : String := "LateMover$Graph"
def TX3 : u_T := fun k => match k with
  | 0 => ("LateMover$Graph", "expressions", "LLateMover$Expressions;", true)
  | 1 => ("LateMover$Graph", "kind", "[I", true)
  | 2 => ("LateMover$Graph", "block", "[I", true)
  | 3 => ("LateMover$Graph", "letter", "[I", true)
  | 4 => ("LateMover$Graph", "operand", "[I", true)
  | 5 => ("LateMover$Graph", "expression", "[I", true)
  | 6 => ("LateMover$Graph", "to", "[I", true)
  | 7 => ("LateMover$Graph", "orTo", "[I", true)
  | 8 => ("LateMover$Graph", "first", "[I", true)
  | 9 => ("LateMover$Graph", "second", "[I", true)
  | 10 => ("LateMover$Graph", "from", "[I", true)
  | 11 => ("LateMover$Graph", "fromStart", "[I", true)
  | 12 => ("LateMover$Graph", "blockStart", "[I", true)
  | 13 => ("LateMover$Graph", "nodes", "I", false)
  | _ => ("LateMover$Graph", "blocks", "I", false)
def tyX3 : Nat → FieldType := fun k => match k with
  | 0 => .object "LateMover$Expressions"
  | 1 => .array .int
  | 2 => .array .int
  | 3 => .array .int
  | 4 => .array .int
  | 5 => .array .int
  | 6 => .array .int
  | 7 => .array .int
  | 8 => .array .int
  | 9 => .array .int
  | 10 => .array .int
  | 11 => .array .int
  | 12 => .array .int
  | 13 => .int
  | _ => .int
abbrev wsX30 : List Cond := u_ws RX3 TX3 15
theorem nmX3 : ∀ a, a < 15 → ∀ b, b < 15 → a ≠ b → (TX3 a).2.1 ≠ (TX3 b).2.1 := by decide +kernel
theorem tyX3_ok : ∀ k, k < 15 → parseFieldDescriptor (TX3 k).2.2.1 = some (tyX3 k) := by decide +kernel
abbrev cX3_init : ByteArray := prog_5_method_1_code
def yX3_init : MethodName := ⟨RX3, "<init>", "()V"⟩
abbrev cX3_build : ByteArray := prog_5_method_2_code
def yX3_build : MethodName := ⟨RX3, "build", "(LLateMover$Reader;)V"⟩
abbrev cX3_isNode : ByteArray := prog_5_method_3_code
def yX3_isNode : MethodName := ⟨RX3, "isNode", "(I)Z"⟩
abbrev cX3_add : ByteArray := prog_5_method_4_code
def yX3_add : MethodName := ⟨RX3, "add", "(I)I"⟩
abbrev cX3_addReached : ByteArray := prog_5_method_5_code
def yX3_addReached : MethodName := ⟨RX3, "addReached", "(LLateMover$Reader;)V"⟩
abbrev cX3_fill : ByteArray := prog_5_method_6_code
def yX3_fill : MethodName := ⟨RX3, "fill", "(ILLateMover$Reader;I)V"⟩
abbrev cX3_reachedBlocks : ByteArray := prog_5_method_7_code
def yX3_reachedBlocks : MethodName := ⟨RX3, "reachedBlocks", "(LLateMover$Reader;)I"⟩
abbrev cX3_blockBit : ByteArray := prog_5_method_8_code
def yX3_blockBit : MethodName := ⟨RX3, "blockBit", "(I)I"⟩
abbrev cX3_joinNodes : ByteArray := prog_5_method_9_code
def yX3_joinNodes : MethodName := ⟨RX3, "joinNodes", "()V"⟩
abbrev cX3_startOf : ByteArray := prog_5_method_10_code
def yX3_startOf : MethodName := ⟨RX3, "startOf", "(I)I"⟩
abbrev cX3_splitEdges : ByteArray := prog_5_method_11_code
def yX3_splitEdges : MethodName := ⟨RX3, "splitEdges", "()V"⟩
abbrev cX3_splitIfOthersCome : ByteArray := prog_5_method_12_code
def yX3_splitIfOthersCome : MethodName := ⟨RX3, "splitIfOthersCome", "(I)I"⟩
abbrev cX3_comingTo : ByteArray := prog_5_method_13_code
def yX3_comingTo : MethodName := ⟨RX3, "comingTo", "(I)I"⟩
abbrev cX3_listFrom : ByteArray := prog_5_method_14_code
def yX3_listFrom : MethodName := ⟨RX3, "listFrom", "()V"⟩
abbrev cX3_edgesFrom : ByteArray := prog_5_method_15_code
def yX3_edgesFrom : MethodName := ⟨RX3, "edgesFrom", "(I)I"⟩
abbrev cX3_kthTarget : ByteArray := prog_5_method_16_code
def yX3_kthTarget : MethodName := ⟨RX3, "kthTarget", "(II)I"⟩
abbrev cX3_edgesTo : ByteArray := prog_5_method_17_code
def yX3_edgesTo : MethodName := ⟨RX3, "edgesTo", "(I)I"⟩
abbrev cX3_kthSource : ByteArray := prog_5_method_18_code
def yX3_kthSource : MethodName := ⟨RX3, "kthSource", "(II)I"⟩
abbrev cX3_edges : ByteArray := prog_5_method_19_code
def yX3_edges : MethodName := ⟨RX3, "edges", "()I"⟩
abbrev cX3_countOf : ByteArray := prog_5_method_20_code
def yX3_countOf : MethodName := ⟨RX3, "countOf", "(I)I"⟩
abbrev cX3_nodesWith : ByteArray := prog_5_method_21_code
def yX3_nodesWith : MethodName := ⟨RX3, "nodesWith", "([II)I"⟩
abbrev cX3_bitsIn : ByteArray := prog_5_method_22_code
def yX3_bitsIn : MethodName := ⟨RX3, "bitsIn", "([I)I"⟩
def RX4 : String := "LateMover$Loops"
def TX4 : u_T := fun k => match k with
  | 0 => ("LateMover$Loops", "lowOver", "[J", true)
  | 1 => ("LateMover$Loops", "highOver", "[J", true)
  | 2 => ("LateMover$Loops", "inside", "[I", true)
  | 3 => ("LateMover$Loops", "deep", "[I", true)
  | _ => ("LateMover$Loops", "headCount", "I", false)
def tyX4 : Nat → FieldType := fun k => match k with
  | 0 => .array .long
  | 1 => .array .long
  | 2 => .array .int
  | 3 => .array .int
  | _ => .int
abbrev wsX40 : List Cond := u_ws RX4 TX4 5
theorem nmX4 : ∀ a, a < 5 → ∀ b, b < 5 → a ≠ b → (TX4 a).2.1 ≠ (TX4 b).2.1 := by decide +kernel
theorem tyX4_ok : ∀ k, k < 5 → parseFieldDescriptor (TX4 k).2.2.1 = some (tyX4 k) := by decide +kernel
abbrev cX4_init : ByteArray := prog_6_method_1_code
def yX4_init : MethodName := ⟨RX4, "<init>", "()V"⟩
abbrev cX4_build : ByteArray := prog_6_method_2_code
def yX4_build : MethodName := ⟨RX4, "build", "(LLateMover$Graph;)V"⟩
abbrev cX4_isOver : ByteArray := prog_6_method_3_code
def yX4_isOver : MethodName := ⟨RX4, "isOver", "(II)Z"⟩
abbrev cX4_findOver : ByteArray := prog_6_method_4_code
def yX4_findOver : MethodName := ⟨RX4, "findOver", "(LLateMover$Graph;)V"⟩
abbrev cX4_narrowsAt : ByteArray := prog_6_method_5_code
def yX4_narrowsAt : MethodName := ⟨RX4, "narrowsAt", "(LLateMover$Graph;I)Z"⟩
abbrev cX4_isHead : ByteArray := prog_6_method_6_code
def yX4_isHead : MethodName := ⟨RX4, "isHead", "(LLateMover$Graph;I)Z"⟩
abbrev cX4_addLoop : ByteArray := prog_6_method_7_code
def yX4_addLoop : MethodName := ⟨RX4, "addLoop", "(LLateMover$Graph;I)V"⟩
abbrev cX4_leadsInside : ByteArray := prog_6_method_8_code
def yX4_leadsInside : MethodName := ⟨RX4, "leadsInside", "(LLateMover$Graph;I)Z"⟩
def RX5 : String := "LateMover$Others"
def TX5 : u_T := fun k => match k with
  | 0 => ("LateMover$Others", "answers", "[[I", true)
  | 1 => ("LateMover$Others", "one", "[I", true)
  | 2 => ("LateMover$Others", "two", "[I", true)
  | 3 => ("LateMover$Others", "from", "[I", true)
  | 4 => ("LateMover$Others", "next", "[I", true)
  | 5 => ("LateMover$Others", "ahead", "[I", true)
  | 6 => ("LateMover$Others", "known", "I", false)
  | 7 => ("LateMover$Others", "nodes", "I", false)
  | 8 => ("LateMover$Others", "uses", "I", false)
  | 9 => ("LateMover$Others", "keeps", "I", false)
  | 10 => ("LateMover$Others", "needed", "I", false)
  | 11 => ("LateMover$Others", "early", "I", false)
  | _ => ("LateMover$Others", "lasts", "I", false)
def tyX5 : Nat → FieldType := fun k => match k with
  | 0 => .array (.array .int)
  | 1 => .array .int
  | 2 => .array .int
  | 3 => .array .int
  | 4 => .array .int
  | 5 => .array .int
  | 6 => .int
  | 7 => .int
  | 8 => .int
  | 9 => .int
  | 10 => .int
  | 11 => .int
  | _ => .int
abbrev wsX50 : List Cond := u_ws RX5 TX5 13
theorem nmX5 : ∀ a, a < 13 → ∀ b, b < 13 → a ≠ b → (TX5 a).2.1 ≠ (TX5 b).2.1 := by decide +kernel
theorem tyX5_ok : ∀ k, k < 13 → parseFieldDescriptor (TX5 k).2.2.1 = some (tyX5 k) := by decide +kernel
abbrev cX5_init : ByteArray := prog_7_method_1_code
def yX5_init : MethodName := ⟨RX5, "<init>", "()V"⟩
abbrev cX5_forget : ByteArray := prog_7_method_2_code
def yX5_forget : MethodName := ⟨RX5, "forget", "()V"⟩
abbrev cX5_answer : ByteArray := prog_7_method_3_code
def yX5_answer : MethodName := ⟨RX5, "answer", "(LLateMover$Graph;LLateMover$Facts;II)I"⟩
abbrev cX5_takeGraph : ByteArray := prog_7_method_4_code
def yX5_takeGraph : MethodName := ⟨RX5, "takeGraph", "(LLateMover$Graph;)V"⟩
abbrev cX5_nodeBit : ByteArray := prog_7_method_5_code
def yX5_nodeBit : MethodName := ⟨RX5, "nodeBit", "(I)I"⟩
abbrev cX5_takeFacts : ByteArray := prog_7_method_6_code
def yX5_takeFacts : MethodName := ⟨RX5, "takeFacts", "(LLateMover$Facts;I)V"⟩
abbrev cX5_column : ByteArray := prog_7_method_7_code
def yX5_column : MethodName := ⟨RX5, "column", "([II)I"⟩
abbrev cX5_tryAll : ByteArray := prog_7_method_8_code
def yX5_tryAll : MethodName := ⟨RX5, "tryAll", "([I)V"⟩
abbrev cX5_lesser : ByteArray := prog_7_method_9_code
def yX5_lesser : MethodName := ⟨RX5, "lesser", "(II)I"⟩
abbrev cX5_isRight : ByteArray := prog_7_method_10_code
def yX5_isRight : MethodName := ⟨RX5, "isRight", "(I)Z"⟩
abbrev cX5_lifeOf : ByteArray := prog_7_method_11_code
def yX5_lifeOf : MethodName := ⟨RX5, "lifeOf", "(I)I"⟩
abbrev cX5_isFew : ByteArray := prog_7_method_12_code
def yX5_isFew : MethodName := ⟨RX5, "isFew", "(I)Z"⟩
abbrev cX5_carry : ByteArray := prog_7_method_13_code
def yX5_carry : MethodName := ⟨RX5, "carry", "(III)Z"⟩
abbrev cX5_gain : ByteArray := prog_7_method_14_code
def yX5_gain : MethodName := ⟨RX5, "gain", "(II)I"⟩
abbrev cX5_endsAhead : ByteArray := prog_7_method_15_code
def yX5_endsAhead : MethodName := ⟨RX5, "endsAhead", "()Z"⟩
def RX6 : String := "LateMover$Placement"
def TX6 : u_T := fun k => match k with
  | 0 => ("LateMover$Placement", "put", "[I", true)
  | 1 => ("LateMover$Placement", "replaced", "[I", true)
  | 2 => ("LateMover$Placement", "alive", "[I", true)
  | 3 => ("LateMover$Placement", "clashes", "[I", true)
  | 4 => ("LateMover$Placement", "name", "[I", true)
  | _ => ("LateMover$Placement", "names", "I", false)
def tyX6 : Nat → FieldType := fun k => match k with
  | 0 => .array .int
  | 1 => .array .int
  | 2 => .array .int
  | 3 => .array .int
  | 4 => .array .int
  | _ => .int
abbrev wsX60 : List Cond := u_ws RX6 TX6 6
theorem nmX6 : ∀ a, a < 6 → ∀ b, b < 6 → a ≠ b → (TX6 a).2.1 ≠ (TX6 b).2.1 := by decide +kernel
theorem tyX6_ok : ∀ k, k < 6 → parseFieldDescriptor (TX6 k).2.2.1 = some (tyX6 k) := by decide +kernel
abbrev cX6_init : ByteArray := prog_8_method_1_code
def yX6_init : MethodName := ⟨RX6, "<init>", "()V"⟩
abbrev cX6_tell : ByteArray := prog_8_method_2_code
def yX6_tell : MethodName := ⟨RX6, "tell", "(III)V"⟩
abbrev cX6_build : ByteArray := prog_8_method_3_code
def yX6_build : MethodName := ⟨RX6, "build", "(LLateMover$Graph;LLateMover$Flow;)V"⟩
abbrev cX6_findClashes : ByteArray := prog_8_method_4_code
def yX6_findClashes : MethodName := ⟨RX6, "findClashes", "(LLateMover$Graph;)V"⟩
abbrev cX6_shareNames : ByteArray := prog_8_method_5_code
def yX6_shareNames : MethodName := ⟨RX6, "shareNames", "(LLateMover$Graph;)V"⟩
abbrev cX6_firstFreeName : ByteArray := prog_8_method_6_code
def yX6_firstFreeName : MethodName := ⟨RX6, "firstFreeName", "(I)I"⟩
abbrev cX6_clashingPairs : ByteArray := prog_8_method_7_code
def yX6_clashingPairs : MethodName := ⟨RX6, "clashingPairs", "(I)I"⟩
abbrev cX6_computedAt : ByteArray := prog_8_method_8_code
def yX6_computedAt : MethodName := ⟨RX6, "computedAt", "(LLateMover$Graph;I)I"⟩
def RX7 : String := "LateMover$Reader"
def TX7 : u_T := fun k => match k with
  | 0 => ("LateMover$Reader", "text", "LLateMover$Text;", true)
  | 1 => ("LateMover$Reader", "expressions", "LLateMover$Expressions;", true)
  | 2 => ("LateMover$Reader", "kind", "[I", true)
  | 3 => ("LateMover$Reader", "block", "[I", true)
  | 4 => ("LateMover$Reader", "letter", "[I", true)
  | 5 => ("LateMover$Reader", "operand", "[I", true)
  | 6 => ("LateMover$Reader", "expression", "[I", true)
  | 7 => ("LateMover$Reader", "to", "[I", true)
  | 8 => ("LateMover$Reader", "orTo", "[I", true)
  | 9 => ("LateMover$Reader", "toAt", "[I", true)
  | 10 => ("LateMover$Reader", "orToAt", "[I", true)
  | 11 => ("LateMover$Reader", "lines", "I", false)
  | 12 => ("LateMover$Reader", "blocks", "I", false)
  | 13 => ("LateMover$Reader", "statements", "I", false)
  | 14 => ("LateMover$Reader", "at", "I", false)
  | _ => ("LateMover$Reader", "wrong", "I", false)
def tyX7 : Nat → FieldType := fun k => match k with
  | 0 => .object "LateMover$Text"
  | 1 => .object "LateMover$Expressions"
  | 2 => .array .int
  | 3 => .array .int
  | 4 => .array .int
  | 5 => .array .int
  | 6 => .array .int
  | 7 => .array .int
  | 8 => .array .int
  | 9 => .array .int
  | 10 => .array .int
  | 11 => .int
  | 12 => .int
  | 13 => .int
  | 14 => .int
  | _ => .int
abbrev wsX70 : List Cond := u_ws RX7 TX7 16
theorem nmX7 : ∀ a, a < 16 → ∀ b, b < 16 → a ≠ b → (TX7 a).2.1 ≠ (TX7 b).2.1 := by decide +kernel
theorem tyX7_ok : ∀ k, k < 16 → parseFieldDescriptor (TX7 k).2.2.1 = some (tyX7 k) := by decide +kernel
abbrev cX7_init : ByteArray := prog_9_method_1_code
def yX7_init : MethodName := ⟨RX7, "<init>", "()V"⟩
abbrev cX7_faultOf : ByteArray := prog_9_method_2_code
def yX7_faultOf : MethodName := ⟨RX7, "faultOf", "(LLateMover$Text;)I"⟩
abbrev cX7_refuse : ByteArray := prog_9_method_3_code
def yX7_refuse : MethodName := ⟨RX7, "refuse", "(I)Z"⟩
abbrev cX7_take : ByteArray := prog_9_method_4_code
def yX7_take : MethodName := ⟨RX7, "take", "(I)Z"⟩
abbrev cX7_readBlock : ByteArray := prog_9_method_5_code
def yX7_readBlock : MethodName := ⟨RX7, "readBlock", "()Z"⟩
abbrev cX7_startsStatement : ByteArray := prog_9_method_6_code
def yX7_startsStatement : MethodName := ⟨RX7, "startsStatement", "()Z"⟩
abbrev cX7_readStatement : ByteArray := prog_9_method_7_code
def yX7_readStatement : MethodName := ⟨RX7, "readStatement", "()Z"⟩
abbrev cX7_readRightSide : ByteArray := prog_9_method_8_code
def yX7_readRightSide : MethodName := ⟨RX7, "readRightSide", "(I)Z"⟩
abbrev cX7_readOperand : ByteArray := prog_9_method_9_code
def yX7_readOperand : MethodName := ⟨RX7, "readOperand", "()I"⟩
abbrev cX7_readNumber : ByteArray := prog_9_method_10_code
def yX7_readNumber : MethodName := ⟨RX7, "readNumber", "(I)I"⟩
abbrev cX7_readEnd : ByteArray := prog_9_method_11_code
def yX7_readEnd : MethodName := ⟨RX7, "readEnd", "()Z"⟩
abbrev cX7_readChoice : ByteArray := prog_9_method_12_code
def yX7_readChoice : MethodName := ⟨RX7, "readChoice", "()Z"⟩
abbrev cX7_readTarget : ByteArray := prog_9_method_13_code
def yX7_readTarget : MethodName := ⟨RX7, "readTarget", "([I[I)Z"⟩
abbrev cX7_addStatement : ByteArray := prog_9_method_14_code
def yX7_addStatement : MethodName := ⟨RX7, "addStatement", "(IIII)Z"⟩
abbrev cX7_addLine : ByteArray := prog_9_method_15_code
def yX7_addLine : MethodName := ⟨RX7, "addLine", "(I)Z"⟩
abbrev cX7_findStrayNumber : ByteArray := prog_9_method_16_code
def yX7_findStrayNumber : MethodName := ⟨RX7, "findStrayNumber", "()V"⟩
abbrev cX7_isLetter : ByteArray := prog_9_method_17_code
def yX7_isLetter : MethodName := ⟨RX7, "isLetter", "(I)Z"⟩
abbrev cX7_isDigit : ByteArray := prog_9_method_18_code
def yX7_isDigit : MethodName := ⟨RX7, "isDigit", "(I)Z"⟩
abbrev cX7_isOperator : ByteArray := prog_9_method_19_code
def yX7_isOperator : MethodName := ⟨RX7, "isOperator", "(I)Z"⟩
def RX8 : String := "LateMover$Run"
def TX8 : u_T := fun k => match k with
  | 0 => ("LateMover$Run", "letters", "[I", true)
  | 1 => ("LateMover$Run", "outputs", "[I", true)
  | 2 => ("LateMover$Run", "times", "[I", true)
  | 3 => ("LateMover$Run", "names", "[I", true)
  | 4 => ("LateMover$Run", "ending", "I", false)
  | 5 => ("LateMover$Run", "steps", "I", false)
  | 6 => ("LateMover$Run", "worked", "I", false)
  | 7 => ("LateMover$Run", "outs", "I", false)
  | 8 => ("LateMover$Run", "at", "I", false)
  | _ => ("LateMover$Run", "value", "I", false)
def tyX8 : Nat → FieldType := fun k => match k with
  | 0 => .array .int
  | 1 => .array .int
  | 2 => .array .int
  | 3 => .array .int
  | 4 => .int
  | 5 => .int
  | 6 => .int
  | 7 => .int
  | 8 => .int
  | _ => .int
abbrev wsX80 : List Cond := u_ws RX8 TX8 10
theorem nmX8 : ∀ a, a < 10 → ∀ b, b < 10 → a ≠ b → (TX8 a).2.1 ≠ (TX8 b).2.1 := by decide +kernel
theorem tyX8_ok : ∀ k, k < 10 → parseFieldDescriptor (TX8 k).2.2.1 = some (tyX8 k) := by decide +kernel
abbrev cX8_init : ByteArray := prog_10_method_1_code
def yX8_init : MethodName := ⟨RX8, "<init>", "()V"⟩
abbrev cX8_follow : ByteArray := prog_10_method_2_code
def yX8_follow : MethodName := ⟨RX8, "follow", "(LLateMover$Graph;LLateMover$Placement;[I)V"⟩
abbrev cX8_step : ByteArray := prog_10_method_3_code
def yX8_step : MethodName := ⟨RX8, "step", "(LLateMover$Graph;LLateMover$Placement;)V"⟩
abbrev cX8_putIn : ByteArray := prog_10_method_4_code
def yX8_putIn : MethodName := ⟨RX8, "putIn", "(LLateMover$Graph;LLateMover$Placement;)Z"⟩
abbrev cX8_doNode : ByteArray := prog_10_method_5_code
def yX8_doNode : MethodName := ⟨RX8, "doNode", "(LLateMover$Graph;LLateMover$Placement;)Z"⟩
abbrev cX8_assign : ByteArray := prog_10_method_6_code
def yX8_assign : MethodName := ⟨RX8, "assign", "(LLateMover$Graph;LLateMover$Placement;)Z"⟩
abbrev cX8_nextNode : ByteArray := prog_10_method_7_code
def yX8_nextNode : MethodName := ⟨RX8, "nextNode", "(LLateMover$Graph;)I"⟩
abbrev cX8_setLetter : ByteArray := prog_10_method_8_code
def yX8_setLetter : MethodName := ⟨RX8, "setLetter", "(II)V"⟩
abbrev cX8_writeOut : ByteArray := prog_10_method_9_code
def yX8_writeOut : MethodName := ⟨RX8, "writeOut", "(I)V"⟩
abbrev cX8_valueOf : ByteArray := prog_10_method_10_code
def yX8_valueOf : MethodName := ⟨RX8, "valueOf", "(I)I"⟩
abbrev cX8_compute : ByteArray := prog_10_method_11_code
def yX8_compute : MethodName := ⟨RX8, "compute", "(LLateMover$Expressions;I)Z"⟩
abbrev cX8_divide : ByteArray := prog_10_method_12_code
def yX8_divide : MethodName := ⟨RX8, "divide", "(III)Z"⟩
abbrev cX8_endsAndWroteLike : ByteArray := prog_10_method_13_code
def yX8_endsAndWroteLike : MethodName := ⟨RX8, "endsAndWroteLike", "(LLateMover$Run;)Z"⟩
def RX9 : String := "LateMover$Text"
def TX9 : u_T := fun k => match k with
  | 0 => ("LateMover$Text", "bytes", "[B", true)
  | _ => ("LateMover$Text", "length", "I", false)
def tyX9 : Nat → FieldType := fun k => match k with
  | 0 => .array .byte
  | _ => .int
abbrev wsX90 : List Cond := u_ws RX9 TX9 2
theorem nmX9 : ∀ a, a < 2 → ∀ b, b < 2 → a ≠ b → (TX9 a).2.1 ≠ (TX9 b).2.1 := by decide +kernel
theorem tyX9_ok : ∀ k, k < 2 → parseFieldDescriptor (TX9 k).2.2.1 = some (tyX9 k) := by decide +kernel
abbrev cX9_init : ByteArray := prog_11_method_1_code
def yX9_init : MethodName := ⟨RX9, "<init>", "()V"⟩
abbrev cX9_size : ByteArray := prog_11_method_2_code
def yX9_size : MethodName := ⟨RX9, "size", "()I"⟩
abbrev cX9_at : ByteArray := prog_11_method_3_code
def yX9_at : MethodName := ⟨RX9, "at", "(I)I"⟩
abbrev cX9_cut : ByteArray := prog_11_method_4_code
def yX9_cut : MethodName := ⟨RX9, "cut", "(I)V"⟩
abbrev cX9_put : ByteArray := prog_11_method_5_code
def yX9_put : MethodName := ⟨RX9, "put", "(I)V"⟩
abbrev cX9_putFour : ByteArray := prog_11_method_6_code
def yX9_putFour : MethodName := ⟨RX9, "putFour", "(I)V"⟩
abbrev cX9_putNumber : ByteArray := prog_11_method_7_code
def yX9_putNumber : MethodName := ⟨RX9, "putNumber", "(I)V"⟩
abbrev cX9_copyFrom : ByteArray := prog_11_method_8_code
def yX9_copyFrom : MethodName := ⟨RX9, "copyFrom", "(LLateMover$Text;)V"⟩
def RX10 : String := "LateMover$Ways"
def TX10 : u_T := fun k => match k with
  | 0 => ("LateMover$Ways", "work", "[I", true)
  | 1 => ("LateMover$Ways", "ways", "[J", false)
  | 2 => ("LateMover$Ways", "low", "[I", false)
  | 3 => ("LateMover$Ways", "high", "[I", false)
  | 4 => ("LateMover$Ways", "nextWays", "[J", false)
  | 5 => ("LateMover$Ways", "nextLow", "[I", false)
  | 6 => ("LateMover$Ways", "nextHigh", "[I", false)
  | 7 => ("LateMover$Ways", "found", "J", false)
  | 8 => ("LateMover$Ways", "least", "I", false)
  | _ => ("LateMover$Ways", "most", "I", false)
def tyX10 : Nat → FieldType := fun k => match k with
  | 0 => .array .int
  | 1 => .array .long
  | 2 => .array .int
  | 3 => .array .int
  | 4 => .array .long
  | 5 => .array .int
  | 6 => .array .int
  | 7 => .long
  | 8 => .int
  | _ => .int
abbrev wsX100 : List Cond := u_ws RX10 TX10 10
theorem nmX10 : ∀ a, a < 10 → ∀ b, b < 10 → a ≠ b → (TX10 a).2.1 ≠ (TX10 b).2.1 := by decide +kernel
theorem tyX10_ok : ∀ k, k < 10 → parseFieldDescriptor (TX10 k).2.2.1 = some (tyX10 k) := by decide +kernel
abbrev cX10_init : ByteArray := prog_12_method_1_code
def yX10_init : MethodName := ⟨RX10, "<init>", "()V"⟩
abbrev cX10_count : ByteArray := prog_12_method_2_code
def yX10_count : MethodName := ⟨RX10, "count", "(LLateMover$Graph;LLateMover$Placement;I)V"⟩
abbrev cX10_endWaysAtLast : ByteArray := prog_12_method_3_code
def yX10_endWaysAtLast : MethodName := ⟨RX10, "endWaysAtLast", "(LLateMover$Graph;)V"⟩
abbrev cX10_goOnByOneEdge : ByteArray := prog_12_method_4_code
def yX10_goOnByOneEdge : MethodName := ⟨RX10, "goOnByOneEdge", "(LLateMover$Graph;)V"⟩
abbrev cX10_extend : ByteArray := prog_12_method_5_code
def yX10_extend : MethodName := ⟨RX10, "extend", "(LLateMover$Graph;II)V"⟩
abbrev cX10_swap : ByteArray := prog_12_method_6_code
def yX10_swap : MethodName := ⟨RX10, "swap", "()V"⟩
def RX11 : String := "LateMover"
def TX11 : u_T := fun k => match k with
  | 0 => ("LateMover", "tape", "LLateMover$Text;", true)
  | 1 => ("LateMover", "present", "LLateMover$Text;", true)
  | 2 => ("LateMover", "wrote", "LLateMover$Text;", true)
  | 3 => ("LateMover", "kept", "[LLateMover$Text;", true)
  | 4 => ("LateMover", "reader", "LLateMover$Reader;", true)
  | 5 => ("LateMover", "graph", "LLateMover$Graph;", true)
  | 6 => ("LateMover", "facts", "LLateMover$Facts;", true)
  | 7 => ("LateMover", "loops", "LLateMover$Loops;", true)
  | 8 => ("LateMover", "unmoved", "LLateMover$Placement;", true)
  | 9 => ("LateMover", "busy", "LLateMover$Placement;", true)
  | 10 => ("LateMover", "lazy", "LLateMover$Placement;", true)
  | 11 => ("LateMover", "told", "[I", true)
  | 12 => ("LateMover", "latest", "LLateMover$Run;", true)
  | 13 => ("LateMover", "sourceRun", "LLateMover$Run;", true)
  | 14 => ("LateMover", "movedRun", "LLateMover$Run;", true)
  | 15 => ("LateMover", "routes", "LLateMover$Ways;", true)
  | 16 => ("LateMover", "rivals", "LLateMover$Others;", true)
  | 17 => ("LateMover", "wrongAt", "I", false)
  | _ => ("LateMover", "ran", "Z", false)
def tyX11 : Nat → FieldType := fun k => match k with
  | 0 => .object "LateMover$Text"
  | 1 => .object "LateMover$Text"
  | 2 => .object "LateMover$Text"
  | 3 => .array (.object "LateMover$Text")
  | 4 => .object "LateMover$Reader"
  | 5 => .object "LateMover$Graph"
  | 6 => .object "LateMover$Facts"
  | 7 => .object "LateMover$Loops"
  | 8 => .object "LateMover$Placement"
  | 9 => .object "LateMover$Placement"
  | 10 => .object "LateMover$Placement"
  | 11 => .array .int
  | 12 => .object "LateMover$Run"
  | 13 => .object "LateMover$Run"
  | 14 => .object "LateMover$Run"
  | 15 => .object "LateMover$Ways"
  | 16 => .object "LateMover$Others"
  | 17 => .int
  | _ => .boolean
abbrev wsX110 : List Cond := u_ws RX11 TX11 19
theorem nmX11 : ∀ a, a < 19 → ∀ b, b < 19 → a ≠ b → (TX11 a).2.1 ≠ (TX11 b).2.1 := by decide +kernel
theorem tyX11_ok : ∀ k, k < 19 → parseFieldDescriptor (TX11 k).2.2.1 = some (tyX11 k) := by decide +kernel
abbrev cX11_init : ByteArray := prog_1_method_1_code
def yX11_init : MethodName := ⟨RX11, "<init>", "()V"⟩
abbrev cX11_feed : ByteArray := prog_1_method_2_code
def yX11_feed : MethodName := ⟨RX11, "feed", "(IIIII)I"⟩
abbrev cX11_end : ByteArray := prog_1_method_3_code
def yX11_end : MethodName := ⟨RX11, "end", "(I)I"⟩
abbrev cX11_program : ByteArray := prog_1_method_4_code
def yX11_program : MethodName := ⟨RX11, "program", "()I"⟩
abbrev cX11_fault : ByteArray := prog_1_method_5_code
def yX11_fault : MethodName := ⟨RX11, "fault", "()I"⟩
abbrev cX11_keep : ByteArray := prog_1_method_6_code
def yX11_keep : MethodName := ⟨RX11, "keep", "(I)Z"⟩
abbrev cX11_back : ByteArray := prog_1_method_7_code
def yX11_back : MethodName := ⟨RX11, "back", "(I)Z"⟩
abbrev cX11_settle : ByteArray := prog_1_method_8_code
def yX11_settle : MethodName := ⟨RX11, "settle", "()V"⟩
abbrev cX11_is : ByteArray := prog_1_method_9_code
def yX11_is : MethodName := ⟨RX11, "is", "(I)I"⟩
abbrev cX11_node : ByteArray := prog_1_method_10_code
def yX11_node : MethodName := ⟨RX11, "node", "(II)I"⟩
abbrev cX11_expression : ByteArray := prog_1_method_11_code
def yX11_expression : MethodName := ⟨RX11, "expression", "(II)I"⟩
abbrev cX11_risky : ByteArray := prog_1_method_12_code
def yX11_risky : MethodName := ⟨RX11, "risky", "()I"⟩
abbrev cX11_fact : ByteArray := prog_1_method_13_code
def yX11_fact : MethodName := ⟨RX11, "fact", "(III)I"⟩
abbrev cX11_placed : ByteArray := prog_1_method_14_code
def yX11_placed : MethodName := ⟨RX11, "placed", "(IIII)I"⟩
abbrev cX11_placement : ByteArray := prog_1_method_15_code
def yX11_placement : MethodName := ⟨RX11, "placement", "(III)I"⟩
abbrev cX11_countIn : ByteArray := prog_1_method_16_code
def yX11_countIn : MethodName := ⟨RX11, "countIn", "([II)I"⟩
abbrev cX11_shared : ByteArray := prog_1_method_17_code
def yX11_shared : MethodName := ⟨RX11, "shared", "(II)I"⟩
abbrev cX11_most : ByteArray := prog_1_method_18_code
def yX11_most : MethodName := ⟨RX11, "most", "(I)I"⟩
abbrev cX11_letter : ByteArray := prog_1_method_19_code
def yX11_letter : MethodName := ⟨RX11, "letter", "(II)I"⟩
abbrev cX11_run : ByteArray := prog_1_method_20_code
def yX11_run : MethodName := ⟨RX11, "run", "(II)I"⟩
abbrev cX11_computed : ByteArray := prog_1_method_21_code
def yX11_computed : MethodName := ⟨RX11, "computed", "(I)I"⟩
abbrev cX11_output : ByteArray := prog_1_method_22_code
def yX11_output : MethodName := ⟨RX11, "output", "(I)I"⟩
abbrev cX11_behind : ByteArray := prog_1_method_23_code
def yX11_behind : MethodName := ⟨RX11, "behind", "(I)I"⟩
abbrev cX11_alike : ByteArray := prog_1_method_24_code
def yX11_alike : MethodName := ⟨RX11, "alike", "(I)I"⟩
abbrev cX11_live : ByteArray := prog_1_method_25_code
def yX11_live : MethodName := ⟨RX11, "live", "(I)I"⟩
abbrev cX11_dead : ByteArray := prog_1_method_26_code
def yX11_dead : MethodName := ⟨RX11, "dead", "(I)I"⟩
abbrev cX11_again : ByteArray := prog_1_method_27_code
def yX11_again : MethodName := ⟨RX11, "again", "(II)I"⟩
abbrev cX11_over : ByteArray := prog_1_method_28_code
def yX11_over : MethodName := ⟨RX11, "over", "(II)I"⟩
abbrev cX11_depth : ByteArray := prog_1_method_29_code
def yX11_depth : MethodName := ⟨RX11, "depth", "(I)I"⟩
abbrev cX11_heads : ByteArray := prog_1_method_30_code
def yX11_heads : MethodName := ⟨RX11, "heads", "()I"⟩
abbrev cX11_weight : ByteArray := prog_1_method_31_code
def yX11_weight : MethodName := ⟨RX11, "weight", "(I)J"⟩
abbrev cX11_powerOfTen : ByteArray := prog_1_method_32_code
def yX11_powerOfTen : MethodName := ⟨RX11, "powerOfTen", "(I)J"⟩
abbrev cX11_others : ByteArray := prog_1_method_33_code
def yX11_others : MethodName := ⟨RX11, "others", "(II)I"⟩
abbrev cX11_ways : ByteArray := prog_1_method_34_code
def yX11_ways : MethodName := ⟨RX11, "ways", "(III)J"⟩
abbrev cX11_write : ByteArray := prog_1_method_35_code
def yX11_write : MethodName := ⟨RX11, "write", "(II)I"⟩
abbrev cX11_octet : ByteArray := prog_1_method_36_code
def yX11_octet : MethodName := ⟨RX11, "octet", "(I)I"⟩
abbrev cX11_writeNode : ByteArray := prog_1_method_37_code
def yX11_writeNode : MethodName := ⟨RX11, "writeNode", "(IZ)V"⟩
abbrev cX11_writeAssignment : ByteArray := prog_1_method_38_code
def yX11_writeAssignment : MethodName := ⟨RX11, "writeAssignment", "(IZ)V"⟩
abbrev cX11_writeEnd : ByteArray := prog_1_method_39_code
def yX11_writeEnd : MethodName := ⟨RX11, "writeEnd", "(I)V"⟩
abbrev cX11_writeName : ByteArray := prog_1_method_40_code
def yX11_writeName : MethodName := ⟨RX11, "writeName", "(I)V"⟩
abbrev cX11_writeExpression : ByteArray := prog_1_method_41_code
def yX11_writeExpression : MethodName := ⟨RX11, "writeExpression", "(I)V"⟩
abbrev cX11_writeOperand : ByteArray := prog_1_method_42_code
def yX11_writeOperand : MethodName := ⟨RX11, "writeOperand", "(I)V"⟩
abbrev cX11_isProgram : ByteArray := prog_1_method_43_code
def yX11_isProgram : MethodName := ⟨RX11, "isProgram", "()Z"⟩
abbrev cX11_isSoundOne : ByteArray := prog_1_method_44_code
def yX11_isSoundOne : MethodName := ⟨RX11, "isSoundOne", "(I)Z"⟩
abbrev cX11_isMoved : ByteArray := prog_1_method_45_code
def yX11_isMoved : MethodName := ⟨RX11, "isMoved", "(I)Z"⟩
abbrev cX11_isRunnable : ByteArray := prog_1_method_46_code
def yX11_isRunnable : MethodName := ⟨RX11, "isRunnable", "(I)Z"⟩
abbrev cX11_placementBy : ByteArray := prog_1_method_47_code
def yX11_placementBy : MethodName := ⟨RX11, "placementBy", "(I)LLateMover$Placement;"⟩
abbrev cX11_oneIf : ByteArray := prog_1_method_48_code
def yX11_oneIf : MethodName := ⟨RX11, "oneIf", "(Z)I"⟩
abbrev cX11_bitOf : ByteArray := prog_1_method_49_code
def yX11_bitOf : MethodName := ⟨RX11, "bitOf", "(II)I"⟩
def RX12 : String := "LateMoverModel"
def TX12 : u_T := fun k => match k with
  | 0 => ("LateMoverModel", "all", "[I", true)
  | 1 => ("LateMoverModel", "tape", "[B", true)
  | 2 => ("LateMoverModel", "taped", "I", false)
  | 3 => ("LateMoverModel", "at", "I", false)
  | 4 => ("LateMoverModel", "faultPlace", "I", false)
  | 5 => ("LateMoverModel", "number", "I", false)
  | 6 => ("LateMoverModel", "place", "[I", true)
  | 7 => ("LateMoverModel", "kind", "[I", true)
  | 8 => ("LateMoverModel", "blockOf", "[I", true)
  | 9 => ("LateMoverModel", "statement", "[I", true)
  | 10 => ("LateMoverModel", "next", "[I", true)
  | 11 => ("LateMoverModel", "come", "[I", true)
  | 12 => ("LateMoverModel", "isCome", "[Z", true)
  | 13 => ("LateMoverModel", "beginOf", "[I", true)
  | 14 => ("LateMoverModel", "nodes", "I", false)
  | 15 => ("LateMoverModel", "isProgram", "Z", false)
  | 16 => ("LateMoverModel", "isSound", "Z", false)
  | 17 => ("LateMoverModel", "leads", "[Z", true)
  | 18 => ("LateMoverModel", "facts", "[Z", true)
  | 19 => ("LateMoverModel", "placed", "[Z", true)
  | 20 => ("LateMoverModel", "name", "[I", true)
  | 21 => ("LateMoverModel", "begins", "[I", true)
  | 22 => ("LateMoverModel", "value", "[I", true)
  | 23 => ("LateMoverModel", "nameValue", "[I", true)
  | 24 => ("LateMoverModel", "worked", "[I", true)
  | 25 => ("LateMoverModel", "shown", "[I", true)
  | 26 => ("LateMoverModel", "written", "I", false)
  | 27 => ("LateMoverModel", "gone", "I", false)
  | 28 => ("LateMoverModel", "endNode", "I", false)
  | 29 => ("LateMoverModel", "ended", "I", false)
  | 30 => ("LateMoverModel", "lastValue", "[I", true)
  | 31 => ("LateMoverModel", "lastWorked", "[I", true)
  | 32 => ("LateMoverModel", "lastShown", "[I", true)
  | 33 => ("LateMoverModel", "lastWritten", "I", false)
  | 34 => ("LateMoverModel", "wasRun", "Z", false)
  | 35 => ("LateMoverModel", "result", "I", false)
  | 36 => ("LateMoverModel", "ownShown", "[I", true)
  | 37 => ("LateMoverModel", "held", "[Z", true)
  | 38 => ("LateMoverModel", "alive", "[Z", true)
  | 39 => ("LateMoverModel", "far", "[I", true)
  | 40 => ("LateMoverModel", "ways", "[J", true)
  | 41 => ("LateMoverModel", "waysThen", "[J", true)
  | 42 => ("LateMoverModel", "leastOf", "[I", true)
  | 43 => ("LateMoverModel", "leastThen", "[I", true)
  | 44 => ("LateMoverModel", "mostOf", "[I", true)
  | 45 => ("LateMoverModel", "mostThen", "[I", true)
  | 46 => ("LateMoverModel", "isKept", "[Z", true)
  | 47 => ("LateMoverModel", "writtenRow", "[B", true)
  | 48 => ("LateMoverModel", "writtenLong", "I", false)
  | 49 => ("LateMoverModel", "maybe", "[Z", true)
  | 50 => ("LateMoverModel", "live", "[I", true)
  | 51 => ("LateMoverModel", "over", "[Z", true)
  | 52 => ("LateMoverModel", "seen", "[Z", true)
  | 53 => ("LateMoverModel", "deep", "[I", true)
  | _ => ("LateMoverModel", "headMany", "I", false)
def tyX12 : Nat → FieldType := fun k => match k with
  | 0 => .array .int
  | 1 => .array .byte
  | 2 => .int
  | 3 => .int
  | 4 => .int
  | 5 => .int
  | 6 => .array .int
  | 7 => .array .int
  | 8 => .array .int
  | 9 => .array .int
  | 10 => .array .int
  | 11 => .array .int
  | 12 => .array .boolean
  | 13 => .array .int
  | 14 => .int
  | 15 => .boolean
  | 16 => .boolean
  | 17 => .array .boolean
  | 18 => .array .boolean
  | 19 => .array .boolean
  | 20 => .array .int
  | 21 => .array .int
  | 22 => .array .int
  | 23 => .array .int
  | 24 => .array .int
  | 25 => .array .int
  | 26 => .int
  | 27 => .int
  | 28 => .int
  | 29 => .int
  | 30 => .array .int
  | 31 => .array .int
  | 32 => .array .int
  | 33 => .int
  | 34 => .boolean
  | 35 => .int
  | 36 => .array .int
  | 37 => .array .boolean
  | 38 => .array .boolean
  | 39 => .array .int
  | 40 => .array .long
  | 41 => .array .long
  | 42 => .array .int
  | 43 => .array .int
  | 44 => .array .int
  | 45 => .array .int
  | 46 => .array .boolean
  | 47 => .array .byte
  | 48 => .int
  | 49 => .array .boolean
  | 50 => .array .int
  | 51 => .array .boolean
  | 52 => .array .boolean
  | 53 => .array .int
  | _ => .int
abbrev wsX120 : List Cond := u_ws RX12 TX12 55
theorem nmX12 : ∀ a, a < 55 → ∀ b, b < 55 → a ≠ b → (TX12 a).2.1 ≠ (TX12 b).2.1 := by decide +kernel
theorem tyX12_ok : ∀ k, k < 55 → parseFieldDescriptor (TX12 k).2.2.1 = some (tyX12 k) := by decide +kernel
abbrev cX12_init : ByteArray := prog_14_method_1_code
def yX12_init : MethodName := ⟨RX12, "<init>", "()V"⟩
abbrev cX12_isIn : ByteArray := prog_14_method_2_code
def yX12_isIn : MethodName := ⟨RX12, "isIn", "(III)Z"⟩
abbrev cX12_get : ByteArray := prog_14_method_3_code
def yX12_get : MethodName := ⟨RX12, "get", "(I)I"⟩
abbrev cX12_copyRow : ByteArray := prog_14_method_4_code
def yX12_copyRow : MethodName := ⟨RX12, "copyRow", "(II)V"⟩
abbrev cX12_put : ByteArray := prog_14_method_5_code
def yX12_put : MethodName := ⟨RX12, "put", "(II)V"⟩
abbrev cX12_read : ByteArray := prog_14_method_6_code
def yX12_read : MethodName := ⟨RX12, "read", "(I)I"⟩
abbrev cX12_four : ByteArray := prog_14_method_7_code
def yX12_four : MethodName := ⟨RX12, "four", "(I)V"⟩
abbrev cX12_feed : ByteArray := prog_14_method_8_code
def yX12_feed : MethodName := ⟨RX12, "feed", "(IIIII)I"⟩
abbrev cX12_end : ByteArray := prog_14_method_9_code
def yX12_end : MethodName := ⟨RX12, "end", "(I)I"⟩
abbrev cX12_here : ByteArray := prog_14_method_10_code
def yX12_here : MethodName := ⟨RX12, "here", "()I"⟩
abbrev cX12_isFigure : ByteArray := prog_14_method_11_code
def yX12_isFigure : MethodName := ⟨RX12, "isFigure", "(I)Z"⟩
abbrev cX12_isLetter : ByteArray := prog_14_method_12_code
def yX12_isLetter : MethodName := ⟨RX12, "isLetter", "(I)Z"⟩
abbrev cX12_isSign : ByteArray := prog_14_method_13_code
def yX12_isSign : MethodName := ⟨RX12, "isSign", "(I)Z"⟩
abbrev cX12_fails : ByteArray := prog_14_method_14_code
def yX12_fails : MethodName := ⟨RX12, "fails", "(I)Z"⟩
abbrev cX12_takes : ByteArray := prog_14_method_15_code
def yX12_takes : MethodName := ⟨RX12, "takes", "(I)Z"⟩
abbrev cX12_readDigits : ByteArray := prog_14_method_16_code
def yX12_readDigits : MethodName := ⟨RX12, "readDigits", "(I)Z"⟩
abbrev cX12_readA : ByteArray := prog_14_method_17_code
def yX12_readA : MethodName := ⟨RX12, "readA", "()Z"⟩
abbrev cX12_findExpression : ByteArray := prog_14_method_18_code
def yX12_findExpression : MethodName := ⟨RX12, "findExpression", "(III)I"⟩
abbrev cX12_readWorth : ByteArray := prog_14_method_19_code
def yX12_readWorth : MethodName := ⟨RX12, "readWorth", "(I)Z"⟩
abbrev cX12_readStatement : ByteArray := prog_14_method_20_code
def yX12_readStatement : MethodName := ⟨RX12, "readStatement", "()Z"⟩
abbrev cX12_readNumber : ByteArray := prog_14_method_21_code
def yX12_readNumber : MethodName := ⟨RX12, "readNumber", "(II)Z"⟩
abbrev cX12_readEnd : ByteArray := prog_14_method_22_code
def yX12_readEnd : MethodName := ⟨RX12, "readEnd", "()Z"⟩
abbrev cX12_readBlock : ByteArray := prog_14_method_23_code
def yX12_readBlock : MethodName := ⟨RX12, "readBlock", "()Z"⟩
abbrev cX12_readProgram : ByteArray := prog_14_method_24_code
def yX12_readProgram : MethodName := ⟨RX12, "readProgram", "()Z"⟩
abbrev cX12_program : ByteArray := prog_14_method_25_code
def yX12_program : MethodName := ⟨RX12, "program", "()I"⟩
abbrev cX12_fault : ByteArray := prog_14_method_26_code
def yX12_fault : MethodName := ⟨RX12, "fault", "()I"⟩
abbrev cX12_layNode : ByteArray := prog_14_method_27_code
def yX12_layNode : MethodName := ⟨RX12, "layNode", "(III)V"⟩
abbrev cX12_layCome : ByteArray := prog_14_method_28_code
def yX12_layCome : MethodName := ⟨RX12, "layCome", "()V"⟩
abbrev cX12_layEnd : ByteArray := prog_14_method_29_code
def yX12_layEnd : MethodName := ⟨RX12, "layEnd", "(II)V"⟩
abbrev cX12_layNodes : ByteArray := prog_14_method_30_code
def yX12_layNodes : MethodName := ⟨RX12, "layNodes", "()V"⟩
abbrev cX12_countCome : ByteArray := prog_14_method_31_code
def yX12_countCome : MethodName := ⟨RX12, "countCome", "()V"⟩
abbrev cX12_split : ByteArray := prog_14_method_32_code
def yX12_split : MethodName := ⟨RX12, "split", "()V"⟩
abbrev cX12_isLast : ByteArray := prog_14_method_33_code
def yX12_isLast : MethodName := ⟨RX12, "isLast", "(I)Z"⟩
abbrev cX12_areAllLeading : ByteArray := prog_14_method_34_code
def yX12_areAllLeading : MethodName := ⟨RX12, "areAllLeading", "()Z"⟩
abbrev cX12_lay : ByteArray := prog_14_method_35_code
def yX12_lay : MethodName := ⟨RX12, "lay", "()V"⟩
abbrev cX12_countNodes : ByteArray := prog_14_method_36_code
def yX12_countNodes : MethodName := ⟨RX12, "countNodes", "(I)I"⟩
abbrev cX12_edges : ByteArray := prog_14_method_37_code
def yX12_edges : MethodName := ⟨RX12, "edges", "()I"⟩
abbrev cX12_is : ByteArray := prog_14_method_38_code
def yX12_is : MethodName := ⟨RX12, "is", "(I)I"⟩
abbrev cX12_isNode : ByteArray := prog_14_method_39_code
def yX12_isNode : MethodName := ⟨RX12, "isNode", "(I)Z"⟩
abbrev cX12_isExpression : ByteArray := prog_14_method_40_code
def yX12_isExpression : MethodName := ⟨RX12, "isExpression", "(I)Z"⟩
abbrev cX12_expressionOf : ByteArray := prog_14_method_41_code
def yX12_expressionOf : MethodName := ⟨RX12, "expressionOf", "(I)I"⟩
abbrev cX12_changed : ByteArray := prog_14_method_42_code
def yX12_changed : MethodName := ⟨RX12, "changed", "(I)I"⟩
abbrev cX12_letterOf : ByteArray := prog_14_method_43_code
def yX12_letterOf : MethodName := ⟨RX12, "letterOf", "(I)I"⟩
abbrev cX12_node : ByteArray := prog_14_method_44_code
def yX12_node : MethodName := ⟨RX12, "node", "(II)I"⟩
abbrev cX12_isRisky : ByteArray := prog_14_method_45_code
def yX12_isRisky : MethodName := ⟨RX12, "isRisky", "(I)Z"⟩
abbrev cX12_risky : ByteArray := prog_14_method_46_code
def yX12_risky : MethodName := ⟨RX12, "risky", "()I"⟩
abbrev cX12_cell : ByteArray := prog_14_method_47_code
def yX12_cell : MethodName := ⟨RX12, "cell", "(III)I"⟩
abbrev cX12_so : ByteArray := prog_14_method_48_code
def yX12_so : MethodName := ⟨RX12, "so", "(III)Z"⟩
abbrev cX12_set : ByteArray := prog_14_method_49_code
def yX12_set : MethodName := ⟨RX12, "set", "(IIIZ)V"⟩
abbrev cX12_doesUse : ByteArray := prog_14_method_50_code
def yX12_doesUse : MethodName := ⟨RX12, "doesUse", "(II)Z"⟩
abbrev cX12_doesKeep : ByteArray := prog_14_method_51_code
def yX12_doesKeep : MethodName := ⟨RX12, "doesKeep", "(II)Z"⟩
abbrev cX12_staysAhead : ByteArray := prog_14_method_52_code
def yX12_staysAhead : MethodName := ⟨RX12, "staysAhead", "(III)Z"⟩
abbrev cX12_layAhead : ByteArray := prog_14_method_53_code
def yX12_layAhead : MethodName := ⟨RX12, "layAhead", "(II)V"⟩
abbrev cX12_lets : ByteArray := prog_14_method_54_code
def yX12_lets : MethodName := ⟨RX12, "lets", "(III)Z"⟩
abbrev cX12_layBehind : ByteArray := prog_14_method_55_code
def yX12_layBehind : MethodName := ⟨RX12, "layBehind", "(II)V"⟩
abbrev cX12_layEarly : ByteArray := prog_14_method_56_code
def yX12_layEarly : MethodName := ⟨RX12, "layEarly", "(I)V"⟩
abbrev cX12_layLate : ByteArray := prog_14_method_57_code
def yX12_layLate : MethodName := ⟨RX12, "layLate", "(I)V"⟩
abbrev cX12_layFacts : ByteArray := prog_14_method_58_code
def yX12_layFacts : MethodName := ⟨RX12, "layFacts", "(I)V"⟩
abbrev cX12_at : ByteArray := prog_14_method_59_code
def yX12_at : MethodName := ⟨RX12, "at", "(IIII)I"⟩
abbrev cX12_layAlive : ByteArray := prog_14_method_60_code
def yX12_layAlive : MethodName := ⟨RX12, "layAlive", "(II)V"⟩
abbrev cX12_isHow : ByteArray := prog_14_method_61_code
def yX12_isHow : MethodName := ⟨RX12, "isHow", "(I)Z"⟩
abbrev cX12_fact : ByteArray := prog_14_method_62_code
def yX12_fact : MethodName := ⟨RX12, "fact", "(III)I"⟩
abbrev cX12_placed : ByteArray := prog_14_method_63_code
def yX12_placed : MethodName := ⟨RX12, "placed", "(IIII)I"⟩
abbrev cX12_expression : ByteArray := prog_14_method_64_code
def yX12_expression : MethodName := ⟨RX12, "expression", "(II)I"⟩
abbrev cX12_countPlaced : ByteArray := prog_14_method_65_code
def yX12_countPlaced : MethodName := ⟨RX12, "countPlaced", "(III)I"⟩
abbrev cX12_doClash : ByteArray := prog_14_method_66_code
def yX12_doClash : MethodName := ⟨RX12, "doClash", "(III)Z"⟩
abbrev cX12_clashes : ByteArray := prog_14_method_67_code
def yX12_clashes : MethodName := ⟨RX12, "clashes", "(II)I"⟩
abbrev cX12_placement : ByteArray := prog_14_method_68_code
def yX12_placement : MethodName := ⟨RX12, "placement", "(III)I"⟩
abbrev cX12_layNames : ByteArray := prog_14_method_69_code
def yX12_layNames : MethodName := ⟨RX12, "layNames", "(I)I"⟩
abbrev cX12_shared : ByteArray := prog_14_method_70_code
def yX12_shared : MethodName := ⟨RX12, "shared", "(II)I"⟩
abbrev cX12_most : ByteArray := prog_14_method_71_code
def yX12_most : MethodName := ⟨RX12, "most", "(I)I"⟩
abbrev cX12_letter : ByteArray := prog_14_method_72_code
def yX12_letter : MethodName := ⟨RX12, "letter", "(II)I"⟩
abbrev cX12_worthOf : ByteArray := prog_14_method_73_code
def yX12_worthOf : MethodName := ⟨RX12, "worthOf", "(I)I"⟩
abbrev cX12_works : ByteArray := prog_14_method_74_code
def yX12_works : MethodName := ⟨RX12, "works", "(I)Z"⟩
abbrev cX12_putsIn : ByteArray := prog_14_method_75_code
def yX12_putsIn : MethodName := ⟨RX12, "putsIn", "(II)Z"⟩
abbrev cX12_does : ByteArray := prog_14_method_76_code
def yX12_does : MethodName := ⟨RX12, "does", "(II)Z"⟩
abbrev cX12_goesTo : ByteArray := prog_14_method_77_code
def yX12_goesTo : MethodName := ⟨RX12, "goesTo", "(I)I"⟩
abbrev cX12_runNow : ByteArray := prog_14_method_78_code
def yX12_runNow : MethodName := ⟨RX12, "runNow", "(I)V"⟩
abbrev cX12_canRun : ByteArray := prog_14_method_79_code
def yX12_canRun : MethodName := ⟨RX12, "canRun", "(I)Z"⟩
abbrev cX12_allWorked : ByteArray := prog_14_method_80_code
def yX12_allWorked : MethodName := ⟨RX12, "allWorked", "()I"⟩
abbrev cX12_run : ByteArray := prog_14_method_81_code
def yX12_run : MethodName := ⟨RX12, "run", "(II)I"⟩
abbrev cX12_computed : ByteArray := prog_14_method_82_code
def yX12_computed : MethodName := ⟨RX12, "computed", "(I)I"⟩
abbrev cX12_least : ByteArray := prog_14_method_83_code
def yX12_least : MethodName := ⟨RX12, "least", "(II)I"⟩
abbrev cX12_output : ByteArray := prog_14_method_84_code
def yX12_output : MethodName := ⟨RX12, "output", "(I)I"⟩
abbrev cX12_behind : ByteArray := prog_14_method_85_code
def yX12_behind : MethodName := ⟨RX12, "behind", "(I)I"⟩
abbrev cX12_alike : ByteArray := prog_14_method_86_code
def yX12_alike : MethodName := ⟨RX12, "alike", "(I)I"⟩
abbrev cX12_has : ByteArray := prog_14_method_87_code
def yX12_has : MethodName := ⟨RX12, "has", "(II)Z"⟩
abbrev cX12_isRight : ByteArray := prog_14_method_88_code
def yX12_isRight : MethodName := ⟨RX12, "isRight", "(II)Z"⟩
abbrev cX12_overBy : ByteArray := prog_14_method_89_code
def yX12_overBy : MethodName := ⟨RX12, "overBy", "(III)I"⟩
abbrev cX12_isFew : ByteArray := prog_14_method_90_code
def yX12_isFew : MethodName := ⟨RX12, "isFew", "(II)Z"⟩
abbrev cX12_lifeOf : ByteArray := prog_14_method_91_code
def yX12_lifeOf : MethodName := ⟨RX12, "lifeOf", "(II)I"⟩
abbrev cX12_bits : ByteArray := prog_14_method_92_code
def yX12_bits : MethodName := ⟨RX12, "bits", "(I)I"⟩
abbrev cX12_others : ByteArray := prog_14_method_93_code
def yX12_others : MethodName := ⟨RX12, "others", "(II)I"⟩
abbrev cX12_costs : ByteArray := prog_14_method_94_code
def yX12_costs : MethodName := ⟨RX12, "costs", "(II)I"⟩
abbrev cX12_goOn : ByteArray := prog_14_method_95_code
def yX12_goOn : MethodName := ⟨RX12, "goOn", "(III)V"⟩
abbrev cX12_goFurther : ByteArray := prog_14_method_96_code
def yX12_goFurther : MethodName := ⟨RX12, "goFurther", "(I)V"⟩
abbrev cX12_ways : ByteArray := prog_14_method_97_code
def yX12_ways : MethodName := ⟨RX12, "ways", "(III)J"⟩
abbrev cX12_keep : ByteArray := prog_14_method_98_code
def yX12_keep : MethodName := ⟨RX12, "keep", "(I)Z"⟩
abbrev cX12_back : ByteArray := prog_14_method_99_code
def yX12_back : MethodName := ⟨RX12, "back", "(I)Z"⟩
abbrev cX12_lay1 : ByteArray := prog_14_method_100_code
def yX12_lay1 : MethodName := ⟨RX12, "lay1", "(I)V"⟩
abbrev cX12_writeNumber : ByteArray := prog_14_method_101_code
def yX12_writeNumber : MethodName := ⟨RX12, "writeNumber", "(I)V"⟩
abbrev cX12_writeA : ByteArray := prog_14_method_102_code
def yX12_writeA : MethodName := ⟨RX12, "writeA", "(I)V"⟩
abbrev cX12_writeExpression : ByteArray := prog_14_method_103_code
def yX12_writeExpression : MethodName := ⟨RX12, "writeExpression", "(I)V"⟩
abbrev cX12_writeName : ByteArray := prog_14_method_104_code
def yX12_writeName : MethodName := ⟨RX12, "writeName", "(I)V"⟩
abbrev cX12_writeStatement : ByteArray := prog_14_method_105_code
def yX12_writeStatement : MethodName := ⟨RX12, "writeStatement", "(II)V"⟩
abbrev cX12_writeEnd : ByteArray := prog_14_method_106_code
def yX12_writeEnd : MethodName := ⟨RX12, "writeEnd", "(I)V"⟩
abbrev cX12_write : ByteArray := prog_14_method_107_code
def yX12_write : MethodName := ⟨RX12, "write", "(II)I"⟩
abbrev cX12_octet : ByteArray := prog_14_method_108_code
def yX12_octet : MethodName := ⟨RX12, "octet", "(I)I"⟩
abbrev cX12_layMaybe : ByteArray := prog_14_method_109_code
def yX12_layMaybe : MethodName := ⟨RX12, "layMaybe", "(I)V"⟩
abbrev cX12_again : ByteArray := prog_14_method_110_code
def yX12_again : MethodName := ⟨RX12, "again", "(II)I"⟩
abbrev cX12_bitOf : ByteArray := prog_14_method_111_code
def yX12_bitOf : MethodName := ⟨RX12, "bitOf", "(I)I"⟩
abbrev cX12_reads : ByteArray := prog_14_method_112_code
def yX12_reads : MethodName := ⟨RX12, "reads", "(I)I"⟩
abbrev cX12_liveBehind : ByteArray := prog_14_method_113_code
def yX12_liveBehind : MethodName := ⟨RX12, "liveBehind", "(I)I"⟩
abbrev cX12_layLive : ByteArray := prog_14_method_114_code
def yX12_layLive : MethodName := ⟨RX12, "layLive", "()V"⟩
abbrev cX12_live : ByteArray := prog_14_method_115_code
def yX12_live : MethodName := ⟨RX12, "live", "(I)I"⟩
abbrev cX12_isDead : ByteArray := prog_14_method_116_code
def yX12_isDead : MethodName := ⟨RX12, "isDead", "(I)Z"⟩
abbrev cX12_dead : ByteArray := prog_14_method_117_code
def yX12_dead : MethodName := ⟨RX12, "dead", "(I)I"⟩
abbrev cX12_layOver : ByteArray := prog_14_method_118_code
def yX12_layOver : MethodName := ⟨RX12, "layOver", "()V"⟩
abbrev cX12_isOver : ByteArray := prog_14_method_119_code
def yX12_isOver : MethodName := ⟨RX12, "isOver", "(II)Z"⟩
abbrev cX12_isHead : ByteArray := prog_14_method_120_code
def yX12_isHead : MethodName := ⟨RX12, "isHead", "(I)Z"⟩
abbrev cX12_layComing : ByteArray := prog_14_method_121_code
def yX12_layComing : MethodName := ⟨RX12, "layComing", "(I)V"⟩
abbrev cX12_layDeep : ByteArray := prog_14_method_122_code
def yX12_layDeep : MethodName := ⟨RX12, "layDeep", "()V"⟩
abbrev cX12_over : ByteArray := prog_14_method_123_code
def yX12_over : MethodName := ⟨RX12, "over", "(II)I"⟩
abbrev cX12_depth : ByteArray := prog_14_method_124_code
def yX12_depth : MethodName := ⟨RX12, "depth", "(I)I"⟩
abbrev cX12_heads : ByteArray := prog_14_method_125_code
def yX12_heads : MethodName := ⟨RX12, "heads", "()I"⟩
abbrev cX12_weight : ByteArray := prog_14_method_126_code
def yX12_weight : MethodName := ⟨RX12, "weight", "(I)J"⟩
def RJ6 : String := "java/lang/Integer"
def TJ6 : u_T := fun k => match k with
  | _ => ("", "", "", false)
def tyJ6 : Nat → FieldType := fun k => match k with
  | _ => .int
abbrev wsJ60 : List Cond := u_ws RJ6 TJ6 0
theorem nmJ6 : ∀ a, a < 0 → ∀ b, b < 0 → a ≠ b → (TJ6 a).2.1 ≠ (TJ6 b).2.1 := by decide +kernel
theorem tyJ6_ok : ∀ k, k < 0 → parseFieldDescriptor (TJ6 k).2.2.1 = some (tyJ6 k) := by decide +kernel
abbrev cJ6_bitCount_0f7a4 : ByteArray := prog_15_method_49_code
def yJ6_bitCount_0f7a4 : MethodName := ⟨RJ6, "bitCount", "(I)I"⟩
def RJ9 : String := "java/lang/Math"
def TJ9 : u_T := fun k => match k with
  | _ => ("", "", "", false)
def tyJ9 : Nat → FieldType := fun k => match k with
  | _ => .int
abbrev wsJ90 : List Cond := u_ws RJ9 TJ9 0
theorem nmJ9 : ∀ a, a < 0 → ∀ b, b < 0 → a ≠ b → (TJ9 a).2.1 ≠ (TJ9 b).2.1 := by decide +kernel
theorem tyJ9_ok : ∀ k, k < 0 → parseFieldDescriptor (TJ9 k).2.2.1 = some (tyJ9 k) := by decide +kernel
abbrev cJ9_max_7cf53 : ByteArray := prog_16_method_65_code
def yJ9_max_7cf53 : MethodName := ⟨RJ9, "max", "(II)I"⟩
abbrev cJ9_min_7cf53 : ByteArray := prog_16_method_69_code
def yJ9_min_7cf53 : MethodName := ⟨RJ9, "min", "(II)I"⟩
abbrev cJ9_min_f86c9 : ByteArray := prog_16_method_70_code
def yJ9_min_f86c9 : MethodName := ⟨RJ9, "min", "(JJ)J"⟩
def RJ10 : String := "java/lang/System"
def TJ10 : u_T := fun k => match k with
  | _ => ("", "", "", false)
def tyJ10 : Nat → FieldType := fun k => match k with
  | _ => .int
abbrev wsJ100 : List Cond := u_ws RJ10 TJ10 0
theorem nmJ10 : ∀ a, a < 0 → ∀ b, b < 0 → a ≠ b → (TJ10 a).2.1 ≠ (TJ10 b).2.1 := by decide +kernel
theorem tyJ10_ok : ∀ k, k < 0 → parseFieldDescriptor (TJ10 k).2.2.1 = some (tyJ10 k) := by decide +kernel
def RJ7 : String := "java/util/Arrays"
def TJ7 : u_T := fun k => match k with
  | _ => ("", "", "", false)
def tyJ7 : Nat → FieldType := fun k => match k with
  | _ => .int
abbrev wsJ70 : List Cond := u_ws RJ7 TJ7 0
theorem nmJ7 : ∀ a, a < 0 → ∀ b, b < 0 → a ≠ b → (TJ7 a).2.1 ≠ (TJ7 b).2.1 := by decide +kernel
theorem tyJ7_ok : ∀ k, k < 0 → parseFieldDescriptor (TJ7 k).2.2.1 = some (tyJ7 k) := by decide +kernel
abbrev cJ7_fill_d0a16 : ByteArray := prog_18_method_101_code
def yJ7_fill_d0a16 : MethodName := ⟨RJ7, "fill", "([JJ)V"⟩
abbrev cJ7_fill_53178 : ByteArray := prog_18_method_103_code
def yJ7_fill_53178 : MethodName := ⟨RJ7, "fill", "([II)V"⟩
def RL : String := "LateMoverLaw"
abbrev cL_law : ByteArray := code
def yL_law : MethodName := ⟨RL, "law", "([I)Z"⟩
def wsL_law_r1 : List Cond := [Cond.classLink RL 7 RX11, Cond.instantiable RX11 19, Cond.initialized RX11, Cond.classLink RL 10 RX12, Cond.instantiable RX12 55, Cond.initialized RX12, Cond.methodLink RL 9 yX11_init, Cond.instanceMethod yX11_init, Cond.code yX11_init cX11_init 2 none, Cond.methodLink RX11 3 objectInit, Cond.instanceMethod objectInit, Cond.code objectInit ⟨#[0xb1]⟩ 1 none, Cond.classLink RX11 9 RX9, Cond.instantiable RX9 2, Cond.initialized RX9, Cond.fieldLink RX11 12 "LateMover" "tape" "LLateMover$Text;", Cond.fieldLink RX11 16 "LateMover" "present" "LLateMover$Text;", Cond.fieldLink RX11 19 "LateMover" "wrote" "LLateMover$Text;", Cond.fieldLink RX11 22 "LateMover" "kept" "[LLateMover$Text;", Cond.classLink RX11 26 RX7, Cond.instantiable RX7 16, Cond.initialized RX7, Cond.fieldLink RX11 29 "LateMover" "reader" "LLateMover$Reader;", Cond.classLink RX11 33 RX3]
def wsL_law_r2 : List Cond := [Cond.instantiable RX3 15, Cond.initialized RX3, Cond.fieldLink RX11 36 "LateMover" "graph" "LLateMover$Graph;", Cond.classLink RX11 40 RX1, Cond.instantiable RX1 14, Cond.initialized RX1, Cond.fieldLink RX11 43 "LateMover" "facts" "LLateMover$Facts;", Cond.classLink RX11 47 RX4, Cond.instantiable RX4 5, Cond.initialized RX4, Cond.fieldLink RX11 50 "LateMover" "loops" "LLateMover$Loops;", Cond.classLink RX11 54 RX6, Cond.instantiable RX6 6, Cond.initialized RX6, Cond.fieldLink RX11 57 "LateMover" "unmoved" "LLateMover$Placement;", Cond.fieldLink RX11 61 "LateMover" "busy" "LLateMover$Placement;", Cond.fieldLink RX11 64 "LateMover" "lazy" "LLateMover$Placement;", Cond.arrayClass .int, Cond.fieldLink RX11 67 "LateMover" "told" "[I", Cond.classLink RX11 71 RX8, Cond.instantiable RX8 10, Cond.initialized RX8, Cond.fieldLink RX11 74 "LateMover" "latest" "LLateMover$Run;", Cond.fieldLink RX11 78 "LateMover" "sourceRun" "LLateMover$Run;"]
def wsL_law_r3 : List Cond := [Cond.fieldLink RX11 81 "LateMover" "movedRun" "LLateMover$Run;", Cond.classLink RX11 84 RX10, Cond.instantiable RX10 10, Cond.initialized RX10, Cond.fieldLink RX11 87 "LateMover" "routes" "LLateMover$Ways;", Cond.classLink RX11 91 RX5, Cond.instantiable RX5 13, Cond.initialized RX5, Cond.fieldLink RX11 94 "LateMover" "rivals" "LLateMover$Others;", Cond.fieldLink RX11 98 "LateMover" "wrongAt" "I", Cond.instanceMethod yX9_init, Cond.code yX9_init cX9_init 1 none, Cond.methodLink RX9 3 objectInit, Cond.arrayClass .byte, Cond.fieldLink RX9 9 "LateMover$Text" "bytes" "[B", Cond.instanceMethod yX7_init, Cond.code yX7_init cX7_init 1 none, Cond.methodLink RX7 3 objectInit, Cond.classLink RX7 9 RX9, Cond.fieldLink RX7 12 "LateMover$Reader" "text" "LLateMover$Text;", Cond.classLink RX7 18 RX0, Cond.instantiable RX0 4, Cond.initialized RX0, Cond.fieldLink RX7 21 "LateMover$Reader" "expressions" "LLateMover$Expressions;"]
def wsL_law_r4 : List Cond := [Cond.fieldLink RX7 25 "LateMover$Reader" "kind" "[I", Cond.fieldLink RX7 29 "LateMover$Reader" "block" "[I", Cond.fieldLink RX7 32 "LateMover$Reader" "letter" "[I", Cond.fieldLink RX7 35 "LateMover$Reader" "operand" "[I", Cond.fieldLink RX7 38 "LateMover$Reader" "expression" "[I", Cond.fieldLink RX7 41 "LateMover$Reader" "to" "[I", Cond.fieldLink RX7 44 "LateMover$Reader" "orTo" "[I", Cond.fieldLink RX7 47 "LateMover$Reader" "toAt" "[I", Cond.fieldLink RX7 50 "LateMover$Reader" "orToAt" "[I", Cond.instanceMethod yX0_init, Cond.code yX0_init cX0_init 1 none, Cond.methodLink RX0 3 objectInit, Cond.fieldLink RX0 9 "LateMover$Expressions" "sign" "[I", Cond.fieldLink RX0 15 "LateMover$Expressions" "left" "[I", Cond.fieldLink RX0 18 "LateMover$Expressions" "right" "[I", Cond.instanceMethod yX3_init, Cond.code yX3_init cX3_init 1 none, Cond.methodLink RX3 3 objectInit, Cond.classLink RX3 9 RX0, Cond.fieldLink RX3 12 "LateMover$Graph" "expressions" "LLateMover$Expressions;", Cond.fieldLink RX3 18 "LateMover$Graph" "kind" "[I", Cond.fieldLink RX3 22 "LateMover$Graph" "block" "[I", Cond.fieldLink RX3 25 "LateMover$Graph" "letter" "[I", Cond.fieldLink RX3 28 "LateMover$Graph" "operand" "[I"]
def wsL_law_r5 : List Cond := [Cond.fieldLink RX3 31 "LateMover$Graph" "expression" "[I", Cond.fieldLink RX3 34 "LateMover$Graph" "to" "[I", Cond.fieldLink RX3 37 "LateMover$Graph" "orTo" "[I", Cond.fieldLink RX3 40 "LateMover$Graph" "first" "[I", Cond.fieldLink RX3 43 "LateMover$Graph" "second" "[I", Cond.fieldLink RX3 46 "LateMover$Graph" "from" "[I", Cond.fieldLink RX3 49 "LateMover$Graph" "fromStart" "[I", Cond.fieldLink RX3 52 "LateMover$Graph" "blockStart" "[I", Cond.instanceMethod yX1_init, Cond.code yX1_init cX1_init 1 none, Cond.methodLink RX1 3 objectInit, Cond.classLink RX1 9 RX2, Cond.instantiable RX2 4, Cond.initialized RX2, Cond.fieldLink RX1 12 "LateMover$Facts" "flow" "LLateMover$Flow;", Cond.fieldLink RX1 18 "LateMover$Facts" "uses" "[I", Cond.fieldLink RX1 22 "LateMover$Facts" "keeps" "[I", Cond.fieldLink RX1 25 "LateMover$Facts" "needed" "[I", Cond.fieldLink RX1 28 "LateMover$Facts" "atHand" "[I", Cond.fieldLink RX1 31 "LateMover$Facts" "early" "[I", Cond.fieldLink RX1 34 "LateMover$Facts" "delayed" "[I", Cond.fieldLink RX1 37 "LateMover$Facts" "late" "[I", Cond.fieldLink RX1 40 "LateMover$Facts" "alone" "[I", Cond.fieldLink RX1 43 "LateMover$Facts" "maybe" "[I"]
def wsL_law_r6 : List Cond := [Cond.fieldLink RX1 46 "LateMover$Facts" "live" "[I", Cond.fieldLink RX1 49 "LateMover$Facts" "ends" "[I", Cond.instanceMethod yX2_init, Cond.code yX2_init cX2_init 1 none, Cond.methodLink RX2 3 objectInit, Cond.fieldLink RX2 9 "LateMover$Flow" "own" "[I", Cond.fieldLink RX2 15 "LateMover$Flow" "lets" "[I", Cond.fieldLink RX2 18 "LateMover$Flow" "gives" "[I", Cond.fieldLink RX2 21 "LateMover$Flow" "passes" "[I", Cond.instanceMethod yX4_init, Cond.code yX4_init cX4_init 1 none, Cond.methodLink RX4 3 objectInit, Cond.arrayClass .long, Cond.fieldLink RX4 9 "LateMover$Loops" "lowOver" "[J", Cond.fieldLink RX4 15 "LateMover$Loops" "highOver" "[J", Cond.fieldLink RX4 18 "LateMover$Loops" "inside" "[I", Cond.fieldLink RX4 22 "LateMover$Loops" "deep" "[I", Cond.instanceMethod yX6_init, Cond.code yX6_init cX6_init 1 none, Cond.methodLink RX6 3 objectInit, Cond.fieldLink RX6 9 "LateMover$Placement" "put" "[I", Cond.fieldLink RX6 15 "LateMover$Placement" "replaced" "[I", Cond.fieldLink RX6 18 "LateMover$Placement" "alive" "[I", Cond.fieldLink RX6 21 "LateMover$Placement" "clashes" "[I"]
def wsL_law_r7 : List Cond := [Cond.fieldLink RX6 24 "LateMover$Placement" "name" "[I", Cond.instanceMethod yX8_init, Cond.code yX8_init cX8_init 1 none, Cond.methodLink RX8 3 objectInit, Cond.fieldLink RX8 9 "LateMover$Run" "letters" "[I", Cond.fieldLink RX8 15 "LateMover$Run" "outputs" "[I", Cond.fieldLink RX8 18 "LateMover$Run" "times" "[I", Cond.fieldLink RX8 21 "LateMover$Run" "names" "[I", Cond.instanceMethod yX10_init, Cond.code yX10_init cX10_init 1 none, Cond.methodLink RX10 3 objectInit, Cond.fieldLink RX10 9 "LateMover$Ways" "work" "[I", Cond.fieldLink RX10 15 "LateMover$Ways" "ways" "[J", Cond.fieldLink RX10 19 "LateMover$Ways" "low" "[I", Cond.fieldLink RX10 22 "LateMover$Ways" "high" "[I", Cond.fieldLink RX10 25 "LateMover$Ways" "nextWays" "[J", Cond.fieldLink RX10 28 "LateMover$Ways" "nextLow" "[I", Cond.fieldLink RX10 31 "LateMover$Ways" "nextHigh" "[I", Cond.instanceMethod yX5_init, Cond.code yX5_init cX5_init 1 none, Cond.methodLink RX5 3 objectInit, Cond.classLink RX5 11 "[[I", Cond.fieldLink RX5 13 "LateMover$Others" "answers" "[[I", Cond.fieldLink RX5 16 "LateMover$Others" "one" "[I"]
def wsL_law_r8 : List Cond := [Cond.fieldLink RX5 20 "LateMover$Others" "two" "[I", Cond.fieldLink RX5 23 "LateMover$Others" "from" "[I", Cond.fieldLink RX5 26 "LateMover$Others" "next" "[I", Cond.fieldLink RX5 29 "LateMover$Others" "ahead" "[I", Cond.methodLink RL 12 yX12_init, Cond.instanceMethod yX12_init, Cond.code yX12_init cX12_init 1 none, Cond.methodLink RX12 1 objectInit, Cond.fieldLink RX12 7 "LateMoverModel" "all" "[I", Cond.fieldLink RX12 13 "LateMoverModel" "tape" "[B", Cond.fieldLink RX12 17 "LateMoverModel" "faultPlace" "I", Cond.fieldLink RX12 21 "LateMoverModel" "place" "[I", Cond.fieldLink RX12 24 "LateMoverModel" "kind" "[I", Cond.fieldLink RX12 27 "LateMoverModel" "blockOf" "[I", Cond.fieldLink RX12 30 "LateMoverModel" "statement" "[I", Cond.fieldLink RX12 33 "LateMoverModel" "next" "[I", Cond.fieldLink RX12 36 "LateMoverModel" "come" "[I", Cond.arrayClass .boolean, Cond.fieldLink RX12 39 "LateMoverModel" "isCome" "[Z", Cond.fieldLink RX12 43 "LateMoverModel" "beginOf" "[I", Cond.fieldLink RX12 46 "LateMoverModel" "leads" "[Z", Cond.fieldLink RX12 49 "LateMoverModel" "facts" "[Z", Cond.fieldLink RX12 52 "LateMoverModel" "placed" "[Z", Cond.fieldLink RX12 55 "LateMoverModel" "name" "[I"]
def wsL_law_r9 : List Cond := [Cond.fieldLink RX12 58 "LateMoverModel" "begins" "[I", Cond.fieldLink RX12 61 "LateMoverModel" "value" "[I", Cond.fieldLink RX12 64 "LateMoverModel" "nameValue" "[I", Cond.fieldLink RX12 67 "LateMoverModel" "worked" "[I", Cond.fieldLink RX12 70 "LateMoverModel" "shown" "[I", Cond.fieldLink RX12 73 "LateMoverModel" "lastValue" "[I", Cond.fieldLink RX12 76 "LateMoverModel" "lastWorked" "[I", Cond.fieldLink RX12 79 "LateMoverModel" "lastShown" "[I", Cond.fieldLink RX12 82 "LateMoverModel" "ownShown" "[I", Cond.fieldLink RX12 85 "LateMoverModel" "held" "[Z", Cond.fieldLink RX12 88 "LateMoverModel" "alive" "[Z", Cond.fieldLink RX12 91 "LateMoverModel" "far" "[I", Cond.fieldLink RX12 94 "LateMoverModel" "ways" "[J", Cond.fieldLink RX12 98 "LateMoverModel" "waysThen" "[J", Cond.fieldLink RX12 101 "LateMoverModel" "leastOf" "[I", Cond.fieldLink RX12 104 "LateMoverModel" "leastThen" "[I", Cond.fieldLink RX12 107 "LateMoverModel" "mostOf" "[I", Cond.fieldLink RX12 110 "LateMoverModel" "mostThen" "[I", Cond.fieldLink RX12 113 "LateMoverModel" "isKept" "[Z", Cond.fieldLink RX12 116 "LateMoverModel" "writtenRow" "[B", Cond.fieldLink RX12 119 "LateMoverModel" "maybe" "[Z", Cond.fieldLink RX12 122 "LateMoverModel" "live" "[I", Cond.fieldLink RX12 125 "LateMoverModel" "over" "[Z", Cond.fieldLink RX12 128 "LateMoverModel" "seen" "[Z"]
def wsL_law_r10 : List Cond := [Cond.fieldLink RX12 131 "LateMoverModel" "deep" "[I", Cond.methodLink RL 13 yX11_feed, Cond.instanceMethod yX11_feed, Cond.selects RX11 yX11_feed yX11_feed, Cond.code yX11_feed cX11_feed 6 (some .int), Cond.methodLink RX11 102 yX9_size, Cond.instanceMethod yX9_size, Cond.selects RX9 yX9_size yX9_size, Cond.code yX9_size cX9_size 1 (some .int), Cond.fieldLink RX9 15 "LateMover$Text" "length" "I", Cond.methodLink RX11 106 yX9_putFour, Cond.instanceMethod yX9_putFour, Cond.selects RX9 yX9_putFour yX9_putFour, Cond.code yX9_putFour cX9_putFour 2 none, Cond.methodLink RX9 19 yX9_put, Cond.instanceMethod yX9_put, Cond.selects RX9 yX9_put yX9_put, Cond.code yX9_put cX9_put 2 none, Cond.methodLink RL 17 yX12_feed, Cond.instanceMethod yX12_feed, Cond.selects RX12 yX12_feed yX12_feed, Cond.code yX12_feed cX12_feed 6 (some .int), Cond.fieldLink RX12 134 "LateMoverModel" "taped" "I", Cond.methodLink RX12 137 yX12_four]
def wsL_law_r11 : List Cond := [Cond.instanceMethod yX12_four, Cond.selects RX12 yX12_four yX12_four, Cond.code yX12_four cX12_four 3 none, Cond.methodLink RL 18 yX11_end, Cond.instanceMethod yX11_end, Cond.selects RX11 yX11_end yX11_end, Cond.code yX11_end cX11_end 2 (some .int), Cond.methodLink RX11 110 yX9_cut, Cond.instanceMethod yX9_cut, Cond.selects RX9 yX9_cut yX9_cut, Cond.code yX9_cut cX9_cut 2 none, Cond.methodLink RL 22 yX12_end, Cond.instanceMethod yX12_end, Cond.selects RX12 yX12_end yX12_end, Cond.code yX12_end cX12_end 2 (some .int), Cond.methodLink RX12 141 yX12_isIn, Cond.static yX12_isIn, Cond.code yX12_isIn cX12_isIn 3 (some .boolean), Cond.methodLink RL 23 yX11_program, Cond.instanceMethod yX11_program, Cond.selects RX11 yX11_program yX11_program, Cond.code yX11_program cX11_program 1 (some .int), Cond.fieldLink RX11 120 "LateMover$Graph" "nodes" "I", Cond.methodLink RX11 113 yX7_faultOf]
def wsL_law_r12 : List Cond := [Cond.instanceMethod yX7_faultOf, Cond.selects RX7 yX7_faultOf yX7_faultOf, Cond.code yX7_faultOf cX7_faultOf 3 (some .int), Cond.fieldLink RX7 57 "LateMover$Expressions" "count" "I", Cond.fieldLink RX7 61 "LateMover$Reader" "lines" "I", Cond.fieldLink RX7 64 "LateMover$Reader" "blocks" "I", Cond.fieldLink RX7 67 "LateMover$Reader" "statements" "I", Cond.fieldLink RX7 70 "LateMover$Reader" "at" "I", Cond.fieldLink RX7 77 "LateMover$Reader" "wrong" "I", Cond.methodLink RX7 53 yX9_copyFrom, Cond.instanceMethod yX9_copyFrom, Cond.selects RX9 yX9_copyFrom yX9_copyFrom, Cond.code yX9_copyFrom cX9_copyFrom 2 none, Cond.methodLink RX9 23 arraycopyName, Cond.native arraycopyName, Cond.static arraycopyName, Cond.initialized "java/lang/System", Cond.methodLink RX7 73 yX9_size, Cond.methodLink RX7 80 yX7_readBlock, Cond.instanceMethod yX7_readBlock, Cond.selects RX7 yX7_readBlock yX7_readBlock, Cond.code yX7_readBlock cX7_readBlock 2 (some .boolean), Cond.methodLink RX7 90 yX7_refuse, Cond.instanceMethod yX7_refuse]
def wsL_law_r13 : List Cond := [Cond.selects RX7 yX7_refuse yX7_refuse, Cond.code yX7_refuse cX7_refuse 2 (some .boolean), Cond.methodLink RX7 94 yX7_startsStatement, Cond.instanceMethod yX7_startsStatement, Cond.selects RX7 yX7_startsStatement yX7_startsStatement, Cond.code yX7_startsStatement cX7_startsStatement 1 (some .boolean), Cond.methodLink RX7 87 yX9_at, Cond.instanceMethod yX9_at, Cond.selects RX9 yX9_at yX9_at, Cond.code yX9_at cX9_at 2 (some .int), Cond.methodLink RX7 106 yX7_isLetter, Cond.static yX7_isLetter, Cond.code yX7_isLetter cX7_isLetter 1 (some .boolean), Cond.methodLink RX7 97 yX7_readStatement, Cond.instanceMethod yX7_readStatement, Cond.selects RX7 yX7_readStatement yX7_readStatement, Cond.code yX7_readStatement cX7_readStatement 3 (some .boolean), Cond.methodLink RX7 109 yX7_readOperand, Cond.instanceMethod yX7_readOperand, Cond.selects RX7 yX7_readOperand yX7_readOperand, Cond.code yX7_readOperand cX7_readOperand 3 (some .int), Cond.methodLink RX7 126 yX7_readNumber, Cond.instanceMethod yX7_readNumber, Cond.selects RX7 yX7_readNumber yX7_readNumber]
def wsL_law_r14 : List Cond := [Cond.code yX7_readNumber cX7_readNumber 4 (some .int), Cond.methodLink RX7 129 yX7_isDigit, Cond.static yX7_isDigit, Cond.code yX7_isDigit cX7_isDigit 1 (some .boolean), Cond.methodLink RX7 112 yX7_addStatement, Cond.instanceMethod yX7_addStatement, Cond.selects RX7 yX7_addStatement yX7_addStatement, Cond.code yX7_addStatement cX7_addStatement 5 (some .boolean), Cond.methodLink RX7 132 yX7_addLine, Cond.instanceMethod yX7_addLine, Cond.selects RX7 yX7_addLine yX7_addLine, Cond.code yX7_addLine cX7_addLine 2 (some .boolean), Cond.methodLink RX7 100 yX7_take, Cond.instanceMethod yX7_take, Cond.selects RX7 yX7_take yX7_take, Cond.code yX7_take cX7_take 2 (some .boolean), Cond.methodLink RX7 116 yX7_readRightSide, Cond.instanceMethod yX7_readRightSide, Cond.selects RX7 yX7_readRightSide yX7_readRightSide, Cond.code yX7_readRightSide cX7_readRightSide 7 (some .boolean), Cond.methodLink RX7 119 yX7_isOperator, Cond.static yX7_isOperator, Cond.code yX7_isOperator cX7_isOperator 1 (some .boolean), Cond.methodLink RX7 122 yX0_numberOf]
def wsL_law_r15 : List Cond := [Cond.instanceMethod yX0_numberOf, Cond.selects RX0 yX0_numberOf yX0_numberOf, Cond.code yX0_numberOf cX0_numberOf 5 (some .int), Cond.fieldLink RX0 21 "LateMover$Expressions" "count" "I", Cond.methodLink RX7 103 yX7_readEnd, Cond.instanceMethod yX7_readEnd, Cond.selects RX7 yX7_readEnd yX7_readEnd, Cond.code yX7_readEnd cX7_readEnd 2 (some .boolean), Cond.methodLink RX7 135 yX7_readTarget, Cond.instanceMethod yX7_readTarget, Cond.selects RX7 yX7_readTarget yX7_readTarget, Cond.code yX7_readTarget cX7_readTarget 6 (some .boolean), Cond.methodLink RX7 139 yX7_readChoice, Cond.instanceMethod yX7_readChoice, Cond.selects RX7 yX7_readChoice yX7_readChoice, Cond.code yX7_readChoice cX7_readChoice 2 (some .boolean), Cond.methodLink RX7 84 yX7_findStrayNumber, Cond.instanceMethod yX7_findStrayNumber, Cond.selects RX7 yX7_findStrayNumber yX7_findStrayNumber, Cond.code yX7_findStrayNumber cX7_findStrayNumber 2 none, Cond.methodLink RX11 117 yX11_settle, Cond.instanceMethod yX11_settle, Cond.selects RX11 yX11_settle yX11_settle, Cond.code yX11_settle cX11_settle 3 none]
def wsL_law_r16 : List Cond := [Cond.fieldLink RX11 131 "LateMover$Reader" "text" "LLateMover$Text;", Cond.fieldLink RX11 142 "LateMover$Facts" "late" "[I", Cond.fieldLink RX11 145 "LateMover$Facts" "alone" "[I", Cond.fieldLink RX11 148 "LateMover$Facts" "early" "[I", Cond.fieldLink RX11 151 "LateMover$Facts" "uses" "[I", Cond.fieldLink RX11 158 "LateMover$Facts" "flow" "LLateMover$Flow;", Cond.fieldLink RX11 168 "LateMover" "ran" "Z", Cond.methodLink RX11 127 yX9_copyFrom, Cond.methodLink RX11 134 yX3_build, Cond.instanceMethod yX3_build, Cond.selects RX3 yX3_build yX3_build, Cond.code yX3_build cX3_build 2 none, Cond.fieldLink RX3 55 "LateMover$Reader" "expressions" "LLateMover$Expressions;", Cond.fieldLink RX3 62 "LateMover$Reader" "blocks" "I", Cond.fieldLink RX3 66 "LateMover$Graph" "blocks" "I", Cond.fieldLink RX3 67 "LateMover$Graph" "nodes" "I", Cond.methodLink RX3 58 yX0_copyFrom, Cond.instanceMethod yX0_copyFrom, Cond.selects RX0 yX0_copyFrom yX0_copyFrom, Cond.code yX0_copyFrom cX0_copyFrom 2 none, Cond.methodLink RX0 33 arraycopyName, Cond.methodLink RX3 70 yX3_add, Cond.instanceMethod yX3_add, Cond.selects RX3 yX3_add yX3_add]
def wsL_law_r17 : List Cond := [Cond.code yX3_add cX3_add 3 (some .int), Cond.methodLink RX3 74 yX3_addReached, Cond.instanceMethod yX3_addReached, Cond.selects RX3 yX3_addReached yX3_addReached, Cond.code yX3_addReached cX3_addReached 6 none, Cond.fieldLink RX3 97 "LateMover$Reader" "lines" "I", Cond.fieldLink RX3 100 "LateMover$Reader" "block" "[I", Cond.fieldLink RX3 101 "LateMover$Reader" "kind" "[I", Cond.methodLink RX3 87 yX3_reachedBlocks, Cond.static yX3_reachedBlocks, Cond.code yX3_reachedBlocks cX3_reachedBlocks 4 (some .int), Cond.fieldLink RX3 108 "LateMover$Reader" "to" "[I", Cond.fieldLink RX3 109 "LateMover$Reader" "orTo" "[I", Cond.methodLink RX3 110 yX3_blockBit, Cond.static yX3_blockBit, Cond.code yX3_blockBit cX3_blockBit 1 (some .int), Cond.methodLink RX3 91 yJ7_fill_53178, Cond.static yJ7_fill_53178, Cond.initialized RJ7, Cond.code yJ7_fill_53178 cJ7_fill_53178 4 none, Cond.methodLink RX3 102 yX3_fill, Cond.instanceMethod yX3_fill, Cond.selects RX3 yX3_fill yX3_fill, Cond.code yX3_fill cX3_fill 4 none]
def wsL_law_r18 : List Cond := [Cond.fieldLink RX3 105 "LateMover$Reader" "letter" "[I", Cond.fieldLink RX3 106 "LateMover$Reader" "operand" "[I", Cond.fieldLink RX3 107 "LateMover$Reader" "expression" "[I", Cond.methodLink RX3 78 yX3_joinNodes, Cond.instanceMethod yX3_joinNodes, Cond.selects RX3 yX3_joinNodes yX3_joinNodes, Cond.code yX3_joinNodes cX3_joinNodes 2 none, Cond.methodLink RX3 113 yX3_startOf, Cond.instanceMethod yX3_startOf, Cond.selects RX3 yX3_startOf yX3_startOf, Cond.code yX3_startOf cX3_startOf 2 (some .int), Cond.methodLink RX3 81 yX3_splitEdges, Cond.instanceMethod yX3_splitEdges, Cond.selects RX3 yX3_splitEdges yX3_splitEdges, Cond.code yX3_splitEdges cX3_splitEdges 3 none, Cond.methodLink RX3 116 yX3_edgesFrom, Cond.instanceMethod yX3_edgesFrom, Cond.selects RX3 yX3_edgesFrom yX3_edgesFrom, Cond.code yX3_edgesFrom cX3_edgesFrom 2 (some .int), Cond.methodLink RX3 129 yX3_isNode, Cond.instanceMethod yX3_isNode, Cond.selects RX3 yX3_isNode yX3_isNode, Cond.code yX3_isNode cX3_isNode 2 (some .boolean), Cond.static yX11_oneIf]
def wsL_law_r19 : List Cond := [Cond.code yX11_oneIf cX11_oneIf 1 (some .int), Cond.methodLink RX3 119 yX3_splitIfOthersCome, Cond.instanceMethod yX3_splitIfOthersCome, Cond.selects RX3 yX3_splitIfOthersCome yX3_splitIfOthersCome, Cond.code yX3_splitIfOthersCome cX3_splitIfOthersCome 3 (some .int), Cond.methodLink RX3 122 yX3_comingTo, Cond.instanceMethod yX3_comingTo, Cond.selects RX3 yX3_comingTo yX3_comingTo, Cond.code yX3_comingTo cX3_comingTo 4 (some .int), Cond.methodLink RX3 84 yX3_listFrom, Cond.instanceMethod yX3_listFrom, Cond.selects RX3 yX3_listFrom yX3_listFrom, Cond.code yX3_listFrom cX3_listFrom 4 none, Cond.methodLink RX11 138 yX1_build, Cond.instanceMethod yX1_build, Cond.selects RX1 yX1_build yX1_build, Cond.code yX1_build cX1_build 3 none, Cond.fieldLink RX1 52 "LateMover$Graph" "expressions" "LLateMover$Expressions;", Cond.fieldLink RX1 58 "LateMover$Expressions" "count" "I", Cond.fieldLink RX1 64 "LateMover$Facts" "all" "I", Cond.fieldLink RX1 67 "LateMover$Graph" "nodes" "I", Cond.methodLink RX1 70 yX1_usedAt, Cond.static yX1_usedAt, Cond.code yX1_usedAt cX1_usedAt 3 (some .int)]
def wsL_law_r20 : List Cond := [Cond.fieldLink RX1 105 "LateMover$Graph" "expression" "[I", Cond.methodLink RX1 108 yX0_isOne, Cond.instanceMethod yX0_isOne, Cond.selects RX0 yX0_isOne yX0_isOne, Cond.code yX0_isOne cX0_isOne 2 (some .boolean), Cond.methodLink RX1 74 yX1_keptAt, Cond.static yX1_keptAt, Cond.code yX1_keptAt cX1_keptAt 6 (some .int), Cond.methodLink RX1 112 yX1_letterChangedAt, Cond.static yX1_letterChangedAt, Cond.code yX1_letterChangedAt cX1_letterChangedAt 2 (some .int), Cond.fieldLink RX1 129 "LateMover$Graph" "kind" "[I", Cond.fieldLink RX1 132 "LateMover$Graph" "letter" "[I", Cond.methodLink RX1 115 yX0_letterBit, Cond.static yX0_letterBit, Cond.code yX0_letterBit cX0_letterBit 1 (some .int), Cond.methodLink RX1 119 yX0_lettersOf, Cond.instanceMethod yX0_lettersOf, Cond.selects RX0 yX0_lettersOf yX0_lettersOf, Cond.code yX0_lettersOf cX0_lettersOf 2 (some .int), Cond.methodLink RX0 25 yX0_isOne, Cond.methodLink RX0 29 yX0_letterBit, Cond.methodLink RX1 122 yX0_isRisky, Cond.instanceMethod yX0_isRisky]
def wsL_law_r21 : List Cond := [Cond.selects RX0 yX0_isRisky yX0_isRisky, Cond.code yX0_isRisky cX0_isRisky 2 (some .boolean), Cond.methodLink RX1 125 yX1_hinders, Cond.static yX1_hinders, Cond.code yX1_hinders cX1_hinders 4 (some .boolean), Cond.methodLink RX1 77 yX1_findSound, Cond.instanceMethod yX1_findSound, Cond.selects RX1 yX1_findSound yX1_findSound, Cond.code yX1_findSound cX1_findSound 3 none, Cond.fieldLink RX1 157 "LateMover$Facts" "sound" "Z", Cond.methodLink RX1 138 yX3_edgesFrom, Cond.methodLink RX1 145 yX2_tell, Cond.instanceMethod yX2_tell, Cond.selects RX2 yX2_tell yX2_tell, Cond.code yX2_tell cX2_tell 6 none, Cond.methodLink RX1 149 yX2_solve, Cond.instanceMethod yX2_solve, Cond.selects RX2 yX2_solve yX2_solve, Cond.code yX2_solve cX2_solve 12 none, Cond.fieldLink RX2 30 "LateMover$Graph" "nodes" "I", Cond.methodLink RX2 24 yJ7_fill_53178, Cond.methodLink RX2 36 yX2_inAll, Cond.instanceMethod yX2_inAll, Cond.selects RX2 yX2_inAll yX2_inAll]
def wsL_law_r22 : List Cond := [Cond.code yX2_inAll cX2_inAll 9 (some .int), Cond.methodLink RX2 44 yX3_edgesFrom, Cond.methodLink RX2 48 yX3_edgesTo, Cond.instanceMethod yX3_edgesTo, Cond.selects RX3 yX3_edgesTo yX3_edgesTo, Cond.code yX3_edgesTo cX3_edgesTo 2 (some .int), Cond.methodLink RX2 51 yX3_kthTarget, Cond.instanceMethod yX3_kthTarget, Cond.selects RX3 yX3_kthTarget yX3_kthTarget, Cond.code yX3_kthTarget cX3_kthTarget 3 (some .int), Cond.methodLink RX2 55 yX3_kthSource, Cond.instanceMethod yX3_kthSource, Cond.selects RX3 yX3_kthSource yX3_kthSource, Cond.code yX3_kthSource cX3_kthSource 4 (some .int), Cond.methodLink RX2 58 yX2_side, Cond.instanceMethod yX2_side, Cond.selects RX2 yX2_side yX2_side, Cond.code yX2_side cX2_side 4 (some .int), Cond.methodLink RX2 62 yX3_isNode, Cond.methodLink RX2 40 yX2_inOne, Cond.instanceMethod yX2_inOne, Cond.selects RX2 yX2_inOne yX2_inOne, Cond.code yX2_inOne cX2_inOne 8 (some .int), Cond.methodLink RX1 153 yX3_nodesWith]
def wsL_law_r23 : List Cond := [Cond.instanceMethod yX3_nodesWith, Cond.selects RX3 yX3_nodesWith yX3_nodesWith, Cond.code yX3_nodesWith cX3_nodesWith 5 (some .int), Cond.methodLink RX1 81 yX1_findLive, Cond.instanceMethod yX1_findLive, Cond.selects RX1 yX1_findLive yX1_findLive, Cond.code yX1_findLive cX1_findLive 3 none, Cond.methodLink RX1 161 yX1_lettersReadAt, Cond.static yX1_lettersReadAt, Cond.code yX1_lettersReadAt cX1_lettersReadAt 2 (some .int), Cond.fieldLink RX1 135 "LateMover$Graph" "operand" "[I", Cond.methodLink RX1 84 yX1_findNeeded, Cond.instanceMethod yX1_findNeeded, Cond.selects RX1 yX1_findNeeded yX1_findNeeded, Cond.code yX1_findNeeded cX1_findNeeded 3 none, Cond.methodLink RX1 87 yX1_findAtHand, Cond.instanceMethod yX1_findAtHand, Cond.selects RX1 yX1_findAtHand yX1_findAtHand, Cond.code yX1_findAtHand cX1_findAtHand 3 none, Cond.methodLink RX1 90 yX1_findMaybe, Cond.instanceMethod yX1_findMaybe, Cond.selects RX1 yX1_findMaybe yX1_findMaybe, Cond.code yX1_findMaybe cX1_findMaybe 3 none, Cond.methodLink RX1 93 yX1_findEarly]
def wsL_law_r24 : List Cond := [Cond.instanceMethod yX1_findEarly, Cond.selects RX1 yX1_findEarly yX1_findEarly, Cond.code yX1_findEarly cX1_findEarly 6 none, Cond.methodLink RX1 171 yX3_edgesTo, Cond.methodLink RX1 174 yX3_kthSource, Cond.methodLink RX1 168 yX3_isNode, Cond.methodLink RX1 96 yX1_findDelayed, Cond.instanceMethod yX1_findDelayed, Cond.selects RX1 yX1_findDelayed yX1_findDelayed, Cond.code yX1_findDelayed cX1_findDelayed 3 none, Cond.methodLink RX1 99 yX1_findLate, Cond.instanceMethod yX1_findLate, Cond.selects RX1 yX1_findLate yX1_findLate, Cond.code yX1_findLate cX1_findLate 6 none, Cond.methodLink RX1 164 yX3_kthTarget, Cond.methodLink RX1 102 yX1_findAlone, Cond.instanceMethod yX1_findAlone, Cond.selects RX1 yX1_findAlone yX1_findAlone, Cond.code yX1_findAlone cX1_findAlone 3 none, Cond.methodLink RX11 141 yX4_build, Cond.instanceMethod yX4_build, Cond.selects RX4 yX4_build yX4_build, Cond.code yX4_build cX4_build 3 none, Cond.fieldLink RX4 35 "LateMover$Loops" "headCount" "I"]
def wsL_law_r25 : List Cond := [Cond.fieldLink RX4 39 "LateMover$Graph" "nodes" "I", Cond.methodLink RX4 25 yX4_findOver, Cond.instanceMethod yX4_findOver, Cond.selects RX4 yX4_findOver yX4_findOver, Cond.code yX4_findOver cX4_findOver 5 none, Cond.constantLong RX4 52 (-1), Cond.methodLink RX4 54 yJ7_fill_d0a16, Cond.static yJ7_fill_d0a16, Cond.code yJ7_fill_d0a16 cJ7_fill_d0a16 5 none, Cond.methodLink RX4 57 yX4_narrowsAt, Cond.instanceMethod yX4_narrowsAt, Cond.selects RX4 yX4_narrowsAt yX4_narrowsAt, Cond.code yX4_narrowsAt cX4_narrowsAt 9 (some .boolean), Cond.methodLink RX4 60 yX3_edgesTo, Cond.methodLink RX4 64 yX3_kthSource, Cond.methodLink RX4 68 yX3_isNode, Cond.methodLink RX4 29 yJ7_fill_53178, Cond.methodLink RX4 44 yX4_isHead, Cond.instanceMethod yX4_isHead, Cond.selects RX4 yX4_isHead yX4_isHead, Cond.code yX4_isHead cX4_isHead 5 (some .boolean), Cond.methodLink RX4 72 yX4_isOver, Cond.instanceMethod yX4_isOver, Cond.selects RX4 yX4_isOver yX4_isOver]
def wsL_law_r26 : List Cond := [Cond.code yX4_isOver cX4_isOver 3 (some .boolean), Cond.methodLink RX4 48 yX4_addLoop, Cond.instanceMethod yX4_addLoop, Cond.selects RX4 yX4_addLoop yX4_addLoop, Cond.code yX4_addLoop cX4_addLoop 6 none, Cond.methodLink RX4 76 yX4_leadsInside, Cond.instanceMethod yX4_leadsInside, Cond.selects RX4 yX4_leadsInside yX4_leadsInside, Cond.code yX4_leadsInside cX4_leadsInside 5 (some .boolean), Cond.methodLink RX4 79 yX3_edgesFrom, Cond.methodLink RX4 82 yX3_kthTarget, Cond.methodLink RX11 154 yX6_tell, Cond.instanceMethod yX6_tell, Cond.selects RX6 yX6_tell yX6_tell, Cond.code yX6_tell cX6_tell 4 none, Cond.methodLink RX11 162 yX6_build, Cond.instanceMethod yX6_build, Cond.selects RX6 yX6_build yX6_build, Cond.code yX6_build cX6_build 4 none, Cond.fieldLink RX6 27 "LateMover$Graph" "nodes" "I", Cond.methodLink RX6 33 yX2_tell, Cond.methodLink RX6 39 yX2_solve, Cond.methodLink RX6 43 yX6_findClashes, Cond.instanceMethod yX6_findClashes]
def wsL_law_r27 : List Cond := [Cond.selects RX6 yX6_findClashes yX6_findClashes, Cond.code yX6_findClashes cX6_findClashes 5 none, Cond.fieldLink RX6 50 "LateMover$Graph" "expressions" "LLateMover$Expressions;", Cond.fieldLink RX6 54 "LateMover$Expressions" "count" "I", Cond.static yX11_bitOf, Cond.code yX11_bitOf cX11_bitOf 2 (some .int), Cond.methodLink RX6 47 yX6_shareNames, Cond.instanceMethod yX6_shareNames, Cond.selects RX6 yX6_shareNames yX6_shareNames, Cond.code yX6_shareNames cX6_shareNames 3 none, Cond.fieldLink RX6 63 "LateMover$Placement" "names" "I", Cond.methodLink RX6 74 Lib.Math.max.name, Cond.static Lib.Math.max.name, Cond.initialized "java/lang/Math", Cond.code Lib.Math.max.name Lib.Math.max.code 2 (some .int), Cond.methodLink RX6 66 yX3_nodesWith, Cond.methodLink RX6 70 yX6_firstFreeName, Cond.instanceMethod yX6_firstFreeName, Cond.selects RX6 yX6_firstFreeName yX6_firstFreeName, Cond.code yX6_firstFreeName cX6_firstFreeName 4 (some .int), Cond.methodLink RX11 165 yX5_forget, Cond.instanceMethod yX5_forget, Cond.selects RX5 yX5_forget yX5_forget, Cond.code yX5_forget cX5_forget 1 none]
def wsL_law_r28 : List Cond := [Cond.fieldLink RX5 32 "LateMover$Others" "known" "I", Cond.methodLink RL 27 yX12_program, Cond.instanceMethod yX12_program, Cond.selects RX12 yX12_program yX12_program, Cond.code yX12_program cX12_program 2 (some .int), Cond.fieldLink RX12 215 "LateMoverModel" "nodes" "I", Cond.methodLink RX12 206 yX12_readProgram, Cond.instanceMethod yX12_readProgram, Cond.selects RX12 yX12_readProgram yX12_readProgram, Cond.code yX12_readProgram cX12_readProgram 2 (some .boolean), Cond.fieldLink RX12 145 "LateMoverModel" "at" "I", Cond.methodLink RX12 176 yX12_put, Cond.instanceMethod yX12_put, Cond.selects RX12 yX12_put yX12_put, Cond.code yX12_put cX12_put 3 none, Cond.methodLink RX12 152 yX12_fails, Cond.instanceMethod yX12_fails, Cond.selects RX12 yX12_fails yX12_fails, Cond.code yX12_fails cX12_fails 2 (some .boolean), Cond.methodLink RX12 203 yX12_readBlock, Cond.instanceMethod yX12_readBlock, Cond.selects RX12 yX12_readBlock yX12_readBlock, Cond.code yX12_readBlock cX12_readBlock 1 (some .boolean), Cond.methodLink RX12 168 yX12_read]
def wsL_law_r29 : List Cond := [Cond.instanceMethod yX12_read, Cond.selects RX12 yX12_read yX12_read, Cond.code yX12_read cX12_read 2 (some .int), Cond.methodLink RX12 148 yX12_here, Cond.instanceMethod yX12_here, Cond.selects RX12 yX12_here yX12_here, Cond.code yX12_here cX12_here 1 (some .int), Cond.methodLink RX12 162 yX12_isLetter, Cond.static yX12_isLetter, Cond.code yX12_isLetter cX12_isLetter 1 (some .boolean), Cond.methodLink RX12 197 yX12_readStatement, Cond.instanceMethod yX12_readStatement, Cond.selects RX12 yX12_readStatement yX12_readStatement, Cond.code yX12_readStatement cX12_readStatement 3 (some .boolean), Cond.fieldLink RX12 159 "LateMoverModel" "number" "I", Cond.methodLink RX12 172 yX12_readA, Cond.instanceMethod yX12_readA, Cond.selects RX12 yX12_readA yX12_readA, Cond.code yX12_readA cX12_readA 1 (some .boolean), Cond.methodLink RX12 165 yX12_readDigits, Cond.instanceMethod yX12_readDigits, Cond.selects RX12 yX12_readDigits yX12_readDigits, Cond.code yX12_readDigits cX12_readDigits 3 (some .boolean), Cond.methodLink RX12 156 yX12_isFigure]
def wsL_law_r30 : List Cond := [Cond.static yX12_isFigure, Cond.code yX12_isFigure cX12_isFigure 1 (some .boolean), Cond.methodLink RX12 187 yX12_takes, Cond.instanceMethod yX12_takes, Cond.selects RX12 yX12_takes yX12_takes, Cond.code yX12_takes cX12_takes 2 (some .boolean), Cond.methodLink RX12 190 yX12_readWorth, Cond.instanceMethod yX12_readWorth, Cond.selects RX12 yX12_readWorth yX12_readWorth, Cond.code yX12_readWorth cX12_readWorth 6 (some .boolean), Cond.methodLink RX12 180 yX12_isSign, Cond.static yX12_isSign, Cond.code yX12_isSign cX12_isSign 1 (some .boolean), Cond.methodLink RX12 183 yX12_findExpression, Cond.instanceMethod yX12_findExpression, Cond.selects RX12 yX12_findExpression yX12_findExpression, Cond.code yX12_findExpression cX12_findExpression 5 (some .int), Cond.methodLink RX12 200 yX12_readEnd, Cond.instanceMethod yX12_readEnd, Cond.selects RX12 yX12_readEnd yX12_readEnd, Cond.code yX12_readEnd cX12_readEnd 3 (some .boolean), Cond.methodLink RX12 193 yX12_readNumber, Cond.instanceMethod yX12_readNumber, Cond.selects RX12 yX12_readNumber yX12_readNumber]
def wsL_law_r31 : List Cond := [Cond.code yX12_readNumber cX12_readNumber 4 (some .boolean), Cond.methodLink RX12 209 yX12_copyRow, Cond.instanceMethod yX12_copyRow, Cond.selects RX12 yX12_copyRow yX12_copyRow, Cond.code yX12_copyRow cX12_copyRow 4 none, Cond.methodLink RX12 212 yX12_lay, Cond.instanceMethod yX12_lay, Cond.selects RX12 yX12_lay yX12_lay, Cond.code yX12_lay cX12_lay 2 none, Cond.fieldLink RX12 231 "LateMoverModel" "isProgram" "Z", Cond.fieldLink RX12 235 "LateMoverModel" "wasRun" "Z", Cond.fieldLink RX12 253 "LateMoverModel" "isSound" "Z", Cond.methodLink RX12 238 yX12_layCome, Cond.instanceMethod yX12_layCome, Cond.selects RX12 yX12_layCome yX12_layCome, Cond.code yX12_layCome cX12_layCome 5 none, Cond.methodLink RX12 218 yX12_get, Cond.instanceMethod yX12_get, Cond.selects RX12 yX12_get yX12_get, Cond.code yX12_get cX12_get 2 (some .int), Cond.methodLink RX12 241 yX12_layNodes, Cond.instanceMethod yX12_layNodes, Cond.selects RX12 yX12_layNodes yX12_layNodes, Cond.code yX12_layNodes cX12_layNodes 3 none]
def wsL_law_r32 : List Cond := [Cond.methodLink RX12 221 yX12_layNode, Cond.instanceMethod yX12_layNode, Cond.selects RX12 yX12_layNode yX12_layNode, Cond.code yX12_layNode cX12_layNode 4 none, Cond.methodLink RX12 225 yX12_layEnd, Cond.instanceMethod yX12_layEnd, Cond.selects RX12 yX12_layEnd yX12_layEnd, Cond.code yX12_layEnd cX12_layEnd 4 none, Cond.methodLink RX12 244 yX12_countCome, Cond.instanceMethod yX12_countCome, Cond.selects RX12 yX12_countCome yX12_countCome, Cond.code yX12_countCome cX12_countCome 2 none, Cond.methodLink RX12 247 yX12_split, Cond.instanceMethod yX12_split, Cond.selects RX12 yX12_split yX12_split, Cond.code yX12_split cX12_split 4 none, Cond.methodLink RX12 250 yX12_areAllLeading, Cond.instanceMethod yX12_areAllLeading, Cond.selects RX12 yX12_areAllLeading yX12_areAllLeading, Cond.code yX12_areAllLeading cX12_areAllLeading 3 (some .boolean), Cond.methodLink RX12 228 yX12_isLast, Cond.instanceMethod yX12_isLast, Cond.selects RX12 yX12_isLast yX12_isLast, Cond.code yX12_isLast cX12_isLast 2 (some .boolean)]
def wsL_law_r33 : List Cond := [Cond.methodLink RX12 256 yX12_layFacts, Cond.instanceMethod yX12_layFacts, Cond.selects RX12 yX12_layFacts yX12_layFacts, Cond.code yX12_layFacts cX12_layFacts 5 none, Cond.methodLink RX12 305 yX12_doesUse, Cond.instanceMethod yX12_doesUse, Cond.selects RX12 yX12_doesUse yX12_doesUse, Cond.code yX12_doesUse cX12_doesUse 3 (some .boolean), Cond.methodLink RX12 280 yX12_expressionOf, Cond.instanceMethod yX12_expressionOf, Cond.selects RX12 yX12_expressionOf yX12_expressionOf, Cond.code yX12_expressionOf cX12_expressionOf 2 (some .int), Cond.methodLink RX12 295 yX12_set, Cond.instanceMethod yX12_set, Cond.selects RX12 yX12_set yX12_set, Cond.code yX12_set cX12_set 5 none, Cond.methodLink RX12 289 yX12_cell, Cond.static yX12_cell, Cond.code yX12_cell cX12_cell 3 (some .int), Cond.methodLink RX12 308 yX12_doesKeep, Cond.instanceMethod yX12_doesKeep, Cond.selects RX12 yX12_doesKeep yX12_doesKeep, Cond.code yX12_doesKeep cX12_doesKeep 5 (some .boolean), Cond.methodLink RX12 274 yX12_changed]
def wsL_law_r34 : List Cond := [Cond.instanceMethod yX12_changed, Cond.selects RX12 yX12_changed yX12_changed, Cond.code yX12_changed cX12_changed 2 (some .int), Cond.methodLink RX12 286 yX12_isRisky, Cond.instanceMethod yX12_isRisky, Cond.selects RX12 yX12_isRisky yX12_isRisky, Cond.code yX12_isRisky cX12_isRisky 2 (some .boolean), Cond.methodLink RX12 311 yX12_layAhead, Cond.instanceMethod yX12_layAhead, Cond.selects RX12 yX12_layAhead yX12_layAhead, Cond.code yX12_layAhead cX12_layAhead 5 none, Cond.methodLink RX12 292 yX12_so, Cond.instanceMethod yX12_so, Cond.selects RX12 yX12_so yX12_so, Cond.code yX12_so cX12_so 4 (some .boolean), Cond.methodLink RX12 299 yX12_staysAhead, Cond.instanceMethod yX12_staysAhead, Cond.selects RX12 yX12_staysAhead yX12_staysAhead, Cond.code yX12_staysAhead cX12_staysAhead 7 (some .boolean), Cond.methodLink RX12 314 yX12_layBehind, Cond.instanceMethod yX12_layBehind, Cond.selects RX12 yX12_layBehind yX12_layBehind, Cond.code yX12_layBehind cX12_layBehind 6 none, Cond.methodLink RX12 302 yX12_lets]
def wsL_law_r35 : List Cond := [Cond.instanceMethod yX12_lets, Cond.selects RX12 yX12_lets yX12_lets, Cond.code yX12_lets cX12_lets 4 (some .boolean), Cond.methodLink RX12 317 yX12_layEarly, Cond.instanceMethod yX12_layEarly, Cond.selects RX12 yX12_layEarly yX12_layEarly, Cond.code yX12_layEarly cX12_layEarly 5 none, Cond.methodLink RX12 320 yX12_layLate, Cond.instanceMethod yX12_layLate, Cond.selects RX12 yX12_layLate yX12_layLate, Cond.code yX12_layLate cX12_layLate 5 none, Cond.methodLink RX12 323 yX12_at, Cond.static yX12_at, Cond.code yX12_at cX12_at 4 (some .int), Cond.methodLink RX12 326 yX12_layAlive, Cond.instanceMethod yX12_layAlive, Cond.selects RX12 yX12_layAlive yX12_layAlive, Cond.code yX12_layAlive cX12_layAlive 6 none, Cond.methodLink RX12 259 yX12_layLive, Cond.instanceMethod yX12_layLive, Cond.selects RX12 yX12_layLive yX12_layLive, Cond.code yX12_layLive cX12_layLive 5 none, Cond.methodLink RX12 454 yX12_reads, Cond.instanceMethod yX12_reads]
def wsL_law_r36 : List Cond := [Cond.selects RX12 yX12_reads yX12_reads, Cond.code yX12_reads cX12_reads 4 (some .int), Cond.methodLink RX12 451 yX12_bitOf, Cond.static yX12_bitOf, Cond.code yX12_bitOf cX12_bitOf 1 (some .int), Cond.methodLink RX12 457 yX12_liveBehind, Cond.instanceMethod yX12_liveBehind, Cond.selects RX12 yX12_liveBehind yX12_liveBehind, Cond.code yX12_liveBehind cX12_liveBehind 4 (some .int), Cond.methodLink RX12 262 yX12_layOver, Cond.instanceMethod yX12_layOver, Cond.selects RX12 yX12_layOver yX12_layOver, Cond.code yX12_layOver cX12_layOver 4 none, Cond.methodLink RX12 265 yX12_layDeep, Cond.instanceMethod yX12_layDeep, Cond.selects RX12 yX12_layDeep yX12_layDeep, Cond.code yX12_layDeep cX12_layDeep 3 none, Cond.fieldLink RX12 466 "LateMoverModel" "headMany" "I", Cond.methodLink RX12 469 yX12_isHead, Cond.instanceMethod yX12_isHead, Cond.selects RX12 yX12_isHead yX12_isHead, Cond.code yX12_isHead cX12_isHead 3 (some .boolean), Cond.methodLink RX12 463 yX12_isOver, Cond.instanceMethod yX12_isOver]
def wsL_law_r37 : List Cond := [Cond.selects RX12 yX12_isOver yX12_isOver, Cond.code yX12_isOver cX12_isOver 3 (some .boolean), Cond.methodLink RX12 472 yX12_layComing, Cond.instanceMethod yX12_layComing, Cond.selects RX12 yX12_layComing yX12_layComing, Cond.code yX12_layComing cX12_layComing 4 none, Cond.methodLink RL 28 yX11_fault, Cond.instanceMethod yX11_fault, Cond.selects RX11 yX11_fault yX11_fault, Cond.code yX11_fault cX11_fault 1 (some .int), Cond.methodLink RL 31 yX12_fault, Cond.instanceMethod yX12_fault, Cond.selects RX12 yX12_fault yX12_fault, Cond.code yX12_fault cX12_fault 1 (some .int), Cond.methodLink RL 32 yX11_is, Cond.instanceMethod yX11_is, Cond.selects RX11 yX11_is yX11_is, Cond.code yX11_is cX11_is 2 (some .int), Cond.fieldLink RX11 172 "LateMover$Graph" "blocks" "I", Cond.fieldLink RX11 175 "LateMover$Graph" "expressions" "LLateMover$Expressions;", Cond.fieldLink RX11 179 "LateMover$Expressions" "count" "I", Cond.fieldLink RX11 191 "LateMover$Facts" "sound" "Z", Cond.methodLink RX11 184 yX3_edges, Cond.instanceMethod yX3_edges]
def wsL_law_r38 : List Cond := [Cond.selects RX3 yX3_edges yX3_edges, Cond.code yX3_edges cX3_edges 3 (some .int), Cond.methodLink RX11 187 yX3_countOf, Cond.instanceMethod yX3_countOf, Cond.selects RX3 yX3_countOf yX3_countOf, Cond.code yX3_countOf cX3_countOf 4 (some .int), Cond.methodLink RX11 194 yX11_oneIf, Cond.methodLink RL 35 yX12_is, Cond.instanceMethod yX12_is, Cond.selects RX12 yX12_is yX12_is, Cond.code yX12_is cX12_is 2 (some .int), Cond.methodLink RX12 268 yX12_edges, Cond.instanceMethod yX12_edges, Cond.selects RX12 yX12_edges yX12_edges, Cond.code yX12_edges cX12_edges 3 (some .int), Cond.methodLink RX12 271 yX12_countNodes, Cond.instanceMethod yX12_countNodes, Cond.selects RX12 yX12_countNodes yX12_countNodes, Cond.code yX12_countNodes cX12_countNodes 4 (some .int), Cond.methodLink RL 36 yX11_node, Cond.instanceMethod yX11_node, Cond.selects RX11 yX11_node yX11_node, Cond.code yX11_node cX11_node 3 (some .int), Cond.fieldLink RX11 202 "LateMover$Graph" "kind" "[I"]
def wsL_law_r39 : List Cond := [Cond.fieldLink RX11 205 "LateMover$Graph" "block" "[I", Cond.fieldLink RX11 208 "LateMover$Graph" "expression" "[I", Cond.fieldLink RX11 211 "LateMover$Graph" "letter" "[I", Cond.fieldLink RX11 220 "LateMover$Graph" "first" "[I", Cond.fieldLink RX11 223 "LateMover$Graph" "second" "[I", Cond.methodLink RX11 198 yX3_isNode, Cond.methodLink RX11 214 yX3_edgesFrom, Cond.methodLink RX11 217 yX3_edgesTo, Cond.methodLink RL 40 yX12_node, Cond.instanceMethod yX12_node, Cond.selects RX12 yX12_node yX12_node, Cond.code yX12_node cX12_node 3 (some .int), Cond.methodLink RX12 277 yX12_isNode, Cond.instanceMethod yX12_isNode, Cond.selects RX12 yX12_isNode yX12_isNode, Cond.code yX12_isNode cX12_isNode 2 (some .boolean), Cond.methodLink RX12 283 yX12_letterOf, Cond.instanceMethod yX12_letterOf, Cond.selects RX12 yX12_letterOf yX12_letterOf, Cond.code yX12_letterOf cX12_letterOf 2 (some .int), Cond.methodLink RL 41 yX11_expression, Cond.instanceMethod yX11_expression, Cond.selects RX11 yX11_expression yX11_expression, Cond.code yX11_expression cX11_expression 4 (some .int)]
def wsL_law_r40 : List Cond := [Cond.fieldLink RX11 229 "LateMover$Expressions" "sign" "[I", Cond.fieldLink RX11 232 "LateMover$Expressions" "left" "[I", Cond.fieldLink RX11 235 "LateMover$Expressions" "right" "[I", Cond.fieldLink RX11 245 "LateMover$Facts" "keeps" "[I", Cond.methodLink RX11 226 yX0_isOne, Cond.methodLink RX11 238 yX0_isRisky, Cond.methodLink RX11 241 yX3_nodesWith, Cond.methodLink RL 44 yX12_expression, Cond.instanceMethod yX12_expression, Cond.selects RX12 yX12_expression yX12_expression, Cond.code yX12_expression cX12_expression 5 (some .int), Cond.methodLink RX12 329 yX12_isExpression, Cond.instanceMethod yX12_isExpression, Cond.selects RX12 yX12_isExpression yX12_isExpression, Cond.code yX12_isExpression cX12_isExpression 2 (some .boolean), Cond.methodLink RL 45 yX11_risky, Cond.instanceMethod yX11_risky, Cond.selects RX11 yX11_risky yX11_risky, Cond.code yX11_risky cX11_risky 3 (some .int), Cond.methodLink RL 48 yX12_risky, Cond.instanceMethod yX12_risky, Cond.selects RX12 yX12_risky yX12_risky, Cond.code yX12_risky cX12_risky 3 (some .int), Cond.methodLink RL 49 yX11_fact]
def wsL_law_r41 : List Cond := [Cond.instanceMethod yX11_fact, Cond.selects RX11 yX11_fact yX11_fact, Cond.code yX11_fact cX11_fact 4 (some .int), Cond.fieldLink RX11 255 "LateMover$Facts" "needed" "[I", Cond.fieldLink RX11 258 "LateMover$Facts" "atHand" "[I", Cond.fieldLink RX11 261 "LateMover$Facts" "delayed" "[I", Cond.methodLink RX11 248 yX11_isSoundOne, Cond.instanceMethod yX11_isSoundOne, Cond.selects RX11 yX11_isSoundOne yX11_isSoundOne, Cond.code yX11_isSoundOne cX11_isSoundOne 2 (some .boolean), Cond.methodLink RX11 251 yX11_bitOf, Cond.methodLink RL 53 yX12_fact, Cond.instanceMethod yX12_fact, Cond.selects RX12 yX12_fact yX12_fact, Cond.code yX12_fact cX12_fact 4 (some .int), Cond.methodLink RL 54 yX11_placed, Cond.instanceMethod yX11_placed, Cond.selects RX11 yX11_placed yX11_placed, Cond.code yX11_placed cX11_placed 6 (some .int), Cond.fieldLink RX11 271 "LateMover$Placement" "put" "[I", Cond.fieldLink RX11 274 "LateMover$Placement" "replaced" "[I", Cond.fieldLink RX11 277 "LateMover$Placement" "alive" "[I", Cond.methodLink RX11 264 yX11_isMoved, Cond.instanceMethod yX11_isMoved]
def wsL_law_r42 : List Cond := [Cond.selects RX11 yX11_isMoved yX11_isMoved, Cond.code yX11_isMoved cX11_isMoved 2 (some .boolean), Cond.methodLink RX11 267 yX11_placementBy, Cond.instanceMethod yX11_placementBy, Cond.selects RX11 yX11_placementBy yX11_placementBy, Cond.code yX11_placementBy cX11_placementBy 2 (some (.object "LateMover$Placement")), Cond.methodLink RL 58 yX12_placed, Cond.instanceMethod yX12_placed, Cond.selects RX12 yX12_placed yX12_placed, Cond.code yX12_placed cX12_placed 5 (some .int), Cond.methodLink RX12 332 yX12_isHow, Cond.static yX12_isHow, Cond.code yX12_isHow cX12_isHow 1 (some .boolean), Cond.methodLink RL 59 yX11_placement, Cond.instanceMethod yX11_placement, Cond.selects RX11 yX11_placement yX11_placement, Cond.code yX11_placement cX11_placement 5 (some .int), Cond.fieldLink RX11 286 "LateMover$Placement" "clashes" "[I", Cond.methodLink RX11 280 yX11_countIn, Cond.instanceMethod yX11_countIn, Cond.selects RX11 yX11_countIn yX11_countIn, Cond.code yX11_countIn cX11_countIn 3 (some .int), Cond.methodLink RX11 294 yX3_bitsIn, Cond.instanceMethod yX3_bitsIn]
def wsL_law_r43 : List Cond := [Cond.selects RX3 yX3_bitsIn yX3_bitsIn, Cond.code yX3_bitsIn cX3_bitsIn 4 (some .int), Cond.methodLink RX3 133 yJ6_bitCount_0f7a4, Cond.static yJ6_bitCount_0f7a4, Cond.initialized RJ6, Cond.code yJ6_bitCount_0f7a4 cJ6_bitCount_0f7a4 1 (some .int), Cond.constant RJ6 265 (1431655765), Cond.constant RJ6 266 (858993459), Cond.constant RJ6 267 (252645135), Cond.methodLink RX11 283 yX6_clashingPairs, Cond.instanceMethod yX6_clashingPairs, Cond.selects RX6 yX6_clashingPairs yX6_clashingPairs, Cond.code yX6_clashingPairs cX6_clashingPairs 4 (some .int), Cond.methodLink RX6 79 yJ6_bitCount_0f7a4, Cond.methodLink RX11 289 yJ6_bitCount_0f7a4, Cond.methodLink RL 62 yX12_placement, Cond.instanceMethod yX12_placement, Cond.selects RX12 yX12_placement yX12_placement, Cond.code yX12_placement cX12_placement 6 (some .int), Cond.methodLink RX12 338 yX12_countPlaced, Cond.instanceMethod yX12_countPlaced, Cond.selects RX12 yX12_countPlaced yX12_countPlaced, Cond.code yX12_countPlaced cX12_countPlaced 6 (some .int), Cond.methodLink RX12 341 yX12_clashes]
def wsL_law_r44 : List Cond := [Cond.instanceMethod yX12_clashes, Cond.selects RX12 yX12_clashes yX12_clashes, Cond.code yX12_clashes cX12_clashes 5 (some .int), Cond.methodLink RX12 335 yX12_doClash, Cond.instanceMethod yX12_doClash, Cond.selects RX12 yX12_doClash yX12_doClash, Cond.code yX12_doClash cX12_doClash 5 (some .boolean), Cond.methodLink RL 63 yX11_shared, Cond.instanceMethod yX11_shared, Cond.selects RX11 yX11_shared yX11_shared, Cond.code yX11_shared cX11_shared 4 (some .int), Cond.fieldLink RX11 298 "LateMover$Placement" "names" "I", Cond.fieldLink RX11 301 "LateMover$Placement" "name" "[I", Cond.methodLink RL 66 yX12_shared, Cond.instanceMethod yX12_shared, Cond.selects RX12 yX12_shared yX12_shared, Cond.code yX12_shared cX12_shared 4 (some .int), Cond.methodLink RX12 345 yX12_layNames, Cond.instanceMethod yX12_layNames, Cond.selects RX12 yX12_layNames yX12_layNames, Cond.code yX12_layNames cX12_layNames 6 (some .int), Cond.methodLink RL 67 yX11_most, Cond.instanceMethod yX11_most, Cond.selects RX11 yX11_most yX11_most]
def wsL_law_r45 : List Cond := [Cond.code yX11_most cX11_most 5 (some .int), Cond.methodLink RX11 304 Lib.Math.max.name, Cond.methodLink RL 70 yX12_most, Cond.instanceMethod yX12_most, Cond.selects RX12 yX12_most yX12_most, Cond.code yX12_most cX12_most 6 (some .int), Cond.methodLink RL 71 yX11_letter, Cond.instanceMethod yX11_letter, Cond.selects RX11 yX11_letter yX11_letter, Cond.code yX11_letter cX11_letter 4 (some .int), Cond.methodLink RL 74 yX12_letter, Cond.instanceMethod yX12_letter, Cond.selects RX12 yX12_letter yX12_letter, Cond.code yX12_letter cX12_letter 4 (some .int), Cond.methodLink RL 75 yX11_run, Cond.instanceMethod yX11_run, Cond.selects RX11 yX11_run yX11_run, Cond.code yX11_run cX11_run 3 (some .int), Cond.fieldLink RX11 316 "LateMover$Run" "ending" "I", Cond.fieldLink RX11 319 "LateMover$Run" "steps" "I", Cond.fieldLink RX11 322 "LateMover$Run" "worked" "I", Cond.fieldLink RX11 325 "LateMover$Run" "outs" "I", Cond.fieldLink RX11 328 "LateMover$Run" "at" "I", Cond.methodLink RX11 309 yX11_isRunnable]
def wsL_law_r46 : List Cond := [Cond.instanceMethod yX11_isRunnable, Cond.selects RX11 yX11_isRunnable yX11_isRunnable, Cond.code yX11_isRunnable cX11_isRunnable 2 (some .boolean), Cond.methodLink RX11 123 yX11_isProgram, Cond.instanceMethod yX11_isProgram, Cond.selects RX11 yX11_isProgram yX11_isProgram, Cond.code yX11_isProgram cX11_isProgram 1 (some .boolean), Cond.methodLink RX11 312 yX8_follow, Cond.instanceMethod yX8_follow, Cond.selects RX8 yX8_follow yX8_follow, Cond.code yX8_follow cX8_follow 5 none, Cond.methodLink RX8 24 arraycopyName, Cond.fieldLink RX8 36 "LateMover$Run" "steps" "I", Cond.fieldLink RX8 40 "LateMover$Run" "worked" "I", Cond.fieldLink RX8 43 "LateMover$Run" "outs" "I", Cond.fieldLink RX8 46 "LateMover$Run" "at" "I", Cond.fieldLink RX8 49 "LateMover$Run" "ending" "I", Cond.methodLink RX8 30 yJ7_fill_53178, Cond.methodLink RX8 52 yX3_isNode, Cond.methodLink RX8 58 yX8_step, Cond.instanceMethod yX8_step, Cond.selects RX8 yX8_step yX8_step, Cond.code yX8_step cX8_step 3 none, Cond.methodLink RX8 62 yX8_putIn]
def wsL_law_r47 : List Cond := [Cond.instanceMethod yX8_putIn, Cond.selects RX8 yX8_putIn yX8_putIn, Cond.code yX8_putIn cX8_putIn 5 (some .boolean), Cond.fieldLink RX8 77 "LateMover$Placement" "put" "[I", Cond.fieldLink RX8 82 "LateMover$Graph" "expressions" "LLateMover$Expressions;", Cond.fieldLink RX8 86 "LateMover$Expressions" "count" "I", Cond.fieldLink RX8 99 "LateMover$Run" "value" "I", Cond.methodLink RX8 95 yX8_compute, Cond.instanceMethod yX8_compute, Cond.selects RX8 yX8_compute yX8_compute, Cond.code yX8_compute cX8_compute 5 (some .boolean), Cond.fieldLink RX8 140 "LateMover$Expressions" "left" "[I", Cond.fieldLink RX8 143 "LateMover$Expressions" "right" "[I", Cond.fieldLink RX8 146 "LateMover$Expressions" "sign" "[I", Cond.methodLink RX8 111 yX8_valueOf, Cond.instanceMethod yX8_valueOf, Cond.selects RX8 yX8_valueOf yX8_valueOf, Cond.code yX8_valueOf cX8_valueOf 2 (some .int), Cond.methodLink RX8 153 yX8_divide, Cond.instanceMethod yX8_divide, Cond.selects RX8 yX8_divide yX8_divide, Cond.code yX8_divide cX8_divide 4 (some .boolean), Cond.methodLink RX8 66 yX8_doNode, Cond.instanceMethod yX8_doNode]
def wsL_law_r48 : List Cond := [Cond.selects RX8 yX8_doNode yX8_doNode, Cond.code yX8_doNode cX8_doNode 3 (some .boolean), Cond.fieldLink RX8 102 "LateMover$Graph" "kind" "[I", Cond.fieldLink RX8 105 "LateMover$Graph" "letter" "[I", Cond.fieldLink RX8 108 "LateMover$Graph" "operand" "[I", Cond.methodLink RX8 114 yX8_setLetter, Cond.instanceMethod yX8_setLetter, Cond.selects RX8 yX8_setLetter yX8_setLetter, Cond.code yX8_setLetter cX8_setLetter 3 none, Cond.methodLink RX8 118 yX8_assign, Cond.instanceMethod yX8_assign, Cond.selects RX8 yX8_assign yX8_assign, Cond.code yX8_assign cX8_assign 4 (some .boolean), Cond.fieldLink RX8 125 "LateMover$Graph" "expression" "[I", Cond.fieldLink RX8 131 "LateMover$Placement" "replaced" "[I", Cond.methodLink RX8 128 yX0_isOne, Cond.methodLink RX8 121 yX8_writeOut, Cond.instanceMethod yX8_writeOut, Cond.selects RX8 yX8_writeOut yX8_writeOut, Cond.code yX8_writeOut cX8_writeOut 2 none, Cond.methodLink RX8 69 yX3_edgesFrom, Cond.methodLink RX8 73 yX8_nextNode, Cond.instanceMethod yX8_nextNode, Cond.selects RX8 yX8_nextNode yX8_nextNode]
def wsL_law_r49 : List Cond := [Cond.code yX8_nextNode cX8_nextNode 3 (some .int), Cond.fieldLink RX8 134 "LateMover$Graph" "second" "[I", Cond.fieldLink RX8 137 "LateMover$Graph" "first" "[I", Cond.methodLink RL 78 yX12_run, Cond.instanceMethod yX12_run, Cond.selects RX12 yX12_run yX12_run, Cond.code yX12_run cX12_run 4 (some .int), Cond.fieldLink RX12 357 "LateMoverModel" "written" "I", Cond.fieldLink RX12 384 "LateMoverModel" "lastWritten" "I", Cond.fieldLink RX12 363 "LateMoverModel" "ended" "I", Cond.fieldLink RX12 360 "LateMoverModel" "gone" "I", Cond.fieldLink RX12 366 "LateMoverModel" "endNode" "I", Cond.methodLink RX12 378 yX12_canRun, Cond.instanceMethod yX12_canRun, Cond.selects RX12 yX12_canRun yX12_canRun, Cond.code yX12_canRun cX12_canRun 2 (some .boolean), Cond.methodLink RX12 381 yX12_runNow, Cond.instanceMethod yX12_runNow, Cond.selects RX12 yX12_runNow yX12_runNow, Cond.code yX12_runNow cX12_runNow 3 none, Cond.methodLink RX12 369 yX12_putsIn, Cond.instanceMethod yX12_putsIn, Cond.selects RX12 yX12_putsIn yX12_putsIn, Cond.code yX12_putsIn cX12_putsIn 4 (some .boolean)]
def wsL_law_r50 : List Cond := [Cond.fieldLink RX12 351 "LateMoverModel" "result" "I", Cond.methodLink RX12 354 yX12_works, Cond.instanceMethod yX12_works, Cond.selects RX12 yX12_works yX12_works, Cond.code yX12_works cX12_works 4 (some .boolean), Cond.methodLink RX12 348 yX12_worthOf, Cond.instanceMethod yX12_worthOf, Cond.selects RX12 yX12_worthOf yX12_worthOf, Cond.code yX12_worthOf cX12_worthOf 2 (some .int), Cond.methodLink RX12 372 yX12_does, Cond.instanceMethod yX12_does, Cond.selects RX12 yX12_does yX12_does, Cond.code yX12_does cX12_does 5 (some .boolean), Cond.methodLink RX12 375 yX12_goesTo, Cond.instanceMethod yX12_goesTo, Cond.selects RX12 yX12_goesTo yX12_goesTo, Cond.code yX12_goesTo cX12_goesTo 2 (some .int), Cond.methodLink RX12 387 yX12_allWorked, Cond.instanceMethod yX12_allWorked, Cond.selects RX12 yX12_allWorked yX12_allWorked, Cond.code yX12_allWorked cX12_allWorked 3 (some .int), Cond.methodLink RL 79 yX11_computed, Cond.instanceMethod yX11_computed, Cond.selects RX11 yX11_computed yX11_computed]
def wsL_law_r51 : List Cond := [Cond.code yX11_computed cX11_computed 2 (some .int), Cond.fieldLink RX11 331 "LateMover$Run" "times" "[I", Cond.methodLink RL 82 yX12_computed, Cond.instanceMethod yX12_computed, Cond.selects RX12 yX12_computed yX12_computed, Cond.code yX12_computed cX12_computed 2 (some .int), Cond.methodLink RL 83 yX11_output, Cond.instanceMethod yX11_output, Cond.selects RX11 yX11_output yX11_output, Cond.code yX11_output cX11_output 2 (some .int), Cond.fieldLink RX11 334 "LateMover$Run" "outputs" "[I", Cond.methodLink RL 86 yX12_output, Cond.instanceMethod yX12_output, Cond.selects RX12 yX12_output yX12_output, Cond.code yX12_output cX12_output 2 (some .int), Cond.methodLink RX12 390 yX12_least, Cond.instanceMethod yX12_least, Cond.selects RX12 yX12_least yX12_least, Cond.code yX12_least cX12_least 3 (some .int), Cond.methodLink RL 87 yX11_behind, Cond.instanceMethod yX11_behind, Cond.selects RX11 yX11_behind yX11_behind, Cond.code yX11_behind cX11_behind 2 (some .int), Cond.fieldLink RX11 337 "LateMover$Run" "letters" "[I"]
def wsL_law_r52 : List Cond := [Cond.methodLink RL 90 yX12_behind, Cond.instanceMethod yX12_behind, Cond.selects RX12 yX12_behind yX12_behind, Cond.code yX12_behind cX12_behind 2 (some .int), Cond.methodLink RL 91 yX11_alike, Cond.instanceMethod yX11_alike, Cond.selects RX11 yX11_alike yX11_alike, Cond.code yX11_alike cX11_alike 2 (some .int), Cond.methodLink RX11 340 yX8_endsAndWroteLike, Cond.instanceMethod yX8_endsAndWroteLike, Cond.selects RX8 yX8_endsAndWroteLike yX8_endsAndWroteLike, Cond.code yX8_endsAndWroteLike cX8_endsAndWroteLike 3 (some .boolean), Cond.methodLink RL 94 yX12_alike, Cond.instanceMethod yX12_alike, Cond.selects RX12 yX12_alike yX12_alike, Cond.code yX12_alike cX12_alike 5 (some .int), Cond.methodLink RL 95 yX11_live, Cond.instanceMethod yX11_live, Cond.selects RX11 yX11_live yX11_live, Cond.code yX11_live cX11_live 2 (some .int), Cond.fieldLink RX11 344 "LateMover$Facts" "live" "[I", Cond.methodLink RL 98 yX12_live, Cond.instanceMethod yX12_live, Cond.selects RX12 yX12_live yX12_live]
def wsL_law_r53 : List Cond := [Cond.code yX12_live cX12_live 2 (some .int), Cond.methodLink RL 99 yX11_dead, Cond.instanceMethod yX11_dead, Cond.selects RX11 yX11_dead yX11_dead, Cond.code yX11_dead cX11_dead 4 (some .int), Cond.methodLink RX11 347 yX1_isDead, Cond.instanceMethod yX1_isDead, Cond.selects RX1 yX1_isDead yX1_isDead, Cond.code yX1_isDead cX1_isDead 7 (some .boolean), Cond.methodLink RL 102 yX12_dead, Cond.instanceMethod yX12_dead, Cond.selects RX12 yX12_dead yX12_dead, Cond.code yX12_dead cX12_dead 4 (some .int), Cond.methodLink RX12 460 yX12_isDead, Cond.instanceMethod yX12_isDead, Cond.selects RX12 yX12_isDead yX12_isDead, Cond.code yX12_isDead cX12_isDead 3 (some .boolean), Cond.methodLink RL 103 yX11_again, Cond.instanceMethod yX11_again, Cond.selects RX11 yX11_again yX11_again, Cond.code yX11_again cX11_again 7 (some .int), Cond.fieldLink RX11 351 "LateMover$Facts" "maybe" "[I", Cond.methodLink RL 106 yX12_again, Cond.instanceMethod yX12_again]
def wsL_law_r54 : List Cond := [Cond.selects RX12 yX12_again yX12_again, Cond.code yX12_again cX12_again 6 (some .int), Cond.methodLink RX12 448 yX12_layMaybe, Cond.instanceMethod yX12_layMaybe, Cond.selects RX12 yX12_layMaybe yX12_layMaybe, Cond.code yX12_layMaybe cX12_layMaybe 5 none, Cond.methodLink RL 107 yX11_over, Cond.instanceMethod yX11_over, Cond.selects RX11 yX11_over yX11_over, Cond.code yX11_over cX11_over 3 (some .int), Cond.methodLink RX11 354 yX4_isOver, Cond.methodLink RL 110 yX12_over, Cond.instanceMethod yX12_over, Cond.selects RX12 yX12_over yX12_over, Cond.code yX12_over cX12_over 3 (some .int), Cond.methodLink RL 111 yX11_depth, Cond.instanceMethod yX11_depth, Cond.selects RX11 yX11_depth yX11_depth, Cond.code yX11_depth cX11_depth 2 (some .int), Cond.fieldLink RX11 358 "LateMover$Loops" "deep" "[I", Cond.methodLink RL 114 yX12_depth, Cond.instanceMethod yX12_depth, Cond.selects RX12 yX12_depth yX12_depth, Cond.code yX12_depth cX12_depth 2 (some .int)]
def wsL_law_r55 : List Cond := [Cond.methodLink RL 115 yX11_heads, Cond.instanceMethod yX11_heads, Cond.selects RX11 yX11_heads yX11_heads, Cond.code yX11_heads cX11_heads 1 (some .int), Cond.fieldLink RX11 361 "LateMover$Loops" "headCount" "I", Cond.methodLink RL 118 yX12_heads, Cond.instanceMethod yX12_heads, Cond.selects RX12 yX12_heads yX12_heads, Cond.code yX12_heads cX12_heads 1 (some .int), Cond.methodLink RL 119 yX11_weight, Cond.instanceMethod yX11_weight, Cond.selects RX11 yX11_weight yX11_weight, Cond.code yX11_weight cX11_weight 6 (some .long), Cond.constantLong RX11 364 (-1), Cond.methodLink RX11 366 yX6_computedAt, Cond.instanceMethod yX6_computedAt, Cond.selects RX6 yX6_computedAt yX6_computedAt, Cond.code yX6_computedAt cX6_computedAt 4 (some .int), Cond.fieldLink RX6 84 "LateMover$Graph" "kind" "[I", Cond.methodLink RX11 370 yX11_powerOfTen, Cond.static yX11_powerOfTen, Cond.code yX11_powerOfTen cX11_powerOfTen 4 (some .long), Cond.constantLong RX11 374 (10), Cond.methodLink RL 123 yX12_weight]
def wsL_law_r56 : List Cond := [Cond.instanceMethod yX12_weight, Cond.selects RX12 yX12_weight yX12_weight, Cond.code yX12_weight cX12_weight 8 (some .long), Cond.constantLong RX12 419 (-1), Cond.constantLong RX12 475 (10), Cond.methodLink RX12 413 yX12_costs, Cond.instanceMethod yX12_costs, Cond.selects RX12 yX12_costs yX12_costs, Cond.code yX12_costs cX12_costs 5 (some .int), Cond.methodLink RL 124 yX11_others, Cond.instanceMethod yX11_others, Cond.selects RX11 yX11_others yX11_others, Cond.code yX11_others cX11_others 3 (some .int), Cond.methodLink RX11 376 yX5_answer, Cond.instanceMethod yX5_answer, Cond.selects RX5 yX5_answer yX5_answer, Cond.code yX5_answer cX5_answer 5 (some .int), Cond.fieldLink RX5 36 "LateMover$Graph" "nodes" "I", Cond.methodLink RX5 45 yX5_takeGraph, Cond.instanceMethod yX5_takeGraph, Cond.selects RX5 yX5_takeGraph yX5_takeGraph, Cond.code yX5_takeGraph cX5_takeGraph 4 none, Cond.fieldLink RX5 57 "LateMover$Others" "nodes" "I", Cond.fieldLink RX5 58 "LateMover$Others" "lasts" "I"]
def wsL_law_r57 : List Cond := [Cond.fieldLink RX5 67 "LateMover$Graph" "first" "[I", Cond.fieldLink RX5 70 "LateMover$Graph" "second" "[I", Cond.methodLink RX5 61 yJ7_fill_53178, Cond.methodLink RX5 73 yX5_nodeBit, Cond.instanceMethod yX5_nodeBit, Cond.selects RX5 yX5_nodeBit yX5_nodeBit, Cond.code yX5_nodeBit cX5_nodeBit 2 (some .int), Cond.methodLink RX5 49 yX5_takeFacts, Cond.instanceMethod yX5_takeFacts, Cond.selects RX5 yX5_takeFacts yX5_takeFacts, Cond.code yX5_takeFacts cX5_takeFacts 3 none, Cond.fieldLink RX5 77 "LateMover$Facts" "uses" "[I", Cond.fieldLink RX5 86 "LateMover$Others" "uses" "I", Cond.fieldLink RX5 88 "LateMover$Facts" "keeps" "[I", Cond.fieldLink RX5 91 "LateMover$Others" "keeps" "I", Cond.fieldLink RX5 93 "LateMover$Facts" "needed" "[I", Cond.fieldLink RX5 96 "LateMover$Others" "needed" "I", Cond.fieldLink RX5 98 "LateMover$Facts" "early" "[I", Cond.fieldLink RX5 101 "LateMover$Others" "early" "I", Cond.methodLink RX5 82 yX5_column, Cond.instanceMethod yX5_column, Cond.selects RX5 yX5_column yX5_column, Cond.code yX5_column cX5_column 5 (some .int), Cond.methodLink RX5 53 yX5_tryAll]
def wsL_law_r58 : List Cond := [Cond.instanceMethod yX5_tryAll, Cond.selects RX5 yX5_tryAll yX5_tryAll, Cond.code yX5_tryAll cX5_tryAll 7 none, Cond.methodLink RX5 103 yX5_isRight, Cond.instanceMethod yX5_isRight, Cond.selects RX5 yX5_isRight yX5_isRight, Cond.code yX5_isRight cX5_isRight 8 (some .boolean), Cond.methodLink RX5 107 yX5_isFew, Cond.instanceMethod yX5_isFew, Cond.selects RX5 yX5_isFew yX5_isFew, Cond.code yX5_isFew cX5_isFew 7 (some .boolean), Cond.methodLink RX5 126 yX5_gain, Cond.instanceMethod yX5_gain, Cond.selects RX5 yX5_gain yX5_gain, Cond.code yX5_gain cX5_gain 3 (some .int), Cond.methodLink RX5 116 yJ6_bitCount_0f7a4, Cond.methodLink RX5 129 yX5_carry, Cond.instanceMethod yX5_carry, Cond.selects RX5 yX5_carry yX5_carry, Cond.code yX5_carry cX5_carry 4 (some .boolean), Cond.methodLink RX5 133 yX5_endsAhead, Cond.instanceMethod yX5_endsAhead, Cond.selects RX5 yX5_endsAhead yX5_endsAhead, Cond.code yX5_endsAhead cX5_endsAhead 2 (some .boolean)]
def wsL_law_r59 : List Cond := [Cond.methodLink RX5 110 yX5_lifeOf, Cond.instanceMethod yX5_lifeOf, Cond.selects RX5 yX5_lifeOf yX5_lifeOf, Cond.code yX5_lifeOf cX5_lifeOf 7 (some .int), Cond.methodLink RX5 113 yX5_lesser, Cond.static yX5_lesser, Cond.code yX5_lesser cX5_lesser 2 (some .int), Cond.methodLink RX5 121 Lib.Math.min.name, Cond.static Lib.Math.min.name, Cond.code Lib.Math.min.name Lib.Math.min.code 2 (some .int), Cond.methodLink RL 127 yX12_others, Cond.instanceMethod yX12_others, Cond.selects RX12 yX12_others yX12_others, Cond.code yX12_others cX12_others 9 (some .int), Cond.methodLink RX12 399 yX12_isRight, Cond.instanceMethod yX12_isRight, Cond.selects RX12 yX12_isRight yX12_isRight, Cond.code yX12_isRight cX12_isRight 6 (some .boolean), Cond.methodLink RX12 393 yX12_has, Cond.static yX12_has, Cond.code yX12_has cX12_has 2 (some .boolean), Cond.methodLink RX12 402 yX12_isFew, Cond.instanceMethod yX12_isFew, Cond.selects RX12 yX12_isFew yX12_isFew]
def wsL_law_r60 : List Cond := [Cond.code yX12_isFew cX12_isFew 7 (some .boolean), Cond.methodLink RX12 396 yX12_overBy, Cond.instanceMethod yX12_overBy, Cond.selects RX12 yX12_overBy yX12_overBy, Cond.code yX12_overBy cX12_overBy 4 (some .int), Cond.methodLink RX12 405 yX12_lifeOf, Cond.instanceMethod yX12_lifeOf, Cond.selects RX12 yX12_lifeOf yX12_lifeOf, Cond.code yX12_lifeOf cX12_lifeOf 6 (some .int), Cond.methodLink RX12 408 yX12_bits, Cond.static yX12_bits, Cond.code yX12_bits cX12_bits 3 (some .int), Cond.methodLink RL 128 yX11_ways, Cond.instanceMethod yX11_ways, Cond.selects RX11 yX11_ways yX11_ways, Cond.code yX11_ways cX11_ways 4 (some .long), Cond.fieldLink RX11 383 "LateMover$Ways" "found" "J", Cond.fieldLink RX11 387 "LateMover$Ways" "least" "I", Cond.fieldLink RX11 390 "LateMover$Ways" "most" "I", Cond.methodLink RX11 380 yX10_count, Cond.instanceMethod yX10_count, Cond.selects RX10 yX10_count yX10_count, Cond.code yX10_count cX10_count 5 none, Cond.fieldLink RX10 34 "LateMover$Graph" "nodes" "I"]
def wsL_law_r61 : List Cond := [Cond.fieldLink RX10 46 "LateMover$Ways" "found" "J", Cond.fieldLink RX10 50 "LateMover$Ways" "least" "I", Cond.fieldLink RX10 53 "LateMover$Ways" "most" "I", Cond.methodLink RX10 40 yX6_computedAt, Cond.methodLink RX10 56 yX10_endWaysAtLast, Cond.instanceMethod yX10_endWaysAtLast, Cond.selects RX10 yX10_endWaysAtLast yX10_endWaysAtLast, Cond.code yX10_endWaysAtLast cX10_endWaysAtLast 3 none, Cond.methodLink RX10 67 Lib.Math.min.name, Cond.methodLink RX10 73 Lib.Math.max.name, Cond.constantLong RX10 76 (1000000000000), Cond.methodLink RX10 78 Lib.MathLoose.min_long.x, Cond.static Lib.MathLoose.min_long.x, Cond.code Lib.MathLoose.min_long.x Lib.MathLoose.min_long.code 4 (some .long), Cond.methodLink RX10 63 yX3_edgesFrom, Cond.methodLink RX10 60 yX10_goOnByOneEdge, Cond.instanceMethod yX10_goOnByOneEdge, Cond.selects RX10 yX10_goOnByOneEdge yX10_goOnByOneEdge, Cond.code yX10_goOnByOneEdge cX10_goOnByOneEdge 4 none, Cond.methodLink RX10 81 yX3_kthTarget, Cond.methodLink RX10 84 yX10_extend, Cond.instanceMethod yX10_extend, Cond.selects RX10 yX10_extend yX10_extend, Cond.code yX10_extend cX10_extend 7 none]
def wsL_law_r62 : List Cond := [Cond.methodLink RX10 91 yX3_isNode, Cond.methodLink RX10 88 yX10_swap, Cond.instanceMethod yX10_swap, Cond.selects RX10 yX10_swap yX10_swap, Cond.code yX10_swap cX10_swap 4 none, Cond.methodLink RL 132 yX12_ways, Cond.instanceMethod yX12_ways, Cond.selects RX12 yX12_ways yX12_ways, Cond.code yX12_ways cX12_ways 10 (some .long), Cond.constantLong RX12 411 (1000000000000), Cond.methodLink RX12 421 yX12_goFurther, Cond.instanceMethod yX12_goFurther, Cond.selects RX12 yX12_goFurther yX12_goFurther, Cond.code yX12_goFurther cX12_goFurther 3 none, Cond.methodLink RX12 416 yX12_goOn, Cond.instanceMethod yX12_goOn, Cond.selects RX12 yX12_goOn yX12_goOn, Cond.code yX12_goOn cX12_goOn 7 none, Cond.methodLink RL 133 yX11_keep, Cond.instanceMethod yX11_keep, Cond.selects RX11 yX11_keep yX11_keep, Cond.code yX11_keep cX11_keep 3 (some .boolean), Cond.methodLink RL 137 yX12_keep, Cond.instanceMethod yX12_keep]
def wsL_law_r63 : List Cond := [Cond.selects RX12 yX12_keep yX12_keep, Cond.code yX12_keep cX12_keep 2 (some .boolean), Cond.methodLink RL 138 yX11_back, Cond.instanceMethod yX11_back, Cond.selects RX11 yX11_back yX11_back, Cond.code yX11_back cX11_back 3 (some .boolean), Cond.methodLink RL 141 yX12_back, Cond.instanceMethod yX12_back, Cond.selects RX12 yX12_back yX12_back, Cond.code yX12_back cX12_back 2 (some .boolean), Cond.methodLink RL 142 yX11_write, Cond.instanceMethod yX11_write, Cond.selects RX11 yX11_write yX11_write, Cond.code yX11_write cX11_write 5 (some .int), Cond.methodLink RX11 393 yX11_writeName, Cond.instanceMethod yX11_writeName, Cond.selects RX11 yX11_writeName yX11_writeName, Cond.code yX11_writeName cX11_writeName 2 none, Cond.methodLink RX11 396 yX9_put, Cond.methodLink RX11 422 yX9_putNumber, Cond.instanceMethod yX9_putNumber, Cond.selects RX9 yX9_putNumber yX9_putNumber, Cond.code yX9_putNumber cX9_putNumber 2 none, Cond.methodLink RX11 398 yX11_writeExpression]
def wsL_law_r64 : List Cond := [Cond.instanceMethod yX11_writeExpression, Cond.selects RX11 yX11_writeExpression yX11_writeExpression, Cond.code yX11_writeExpression cX11_writeExpression 2 none, Cond.methodLink RX11 413 yX11_writeOperand, Cond.instanceMethod yX11_writeOperand, Cond.selects RX11 yX11_writeOperand yX11_writeOperand, Cond.code yX11_writeOperand cX11_writeOperand 2 none, Cond.methodLink RX11 401 yX11_writeNode, Cond.instanceMethod yX11_writeNode, Cond.selects RX11 yX11_writeNode yX11_writeNode, Cond.code yX11_writeNode cX11_writeNode 4 none, Cond.fieldLink RX11 410 "LateMover$Graph" "operand" "[I", Cond.methodLink RX11 407 yX11_writeAssignment, Cond.instanceMethod yX11_writeAssignment, Cond.selects RX11 yX11_writeAssignment yX11_writeAssignment, Cond.code yX11_writeAssignment cX11_writeAssignment 3 none, Cond.methodLink RX11 416 yX11_writeEnd, Cond.instanceMethod yX11_writeEnd, Cond.selects RX11 yX11_writeEnd yX11_writeEnd, Cond.code yX11_writeEnd cX11_writeEnd 3 none, Cond.fieldLink RX11 419 "LateMover$Graph" "to" "[I", Cond.fieldLink RX11 425 "LateMover$Graph" "orTo" "[I", Cond.methodLink RL 145 yX12_write, Cond.instanceMethod yX12_write]
def wsL_law_r65 : List Cond := [Cond.selects RX12 yX12_write yX12_write, Cond.code yX12_write cX12_write 4 (some .int), Cond.fieldLink RX12 424 "LateMoverModel" "writtenLong" "I", Cond.methodLink RX12 436 yX12_writeName, Cond.instanceMethod yX12_writeName, Cond.selects RX12 yX12_writeName yX12_writeName, Cond.code yX12_writeName cX12_writeName 2 none, Cond.methodLink RX12 427 yX12_lay1, Cond.instanceMethod yX12_lay1, Cond.selects RX12 yX12_lay1 yX12_lay1, Cond.code yX12_lay1 cX12_lay1 2 none, Cond.methodLink RX12 430 yX12_writeNumber, Cond.instanceMethod yX12_writeNumber, Cond.selects RX12 yX12_writeNumber yX12_writeNumber, Cond.code yX12_writeNumber cX12_writeNumber 2 none, Cond.methodLink RX12 439 yX12_writeExpression, Cond.instanceMethod yX12_writeExpression, Cond.selects RX12 yX12_writeExpression yX12_writeExpression, Cond.code yX12_writeExpression cX12_writeExpression 2 none, Cond.methodLink RX12 433 yX12_writeA, Cond.instanceMethod yX12_writeA, Cond.selects RX12 yX12_writeA yX12_writeA, Cond.code yX12_writeA cX12_writeA 2 none, Cond.methodLink RX12 442 yX12_writeStatement]
def wsL_law_r66 : List Cond := [Cond.instanceMethod yX12_writeStatement, Cond.selects RX12 yX12_writeStatement yX12_writeStatement, Cond.code yX12_writeStatement cX12_writeStatement 5 none, Cond.methodLink RX12 445 yX12_writeEnd, Cond.instanceMethod yX12_writeEnd, Cond.selects RX12 yX12_writeEnd yX12_writeEnd, Cond.code yX12_writeEnd cX12_writeEnd 3 none, Cond.methodLink RL 146 yX11_octet, Cond.instanceMethod yX11_octet, Cond.selects RX11 yX11_octet yX11_octet, Cond.code yX11_octet cX11_octet 2 (some .int), Cond.methodLink RX11 405 yX9_at, Cond.methodLink RL 149 yX12_octet, Cond.instanceMethod yX12_octet, Cond.selects RX12 yX12_octet yX12_octet, Cond.code yX12_octet cX12_octet 2 (some .int)]
def wsL_law : List Cond := (wsL_law_r1 ++ (wsL_law_r2 ++ (wsL_law_r3 ++ (wsL_law_r4 ++ (wsL_law_r5 ++ (wsL_law_r6 ++ (wsL_law_r7 ++ (wsL_law_r8 ++ (wsL_law_r9 ++ (wsL_law_r10 ++ (wsL_law_r11 ++ (wsL_law_r12 ++ (wsL_law_r13 ++ (wsL_law_r14 ++ (wsL_law_r15 ++ (wsL_law_r16 ++ (wsL_law_r17 ++ (wsL_law_r18 ++ (wsL_law_r19 ++ (wsL_law_r20 ++ (wsL_law_r21 ++ (wsL_law_r22 ++ (wsL_law_r23 ++ (wsL_law_r24 ++ (wsL_law_r25 ++ (wsL_law_r26 ++ (wsL_law_r27 ++ (wsL_law_r28 ++ (wsL_law_r29 ++ (wsL_law_r30 ++ (wsL_law_r31 ++ (wsL_law_r32 ++ (wsL_law_r33 ++ (wsL_law_r34 ++ (wsL_law_r35 ++ (wsL_law_r36 ++ (wsL_law_r37 ++ (wsL_law_r38 ++ (wsL_law_r39 ++ (wsL_law_r40 ++ (wsL_law_r41 ++ (wsL_law_r42 ++ (wsL_law_r43 ++ (wsL_law_r44 ++ (wsL_law_r45 ++ (wsL_law_r46 ++ (wsL_law_r47 ++ (wsL_law_r48 ++ (wsL_law_r49 ++ (wsL_law_r50 ++ (wsL_law_r51 ++ (wsL_law_r52 ++ (wsL_law_r53 ++ (wsL_law_r54 ++ (wsL_law_r55 ++ (wsL_law_r56 ++ (wsL_law_r57 ++ (wsL_law_r58 ++ (wsL_law_r59 ++ (wsL_law_r60 ++ (wsL_law_r61 ++ (wsL_law_r62 ++ (wsL_law_r63 ++ (wsL_law_r64 ++ (wsL_law_r65 ++ wsL_law_r66))))))))))))))))))))))))))))))))))))))))))))))))))))))))))))))))) ++ wsX110 ++ wsX120 ++ wsX90 ++ wsX70 ++ wsX30 ++ wsX10 ++ wsX40 ++ wsX60 ++ wsX80 ++ wsX100 ++ wsX50 ++ wsX00 ++ wsX20 ++ ([] : List Cond)
set_option maxRecDepth 20000 in
theorem aw_g_wsL_law_r1 : GoodIn lw_tbl wsL_law_r1 := goodIn_p _ [186, 189] (by decide +kernel) (by decide +kernel)
set_option maxRecDepth 20000 in
theorem aw_g_wsL_law_r2 : GoodIn lw_tbl wsL_law_r2 := goodIn_p _ [] (by decide +kernel) (by decide +kernel)
set_option maxRecDepth 20000 in
theorem aw_g_wsL_law_r3 : GoodIn lw_tbl wsL_law_r3 := goodIn_p _ [194, 209] (by decide +kernel) (by decide +kernel)
set_option maxRecDepth 20000 in
theorem aw_g_wsL_law_r4 : GoodIn lw_tbl wsL_law_r4 := goodIn_p _ [217, 308] (by decide +kernel) (by decide +kernel)
set_option maxRecDepth 20000 in
theorem aw_g_wsL_law_r5 : GoodIn lw_tbl wsL_law_r5 := goodIn_p _ [396] (by decide +kernel) (by decide +kernel)
set_option maxRecDepth 20000 in
theorem aw_g_wsL_law_r6 : GoodIn lw_tbl wsL_law_r6 := goodIn_p _ [402, 480, 505] (by decide +kernel) (by decide +kernel)
set_option maxRecDepth 20000 in
theorem aw_g_wsL_law_r7 : GoodIn lw_tbl wsL_law_r7 := goodIn_p _ [538, 583, 623] (by decide +kernel) (by decide +kernel)
set_option maxRecDepth 20000 in
theorem aw_g_wsL_law_r8 : GoodIn lw_tbl wsL_law_r8 := goodIn_p _ [1460] (by decide +kernel) (by decide +kernel)
set_option maxRecDepth 20000 in
theorem aw_g_wsL_law_r9 : GoodIn lw_tbl wsL_law_r9 := goodIn_p _ [] (by decide +kernel) (by decide +kernel)
set_option maxRecDepth 20000 in
theorem aw_g_wsL_law_r10 : GoodIn lw_tbl wsL_law_r10 := goodIn_p _ [728, 732, 736, 740, 1632] (by decide +kernel) (by decide +kernel)
set_option maxRecDepth 20000 in
theorem aw_g_wsL_law_r11 : GoodIn lw_tbl wsL_law_r11 := goodIn_p _ [1636, 744, 748, 1640, 1643, 752] (by decide +kernel) (by decide +kernel)
set_option maxRecDepth 20000 in
theorem aw_g_wsL_law_r12 : GoodIn lw_tbl wsL_law_r12 := goodIn_p _ [756, 760, 768] (by decide +kernel) (by decide +kernel)
set_option maxRecDepth 20000 in
theorem aw_g_wsL_law_r13 : GoodIn lw_tbl wsL_law_r13 := goodIn_p _ [772, 776, 780, 783, 787, 791] (by decide +kernel) (by decide +kernel)
set_option maxRecDepth 20000 in
theorem aw_g_wsL_law_r14 : GoodIn lw_tbl wsL_law_r14 := goodIn_p _ [795, 798, 802, 806, 810, 814, 817] (by decide +kernel) (by decide +kernel)
set_option maxRecDepth 20000 in
theorem aw_g_wsL_law_r15 : GoodIn lw_tbl wsL_law_r15 := goodIn_p _ [821, 825, 829, 833, 837, 841] (by decide +kernel) (by decide +kernel)
set_option maxRecDepth 20000 in
theorem aw_g_wsL_law_r16 : GoodIn lw_tbl wsL_law_r16 := goodIn_p _ [846, 850] (by decide +kernel) (by decide +kernel)
set_option maxRecDepth 20000 in
theorem aw_g_wsL_law_r17 : GoodIn lw_tbl wsL_law_r17 := goodIn_p _ [855, 859, 862, 865, 868, 872] (by decide +kernel) (by decide +kernel)
set_option maxRecDepth 20000 in
theorem aw_g_wsL_law_r18 : GoodIn lw_tbl wsL_law_r18 := goodIn_p _ [876, 880, 884, 888, 892] (by decide +kernel) (by decide +kernel)
set_option maxRecDepth 20000 in
theorem aw_g_wsL_law_r19 : GoodIn lw_tbl wsL_law_r19 := goodIn_p _ [895, 899, 903, 907, 911, 914] (by decide +kernel) (by decide +kernel)
set_option maxRecDepth 20000 in
theorem aw_g_wsL_law_r20 : GoodIn lw_tbl wsL_law_r20 := goodIn_p _ [918, 921, 924, 927, 931] (by decide +kernel) (by decide +kernel)
set_option maxRecDepth 20000 in
theorem aw_g_wsL_law_r21 : GoodIn lw_tbl wsL_law_r21 := goodIn_p _ [937, 940, 944, 950, 954] (by decide +kernel) (by decide +kernel)
set_option maxRecDepth 20000 in
theorem aw_g_wsL_law_r22 : GoodIn lw_tbl wsL_law_r22 := goodIn_p _ [959, 964, 968, 972, 976, 981] (by decide +kernel) (by decide +kernel)
set_option maxRecDepth 20000 in
theorem aw_g_wsL_law_r23 : GoodIn lw_tbl wsL_law_r23 := goodIn_p _ [985, 989, 992, 996, 1000, 1004] (by decide +kernel) (by decide +kernel)
set_option maxRecDepth 20000 in
theorem aw_g_wsL_law_r24 : GoodIn lw_tbl wsL_law_r24 := goodIn_p _ [1008, 1015, 1019, 1024, 1028] (by decide +kernel) (by decide +kernel)
set_option maxRecDepth 20000 in
theorem aw_g_wsL_law_r25 : GoodIn lw_tbl wsL_law_r25 := goodIn_p _ [1032, 1036, 1040, 1048] (by decide +kernel) (by decide +kernel)
set_option maxRecDepth 20000 in
theorem aw_g_wsL_law_r26 : GoodIn lw_tbl wsL_law_r26 := goodIn_p _ [1052, 1056, 1060, 1066, 1070] (by decide +kernel) (by decide +kernel)
set_option maxRecDepth 20000 in
theorem aw_g_wsL_law_r27 : GoodIn lw_tbl wsL_law_r27 := goodIn_p _ [1076, 1079, 1083, 1091, 1088, 1095] (by decide +kernel) (by decide +kernel)
set_option maxRecDepth 20000 in
theorem aw_g_wsL_law_r28 : GoodIn lw_tbl wsL_law_r28 := goodIn_p _ [1647, 1651, 1655, 1659, 1663] (by decide +kernel) (by decide +kernel)
set_option maxRecDepth 20000 in
theorem aw_g_wsL_law_r29 : GoodIn lw_tbl wsL_law_r29 := goodIn_p _ [1667, 1671, 1674, 1678, 1682, 1686] (by decide +kernel) (by decide +kernel)
set_option maxRecDepth 20000 in
theorem aw_g_wsL_law_r30 : GoodIn lw_tbl wsL_law_r30 := goodIn_p _ [1689, 1693, 1697, 1700, 1704, 1708] (by decide +kernel) (by decide +kernel)
set_option maxRecDepth 20000 in
theorem aw_g_wsL_law_r31 : GoodIn lw_tbl wsL_law_r31 := goodIn_p _ [1712, 1716, 1720, 1724, 1728, 1732] (by decide +kernel) (by decide +kernel)
set_option maxRecDepth 20000 in
theorem aw_g_wsL_law_r32 : GoodIn lw_tbl wsL_law_r32 := goodIn_p _ [1736, 1740, 1744, 1748, 1752, 1756] (by decide +kernel) (by decide +kernel)
set_option maxRecDepth 20000 in
theorem aw_g_wsL_law_r33 : GoodIn lw_tbl wsL_law_r33 := goodIn_p _ [1760, 1764, 1768, 1772, 1775, 1779] (by decide +kernel) (by decide +kernel)
set_option maxRecDepth 20000 in
theorem aw_g_wsL_law_r34 : GoodIn lw_tbl wsL_law_r34 := goodIn_p _ [1783, 1787, 1791, 1795, 1799, 1803] (by decide +kernel) (by decide +kernel)
set_option maxRecDepth 20000 in
theorem aw_g_wsL_law_r35 : GoodIn lw_tbl wsL_law_r35 := goodIn_p _ [1807, 1811, 1815, 1818, 1822, 1826] (by decide +kernel) (by decide +kernel)
set_option maxRecDepth 20000 in
theorem aw_g_wsL_law_r36 : GoodIn lw_tbl wsL_law_r36 := goodIn_p _ [1830, 1833, 1837, 1841, 1845, 1849] (by decide +kernel) (by decide +kernel)
set_option maxRecDepth 20000 in
theorem aw_g_wsL_law_r37 : GoodIn lw_tbl wsL_law_r37 := goodIn_p _ [1853, 1857, 1099, 1861, 1115] (by decide +kernel) (by decide +kernel)
set_option maxRecDepth 20000 in
theorem aw_g_wsL_law_r38 : GoodIn lw_tbl wsL_law_r38 := goodIn_p _ [1119, 1123, 1865, 1869, 1873, 1128] (by decide +kernel) (by decide +kernel)
set_option maxRecDepth 20000 in
theorem aw_g_wsL_law_r39 : GoodIn lw_tbl wsL_law_r39 := goodIn_p _ [1877, 1881, 1885, 1135] (by decide +kernel) (by decide +kernel)
set_option maxRecDepth 20000 in
theorem aw_g_wsL_law_r40 : GoodIn lw_tbl wsL_law_r40 := goodIn_p _ [1908, 1897, 1142, 1889] (by decide +kernel) (by decide +kernel)
set_option maxRecDepth 20000 in
theorem aw_g_wsL_law_r41 : GoodIn lw_tbl wsL_law_r41 := goodIn_p _ [1146, 1150, 1893, 1155] (by decide +kernel) (by decide +kernel)
set_option maxRecDepth 20000 in
theorem aw_g_wsL_law_r42 : GoodIn lw_tbl wsL_law_r42 := goodIn_p _ [1159, 1163, 1901, 1904, 1167, 1171] (by decide +kernel) (by decide +kernel)
set_option maxRecDepth 20000 in
theorem aw_g_wsL_law_r43 : GoodIn lw_tbl wsL_law_r43 := goodIn_p _ [1175, 1178, 1185, 1912, 1916] (by decide +kernel) (by decide +kernel)
set_option maxRecDepth 20000 in
theorem aw_g_wsL_law_r44 : GoodIn lw_tbl wsL_law_r44 := goodIn_p _ [1920, 1924, 1191, 1928, 1932] (by decide +kernel) (by decide +kernel)
set_option maxRecDepth 20000 in
theorem aw_g_wsL_law_r45 : GoodIn lw_tbl wsL_law_r45 := goodIn_p _ [1195, 1936, 1200, 1940, 1204] (by decide +kernel) (by decide +kernel)
set_option maxRecDepth 20000 in
theorem aw_g_wsL_law_r46 : GoodIn lw_tbl wsL_law_r46 := goodIn_p _ [1208, 1107, 1212, 1219] (by decide +kernel) (by decide +kernel)
set_option maxRecDepth 20000 in
theorem aw_g_wsL_law_r47 : GoodIn lw_tbl wsL_law_r47 := goodIn_p _ [1223, 1228, 1232, 1237] (by decide +kernel) (by decide +kernel)
set_option maxRecDepth 20000 in
theorem aw_g_wsL_law_r48 : GoodIn lw_tbl wsL_law_r48 := goodIn_p _ [1241, 1245, 1249, 1254] (by decide +kernel) (by decide +kernel)
set_option maxRecDepth 20000 in
theorem aw_g_wsL_law_r49 : GoodIn lw_tbl wsL_law_r49 := goodIn_p _ [1259, 1944, 1948, 1952, 1956] (by decide +kernel) (by decide +kernel)
set_option maxRecDepth 20000 in
theorem aw_g_wsL_law_r50 : GoodIn lw_tbl wsL_law_r50 := goodIn_p _ [1960, 1964, 1968, 1972, 1976] (by decide +kernel) (by decide +kernel)
set_option maxRecDepth 20000 in
theorem aw_g_wsL_law_r51 : GoodIn lw_tbl wsL_law_r51 := goodIn_p _ [1263, 1980, 1267, 1984, 1988, 1271] (by decide +kernel) (by decide +kernel)
set_option maxRecDepth 20000 in
theorem aw_g_wsL_law_r52 : GoodIn lw_tbl wsL_law_r52 := goodIn_p _ [1992, 1275, 1279, 1996, 1283] (by decide +kernel) (by decide +kernel)
set_option maxRecDepth 20000 in
theorem aw_g_wsL_law_r53 : GoodIn lw_tbl wsL_law_r53 := goodIn_p _ [2096, 1287, 1291, 2100, 2104, 1295] (by decide +kernel) (by decide +kernel)
set_option maxRecDepth 20000 in
theorem aw_g_wsL_law_r54 : GoodIn lw_tbl wsL_law_r54 := goodIn_p _ [2088, 2092, 1299, 2108, 1304, 2112] (by decide +kernel) (by decide +kernel)
set_option maxRecDepth 20000 in
theorem aw_g_wsL_law_r55 : GoodIn lw_tbl wsL_law_r55 := goodIn_p _ [1308, 2116, 1312, 1317, 1321] (by decide +kernel) (by decide +kernel)
set_option maxRecDepth 20000 in
theorem aw_g_wsL_law_r56 : GoodIn lw_tbl wsL_law_r56 := goodIn_p _ [2120, 2031, 1326, 1330, 1335] (by decide +kernel) (by decide +kernel)
set_option maxRecDepth 20000 in
theorem aw_g_wsL_law_r57 : GoodIn lw_tbl wsL_law_r57 := goodIn_p _ [1340, 1344, 1348] (by decide +kernel) (by decide +kernel)
set_option maxRecDepth 20000 in
theorem aw_g_wsL_law_r58 : GoodIn lw_tbl wsL_law_r58 := goodIn_p _ [1352, 1356, 1360, 1364, 1369, 1373] (by decide +kernel) (by decide +kernel)
set_option maxRecDepth 20000 in
theorem aw_g_wsL_law_r59 : GoodIn lw_tbl wsL_law_r59 := goodIn_p _ [1377, 1380, 1383, 2000, 2004, 2007] (by decide +kernel) (by decide +kernel)
set_option maxRecDepth 20000 in
theorem aw_g_wsL_law_r60 : GoodIn lw_tbl wsL_law_r60 := goodIn_p _ [2011, 2015, 2019, 2022, 1387, 1391] (by decide +kernel) (by decide +kernel)
set_option maxRecDepth 20000 in
theorem aw_g_wsL_law_r61 : GoodIn lw_tbl wsL_law_r61 := goodIn_p _ [1396, 1403, 1407, 1412] (by decide +kernel) (by decide +kernel)
set_option maxRecDepth 20000 in
theorem aw_g_wsL_law_r62 : GoodIn lw_tbl wsL_law_r62 := goodIn_p _ [1417, 2026, 2035, 2039, 1103] (by decide +kernel) (by decide +kernel)
set_option maxRecDepth 20000 in
theorem aw_g_wsL_law_r63 : GoodIn lw_tbl wsL_law_r63 := goodIn_p _ [2044, 1111, 2048, 1421, 1425, 1430] (by decide +kernel) (by decide +kernel)
set_option maxRecDepth 20000 in
theorem aw_g_wsL_law_r64 : GoodIn lw_tbl wsL_law_r64 := goodIn_p _ [1434, 1438, 1442, 1446, 1450] (by decide +kernel) (by decide +kernel)
set_option maxRecDepth 20000 in
theorem aw_g_wsL_law_r65 : GoodIn lw_tbl wsL_law_r65 := goodIn_p _ [2052, 2056, 2060, 2064, 2068, 2072] (by decide +kernel) (by decide +kernel)
set_option maxRecDepth 20000 in
theorem aw_g_wsL_law_r66 : GoodIn lw_tbl wsL_law_r66 := goodIn_p _ [2076, 2080, 1454, 2084] (by decide +kernel) (by decide +kernel)
set_option maxRecDepth 20000 in
theorem aw_g_wsX110 : GoodIn lw_tbl wsX110 := goodIn_p _ [] (by decide +kernel) (by decide +kernel)
set_option maxRecDepth 20000 in
theorem aw_g_wsX120 : GoodIn lw_tbl wsX120 := goodIn_p _ [] (by decide +kernel) (by decide +kernel)
set_option maxRecDepth 20000 in
theorem aw_g_wsX90 : GoodIn lw_tbl wsX90 := goodIn_p _ [] (by decide +kernel) (by decide +kernel)
set_option maxRecDepth 20000 in
theorem aw_g_wsX70 : GoodIn lw_tbl wsX70 := goodIn_p _ [] (by decide +kernel) (by decide +kernel)
set_option maxRecDepth 20000 in
theorem aw_g_wsX30 : GoodIn lw_tbl wsX30 := goodIn_p _ [] (by decide +kernel) (by decide +kernel)
set_option maxRecDepth 20000 in
theorem aw_g_wsX10 : GoodIn lw_tbl wsX10 := goodIn_p _ [] (by decide +kernel) (by decide +kernel)
set_option maxRecDepth 20000 in
theorem aw_g_wsX40 : GoodIn lw_tbl wsX40 := goodIn_p _ [] (by decide +kernel) (by decide +kernel)
set_option maxRecDepth 20000 in
theorem aw_g_wsX60 : GoodIn lw_tbl wsX60 := goodIn_p _ [] (by decide +kernel) (by decide +kernel)
set_option maxRecDepth 20000 in
theorem aw_g_wsX80 : GoodIn lw_tbl wsX80 := goodIn_p _ [] (by decide +kernel) (by decide +kernel)
set_option maxRecDepth 20000 in
theorem aw_g_wsX100 : GoodIn lw_tbl wsX100 := goodIn_p _ [] (by decide +kernel) (by decide +kernel)
set_option maxRecDepth 20000 in
theorem aw_g_wsX50 : GoodIn lw_tbl wsX50 := goodIn_p _ [] (by decide +kernel) (by decide +kernel)
set_option maxRecDepth 20000 in
theorem aw_g_wsX00 : GoodIn lw_tbl wsX00 := goodIn_p _ [] (by decide +kernel) (by decide +kernel)
set_option maxRecDepth 20000 in
theorem aw_g_wsX20 : GoodIn lw_tbl wsX20 := goodIn_p _ [] (by decide +kernel) (by decide +kernel)
theorem aw_good : GoodIn lw_tbl wsL_law := goodIn_app (goodIn_app (goodIn_app (goodIn_app (goodIn_app (goodIn_app (goodIn_app (goodIn_app (goodIn_app (goodIn_app (goodIn_app (goodIn_app (goodIn_app (goodIn_app (goodIn_app aw_g_wsL_law_r1 (goodIn_app aw_g_wsL_law_r2 (goodIn_app aw_g_wsL_law_r3 (goodIn_app aw_g_wsL_law_r4 (goodIn_app aw_g_wsL_law_r5 (goodIn_app aw_g_wsL_law_r6 (goodIn_app aw_g_wsL_law_r7 (goodIn_app aw_g_wsL_law_r8 (goodIn_app aw_g_wsL_law_r9 (goodIn_app aw_g_wsL_law_r10 (goodIn_app aw_g_wsL_law_r11 (goodIn_app aw_g_wsL_law_r12 (goodIn_app aw_g_wsL_law_r13 (goodIn_app aw_g_wsL_law_r14 (goodIn_app aw_g_wsL_law_r15 (goodIn_app aw_g_wsL_law_r16 (goodIn_app aw_g_wsL_law_r17 (goodIn_app aw_g_wsL_law_r18 (goodIn_app aw_g_wsL_law_r19 (goodIn_app aw_g_wsL_law_r20 (goodIn_app aw_g_wsL_law_r21 (goodIn_app aw_g_wsL_law_r22 (goodIn_app aw_g_wsL_law_r23 (goodIn_app aw_g_wsL_law_r24 (goodIn_app aw_g_wsL_law_r25 (goodIn_app aw_g_wsL_law_r26 (goodIn_app aw_g_wsL_law_r27 (goodIn_app aw_g_wsL_law_r28 (goodIn_app aw_g_wsL_law_r29 (goodIn_app aw_g_wsL_law_r30 (goodIn_app aw_g_wsL_law_r31 (goodIn_app aw_g_wsL_law_r32 (goodIn_app aw_g_wsL_law_r33 (goodIn_app aw_g_wsL_law_r34 (goodIn_app aw_g_wsL_law_r35 (goodIn_app aw_g_wsL_law_r36 (goodIn_app aw_g_wsL_law_r37 (goodIn_app aw_g_wsL_law_r38 (goodIn_app aw_g_wsL_law_r39 (goodIn_app aw_g_wsL_law_r40 (goodIn_app aw_g_wsL_law_r41 (goodIn_app aw_g_wsL_law_r42 (goodIn_app aw_g_wsL_law_r43 (goodIn_app aw_g_wsL_law_r44 (goodIn_app aw_g_wsL_law_r45 (goodIn_app aw_g_wsL_law_r46 (goodIn_app aw_g_wsL_law_r47 (goodIn_app aw_g_wsL_law_r48 (goodIn_app aw_g_wsL_law_r49 (goodIn_app aw_g_wsL_law_r50 (goodIn_app aw_g_wsL_law_r51 (goodIn_app aw_g_wsL_law_r52 (goodIn_app aw_g_wsL_law_r53 (goodIn_app aw_g_wsL_law_r54 (goodIn_app aw_g_wsL_law_r55 (goodIn_app aw_g_wsL_law_r56 (goodIn_app aw_g_wsL_law_r57 (goodIn_app aw_g_wsL_law_r58 (goodIn_app aw_g_wsL_law_r59 (goodIn_app aw_g_wsL_law_r60 (goodIn_app aw_g_wsL_law_r61 (goodIn_app aw_g_wsL_law_r62 (goodIn_app aw_g_wsL_law_r63 (goodIn_app aw_g_wsL_law_r64 (goodIn_app aw_g_wsL_law_r65 aw_g_wsL_law_r66))))))))))))))))))))))))))))))))))))))))))))))))))))))))))))))))) aw_g_wsX110) aw_g_wsX120) aw_g_wsX90) aw_g_wsX70) aw_g_wsX30) aw_g_wsX10) aw_g_wsX40) aw_g_wsX60) aw_g_wsX80) aw_g_wsX100) aw_g_wsX50) aw_g_wsX00) aw_g_wsX20) (fun _ h => absurd h List.not_mem_nil)
theorem wsL_law_in : ∀ w ∈ wsL_law, w ∈ lw_tbl := fun w h => (aw_good w h).1
theorem aw_goodU : GoodIn wsL_law wsL_law := fun w h => ⟨h, (aw_good w h).2⟩
theorem inlX0 : ∀ w ∈ wsX00, w ∈ wsL_law := fun _ h => List.mem_append_left _ (List.mem_append_left _ (List.mem_append_right _ h))
theorem inX0 : ∀ w ∈ wsX00, w ∈ lw_tbl := fun w h => wsL_law_in w (inlX0 w h)
theorem inlX1 : ∀ w ∈ wsX10, w ∈ wsL_law := fun _ h => List.mem_append_left _ (List.mem_append_left _ (List.mem_append_left _ (List.mem_append_left _ (List.mem_append_left _ (List.mem_append_left _ (List.mem_append_left _ (List.mem_append_left _ (List.mem_append_right _ h))))))))
theorem inX1 : ∀ w ∈ wsX10, w ∈ lw_tbl := fun w h => wsL_law_in w (inlX1 w h)
theorem inlX2 : ∀ w ∈ wsX20, w ∈ wsL_law := fun _ h => List.mem_append_left _ (List.mem_append_right _ h)
theorem inX2 : ∀ w ∈ wsX20, w ∈ lw_tbl := fun w h => wsL_law_in w (inlX2 w h)
theorem inlX3 : ∀ w ∈ wsX30, w ∈ wsL_law := fun _ h => List.mem_append_left _ (List.mem_append_left _ (List.mem_append_left _ (List.mem_append_left _ (List.mem_append_left _ (List.mem_append_left _ (List.mem_append_left _ (List.mem_append_left _ (List.mem_append_left _ (List.mem_append_right _ h)))))))))
theorem inX3 : ∀ w ∈ wsX30, w ∈ lw_tbl := fun w h => wsL_law_in w (inlX3 w h)
theorem inlX4 : ∀ w ∈ wsX40, w ∈ wsL_law := fun _ h => List.mem_append_left _ (List.mem_append_left _ (List.mem_append_left _ (List.mem_append_left _ (List.mem_append_left _ (List.mem_append_left _ (List.mem_append_left _ (List.mem_append_right _ h)))))))
theorem inX4 : ∀ w ∈ wsX40, w ∈ lw_tbl := fun w h => wsL_law_in w (inlX4 w h)
theorem inlX5 : ∀ w ∈ wsX50, w ∈ wsL_law := fun _ h => List.mem_append_left _ (List.mem_append_left _ (List.mem_append_left _ (List.mem_append_right _ h)))
theorem inX5 : ∀ w ∈ wsX50, w ∈ lw_tbl := fun w h => wsL_law_in w (inlX5 w h)
theorem inlX6 : ∀ w ∈ wsX60, w ∈ wsL_law := fun _ h => List.mem_append_left _ (List.mem_append_left _ (List.mem_append_left _ (List.mem_append_left _ (List.mem_append_left _ (List.mem_append_left _ (List.mem_append_right _ h))))))
theorem inX6 : ∀ w ∈ wsX60, w ∈ lw_tbl := fun w h => wsL_law_in w (inlX6 w h)
theorem inlX7 : ∀ w ∈ wsX70, w ∈ wsL_law := fun _ h => List.mem_append_left _ (List.mem_append_left _ (List.mem_append_left _ (List.mem_append_left _ (List.mem_append_left _ (List.mem_append_left _ (List.mem_append_left _ (List.mem_append_left _ (List.mem_append_left _ (List.mem_append_left _ (List.mem_append_right _ h))))))))))
theorem inX7 : ∀ w ∈ wsX70, w ∈ lw_tbl := fun w h => wsL_law_in w (inlX7 w h)
theorem inlX8 : ∀ w ∈ wsX80, w ∈ wsL_law := fun _ h => List.mem_append_left _ (List.mem_append_left _ (List.mem_append_left _ (List.mem_append_left _ (List.mem_append_left _ (List.mem_append_right _ h)))))
theorem inX8 : ∀ w ∈ wsX80, w ∈ lw_tbl := fun w h => wsL_law_in w (inlX8 w h)
theorem inlX9 : ∀ w ∈ wsX90, w ∈ wsL_law := fun _ h => List.mem_append_left _ (List.mem_append_left _ (List.mem_append_left _ (List.mem_append_left _ (List.mem_append_left _ (List.mem_append_left _ (List.mem_append_left _ (List.mem_append_left _ (List.mem_append_left _ (List.mem_append_left _ (List.mem_append_left _ (List.mem_append_right _ h)))))))))))
theorem inX9 : ∀ w ∈ wsX90, w ∈ lw_tbl := fun w h => wsL_law_in w (inlX9 w h)
theorem inlX10 : ∀ w ∈ wsX100, w ∈ wsL_law := fun _ h => List.mem_append_left _ (List.mem_append_left _ (List.mem_append_left _ (List.mem_append_left _ (List.mem_append_right _ h))))
theorem inX10 : ∀ w ∈ wsX100, w ∈ lw_tbl := fun w h => wsL_law_in w (inlX10 w h)
theorem inlX11 : ∀ w ∈ wsX110, w ∈ wsL_law := fun _ h => List.mem_append_left _ (List.mem_append_left _ (List.mem_append_left _ (List.mem_append_left _ (List.mem_append_left _ (List.mem_append_left _ (List.mem_append_left _ (List.mem_append_left _ (List.mem_append_left _ (List.mem_append_left _ (List.mem_append_left _ (List.mem_append_left _ (List.mem_append_left _ (List.mem_append_right _ h)))))))))))))
theorem inX11 : ∀ w ∈ wsX110, w ∈ lw_tbl := fun w h => wsL_law_in w (inlX11 w h)
theorem inlX12 : ∀ w ∈ wsX120, w ∈ wsL_law := fun _ h => List.mem_append_left _ (List.mem_append_left _ (List.mem_append_left _ (List.mem_append_left _ (List.mem_append_left _ (List.mem_append_left _ (List.mem_append_left _ (List.mem_append_left _ (List.mem_append_left _ (List.mem_append_left _ (List.mem_append_left _ (List.mem_append_left _ (List.mem_append_right _ h))))))))))))
theorem inX12 : ∀ w ∈ wsX120, w ∈ lw_tbl := fun w h => wsL_law_in w (inlX12 w h)
theorem inJ6 : ∀ w ∈ wsJ60, w ∈ lw_tbl := by decide +kernel
theorem inJ9 : ∀ w ∈ wsJ90, w ∈ lw_tbl := by decide +kernel
theorem inJ10 : ∀ w ∈ wsJ100, w ∈ lw_tbl := by decide +kernel
theorem inJ7 : ∀ w ∈ wsJ70, w ∈ lw_tbl := by decide +kernel
abbrev vwCl : List vw_C := [(RX0, TX0, 4), (RX1, TX1, 14), (RX2, TX2, 4), (RX3, TX3, 15), (RX4, TX4, 5), (RX5, TX5, 13), (RX6, TX6, 6), (RX7, TX7, 16), (RX8, TX8, 10), (RX9, TX9, 2), (RX10, TX10, 10), (RX11, TX11, 19), (RX12, TX12, 55)]
