/-! ===== BEGIN printed: names, fields, word lists, decode rows ===== -/
def RX0 : String := "TalkTrees$Builder"
def TX0 : u_T := fun k => match k with
  | _ => ("TalkTrees$Builder", "ways", "LTalkTrees$Ways;", true)
def tyX0 : Nat → FieldType := fun k => match k with
  | _ => .object "TalkTrees$Ways"
abbrev wsX00 : List Cond := u_ws RX0 TX0 1
theorem nmX0 : ∀ a, a < 1 → ∀ b, b < 1 → a ≠ b → (TX0 a).2.1 ≠ (TX0 b).2.1 := by decide +kernel
theorem tyX0_ok : ∀ k, k < 1 → parseFieldDescriptor (TX0 k).2.2.1 = some (tyX0 k) := by decide +kernel
abbrev cX0_init : ByteArray := prog_2_method_1_code
def yX0_init : MethodName := ⟨RX0, "<init>", "()V"⟩
abbrev cX0_join : ByteArray := prog_2_method_2_code
def yX0_join : MethodName := ⟨RX0, "join", "(LTalkTrees$Talk;I)V"⟩
abbrev cX0_leave : ByteArray := prog_2_method_3_code
def yX0_leave : MethodName := ⟨RX0, "leave", "(LTalkTrees$Talk;I)V"⟩
abbrev cX0_mark : ByteArray := prog_2_method_4_code
def yX0_mark : MethodName := ⟨RX0, "mark", "(LTalkTrees$Talk;I)V"⟩
abbrev cX0_rearrange : ByteArray := prog_2_method_5_code
def yX0_rearrange : MethodName := ⟨RX0, "rearrange", "(LTalkTrees$Talk;)V"⟩
abbrev cX0_anew : ByteArray := prog_2_method_6_code
def yX0_anew : MethodName := ⟨RX0, "anew", "(LTalkTrees$Talk;)I"⟩
abbrev cX0_nearest : ByteArray := prog_2_method_7_code
def yX0_nearest : MethodName := ⟨RX0, "nearest", "(LTalkTrees$Talk;I)I"⟩
abbrev cX0_cut : ByteArray := prog_2_method_8_code
def yX0_cut : MethodName := ⟨RX0, "cut", "(LTalkTrees$Talk;I)I"⟩
abbrev cX0_keepHanging : ByteArray := prog_2_method_9_code
def yX0_keepHanging : MethodName := ⟨RX0, "keepHanging", "(LTalkTrees$Talk;I)V"⟩
abbrev cX0_joinAgain : ByteArray := prog_2_method_10_code
def yX0_joinAgain : MethodName := ⟨RX0, "joinAgain", "(LTalkTrees$Talk;)V"⟩
def RX1 : String := "TalkTrees$Least"
def TX1 : u_T := fun k => match k with
  | _ => ("", "", "", false)
def tyX1 : Nat → FieldType := fun k => match k with
  | _ => .int
abbrev wsX10 : List Cond := u_ws RX1 TX1 0
theorem nmX1 : ∀ a, a < 0 → ∀ b, b < 0 → a ≠ b → (TX1 a).2.1 ≠ (TX1 b).2.1 := by decide +kernel
theorem tyX1_ok : ∀ k, k < 0 → parseFieldDescriptor (TX1 k).2.2.1 = some (tyX1 k) := by decide +kernel
abbrev cX1_of : ByteArray := prog_3_method_2_code
def yX1_of : MethodName := ⟨RX1, "of", "(LTalkTrees$Talk;)I"⟩
abbrev cX1_isLess : ByteArray := prog_3_method_3_code
def yX1_isLess : MethodName := ⟨RX1, "isLess", "(LTalkTrees$Talk;II)Z"⟩
abbrev cX1_grow : ByteArray := prog_3_method_4_code
def yX1_grow : MethodName := ⟨RX1, "grow", "(LTalkTrees$Talk;I)I"⟩
abbrev cX1_cheapestOn : ByteArray := prog_3_method_5_code
def yX1_cheapestOn : MethodName := ⟨RX1, "cheapestOn", "(LTalkTrees$Talk;II)I"⟩
def RX2 : String := "TalkTrees$Past"
def TX2 : u_T := fun k => match k with
  | 0 => ("TalkTrees$Past", "known", "[LTalkTrees$Talk;", true)
  | 1 => ("TalkTrees$Past", "size", "I", false)
  | _ => ("TalkTrees$Past", "next", "I", false)
def tyX2 : Nat → FieldType := fun k => match k with
  | 0 => .array (.object "TalkTrees$Talk")
  | 1 => .int
  | _ => .int
abbrev wsX20 : List Cond := u_ws RX2 TX2 3
theorem nmX2 : ∀ a, a < 3 → ∀ b, b < 3 → a ≠ b → (TX2 a).2.1 ≠ (TX2 b).2.1 := by decide +kernel
theorem tyX2_ok : ∀ k, k < 3 → parseFieldDescriptor (TX2 k).2.2.1 = some (tyX2 k) := by decide +kernel
abbrev cX2_init : ByteArray := prog_4_method_1_code
def yX2_init : MethodName := ⟨RX2, "<init>", "()V"⟩
abbrev cX2_remember : ByteArray := prog_4_method_2_code
def yX2_remember : MethodName := ⟨RX2, "remember", "(LTalkTrees$Talk;)V"⟩
abbrev cX2_recall : ByteArray := prog_4_method_3_code
def yX2_recall : MethodName := ⟨RX2, "recall", "(LTalkTrees$Talk;)Z"⟩
abbrev cX2_drop : ByteArray := prog_4_method_4_code
def yX2_drop : MethodName := ⟨RX2, "drop", "()V"⟩
def RX3 : String := "TalkTrees$Sights"
def TX3 : u_T := fun k => match k with
  | 0 => ("TalkTrees$Sights", "whats", "[I", true)
  | 1 => ("TalkTrees$Sights", "numbers", "[I", true)
  | _ => ("TalkTrees$Sights", "size", "I", false)
def tyX3 : Nat → FieldType := fun k => match k with
  | 0 => .array .int
  | 1 => .array .int
  | _ => .int
abbrev wsX30 : List Cond := u_ws RX3 TX3 3
theorem nmX3 : ∀ a, a < 3 → ∀ b, b < 3 → a ≠ b → (TX3 a).2.1 ≠ (TX3 b).2.1 := by decide +kernel
theorem tyX3_ok : ∀ k, k < 3 → parseFieldDescriptor (TX3 k).2.2.1 = some (tyX3 k) := by decide +kernel
abbrev cX3_init : ByteArray := prog_5_method_1_code
def yX3_init : MethodName := ⟨RX3, "<init>", "()V"⟩
abbrev cX3_add : ByteArray := prog_5_method_2_code
def yX3_add : MethodName := ⟨RX3, "add", "(II)Z"⟩
abbrev cX3_empty : ByteArray := prog_5_method_3_code
def yX3_empty : MethodName := ⟨RX3, "empty", "()I"⟩
abbrev cX3_fit : ByteArray := prog_5_method_4_code
def yX3_fit : MethodName := ⟨RX3, "fit", "(II)Z"⟩
def RX4 : String := "TalkTrees$Talk"
def TX4 : u_T := fun k => match k with
  | 0 => ("TalkTrees$Talk", "nodes", "I", false)
  | 1 => ("TalkTrees$Talk", "source", "I", false)
  | 2 => ("TalkTrees$Talk", "limit", "I", false)
  | 3 => ("TalkTrees$Talk", "links", "I", false)
  | 4 => ("TalkTrees$Talk", "first", "[I", true)
  | 5 => ("TalkTrees$Talk", "second", "[I", true)
  | 6 => ("TalkTrees$Talk", "cost", "[I", true)
  | 7 => ("TalkTrees$Talk", "members", "I", false)
  | 8 => ("TalkTrees$Talk", "tree", "I", false)
  | 9 => ("TalkTrees$Talk", "down", "I", false)
  | 10 => ("TalkTrees$Talk", "markCount", "I", false)
  | _ => ("TalkTrees$Talk", "marks", "[I", true)
def tyX4 : Nat → FieldType := fun k => match k with
  | 0 => .int
  | 1 => .int
  | 2 => .int
  | 3 => .int
  | 4 => .array .int
  | 5 => .array .int
  | 6 => .array .int
  | 7 => .int
  | 8 => .int
  | 9 => .int
  | 10 => .int
  | _ => .array .int
abbrev wsX40 : List Cond := u_ws RX4 TX4 12
theorem nmX4 : ∀ a, a < 12 → ∀ b, b < 12 → a ≠ b → (TX4 a).2.1 ≠ (TX4 b).2.1 := by decide +kernel
theorem tyX4_ok : ∀ k, k < 12 → parseFieldDescriptor (TX4 k).2.2.1 = some (tyX4 k) := by decide +kernel
abbrev cX4_init : ByteArray := prog_6_method_1_code
def yX4_init : MethodName := ⟨RX4, "<init>", "()V"⟩
abbrev cX4_beAsAtFirst : ByteArray := prog_6_method_2_code
def yX4_beAsAtFirst : MethodName := ⟨RX4, "beAsAtFirst", "()V"⟩
abbrev cX4_become : ByteArray := prog_6_method_3_code
def yX4_become : MethodName := ⟨RX4, "become", "(LTalkTrees$Talk;)V"⟩
abbrev cX4_hasNode : ByteArray := prog_6_method_4_code
def yX4_hasNode : MethodName := ⟨RX4, "hasNode", "(I)Z"⟩
abbrev cX4_hasLink : ByteArray := prog_6_method_5_code
def yX4_hasLink : MethodName := ⟨RX4, "hasLink", "(I)Z"⟩
abbrev cX4_isMember : ByteArray := prog_6_method_6_code
def yX4_isMember : MethodName := ⟨RX4, "isMember", "(I)Z"⟩
abbrev cX4_addLink : ByteArray := prog_6_method_7_code
def yX4_addLink : MethodName := ⟨RX4, "addLink", "(III)V"⟩
abbrev cX4_areLinked : ByteArray := prog_6_method_8_code
def yX4_areLinked : MethodName := ⟨RX4, "areLinked", "(II)Z"⟩
abbrev cX4_ends : ByteArray := prog_6_method_9_code
def yX4_ends : MethodName := ⟨RX4, "ends", "(I)I"⟩
abbrev cX4_linksAt : ByteArray := prog_6_method_10_code
def yX4_linksAt : MethodName := ⟨RX4, "linksAt", "(I)I"⟩
abbrev cX4_upLinks : ByteArray := prog_6_method_11_code
def yX4_upLinks : MethodName := ⟨RX4, "upLinks", "()I"⟩
abbrev cX4_costOf : ByteArray := prog_6_method_12_code
def yX4_costOf : MethodName := ⟨RX4, "costOf", "(I)I"⟩
abbrev cX4_nodesOf : ByteArray := prog_6_method_13_code
def yX4_nodesOf : MethodName := ⟨RX4, "nodesOf", "(I)I"⟩
abbrev cX4_hangingBy : ByteArray := prog_6_method_14_code
def yX4_hangingBy : MethodName := ⟨RX4, "hangingBy", "(I)I"⟩
abbrev cX4_membersOff : ByteArray := prog_6_method_15_code
def yX4_membersOff : MethodName := ⟨RX4, "membersOff", "(II)I"⟩
abbrev cX4_load : ByteArray := prog_6_method_16_code
def yX4_load : MethodName := ⟨RX4, "load", "(I)I"⟩
abbrev cX4_busiest : ByteArray := prog_6_method_17_code
def yX4_busiest : MethodName := ⟨RX4, "busiest", "()I"⟩
abbrev cX4_needed : ByteArray := prog_6_method_18_code
def yX4_needed : MethodName := ⟨RX4, "needed", "()I"⟩
abbrev cX4_markOf : ByteArray := prog_6_method_19_code
def yX4_markOf : MethodName := ⟨RX4, "markOf", "(I)I"⟩
abbrev cX4_turnMark : ByteArray := prog_6_method_20_code
def yX4_turnMark : MethodName := ⟨RX4, "turnMark", "(I)V"⟩
abbrev cX4_prune : ByteArray := prog_6_method_21_code
def yX4_prune : MethodName := ⟨RX4, "prune", "()V"⟩
def RX5 : String := "TalkTrees$Text"
def TX5 : u_T := fun k => match k with
  | 0 => ("TalkTrees$Text", "letters", "[I", true)
  | 1 => ("TalkTrees$Text", "length", "I", false)
  | 2 => ("TalkTrees$Text", "start", "I", false)
  | 3 => ("TalkTrees$Text", "end", "I", false)
  | 4 => ("TalkTrees$Text", "kind", "I", false)
  | 5 => ("TalkTrees$Text", "figure", "I", false)
  | _ => ("TalkTrees$Text", "sourceTold", "Z", false)
def tyX5 : Nat → FieldType := fun k => match k with
  | 0 => .array .int
  | 1 => .int
  | 2 => .int
  | 3 => .int
  | 4 => .int
  | 5 => .int
  | _ => .boolean
abbrev wsX50 : List Cond := u_ws RX5 TX5 7
theorem nmX5 : ∀ a, a < 7 → ∀ b, b < 7 → a ≠ b → (TX5 a).2.1 ≠ (TX5 b).2.1 := by decide +kernel
theorem tyX5_ok : ∀ k, k < 7 → parseFieldDescriptor (TX5 k).2.2.1 = some (tyX5 k) := by decide +kernel
abbrev cX5_init : ByteArray := prog_7_method_1_code
def yX5_init : MethodName := ⟨RX5, "<init>", "()V"⟩
abbrev cX5_append : ByteArray := prog_7_method_2_code
def yX5_append : MethodName := ⟨RX5, "append", "(I)Z"⟩
abbrev cX5_empty : ByteArray := prog_7_method_3_code
def yX5_empty : MethodName := ⟨RX5, "empty", "()I"⟩
abbrev cX5_read : ByteArray := prog_7_method_4_code
def yX5_read : MethodName := ⟨RX5, "read", "(LTalkTrees$Talk;)I"⟩
abbrev cX5_readItem : ByteArray := prog_7_method_5_code
def yX5_readItem : MethodName := ⟨RX5, "readItem", "(LTalkTrees$Talk;I)Z"⟩
abbrev cX5_readNodes : ByteArray := prog_7_method_6_code
def yX5_readNodes : MethodName := ⟨RX5, "readNodes", "(LTalkTrees$Talk;)Z"⟩
abbrev cX5_readSource : ByteArray := prog_7_method_7_code
def yX5_readSource : MethodName := ⟨RX5, "readSource", "(LTalkTrees$Talk;)Z"⟩
abbrev cX5_readLimit : ByteArray := prog_7_method_8_code
def yX5_readLimit : MethodName := ⟨RX5, "readLimit", "(LTalkTrees$Talk;)Z"⟩
abbrev cX5_readLink : ByteArray := prog_7_method_9_code
def yX5_readLink : MethodName := ⟨RX5, "readLink", "(LTalkTrees$Talk;)Z"⟩
abbrev cX5_takeSemicolon : ByteArray := prog_7_method_10_code
def yX5_takeSemicolon : MethodName := ⟨RX5, "takeSemicolon", "()Z"⟩
abbrev cX5_takeFigure : ByteArray := prog_7_method_11_code
def yX5_takeFigure : MethodName := ⟨RX5, "takeFigure", "(II)Z"⟩
abbrev cX5_takeToken : ByteArray := prog_7_method_12_code
def yX5_takeToken : MethodName := ⟨RX5, "takeToken", "()V"⟩
abbrev cX5_isFigure : ByteArray := prog_7_method_13_code
def yX5_isFigure : MethodName := ⟨RX5, "isFigure", "(I)Z"⟩
abbrev cX5_isSmallLetter : ByteArray := prog_7_method_14_code
def yX5_isSmallLetter : MethodName := ⟨RX5, "isSmallLetter", "(I)Z"⟩
abbrev cX5_isWord : ByteArray := prog_7_method_15_code
def yX5_isWord : MethodName := ⟨RX5, "isWord", "(Ljava/lang/String;)Z"⟩
def RX6 : String := "TalkTrees$Ways"
def TX6 : u_T := fun k => match k with
  | 0 => ("TalkTrees$Ways", "weights", "[I", true)
  | _ => ("TalkTrees$Ways", "usable", "I", false)
def tyX6 : Nat → FieldType := fun k => match k with
  | 0 => .array .int
  | _ => .int
abbrev wsX60 : List Cond := u_ws RX6 TX6 2
theorem nmX6 : ∀ a, a < 2 → ∀ b, b < 2 → a ≠ b → (TX6 a).2.1 ≠ (TX6 b).2.1 := by decide +kernel
theorem tyX6_ok : ∀ k, k < 2 → parseFieldDescriptor (TX6 k).2.2.1 = some (tyX6 k) := by decide +kernel
abbrev cX6_init : ByteArray := prog_8_method_1_code
def yX6_init : MethodName := ⟨RX6, "<init>", "()V"⟩
abbrev cX6_find : ByteArray := prog_8_method_2_code
def yX6_find : MethodName := ⟨RX6, "find", "(LTalkTrees$Talk;I)V"⟩
abbrev cX6_findBy : ByteArray := prog_8_method_3_code
def yX6_findBy : MethodName := ⟨RX6, "findBy", "(LTalkTrees$Talk;II)V"⟩
abbrev cX6_shorten : ByteArray := prog_8_method_4_code
def yX6_shorten : MethodName := ⟨RX6, "shorten", "(III)V"⟩
abbrev cX6_weightOf : ByteArray := prog_8_method_5_code
def yX6_weightOf : MethodName := ⟨RX6, "weightOf", "(LTalkTrees$Talk;I)I"⟩
abbrev cX6_reach : ByteArray := prog_8_method_6_code
def yX6_reach : MethodName := ⟨RX6, "reach", "(I)Z"⟩
abbrev cX6_costFrom : ByteArray := prog_8_method_7_code
def yX6_costFrom : MethodName := ⟨RX6, "costFrom", "(I)I"⟩
abbrev cX6_stepsFrom : ByteArray := prog_8_method_8_code
def yX6_stepsFrom : MethodName := ⟨RX6, "stepsFrom", "(I)I"⟩
abbrev cX6_firstStep : ByteArray := prog_8_method_9_code
def yX6_firstStep : MethodName := ⟨RX6, "firstStep", "(LTalkTrees$Talk;I)I"⟩
abbrev cX6_nextNode : ByteArray := prog_8_method_10_code
def yX6_nextNode : MethodName := ⟨RX6, "nextNode", "(LTalkTrees$Talk;II)I"⟩
abbrev cX6_stepAt : ByteArray := prog_8_method_11_code
def yX6_stepAt : MethodName := ⟨RX6, "stepAt", "(LTalkTrees$Talk;II)I"⟩
abbrev cX6_linksFrom : ByteArray := prog_8_method_12_code
def yX6_linksFrom : MethodName := ⟨RX6, "linksFrom", "(LTalkTrees$Talk;I)I"⟩
def RX7 : String := "TalkTrees"
def TX7 : u_T := fun k => match k with
  | 0 => ("TalkTrees", "text", "LTalkTrees$Text;", true)
  | 1 => ("TalkTrees", "now", "LTalkTrees$Talk;", true)
  | 2 => ("TalkTrees", "told", "LTalkTrees$Talk;", true)
  | 3 => ("TalkTrees", "past", "LTalkTrees$Past;", true)
  | 4 => ("TalkTrees", "builder", "LTalkTrees$Builder;", true)
  | 5 => ("TalkTrees", "ways", "LTalkTrees$Ways;", true)
  | 6 => ("TalkTrees", "sights", "LTalkTrees$Sights;", true)
  | 7 => ("TalkTrees", "images", "[LTalkTrees$Talk;", true)
  | _ => ("TalkTrees", "kept", "[Z", true)
def tyX7 : Nat → FieldType := fun k => match k with
  | 0 => .object "TalkTrees$Text"
  | 1 => .object "TalkTrees$Talk"
  | 2 => .object "TalkTrees$Talk"
  | 3 => .object "TalkTrees$Past"
  | 4 => .object "TalkTrees$Builder"
  | 5 => .object "TalkTrees$Ways"
  | 6 => .object "TalkTrees$Sights"
  | 7 => .array (.object "TalkTrees$Talk")
  | _ => .array .boolean
abbrev wsX70 : List Cond := u_ws RX7 TX7 9
theorem nmX7 : ∀ a, a < 9 → ∀ b, b < 9 → a ≠ b → (TX7 a).2.1 ≠ (TX7 b).2.1 := by decide +kernel
theorem tyX7_ok : ∀ k, k < 9 → parseFieldDescriptor (TX7 k).2.2.1 = some (tyX7 k) := by decide +kernel
abbrev cX7_init : ByteArray := prog_1_method_1_code
def yX7_init : MethodName := ⟨RX7, "<init>", "()V"⟩
abbrev cX7_type : ByteArray := prog_1_method_2_code
def yX7_type : MethodName := ⟨RX7, "type", "(I)I"⟩
abbrev cX7_clear : ByteArray := prog_1_method_3_code
def yX7_clear : MethodName := ⟨RX7, "clear", "()I"⟩
abbrev cX7_tells : ByteArray := prog_1_method_4_code
def yX7_tells : MethodName := ⟨RX7, "tells", "()I"⟩
abbrev cX7_joins : ByteArray := prog_1_method_5_code
def yX7_joins : MethodName := ⟨RX7, "joins", "(I)I"⟩
abbrev cX7_leaves : ByteArray := prog_1_method_6_code
def yX7_leaves : MethodName := ⟨RX7, "leaves", "(I)I"⟩
abbrev cX7_rearranges : ByteArray := prog_1_method_7_code
def yX7_rearranges : MethodName := ⟨RX7, "rearranges", "()I"⟩
abbrev cX7_cuts : ByteArray := prog_1_method_8_code
def yX7_cuts : MethodName := ⟨RX7, "cuts", "(I)I"⟩
abbrev cX7_mends : ByteArray := prog_1_method_9_code
def yX7_mends : MethodName := ⟨RX7, "mends", "(I)I"⟩
abbrev cX7_limits : ByteArray := prog_1_method_10_code
def yX7_limits : MethodName := ⟨RX7, "limits", "(I)I"⟩
abbrev cX7_undo : ByteArray := prog_1_method_11_code
def yX7_undo : MethodName := ⟨RX7, "undo", "()I"⟩
abbrev cX7_link : ByteArray := prog_1_method_12_code
def yX7_link : MethodName := ⟨RX7, "link", "(II)I"⟩
abbrev cX7_node : ByteArray := prog_1_method_13_code
def yX7_node : MethodName := ⟨RX7, "node", "(II)I"⟩
abbrev cX7_way : ByteArray := prog_1_method_14_code
def yX7_way : MethodName := ⟨RX7, "way", "(II)I"⟩
abbrev cX7_tree : ByteArray := prog_1_method_15_code
def yX7_tree : MethodName := ⟨RX7, "tree", "(I)I"⟩
abbrev cX7_sees : ByteArray := prog_1_method_16_code
def yX7_sees : MethodName := ⟨RX7, "sees", "(II)I"⟩
abbrev cX7_forget : ByteArray := prog_1_method_17_code
def yX7_forget : MethodName := ⟨RX7, "forget", "()I"⟩
abbrev cX7_which : ByteArray := prog_1_method_18_code
def yX7_which : MethodName := ⟨RX7, "which", "(I)I"⟩
abbrev cX7_keep : ByteArray := prog_1_method_19_code
def yX7_keep : MethodName := ⟨RX7, "keep", "(I)I"⟩
abbrev cX7_back : ByteArray := prog_1_method_20_code
def yX7_back : MethodName := ⟨RX7, "back", "(I)I"⟩
abbrev cX7_count : ByteArray := prog_1_method_21_code
def yX7_count : MethodName := ⟨RX7, "count", "(I)I"⟩
abbrev cX7_has : ByteArray := prog_1_method_22_code
def yX7_has : MethodName := ⟨RX7, "has", "(II)Z"⟩
abbrev cX7_role : ByteArray := prog_1_method_23_code
def yX7_role : MethodName := ⟨RX7, "role", "(I)I"⟩
abbrev cX7_hasWay : ByteArray := prog_1_method_24_code
def yX7_hasWay : MethodName := ⟨RX7, "hasWay", "(I)Z"⟩
abbrev cX7_far : ByteArray := prog_1_method_25_code
def yX7_far : MethodName := ⟨RX7, "far", "(I)I"⟩
abbrev cX7_fittingNodes : ByteArray := prog_1_method_26_code
def yX7_fittingNodes : MethodName := ⟨RX7, "fittingNodes", "()I"⟩
def RX8 : String := "TalkTreesModel"
def TX8 : u_T := fun k => match k with
  | 0 => ("TalkTreesModel", "thrown", "I", false)
  | 1 => ("TalkTreesModel", "s", "[I", true)
  | 2 => ("TalkTreesModel", "draft", "[I", true)
  | 3 => ("TalkTreesModel", "past", "[I", true)
  | 4 => ("TalkTreesModel", "undos", "I", false)
  | 5 => ("TalkTreesModel", "kept", "[I", true)
  | 6 => ("TalkTreesModel", "isKept", "[Z", true)
  | 7 => ("TalkTreesModel", "facts", "[I", true)
  | 8 => ("TalkTreesModel", "manyFacts", "I", false)
  | 9 => ("TalkTreesModel", "text", "[B", true)
  | 10 => ("TalkTreesModel", "typed", "I", false)
  | 11 => ("TalkTreesModel", "from", "I", false)
  | 12 => ("TalkTreesModel", "to", "I", false)
  | 13 => ("TalkTreesModel", "token", "I", false)
  | 14 => ("TalkTreesModel", "fault", "I", false)
  | 15 => ("TalkTreesModel", "away", "[I", true)
  | _ => ("TalkTreesModel", "leastCost", "I", false)
def tyX8 : Nat → FieldType := fun k => match k with
  | 0 => .int
  | 1 => .array .int
  | 2 => .array .int
  | 3 => .array .int
  | 4 => .int
  | 5 => .array .int
  | 6 => .array .boolean
  | 7 => .array .int
  | 8 => .int
  | 9 => .array .byte
  | 10 => .int
  | 11 => .int
  | 12 => .int
  | 13 => .int
  | 14 => .int
  | 15 => .array .int
  | _ => .int
abbrev wsX80 : List Cond := u_ws RX8 TX8 17
theorem nmX8 : ∀ a, a < 17 → ∀ b, b < 17 → a ≠ b → (TX8 a).2.1 ≠ (TX8 b).2.1 := by decide +kernel
theorem tyX8_ok : ∀ k, k < 17 → parseFieldDescriptor (TX8 k).2.2.1 = some (tyX8 k) := by decide +kernel
abbrev cX8_init : ByteArray := prog_10_method_1_code
def yX8_init : MethodName := ⟨RX8, "<init>", "()V"⟩
abbrev cX8_in : ByteArray := prog_10_method_3_code
def yX8_in : MethodName := ⟨RX8, "in", "(III)Z"⟩
abbrev cX8_has : ByteArray := prog_10_method_4_code
def yX8_has : MethodName := ⟨RX8, "has", "(II)Z"⟩
abbrev cX8_bits : ByteArray := prog_10_method_5_code
def yX8_bits : MethodName := ⟨RX8, "bits", "(I)I"⟩
abbrev cX8_type : ByteArray := prog_10_method_6_code
def yX8_type : MethodName := ⟨RX8, "type", "(I)I"⟩
abbrev cX8_clear : ByteArray := prog_10_method_7_code
def yX8_clear : MethodName := ⟨RX8, "clear", "()I"⟩
abbrev cX8_at : ByteArray := prog_10_method_8_code
def yX8_at : MethodName := ⟨RX8, "at", "(I)I"⟩
abbrev cX8_code : ByteArray := prog_10_method_9_code
def yX8_code : MethodName := ⟨RX8, "code", "()I"⟩
abbrev cX8_wordOf : ByteArray := prog_10_method_10_code
def yX8_wordOf : MethodName := ⟨RX8, "wordOf", "()I"⟩
abbrev cX8_steps : ByteArray := prog_10_method_11_code
def yX8_steps : MethodName := ⟨RX8, "steps", "()V"⟩
abbrev cX8_takes : ByteArray := prog_10_method_12_code
def yX8_takes : MethodName := ⟨RX8, "takes", "(Z)V"⟩
abbrev cX8_figure : ByteArray := prog_10_method_13_code
def yX8_figure : MethodName := ⟨RX8, "figure", "(II)I"⟩
abbrev cX8_areLinked : ByteArray := prog_10_method_14_code
def yX8_areLinked : MethodName := ⟨RX8, "areLinked", "(II)Z"⟩
abbrev cX8_readsLink : ByteArray := prog_10_method_15_code
def yX8_readsLink : MethodName := ⟨RX8, "readsLink", "()V"⟩
abbrev cX8_reads : ByteArray := prog_10_method_16_code
def yX8_reads : MethodName := ⟨RX8, "reads", "()I"⟩
abbrev cX8_tells : ByteArray := prog_10_method_17_code
def yX8_tells : MethodName := ⟨RX8, "tells", "()I"⟩
abbrev cX8_nodesOf : ByteArray := prog_10_method_18_code
def yX8_nodesOf : MethodName := ⟨RX8, "nodesOf", "(I)I"⟩
abbrev cX8_costOf : ByteArray := prog_10_method_19_code
def yX8_costOf : MethodName := ⟨RX8, "costOf", "(I)I"⟩
abbrev cX8_beyond : ByteArray := prog_10_method_20_code
def yX8_beyond : MethodName := ⟨RX8, "beyond", "(II)I"⟩
abbrev cX8_measures : ByteArray := prog_10_method_21_code
def yX8_measures : MethodName := ⟨RX8, "measures", "(I)V"⟩
abbrev cX8_nextLink : ByteArray := prog_10_method_22_code
def yX8_nextLink : MethodName := ⟨RX8, "nextLink", "(I)I"⟩
abbrev cX8_wayOf : ByteArray := prog_10_method_23_code
def yX8_wayOf : MethodName := ⟨RX8, "wayOf", "(I)I"⟩
abbrev cX8_pruned : ByteArray := prog_10_method_24_code
def yX8_pruned : MethodName := ⟨RX8, "pruned", "(I)I"⟩
abbrev cX8_anew : ByteArray := prog_10_method_25_code
def yX8_anew : MethodName := ⟨RX8, "anew", "()I"⟩
abbrev cX8_notes : ByteArray := prog_10_method_26_code
def yX8_notes : MethodName := ⟨RX8, "notes", "()V"⟩
abbrev cX8_markOf : ByteArray := prog_10_method_27_code
def yX8_markOf : MethodName := ⟨RX8, "markOf", "(I)I"⟩
abbrev cX8_bares : ByteArray := prog_10_method_28_code
def yX8_bares : MethodName := ⟨RX8, "bares", "()V"⟩
abbrev cX8_marks : ByteArray := prog_10_method_29_code
def yX8_marks : MethodName := ⟨RX8, "marks", "(I)V"⟩
abbrev cX8_isNode : ByteArray := prog_10_method_30_code
def yX8_isNode : MethodName := ⟨RX8, "isNode", "(I)Z"⟩
abbrev cX8_joins : ByteArray := prog_10_method_31_code
def yX8_joins : MethodName := ⟨RX8, "joins", "(I)I"⟩
abbrev cX8_leaves : ByteArray := prog_10_method_32_code
def yX8_leaves : MethodName := ⟨RX8, "leaves", "(I)I"⟩
abbrev cX8_rearranges : ByteArray := prog_10_method_33_code
def yX8_rearranges : MethodName := ⟨RX8, "rearranges", "()I"⟩
abbrev cX8_isLink : ByteArray := prog_10_method_34_code
def yX8_isLink : MethodName := ⟨RX8, "isLink", "(I)Z"⟩
abbrev cX8_hanging : ByteArray := prog_10_method_35_code
def yX8_hanging : MethodName := ⟨RX8, "hanging", "(I)I"⟩
abbrev cX8_cuts : ByteArray := prog_10_method_36_code
def yX8_cuts : MethodName := ⟨RX8, "cuts", "(I)I"⟩
abbrev cX8_mends : ByteArray := prog_10_method_37_code
def yX8_mends : MethodName := ⟨RX8, "mends", "(I)I"⟩
abbrev cX8_limits : ByteArray := prog_10_method_38_code
def yX8_limits : MethodName := ⟨RX8, "limits", "(I)I"⟩
abbrev cX8_undo : ByteArray := prog_10_method_39_code
def yX8_undo : MethodName := ⟨RX8, "undo", "()I"⟩
abbrev cX8_load : ByteArray := prog_10_method_40_code
def yX8_load : MethodName := ⟨RX8, "load", "(I)I"⟩
abbrev cX8_link : ByteArray := prog_10_method_41_code
def yX8_link : MethodName := ⟨RX8, "link", "(II)I"⟩
abbrev cX8_farOf : ByteArray := prog_10_method_42_code
def yX8_farOf : MethodName := ⟨RX8, "farOf", "(I)I"⟩
abbrev cX8_linksAt : ByteArray := prog_10_method_43_code
def yX8_linksAt : MethodName := ⟨RX8, "linksAt", "(I)I"⟩
abbrev cX8_away : ByteArray := prog_10_method_44_code
def yX8_away : MethodName := ⟨RX8, "away", "(II)I"⟩
abbrev cX8_node : ByteArray := prog_10_method_45_code
def yX8_node : MethodName := ⟨RX8, "node", "(II)I"⟩
abbrev cX8_way : ByteArray := prog_10_method_46_code
def yX8_way : MethodName := ⟨RX8, "way", "(II)I"⟩
abbrev cX8_least : ByteArray := prog_10_method_47_code
def yX8_least : MethodName := ⟨RX8, "least", "()I"⟩
abbrev cX8_busiest : ByteArray := prog_10_method_48_code
def yX8_busiest : MethodName := ⟨RX8, "busiest", "()I"⟩
abbrev cX8_needed : ByteArray := prog_10_method_49_code
def yX8_needed : MethodName := ⟨RX8, "needed", "()I"⟩
abbrev cX8_tree : ByteArray := prog_10_method_50_code
def yX8_tree : MethodName := ⟨RX8, "tree", "(I)I"⟩
abbrev cX8_sees : ByteArray := prog_10_method_51_code
def yX8_sees : MethodName := ⟨RX8, "sees", "(II)I"⟩
abbrev cX8_forget : ByteArray := prog_10_method_52_code
def yX8_forget : MethodName := ⟨RX8, "forget", "()I"⟩
abbrev cX8_which : ByteArray := prog_10_method_53_code
def yX8_which : MethodName := ⟨RX8, "which", "(I)I"⟩
abbrev cX8_keep : ByteArray := prog_10_method_54_code
def yX8_keep : MethodName := ⟨RX8, "keep", "(I)I"⟩
abbrev cX8_back : ByteArray := prog_10_method_55_code
def yX8_back : MethodName := ⟨RX8, "back", "(I)I"⟩
abbrev cX8_count : ByteArray := prog_10_method_56_code
def yX8_count : MethodName := ⟨RX8, "count", "(I)I"⟩
def RJx145de : String := "java/io/Serializable"
def TJx145de : u_T := fun k => match k with
  | _ => ("", "", "", false)
def tyJx145de : Nat → FieldType := fun k => match k with
  | _ => .int
abbrev wsJx145de0 : List Cond := u_ws RJx145de TJx145de 0
theorem nmJx145de : ∀ a, a < 0 → ∀ b, b < 0 → a ≠ b → (TJx145de a).2.1 ≠ (TJx145de b).2.1 := by decide +kernel
theorem tyJx145de_ok : ∀ k, k < 0 → parseFieldDescriptor (TJx145de k).2.2.1 = some (tyJx145de k) := by decide +kernel
def RJx9f9b0 : String := "java/lang/CharSequence"
def TJx9f9b0 : u_T := fun k => match k with
  | _ => ("", "", "", false)
def tyJx9f9b0 : Nat → FieldType := fun k => match k with
  | _ => .int
abbrev wsJx9f9b00 : List Cond := u_ws RJx9f9b0 TJx9f9b0 0
theorem nmJx9f9b0 : ∀ a, a < 0 → ∀ b, b < 0 → a ≠ b → (TJx9f9b0 a).2.1 ≠ (TJx9f9b0 b).2.1 := by decide +kernel
theorem tyJx9f9b0_ok : ∀ k, k < 0 → parseFieldDescriptor (TJx9f9b0 k).2.2.1 = some (tyJx9f9b0 k) := by decide +kernel
def RJxb160c : String := "java/lang/Comparable"
def TJxb160c : u_T := fun k => match k with
  | _ => ("", "", "", false)
def tyJxb160c : Nat → FieldType := fun k => match k with
  | _ => .int
abbrev wsJxb160c0 : List Cond := u_ws RJxb160c TJxb160c 0
theorem nmJxb160c : ∀ a, a < 0 → ∀ b, b < 0 → a ≠ b → (TJxb160c a).2.1 ≠ (TJxb160c b).2.1 := by decide +kernel
theorem tyJxb160c_ok : ∀ k, k < 0 → parseFieldDescriptor (TJxb160c k).2.2.1 = some (tyJxb160c k) := by decide +kernel
def RJ6 : String := "java/lang/Integer"
def TJ6 : u_T := fun k => match k with
  | _ => ("", "", "", false)
def tyJ6 : Nat → FieldType := fun k => match k with
  | _ => .int
abbrev wsJ60 : List Cond := u_ws RJ6 TJ6 0
theorem nmJ6 : ∀ a, a < 0 → ∀ b, b < 0 → a ≠ b → (TJ6 a).2.1 ≠ (TJ6 b).2.1 := by decide +kernel
theorem tyJ6_ok : ∀ k, k < 0 → parseFieldDescriptor (TJ6 k).2.2.1 = some (tyJ6 k) := by decide +kernel
abbrev cJ6_numberOfTrailingZeros_0f7a4 : ByteArray := prog_11_method_48_code
def yJ6_numberOfTrailingZeros_0f7a4 : MethodName := ⟨RJ6, "numberOfTrailingZeros", "(I)I"⟩
abbrev cJ6_bitCount_0f7a4 : ByteArray := prog_11_method_49_code
def yJ6_bitCount_0f7a4 : MethodName := ⟨RJ6, "bitCount", "(I)I"⟩
def RJ9 : String := "java/lang/Math"
def TJ9 : u_T := fun k => match k with
  | _ => ("", "", "", false)
def tyJ9 : Nat → FieldType := fun k => match k with
  | _ => .int
abbrev wsJ90 : List Cond := u_ws RJ9 TJ9 0
theorem nmJ9 : ∀ a, a < 0 → ∀ b, b < 0 → a ≠ b → (TJ9 a).2.1 ≠ (TJ9 b).2.1 := by decide +kernel
theorem tyJ9_ok : ∀ k, k < 0 → parseFieldDescriptor (TJ9 k).2.2.1 = some (tyJ9 k) := by decide +kernel
abbrev cJ9_min_7cf53 : ByteArray := prog_12_method_69_code
def yJ9_min_7cf53 : MethodName := ⟨RJ9, "min", "(II)I"⟩
def RJ0 : String := "java/lang/String"
def TJ0 : u_T := fun k => match k with
  | _ => ("", "", "", false)
def tyJ0 : Nat → FieldType := fun k => match k with
  | _ => .int
abbrev wsJ00 : List Cond := u_ws RJ0 TJ0 0
theorem nmJ0 : ∀ a, a < 0 → ∀ b, b < 0 → a ≠ b → (TJ0 a).2.1 ≠ (TJ0 b).2.1 := by decide +kernel
theorem tyJ0_ok : ∀ k, k < 0 → parseFieldDescriptor (TJ0 k).2.2.1 = some (tyJ0 k) := by decide +kernel
abbrev cJ0_length_8abf5 : ByteArray := prog_13_method_54_code
def yJ0_length_8abf5 : MethodName := ⟨RJ0, "length", "()I"⟩
abbrev cJ0_charAt_5068e : ByteArray := prog_13_method_56_code
def yJ0_charAt_5068e : MethodName := ⟨RJ0, "charAt", "(I)C"⟩
abbrev cJ0_coder_7d493 : ByteArray := prog_13_method_152_code
def yJ0_coder_7d493 : MethodName := ⟨RJ0, "coder", "()B"⟩
abbrev cJ0_isLatin1_aae02 : ByteArray := prog_13_method_154_code
def yJ0_isLatin1_aae02 : MethodName := ⟨RJ0, "isLatin1", "()Z"⟩
abbrev cJ0_checkIndex_df160 : ByteArray := prog_13_method_155_code
def yJ0_checkIndex_df160 : MethodName := ⟨RJ0, "checkIndex", "(II)V"⟩
def RJ1 : String := "java/lang/StringLatin1"
def TJ1 : u_T := fun k => match k with
  | _ => ("", "", "", false)
def tyJ1 : Nat → FieldType := fun k => match k with
  | _ => .int
abbrev wsJ10 : List Cond := u_ws RJ1 TJ1 0
theorem nmJ1 : ∀ a, a < 0 → ∀ b, b < 0 → a ≠ b → (TJ1 a).2.1 ≠ (TJ1 b).2.1 := by decide +kernel
theorem tyJ1_ok : ∀ k, k < 0 → parseFieldDescriptor (TJ1 k).2.2.1 = some (tyJ1 k) := by decide +kernel
abbrev cJ1_charAt_3b067 : ByteArray := prog_14_method_2_code
def yJ1_charAt_3b067 : MethodName := ⟨RJ1, "charAt", "([BI)C"⟩
def RJ2 : String := "java/lang/StringUTF16"
def TJ2 : u_T := fun k => match k with
  | _ => ("", "", "", false)
def tyJ2 : Nat → FieldType := fun k => match k with
  | _ => .int
abbrev wsJ20 : List Cond := u_ws RJ2 TJ2 0
theorem nmJ2 : ∀ a, a < 0 → ∀ b, b < 0 → a ≠ b → (TJ2 a).2.1 ≠ (TJ2 b).2.1 := by decide +kernel
theorem tyJ2_ok : ∀ k, k < 0 → parseFieldDescriptor (TJ2 k).2.2.1 = some (tyJ2 k) := by decide +kernel
abbrev cJ2_getChar_3b067 : ByteArray := prog_15_method_5_code
def yJ2_getChar_3b067 : MethodName := ⟨RJ2, "getChar", "([BI)C"⟩
abbrev cJ2_length_9d52b : ByteArray := prog_15_method_6_code
def yJ2_length_9d52b : MethodName := ⟨RJ2, "length", "([B)I"⟩
abbrev cJ2_charAt_3b067 : ByteArray := prog_15_method_83_code
def yJ2_charAt_3b067 : MethodName := ⟨RJ2, "charAt", "([BI)C"⟩
abbrev cJ2_checkIndex_2214a : ByteArray := prog_15_method_91_code
def yJ2_checkIndex_2214a : MethodName := ⟨RJ2, "checkIndex", "(I[B)V"⟩
def RJ10 : String := "java/lang/System"
def TJ10 : u_T := fun k => match k with
  | _ => ("", "", "", false)
def tyJ10 : Nat → FieldType := fun k => match k with
  | _ => .int
abbrev wsJ100 : List Cond := u_ws RJ10 TJ10 0
theorem nmJ10 : ∀ a, a < 0 → ∀ b, b < 0 → a ≠ b → (TJ10 a).2.1 ≠ (TJ10 b).2.1 := by decide +kernel
theorem tyJ10_ok : ∀ k, k < 0 → parseFieldDescriptor (TJ10 k).2.2.1 = some (tyJ10 k) := by decide +kernel
def RJxfd54e : String := "java/lang/constant/Constable"
def TJxfd54e : u_T := fun k => match k with
  | _ => ("", "", "", false)
def tyJxfd54e : Nat → FieldType := fun k => match k with
  | _ => .int
abbrev wsJxfd54e0 : List Cond := u_ws RJxfd54e TJxfd54e 0
theorem nmJxfd54e : ∀ a, a < 0 → ∀ b, b < 0 → a ≠ b → (TJxfd54e a).2.1 ≠ (TJxfd54e b).2.1 := by decide +kernel
theorem tyJxfd54e_ok : ∀ k, k < 0 → parseFieldDescriptor (TJxfd54e k).2.2.1 = some (tyJxfd54e k) := by decide +kernel
def RJx3cf43 : String := "java/lang/constant/ConstantDesc"
def TJx3cf43 : u_T := fun k => match k with
  | _ => ("", "", "", false)
def tyJx3cf43 : Nat → FieldType := fun k => match k with
  | _ => .int
abbrev wsJx3cf430 : List Cond := u_ws RJx3cf43 TJx3cf43 0
theorem nmJx3cf43 : ∀ a, a < 0 → ∀ b, b < 0 → a ≠ b → (TJx3cf43 a).2.1 ≠ (TJx3cf43 b).2.1 := by decide +kernel
theorem tyJx3cf43_ok : ∀ k, k < 0 → parseFieldDescriptor (TJx3cf43 k).2.2.1 = some (tyJx3cf43 k) := by decide +kernel
def RJ7 : String := "java/util/Arrays"
def TJ7 : u_T := fun k => match k with
  | _ => ("", "", "", false)
def tyJ7 : Nat → FieldType := fun k => match k with
  | _ => .int
abbrev wsJ70 : List Cond := u_ws RJ7 TJ7 0
theorem nmJ7 : ∀ a, a < 0 → ∀ b, b < 0 → a ≠ b → (TJ7 a).2.1 ≠ (TJ7 b).2.1 := by decide +kernel
theorem tyJ7_ok : ∀ k, k < 0 → parseFieldDescriptor (TJ7 k).2.2.1 = some (tyJ7 k) := by decide +kernel
abbrev cJ7_fill_53178 : ByteArray := prog_17_method_103_code
def yJ7_fill_53178 : MethodName := ⟨RJ7, "fill", "([II)V"⟩
def RJ3 : String := "jdk/internal/util/Preconditions"
def TJ3 : u_T := fun k => match k with
  | _ => ("", "", "", false)
def tyJ3 : Nat → FieldType := fun k => match k with
  | _ => .int
abbrev wsJ30 : List Cond := u_ws RJ3 TJ3 0
theorem nmJ3 : ∀ a, a < 0 → ∀ b, b < 0 → a ≠ b → (TJ3 a).2.1 ≠ (TJ3 b).2.1 := by decide +kernel
theorem tyJ3_ok : ∀ k, k < 0 → parseFieldDescriptor (TJ3 k).2.2.1 = some (tyJ3 k) := by decide +kernel
abbrev cJ3_checkIndex_8e157 : ByteArray := prog_18_method_11_code
def yJ3_checkIndex_8e157 : MethodName := ⟨RJ3, "checkIndex", "(IILjava/util/function/BiFunction;)I"⟩
def RL : String := "TalkTreesLaw"
abbrev cL_law : ByteArray := code
def yL_law : MethodName := ⟨RL, "law", "([I)Z"⟩
abbrev vwCl : List vw_C := [(RX0, TX0, 1), (RX2, TX2, 3), (RX3, TX3, 3), (RX4, TX4, 12), (RX5, TX5, 7), (RX6, TX6, 2), (RX7, TX7, 9), (RX8, TX8, 17)]
