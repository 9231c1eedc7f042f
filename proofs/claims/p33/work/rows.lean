section
/-- a private method of a class that the tables say can be made, by its rows of tables_1 -/
def lw_okq (q : MethodName × Nat) : Prop := (q.1.cls ≠ "java/lang/invoke/MethodHandle" ∧ q.1.cls ≠ "java/lang/invoke/VarHandle") ∧ Cond.instantiable q.1.cls q.2 ∈ tables_1 ∧ Cond.privateMethod q.1 ∈ tables_1 ∧ Cond.instanceMethod q.1 ∈ tables_1
def lw_privs : List (MethodName × Nat) := []
def lw_tbl : List Cond := k2_sels lw_privs ++ tables_1
theorem lw_privs_ok : ∀ q ∈ lw_privs, lw_okq q := fun _ h => absurd h List.not_mem_nil

/-! ===== BEGIN words of one list among another's, by their places ===== -/
theorem goodIn_r {big : List Cond} (ws : List Cond) (ps : List Nat) (hp : ws = ps.filterMap (fun i => big[i]?)) (h : ws.all goodWord = true) : GoodIn big ws := by
  intro w hw
  have h1 := List.all_eq_true.mp h w hw
  rw [hp] at hw
  obtain ⟨i, -, hi⟩ := List.mem_filterMap.mp hw
  have hm : w ∈ big := by first | exact List.mem_of_getElem? hi | exact List.getElem?_mem hi
  exact ⟨hm, good_of_word h1⟩
theorem goodIn_app {big a b : List Cond} (ha : GoodIn big a) (hb : GoodIn big b) : GoodIn big (a ++ b) := fun w h => (List.mem_append.mp h).elim (ha w) (hb w)
theorem goodIn_ca {big a b : List Cond} {c : Cond} (ha : GoodIn big (c :: a)) (hb : GoodIn big b) : GoodIn big (c :: (a ++ b)) := fun w h => (List.mem_cons.mp h).elim (fun e => ha w (List.mem_cons.mpr (Or.inl e))) (fun h => (List.mem_append.mp h).elim (fun h => ha w (List.mem_cons.mpr (Or.inr h))) (hb w))
theorem goodIn_sub {big ws : List Cond} (hm : ∀ w ∈ ws, w ∈ big) (h : ws.all goodWord = true) : GoodIn big ws := fun w hw => ⟨hm w hw, good_of_word (List.all_eq_true.mp h w hw)⟩
/-! ===== END ===== -/

/-! ===== BEGIN printed: names, fields, word lists, decode rows ===== -/
def RX0 : String := "BracketTree$Blocks"
def TX0 : u_T := fun k => match k with
  | _ => ("BracketTree$Blocks", "width", "I", false)
def tyX0 : Nat → FieldType := fun k => match k with
  | _ => .int
abbrev wsX00 : List Cond := u_ws RX0 TX0 1
theorem nmX0 : ∀ a, a < 1 → ∀ b, b < 1 → a ≠ b → (TX0 a).2.1 ≠ (TX0 b).2.1 := by decide +kernel
theorem tyX0_ok : ∀ k, k < 1 → parseFieldDescriptor (TX0 k).2.2.1 = some (tyX0 k) := by decide +kernel
abbrev cX0_init : ByteArray := prog_2_method_1_code
def yX0_init : MethodName := ⟨RX0, "<init>", "()V"⟩
abbrev cX0_changeWidth : ByteArray := prog_2_method_2_code
def yX0_changeWidth : MethodName := ⟨RX0, "changeWidth", "(I)I"⟩
abbrev cX0_countFor : ByteArray := prog_2_method_3_code
def yX0_countFor : MethodName := ⟨RX0, "countFor", "(LBracketTree$Tree;)I"⟩
abbrev cX0_startOf : ByteArray := prog_2_method_4_code
def yX0_startOf : MethodName := ⟨RX0, "startOf", "(I)I"⟩
abbrev cX0_endOf : ByteArray := prog_2_method_5_code
def yX0_endOf : MethodName := ⟨RX0, "endOf", "(LBracketTree$Tree;I)I"⟩
abbrev cX0_positionsOf : ByteArray := prog_2_method_6_code
def yX0_positionsOf : MethodName := ⟨RX0, "positionsOf", "(LBracketTree$Tree;I)I"⟩
abbrev cX0_leastExcess : ByteArray := prog_2_method_7_code
def yX0_leastExcess : MethodName := ⟨RX0, "leastExcess", "(LBracketTree$Tree;I)I"⟩
abbrev cX0_greatestExcess : ByteArray := prog_2_method_8_code
def yX0_greatestExcess : MethodName := ⟨RX0, "greatestExcess", "(LBracketTree$Tree;I)I"⟩
def RX1 : String := "BracketTree$History"
def TX1 : u_T := fun k => match k with
  | 0 => ("BracketTree$History", "counts", "[I", true)
  | 1 => ("BracketTree$History", "depths", "[I", true)
  | 2 => ("BracketTree$History", "labels", "[I", true)
  | 3 => ("BracketTree$History", "slot", "I", false)
  | _ => ("BracketTree$History", "kept", "I", false)
def tyX1 : Nat → FieldType := fun k => match k with
  | 0 => .array .int
  | 1 => .array .int
  | 2 => .array .int
  | 3 => .int
  | _ => .int
abbrev wsX10 : List Cond := u_ws RX1 TX1 5
theorem nmX1 : ∀ a, a < 5 → ∀ b, b < 5 → a ≠ b → (TX1 a).2.1 ≠ (TX1 b).2.1 := by decide +kernel
theorem tyX1_ok : ∀ k, k < 5 → parseFieldDescriptor (TX1 k).2.2.1 = some (tyX1 k) := by decide +kernel
abbrev cX1_init : ByteArray := prog_3_method_1_code
def yX1_init : MethodName := ⟨RX1, "<init>", "()V"⟩
abbrev cX1_isBlank : ByteArray := prog_3_method_2_code
def yX1_isBlank : MethodName := ⟨RX1, "isBlank", "()Z"⟩
abbrev cX1_record : ByteArray := prog_3_method_3_code
def yX1_record : MethodName := ⟨RX1, "record", "(LBracketTree$Tree;)V"⟩
abbrev cX1_recall : ByteArray := prog_3_method_4_code
def yX1_recall : MethodName := ⟨RX1, "recall", "(LBracketTree$Tree;)I"⟩
def RX2 : String := "BracketTree$Text"
def TX2 : u_T := fun k => match k with
  | 0 => ("BracketTree$Text", "characters", "[I", true)
  | _ => ("BracketTree$Text", "length", "I", false)
def tyX2 : Nat → FieldType := fun k => match k with
  | 0 => .array .int
  | _ => .int
abbrev wsX20 : List Cond := u_ws RX2 TX2 2
theorem nmX2 : ∀ a, a < 2 → ∀ b, b < 2 → a ≠ b → (TX2 a).2.1 ≠ (TX2 b).2.1 := by decide +kernel
theorem tyX2_ok : ∀ k, k < 2 → parseFieldDescriptor (TX2 k).2.2.1 = some (tyX2 k) := by decide +kernel
abbrev cX2_init : ByteArray := prog_4_method_1_code
def yX2_init : MethodName := ⟨RX2, "<init>", "()V"⟩
abbrev cX2_append : ByteArray := prog_4_method_2_code
def yX2_append : MethodName := ⟨RX2, "append", "(C)I"⟩
abbrev cX2_empty : ByteArray := prog_4_method_3_code
def yX2_empty : MethodName := ⟨RX2, "empty", "()I"⟩
abbrev cX2_findFault : ByteArray := prog_4_method_4_code
def yX2_findFault : MethodName := ⟨RX2, "findFault", "()I"⟩
abbrev cX2_isAllowed : ByteArray := prog_4_method_5_code
def yX2_isAllowed : MethodName := ⟨RX2, "isAllowed", "(III)Z"⟩
abbrev cX2_deeper : ByteArray := prog_4_method_6_code
def yX2_deeper : MethodName := ⟨RX2, "deeper", "(I)I"⟩
abbrev cX2_makeTree : ByteArray := prog_4_method_7_code
def yX2_makeTree : MethodName := ⟨RX2, "makeTree", "(LBracketTree$Tree;)V"⟩
def RX3 : String := "BracketTree$Tree"
def TX3 : u_T := fun k => match k with
  | 0 => ("BracketTree$Tree", "depths", "[I", true)
  | 1 => ("BracketTree$Tree", "labels", "[I", true)
  | 2 => ("BracketTree$Tree", "heldDepths", "[I", true)
  | 3 => ("BracketTree$Tree", "heldLabels", "[I", true)
  | _ => ("BracketTree$Tree", "count", "I", false)
def tyX3 : Nat → FieldType := fun k => match k with
  | 0 => .array .int
  | 1 => .array .int
  | 2 => .array .int
  | 3 => .array .int
  | _ => .int
abbrev wsX30 : List Cond := u_ws RX3 TX3 5
theorem nmX3 : ∀ a, a < 5 → ∀ b, b < 5 → a ≠ b → (TX3 a).2.1 ≠ (TX3 b).2.1 := by decide +kernel
theorem tyX3_ok : ∀ k, k < 5 → parseFieldDescriptor (TX3 k).2.2.1 = some (tyX3 k) := by decide +kernel
abbrev cX3_init : ByteArray := prog_5_method_1_code
def yX3_init : MethodName := ⟨RX3, "<init>", "()V"⟩
abbrev cX3_count : ByteArray := prog_5_method_2_code
def yX3_count : MethodName := ⟨RX3, "count", "()I"⟩
abbrev cX3_has : ByteArray := prog_5_method_3_code
def yX3_has : MethodName := ⟨RX3, "has", "(I)Z"⟩
abbrev cX3_depthOf : ByteArray := prog_5_method_4_code
def yX3_depthOf : MethodName := ⟨RX3, "depthOf", "(I)I"⟩
abbrev cX3_labelOf : ByteArray := prog_5_method_5_code
def yX3_labelOf : MethodName := ⟨RX3, "labelOf", "(I)I"⟩
abbrev cX3_endOf : ByteArray := prog_5_method_6_code
def yX3_endOf : MethodName := ⟨RX3, "endOf", "(I)I"⟩
abbrev cX3_sizeOf : ByteArray := prog_5_method_7_code
def yX3_sizeOf : MethodName := ⟨RX3, "sizeOf", "(I)I"⟩
abbrev cX3_parentOf : ByteArray := prog_5_method_8_code
def yX3_parentOf : MethodName := ⟨RX3, "parentOf", "(I)I"⟩
abbrev cX3_climb : ByteArray := prog_5_method_9_code
def yX3_climb : MethodName := ⟨RX3, "climb", "(II)I"⟩
abbrev cX3_childCount : ByteArray := prog_5_method_10_code
def yX3_childCount : MethodName := ⟨RX3, "childCount", "(I)I"⟩
abbrev cX3_startOfPlace : ByteArray := prog_5_method_11_code
def yX3_startOfPlace : MethodName := ⟨RX3, "startOfPlace", "(II)I"⟩
abbrev cX3_placeOf : ByteArray := prog_5_method_12_code
def yX3_placeOf : MethodName := ⟨RX3, "placeOf", "(I)I"⟩
abbrev cX3_isLeaf : ByteArray := prog_5_method_13_code
def yX3_isLeaf : MethodName := ⟨RX3, "isLeaf", "(I)Z"⟩
abbrev cX3_leafCount : ByteArray := prog_5_method_14_code
def yX3_leafCount : MethodName := ⟨RX3, "leafCount", "(I)I"⟩
abbrev cX3_deepestOf : ByteArray := prog_5_method_15_code
def yX3_deepestOf : MethodName := ⟨RX3, "deepestOf", "(I)I"⟩
abbrev cX3_postorderOf : ByteArray := prog_5_method_16_code
def yX3_postorderOf : MethodName := ⟨RX3, "postorderOf", "(I)I"⟩
abbrev cX3_findByPostorder : ByteArray := prog_5_method_17_code
def yX3_findByPostorder : MethodName := ⟨RX3, "findByPostorder", "(I)I"⟩
abbrev cX3_meetingOf : ByteArray := prog_5_method_18_code
def yX3_meetingOf : MethodName := ⟨RX3, "meetingOf", "(II)I"⟩
abbrev cX3_nextSibling : ByteArray := prog_5_method_19_code
def yX3_nextSibling : MethodName := ⟨RX3, "nextSibling", "(I)I"⟩
abbrev cX3_previousSibling : ByteArray := prog_5_method_20_code
def yX3_previousSibling : MethodName := ⟨RX3, "previousSibling", "(I)I"⟩
abbrev cX3_nextAtDepth : ByteArray := prog_5_method_21_code
def yX3_nextAtDepth : MethodName := ⟨RX3, "nextAtDepth", "(I)I"⟩
abbrev cX3_previousAtDepth : ByteArray := prog_5_method_22_code
def yX3_previousAtDepth : MethodName := ⟨RX3, "previousAtDepth", "(I)I"⟩
abbrev cX3_nextLeaf : ByteArray := prog_5_method_23_code
def yX3_nextLeaf : MethodName := ⟨RX3, "nextLeaf", "(I)I"⟩
abbrev cX3_largestChild : ByteArray := prog_5_method_24_code
def yX3_largestChild : MethodName := ⟨RX3, "largestChild", "(I)I"⟩
abbrev cX3_countAtDepth : ByteArray := prog_5_method_25_code
def yX3_countAtDepth : MethodName := ⟨RX3, "countAtDepth", "(I)I"⟩
abbrev cX3_findAtDepth : ByteArray := prog_5_method_26_code
def yX3_findAtDepth : MethodName := ⟨RX3, "findAtDepth", "(II)I"⟩
abbrev cX3_positionCount : ByteArray := prog_5_method_27_code
def yX3_positionCount : MethodName := ⟨RX3, "positionCount", "()I"⟩
abbrev cX3_openingOf : ByteArray := prog_5_method_28_code
def yX3_openingOf : MethodName := ⟨RX3, "openingOf", "(I)I"⟩
abbrev cX3_closingOf : ByteArray := prog_5_method_29_code
def yX3_closingOf : MethodName := ⟨RX3, "closingOf", "(I)I"⟩
abbrev cX3_openedBefore : ByteArray := prog_5_method_30_code
def yX3_openedBefore : MethodName := ⟨RX3, "openedBefore", "(I)I"⟩
abbrev cX3_excessBefore : ByteArray := prog_5_method_31_code
def yX3_excessBefore : MethodName := ⟨RX3, "excessBefore", "(I)I"⟩
abbrev cX3_opensAt : ByteArray := prog_5_method_32_code
def yX3_opensAt : MethodName := ⟨RX3, "opensAt", "(II)I"⟩
abbrev cX3_nodeOfPosition : ByteArray := prog_5_method_33_code
def yX3_nodeOfPosition : MethodName := ⟨RX3, "nodeOfPosition", "(I)I"⟩
abbrev cX3_countLabel : ByteArray := prog_5_method_34_code
def yX3_countLabel : MethodName := ⟨RX3, "countLabel", "(II)I"⟩
abbrev cX3_findLabel : ByteArray := prog_5_method_35_code
def yX3_findLabel : MethodName := ⟨RX3, "findLabel", "(III)I"⟩
abbrev cX3_findAncestor : ByteArray := prog_5_method_36_code
def yX3_findAncestor : MethodName := ⟨RX3, "findAncestor", "(II)I"⟩
abbrev cX3_sameSubtrees : ByteArray := prog_5_method_37_code
def yX3_sameSubtrees : MethodName := ⟨RX3, "sameSubtrees", "(II)Z"⟩
abbrev cX3_countEqual : ByteArray := prog_5_method_38_code
def yX3_countEqual : MethodName := ⟨RX3, "countEqual", "(I)I"⟩
abbrev cX3_signsBehind : ByteArray := prog_5_method_39_code
def yX3_signsBehind : MethodName := ⟨RX3, "signsBehind", "(I)I"⟩
abbrev cX3_writtenLength : ByteArray := prog_5_method_40_code
def yX3_writtenLength : MethodName := ⟨RX3, "writtenLength", "()I"⟩
abbrev cX3_writtenAt : ByteArray := prog_5_method_41_code
def yX3_writtenAt : MethodName := ⟨RX3, "writtenAt", "(I)I"⟩
abbrev cX3_empty : ByteArray := prog_5_method_42_code
def yX3_empty : MethodName := ⟨RX3, "empty", "()V"⟩
abbrev cX3_append : ByteArray := prog_5_method_43_code
def yX3_append : MethodName := ⟨RX3, "append", "(II)V"⟩
abbrev cX3_putNode : ByteArray := prog_5_method_44_code
def yX3_putNode : MethodName := ⟨RX3, "putNode", "(III)V"⟩
abbrev cX3_openGap : ByteArray := prog_5_method_45_code
def yX3_openGap : MethodName := ⟨RX3, "openGap", "(II)V"⟩
abbrev cX3_closeGap : ByteArray := prog_5_method_46_code
def yX3_closeGap : MethodName := ⟨RX3, "closeGap", "(II)V"⟩
abbrev cX3_sink : ByteArray := prog_5_method_47_code
def yX3_sink : MethodName := ⟨RX3, "sink", "(III)V"⟩
abbrev cX3_wrapChildren : ByteArray := prog_5_method_48_code
def yX3_wrapChildren : MethodName := ⟨RX3, "wrapChildren", "(IIII)I"⟩
abbrev cX3_dissolve : ByteArray := prog_5_method_49_code
def yX3_dissolve : MethodName := ⟨RX3, "dissolve", "(I)V"⟩
abbrev cX3_transplant : ByteArray := prog_5_method_50_code
def yX3_transplant : MethodName := ⟨RX3, "transplant", "(III)I"⟩
abbrev cX3_hold : ByteArray := prog_5_method_51_code
def yX3_hold : MethodName := ⟨RX3, "hold", "(II)V"⟩
abbrev cX3_release : ByteArray := prog_5_method_52_code
def yX3_release : MethodName := ⟨RX3, "release", "(III)V"⟩
def RX4 : String := "BracketTree"
def TX4 : u_T := fun k => match k with
  | 0 => ("BracketTree", "tree", "LBracketTree$Tree;", true)
  | 1 => ("BracketTree", "blocks", "LBracketTree$Blocks;", true)
  | 2 => ("BracketTree", "history", "LBracketTree$History;", true)
  | _ => ("BracketTree", "text", "LBracketTree$Text;", true)
def tyX4 : Nat → FieldType := fun k => match k with
  | 0 => .object "BracketTree$Tree"
  | 1 => .object "BracketTree$Blocks"
  | 2 => .object "BracketTree$History"
  | _ => .object "BracketTree$Text"
abbrev wsX40 : List Cond := u_ws RX4 TX4 4
theorem nmX4 : ∀ a, a < 4 → ∀ b, b < 4 → a ≠ b → (TX4 a).2.1 ≠ (TX4 b).2.1 := by decide +kernel
theorem tyX4_ok : ∀ k, k < 4 → parseFieldDescriptor (TX4 k).2.2.1 = some (tyX4 k) := by decide +kernel
abbrev cX4_init : ByteArray := prog_1_method_1_code
def yX4_init : MethodName := ⟨RX4, "<init>", "()V"⟩
abbrev cX4_type : ByteArray := prog_1_method_2_code
def yX4_type : MethodName := ⟨RX4, "type", "(C)I"⟩
abbrev cX4_clearText : ByteArray := prog_1_method_3_code
def yX4_clearText : MethodName := ⟨RX4, "clearText", "()I"⟩
abbrev cX4_read : ByteArray := prog_1_method_4_code
def yX4_read : MethodName := ⟨RX4, "read", "()I"⟩
abbrev cX4_written : ByteArray := prog_1_method_5_code
def yX4_written : MethodName := ⟨RX4, "written", "(I)I"⟩
abbrev cX4_size : ByteArray := prog_1_method_6_code
def yX4_size : MethodName := ⟨RX4, "size", "()I"⟩
abbrev cX4_node : ByteArray := prog_1_method_7_code
def yX4_node : MethodName := ⟨RX4, "node", "(II)I"⟩
abbrev cX4_child : ByteArray := prog_1_method_8_code
def yX4_child : MethodName := ⟨RX4, "child", "(II)I"⟩
abbrev cX4_neighbour : ByteArray := prog_1_method_9_code
def yX4_neighbour : MethodName := ⟨RX4, "neighbour", "(II)I"⟩
abbrev cX4_ancestorAt : ByteArray := prog_1_method_10_code
def yX4_ancestorAt : MethodName := ⟨RX4, "ancestorAt", "(II)I"⟩
abbrev cX4_common : ByteArray := prog_1_method_11_code
def yX4_common : MethodName := ⟨RX4, "common", "(II)I"⟩
abbrev cX4_way : ByteArray := prog_1_method_12_code
def yX4_way : MethodName := ⟨RX4, "way", "(III)I"⟩
abbrev cX4_level : ByteArray := prog_1_method_13_code
def yX4_level : MethodName := ⟨RX4, "level", "(II)I"⟩
abbrev cX4_byPostorder : ByteArray := prog_1_method_14_code
def yX4_byPostorder : MethodName := ⟨RX4, "byPostorder", "(I)I"⟩
abbrev cX4_deepest : ByteArray := prog_1_method_15_code
def yX4_deepest : MethodName := ⟨RX4, "deepest", "(I)I"⟩
abbrev cX4_bracket : ByteArray := prog_1_method_16_code
def yX4_bracket : MethodName := ⟨RX4, "bracket", "(II)I"⟩
abbrev cX4_setWidth : ByteArray := prog_1_method_17_code
def yX4_setWidth : MethodName := ⟨RX4, "setWidth", "(I)I"⟩
abbrev cX4_block : ByteArray := prog_1_method_18_code
def yX4_block : MethodName := ⟨RX4, "block", "(II)I"⟩
abbrev cX4_space : ByteArray := prog_1_method_19_code
def yX4_space : MethodName := ⟨RX4, "space", "(I)I"⟩
abbrev cX4_setLabel : ByteArray := prog_1_method_20_code
def yX4_setLabel : MethodName := ⟨RX4, "setLabel", "(IC)I"⟩
abbrev cX4_labelled : ByteArray := prog_1_method_21_code
def yX4_labelled : MethodName := ⟨RX4, "labelled", "(IC)I"⟩
abbrev cX4_select : ByteArray := prog_1_method_22_code
def yX4_select : MethodName := ⟨RX4, "select", "(ICI)I"⟩
abbrev cX4_ancestorWith : ByteArray := prog_1_method_23_code
def yX4_ancestorWith : MethodName := ⟨RX4, "ancestorWith", "(IC)I"⟩
abbrev cX4_areEqual : ByteArray := prog_1_method_24_code
def yX4_areEqual : MethodName := ⟨RX4, "areEqual", "(II)I"⟩
abbrev cX4_copies : ByteArray := prog_1_method_25_code
def yX4_copies : MethodName := ⟨RX4, "copies", "(I)I"⟩
abbrev cX4_insert : ByteArray := prog_1_method_26_code
def yX4_insert : MethodName := ⟨RX4, "insert", "(IIC)I"⟩
abbrev cX4_wrap : ByteArray := prog_1_method_27_code
def yX4_wrap : MethodName := ⟨RX4, "wrap", "(IIIC)I"⟩
abbrev cX4_remove : ByteArray := prog_1_method_28_code
def yX4_remove : MethodName := ⟨RX4, "remove", "(I)I"⟩
abbrev cX4_cut : ByteArray := prog_1_method_29_code
def yX4_cut : MethodName := ⟨RX4, "cut", "(I)I"⟩
abbrev cX4_move : ByteArray := prog_1_method_30_code
def yX4_move : MethodName := ⟨RX4, "move", "(III)I"⟩
abbrev cX4_undo : ByteArray := prog_1_method_31_code
def yX4_undo : MethodName := ⟨RX4, "undo", "()I"⟩
abbrev cX4_isLetter : ByteArray := prog_1_method_32_code
def yX4_isLetter : MethodName := ⟨RX4, "isLetter", "(I)Z"⟩
abbrev cX4_binaryDigits : ByteArray := prog_1_method_33_code
def yX4_binaryDigits : MethodName := ⟨RX4, "binaryDigits", "(I)I"⟩
abbrev cX4_get : ByteArray := prog_1_method_34_code
def yX4_get : MethodName := ⟨RX4, "get", "([II)I"⟩
abbrev cX4_put : ByteArray := prog_1_method_35_code
def yX4_put : MethodName := ⟨RX4, "put", "([III)V"⟩
def RX5 : String := "BracketTreeModel"
def TX5 : u_T := fun k => match k with
  | _ => ("", "", "", false)
def tyX5 : Nat → FieldType := fun k => match k with
  | _ => .int
abbrev wsX50 : List Cond := u_ws RX5 TX5 0
theorem nmX5 : ∀ a, a < 0 → ∀ b, b < 0 → a ≠ b → (TX5 a).2.1 ≠ (TX5 b).2.1 := by decide +kernel
theorem tyX5_ok : ∀ k, k < 0 → parseFieldDescriptor (TX5 k).2.2.1 = some (tyX5 k) := by decide +kernel
def RJ9 : String := "java/lang/Math"
def TJ9 : u_T := fun k => match k with
  | _ => ("", "", "", false)
def tyJ9 : Nat → FieldType := fun k => match k with
  | _ => .int
abbrev wsJ90 : List Cond := u_ws RJ9 TJ9 0
theorem nmJ9 : ∀ a, a < 0 → ∀ b, b < 0 → a ≠ b → (TJ9 a).2.1 ≠ (TJ9 b).2.1 := by decide +kernel
theorem tyJ9_ok : ∀ k, k < 0 → parseFieldDescriptor (TJ9 k).2.2.1 = some (tyJ9 k) := by decide +kernel
abbrev cJ9_max_7cf53 : ByteArray := prog_8_method_65_code
def yJ9_max_7cf53 : MethodName := ⟨RJ9, "max", "(II)I"⟩
abbrev cJ9_min_7cf53 : ByteArray := prog_8_method_69_code
def yJ9_min_7cf53 : MethodName := ⟨RJ9, "min", "(II)I"⟩
def RL : String := "BracketTreeLaw"
abbrev cL_cell : ByteArray := method_2_code
def yL_cell : MethodName := ⟨RL, "cell", "([II)I"⟩
abbrev cL_low : ByteArray := method_3_code
def yL_low : MethodName := ⟨RL, "low", "(II)I"⟩
abbrev cL_node : ByteArray := method_4_code
def yL_node : MethodName := ⟨RL, "node", "(LBracketTree;I)Z"⟩
abbrev cL_two : ByteArray := method_5_code
def yL_two : MethodName := ⟨RL, "two", "(LBracketTree;II)Z"⟩
abbrev cL_labels : ByteArray := method_6_code
def yL_labels : MethodName := ⟨RL, "labels", "(LBracketTree;II)Z"⟩
abbrev cL_blocks : ByteArray := method_7_code
def yL_blocks : MethodName := ⟨RL, "blocks", "(LBracketTree;I)Z"⟩
abbrev cL_print : ByteArray := method_8_code
def yL_print : MethodName := ⟨RL, "print", "(LBracketTree;)J"⟩
abbrev cL_texts : ByteArray := method_9_code
def yL_texts : MethodName := ⟨RL, "texts", "(LBracketTree;I)Z"⟩
abbrev cL_edits : ByteArray := method_10_code
def yL_edits : MethodName := ⟨RL, "edits", "(LBracketTree;IIII)I"⟩
abbrev cL_errors : ByteArray := method_11_code
def yL_errors : MethodName := ⟨RL, "errors", "(LBracketTree;)Z"⟩
abbrev cL_law : ByteArray := code
def yL_law : MethodName := ⟨RL, "law", "([I)Z"⟩
def wsX0_init : List Cond := .code yX0_init cX0_init 1 none :: ([.methodLink RX0 3 objectInit, .instanceMethod objectInit, .code objectInit ⟨#[0xb1]⟩ 1 none, .fieldLink RX0 9 "BracketTree$Blocks" "width" "I"] ++ wsX00)
def wsX0_changeWidth : List Cond := .code yX0_changeWidth cX0_changeWidth 3 (some .int) :: ([.fieldLink RX0 9 "BracketTree$Blocks" "width" "I"] ++ wsX00)
def wsX3_positionCount : List Cond := .code yX3_positionCount cX3_positionCount 1 (some .int) :: ([.fieldLink RX3 28 "BracketTree$Tree" "count" "I"] ++ wsX30)
def wsX0_countFor : List Cond := .code yX0_countFor cX0_countFor 3 (some .int) :: ([.fieldLink RX0 9 "BracketTree$Blocks" "width" "I", .methodLink RX0 15 Lib.Math.max.name, .static Lib.Math.max.name, .initialized "java/lang/Math", .code Lib.Math.max.name Lib.Math.max.code 2 (some .int), .methodLink RX0 21 yX3_positionCount, .instanceMethod yX3_positionCount, .selects RX3 yX3_positionCount yX3_positionCount, .initialized RX3, .code yX3_positionCount cX3_positionCount 1 (some .int), .fieldLink RX3 28 "BracketTree$Tree" "count" "I"] ++ wsX00 ++ wsX30)
def wsX0_startOf : List Cond := .code yX0_startOf cX0_startOf 2 (some .int) :: ([.fieldLink RX0 9 "BracketTree$Blocks" "width" "I"] ++ wsX00)
def wsX0_endOf : List Cond := .code yX0_endOf cX0_endOf 3 (some .int) :: ([.fieldLink RX0 9 "BracketTree$Blocks" "width" "I", .methodLink RX0 31 Lib.Math.min.name, .static Lib.Math.min.name, .initialized "java/lang/Math", .code Lib.Math.min.name Lib.Math.min.code 2 (some .int), .methodLink RX0 27 yX0_startOf, .instanceMethod yX0_startOf, .selects RX0 yX0_startOf yX0_startOf, .initialized RX0, .code yX0_startOf cX0_startOf 2 (some .int), .methodLink RX0 21 yX3_positionCount, .instanceMethod yX3_positionCount, .selects RX3 yX3_positionCount yX3_positionCount, .initialized RX3, .code yX3_positionCount cX3_positionCount 1 (some .int), .fieldLink RX3 28 "BracketTree$Tree" "count" "I"] ++ wsX00 ++ wsX30)
def wsX0_positionsOf : List Cond := .code yX0_positionsOf cX0_positionsOf 3 (some .int) :: ([.methodLink RX0 34 yX0_endOf, .instanceMethod yX0_endOf, .selects RX0 yX0_endOf yX0_endOf, .initialized RX0, .code yX0_endOf cX0_endOf 3 (some .int), .fieldLink RX0 9 "BracketTree$Blocks" "width" "I", .methodLink RX0 31 Lib.Math.min.name, .static Lib.Math.min.name, .initialized "java/lang/Math", .code Lib.Math.min.name Lib.Math.min.code 2 (some .int), .methodLink RX0 27 yX0_startOf, .instanceMethod yX0_startOf, .selects RX0 yX0_startOf yX0_startOf, .code yX0_startOf cX0_startOf 2 (some .int), .methodLink RX0 21 yX3_positionCount, .instanceMethod yX3_positionCount, .selects RX3 yX3_positionCount yX3_positionCount, .initialized RX3, .code yX3_positionCount cX3_positionCount 1 (some .int), .fieldLink RX3 28 "BracketTree$Tree" "count" "I"] ++ wsX00 ++ wsX30)
def wsX3_has : List Cond := .code yX3_has cX3_has 2 (some .boolean) :: ([.fieldLink RX3 28 "BracketTree$Tree" "count" "I"] ++ wsX30)
def wsX4_get : List Cond := .code yX4_get cX4_get 2 (some .int) :: ([])
def wsX3_depthOf : List Cond := .code yX3_depthOf cX3_depthOf 2 (some .int) :: ([.fieldLink RX3 9 "BracketTree$Tree" "depths" "[I", .methodLink RX3 32 yX3_has, .instanceMethod yX3_has, .selects RX3 yX3_has yX3_has, .initialized RX3, .code yX3_has cX3_has 2 (some .boolean), .fieldLink RX3 28 "BracketTree$Tree" "count" "I", .static yX4_get, .initialized RX4, .code yX4_get cX4_get 2 (some .int)] ++ wsX30)
def wsX3_openingOf : List Cond := .code yX3_openingOf cX3_openingOf 2 (some .int) :: ([.methodLink RX3 40 yX3_depthOf, .instanceMethod yX3_depthOf, .selects RX3 yX3_depthOf yX3_depthOf, .initialized RX3, .code yX3_depthOf cX3_depthOf 2 (some .int), .fieldLink RX3 9 "BracketTree$Tree" "depths" "[I", .methodLink RX3 32 yX3_has, .instanceMethod yX3_has, .selects RX3 yX3_has yX3_has, .code yX3_has cX3_has 2 (some .boolean), .fieldLink RX3 28 "BracketTree$Tree" "count" "I", .static yX4_get, .initialized RX4, .code yX4_get cX4_get 2 (some .int)] ++ wsX30)
def wsX3_openedBefore : List Cond := .code yX3_openedBefore cX3_openedBefore 3 (some .int) :: ([.fieldLink RX3 28 "BracketTree$Tree" "count" "I", .methodLink RX3 74 yX3_openingOf, .instanceMethod yX3_openingOf, .selects RX3 yX3_openingOf yX3_openingOf, .initialized RX3, .code yX3_openingOf cX3_openingOf 2 (some .int), .methodLink RX3 40 yX3_depthOf, .instanceMethod yX3_depthOf, .selects RX3 yX3_depthOf yX3_depthOf, .code yX3_depthOf cX3_depthOf 2 (some .int), .fieldLink RX3 9 "BracketTree$Tree" "depths" "[I", .methodLink RX3 32 yX3_has, .instanceMethod yX3_has, .selects RX3 yX3_has yX3_has, .code yX3_has cX3_has 2 (some .boolean), .static yX4_get, .initialized RX4, .code yX4_get cX4_get 2 (some .int)] ++ wsX30)
def wsX3_opensAt : List Cond := .code yX3_opensAt cX3_opensAt 3 (some .int) :: ([.methodLink RX3 32 yX3_has, .instanceMethod yX3_has, .selects RX3 yX3_has yX3_has, .initialized RX3, .code yX3_has cX3_has 2 (some .boolean), .fieldLink RX3 28 "BracketTree$Tree" "count" "I", .methodLink RX3 74 yX3_openingOf, .instanceMethod yX3_openingOf, .selects RX3 yX3_openingOf yX3_openingOf, .code yX3_openingOf cX3_openingOf 2 (some .int), .methodLink RX3 40 yX3_depthOf, .instanceMethod yX3_depthOf, .selects RX3 yX3_depthOf yX3_depthOf, .code yX3_depthOf cX3_depthOf 2 (some .int), .fieldLink RX3 9 "BracketTree$Tree" "depths" "[I", .static yX4_get, .initialized RX4, .code yX4_get cX4_get 2 (some .int)] ++ wsX30)
def wsX0_leastExcess_r1 : List Cond := [Cond.methodLink RX0 31 Lib.Math.min.name, Cond.static Lib.Math.min.name, Cond.initialized "java/lang/Math", Cond.code Lib.Math.min.name Lib.Math.min.code 2 (some .int), Cond.methodLink RX0 34 yX0_endOf, Cond.instanceMethod yX0_endOf, Cond.selects RX0 yX0_endOf yX0_endOf, Cond.initialized RX0, Cond.code yX0_endOf cX0_endOf 3 (some .int), Cond.fieldLink RX0 9 "BracketTree$Blocks" "width" "I", Cond.methodLink RX0 27 yX0_startOf, Cond.instanceMethod yX0_startOf, Cond.selects RX0 yX0_startOf yX0_startOf, Cond.code yX0_startOf cX0_startOf 2 (some .int), Cond.methodLink RX0 21 yX3_positionCount, Cond.instanceMethod yX3_positionCount, Cond.selects RX3 yX3_positionCount yX3_positionCount, Cond.initialized RX3, Cond.code yX3_positionCount cX3_positionCount 1 (some .int), Cond.fieldLink RX3 28 "BracketTree$Tree" "count" "I", Cond.methodLink RX0 38 yX3_openedBefore, Cond.instanceMethod yX3_openedBefore, Cond.selects RX3 yX3_openedBefore yX3_openedBefore, Cond.code yX3_openedBefore cX3_openedBefore 3 (some .int)]
def wsX0_leastExcess_r2 : List Cond := [Cond.methodLink RX3 74 yX3_openingOf, Cond.instanceMethod yX3_openingOf, Cond.selects RX3 yX3_openingOf yX3_openingOf, Cond.code yX3_openingOf cX3_openingOf 2 (some .int), Cond.methodLink RX3 40 yX3_depthOf, Cond.instanceMethod yX3_depthOf, Cond.selects RX3 yX3_depthOf yX3_depthOf, Cond.code yX3_depthOf cX3_depthOf 2 (some .int), Cond.fieldLink RX3 9 "BracketTree$Tree" "depths" "[I", Cond.methodLink RX3 32 yX3_has, Cond.instanceMethod yX3_has, Cond.selects RX3 yX3_has yX3_has, Cond.code yX3_has cX3_has 2 (some .boolean), Cond.static yX4_get, Cond.initialized RX4, Cond.code yX4_get cX4_get 2 (some .int), Cond.methodLink RX0 41 yX3_opensAt, Cond.instanceMethod yX3_opensAt, Cond.selects RX3 yX3_opensAt yX3_opensAt, Cond.code yX3_opensAt cX3_opensAt 3 (some .int)]
def wsX0_leastExcess : List Cond := .code yX0_leastExcess cX0_leastExcess 7 (some .int) :: ((wsX0_leastExcess_r1 ++ wsX0_leastExcess_r2) ++ wsX00 ++ wsX30)
def wsX0_greatestExcess_r1 : List Cond := [Cond.methodLink RX0 15 Lib.Math.max.name, Cond.static Lib.Math.max.name, Cond.initialized "java/lang/Math", Cond.code Lib.Math.max.name Lib.Math.max.code 2 (some .int), Cond.methodLink RX0 34 yX0_endOf, Cond.instanceMethod yX0_endOf, Cond.selects RX0 yX0_endOf yX0_endOf, Cond.initialized RX0, Cond.code yX0_endOf cX0_endOf 3 (some .int), Cond.fieldLink RX0 9 "BracketTree$Blocks" "width" "I", Cond.methodLink RX0 31 Lib.Math.min.name, Cond.static Lib.Math.min.name, Cond.code Lib.Math.min.name Lib.Math.min.code 2 (some .int), Cond.methodLink RX0 27 yX0_startOf, Cond.instanceMethod yX0_startOf, Cond.selects RX0 yX0_startOf yX0_startOf, Cond.code yX0_startOf cX0_startOf 2 (some .int), Cond.methodLink RX0 21 yX3_positionCount, Cond.instanceMethod yX3_positionCount, Cond.selects RX3 yX3_positionCount yX3_positionCount, Cond.initialized RX3, Cond.code yX3_positionCount cX3_positionCount 1 (some .int), Cond.fieldLink RX3 28 "BracketTree$Tree" "count" "I", Cond.methodLink RX0 38 yX3_openedBefore]
def wsX0_greatestExcess_r2 : List Cond := [Cond.instanceMethod yX3_openedBefore, Cond.selects RX3 yX3_openedBefore yX3_openedBefore, Cond.code yX3_openedBefore cX3_openedBefore 3 (some .int), Cond.methodLink RX3 74 yX3_openingOf, Cond.instanceMethod yX3_openingOf, Cond.selects RX3 yX3_openingOf yX3_openingOf, Cond.code yX3_openingOf cX3_openingOf 2 (some .int), Cond.methodLink RX3 40 yX3_depthOf, Cond.instanceMethod yX3_depthOf, Cond.selects RX3 yX3_depthOf yX3_depthOf, Cond.code yX3_depthOf cX3_depthOf 2 (some .int), Cond.fieldLink RX3 9 "BracketTree$Tree" "depths" "[I", Cond.methodLink RX3 32 yX3_has, Cond.instanceMethod yX3_has, Cond.selects RX3 yX3_has yX3_has, Cond.code yX3_has cX3_has 2 (some .boolean), Cond.static yX4_get, Cond.initialized RX4, Cond.code yX4_get cX4_get 2 (some .int), Cond.methodLink RX0 41 yX3_opensAt, Cond.instanceMethod yX3_opensAt, Cond.selects RX3 yX3_opensAt yX3_opensAt, Cond.code yX3_opensAt cX3_opensAt 3 (some .int)]
def wsX0_greatestExcess : List Cond := .code yX0_greatestExcess cX0_greatestExcess 7 (some .int) :: ((wsX0_greatestExcess_r1 ++ wsX0_greatestExcess_r2) ++ wsX00 ++ wsX30)
def wsX1_init : List Cond := .code yX1_init cX1_init 1 none :: ([.methodLink RX1 3 objectInit, .instanceMethod objectInit, .code objectInit ⟨#[0xb1]⟩ 1 none, .arrayClass .int, .fieldLink RX1 9 "BracketTree$History" "counts" "[I", .fieldLink RX1 15 "BracketTree$History" "depths" "[I", .fieldLink RX1 18 "BracketTree$History" "labels" "[I"] ++ wsX10)
def wsX1_isBlank : List Cond := .code yX1_isBlank cX1_isBlank 1 (some .boolean) :: ([.fieldLink RX1 21 "BracketTree$History" "kept" "I"] ++ wsX10)
def wsX3_count : List Cond := .code yX3_count cX3_count 1 (some .int) :: ([.fieldLink RX3 28 "BracketTree$Tree" "count" "I"] ++ wsX30)
def wsX4_put : List Cond := .code yX4_put cX4_put 3 none :: ([])
def wsX3_labelOf : List Cond := .code yX3_labelOf cX3_labelOf 2 (some .int) :: ([.fieldLink RX3 15 "BracketTree$Tree" "labels" "[I", .static yX4_get, .initialized RX4, .code yX4_get cX4_get 2 (some .int)] ++ wsX30)
def wsX1_record_r1 : List Cond := [Cond.fieldLink RX1 25 "BracketTree$History" "slot" "I", Cond.fieldLink RX1 9 "BracketTree$History" "counts" "[I", Cond.fieldLink RX1 15 "BracketTree$History" "depths" "[I", Cond.fieldLink RX1 18 "BracketTree$History" "labels" "[I", Cond.fieldLink RX1 21 "BracketTree$History" "kept" "I", Cond.methodLink RX1 45 Lib.Math.min.name, Cond.static Lib.Math.min.name, Cond.initialized "java/lang/Math", Cond.code Lib.Math.min.name Lib.Math.min.code 2 (some .int), Cond.methodLink RX1 28 yX3_count, Cond.instanceMethod yX3_count, Cond.selects RX3 yX3_count yX3_count, Cond.initialized RX3, Cond.code yX3_count cX3_count 1 (some .int), Cond.fieldLink RX3 28 "BracketTree$Tree" "count" "I", Cond.static yX4_put, Cond.initialized RX4, Cond.code yX4_put cX4_put 3 none, Cond.methodLink RX1 38 yX3_depthOf, Cond.instanceMethod yX3_depthOf, Cond.selects RX3 yX3_depthOf yX3_depthOf, Cond.code yX3_depthOf cX3_depthOf 2 (some .int), Cond.fieldLink RX3 9 "BracketTree$Tree" "depths" "[I", Cond.methodLink RX3 32 yX3_has]
def wsX1_record_r2 : List Cond := [Cond.instanceMethod yX3_has, Cond.selects RX3 yX3_has yX3_has, Cond.code yX3_has cX3_has 2 (some .boolean), Cond.static yX4_get, Cond.code yX4_get cX4_get 2 (some .int), Cond.methodLink RX1 42 yX3_labelOf, Cond.instanceMethod yX3_labelOf, Cond.selects RX3 yX3_labelOf yX3_labelOf, Cond.code yX3_labelOf cX3_labelOf 2 (some .int), Cond.fieldLink RX3 15 "BracketTree$Tree" "labels" "[I"]
def wsX1_record : List Cond := .code yX1_record cX1_record 4 none :: ((wsX1_record_r1 ++ wsX1_record_r2) ++ wsX10 ++ wsX30)
def wsX3_empty : List Cond := .code yX3_empty cX3_empty 1 none :: ([.fieldLink RX3 28 "BracketTree$Tree" "count" "I"] ++ wsX30)
def wsX3_putNode : List Cond := .code yX3_putNode cX3_putNode 4 none :: ([.fieldLink RX3 9 "BracketTree$Tree" "depths" "[I", .fieldLink RX3 15 "BracketTree$Tree" "labels" "[I", .static yX4_put, .initialized RX4, .code yX4_put cX4_put 3 none] ++ wsX30)
def wsX3_append : List Cond := .code yX3_append cX3_append 3 none :: ([.fieldLink RX3 28 "BracketTree$Tree" "count" "I", .methodLink RX3 93 yX3_putNode, .instanceMethod yX3_putNode, .selects RX3 yX3_putNode yX3_putNode, .initialized RX3, .code yX3_putNode cX3_putNode 4 none, .fieldLink RX3 9 "BracketTree$Tree" "depths" "[I", .fieldLink RX3 15 "BracketTree$Tree" "labels" "[I", .static yX4_put, .initialized RX4, .code yX4_put cX4_put 3 none] ++ wsX30)
def wsX1_recall_r1 : List Cond := [Cond.fieldLink RX1 25 "BracketTree$History" "slot" "I", Cond.fieldLink RX1 21 "BracketTree$History" "kept" "I", Cond.methodLink RX1 51 Lib.Math.max.name, Cond.static Lib.Math.max.name, Cond.initialized "java/lang/Math", Cond.code Lib.Math.max.name Lib.Math.max.code 2 (some .int), Cond.fieldLink RX1 9 "BracketTree$History" "counts" "[I", Cond.fieldLink RX1 15 "BracketTree$History" "depths" "[I", Cond.fieldLink RX1 18 "BracketTree$History" "labels" "[I", Cond.static yX4_get, Cond.initialized RX4, Cond.code yX4_get cX4_get 2 (some .int), Cond.methodLink RX1 58 yX3_empty, Cond.instanceMethod yX3_empty, Cond.selects RX3 yX3_empty yX3_empty, Cond.initialized RX3, Cond.code yX3_empty cX3_empty 1 none, Cond.fieldLink RX3 28 "BracketTree$Tree" "count" "I", Cond.methodLink RX1 61 yX3_append, Cond.instanceMethod yX3_append, Cond.selects RX3 yX3_append yX3_append, Cond.code yX3_append cX3_append 3 none, Cond.methodLink RX3 93 yX3_putNode, Cond.instanceMethod yX3_putNode]
def wsX1_recall_r2 : List Cond := [Cond.selects RX3 yX3_putNode yX3_putNode, Cond.code yX3_putNode cX3_putNode 4 none, Cond.fieldLink RX3 9 "BracketTree$Tree" "depths" "[I", Cond.fieldLink RX3 15 "BracketTree$Tree" "labels" "[I", Cond.static yX4_put, Cond.code yX4_put cX4_put 3 none]
def wsX1_recall : List Cond := .code yX1_recall cX1_recall 5 (some .int) :: ((wsX1_recall_r1 ++ wsX1_recall_r2) ++ wsX10 ++ wsX30)
def wsX2_init : List Cond := .code yX2_init cX2_init 1 none :: ([.methodLink RX2 3 objectInit, .instanceMethod objectInit, .code objectInit ⟨#[0xb1]⟩ 1 none, .arrayClass .int, .fieldLink RX2 9 "BracketTree$Text" "characters" "[I"] ++ wsX20)
def wsX2_append : List Cond := .code yX2_append cX2_append 2 (some .int) :: ([.fieldLink RX2 15 "BracketTree$Text" "length" "I", .fieldLink RX2 9 "BracketTree$Text" "characters" "[I", .static yX4_put, .initialized RX4, .code yX4_put cX4_put 3 none] ++ wsX20)
def wsX2_empty : List Cond := .code yX2_empty cX2_empty 2 (some .int) :: ([.fieldLink RX2 15 "BracketTree$Text" "length" "I"] ++ wsX20)
def wsX4_isLetter : List Cond := .code yX4_isLetter cX4_isLetter 1 (some .boolean) :: ([])
def wsX2_isAllowed : List Cond := .code yX2_isAllowed cX2_isAllowed 6 (some .boolean) :: ([.fieldLink RX2 9 "BracketTree$Text" "characters" "[I", .static yX4_get, .initialized RX4, .code yX4_get cX4_get 2 (some .int), .static yX4_isLetter, .code yX4_isLetter cX4_isLetter 1 (some .boolean)] ++ wsX20)
def wsX2_deeper : List Cond := .code yX2_deeper cX2_deeper 3 (some .int) :: ([.fieldLink RX2 9 "BracketTree$Text" "characters" "[I", .static yX4_get, .initialized RX4, .code yX4_get cX4_get 2 (some .int)] ++ wsX20)
def wsX2_findFault : List Cond := .code yX2_findFault cX2_findFault 4 (some .int) :: ([.fieldLink RX2 15 "BracketTree$Text" "length" "I", .fieldLink RX2 9 "BracketTree$Text" "characters" "[I", .methodLink RX2 23 yX2_isAllowed, .instanceMethod yX2_isAllowed, .selects RX2 yX2_isAllowed yX2_isAllowed, .initialized RX2, .code yX2_isAllowed cX2_isAllowed 6 (some .boolean), .static yX4_get, .initialized RX4, .code yX4_get cX4_get 2 (some .int), .static yX4_isLetter, .code yX4_isLetter cX4_isLetter 1 (some .boolean), .methodLink RX2 27 yX2_deeper, .instanceMethod yX2_deeper, .selects RX2 yX2_deeper yX2_deeper, .code yX2_deeper cX2_deeper 3 (some .int)] ++ wsX20)
def wsX2_makeTree_r1 : List Cond := [Cond.fieldLink RX2 15 "BracketTree$Text" "length" "I", Cond.fieldLink RX2 9 "BracketTree$Text" "characters" "[I", Cond.methodLink RX2 39 yX3_empty, Cond.instanceMethod yX3_empty, Cond.selects RX3 yX3_empty yX3_empty, Cond.initialized RX3, Cond.code yX3_empty cX3_empty 1 none, Cond.fieldLink RX3 28 "BracketTree$Tree" "count" "I", Cond.static yX4_get, Cond.initialized RX4, Cond.code yX4_get cX4_get 2 (some .int), Cond.static yX4_isLetter, Cond.code yX4_isLetter cX4_isLetter 1 (some .boolean), Cond.methodLink RX2 44 yX3_append, Cond.instanceMethod yX3_append, Cond.selects RX3 yX3_append yX3_append, Cond.code yX3_append cX3_append 3 none, Cond.methodLink RX3 93 yX3_putNode, Cond.instanceMethod yX3_putNode, Cond.selects RX3 yX3_putNode yX3_putNode, Cond.code yX3_putNode cX3_putNode 4 none, Cond.fieldLink RX3 9 "BracketTree$Tree" "depths" "[I", Cond.fieldLink RX3 15 "BracketTree$Tree" "labels" "[I", Cond.static yX4_put]
def wsX2_makeTree_r2 : List Cond := [Cond.code yX4_put cX4_put 3 none, Cond.methodLink RX2 27 yX2_deeper, Cond.instanceMethod yX2_deeper, Cond.selects RX2 yX2_deeper yX2_deeper, Cond.initialized RX2, Cond.code yX2_deeper cX2_deeper 3 (some .int)]
def wsX2_makeTree : List Cond := .code yX2_makeTree cX2_makeTree 4 none :: ((wsX2_makeTree_r1 ++ wsX2_makeTree_r2) ++ wsX20 ++ wsX30)
def wsX3_init : List Cond := .code yX3_init cX3_init 1 none :: ([.methodLink RX3 3 objectInit, .instanceMethod objectInit, .code objectInit ⟨#[0xb1]⟩ 1 none, .arrayClass .int, .fieldLink RX3 9 "BracketTree$Tree" "depths" "[I", .fieldLink RX3 15 "BracketTree$Tree" "labels" "[I", .fieldLink RX3 18 "BracketTree$Tree" "heldDepths" "[I", .fieldLink RX3 21 "BracketTree$Tree" "heldLabels" "[I", .fieldLink RX3 28 "BracketTree$Tree" "count" "I", .static yX4_put, .initialized RX4, .code yX4_put cX4_put 3 none] ++ wsX30)
def wsX3_endOf : List Cond := .code yX3_endOf cX3_endOf 4 (some .int) :: ([.fieldLink RX3 28 "BracketTree$Tree" "count" "I", .methodLink RX3 40 yX3_depthOf, .instanceMethod yX3_depthOf, .selects RX3 yX3_depthOf yX3_depthOf, .initialized RX3, .code yX3_depthOf cX3_depthOf 2 (some .int), .fieldLink RX3 9 "BracketTree$Tree" "depths" "[I", .methodLink RX3 32 yX3_has, .instanceMethod yX3_has, .selects RX3 yX3_has yX3_has, .code yX3_has cX3_has 2 (some .boolean), .static yX4_get, .initialized RX4, .code yX4_get cX4_get 2 (some .int)] ++ wsX30)
def wsX3_sizeOf : List Cond := .code yX3_sizeOf cX3_sizeOf 2 (some .int) :: ([.methodLink RX3 44 yX3_endOf, .instanceMethod yX3_endOf, .selects RX3 yX3_endOf yX3_endOf, .initialized RX3, .code yX3_endOf cX3_endOf 4 (some .int), .fieldLink RX3 28 "BracketTree$Tree" "count" "I", .methodLink RX3 40 yX3_depthOf, .instanceMethod yX3_depthOf, .selects RX3 yX3_depthOf yX3_depthOf, .code yX3_depthOf cX3_depthOf 2 (some .int), .fieldLink RX3 9 "BracketTree$Tree" "depths" "[I", .methodLink RX3 32 yX3_has, .instanceMethod yX3_has, .selects RX3 yX3_has yX3_has, .code yX3_has cX3_has 2 (some .boolean), .static yX4_get, .initialized RX4, .code yX4_get cX4_get 2 (some .int)] ++ wsX30)
def wsX3_climb : List Cond := .code yX3_climb cX3_climb 4 (some .int) :: ([.methodLink RX3 40 yX3_depthOf, .instanceMethod yX3_depthOf, .selects RX3 yX3_depthOf yX3_depthOf, .initialized RX3, .code yX3_depthOf cX3_depthOf 2 (some .int), .fieldLink RX3 9 "BracketTree$Tree" "depths" "[I", .methodLink RX3 32 yX3_has, .instanceMethod yX3_has, .selects RX3 yX3_has yX3_has, .code yX3_has cX3_has 2 (some .boolean), .fieldLink RX3 28 "BracketTree$Tree" "count" "I", .static yX4_get, .initialized RX4, .code yX4_get cX4_get 2 (some .int)] ++ wsX30)
def wsX3_parentOf : List Cond := .code yX3_parentOf cX3_parentOf 2 (some .int) :: ([.methodLink RX3 40 yX3_depthOf, .instanceMethod yX3_depthOf, .selects RX3 yX3_depthOf yX3_depthOf, .initialized RX3, .code yX3_depthOf cX3_depthOf 2 (some .int), .fieldLink RX3 9 "BracketTree$Tree" "depths" "[I", .methodLink RX3 32 yX3_has, .instanceMethod yX3_has, .selects RX3 yX3_has yX3_has, .code yX3_has cX3_has 2 (some .boolean), .fieldLink RX3 28 "BracketTree$Tree" "count" "I", .static yX4_get, .initialized RX4, .code yX4_get cX4_get 2 (some .int), .methodLink RX3 47 yX3_climb, .instanceMethod yX3_climb, .selects RX3 yX3_climb yX3_climb, .code yX3_climb cX3_climb 4 (some .int)] ++ wsX30)
def wsX3_childCount : List Cond := .code yX3_childCount cX3_childCount 5 (some .int) :: ([.methodLink RX3 44 yX3_endOf, .instanceMethod yX3_endOf, .selects RX3 yX3_endOf yX3_endOf, .initialized RX3, .code yX3_endOf cX3_endOf 4 (some .int), .fieldLink RX3 28 "BracketTree$Tree" "count" "I", .methodLink RX3 40 yX3_depthOf, .instanceMethod yX3_depthOf, .selects RX3 yX3_depthOf yX3_depthOf, .code yX3_depthOf cX3_depthOf 2 (some .int), .fieldLink RX3 9 "BracketTree$Tree" "depths" "[I", .methodLink RX3 32 yX3_has, .instanceMethod yX3_has, .selects RX3 yX3_has yX3_has, .code yX3_has cX3_has 2 (some .boolean), .static yX4_get, .initialized RX4, .code yX4_get cX4_get 2 (some .int)] ++ wsX30)
def wsX3_startOfPlace : List Cond := .code yX3_startOfPlace cX3_startOfPlace 6 (some .int) :: ([.methodLink RX3 44 yX3_endOf, .instanceMethod yX3_endOf, .selects RX3 yX3_endOf yX3_endOf, .initialized RX3, .code yX3_endOf cX3_endOf 4 (some .int), .fieldLink RX3 28 "BracketTree$Tree" "count" "I", .methodLink RX3 40 yX3_depthOf, .instanceMethod yX3_depthOf, .selects RX3 yX3_depthOf yX3_depthOf, .code yX3_depthOf cX3_depthOf 2 (some .int), .fieldLink RX3 9 "BracketTree$Tree" "depths" "[I", .methodLink RX3 32 yX3_has, .instanceMethod yX3_has, .selects RX3 yX3_has yX3_has, .code yX3_has cX3_has 2 (some .boolean), .static yX4_get, .initialized RX4, .code yX4_get cX4_get 2 (some .int)] ++ wsX30)
def wsX3_placeOf : List Cond := .code yX3_placeOf cX3_placeOf 5 (some .int) :: ([.methodLink RX3 40 yX3_depthOf, .instanceMethod yX3_depthOf, .selects RX3 yX3_depthOf yX3_depthOf, .initialized RX3, .code yX3_depthOf cX3_depthOf 2 (some .int), .fieldLink RX3 9 "BracketTree$Tree" "depths" "[I", .methodLink RX3 32 yX3_has, .instanceMethod yX3_has, .selects RX3 yX3_has yX3_has, .code yX3_has cX3_has 2 (some .boolean), .fieldLink RX3 28 "BracketTree$Tree" "count" "I", .static yX4_get, .initialized RX4, .code yX4_get cX4_get 2 (some .int)] ++ wsX30)
def wsX3_isLeaf : List Cond := .code yX3_isLeaf cX3_isLeaf 2 (some .boolean) :: ([.methodLink RX3 40 yX3_depthOf, .instanceMethod yX3_depthOf, .selects RX3 yX3_depthOf yX3_depthOf, .initialized RX3, .code yX3_depthOf cX3_depthOf 2 (some .int), .fieldLink RX3 9 "BracketTree$Tree" "depths" "[I", .methodLink RX3 32 yX3_has, .instanceMethod yX3_has, .selects RX3 yX3_has yX3_has, .code yX3_has cX3_has 2 (some .boolean), .fieldLink RX3 28 "BracketTree$Tree" "count" "I", .static yX4_get, .initialized RX4, .code yX4_get cX4_get 2 (some .int)] ++ wsX30)
def wsX3_leafCount : List Cond := .code yX3_leafCount cX3_leafCount 5 (some .int) :: ([.methodLink RX3 44 yX3_endOf, .instanceMethod yX3_endOf, .selects RX3 yX3_endOf yX3_endOf, .initialized RX3, .code yX3_endOf cX3_endOf 4 (some .int), .fieldLink RX3 28 "BracketTree$Tree" "count" "I", .methodLink RX3 40 yX3_depthOf, .instanceMethod yX3_depthOf, .selects RX3 yX3_depthOf yX3_depthOf, .code yX3_depthOf cX3_depthOf 2 (some .int), .fieldLink RX3 9 "BracketTree$Tree" "depths" "[I", .methodLink RX3 32 yX3_has, .instanceMethod yX3_has, .selects RX3 yX3_has yX3_has, .code yX3_has cX3_has 2 (some .boolean), .static yX4_get, .initialized RX4, .code yX4_get cX4_get 2 (some .int), .methodLink RX3 51 yX3_isLeaf, .instanceMethod yX3_isLeaf, .selects RX3 yX3_isLeaf yX3_isLeaf, .code yX3_isLeaf cX3_isLeaf 2 (some .boolean)] ++ wsX30)
def wsX3_deepestOf : List Cond := .code yX3_deepestOf cX3_deepestOf 5 (some .int) :: ([.methodLink RX3 44 yX3_endOf, .instanceMethod yX3_endOf, .selects RX3 yX3_endOf yX3_endOf, .initialized RX3, .code yX3_endOf cX3_endOf 4 (some .int), .fieldLink RX3 28 "BracketTree$Tree" "count" "I", .methodLink RX3 40 yX3_depthOf, .instanceMethod yX3_depthOf, .selects RX3 yX3_depthOf yX3_depthOf, .code yX3_depthOf cX3_depthOf 2 (some .int), .fieldLink RX3 9 "BracketTree$Tree" "depths" "[I", .methodLink RX3 32 yX3_has, .instanceMethod yX3_has, .selects RX3 yX3_has yX3_has, .code yX3_has cX3_has 2 (some .boolean), .static yX4_get, .initialized RX4, .code yX4_get cX4_get 2 (some .int)] ++ wsX30)
def wsX3_postorderOf : List Cond := .code yX3_postorderOf cX3_postorderOf 2 (some .int) :: ([.methodLink RX3 44 yX3_endOf, .instanceMethod yX3_endOf, .selects RX3 yX3_endOf yX3_endOf, .initialized RX3, .code yX3_endOf cX3_endOf 4 (some .int), .fieldLink RX3 28 "BracketTree$Tree" "count" "I", .methodLink RX3 40 yX3_depthOf, .instanceMethod yX3_depthOf, .selects RX3 yX3_depthOf yX3_depthOf, .code yX3_depthOf cX3_depthOf 2 (some .int), .fieldLink RX3 9 "BracketTree$Tree" "depths" "[I", .methodLink RX3 32 yX3_has, .instanceMethod yX3_has, .selects RX3 yX3_has yX3_has, .code yX3_has cX3_has 2 (some .boolean), .static yX4_get, .initialized RX4, .code yX4_get cX4_get 2 (some .int)] ++ wsX30)
def wsX3_findByPostorder : List Cond := .code yX3_findByPostorder cX3_findByPostorder 3 (some .int) :: ([.fieldLink RX3 28 "BracketTree$Tree" "count" "I", .methodLink RX3 54 yX3_postorderOf, .instanceMethod yX3_postorderOf, .selects RX3 yX3_postorderOf yX3_postorderOf, .initialized RX3, .code yX3_postorderOf cX3_postorderOf 2 (some .int), .methodLink RX3 44 yX3_endOf, .instanceMethod yX3_endOf, .selects RX3 yX3_endOf yX3_endOf, .code yX3_endOf cX3_endOf 4 (some .int), .methodLink RX3 40 yX3_depthOf, .instanceMethod yX3_depthOf, .selects RX3 yX3_depthOf yX3_depthOf, .code yX3_depthOf cX3_depthOf 2 (some .int), .fieldLink RX3 9 "BracketTree$Tree" "depths" "[I", .methodLink RX3 32 yX3_has, .instanceMethod yX3_has, .selects RX3 yX3_has yX3_has, .code yX3_has cX3_has 2 (some .boolean), .static yX4_get, .initialized RX4, .code yX4_get cX4_get 2 (some .int)] ++ wsX30)
def wsX3_meetingOf_r1 : List Cond := [Cond.methodLink RX3 57 Lib.Math.min.name, Cond.static Lib.Math.min.name, Cond.initialized "java/lang/Math", Cond.code Lib.Math.min.name Lib.Math.min.code 2 (some .int), Cond.methodLink RX3 62 Lib.Math.max.name, Cond.static Lib.Math.max.name, Cond.code Lib.Math.max.name Lib.Math.max.code 2 (some .int), Cond.methodLink RX3 40 yX3_depthOf, Cond.instanceMethod yX3_depthOf, Cond.selects RX3 yX3_depthOf yX3_depthOf, Cond.initialized RX3, Cond.code yX3_depthOf cX3_depthOf 2 (some .int), Cond.fieldLink RX3 9 "BracketTree$Tree" "depths" "[I", Cond.methodLink RX3 32 yX3_has, Cond.instanceMethod yX3_has, Cond.selects RX3 yX3_has yX3_has, Cond.code yX3_has cX3_has 2 (some .boolean), Cond.fieldLink RX3 28 "BracketTree$Tree" "count" "I", Cond.static yX4_get, Cond.initialized RX4, Cond.code yX4_get cX4_get 2 (some .int), Cond.methodLink RX3 47 yX3_climb, Cond.instanceMethod yX3_climb, Cond.selects RX3 yX3_climb yX3_climb]
def wsX3_meetingOf_r2 : List Cond := [Cond.code yX3_climb cX3_climb 4 (some .int)]
def wsX3_meetingOf : List Cond := .code yX3_meetingOf cX3_meetingOf 7 (some .int) :: ((wsX3_meetingOf_r1 ++ wsX3_meetingOf_r2) ++ wsX30)
def wsX3_nextSibling : List Cond := .code yX3_nextSibling cX3_nextSibling 3 (some .int) :: ([.methodLink RX3 44 yX3_endOf, .instanceMethod yX3_endOf, .selects RX3 yX3_endOf yX3_endOf, .initialized RX3, .code yX3_endOf cX3_endOf 4 (some .int), .fieldLink RX3 28 "BracketTree$Tree" "count" "I", .methodLink RX3 40 yX3_depthOf, .instanceMethod yX3_depthOf, .selects RX3 yX3_depthOf yX3_depthOf, .code yX3_depthOf cX3_depthOf 2 (some .int), .fieldLink RX3 9 "BracketTree$Tree" "depths" "[I", .methodLink RX3 32 yX3_has, .instanceMethod yX3_has, .selects RX3 yX3_has yX3_has, .code yX3_has cX3_has 2 (some .boolean), .static yX4_get, .initialized RX4, .code yX4_get cX4_get 2 (some .int)] ++ wsX30)
def wsX3_previousAtDepth : List Cond := .code yX3_previousAtDepth cX3_previousAtDepth 2 (some .int) :: ([.methodLink RX3 40 yX3_depthOf, .instanceMethod yX3_depthOf, .selects RX3 yX3_depthOf yX3_depthOf, .initialized RX3, .code yX3_depthOf cX3_depthOf 2 (some .int), .fieldLink RX3 9 "BracketTree$Tree" "depths" "[I", .methodLink RX3 32 yX3_has, .instanceMethod yX3_has, .selects RX3 yX3_has yX3_has, .code yX3_has cX3_has 2 (some .boolean), .fieldLink RX3 28 "BracketTree$Tree" "count" "I", .static yX4_get, .initialized RX4, .code yX4_get cX4_get 2 (some .int), .methodLink RX3 47 yX3_climb, .instanceMethod yX3_climb, .selects RX3 yX3_climb yX3_climb, .code yX3_climb cX3_climb 4 (some .int)] ++ wsX30)
def wsX3_previousSibling_r1 : List Cond := [Cond.methodLink RX3 65 yX3_placeOf, Cond.instanceMethod yX3_placeOf, Cond.selects RX3 yX3_placeOf yX3_placeOf, Cond.initialized RX3, Cond.code yX3_placeOf cX3_placeOf 5 (some .int), Cond.methodLink RX3 40 yX3_depthOf, Cond.instanceMethod yX3_depthOf, Cond.selects RX3 yX3_depthOf yX3_depthOf, Cond.code yX3_depthOf cX3_depthOf 2 (some .int), Cond.fieldLink RX3 9 "BracketTree$Tree" "depths" "[I", Cond.methodLink RX3 32 yX3_has, Cond.instanceMethod yX3_has, Cond.selects RX3 yX3_has yX3_has, Cond.code yX3_has cX3_has 2 (some .boolean), Cond.fieldLink RX3 28 "BracketTree$Tree" "count" "I", Cond.static yX4_get, Cond.initialized RX4, Cond.code yX4_get cX4_get 2 (some .int), Cond.methodLink RX3 68 yX3_previousAtDepth, Cond.instanceMethod yX3_previousAtDepth, Cond.selects RX3 yX3_previousAtDepth yX3_previousAtDepth, Cond.code yX3_previousAtDepth cX3_previousAtDepth 2 (some .int), Cond.methodLink RX3 47 yX3_climb, Cond.instanceMethod yX3_climb]
def wsX3_previousSibling_r2 : List Cond := [Cond.selects RX3 yX3_climb yX3_climb, Cond.code yX3_climb cX3_climb 4 (some .int)]
def wsX3_previousSibling : List Cond := .code yX3_previousSibling cX3_previousSibling 2 (some .int) :: ((wsX3_previousSibling_r1 ++ wsX3_previousSibling_r2) ++ wsX30)
def wsX3_nextAtDepth : List Cond := .code yX3_nextAtDepth cX3_nextAtDepth 3 (some .int) :: ([.fieldLink RX3 28 "BracketTree$Tree" "count" "I", .methodLink RX3 40 yX3_depthOf, .instanceMethod yX3_depthOf, .selects RX3 yX3_depthOf yX3_depthOf, .initialized RX3, .code yX3_depthOf cX3_depthOf 2 (some .int), .fieldLink RX3 9 "BracketTree$Tree" "depths" "[I", .methodLink RX3 32 yX3_has, .instanceMethod yX3_has, .selects RX3 yX3_has yX3_has, .code yX3_has cX3_has 2 (some .boolean), .static yX4_get, .initialized RX4, .code yX4_get cX4_get 2 (some .int)] ++ wsX30)
def wsX3_nextLeaf : List Cond := .code yX3_nextLeaf cX3_nextLeaf 3 (some .int) :: ([.fieldLink RX3 28 "BracketTree$Tree" "count" "I", .methodLink RX3 51 yX3_isLeaf, .instanceMethod yX3_isLeaf, .selects RX3 yX3_isLeaf yX3_isLeaf, .initialized RX3, .code yX3_isLeaf cX3_isLeaf 2 (some .boolean), .methodLink RX3 40 yX3_depthOf, .instanceMethod yX3_depthOf, .selects RX3 yX3_depthOf yX3_depthOf, .code yX3_depthOf cX3_depthOf 2 (some .int), .fieldLink RX3 9 "BracketTree$Tree" "depths" "[I", .methodLink RX3 32 yX3_has, .instanceMethod yX3_has, .selects RX3 yX3_has yX3_has, .code yX3_has cX3_has 2 (some .boolean), .static yX4_get, .initialized RX4, .code yX4_get cX4_get 2 (some .int)] ++ wsX30)
def wsX3_largestChild : List Cond := .code yX3_largestChild cX3_largestChild 6 (some .int) :: ([.methodLink RX3 44 yX3_endOf, .instanceMethod yX3_endOf, .selects RX3 yX3_endOf yX3_endOf, .initialized RX3, .code yX3_endOf cX3_endOf 4 (some .int), .fieldLink RX3 28 "BracketTree$Tree" "count" "I", .methodLink RX3 40 yX3_depthOf, .instanceMethod yX3_depthOf, .selects RX3 yX3_depthOf yX3_depthOf, .code yX3_depthOf cX3_depthOf 2 (some .int), .fieldLink RX3 9 "BracketTree$Tree" "depths" "[I", .methodLink RX3 32 yX3_has, .instanceMethod yX3_has, .selects RX3 yX3_has yX3_has, .code yX3_has cX3_has 2 (some .boolean), .static yX4_get, .initialized RX4, .code yX4_get cX4_get 2 (some .int), .methodLink RX3 71 yX3_sizeOf, .instanceMethod yX3_sizeOf, .selects RX3 yX3_sizeOf yX3_sizeOf, .code yX3_sizeOf cX3_sizeOf 2 (some .int)] ++ wsX30)
def wsX3_countAtDepth : List Cond := .code yX3_countAtDepth cX3_countAtDepth 4 (some .int) :: ([.fieldLink RX3 28 "BracketTree$Tree" "count" "I", .methodLink RX3 40 yX3_depthOf, .instanceMethod yX3_depthOf, .selects RX3 yX3_depthOf yX3_depthOf, .initialized RX3, .code yX3_depthOf cX3_depthOf 2 (some .int), .fieldLink RX3 9 "BracketTree$Tree" "depths" "[I", .methodLink RX3 32 yX3_has, .instanceMethod yX3_has, .selects RX3 yX3_has yX3_has, .code yX3_has cX3_has 2 (some .boolean), .static yX4_get, .initialized RX4, .code yX4_get cX4_get 2 (some .int)] ++ wsX30)
def wsX3_findAtDepth : List Cond := .code yX3_findAtDepth cX3_findAtDepth 5 (some .int) :: ([.fieldLink RX3 28 "BracketTree$Tree" "count" "I", .methodLink RX3 40 yX3_depthOf, .instanceMethod yX3_depthOf, .selects RX3 yX3_depthOf yX3_depthOf, .initialized RX3, .code yX3_depthOf cX3_depthOf 2 (some .int), .fieldLink RX3 9 "BracketTree$Tree" "depths" "[I", .methodLink RX3 32 yX3_has, .instanceMethod yX3_has, .selects RX3 yX3_has yX3_has, .code yX3_has cX3_has 2 (some .boolean), .static yX4_get, .initialized RX4, .code yX4_get cX4_get 2 (some .int)] ++ wsX30)
def wsX3_closingOf_r1 : List Cond := [Cond.methodLink RX3 74 yX3_openingOf, Cond.instanceMethod yX3_openingOf, Cond.selects RX3 yX3_openingOf yX3_openingOf, Cond.initialized RX3, Cond.code yX3_openingOf cX3_openingOf 2 (some .int), Cond.methodLink RX3 40 yX3_depthOf, Cond.instanceMethod yX3_depthOf, Cond.selects RX3 yX3_depthOf yX3_depthOf, Cond.code yX3_depthOf cX3_depthOf 2 (some .int), Cond.fieldLink RX3 9 "BracketTree$Tree" "depths" "[I", Cond.methodLink RX3 32 yX3_has, Cond.instanceMethod yX3_has, Cond.selects RX3 yX3_has yX3_has, Cond.code yX3_has cX3_has 2 (some .boolean), Cond.fieldLink RX3 28 "BracketTree$Tree" "count" "I", Cond.static yX4_get, Cond.initialized RX4, Cond.code yX4_get cX4_get 2 (some .int), Cond.methodLink RX3 71 yX3_sizeOf, Cond.instanceMethod yX3_sizeOf, Cond.selects RX3 yX3_sizeOf yX3_sizeOf, Cond.code yX3_sizeOf cX3_sizeOf 2 (some .int), Cond.methodLink RX3 44 yX3_endOf, Cond.instanceMethod yX3_endOf]
def wsX3_closingOf_r2 : List Cond := [Cond.selects RX3 yX3_endOf yX3_endOf, Cond.code yX3_endOf cX3_endOf 4 (some .int)]
def wsX3_closingOf : List Cond := .code yX3_closingOf cX3_closingOf 2 (some .int) :: ((wsX3_closingOf_r1 ++ wsX3_closingOf_r2) ++ wsX30)
def wsX3_excessBefore : List Cond := .code yX3_excessBefore cX3_excessBefore 2 (some .int) :: ([.methodLink RX3 77 yX3_openedBefore, .instanceMethod yX3_openedBefore, .selects RX3 yX3_openedBefore yX3_openedBefore, .initialized RX3, .code yX3_openedBefore cX3_openedBefore 3 (some .int), .fieldLink RX3 28 "BracketTree$Tree" "count" "I", .methodLink RX3 74 yX3_openingOf, .instanceMethod yX3_openingOf, .selects RX3 yX3_openingOf yX3_openingOf, .code yX3_openingOf cX3_openingOf 2 (some .int), .methodLink RX3 40 yX3_depthOf, .instanceMethod yX3_depthOf, .selects RX3 yX3_depthOf yX3_depthOf, .code yX3_depthOf cX3_depthOf 2 (some .int), .fieldLink RX3 9 "BracketTree$Tree" "depths" "[I", .methodLink RX3 32 yX3_has, .instanceMethod yX3_has, .selects RX3 yX3_has yX3_has, .code yX3_has cX3_has 2 (some .boolean), .static yX4_get, .initialized RX4, .code yX4_get cX4_get 2 (some .int)] ++ wsX30)
def wsX3_nodeOfPosition_r1 : List Cond := [Cond.methodLink RX3 77 yX3_openedBefore, Cond.instanceMethod yX3_openedBefore, Cond.selects RX3 yX3_openedBefore yX3_openedBefore, Cond.initialized RX3, Cond.code yX3_openedBefore cX3_openedBefore 3 (some .int), Cond.fieldLink RX3 28 "BracketTree$Tree" "count" "I", Cond.methodLink RX3 74 yX3_openingOf, Cond.instanceMethod yX3_openingOf, Cond.selects RX3 yX3_openingOf yX3_openingOf, Cond.code yX3_openingOf cX3_openingOf 2 (some .int), Cond.methodLink RX3 40 yX3_depthOf, Cond.instanceMethod yX3_depthOf, Cond.selects RX3 yX3_depthOf yX3_depthOf, Cond.code yX3_depthOf cX3_depthOf 2 (some .int), Cond.fieldLink RX3 9 "BracketTree$Tree" "depths" "[I", Cond.methodLink RX3 32 yX3_has, Cond.instanceMethod yX3_has, Cond.selects RX3 yX3_has yX3_has, Cond.code yX3_has cX3_has 2 (some .boolean), Cond.static yX4_get, Cond.initialized RX4, Cond.code yX4_get cX4_get 2 (some .int), Cond.methodLink RX3 80 yX3_excessBefore, Cond.instanceMethod yX3_excessBefore]
def wsX3_nodeOfPosition_r2 : List Cond := [Cond.selects RX3 yX3_excessBefore yX3_excessBefore, Cond.code yX3_excessBefore cX3_excessBefore 2 (some .int), Cond.methodLink RX3 47 yX3_climb, Cond.instanceMethod yX3_climb, Cond.selects RX3 yX3_climb yX3_climb, Cond.code yX3_climb cX3_climb 4 (some .int)]
def wsX3_nodeOfPosition : List Cond := .code yX3_nodeOfPosition cX3_nodeOfPosition 3 (some .int) :: ((wsX3_nodeOfPosition_r1 ++ wsX3_nodeOfPosition_r2) ++ wsX30)
def wsX3_countLabel : List Cond := .code yX3_countLabel cX3_countLabel 6 (some .int) :: ([.methodLink RX3 44 yX3_endOf, .instanceMethod yX3_endOf, .selects RX3 yX3_endOf yX3_endOf, .initialized RX3, .code yX3_endOf cX3_endOf 4 (some .int), .fieldLink RX3 28 "BracketTree$Tree" "count" "I", .methodLink RX3 40 yX3_depthOf, .instanceMethod yX3_depthOf, .selects RX3 yX3_depthOf yX3_depthOf, .code yX3_depthOf cX3_depthOf 2 (some .int), .fieldLink RX3 9 "BracketTree$Tree" "depths" "[I", .methodLink RX3 32 yX3_has, .instanceMethod yX3_has, .selects RX3 yX3_has yX3_has, .code yX3_has cX3_has 2 (some .boolean), .static yX4_get, .initialized RX4, .code yX4_get cX4_get 2 (some .int), .methodLink RX3 83 yX3_labelOf, .instanceMethod yX3_labelOf, .selects RX3 yX3_labelOf yX3_labelOf, .code yX3_labelOf cX3_labelOf 2 (some .int), .fieldLink RX3 15 "BracketTree$Tree" "labels" "[I"] ++ wsX30)
def wsX3_findLabel : List Cond := .code yX3_findLabel cX3_findLabel 7 (some .int) :: ([.methodLink RX3 44 yX3_endOf, .instanceMethod yX3_endOf, .selects RX3 yX3_endOf yX3_endOf, .initialized RX3, .code yX3_endOf cX3_endOf 4 (some .int), .fieldLink RX3 28 "BracketTree$Tree" "count" "I", .methodLink RX3 40 yX3_depthOf, .instanceMethod yX3_depthOf, .selects RX3 yX3_depthOf yX3_depthOf, .code yX3_depthOf cX3_depthOf 2 (some .int), .fieldLink RX3 9 "BracketTree$Tree" "depths" "[I", .methodLink RX3 32 yX3_has, .instanceMethod yX3_has, .selects RX3 yX3_has yX3_has, .code yX3_has cX3_has 2 (some .boolean), .static yX4_get, .initialized RX4, .code yX4_get cX4_get 2 (some .int), .methodLink RX3 83 yX3_labelOf, .instanceMethod yX3_labelOf, .selects RX3 yX3_labelOf yX3_labelOf, .code yX3_labelOf cX3_labelOf 2 (some .int), .fieldLink RX3 15 "BracketTree$Tree" "labels" "[I"] ++ wsX30)
def wsX3_findAncestor : List Cond := .code yX3_findAncestor cX3_findAncestor 5 (some .int) :: ([.methodLink RX3 40 yX3_depthOf, .instanceMethod yX3_depthOf, .selects RX3 yX3_depthOf yX3_depthOf, .initialized RX3, .code yX3_depthOf cX3_depthOf 2 (some .int), .fieldLink RX3 9 "BracketTree$Tree" "depths" "[I", .methodLink RX3 32 yX3_has, .instanceMethod yX3_has, .selects RX3 yX3_has yX3_has, .code yX3_has cX3_has 2 (some .boolean), .fieldLink RX3 28 "BracketTree$Tree" "count" "I", .static yX4_get, .initialized RX4, .code yX4_get cX4_get 2 (some .int), .methodLink RX3 83 yX3_labelOf, .instanceMethod yX3_labelOf, .selects RX3 yX3_labelOf yX3_labelOf, .code yX3_labelOf cX3_labelOf 2 (some .int), .fieldLink RX3 15 "BracketTree$Tree" "labels" "[I"] ++ wsX30)
def wsX3_sameSubtrees_r1 : List Cond := [Cond.methodLink RX3 71 yX3_sizeOf, Cond.instanceMethod yX3_sizeOf, Cond.selects RX3 yX3_sizeOf yX3_sizeOf, Cond.initialized RX3, Cond.code yX3_sizeOf cX3_sizeOf 2 (some .int), Cond.methodLink RX3 44 yX3_endOf, Cond.instanceMethod yX3_endOf, Cond.selects RX3 yX3_endOf yX3_endOf, Cond.code yX3_endOf cX3_endOf 4 (some .int), Cond.fieldLink RX3 28 "BracketTree$Tree" "count" "I", Cond.methodLink RX3 40 yX3_depthOf, Cond.instanceMethod yX3_depthOf, Cond.selects RX3 yX3_depthOf yX3_depthOf, Cond.code yX3_depthOf cX3_depthOf 2 (some .int), Cond.fieldLink RX3 9 "BracketTree$Tree" "depths" "[I", Cond.methodLink RX3 32 yX3_has, Cond.instanceMethod yX3_has, Cond.selects RX3 yX3_has yX3_has, Cond.code yX3_has cX3_has 2 (some .boolean), Cond.static yX4_get, Cond.initialized RX4, Cond.code yX4_get cX4_get 2 (some .int), Cond.methodLink RX3 83 yX3_labelOf, Cond.instanceMethod yX3_labelOf]
def wsX3_sameSubtrees_r2 : List Cond := [Cond.selects RX3 yX3_labelOf yX3_labelOf, Cond.code yX3_labelOf cX3_labelOf 2 (some .int), Cond.fieldLink RX3 15 "BracketTree$Tree" "labels" "[I"]
def wsX3_sameSubtrees : List Cond := .code yX3_sameSubtrees cX3_sameSubtrees 6 (some .boolean) :: ((wsX3_sameSubtrees_r1 ++ wsX3_sameSubtrees_r2) ++ wsX30)
def wsX3_countEqual_r1 : List Cond := [Cond.fieldLink RX3 28 "BracketTree$Tree" "count" "I", Cond.methodLink RX3 86 yX3_sameSubtrees, Cond.instanceMethod yX3_sameSubtrees, Cond.selects RX3 yX3_sameSubtrees yX3_sameSubtrees, Cond.initialized RX3, Cond.code yX3_sameSubtrees cX3_sameSubtrees 6 (some .boolean), Cond.methodLink RX3 71 yX3_sizeOf, Cond.instanceMethod yX3_sizeOf, Cond.selects RX3 yX3_sizeOf yX3_sizeOf, Cond.code yX3_sizeOf cX3_sizeOf 2 (some .int), Cond.methodLink RX3 44 yX3_endOf, Cond.instanceMethod yX3_endOf, Cond.selects RX3 yX3_endOf yX3_endOf, Cond.code yX3_endOf cX3_endOf 4 (some .int), Cond.methodLink RX3 40 yX3_depthOf, Cond.instanceMethod yX3_depthOf, Cond.selects RX3 yX3_depthOf yX3_depthOf, Cond.code yX3_depthOf cX3_depthOf 2 (some .int), Cond.fieldLink RX3 9 "BracketTree$Tree" "depths" "[I", Cond.methodLink RX3 32 yX3_has, Cond.instanceMethod yX3_has, Cond.selects RX3 yX3_has yX3_has, Cond.code yX3_has cX3_has 2 (some .boolean), Cond.static yX4_get]
def wsX3_countEqual_r2 : List Cond := [Cond.initialized RX4, Cond.code yX4_get cX4_get 2 (some .int), Cond.methodLink RX3 83 yX3_labelOf, Cond.instanceMethod yX3_labelOf, Cond.selects RX3 yX3_labelOf yX3_labelOf, Cond.code yX3_labelOf cX3_labelOf 2 (some .int), Cond.fieldLink RX3 15 "BracketTree$Tree" "labels" "[I"]
def wsX3_countEqual : List Cond := .code yX3_countEqual cX3_countEqual 4 (some .int) :: ((wsX3_countEqual_r1 ++ wsX3_countEqual_r2) ++ wsX30)
def wsX3_signsBehind : List Cond := .code yX3_signsBehind cX3_signsBehind 2 (some .int) :: ([.methodLink RX3 51 yX3_isLeaf, .instanceMethod yX3_isLeaf, .selects RX3 yX3_isLeaf yX3_isLeaf, .initialized RX3, .code yX3_isLeaf cX3_isLeaf 2 (some .boolean), .methodLink RX3 40 yX3_depthOf, .instanceMethod yX3_depthOf, .selects RX3 yX3_depthOf yX3_depthOf, .code yX3_depthOf cX3_depthOf 2 (some .int), .fieldLink RX3 9 "BracketTree$Tree" "depths" "[I", .methodLink RX3 32 yX3_has, .instanceMethod yX3_has, .selects RX3 yX3_has yX3_has, .code yX3_has cX3_has 2 (some .boolean), .fieldLink RX3 28 "BracketTree$Tree" "count" "I", .static yX4_get, .initialized RX4, .code yX4_get cX4_get 2 (some .int)] ++ wsX30)
def wsX3_writtenLength : List Cond := .code yX3_writtenLength cX3_writtenLength 3 (some .int) :: ([.fieldLink RX3 28 "BracketTree$Tree" "count" "I", .methodLink RX3 90 yX3_signsBehind, .instanceMethod yX3_signsBehind, .selects RX3 yX3_signsBehind yX3_signsBehind, .initialized RX3, .code yX3_signsBehind cX3_signsBehind 2 (some .int), .methodLink RX3 51 yX3_isLeaf, .instanceMethod yX3_isLeaf, .selects RX3 yX3_isLeaf yX3_isLeaf, .code yX3_isLeaf cX3_isLeaf 2 (some .boolean), .methodLink RX3 40 yX3_depthOf, .instanceMethod yX3_depthOf, .selects RX3 yX3_depthOf yX3_depthOf, .code yX3_depthOf cX3_depthOf 2 (some .int), .fieldLink RX3 9 "BracketTree$Tree" "depths" "[I", .methodLink RX3 32 yX3_has, .instanceMethod yX3_has, .selects RX3 yX3_has yX3_has, .code yX3_has cX3_has 2 (some .boolean), .static yX4_get, .initialized RX4, .code yX4_get cX4_get 2 (some .int)] ++ wsX30)
def wsX3_writtenAt_r1 : List Cond := [Cond.fieldLink RX3 28 "BracketTree$Tree" "count" "I", Cond.methodLink RX3 90 yX3_signsBehind, Cond.instanceMethod yX3_signsBehind, Cond.selects RX3 yX3_signsBehind yX3_signsBehind, Cond.initialized RX3, Cond.code yX3_signsBehind cX3_signsBehind 2 (some .int), Cond.methodLink RX3 51 yX3_isLeaf, Cond.instanceMethod yX3_isLeaf, Cond.selects RX3 yX3_isLeaf yX3_isLeaf, Cond.code yX3_isLeaf cX3_isLeaf 2 (some .boolean), Cond.methodLink RX3 40 yX3_depthOf, Cond.instanceMethod yX3_depthOf, Cond.selects RX3 yX3_depthOf yX3_depthOf, Cond.code yX3_depthOf cX3_depthOf 2 (some .int), Cond.fieldLink RX3 9 "BracketTree$Tree" "depths" "[I", Cond.methodLink RX3 32 yX3_has, Cond.instanceMethod yX3_has, Cond.selects RX3 yX3_has yX3_has, Cond.code yX3_has cX3_has 2 (some .boolean), Cond.static yX4_get, Cond.initialized RX4, Cond.code yX4_get cX4_get 2 (some .int), Cond.methodLink RX3 83 yX3_labelOf, Cond.instanceMethod yX3_labelOf]
def wsX3_writtenAt_r2 : List Cond := [Cond.selects RX3 yX3_labelOf yX3_labelOf, Cond.code yX3_labelOf cX3_labelOf 2 (some .int), Cond.fieldLink RX3 15 "BracketTree$Tree" "labels" "[I"]
def wsX3_writtenAt : List Cond := .code yX3_writtenAt cX3_writtenAt 5 (some .int) :: ((wsX3_writtenAt_r1 ++ wsX3_writtenAt_r2) ++ wsX30)
def wsX3_openGap_r1 : List Cond := [Cond.fieldLink RX3 28 "BracketTree$Tree" "count" "I", Cond.methodLink RX3 57 Lib.Math.min.name, Cond.static Lib.Math.min.name, Cond.initialized "java/lang/Math", Cond.code Lib.Math.min.name Lib.Math.min.code 2 (some .int), Cond.methodLink RX3 40 yX3_depthOf, Cond.instanceMethod yX3_depthOf, Cond.selects RX3 yX3_depthOf yX3_depthOf, Cond.initialized RX3, Cond.code yX3_depthOf cX3_depthOf 2 (some .int), Cond.fieldLink RX3 9 "BracketTree$Tree" "depths" "[I", Cond.methodLink RX3 32 yX3_has, Cond.instanceMethod yX3_has, Cond.selects RX3 yX3_has yX3_has, Cond.code yX3_has cX3_has 2 (some .boolean), Cond.static yX4_get, Cond.initialized RX4, Cond.code yX4_get cX4_get 2 (some .int), Cond.methodLink RX3 83 yX3_labelOf, Cond.instanceMethod yX3_labelOf, Cond.selects RX3 yX3_labelOf yX3_labelOf, Cond.code yX3_labelOf cX3_labelOf 2 (some .int), Cond.fieldLink RX3 15 "BracketTree$Tree" "labels" "[I", Cond.methodLink RX3 93 yX3_putNode]
def wsX3_openGap_r2 : List Cond := [Cond.instanceMethod yX3_putNode, Cond.selects RX3 yX3_putNode yX3_putNode, Cond.code yX3_putNode cX3_putNode 4 none, Cond.static yX4_put, Cond.code yX4_put cX4_put 3 none]
def wsX3_openGap : List Cond := .code yX3_openGap cX3_openGap 4 none :: ((wsX3_openGap_r1 ++ wsX3_openGap_r2) ++ wsX30)
def wsX3_closeGap_r1 : List Cond := [Cond.fieldLink RX3 28 "BracketTree$Tree" "count" "I", Cond.methodLink RX3 62 Lib.Math.max.name, Cond.static Lib.Math.max.name, Cond.initialized "java/lang/Math", Cond.code Lib.Math.max.name Lib.Math.max.code 2 (some .int), Cond.methodLink RX3 40 yX3_depthOf, Cond.instanceMethod yX3_depthOf, Cond.selects RX3 yX3_depthOf yX3_depthOf, Cond.initialized RX3, Cond.code yX3_depthOf cX3_depthOf 2 (some .int), Cond.fieldLink RX3 9 "BracketTree$Tree" "depths" "[I", Cond.methodLink RX3 32 yX3_has, Cond.instanceMethod yX3_has, Cond.selects RX3 yX3_has yX3_has, Cond.code yX3_has cX3_has 2 (some .boolean), Cond.static yX4_get, Cond.initialized RX4, Cond.code yX4_get cX4_get 2 (some .int), Cond.methodLink RX3 83 yX3_labelOf, Cond.instanceMethod yX3_labelOf, Cond.selects RX3 yX3_labelOf yX3_labelOf, Cond.code yX3_labelOf cX3_labelOf 2 (some .int), Cond.fieldLink RX3 15 "BracketTree$Tree" "labels" "[I", Cond.methodLink RX3 93 yX3_putNode]
def wsX3_closeGap_r2 : List Cond := [Cond.instanceMethod yX3_putNode, Cond.selects RX3 yX3_putNode yX3_putNode, Cond.code yX3_putNode cX3_putNode 4 none, Cond.static yX4_put, Cond.code yX4_put cX4_put 3 none]
def wsX3_closeGap : List Cond := .code yX3_closeGap cX3_closeGap 4 none :: ((wsX3_closeGap_r1 ++ wsX3_closeGap_r2) ++ wsX30)
def wsX3_sink_r1 : List Cond := [Cond.methodLink RX3 40 yX3_depthOf, Cond.instanceMethod yX3_depthOf, Cond.selects RX3 yX3_depthOf yX3_depthOf, Cond.initialized RX3, Cond.code yX3_depthOf cX3_depthOf 2 (some .int), Cond.fieldLink RX3 9 "BracketTree$Tree" "depths" "[I", Cond.methodLink RX3 32 yX3_has, Cond.instanceMethod yX3_has, Cond.selects RX3 yX3_has yX3_has, Cond.code yX3_has cX3_has 2 (some .boolean), Cond.fieldLink RX3 28 "BracketTree$Tree" "count" "I", Cond.static yX4_get, Cond.initialized RX4, Cond.code yX4_get cX4_get 2 (some .int), Cond.methodLink RX3 83 yX3_labelOf, Cond.instanceMethod yX3_labelOf, Cond.selects RX3 yX3_labelOf yX3_labelOf, Cond.code yX3_labelOf cX3_labelOf 2 (some .int), Cond.fieldLink RX3 15 "BracketTree$Tree" "labels" "[I", Cond.methodLink RX3 93 yX3_putNode, Cond.instanceMethod yX3_putNode, Cond.selects RX3 yX3_putNode yX3_putNode, Cond.code yX3_putNode cX3_putNode 4 none, Cond.static yX4_put]
def wsX3_sink_r2 : List Cond := [Cond.code yX4_put cX4_put 3 none]
def wsX3_sink : List Cond := .code yX3_sink cX3_sink 5 none :: ((wsX3_sink_r1 ++ wsX3_sink_r2) ++ wsX30)
def wsX3_wrapChildren_r1 : List Cond := [Cond.methodLink RX3 97 yX3_startOfPlace, Cond.instanceMethod yX3_startOfPlace, Cond.selects RX3 yX3_startOfPlace yX3_startOfPlace, Cond.initialized RX3, Cond.code yX3_startOfPlace cX3_startOfPlace 6 (some .int), Cond.methodLink RX3 44 yX3_endOf, Cond.instanceMethod yX3_endOf, Cond.selects RX3 yX3_endOf yX3_endOf, Cond.code yX3_endOf cX3_endOf 4 (some .int), Cond.fieldLink RX3 28 "BracketTree$Tree" "count" "I", Cond.methodLink RX3 40 yX3_depthOf, Cond.instanceMethod yX3_depthOf, Cond.selects RX3 yX3_depthOf yX3_depthOf, Cond.code yX3_depthOf cX3_depthOf 2 (some .int), Cond.fieldLink RX3 9 "BracketTree$Tree" "depths" "[I", Cond.methodLink RX3 32 yX3_has, Cond.instanceMethod yX3_has, Cond.selects RX3 yX3_has yX3_has, Cond.code yX3_has cX3_has 2 (some .boolean), Cond.static yX4_get, Cond.initialized RX4, Cond.code yX4_get cX4_get 2 (some .int), Cond.methodLink RX3 100 yX3_sink, Cond.instanceMethod yX3_sink]
def wsX3_wrapChildren_r2 : List Cond := [Cond.selects RX3 yX3_sink yX3_sink, Cond.code yX3_sink cX3_sink 5 none, Cond.methodLink RX3 83 yX3_labelOf, Cond.instanceMethod yX3_labelOf, Cond.selects RX3 yX3_labelOf yX3_labelOf, Cond.code yX3_labelOf cX3_labelOf 2 (some .int), Cond.fieldLink RX3 15 "BracketTree$Tree" "labels" "[I", Cond.methodLink RX3 93 yX3_putNode, Cond.instanceMethod yX3_putNode, Cond.selects RX3 yX3_putNode yX3_putNode, Cond.code yX3_putNode cX3_putNode 4 none, Cond.static yX4_put, Cond.code yX4_put cX4_put 3 none, Cond.methodLink RX3 103 yX3_openGap, Cond.instanceMethod yX3_openGap, Cond.selects RX3 yX3_openGap yX3_openGap, Cond.code yX3_openGap cX3_openGap 4 none, Cond.methodLink RX3 57 Lib.Math.min.name, Cond.static Lib.Math.min.name, Cond.initialized "java/lang/Math", Cond.code Lib.Math.min.name Lib.Math.min.code 2 (some .int)]
def wsX3_wrapChildren : List Cond := .code yX3_wrapChildren cX3_wrapChildren 7 (some .int) :: ((wsX3_wrapChildren_r1 ++ wsX3_wrapChildren_r2) ++ wsX30)
def wsX3_dissolve_r1 : List Cond := [Cond.methodLink RX3 44 yX3_endOf, Cond.instanceMethod yX3_endOf, Cond.selects RX3 yX3_endOf yX3_endOf, Cond.initialized RX3, Cond.code yX3_endOf cX3_endOf 4 (some .int), Cond.fieldLink RX3 28 "BracketTree$Tree" "count" "I", Cond.methodLink RX3 40 yX3_depthOf, Cond.instanceMethod yX3_depthOf, Cond.selects RX3 yX3_depthOf yX3_depthOf, Cond.code yX3_depthOf cX3_depthOf 2 (some .int), Cond.fieldLink RX3 9 "BracketTree$Tree" "depths" "[I", Cond.methodLink RX3 32 yX3_has, Cond.instanceMethod yX3_has, Cond.selects RX3 yX3_has yX3_has, Cond.code yX3_has cX3_has 2 (some .boolean), Cond.static yX4_get, Cond.initialized RX4, Cond.code yX4_get cX4_get 2 (some .int), Cond.methodLink RX3 100 yX3_sink, Cond.instanceMethod yX3_sink, Cond.selects RX3 yX3_sink yX3_sink, Cond.code yX3_sink cX3_sink 5 none, Cond.methodLink RX3 83 yX3_labelOf, Cond.instanceMethod yX3_labelOf]
def wsX3_dissolve_r2 : List Cond := [Cond.selects RX3 yX3_labelOf yX3_labelOf, Cond.code yX3_labelOf cX3_labelOf 2 (some .int), Cond.fieldLink RX3 15 "BracketTree$Tree" "labels" "[I", Cond.methodLink RX3 93 yX3_putNode, Cond.instanceMethod yX3_putNode, Cond.selects RX3 yX3_putNode yX3_putNode, Cond.code yX3_putNode cX3_putNode 4 none, Cond.static yX4_put, Cond.code yX4_put cX4_put 3 none, Cond.methodLink RX3 107 yX3_closeGap, Cond.instanceMethod yX3_closeGap, Cond.selects RX3 yX3_closeGap yX3_closeGap, Cond.code yX3_closeGap cX3_closeGap 4 none, Cond.methodLink RX3 62 Lib.Math.max.name, Cond.static Lib.Math.max.name, Cond.initialized "java/lang/Math", Cond.code Lib.Math.max.name Lib.Math.max.code 2 (some .int)]
def wsX3_dissolve : List Cond := .code yX3_dissolve cX3_dissolve 2 none :: ((wsX3_dissolve_r1 ++ wsX3_dissolve_r2) ++ wsX30)
def wsX3_hold : List Cond := .code yX3_hold cX3_hold 4 none :: ([.fieldLink RX3 18 "BracketTree$Tree" "heldDepths" "[I", .fieldLink RX3 21 "BracketTree$Tree" "heldLabels" "[I", .methodLink RX3 40 yX3_depthOf, .instanceMethod yX3_depthOf, .selects RX3 yX3_depthOf yX3_depthOf, .initialized RX3, .code yX3_depthOf cX3_depthOf 2 (some .int), .fieldLink RX3 9 "BracketTree$Tree" "depths" "[I", .methodLink RX3 32 yX3_has, .instanceMethod yX3_has, .selects RX3 yX3_has yX3_has, .code yX3_has cX3_has 2 (some .boolean), .fieldLink RX3 28 "BracketTree$Tree" "count" "I", .static yX4_get, .initialized RX4, .code yX4_get cX4_get 2 (some .int), .static yX4_put, .code yX4_put cX4_put 3 none, .methodLink RX3 83 yX3_labelOf, .instanceMethod yX3_labelOf, .selects RX3 yX3_labelOf yX3_labelOf, .code yX3_labelOf cX3_labelOf 2 (some .int), .fieldLink RX3 15 "BracketTree$Tree" "labels" "[I"] ++ wsX30)
def wsX3_release : List Cond := .code yX3_release cX3_release 5 none :: ([.fieldLink RX3 18 "BracketTree$Tree" "heldDepths" "[I", .fieldLink RX3 21 "BracketTree$Tree" "heldLabels" "[I", .static yX4_get, .initialized RX4, .code yX4_get cX4_get 2 (some .int), .methodLink RX3 93 yX3_putNode, .instanceMethod yX3_putNode, .selects RX3 yX3_putNode yX3_putNode, .initialized RX3, .code yX3_putNode cX3_putNode 4 none, .fieldLink RX3 9 "BracketTree$Tree" "depths" "[I", .fieldLink RX3 15 "BracketTree$Tree" "labels" "[I", .static yX4_put, .code yX4_put cX4_put 3 none] ++ wsX30)
def wsX3_transplant_r1 : List Cond := [Cond.methodLink RX3 71 yX3_sizeOf, Cond.instanceMethod yX3_sizeOf, Cond.selects RX3 yX3_sizeOf yX3_sizeOf, Cond.initialized RX3, Cond.code yX3_sizeOf cX3_sizeOf 2 (some .int), Cond.methodLink RX3 44 yX3_endOf, Cond.instanceMethod yX3_endOf, Cond.selects RX3 yX3_endOf yX3_endOf, Cond.code yX3_endOf cX3_endOf 4 (some .int), Cond.fieldLink RX3 28 "BracketTree$Tree" "count" "I", Cond.methodLink RX3 40 yX3_depthOf, Cond.instanceMethod yX3_depthOf, Cond.selects RX3 yX3_depthOf yX3_depthOf, Cond.code yX3_depthOf cX3_depthOf 2 (some .int), Cond.fieldLink RX3 9 "BracketTree$Tree" "depths" "[I", Cond.methodLink RX3 32 yX3_has, Cond.instanceMethod yX3_has, Cond.selects RX3 yX3_has yX3_has, Cond.code yX3_has cX3_has 2 (some .boolean), Cond.static yX4_get, Cond.initialized RX4, Cond.code yX4_get cX4_get 2 (some .int), Cond.methodLink RX3 110 yX3_hold, Cond.instanceMethod yX3_hold]
def wsX3_transplant_r2 : List Cond := [Cond.selects RX3 yX3_hold yX3_hold, Cond.code yX3_hold cX3_hold 4 none, Cond.fieldLink RX3 18 "BracketTree$Tree" "heldDepths" "[I", Cond.fieldLink RX3 21 "BracketTree$Tree" "heldLabels" "[I", Cond.static yX4_put, Cond.code yX4_put cX4_put 3 none, Cond.methodLink RX3 83 yX3_labelOf, Cond.instanceMethod yX3_labelOf, Cond.selects RX3 yX3_labelOf yX3_labelOf, Cond.code yX3_labelOf cX3_labelOf 2 (some .int), Cond.fieldLink RX3 15 "BracketTree$Tree" "labels" "[I", Cond.methodLink RX3 107 yX3_closeGap, Cond.instanceMethod yX3_closeGap, Cond.selects RX3 yX3_closeGap yX3_closeGap, Cond.code yX3_closeGap cX3_closeGap 4 none, Cond.methodLink RX3 62 Lib.Math.max.name, Cond.static Lib.Math.max.name, Cond.initialized "java/lang/Math", Cond.code Lib.Math.max.name Lib.Math.max.code 2 (some .int), Cond.methodLink RX3 93 yX3_putNode, Cond.instanceMethod yX3_putNode, Cond.selects RX3 yX3_putNode yX3_putNode, Cond.code yX3_putNode cX3_putNode 4 none, Cond.methodLink RX3 97 yX3_startOfPlace]
def wsX3_transplant_r3 : List Cond := [Cond.instanceMethod yX3_startOfPlace, Cond.selects RX3 yX3_startOfPlace yX3_startOfPlace, Cond.code yX3_startOfPlace cX3_startOfPlace 6 (some .int), Cond.methodLink RX3 103 yX3_openGap, Cond.instanceMethod yX3_openGap, Cond.selects RX3 yX3_openGap yX3_openGap, Cond.code yX3_openGap cX3_openGap 4 none, Cond.methodLink RX3 57 Lib.Math.min.name, Cond.static Lib.Math.min.name, Cond.code Lib.Math.min.name Lib.Math.min.code 2 (some .int), Cond.methodLink RX3 113 yX3_release, Cond.instanceMethod yX3_release, Cond.selects RX3 yX3_release yX3_release, Cond.code yX3_release cX3_release 5 none]
def wsX3_transplant : List Cond := .code yX3_transplant cX3_transplant 7 (some .int) :: ((wsX3_transplant_r1 ++ (wsX3_transplant_r2 ++ wsX3_transplant_r3)) ++ wsX30)
def wsX4_init_r1 : List Cond := [Cond.methodLink RX4 1 objectInit, Cond.instanceMethod objectInit, Cond.code objectInit ⟨#[0xb1]⟩ 1 none, Cond.classLink RX4 7 RX3, Cond.instantiable RX3 5, Cond.initialized RX3, Cond.fieldLink RX4 10 "BracketTree" "tree" "LBracketTree$Tree;", Cond.classLink RX4 16 RX0, Cond.instantiable RX0 1, Cond.initialized RX0, Cond.fieldLink RX4 19 "BracketTree" "blocks" "LBracketTree$Blocks;", Cond.classLink RX4 23 RX1, Cond.instantiable RX1 5, Cond.initialized RX1, Cond.fieldLink RX4 26 "BracketTree" "history" "LBracketTree$History;", Cond.classLink RX4 30 RX2, Cond.instantiable RX2 2, Cond.initialized RX2, Cond.fieldLink RX4 33 "BracketTree" "text" "LBracketTree$Text;", Cond.methodLink RX4 9 yX3_init, Cond.instanceMethod yX3_init, Cond.code yX3_init cX3_init 1 none, Cond.methodLink RX3 3 objectInit, Cond.arrayClass .int]
def wsX4_init_r2 : List Cond := [Cond.fieldLink RX3 9 "BracketTree$Tree" "depths" "[I", Cond.fieldLink RX3 15 "BracketTree$Tree" "labels" "[I", Cond.fieldLink RX3 18 "BracketTree$Tree" "heldDepths" "[I", Cond.fieldLink RX3 21 "BracketTree$Tree" "heldLabels" "[I", Cond.fieldLink RX3 28 "BracketTree$Tree" "count" "I", Cond.static yX4_put, Cond.initialized RX4, Cond.code yX4_put cX4_put 3 none, Cond.instanceMethod yX0_init, Cond.code yX0_init cX0_init 1 none, Cond.methodLink RX0 3 objectInit, Cond.fieldLink RX0 9 "BracketTree$Blocks" "width" "I", Cond.instanceMethod yX1_init, Cond.code yX1_init cX1_init 1 none, Cond.methodLink RX1 3 objectInit, Cond.fieldLink RX1 9 "BracketTree$History" "counts" "[I", Cond.fieldLink RX1 15 "BracketTree$History" "depths" "[I", Cond.fieldLink RX1 18 "BracketTree$History" "labels" "[I", Cond.instanceMethod yX2_init, Cond.code yX2_init cX2_init 1 none, Cond.methodLink RX2 3 objectInit, Cond.fieldLink RX2 9 "BracketTree$Text" "characters" "[I"]
def wsX4_init : List Cond := .code yX4_init cX4_init 1 none :: ((wsX4_init_r1 ++ wsX4_init_r2) ++ wsX30 ++ wsX40 ++ wsX00 ++ wsX10 ++ wsX20)
def wsX4_type : List Cond := .code yX4_type cX4_type 2 (some .int) :: ([.fieldLink RX4 33 "BracketTree" "text" "LBracketTree$Text;", .methodLink RX4 37 yX2_append, .instanceMethod yX2_append, .selects RX2 yX2_append yX2_append, .initialized RX2, .code yX2_append cX2_append 2 (some .int), .fieldLink RX2 15 "BracketTree$Text" "length" "I", .fieldLink RX2 9 "BracketTree$Text" "characters" "[I", .static yX4_put, .initialized RX4, .code yX4_put cX4_put 3 none] ++ wsX40 ++ wsX20)
def wsX4_clearText : List Cond := .code yX4_clearText cX4_clearText 1 (some .int) :: ([.fieldLink RX4 33 "BracketTree" "text" "LBracketTree$Text;", .methodLink RX4 41 yX2_empty, .instanceMethod yX2_empty, .selects RX2 yX2_empty yX2_empty, .initialized RX2, .code yX2_empty cX2_empty 2 (some .int), .fieldLink RX2 15 "BracketTree$Text" "length" "I"] ++ wsX40 ++ wsX20)
def wsX4_read_r1 : List Cond := [Cond.fieldLink RX4 33 "BracketTree" "text" "LBracketTree$Text;", Cond.fieldLink RX4 26 "BracketTree" "history" "LBracketTree$History;", Cond.fieldLink RX4 10 "BracketTree" "tree" "LBracketTree$Tree;", Cond.methodLink RX4 45 yX2_findFault, Cond.instanceMethod yX2_findFault, Cond.selects RX2 yX2_findFault yX2_findFault, Cond.initialized RX2, Cond.code yX2_findFault cX2_findFault 4 (some .int), Cond.fieldLink RX2 15 "BracketTree$Text" "length" "I", Cond.fieldLink RX2 9 "BracketTree$Text" "characters" "[I", Cond.methodLink RX2 23 yX2_isAllowed, Cond.instanceMethod yX2_isAllowed, Cond.selects RX2 yX2_isAllowed yX2_isAllowed, Cond.code yX2_isAllowed cX2_isAllowed 6 (some .boolean), Cond.static yX4_get, Cond.initialized RX4, Cond.code yX4_get cX4_get 2 (some .int), Cond.static yX4_isLetter, Cond.code yX4_isLetter cX4_isLetter 1 (some .boolean), Cond.methodLink RX2 27 yX2_deeper, Cond.instanceMethod yX2_deeper, Cond.selects RX2 yX2_deeper yX2_deeper, Cond.code yX2_deeper cX2_deeper 3 (some .int), Cond.methodLink RX4 48 yX1_record]
def wsX4_read_r2 : List Cond := [Cond.instanceMethod yX1_record, Cond.selects RX1 yX1_record yX1_record, Cond.initialized RX1, Cond.code yX1_record cX1_record 4 none, Cond.fieldLink RX1 25 "BracketTree$History" "slot" "I", Cond.fieldLink RX1 9 "BracketTree$History" "counts" "[I", Cond.fieldLink RX1 15 "BracketTree$History" "depths" "[I", Cond.fieldLink RX1 18 "BracketTree$History" "labels" "[I", Cond.fieldLink RX1 21 "BracketTree$History" "kept" "I", Cond.methodLink RX1 45 Lib.Math.min.name, Cond.static Lib.Math.min.name, Cond.initialized "java/lang/Math", Cond.code Lib.Math.min.name Lib.Math.min.code 2 (some .int), Cond.methodLink RX1 28 yX3_count, Cond.instanceMethod yX3_count, Cond.selects RX3 yX3_count yX3_count, Cond.initialized RX3, Cond.code yX3_count cX3_count 1 (some .int), Cond.fieldLink RX3 28 "BracketTree$Tree" "count" "I", Cond.static yX4_put, Cond.code yX4_put cX4_put 3 none, Cond.methodLink RX1 38 yX3_depthOf, Cond.instanceMethod yX3_depthOf, Cond.selects RX3 yX3_depthOf yX3_depthOf]
def wsX4_read_r3 : List Cond := [Cond.code yX3_depthOf cX3_depthOf 2 (some .int), Cond.fieldLink RX3 9 "BracketTree$Tree" "depths" "[I", Cond.methodLink RX3 32 yX3_has, Cond.instanceMethod yX3_has, Cond.selects RX3 yX3_has yX3_has, Cond.code yX3_has cX3_has 2 (some .boolean), Cond.methodLink RX1 42 yX3_labelOf, Cond.instanceMethod yX3_labelOf, Cond.selects RX3 yX3_labelOf yX3_labelOf, Cond.code yX3_labelOf cX3_labelOf 2 (some .int), Cond.fieldLink RX3 15 "BracketTree$Tree" "labels" "[I", Cond.methodLink RX4 52 yX2_makeTree, Cond.instanceMethod yX2_makeTree, Cond.selects RX2 yX2_makeTree yX2_makeTree, Cond.code yX2_makeTree cX2_makeTree 4 none, Cond.methodLink RX2 39 yX3_empty, Cond.instanceMethod yX3_empty, Cond.selects RX3 yX3_empty yX3_empty, Cond.code yX3_empty cX3_empty 1 none, Cond.methodLink RX2 44 yX3_append, Cond.instanceMethod yX3_append, Cond.selects RX3 yX3_append yX3_append, Cond.code yX3_append cX3_append 3 none, Cond.methodLink RX3 93 yX3_putNode]
def wsX4_read_r4 : List Cond := [Cond.instanceMethod yX3_putNode, Cond.selects RX3 yX3_putNode yX3_putNode, Cond.code yX3_putNode cX3_putNode 4 none, Cond.methodLink RX4 55 yX3_count]
def wsX4_read : List Cond := .code yX4_read cX4_read 2 (some .int) :: ((wsX4_read_r1 ++ (wsX4_read_r2 ++ (wsX4_read_r3 ++ wsX4_read_r4))) ++ wsX40 ++ wsX20 ++ wsX10 ++ wsX30)
def wsX4_written_r1 : List Cond := [Cond.fieldLink RX4 10 "BracketTree" "tree" "LBracketTree$Tree;", Cond.methodLink RX4 58 yX3_writtenLength, Cond.instanceMethod yX3_writtenLength, Cond.selects RX3 yX3_writtenLength yX3_writtenLength, Cond.initialized RX3, Cond.code yX3_writtenLength cX3_writtenLength 3 (some .int), Cond.fieldLink RX3 28 "BracketTree$Tree" "count" "I", Cond.methodLink RX3 90 yX3_signsBehind, Cond.instanceMethod yX3_signsBehind, Cond.selects RX3 yX3_signsBehind yX3_signsBehind, Cond.code yX3_signsBehind cX3_signsBehind 2 (some .int), Cond.methodLink RX3 51 yX3_isLeaf, Cond.instanceMethod yX3_isLeaf, Cond.selects RX3 yX3_isLeaf yX3_isLeaf, Cond.code yX3_isLeaf cX3_isLeaf 2 (some .boolean), Cond.methodLink RX3 40 yX3_depthOf, Cond.instanceMethod yX3_depthOf, Cond.selects RX3 yX3_depthOf yX3_depthOf, Cond.code yX3_depthOf cX3_depthOf 2 (some .int), Cond.fieldLink RX3 9 "BracketTree$Tree" "depths" "[I", Cond.methodLink RX3 32 yX3_has, Cond.instanceMethod yX3_has, Cond.selects RX3 yX3_has yX3_has, Cond.code yX3_has cX3_has 2 (some .boolean)]
def wsX4_written_r2 : List Cond := [Cond.static yX4_get, Cond.initialized RX4, Cond.code yX4_get cX4_get 2 (some .int), Cond.methodLink RX4 61 yX3_writtenAt, Cond.instanceMethod yX3_writtenAt, Cond.selects RX3 yX3_writtenAt yX3_writtenAt, Cond.code yX3_writtenAt cX3_writtenAt 5 (some .int), Cond.methodLink RX3 83 yX3_labelOf, Cond.instanceMethod yX3_labelOf, Cond.selects RX3 yX3_labelOf yX3_labelOf, Cond.code yX3_labelOf cX3_labelOf 2 (some .int), Cond.fieldLink RX3 15 "BracketTree$Tree" "labels" "[I"]
def wsX4_written : List Cond := .code yX4_written cX4_written 2 (some .int) :: ((wsX4_written_r1 ++ wsX4_written_r2) ++ wsX40 ++ wsX30)
def wsX4_size : List Cond := .code yX4_size cX4_size 1 (some .int) :: ([.fieldLink RX4 10 "BracketTree" "tree" "LBracketTree$Tree;", .methodLink RX4 55 yX3_count, .instanceMethod yX3_count, .selects RX3 yX3_count yX3_count, .initialized RX3, .code yX3_count cX3_count 1 (some .int), .fieldLink RX3 28 "BracketTree$Tree" "count" "I"] ++ wsX40 ++ wsX30)
def wsX4_node_r1 : List Cond := [Cond.fieldLink RX4 10 "BracketTree" "tree" "LBracketTree$Tree;", Cond.methodLink RX4 65 yX3_has, Cond.instanceMethod yX3_has, Cond.selects RX3 yX3_has yX3_has, Cond.initialized RX3, Cond.code yX3_has cX3_has 2 (some .boolean), Cond.fieldLink RX3 28 "BracketTree$Tree" "count" "I", Cond.methodLink RX4 69 yX3_depthOf, Cond.instanceMethod yX3_depthOf, Cond.selects RX3 yX3_depthOf yX3_depthOf, Cond.code yX3_depthOf cX3_depthOf 2 (some .int), Cond.fieldLink RX3 9 "BracketTree$Tree" "depths" "[I", Cond.methodLink RX3 32 yX3_has, Cond.static yX4_get, Cond.initialized RX4, Cond.code yX4_get cX4_get 2 (some .int), Cond.methodLink RX4 72 yX3_parentOf, Cond.instanceMethod yX3_parentOf, Cond.selects RX3 yX3_parentOf yX3_parentOf, Cond.code yX3_parentOf cX3_parentOf 2 (some .int), Cond.methodLink RX3 40 yX3_depthOf, Cond.methodLink RX3 47 yX3_climb, Cond.instanceMethod yX3_climb, Cond.selects RX3 yX3_climb yX3_climb]
def wsX4_node_r2 : List Cond := [Cond.code yX3_climb cX3_climb 4 (some .int), Cond.methodLink RX4 75 yX3_childCount, Cond.instanceMethod yX3_childCount, Cond.selects RX3 yX3_childCount yX3_childCount, Cond.code yX3_childCount cX3_childCount 5 (some .int), Cond.methodLink RX3 44 yX3_endOf, Cond.instanceMethod yX3_endOf, Cond.selects RX3 yX3_endOf yX3_endOf, Cond.code yX3_endOf cX3_endOf 4 (some .int), Cond.methodLink RX4 78 yX3_sizeOf, Cond.instanceMethod yX3_sizeOf, Cond.selects RX3 yX3_sizeOf yX3_sizeOf, Cond.code yX3_sizeOf cX3_sizeOf 2 (some .int), Cond.methodLink RX4 81 yX3_deepestOf, Cond.instanceMethod yX3_deepestOf, Cond.selects RX3 yX3_deepestOf yX3_deepestOf, Cond.code yX3_deepestOf cX3_deepestOf 5 (some .int), Cond.methodLink RX4 84 yX3_placeOf, Cond.instanceMethod yX3_placeOf, Cond.selects RX3 yX3_placeOf yX3_placeOf, Cond.code yX3_placeOf cX3_placeOf 5 (some .int), Cond.methodLink RX4 87 yX3_leafCount, Cond.instanceMethod yX3_leafCount, Cond.selects RX3 yX3_leafCount yX3_leafCount]
def wsX4_node_r3 : List Cond := [Cond.code yX3_leafCount cX3_leafCount 5 (some .int), Cond.methodLink RX3 51 yX3_isLeaf, Cond.instanceMethod yX3_isLeaf, Cond.selects RX3 yX3_isLeaf yX3_isLeaf, Cond.code yX3_isLeaf cX3_isLeaf 2 (some .boolean), Cond.methodLink RX4 90 yX3_openingOf, Cond.instanceMethod yX3_openingOf, Cond.selects RX3 yX3_openingOf yX3_openingOf, Cond.code yX3_openingOf cX3_openingOf 2 (some .int), Cond.methodLink RX4 93 yX3_closingOf, Cond.instanceMethod yX3_closingOf, Cond.selects RX3 yX3_closingOf yX3_closingOf, Cond.code yX3_closingOf cX3_closingOf 2 (some .int), Cond.methodLink RX3 74 yX3_openingOf, Cond.methodLink RX3 71 yX3_sizeOf, Cond.methodLink RX4 96 yX3_postorderOf, Cond.instanceMethod yX3_postorderOf, Cond.selects RX3 yX3_postorderOf yX3_postorderOf, Cond.code yX3_postorderOf cX3_postorderOf 2 (some .int), Cond.methodLink RX4 99 yX3_labelOf, Cond.instanceMethod yX3_labelOf, Cond.selects RX3 yX3_labelOf yX3_labelOf, Cond.code yX3_labelOf cX3_labelOf 2 (some .int), Cond.fieldLink RX3 15 "BracketTree$Tree" "labels" "[I"]
def wsX4_node : List Cond := .code yX4_node cX4_node 3 (some .int) :: ((wsX4_node_r1 ++ (wsX4_node_r2 ++ wsX4_node_r3)) ++ wsX40 ++ wsX30)
def wsX4_child_r1 : List Cond := [Cond.fieldLink RX4 10 "BracketTree" "tree" "LBracketTree$Tree;", Cond.methodLink RX4 65 yX3_has, Cond.instanceMethod yX3_has, Cond.selects RX3 yX3_has yX3_has, Cond.initialized RX3, Cond.code yX3_has cX3_has 2 (some .boolean), Cond.fieldLink RX3 28 "BracketTree$Tree" "count" "I", Cond.methodLink RX4 75 yX3_childCount, Cond.instanceMethod yX3_childCount, Cond.selects RX3 yX3_childCount yX3_childCount, Cond.code yX3_childCount cX3_childCount 5 (some .int), Cond.methodLink RX3 44 yX3_endOf, Cond.instanceMethod yX3_endOf, Cond.selects RX3 yX3_endOf yX3_endOf, Cond.code yX3_endOf cX3_endOf 4 (some .int), Cond.methodLink RX3 40 yX3_depthOf, Cond.instanceMethod yX3_depthOf, Cond.selects RX3 yX3_depthOf yX3_depthOf, Cond.code yX3_depthOf cX3_depthOf 2 (some .int), Cond.fieldLink RX3 9 "BracketTree$Tree" "depths" "[I", Cond.methodLink RX3 32 yX3_has, Cond.static yX4_get, Cond.initialized RX4, Cond.code yX4_get cX4_get 2 (some .int)]
def wsX4_child_r2 : List Cond := [Cond.methodLink RX4 102 yX3_startOfPlace, Cond.instanceMethod yX3_startOfPlace, Cond.selects RX3 yX3_startOfPlace yX3_startOfPlace, Cond.code yX3_startOfPlace cX3_startOfPlace 6 (some .int)]
def wsX4_child : List Cond := .code yX4_child cX4_child 3 (some .int) :: ((wsX4_child_r1 ++ wsX4_child_r2) ++ wsX40 ++ wsX30)
def wsX4_neighbour_r1 : List Cond := [Cond.fieldLink RX4 10 "BracketTree" "tree" "LBracketTree$Tree;", Cond.methodLink RX4 65 yX3_has, Cond.instanceMethod yX3_has, Cond.selects RX3 yX3_has yX3_has, Cond.initialized RX3, Cond.code yX3_has cX3_has 2 (some .boolean), Cond.fieldLink RX3 28 "BracketTree$Tree" "count" "I", Cond.methodLink RX4 106 yX3_nextSibling, Cond.instanceMethod yX3_nextSibling, Cond.selects RX3 yX3_nextSibling yX3_nextSibling, Cond.code yX3_nextSibling cX3_nextSibling 3 (some .int), Cond.methodLink RX3 44 yX3_endOf, Cond.instanceMethod yX3_endOf, Cond.selects RX3 yX3_endOf yX3_endOf, Cond.code yX3_endOf cX3_endOf 4 (some .int), Cond.methodLink RX3 40 yX3_depthOf, Cond.instanceMethod yX3_depthOf, Cond.selects RX3 yX3_depthOf yX3_depthOf, Cond.code yX3_depthOf cX3_depthOf 2 (some .int), Cond.fieldLink RX3 9 "BracketTree$Tree" "depths" "[I", Cond.methodLink RX3 32 yX3_has, Cond.static yX4_get, Cond.initialized RX4, Cond.code yX4_get cX4_get 2 (some .int)]
def wsX4_neighbour_r2 : List Cond := [Cond.methodLink RX4 109 yX3_previousSibling, Cond.instanceMethod yX3_previousSibling, Cond.selects RX3 yX3_previousSibling yX3_previousSibling, Cond.code yX3_previousSibling cX3_previousSibling 2 (some .int), Cond.methodLink RX3 65 yX3_placeOf, Cond.instanceMethod yX3_placeOf, Cond.selects RX3 yX3_placeOf yX3_placeOf, Cond.code yX3_placeOf cX3_placeOf 5 (some .int), Cond.methodLink RX3 68 yX3_previousAtDepth, Cond.instanceMethod yX3_previousAtDepth, Cond.selects RX3 yX3_previousAtDepth yX3_previousAtDepth, Cond.code yX3_previousAtDepth cX3_previousAtDepth 2 (some .int), Cond.methodLink RX3 47 yX3_climb, Cond.instanceMethod yX3_climb, Cond.selects RX3 yX3_climb yX3_climb, Cond.code yX3_climb cX3_climb 4 (some .int), Cond.methodLink RX4 112 yX3_nextAtDepth, Cond.instanceMethod yX3_nextAtDepth, Cond.selects RX3 yX3_nextAtDepth yX3_nextAtDepth, Cond.code yX3_nextAtDepth cX3_nextAtDepth 3 (some .int), Cond.methodLink RX4 115 yX3_previousAtDepth, Cond.methodLink RX4 118 yX3_nextLeaf, Cond.instanceMethod yX3_nextLeaf, Cond.selects RX3 yX3_nextLeaf yX3_nextLeaf]
def wsX4_neighbour_r3 : List Cond := [Cond.code yX3_nextLeaf cX3_nextLeaf 3 (some .int), Cond.methodLink RX3 51 yX3_isLeaf, Cond.instanceMethod yX3_isLeaf, Cond.selects RX3 yX3_isLeaf yX3_isLeaf, Cond.code yX3_isLeaf cX3_isLeaf 2 (some .boolean), Cond.methodLink RX4 121 yX3_largestChild, Cond.instanceMethod yX3_largestChild, Cond.selects RX3 yX3_largestChild yX3_largestChild, Cond.code yX3_largestChild cX3_largestChild 6 (some .int), Cond.methodLink RX3 71 yX3_sizeOf, Cond.instanceMethod yX3_sizeOf, Cond.selects RX3 yX3_sizeOf yX3_sizeOf, Cond.code yX3_sizeOf cX3_sizeOf 2 (some .int)]
def wsX4_neighbour : List Cond := .code yX4_neighbour cX4_neighbour 3 (some .int) :: ((wsX4_neighbour_r1 ++ (wsX4_neighbour_r2 ++ wsX4_neighbour_r3)) ++ wsX40 ++ wsX30)
def wsX4_ancestorAt : List Cond := .code yX4_ancestorAt cX4_ancestorAt 3 (some .int) :: ([.fieldLink RX4 10 "BracketTree" "tree" "LBracketTree$Tree;", .methodLink RX4 65 yX3_has, .instanceMethod yX3_has, .selects RX3 yX3_has yX3_has, .initialized RX3, .code yX3_has cX3_has 2 (some .boolean), .fieldLink RX3 28 "BracketTree$Tree" "count" "I", .methodLink RX4 69 yX3_depthOf, .instanceMethod yX3_depthOf, .selects RX3 yX3_depthOf yX3_depthOf, .code yX3_depthOf cX3_depthOf 2 (some .int), .fieldLink RX3 9 "BracketTree$Tree" "depths" "[I", .methodLink RX3 32 yX3_has, .static yX4_get, .initialized RX4, .code yX4_get cX4_get 2 (some .int), .methodLink RX4 124 yX3_climb, .instanceMethod yX3_climb, .selects RX3 yX3_climb yX3_climb, .code yX3_climb cX3_climb 4 (some .int), .methodLink RX3 40 yX3_depthOf] ++ wsX40 ++ wsX30)
def wsX4_common_r1 : List Cond := [Cond.fieldLink RX4 10 "BracketTree" "tree" "LBracketTree$Tree;", Cond.methodLink RX4 65 yX3_has, Cond.instanceMethod yX3_has, Cond.selects RX3 yX3_has yX3_has, Cond.initialized RX3, Cond.code yX3_has cX3_has 2 (some .boolean), Cond.fieldLink RX3 28 "BracketTree$Tree" "count" "I", Cond.methodLink RX4 127 yX3_meetingOf, Cond.instanceMethod yX3_meetingOf, Cond.selects RX3 yX3_meetingOf yX3_meetingOf, Cond.code yX3_meetingOf cX3_meetingOf 7 (some .int), Cond.methodLink RX3 57 Lib.Math.min.name, Cond.static Lib.Math.min.name, Cond.initialized "java/lang/Math", Cond.code Lib.Math.min.name Lib.Math.min.code 2 (some .int), Cond.methodLink RX3 62 Lib.Math.max.name, Cond.static Lib.Math.max.name, Cond.code Lib.Math.max.name Lib.Math.max.code 2 (some .int), Cond.methodLink RX3 40 yX3_depthOf, Cond.instanceMethod yX3_depthOf, Cond.selects RX3 yX3_depthOf yX3_depthOf, Cond.code yX3_depthOf cX3_depthOf 2 (some .int), Cond.fieldLink RX3 9 "BracketTree$Tree" "depths" "[I", Cond.methodLink RX3 32 yX3_has]
def wsX4_common_r2 : List Cond := [Cond.static yX4_get, Cond.initialized RX4, Cond.code yX4_get cX4_get 2 (some .int), Cond.methodLink RX3 47 yX3_climb, Cond.instanceMethod yX3_climb, Cond.selects RX3 yX3_climb yX3_climb, Cond.code yX3_climb cX3_climb 4 (some .int)]
def wsX4_common : List Cond := .code yX4_common cX4_common 3 (some .int) :: ((wsX4_common_r1 ++ wsX4_common_r2) ++ wsX40 ++ wsX30)
def wsX4_way_r1 : List Cond := [Cond.fieldLink RX4 10 "BracketTree" "tree" "LBracketTree$Tree;", Cond.methodLink RX4 65 yX3_has, Cond.instanceMethod yX3_has, Cond.selects RX3 yX3_has yX3_has, Cond.initialized RX3, Cond.code yX3_has cX3_has 2 (some .boolean), Cond.fieldLink RX3 28 "BracketTree$Tree" "count" "I", Cond.methodLink RX4 127 yX3_meetingOf, Cond.instanceMethod yX3_meetingOf, Cond.selects RX3 yX3_meetingOf yX3_meetingOf, Cond.code yX3_meetingOf cX3_meetingOf 7 (some .int), Cond.methodLink RX3 57 Lib.Math.min.name, Cond.static Lib.Math.min.name, Cond.initialized "java/lang/Math", Cond.code Lib.Math.min.name Lib.Math.min.code 2 (some .int), Cond.methodLink RX3 62 Lib.Math.max.name, Cond.static Lib.Math.max.name, Cond.code Lib.Math.max.name Lib.Math.max.code 2 (some .int), Cond.methodLink RX3 40 yX3_depthOf, Cond.instanceMethod yX3_depthOf, Cond.selects RX3 yX3_depthOf yX3_depthOf, Cond.code yX3_depthOf cX3_depthOf 2 (some .int), Cond.fieldLink RX3 9 "BracketTree$Tree" "depths" "[I", Cond.methodLink RX3 32 yX3_has]
def wsX4_way_r2 : List Cond := [Cond.static yX4_get, Cond.initialized RX4, Cond.code yX4_get cX4_get 2 (some .int), Cond.methodLink RX3 47 yX3_climb, Cond.instanceMethod yX3_climb, Cond.selects RX3 yX3_climb yX3_climb, Cond.code yX3_climb cX3_climb 4 (some .int), Cond.methodLink RX4 69 yX3_depthOf, Cond.methodLink RX4 124 yX3_climb]
def wsX4_way : List Cond := .code yX4_way cX4_way 7 (some .int) :: ((wsX4_way_r1 ++ wsX4_way_r2) ++ wsX40 ++ wsX30)
def wsX4_level : List Cond := .code yX4_level cX4_level 3 (some .int) :: ([.fieldLink RX4 10 "BracketTree" "tree" "LBracketTree$Tree;", .methodLink RX4 130 yX3_countAtDepth, .instanceMethod yX3_countAtDepth, .selects RX3 yX3_countAtDepth yX3_countAtDepth, .initialized RX3, .code yX3_countAtDepth cX3_countAtDepth 4 (some .int), .fieldLink RX3 28 "BracketTree$Tree" "count" "I", .methodLink RX3 40 yX3_depthOf, .instanceMethod yX3_depthOf, .selects RX3 yX3_depthOf yX3_depthOf, .code yX3_depthOf cX3_depthOf 2 (some .int), .fieldLink RX3 9 "BracketTree$Tree" "depths" "[I", .methodLink RX3 32 yX3_has, .instanceMethod yX3_has, .selects RX3 yX3_has yX3_has, .code yX3_has cX3_has 2 (some .boolean), .static yX4_get, .initialized RX4, .code yX4_get cX4_get 2 (some .int), .methodLink RX4 133 yX3_findAtDepth, .instanceMethod yX3_findAtDepth, .selects RX3 yX3_findAtDepth yX3_findAtDepth, .code yX3_findAtDepth cX3_findAtDepth 5 (some .int)] ++ wsX40 ++ wsX30)
def wsX4_byPostorder_r1 : List Cond := [Cond.fieldLink RX4 10 "BracketTree" "tree" "LBracketTree$Tree;", Cond.methodLink RX4 55 yX3_count, Cond.instanceMethod yX3_count, Cond.selects RX3 yX3_count yX3_count, Cond.initialized RX3, Cond.code yX3_count cX3_count 1 (some .int), Cond.fieldLink RX3 28 "BracketTree$Tree" "count" "I", Cond.methodLink RX4 136 yX3_findByPostorder, Cond.instanceMethod yX3_findByPostorder, Cond.selects RX3 yX3_findByPostorder yX3_findByPostorder, Cond.code yX3_findByPostorder cX3_findByPostorder 3 (some .int), Cond.methodLink RX3 54 yX3_postorderOf, Cond.instanceMethod yX3_postorderOf, Cond.selects RX3 yX3_postorderOf yX3_postorderOf, Cond.code yX3_postorderOf cX3_postorderOf 2 (some .int), Cond.methodLink RX3 44 yX3_endOf, Cond.instanceMethod yX3_endOf, Cond.selects RX3 yX3_endOf yX3_endOf, Cond.code yX3_endOf cX3_endOf 4 (some .int), Cond.methodLink RX3 40 yX3_depthOf, Cond.instanceMethod yX3_depthOf, Cond.selects RX3 yX3_depthOf yX3_depthOf, Cond.code yX3_depthOf cX3_depthOf 2 (some .int), Cond.fieldLink RX3 9 "BracketTree$Tree" "depths" "[I"]
def wsX4_byPostorder_r2 : List Cond := [Cond.methodLink RX3 32 yX3_has, Cond.instanceMethod yX3_has, Cond.selects RX3 yX3_has yX3_has, Cond.code yX3_has cX3_has 2 (some .boolean), Cond.static yX4_get, Cond.initialized RX4, Cond.code yX4_get cX4_get 2 (some .int)]
def wsX4_byPostorder : List Cond := .code yX4_byPostorder cX4_byPostorder 2 (some .int) :: ((wsX4_byPostorder_r1 ++ wsX4_byPostorder_r2) ++ wsX40 ++ wsX30)
def wsX4_deepest : List Cond := .code yX4_deepest cX4_deepest 2 (some .int) :: ([.fieldLink RX4 10 "BracketTree" "tree" "LBracketTree$Tree;", .methodLink RX4 65 yX3_has, .instanceMethod yX3_has, .selects RX3 yX3_has yX3_has, .initialized RX3, .code yX3_has cX3_has 2 (some .boolean), .fieldLink RX3 28 "BracketTree$Tree" "count" "I", .methodLink RX4 81 yX3_deepestOf, .instanceMethod yX3_deepestOf, .selects RX3 yX3_deepestOf yX3_deepestOf, .code yX3_deepestOf cX3_deepestOf 5 (some .int), .methodLink RX3 44 yX3_endOf, .instanceMethod yX3_endOf, .selects RX3 yX3_endOf yX3_endOf, .code yX3_endOf cX3_endOf 4 (some .int), .methodLink RX3 40 yX3_depthOf, .instanceMethod yX3_depthOf, .selects RX3 yX3_depthOf yX3_depthOf, .code yX3_depthOf cX3_depthOf 2 (some .int), .fieldLink RX3 9 "BracketTree$Tree" "depths" "[I", .methodLink RX3 32 yX3_has, .static yX4_get, .initialized RX4, .code yX4_get cX4_get 2 (some .int)] ++ wsX40 ++ wsX30)
def wsX4_bracket_r1 : List Cond := [Cond.fieldLink RX4 10 "BracketTree" "tree" "LBracketTree$Tree;", Cond.methodLink RX4 139 yX3_positionCount, Cond.instanceMethod yX3_positionCount, Cond.selects RX3 yX3_positionCount yX3_positionCount, Cond.initialized RX3, Cond.code yX3_positionCount cX3_positionCount 1 (some .int), Cond.fieldLink RX3 28 "BracketTree$Tree" "count" "I", Cond.methodLink RX4 142 yX3_nodeOfPosition, Cond.instanceMethod yX3_nodeOfPosition, Cond.selects RX3 yX3_nodeOfPosition yX3_nodeOfPosition, Cond.code yX3_nodeOfPosition cX3_nodeOfPosition 3 (some .int), Cond.methodLink RX3 77 yX3_openedBefore, Cond.instanceMethod yX3_openedBefore, Cond.selects RX3 yX3_openedBefore yX3_openedBefore, Cond.code yX3_openedBefore cX3_openedBefore 3 (some .int), Cond.methodLink RX3 74 yX3_openingOf, Cond.instanceMethod yX3_openingOf, Cond.selects RX3 yX3_openingOf yX3_openingOf, Cond.code yX3_openingOf cX3_openingOf 2 (some .int), Cond.methodLink RX3 40 yX3_depthOf, Cond.instanceMethod yX3_depthOf, Cond.selects RX3 yX3_depthOf yX3_depthOf, Cond.code yX3_depthOf cX3_depthOf 2 (some .int), Cond.fieldLink RX3 9 "BracketTree$Tree" "depths" "[I"]
def wsX4_bracket_r2 : List Cond := [Cond.methodLink RX3 32 yX3_has, Cond.instanceMethod yX3_has, Cond.selects RX3 yX3_has yX3_has, Cond.code yX3_has cX3_has 2 (some .boolean), Cond.static yX4_get, Cond.initialized RX4, Cond.code yX4_get cX4_get 2 (some .int), Cond.methodLink RX3 80 yX3_excessBefore, Cond.instanceMethod yX3_excessBefore, Cond.selects RX3 yX3_excessBefore yX3_excessBefore, Cond.code yX3_excessBefore cX3_excessBefore 2 (some .int), Cond.methodLink RX3 47 yX3_climb, Cond.instanceMethod yX3_climb, Cond.selects RX3 yX3_climb yX3_climb, Cond.code yX3_climb cX3_climb 4 (some .int), Cond.methodLink RX4 90 yX3_openingOf, Cond.methodLink RX4 145 yX3_excessBefore, Cond.methodLink RX4 93 yX3_closingOf, Cond.instanceMethod yX3_closingOf, Cond.selects RX3 yX3_closingOf yX3_closingOf, Cond.code yX3_closingOf cX3_closingOf 2 (some .int), Cond.methodLink RX3 71 yX3_sizeOf, Cond.instanceMethod yX3_sizeOf, Cond.selects RX3 yX3_sizeOf yX3_sizeOf]
def wsX4_bracket_r3 : List Cond := [Cond.code yX3_sizeOf cX3_sizeOf 2 (some .int), Cond.methodLink RX3 44 yX3_endOf, Cond.instanceMethod yX3_endOf, Cond.selects RX3 yX3_endOf yX3_endOf, Cond.code yX3_endOf cX3_endOf 4 (some .int), Cond.methodLink RX4 72 yX3_parentOf, Cond.instanceMethod yX3_parentOf, Cond.selects RX3 yX3_parentOf yX3_parentOf, Cond.code yX3_parentOf cX3_parentOf 2 (some .int)]
def wsX4_bracket : List Cond := .code yX4_bracket cX4_bracket 5 (some .int) :: ((wsX4_bracket_r1 ++ (wsX4_bracket_r2 ++ wsX4_bracket_r3)) ++ wsX40 ++ wsX30)
def wsX4_setWidth : List Cond := .code yX4_setWidth cX4_setWidth 2 (some .int) :: ([.fieldLink RX4 19 "BracketTree" "blocks" "LBracketTree$Blocks;", .methodLink RX4 148 yX0_changeWidth, .instanceMethod yX0_changeWidth, .selects RX0 yX0_changeWidth yX0_changeWidth, .initialized RX0, .code yX0_changeWidth cX0_changeWidth 3 (some .int), .fieldLink RX0 9 "BracketTree$Blocks" "width" "I"] ++ wsX40 ++ wsX00)
def wsX4_block_r1 : List Cond := [Cond.fieldLink RX4 19 "BracketTree" "blocks" "LBracketTree$Blocks;", Cond.fieldLink RX4 10 "BracketTree" "tree" "LBracketTree$Tree;", Cond.methodLink RX4 151 yX0_countFor, Cond.instanceMethod yX0_countFor, Cond.selects RX0 yX0_countFor yX0_countFor, Cond.initialized RX0, Cond.code yX0_countFor cX0_countFor 3 (some .int), Cond.fieldLink RX0 9 "BracketTree$Blocks" "width" "I", Cond.methodLink RX0 15 Lib.Math.max.name, Cond.static Lib.Math.max.name, Cond.initialized "java/lang/Math", Cond.code Lib.Math.max.name Lib.Math.max.code 2 (some .int), Cond.methodLink RX0 21 yX3_positionCount, Cond.instanceMethod yX3_positionCount, Cond.selects RX3 yX3_positionCount yX3_positionCount, Cond.initialized RX3, Cond.code yX3_positionCount cX3_positionCount 1 (some .int), Cond.fieldLink RX3 28 "BracketTree$Tree" "count" "I", Cond.methodLink RX4 155 yX0_startOf, Cond.instanceMethod yX0_startOf, Cond.selects RX0 yX0_startOf yX0_startOf, Cond.code yX0_startOf cX0_startOf 2 (some .int), Cond.methodLink RX4 145 yX3_excessBefore, Cond.instanceMethod yX3_excessBefore]
def wsX4_block_r2 : List Cond := [Cond.selects RX3 yX3_excessBefore yX3_excessBefore, Cond.code yX3_excessBefore cX3_excessBefore 2 (some .int), Cond.methodLink RX3 77 yX3_openedBefore, Cond.instanceMethod yX3_openedBefore, Cond.selects RX3 yX3_openedBefore yX3_openedBefore, Cond.code yX3_openedBefore cX3_openedBefore 3 (some .int), Cond.methodLink RX3 74 yX3_openingOf, Cond.instanceMethod yX3_openingOf, Cond.selects RX3 yX3_openingOf yX3_openingOf, Cond.code yX3_openingOf cX3_openingOf 2 (some .int), Cond.methodLink RX3 40 yX3_depthOf, Cond.instanceMethod yX3_depthOf, Cond.selects RX3 yX3_depthOf yX3_depthOf, Cond.code yX3_depthOf cX3_depthOf 2 (some .int), Cond.fieldLink RX3 9 "BracketTree$Tree" "depths" "[I", Cond.methodLink RX3 32 yX3_has, Cond.instanceMethod yX3_has, Cond.selects RX3 yX3_has yX3_has, Cond.code yX3_has cX3_has 2 (some .boolean), Cond.static yX4_get, Cond.initialized RX4, Cond.code yX4_get cX4_get 2 (some .int), Cond.methodLink RX4 158 yX0_leastExcess, Cond.instanceMethod yX0_leastExcess]
def wsX4_block_r3 : List Cond := [Cond.selects RX0 yX0_leastExcess yX0_leastExcess, Cond.code yX0_leastExcess cX0_leastExcess 7 (some .int), Cond.methodLink RX0 31 Lib.Math.min.name, Cond.static Lib.Math.min.name, Cond.code Lib.Math.min.name Lib.Math.min.code 2 (some .int), Cond.methodLink RX0 34 yX0_endOf, Cond.instanceMethod yX0_endOf, Cond.selects RX0 yX0_endOf yX0_endOf, Cond.code yX0_endOf cX0_endOf 3 (some .int), Cond.methodLink RX0 27 yX0_startOf, Cond.methodLink RX0 38 yX3_openedBefore, Cond.methodLink RX0 41 yX3_opensAt, Cond.instanceMethod yX3_opensAt, Cond.selects RX3 yX3_opensAt yX3_opensAt, Cond.code yX3_opensAt cX3_opensAt 3 (some .int), Cond.methodLink RX4 162 yX0_greatestExcess, Cond.instanceMethod yX0_greatestExcess, Cond.selects RX0 yX0_greatestExcess yX0_greatestExcess, Cond.code yX0_greatestExcess cX0_greatestExcess 7 (some .int), Cond.methodLink RX4 165 yX0_positionsOf, Cond.instanceMethod yX0_positionsOf, Cond.selects RX0 yX0_positionsOf yX0_positionsOf, Cond.code yX0_positionsOf cX0_positionsOf 3 (some .int)]
def wsX4_block : List Cond := .code yX4_block cX4_block 3 (some .int) :: ((wsX4_block_r1 ++ (wsX4_block_r2 ++ wsX4_block_r3)) ++ wsX40 ++ wsX00 ++ wsX30)
def wsX4_binaryDigits : List Cond := .code yX4_binaryDigits cX4_binaryDigits 2 (some .int) :: ([])
def wsX4_space_r1 : List Cond := [Cond.fieldLink RX4 10 "BracketTree" "tree" "LBracketTree$Tree;", Cond.fieldLink RX4 19 "BracketTree" "blocks" "LBracketTree$Blocks;", Cond.methodLink RX4 55 yX3_count, Cond.instanceMethod yX3_count, Cond.selects RX3 yX3_count yX3_count, Cond.initialized RX3, Cond.code yX3_count cX3_count 1 (some .int), Cond.fieldLink RX3 28 "BracketTree$Tree" "count" "I", Cond.methodLink RX4 168 yX4_binaryDigits, Cond.static yX4_binaryDigits, Cond.initialized RX4, Cond.code yX4_binaryDigits cX4_binaryDigits 2 (some .int), Cond.methodLink RX4 151 yX0_countFor, Cond.instanceMethod yX0_countFor, Cond.selects RX0 yX0_countFor yX0_countFor, Cond.initialized RX0, Cond.code yX0_countFor cX0_countFor 3 (some .int), Cond.fieldLink RX0 9 "BracketTree$Blocks" "width" "I", Cond.methodLink RX0 15 Lib.Math.max.name, Cond.static Lib.Math.max.name, Cond.initialized "java/lang/Math", Cond.code Lib.Math.max.name Lib.Math.max.code 2 (some .int), Cond.methodLink RX0 21 yX3_positionCount, Cond.instanceMethod yX3_positionCount]
def wsX4_space_r2 : List Cond := [Cond.selects RX3 yX3_positionCount yX3_positionCount, Cond.code yX3_positionCount cX3_positionCount 1 (some .int)]
def wsX4_space : List Cond := .code yX4_space cX4_space 5 (some .int) :: ((wsX4_space_r1 ++ wsX4_space_r2) ++ wsX40 ++ wsX30 ++ wsX00)
def wsX4_setLabel_r1 : List Cond := [Cond.fieldLink RX4 10 "BracketTree" "tree" "LBracketTree$Tree;", Cond.fieldLink RX4 26 "BracketTree" "history" "LBracketTree$History;", Cond.methodLink RX4 65 yX3_has, Cond.instanceMethod yX3_has, Cond.selects RX3 yX3_has yX3_has, Cond.initialized RX3, Cond.code yX3_has cX3_has 2 (some .boolean), Cond.fieldLink RX3 28 "BracketTree$Tree" "count" "I", Cond.methodLink RX4 171 yX4_isLetter, Cond.static yX4_isLetter, Cond.initialized RX4, Cond.code yX4_isLetter cX4_isLetter 1 (some .boolean), Cond.methodLink RX4 99 yX3_labelOf, Cond.instanceMethod yX3_labelOf, Cond.selects RX3 yX3_labelOf yX3_labelOf, Cond.code yX3_labelOf cX3_labelOf 2 (some .int), Cond.fieldLink RX3 15 "BracketTree$Tree" "labels" "[I", Cond.static yX4_get, Cond.code yX4_get cX4_get 2 (some .int), Cond.methodLink RX4 48 yX1_record, Cond.instanceMethod yX1_record, Cond.selects RX1 yX1_record yX1_record, Cond.initialized RX1, Cond.code yX1_record cX1_record 4 none]
def wsX4_setLabel_r2 : List Cond := [Cond.fieldLink RX1 25 "BracketTree$History" "slot" "I", Cond.fieldLink RX1 9 "BracketTree$History" "counts" "[I", Cond.fieldLink RX1 15 "BracketTree$History" "depths" "[I", Cond.fieldLink RX1 18 "BracketTree$History" "labels" "[I", Cond.fieldLink RX1 21 "BracketTree$History" "kept" "I", Cond.methodLink RX1 45 Lib.Math.min.name, Cond.static Lib.Math.min.name, Cond.initialized "java/lang/Math", Cond.code Lib.Math.min.name Lib.Math.min.code 2 (some .int), Cond.methodLink RX1 28 yX3_count, Cond.instanceMethod yX3_count, Cond.selects RX3 yX3_count yX3_count, Cond.code yX3_count cX3_count 1 (some .int), Cond.static yX4_put, Cond.code yX4_put cX4_put 3 none, Cond.methodLink RX1 38 yX3_depthOf, Cond.instanceMethod yX3_depthOf, Cond.selects RX3 yX3_depthOf yX3_depthOf, Cond.code yX3_depthOf cX3_depthOf 2 (some .int), Cond.fieldLink RX3 9 "BracketTree$Tree" "depths" "[I", Cond.methodLink RX3 32 yX3_has, Cond.methodLink RX1 42 yX3_labelOf, Cond.methodLink RX4 69 yX3_depthOf, Cond.methodLink RX4 174 yX3_putNode]
def wsX4_setLabel_r3 : List Cond := [Cond.instanceMethod yX3_putNode, Cond.selects RX3 yX3_putNode yX3_putNode, Cond.code yX3_putNode cX3_putNode 4 none]
def wsX4_setLabel : List Cond := .code yX4_setLabel cX4_setLabel 4 (some .int) :: ((wsX4_setLabel_r1 ++ (wsX4_setLabel_r2 ++ wsX4_setLabel_r3)) ++ wsX40 ++ wsX30 ++ wsX10)
def wsX4_labelled_r1 : List Cond := [Cond.fieldLink RX4 10 "BracketTree" "tree" "LBracketTree$Tree;", Cond.methodLink RX4 65 yX3_has, Cond.instanceMethod yX3_has, Cond.selects RX3 yX3_has yX3_has, Cond.initialized RX3, Cond.code yX3_has cX3_has 2 (some .boolean), Cond.fieldLink RX3 28 "BracketTree$Tree" "count" "I", Cond.methodLink RX4 171 yX4_isLetter, Cond.static yX4_isLetter, Cond.initialized RX4, Cond.code yX4_isLetter cX4_isLetter 1 (some .boolean), Cond.methodLink RX4 178 yX3_countLabel, Cond.instanceMethod yX3_countLabel, Cond.selects RX3 yX3_countLabel yX3_countLabel, Cond.code yX3_countLabel cX3_countLabel 6 (some .int), Cond.methodLink RX3 44 yX3_endOf, Cond.instanceMethod yX3_endOf, Cond.selects RX3 yX3_endOf yX3_endOf, Cond.code yX3_endOf cX3_endOf 4 (some .int), Cond.methodLink RX3 40 yX3_depthOf, Cond.instanceMethod yX3_depthOf, Cond.selects RX3 yX3_depthOf yX3_depthOf, Cond.code yX3_depthOf cX3_depthOf 2 (some .int), Cond.fieldLink RX3 9 "BracketTree$Tree" "depths" "[I"]
def wsX4_labelled_r2 : List Cond := [Cond.methodLink RX3 32 yX3_has, Cond.static yX4_get, Cond.code yX4_get cX4_get 2 (some .int), Cond.methodLink RX3 83 yX3_labelOf, Cond.instanceMethod yX3_labelOf, Cond.selects RX3 yX3_labelOf yX3_labelOf, Cond.code yX3_labelOf cX3_labelOf 2 (some .int), Cond.fieldLink RX3 15 "BracketTree$Tree" "labels" "[I"]
def wsX4_labelled : List Cond := .code yX4_labelled cX4_labelled 3 (some .int) :: ((wsX4_labelled_r1 ++ wsX4_labelled_r2) ++ wsX40 ++ wsX30)
def wsX4_select_r1 : List Cond := [Cond.fieldLink RX4 10 "BracketTree" "tree" "LBracketTree$Tree;", Cond.methodLink RX4 65 yX3_has, Cond.instanceMethod yX3_has, Cond.selects RX3 yX3_has yX3_has, Cond.initialized RX3, Cond.code yX3_has cX3_has 2 (some .boolean), Cond.fieldLink RX3 28 "BracketTree$Tree" "count" "I", Cond.methodLink RX4 171 yX4_isLetter, Cond.static yX4_isLetter, Cond.initialized RX4, Cond.code yX4_isLetter cX4_isLetter 1 (some .boolean), Cond.methodLink RX4 181 yX3_findLabel, Cond.instanceMethod yX3_findLabel, Cond.selects RX3 yX3_findLabel yX3_findLabel, Cond.code yX3_findLabel cX3_findLabel 7 (some .int), Cond.methodLink RX3 44 yX3_endOf, Cond.instanceMethod yX3_endOf, Cond.selects RX3 yX3_endOf yX3_endOf, Cond.code yX3_endOf cX3_endOf 4 (some .int), Cond.methodLink RX3 40 yX3_depthOf, Cond.instanceMethod yX3_depthOf, Cond.selects RX3 yX3_depthOf yX3_depthOf, Cond.code yX3_depthOf cX3_depthOf 2 (some .int), Cond.fieldLink RX3 9 "BracketTree$Tree" "depths" "[I"]
def wsX4_select_r2 : List Cond := [Cond.methodLink RX3 32 yX3_has, Cond.static yX4_get, Cond.code yX4_get cX4_get 2 (some .int), Cond.methodLink RX3 83 yX3_labelOf, Cond.instanceMethod yX3_labelOf, Cond.selects RX3 yX3_labelOf yX3_labelOf, Cond.code yX3_labelOf cX3_labelOf 2 (some .int), Cond.fieldLink RX3 15 "BracketTree$Tree" "labels" "[I"]
def wsX4_select : List Cond := .code yX4_select cX4_select 4 (some .int) :: ((wsX4_select_r1 ++ wsX4_select_r2) ++ wsX40 ++ wsX30)
def wsX4_ancestorWith_r1 : List Cond := [Cond.fieldLink RX4 10 "BracketTree" "tree" "LBracketTree$Tree;", Cond.methodLink RX4 65 yX3_has, Cond.instanceMethod yX3_has, Cond.selects RX3 yX3_has yX3_has, Cond.initialized RX3, Cond.code yX3_has cX3_has 2 (some .boolean), Cond.fieldLink RX3 28 "BracketTree$Tree" "count" "I", Cond.methodLink RX4 171 yX4_isLetter, Cond.static yX4_isLetter, Cond.initialized RX4, Cond.code yX4_isLetter cX4_isLetter 1 (some .boolean), Cond.methodLink RX4 185 yX3_findAncestor, Cond.instanceMethod yX3_findAncestor, Cond.selects RX3 yX3_findAncestor yX3_findAncestor, Cond.code yX3_findAncestor cX3_findAncestor 5 (some .int), Cond.methodLink RX3 40 yX3_depthOf, Cond.instanceMethod yX3_depthOf, Cond.selects RX3 yX3_depthOf yX3_depthOf, Cond.code yX3_depthOf cX3_depthOf 2 (some .int), Cond.fieldLink RX3 9 "BracketTree$Tree" "depths" "[I", Cond.methodLink RX3 32 yX3_has, Cond.static yX4_get, Cond.code yX4_get cX4_get 2 (some .int), Cond.methodLink RX3 83 yX3_labelOf]
def wsX4_ancestorWith_r2 : List Cond := [Cond.instanceMethod yX3_labelOf, Cond.selects RX3 yX3_labelOf yX3_labelOf, Cond.code yX3_labelOf cX3_labelOf 2 (some .int), Cond.fieldLink RX3 15 "BracketTree$Tree" "labels" "[I"]
def wsX4_ancestorWith : List Cond := .code yX4_ancestorWith cX4_ancestorWith 3 (some .int) :: ((wsX4_ancestorWith_r1 ++ wsX4_ancestorWith_r2) ++ wsX40 ++ wsX30)
def wsX4_areEqual_r1 : List Cond := [Cond.fieldLink RX4 10 "BracketTree" "tree" "LBracketTree$Tree;", Cond.methodLink RX4 65 yX3_has, Cond.instanceMethod yX3_has, Cond.selects RX3 yX3_has yX3_has, Cond.initialized RX3, Cond.code yX3_has cX3_has 2 (some .boolean), Cond.fieldLink RX3 28 "BracketTree$Tree" "count" "I", Cond.methodLink RX4 188 yX3_sameSubtrees, Cond.instanceMethod yX3_sameSubtrees, Cond.selects RX3 yX3_sameSubtrees yX3_sameSubtrees, Cond.code yX3_sameSubtrees cX3_sameSubtrees 6 (some .boolean), Cond.methodLink RX3 71 yX3_sizeOf, Cond.instanceMethod yX3_sizeOf, Cond.selects RX3 yX3_sizeOf yX3_sizeOf, Cond.code yX3_sizeOf cX3_sizeOf 2 (some .int), Cond.methodLink RX3 44 yX3_endOf, Cond.instanceMethod yX3_endOf, Cond.selects RX3 yX3_endOf yX3_endOf, Cond.code yX3_endOf cX3_endOf 4 (some .int), Cond.methodLink RX3 40 yX3_depthOf, Cond.instanceMethod yX3_depthOf, Cond.selects RX3 yX3_depthOf yX3_depthOf, Cond.code yX3_depthOf cX3_depthOf 2 (some .int), Cond.fieldLink RX3 9 "BracketTree$Tree" "depths" "[I"]
def wsX4_areEqual_r2 : List Cond := [Cond.methodLink RX3 32 yX3_has, Cond.static yX4_get, Cond.initialized RX4, Cond.code yX4_get cX4_get 2 (some .int), Cond.methodLink RX3 83 yX3_labelOf, Cond.instanceMethod yX3_labelOf, Cond.selects RX3 yX3_labelOf yX3_labelOf, Cond.code yX3_labelOf cX3_labelOf 2 (some .int), Cond.fieldLink RX3 15 "BracketTree$Tree" "labels" "[I"]
def wsX4_areEqual : List Cond := .code yX4_areEqual cX4_areEqual 3 (some .int) :: ((wsX4_areEqual_r1 ++ wsX4_areEqual_r2) ++ wsX40 ++ wsX30)
def wsX4_copies_r1 : List Cond := [Cond.fieldLink RX4 10 "BracketTree" "tree" "LBracketTree$Tree;", Cond.methodLink RX4 65 yX3_has, Cond.instanceMethod yX3_has, Cond.selects RX3 yX3_has yX3_has, Cond.initialized RX3, Cond.code yX3_has cX3_has 2 (some .boolean), Cond.fieldLink RX3 28 "BracketTree$Tree" "count" "I", Cond.methodLink RX4 192 yX3_countEqual, Cond.instanceMethod yX3_countEqual, Cond.selects RX3 yX3_countEqual yX3_countEqual, Cond.code yX3_countEqual cX3_countEqual 4 (some .int), Cond.methodLink RX3 86 yX3_sameSubtrees, Cond.instanceMethod yX3_sameSubtrees, Cond.selects RX3 yX3_sameSubtrees yX3_sameSubtrees, Cond.code yX3_sameSubtrees cX3_sameSubtrees 6 (some .boolean), Cond.methodLink RX3 71 yX3_sizeOf, Cond.instanceMethod yX3_sizeOf, Cond.selects RX3 yX3_sizeOf yX3_sizeOf, Cond.code yX3_sizeOf cX3_sizeOf 2 (some .int), Cond.methodLink RX3 44 yX3_endOf, Cond.instanceMethod yX3_endOf, Cond.selects RX3 yX3_endOf yX3_endOf, Cond.code yX3_endOf cX3_endOf 4 (some .int), Cond.methodLink RX3 40 yX3_depthOf]
def wsX4_copies_r2 : List Cond := [Cond.instanceMethod yX3_depthOf, Cond.selects RX3 yX3_depthOf yX3_depthOf, Cond.code yX3_depthOf cX3_depthOf 2 (some .int), Cond.fieldLink RX3 9 "BracketTree$Tree" "depths" "[I", Cond.methodLink RX3 32 yX3_has, Cond.static yX4_get, Cond.initialized RX4, Cond.code yX4_get cX4_get 2 (some .int), Cond.methodLink RX3 83 yX3_labelOf, Cond.instanceMethod yX3_labelOf, Cond.selects RX3 yX3_labelOf yX3_labelOf, Cond.code yX3_labelOf cX3_labelOf 2 (some .int), Cond.fieldLink RX3 15 "BracketTree$Tree" "labels" "[I"]
def wsX4_copies : List Cond := .code yX4_copies cX4_copies 2 (some .int) :: ((wsX4_copies_r1 ++ wsX4_copies_r2) ++ wsX40 ++ wsX30)
def wsX4_wrap_r1 : List Cond := [Cond.fieldLink RX4 10 "BracketTree" "tree" "LBracketTree$Tree;", Cond.fieldLink RX4 26 "BracketTree" "history" "LBracketTree$History;", Cond.methodLink RX4 65 yX3_has, Cond.instanceMethod yX3_has, Cond.selects RX3 yX3_has yX3_has, Cond.initialized RX3, Cond.code yX3_has cX3_has 2 (some .boolean), Cond.fieldLink RX3 28 "BracketTree$Tree" "count" "I", Cond.methodLink RX4 75 yX3_childCount, Cond.instanceMethod yX3_childCount, Cond.selects RX3 yX3_childCount yX3_childCount, Cond.code yX3_childCount cX3_childCount 5 (some .int), Cond.methodLink RX3 44 yX3_endOf, Cond.instanceMethod yX3_endOf, Cond.selects RX3 yX3_endOf yX3_endOf, Cond.code yX3_endOf cX3_endOf 4 (some .int), Cond.methodLink RX3 40 yX3_depthOf, Cond.instanceMethod yX3_depthOf, Cond.selects RX3 yX3_depthOf yX3_depthOf, Cond.code yX3_depthOf cX3_depthOf 2 (some .int), Cond.fieldLink RX3 9 "BracketTree$Tree" "depths" "[I", Cond.methodLink RX3 32 yX3_has, Cond.static yX4_get, Cond.initialized RX4]
def wsX4_wrap_r2 : List Cond := [Cond.code yX4_get cX4_get 2 (some .int), Cond.methodLink RX4 171 yX4_isLetter, Cond.static yX4_isLetter, Cond.code yX4_isLetter cX4_isLetter 1 (some .boolean), Cond.methodLink RX4 55 yX3_count, Cond.instanceMethod yX3_count, Cond.selects RX3 yX3_count yX3_count, Cond.code yX3_count cX3_count 1 (some .int), Cond.methodLink RX4 48 yX1_record, Cond.instanceMethod yX1_record, Cond.selects RX1 yX1_record yX1_record, Cond.initialized RX1, Cond.code yX1_record cX1_record 4 none, Cond.fieldLink RX1 25 "BracketTree$History" "slot" "I", Cond.fieldLink RX1 9 "BracketTree$History" "counts" "[I", Cond.fieldLink RX1 15 "BracketTree$History" "depths" "[I", Cond.fieldLink RX1 18 "BracketTree$History" "labels" "[I", Cond.fieldLink RX1 21 "BracketTree$History" "kept" "I", Cond.methodLink RX1 45 Lib.Math.min.name, Cond.static Lib.Math.min.name, Cond.initialized "java/lang/Math", Cond.code Lib.Math.min.name Lib.Math.min.code 2 (some .int), Cond.methodLink RX1 28 yX3_count, Cond.static yX4_put]
def wsX4_wrap_r3 : List Cond := [Cond.code yX4_put cX4_put 3 none, Cond.methodLink RX1 38 yX3_depthOf, Cond.methodLink RX1 42 yX3_labelOf, Cond.instanceMethod yX3_labelOf, Cond.selects RX3 yX3_labelOf yX3_labelOf, Cond.code yX3_labelOf cX3_labelOf 2 (some .int), Cond.fieldLink RX3 15 "BracketTree$Tree" "labels" "[I", Cond.methodLink RX4 199 yX3_wrapChildren, Cond.instanceMethod yX3_wrapChildren, Cond.selects RX3 yX3_wrapChildren yX3_wrapChildren, Cond.code yX3_wrapChildren cX3_wrapChildren 7 (some .int), Cond.methodLink RX3 97 yX3_startOfPlace, Cond.instanceMethod yX3_startOfPlace, Cond.selects RX3 yX3_startOfPlace yX3_startOfPlace, Cond.code yX3_startOfPlace cX3_startOfPlace 6 (some .int), Cond.methodLink RX3 100 yX3_sink, Cond.instanceMethod yX3_sink, Cond.selects RX3 yX3_sink yX3_sink, Cond.code yX3_sink cX3_sink 5 none, Cond.methodLink RX3 83 yX3_labelOf, Cond.methodLink RX3 93 yX3_putNode, Cond.instanceMethod yX3_putNode, Cond.selects RX3 yX3_putNode yX3_putNode, Cond.code yX3_putNode cX3_putNode 4 none]
def wsX4_wrap_r4 : List Cond := [Cond.methodLink RX3 103 yX3_openGap, Cond.instanceMethod yX3_openGap, Cond.selects RX3 yX3_openGap yX3_openGap, Cond.code yX3_openGap cX3_openGap 4 none, Cond.methodLink RX3 57 Lib.Math.min.name]
def wsX4_wrap : List Cond := .code yX4_wrap cX4_wrap 6 (some .int) :: ((wsX4_wrap_r1 ++ (wsX4_wrap_r2 ++ (wsX4_wrap_r3 ++ wsX4_wrap_r4))) ++ wsX40 ++ wsX30 ++ wsX10)
def wsX4_insert_r1 : List Cond := [Cond.methodLink RX4 195 yX4_wrap, Cond.instanceMethod yX4_wrap, Cond.selects RX4 yX4_wrap yX4_wrap, Cond.initialized RX4, Cond.code yX4_wrap cX4_wrap 6 (some .int), Cond.fieldLink RX4 10 "BracketTree" "tree" "LBracketTree$Tree;", Cond.fieldLink RX4 26 "BracketTree" "history" "LBracketTree$History;", Cond.methodLink RX4 65 yX3_has, Cond.instanceMethod yX3_has, Cond.selects RX3 yX3_has yX3_has, Cond.initialized RX3, Cond.code yX3_has cX3_has 2 (some .boolean), Cond.fieldLink RX3 28 "BracketTree$Tree" "count" "I", Cond.methodLink RX4 75 yX3_childCount, Cond.instanceMethod yX3_childCount, Cond.selects RX3 yX3_childCount yX3_childCount, Cond.code yX3_childCount cX3_childCount 5 (some .int), Cond.methodLink RX3 44 yX3_endOf, Cond.instanceMethod yX3_endOf, Cond.selects RX3 yX3_endOf yX3_endOf, Cond.code yX3_endOf cX3_endOf 4 (some .int), Cond.methodLink RX3 40 yX3_depthOf, Cond.instanceMethod yX3_depthOf, Cond.selects RX3 yX3_depthOf yX3_depthOf]
def wsX4_insert_r2 : List Cond := [Cond.code yX3_depthOf cX3_depthOf 2 (some .int), Cond.fieldLink RX3 9 "BracketTree$Tree" "depths" "[I", Cond.methodLink RX3 32 yX3_has, Cond.static yX4_get, Cond.code yX4_get cX4_get 2 (some .int), Cond.methodLink RX4 171 yX4_isLetter, Cond.static yX4_isLetter, Cond.code yX4_isLetter cX4_isLetter 1 (some .boolean), Cond.methodLink RX4 55 yX3_count, Cond.instanceMethod yX3_count, Cond.selects RX3 yX3_count yX3_count, Cond.code yX3_count cX3_count 1 (some .int), Cond.methodLink RX4 48 yX1_record, Cond.instanceMethod yX1_record, Cond.selects RX1 yX1_record yX1_record, Cond.initialized RX1, Cond.code yX1_record cX1_record 4 none, Cond.fieldLink RX1 25 "BracketTree$History" "slot" "I", Cond.fieldLink RX1 9 "BracketTree$History" "counts" "[I", Cond.fieldLink RX1 15 "BracketTree$History" "depths" "[I", Cond.fieldLink RX1 18 "BracketTree$History" "labels" "[I", Cond.fieldLink RX1 21 "BracketTree$History" "kept" "I", Cond.methodLink RX1 45 Lib.Math.min.name, Cond.static Lib.Math.min.name]
def wsX4_insert_r3 : List Cond := [Cond.initialized "java/lang/Math", Cond.code Lib.Math.min.name Lib.Math.min.code 2 (some .int), Cond.methodLink RX1 28 yX3_count, Cond.static yX4_put, Cond.code yX4_put cX4_put 3 none, Cond.methodLink RX1 38 yX3_depthOf, Cond.methodLink RX1 42 yX3_labelOf, Cond.instanceMethod yX3_labelOf, Cond.selects RX3 yX3_labelOf yX3_labelOf, Cond.code yX3_labelOf cX3_labelOf 2 (some .int), Cond.fieldLink RX3 15 "BracketTree$Tree" "labels" "[I", Cond.methodLink RX4 199 yX3_wrapChildren, Cond.instanceMethod yX3_wrapChildren, Cond.selects RX3 yX3_wrapChildren yX3_wrapChildren, Cond.code yX3_wrapChildren cX3_wrapChildren 7 (some .int), Cond.methodLink RX3 97 yX3_startOfPlace, Cond.instanceMethod yX3_startOfPlace, Cond.selects RX3 yX3_startOfPlace yX3_startOfPlace, Cond.code yX3_startOfPlace cX3_startOfPlace 6 (some .int), Cond.methodLink RX3 100 yX3_sink, Cond.instanceMethod yX3_sink, Cond.selects RX3 yX3_sink yX3_sink, Cond.code yX3_sink cX3_sink 5 none, Cond.methodLink RX3 83 yX3_labelOf]
def wsX4_insert_r4 : List Cond := [Cond.methodLink RX3 93 yX3_putNode, Cond.instanceMethod yX3_putNode, Cond.selects RX3 yX3_putNode yX3_putNode, Cond.code yX3_putNode cX3_putNode 4 none, Cond.methodLink RX3 103 yX3_openGap, Cond.instanceMethod yX3_openGap, Cond.selects RX3 yX3_openGap yX3_openGap, Cond.code yX3_openGap cX3_openGap 4 none, Cond.methodLink RX3 57 Lib.Math.min.name]
def wsX4_insert : List Cond := .code yX4_insert cX4_insert 4 (some .int) :: ((wsX4_insert_r1 ++ (wsX4_insert_r2 ++ (wsX4_insert_r3 ++ wsX4_insert_r4))) ++ wsX40 ++ wsX30 ++ wsX10)
def wsX4_remove_r1 : List Cond := [Cond.fieldLink RX4 10 "BracketTree" "tree" "LBracketTree$Tree;", Cond.fieldLink RX4 26 "BracketTree" "history" "LBracketTree$History;", Cond.methodLink RX4 65 yX3_has, Cond.instanceMethod yX3_has, Cond.selects RX3 yX3_has yX3_has, Cond.initialized RX3, Cond.code yX3_has cX3_has 2 (some .boolean), Cond.fieldLink RX3 28 "BracketTree$Tree" "count" "I", Cond.methodLink RX4 48 yX1_record, Cond.instanceMethod yX1_record, Cond.selects RX1 yX1_record yX1_record, Cond.initialized RX1, Cond.code yX1_record cX1_record 4 none, Cond.fieldLink RX1 25 "BracketTree$History" "slot" "I", Cond.fieldLink RX1 9 "BracketTree$History" "counts" "[I", Cond.fieldLink RX1 15 "BracketTree$History" "depths" "[I", Cond.fieldLink RX1 18 "BracketTree$History" "labels" "[I", Cond.fieldLink RX1 21 "BracketTree$History" "kept" "I", Cond.methodLink RX1 45 Lib.Math.min.name, Cond.static Lib.Math.min.name, Cond.initialized "java/lang/Math", Cond.code Lib.Math.min.name Lib.Math.min.code 2 (some .int), Cond.methodLink RX1 28 yX3_count, Cond.instanceMethod yX3_count]
def wsX4_remove_r2 : List Cond := [Cond.selects RX3 yX3_count yX3_count, Cond.code yX3_count cX3_count 1 (some .int), Cond.static yX4_put, Cond.initialized RX4, Cond.code yX4_put cX4_put 3 none, Cond.methodLink RX1 38 yX3_depthOf, Cond.instanceMethod yX3_depthOf, Cond.selects RX3 yX3_depthOf yX3_depthOf, Cond.code yX3_depthOf cX3_depthOf 2 (some .int), Cond.fieldLink RX3 9 "BracketTree$Tree" "depths" "[I", Cond.methodLink RX3 32 yX3_has, Cond.static yX4_get, Cond.code yX4_get cX4_get 2 (some .int), Cond.methodLink RX1 42 yX3_labelOf, Cond.instanceMethod yX3_labelOf, Cond.selects RX3 yX3_labelOf yX3_labelOf, Cond.code yX3_labelOf cX3_labelOf 2 (some .int), Cond.fieldLink RX3 15 "BracketTree$Tree" "labels" "[I", Cond.methodLink RX4 203 yX3_dissolve, Cond.instanceMethod yX3_dissolve, Cond.selects RX3 yX3_dissolve yX3_dissolve, Cond.code yX3_dissolve cX3_dissolve 2 none, Cond.methodLink RX3 44 yX3_endOf, Cond.instanceMethod yX3_endOf]
def wsX4_remove_r3 : List Cond := [Cond.selects RX3 yX3_endOf yX3_endOf, Cond.code yX3_endOf cX3_endOf 4 (some .int), Cond.methodLink RX3 40 yX3_depthOf, Cond.methodLink RX3 100 yX3_sink, Cond.instanceMethod yX3_sink, Cond.selects RX3 yX3_sink yX3_sink, Cond.code yX3_sink cX3_sink 5 none, Cond.methodLink RX3 83 yX3_labelOf, Cond.methodLink RX3 93 yX3_putNode, Cond.instanceMethod yX3_putNode, Cond.selects RX3 yX3_putNode yX3_putNode, Cond.code yX3_putNode cX3_putNode 4 none, Cond.methodLink RX3 107 yX3_closeGap, Cond.instanceMethod yX3_closeGap, Cond.selects RX3 yX3_closeGap yX3_closeGap, Cond.code yX3_closeGap cX3_closeGap 4 none, Cond.methodLink RX3 62 Lib.Math.max.name, Cond.static Lib.Math.max.name, Cond.code Lib.Math.max.name Lib.Math.max.code 2 (some .int), Cond.methodLink RX4 55 yX3_count]
def wsX4_remove : List Cond := .code yX4_remove cX4_remove 2 (some .int) :: ((wsX4_remove_r1 ++ (wsX4_remove_r2 ++ wsX4_remove_r3)) ++ wsX40 ++ wsX30 ++ wsX10)
def wsX4_cut_r1 : List Cond := [Cond.fieldLink RX4 10 "BracketTree" "tree" "LBracketTree$Tree;", Cond.fieldLink RX4 26 "BracketTree" "history" "LBracketTree$History;", Cond.methodLink RX4 65 yX3_has, Cond.instanceMethod yX3_has, Cond.selects RX3 yX3_has yX3_has, Cond.initialized RX3, Cond.code yX3_has cX3_has 2 (some .boolean), Cond.fieldLink RX3 28 "BracketTree$Tree" "count" "I", Cond.methodLink RX4 48 yX1_record, Cond.instanceMethod yX1_record, Cond.selects RX1 yX1_record yX1_record, Cond.initialized RX1, Cond.code yX1_record cX1_record 4 none, Cond.fieldLink RX1 25 "BracketTree$History" "slot" "I", Cond.fieldLink RX1 9 "BracketTree$History" "counts" "[I", Cond.fieldLink RX1 15 "BracketTree$History" "depths" "[I", Cond.fieldLink RX1 18 "BracketTree$History" "labels" "[I", Cond.fieldLink RX1 21 "BracketTree$History" "kept" "I", Cond.methodLink RX1 45 Lib.Math.min.name, Cond.static Lib.Math.min.name, Cond.initialized "java/lang/Math", Cond.code Lib.Math.min.name Lib.Math.min.code 2 (some .int), Cond.methodLink RX1 28 yX3_count, Cond.instanceMethod yX3_count]
def wsX4_cut_r2 : List Cond := [Cond.selects RX3 yX3_count yX3_count, Cond.code yX3_count cX3_count 1 (some .int), Cond.static yX4_put, Cond.initialized RX4, Cond.code yX4_put cX4_put 3 none, Cond.methodLink RX1 38 yX3_depthOf, Cond.instanceMethod yX3_depthOf, Cond.selects RX3 yX3_depthOf yX3_depthOf, Cond.code yX3_depthOf cX3_depthOf 2 (some .int), Cond.fieldLink RX3 9 "BracketTree$Tree" "depths" "[I", Cond.methodLink RX3 32 yX3_has, Cond.static yX4_get, Cond.code yX4_get cX4_get 2 (some .int), Cond.methodLink RX1 42 yX3_labelOf, Cond.instanceMethod yX3_labelOf, Cond.selects RX3 yX3_labelOf yX3_labelOf, Cond.code yX3_labelOf cX3_labelOf 2 (some .int), Cond.fieldLink RX3 15 "BracketTree$Tree" "labels" "[I", Cond.methodLink RX4 78 yX3_sizeOf, Cond.instanceMethod yX3_sizeOf, Cond.selects RX3 yX3_sizeOf yX3_sizeOf, Cond.code yX3_sizeOf cX3_sizeOf 2 (some .int), Cond.methodLink RX3 44 yX3_endOf, Cond.instanceMethod yX3_endOf]
def wsX4_cut_r3 : List Cond := [Cond.selects RX3 yX3_endOf yX3_endOf, Cond.code yX3_endOf cX3_endOf 4 (some .int), Cond.methodLink RX3 40 yX3_depthOf, Cond.methodLink RX4 207 yX3_closeGap, Cond.instanceMethod yX3_closeGap, Cond.selects RX3 yX3_closeGap yX3_closeGap, Cond.code yX3_closeGap cX3_closeGap 4 none, Cond.methodLink RX3 62 Lib.Math.max.name, Cond.static Lib.Math.max.name, Cond.code Lib.Math.max.name Lib.Math.max.code 2 (some .int), Cond.methodLink RX3 83 yX3_labelOf, Cond.methodLink RX3 93 yX3_putNode, Cond.instanceMethod yX3_putNode, Cond.selects RX3 yX3_putNode yX3_putNode, Cond.code yX3_putNode cX3_putNode 4 none, Cond.methodLink RX4 55 yX3_count]
def wsX4_cut : List Cond := .code yX4_cut cX4_cut 2 (some .int) :: ((wsX4_cut_r1 ++ (wsX4_cut_r2 ++ wsX4_cut_r3)) ++ wsX40 ++ wsX30 ++ wsX10)
def wsX4_move_r1 : List Cond := [Cond.fieldLink RX4 10 "BracketTree" "tree" "LBracketTree$Tree;", Cond.fieldLink RX4 26 "BracketTree" "history" "LBracketTree$History;", Cond.methodLink RX4 65 yX3_has, Cond.instanceMethod yX3_has, Cond.selects RX3 yX3_has yX3_has, Cond.initialized RX3, Cond.code yX3_has cX3_has 2 (some .boolean), Cond.fieldLink RX3 28 "BracketTree$Tree" "count" "I", Cond.methodLink RX4 211 yX3_endOf, Cond.instanceMethod yX3_endOf, Cond.selects RX3 yX3_endOf yX3_endOf, Cond.code yX3_endOf cX3_endOf 4 (some .int), Cond.methodLink RX3 40 yX3_depthOf, Cond.instanceMethod yX3_depthOf, Cond.selects RX3 yX3_depthOf yX3_depthOf, Cond.code yX3_depthOf cX3_depthOf 2 (some .int), Cond.fieldLink RX3 9 "BracketTree$Tree" "depths" "[I", Cond.methodLink RX3 32 yX3_has, Cond.static yX4_get, Cond.initialized RX4, Cond.code yX4_get cX4_get 2 (some .int), Cond.methodLink RX4 75 yX3_childCount, Cond.instanceMethod yX3_childCount, Cond.selects RX3 yX3_childCount yX3_childCount]
def wsX4_move_r2 : List Cond := [Cond.code yX3_childCount cX3_childCount 5 (some .int), Cond.methodLink RX3 44 yX3_endOf, Cond.methodLink RX4 72 yX3_parentOf, Cond.instanceMethod yX3_parentOf, Cond.selects RX3 yX3_parentOf yX3_parentOf, Cond.code yX3_parentOf cX3_parentOf 2 (some .int), Cond.methodLink RX3 47 yX3_climb, Cond.instanceMethod yX3_climb, Cond.selects RX3 yX3_climb yX3_climb, Cond.code yX3_climb cX3_climb 4 (some .int), Cond.methodLink RX4 48 yX1_record, Cond.instanceMethod yX1_record, Cond.selects RX1 yX1_record yX1_record, Cond.initialized RX1, Cond.code yX1_record cX1_record 4 none, Cond.fieldLink RX1 25 "BracketTree$History" "slot" "I", Cond.fieldLink RX1 9 "BracketTree$History" "counts" "[I", Cond.fieldLink RX1 15 "BracketTree$History" "depths" "[I", Cond.fieldLink RX1 18 "BracketTree$History" "labels" "[I", Cond.fieldLink RX1 21 "BracketTree$History" "kept" "I", Cond.methodLink RX1 45 Lib.Math.min.name, Cond.static Lib.Math.min.name, Cond.initialized "java/lang/Math", Cond.code Lib.Math.min.name Lib.Math.min.code 2 (some .int)]
def wsX4_move_r3 : List Cond := [Cond.methodLink RX1 28 yX3_count, Cond.instanceMethod yX3_count, Cond.selects RX3 yX3_count yX3_count, Cond.code yX3_count cX3_count 1 (some .int), Cond.static yX4_put, Cond.code yX4_put cX4_put 3 none, Cond.methodLink RX1 38 yX3_depthOf, Cond.methodLink RX1 42 yX3_labelOf, Cond.instanceMethod yX3_labelOf, Cond.selects RX3 yX3_labelOf yX3_labelOf, Cond.code yX3_labelOf cX3_labelOf 2 (some .int), Cond.fieldLink RX3 15 "BracketTree$Tree" "labels" "[I", Cond.methodLink RX4 214 yX3_transplant, Cond.instanceMethod yX3_transplant, Cond.selects RX3 yX3_transplant yX3_transplant, Cond.code yX3_transplant cX3_transplant 7 (some .int), Cond.methodLink RX3 71 yX3_sizeOf, Cond.instanceMethod yX3_sizeOf, Cond.selects RX3 yX3_sizeOf yX3_sizeOf, Cond.code yX3_sizeOf cX3_sizeOf 2 (some .int), Cond.methodLink RX3 110 yX3_hold, Cond.instanceMethod yX3_hold, Cond.selects RX3 yX3_hold yX3_hold, Cond.code yX3_hold cX3_hold 4 none]
def wsX4_move_r4 : List Cond := [Cond.fieldLink RX3 18 "BracketTree$Tree" "heldDepths" "[I", Cond.fieldLink RX3 21 "BracketTree$Tree" "heldLabels" "[I", Cond.methodLink RX3 83 yX3_labelOf, Cond.methodLink RX3 107 yX3_closeGap, Cond.instanceMethod yX3_closeGap, Cond.selects RX3 yX3_closeGap yX3_closeGap, Cond.code yX3_closeGap cX3_closeGap 4 none, Cond.methodLink RX3 62 Lib.Math.max.name, Cond.static Lib.Math.max.name, Cond.code Lib.Math.max.name Lib.Math.max.code 2 (some .int), Cond.methodLink RX3 93 yX3_putNode, Cond.instanceMethod yX3_putNode, Cond.selects RX3 yX3_putNode yX3_putNode, Cond.code yX3_putNode cX3_putNode 4 none, Cond.methodLink RX3 97 yX3_startOfPlace, Cond.instanceMethod yX3_startOfPlace, Cond.selects RX3 yX3_startOfPlace yX3_startOfPlace, Cond.code yX3_startOfPlace cX3_startOfPlace 6 (some .int), Cond.methodLink RX3 103 yX3_openGap, Cond.instanceMethod yX3_openGap, Cond.selects RX3 yX3_openGap yX3_openGap, Cond.code yX3_openGap cX3_openGap 4 none, Cond.methodLink RX3 57 Lib.Math.min.name, Cond.methodLink RX3 113 yX3_release]
def wsX4_move_r5 : List Cond := [Cond.instanceMethod yX3_release, Cond.selects RX3 yX3_release yX3_release, Cond.code yX3_release cX3_release 5 none]
def wsX4_move : List Cond := .code yX4_move cX4_move 5 (some .int) :: ((wsX4_move_r1 ++ (wsX4_move_r2 ++ (wsX4_move_r3 ++ (wsX4_move_r4 ++ wsX4_move_r5)))) ++ wsX40 ++ wsX30 ++ wsX10)
def wsX4_undo_r1 : List Cond := [Cond.fieldLink RX4 26 "BracketTree" "history" "LBracketTree$History;", Cond.fieldLink RX4 10 "BracketTree" "tree" "LBracketTree$Tree;", Cond.methodLink RX4 217 yX1_isBlank, Cond.instanceMethod yX1_isBlank, Cond.selects RX1 yX1_isBlank yX1_isBlank, Cond.initialized RX1, Cond.code yX1_isBlank cX1_isBlank 1 (some .boolean), Cond.fieldLink RX1 21 "BracketTree$History" "kept" "I", Cond.methodLink RX4 221 yX1_recall, Cond.instanceMethod yX1_recall, Cond.selects RX1 yX1_recall yX1_recall, Cond.code yX1_recall cX1_recall 5 (some .int), Cond.fieldLink RX1 25 "BracketTree$History" "slot" "I", Cond.methodLink RX1 51 Lib.Math.max.name, Cond.static Lib.Math.max.name, Cond.initialized "java/lang/Math", Cond.code Lib.Math.max.name Lib.Math.max.code 2 (some .int), Cond.fieldLink RX1 9 "BracketTree$History" "counts" "[I", Cond.fieldLink RX1 15 "BracketTree$History" "depths" "[I", Cond.fieldLink RX1 18 "BracketTree$History" "labels" "[I", Cond.static yX4_get, Cond.initialized RX4, Cond.code yX4_get cX4_get 2 (some .int), Cond.methodLink RX1 58 yX3_empty]
def wsX4_undo_r2 : List Cond := [Cond.instanceMethod yX3_empty, Cond.selects RX3 yX3_empty yX3_empty, Cond.initialized RX3, Cond.code yX3_empty cX3_empty 1 none, Cond.fieldLink RX3 28 "BracketTree$Tree" "count" "I", Cond.methodLink RX1 61 yX3_append, Cond.instanceMethod yX3_append, Cond.selects RX3 yX3_append yX3_append, Cond.code yX3_append cX3_append 3 none, Cond.methodLink RX3 93 yX3_putNode, Cond.instanceMethod yX3_putNode, Cond.selects RX3 yX3_putNode yX3_putNode, Cond.code yX3_putNode cX3_putNode 4 none, Cond.fieldLink RX3 9 "BracketTree$Tree" "depths" "[I", Cond.fieldLink RX3 15 "BracketTree$Tree" "labels" "[I", Cond.static yX4_put, Cond.code yX4_put cX4_put 3 none]
def wsX4_undo : List Cond := .code yX4_undo cX4_undo 1 (some .int) :: ((wsX4_undo_r1 ++ wsX4_undo_r2) ++ wsX40 ++ wsX10 ++ wsX30)
def wsJ9_max_7cf53 : List Cond := .code yJ9_max_7cf53 cJ9_max_7cf53 2 (some .int) :: ([])
def wsJ9_min_7cf53 : List Cond := .code yJ9_min_7cf53 cJ9_min_7cf53 2 (some .int) :: ([])
def wsL_cell : List Cond := .code yL_cell cL_cell 2 (some .int) :: ([.constant RL 7 (4270009)])
def wsL_low : List Cond := .code yL_low cL_low 2 (some .int) :: ([.constant RL 8 (2147483647)])
def wsL_node_r1 : List Cond := [Cond.methodLink RL 9 yX4_size, Cond.instanceMethod yX4_size, Cond.selects RX4 yX4_size yX4_size, Cond.initialized RX4, Cond.code yX4_size cX4_size 1 (some .int), Cond.fieldLink RX4 10 "BracketTree" "tree" "LBracketTree$Tree;", Cond.methodLink RX4 55 yX3_count, Cond.instanceMethod yX3_count, Cond.selects RX3 yX3_count yX3_count, Cond.initialized RX3, Cond.code yX3_count cX3_count 1 (some .int), Cond.fieldLink RX3 28 "BracketTree$Tree" "count" "I", Cond.methodLink RL 15 yX4_node, Cond.instanceMethod yX4_node, Cond.selects RX4 yX4_node yX4_node, Cond.code yX4_node cX4_node 3 (some .int), Cond.methodLink RX4 65 yX3_has, Cond.instanceMethod yX3_has, Cond.selects RX3 yX3_has yX3_has, Cond.code yX3_has cX3_has 2 (some .boolean), Cond.methodLink RX4 69 yX3_depthOf, Cond.instanceMethod yX3_depthOf, Cond.selects RX3 yX3_depthOf yX3_depthOf, Cond.code yX3_depthOf cX3_depthOf 2 (some .int)]
def wsL_node_r2 : List Cond := [Cond.fieldLink RX3 9 "BracketTree$Tree" "depths" "[I", Cond.methodLink RX3 32 yX3_has, Cond.static yX4_get, Cond.code yX4_get cX4_get 2 (some .int), Cond.methodLink RX4 72 yX3_parentOf, Cond.instanceMethod yX3_parentOf, Cond.selects RX3 yX3_parentOf yX3_parentOf, Cond.code yX3_parentOf cX3_parentOf 2 (some .int), Cond.methodLink RX3 40 yX3_depthOf, Cond.methodLink RX3 47 yX3_climb, Cond.instanceMethod yX3_climb, Cond.selects RX3 yX3_climb yX3_climb, Cond.code yX3_climb cX3_climb 4 (some .int), Cond.methodLink RX4 75 yX3_childCount, Cond.instanceMethod yX3_childCount, Cond.selects RX3 yX3_childCount yX3_childCount, Cond.code yX3_childCount cX3_childCount 5 (some .int), Cond.methodLink RX3 44 yX3_endOf, Cond.instanceMethod yX3_endOf, Cond.selects RX3 yX3_endOf yX3_endOf, Cond.code yX3_endOf cX3_endOf 4 (some .int), Cond.methodLink RX4 78 yX3_sizeOf, Cond.instanceMethod yX3_sizeOf, Cond.selects RX3 yX3_sizeOf yX3_sizeOf]
def wsL_node_r3 : List Cond := [Cond.code yX3_sizeOf cX3_sizeOf 2 (some .int), Cond.methodLink RX4 81 yX3_deepestOf, Cond.instanceMethod yX3_deepestOf, Cond.selects RX3 yX3_deepestOf yX3_deepestOf, Cond.code yX3_deepestOf cX3_deepestOf 5 (some .int), Cond.methodLink RX4 84 yX3_placeOf, Cond.instanceMethod yX3_placeOf, Cond.selects RX3 yX3_placeOf yX3_placeOf, Cond.code yX3_placeOf cX3_placeOf 5 (some .int), Cond.methodLink RX4 87 yX3_leafCount, Cond.instanceMethod yX3_leafCount, Cond.selects RX3 yX3_leafCount yX3_leafCount, Cond.code yX3_leafCount cX3_leafCount 5 (some .int), Cond.methodLink RX3 51 yX3_isLeaf, Cond.instanceMethod yX3_isLeaf, Cond.selects RX3 yX3_isLeaf yX3_isLeaf, Cond.code yX3_isLeaf cX3_isLeaf 2 (some .boolean), Cond.methodLink RX4 90 yX3_openingOf, Cond.instanceMethod yX3_openingOf, Cond.selects RX3 yX3_openingOf yX3_openingOf, Cond.code yX3_openingOf cX3_openingOf 2 (some .int), Cond.methodLink RX4 93 yX3_closingOf, Cond.instanceMethod yX3_closingOf, Cond.selects RX3 yX3_closingOf yX3_closingOf]
def wsL_node_r4 : List Cond := [Cond.code yX3_closingOf cX3_closingOf 2 (some .int), Cond.methodLink RX3 74 yX3_openingOf, Cond.methodLink RX3 71 yX3_sizeOf, Cond.methodLink RX4 96 yX3_postorderOf, Cond.instanceMethod yX3_postorderOf, Cond.selects RX3 yX3_postorderOf yX3_postorderOf, Cond.code yX3_postorderOf cX3_postorderOf 2 (some .int), Cond.methodLink RX4 99 yX3_labelOf, Cond.instanceMethod yX3_labelOf, Cond.selects RX3 yX3_labelOf yX3_labelOf, Cond.code yX3_labelOf cX3_labelOf 2 (some .int), Cond.fieldLink RX3 15 "BracketTree$Tree" "labels" "[I", Cond.methodLink RL 19 yX4_child, Cond.instanceMethod yX4_child, Cond.selects RX4 yX4_child yX4_child, Cond.code yX4_child cX4_child 3 (some .int), Cond.methodLink RX4 102 yX3_startOfPlace, Cond.instanceMethod yX3_startOfPlace, Cond.selects RX3 yX3_startOfPlace yX3_startOfPlace, Cond.code yX3_startOfPlace cX3_startOfPlace 6 (some .int), Cond.methodLink RL 22 yX4_neighbour, Cond.instanceMethod yX4_neighbour, Cond.selects RX4 yX4_neighbour yX4_neighbour, Cond.code yX4_neighbour cX4_neighbour 3 (some .int)]
def wsL_node_r5 : List Cond := [Cond.methodLink RX4 106 yX3_nextSibling, Cond.instanceMethod yX3_nextSibling, Cond.selects RX3 yX3_nextSibling yX3_nextSibling, Cond.code yX3_nextSibling cX3_nextSibling 3 (some .int), Cond.methodLink RX4 109 yX3_previousSibling, Cond.instanceMethod yX3_previousSibling, Cond.selects RX3 yX3_previousSibling yX3_previousSibling, Cond.code yX3_previousSibling cX3_previousSibling 2 (some .int), Cond.methodLink RX3 65 yX3_placeOf, Cond.methodLink RX3 68 yX3_previousAtDepth, Cond.instanceMethod yX3_previousAtDepth, Cond.selects RX3 yX3_previousAtDepth yX3_previousAtDepth, Cond.code yX3_previousAtDepth cX3_previousAtDepth 2 (some .int), Cond.methodLink RX4 112 yX3_nextAtDepth, Cond.instanceMethod yX3_nextAtDepth, Cond.selects RX3 yX3_nextAtDepth yX3_nextAtDepth, Cond.code yX3_nextAtDepth cX3_nextAtDepth 3 (some .int), Cond.methodLink RX4 115 yX3_previousAtDepth, Cond.methodLink RX4 118 yX3_nextLeaf, Cond.instanceMethod yX3_nextLeaf, Cond.selects RX3 yX3_nextLeaf yX3_nextLeaf, Cond.code yX3_nextLeaf cX3_nextLeaf 3 (some .int), Cond.methodLink RX4 121 yX3_largestChild, Cond.instanceMethod yX3_largestChild]
def wsL_node_r6 : List Cond := [Cond.selects RX3 yX3_largestChild yX3_largestChild, Cond.code yX3_largestChild cX3_largestChild 6 (some .int), Cond.methodLink RL 25 yX4_bracket, Cond.instanceMethod yX4_bracket, Cond.selects RX4 yX4_bracket yX4_bracket, Cond.code yX4_bracket cX4_bracket 5 (some .int), Cond.methodLink RX4 139 yX3_positionCount, Cond.instanceMethod yX3_positionCount, Cond.selects RX3 yX3_positionCount yX3_positionCount, Cond.code yX3_positionCount cX3_positionCount 1 (some .int), Cond.methodLink RX4 142 yX3_nodeOfPosition, Cond.instanceMethod yX3_nodeOfPosition, Cond.selects RX3 yX3_nodeOfPosition yX3_nodeOfPosition, Cond.code yX3_nodeOfPosition cX3_nodeOfPosition 3 (some .int), Cond.methodLink RX3 77 yX3_openedBefore, Cond.instanceMethod yX3_openedBefore, Cond.selects RX3 yX3_openedBefore yX3_openedBefore, Cond.code yX3_openedBefore cX3_openedBefore 3 (some .int), Cond.methodLink RX3 80 yX3_excessBefore, Cond.instanceMethod yX3_excessBefore, Cond.selects RX3 yX3_excessBefore yX3_excessBefore, Cond.code yX3_excessBefore cX3_excessBefore 2 (some .int), Cond.methodLink RX4 145 yX3_excessBefore, Cond.methodLink RL 28 yX4_deepest]
def wsL_node_r7 : List Cond := [Cond.instanceMethod yX4_deepest, Cond.selects RX4 yX4_deepest yX4_deepest, Cond.code yX4_deepest cX4_deepest 2 (some .int), Cond.methodLink RL 32 yX4_byPostorder, Cond.instanceMethod yX4_byPostorder, Cond.selects RX4 yX4_byPostorder yX4_byPostorder, Cond.code yX4_byPostorder cX4_byPostorder 2 (some .int), Cond.methodLink RX4 136 yX3_findByPostorder, Cond.instanceMethod yX3_findByPostorder, Cond.selects RX3 yX3_findByPostorder yX3_findByPostorder, Cond.code yX3_findByPostorder cX3_findByPostorder 3 (some .int), Cond.methodLink RX3 54 yX3_postorderOf]
def wsL_node : List Cond := .code yL_node cL_node 22 (some .boolean) :: ((wsL_node_r1 ++ (wsL_node_r2 ++ (wsL_node_r3 ++ (wsL_node_r4 ++ (wsL_node_r5 ++ (wsL_node_r6 ++ wsL_node_r7)))))) ++ wsX40 ++ wsX30)
def wsL_two_r1 : List Cond := [Cond.methodLink RL 9 yX4_size, Cond.instanceMethod yX4_size, Cond.selects RX4 yX4_size yX4_size, Cond.initialized RX4, Cond.code yX4_size cX4_size 1 (some .int), Cond.fieldLink RX4 10 "BracketTree" "tree" "LBracketTree$Tree;", Cond.methodLink RX4 55 yX3_count, Cond.instanceMethod yX3_count, Cond.selects RX3 yX3_count yX3_count, Cond.initialized RX3, Cond.code yX3_count cX3_count 1 (some .int), Cond.fieldLink RX3 28 "BracketTree$Tree" "count" "I", Cond.methodLink RL 35 yX4_common, Cond.instanceMethod yX4_common, Cond.selects RX4 yX4_common yX4_common, Cond.code yX4_common cX4_common 3 (some .int), Cond.methodLink RX4 65 yX3_has, Cond.instanceMethod yX3_has, Cond.selects RX3 yX3_has yX3_has, Cond.code yX3_has cX3_has 2 (some .boolean), Cond.methodLink RX4 127 yX3_meetingOf, Cond.instanceMethod yX3_meetingOf, Cond.selects RX3 yX3_meetingOf yX3_meetingOf, Cond.code yX3_meetingOf cX3_meetingOf 7 (some .int)]
def wsL_two_r2 : List Cond := [Cond.methodLink RX3 57 Lib.Math.min.name, Cond.static Lib.Math.min.name, Cond.initialized "java/lang/Math", Cond.code Lib.Math.min.name Lib.Math.min.code 2 (some .int), Cond.methodLink RX3 62 Lib.Math.max.name, Cond.static Lib.Math.max.name, Cond.code Lib.Math.max.name Lib.Math.max.code 2 (some .int), Cond.methodLink RX3 40 yX3_depthOf, Cond.instanceMethod yX3_depthOf, Cond.selects RX3 yX3_depthOf yX3_depthOf, Cond.code yX3_depthOf cX3_depthOf 2 (some .int), Cond.fieldLink RX3 9 "BracketTree$Tree" "depths" "[I", Cond.methodLink RX3 32 yX3_has, Cond.static yX4_get, Cond.code yX4_get cX4_get 2 (some .int), Cond.methodLink RX3 47 yX3_climb, Cond.instanceMethod yX3_climb, Cond.selects RX3 yX3_climb yX3_climb, Cond.code yX3_climb cX3_climb 4 (some .int), Cond.methodLink RL 15 yX4_node, Cond.instanceMethod yX4_node, Cond.selects RX4 yX4_node yX4_node, Cond.code yX4_node cX4_node 3 (some .int), Cond.methodLink RX4 69 yX3_depthOf]
def wsL_two_r3 : List Cond := [Cond.methodLink RX4 72 yX3_parentOf, Cond.instanceMethod yX3_parentOf, Cond.selects RX3 yX3_parentOf yX3_parentOf, Cond.code yX3_parentOf cX3_parentOf 2 (some .int), Cond.methodLink RX4 75 yX3_childCount, Cond.instanceMethod yX3_childCount, Cond.selects RX3 yX3_childCount yX3_childCount, Cond.code yX3_childCount cX3_childCount 5 (some .int), Cond.methodLink RX3 44 yX3_endOf, Cond.instanceMethod yX3_endOf, Cond.selects RX3 yX3_endOf yX3_endOf, Cond.code yX3_endOf cX3_endOf 4 (some .int), Cond.methodLink RX4 78 yX3_sizeOf, Cond.instanceMethod yX3_sizeOf, Cond.selects RX3 yX3_sizeOf yX3_sizeOf, Cond.code yX3_sizeOf cX3_sizeOf 2 (some .int), Cond.methodLink RX4 81 yX3_deepestOf, Cond.instanceMethod yX3_deepestOf, Cond.selects RX3 yX3_deepestOf yX3_deepestOf, Cond.code yX3_deepestOf cX3_deepestOf 5 (some .int), Cond.methodLink RX4 84 yX3_placeOf, Cond.instanceMethod yX3_placeOf, Cond.selects RX3 yX3_placeOf yX3_placeOf, Cond.code yX3_placeOf cX3_placeOf 5 (some .int)]
def wsL_two_r4 : List Cond := [Cond.methodLink RX4 87 yX3_leafCount, Cond.instanceMethod yX3_leafCount, Cond.selects RX3 yX3_leafCount yX3_leafCount, Cond.code yX3_leafCount cX3_leafCount 5 (some .int), Cond.methodLink RX3 51 yX3_isLeaf, Cond.instanceMethod yX3_isLeaf, Cond.selects RX3 yX3_isLeaf yX3_isLeaf, Cond.code yX3_isLeaf cX3_isLeaf 2 (some .boolean), Cond.methodLink RX4 90 yX3_openingOf, Cond.instanceMethod yX3_openingOf, Cond.selects RX3 yX3_openingOf yX3_openingOf, Cond.code yX3_openingOf cX3_openingOf 2 (some .int), Cond.methodLink RX4 93 yX3_closingOf, Cond.instanceMethod yX3_closingOf, Cond.selects RX3 yX3_closingOf yX3_closingOf, Cond.code yX3_closingOf cX3_closingOf 2 (some .int), Cond.methodLink RX3 74 yX3_openingOf, Cond.methodLink RX3 71 yX3_sizeOf, Cond.methodLink RX4 96 yX3_postorderOf, Cond.instanceMethod yX3_postorderOf, Cond.selects RX3 yX3_postorderOf yX3_postorderOf, Cond.code yX3_postorderOf cX3_postorderOf 2 (some .int), Cond.methodLink RX4 99 yX3_labelOf, Cond.instanceMethod yX3_labelOf]
def wsL_two_r5 : List Cond := [Cond.selects RX3 yX3_labelOf yX3_labelOf, Cond.code yX3_labelOf cX3_labelOf 2 (some .int), Cond.fieldLink RX3 15 "BracketTree$Tree" "labels" "[I", Cond.methodLink RL 38 yX4_ancestorAt, Cond.instanceMethod yX4_ancestorAt, Cond.selects RX4 yX4_ancestorAt yX4_ancestorAt, Cond.code yX4_ancestorAt cX4_ancestorAt 3 (some .int), Cond.methodLink RX4 124 yX3_climb, Cond.methodLink RL 41 yX4_way, Cond.instanceMethod yX4_way, Cond.selects RX4 yX4_way yX4_way, Cond.code yX4_way cX4_way 7 (some .int), Cond.methodLink RL 45 yX4_level, Cond.instanceMethod yX4_level, Cond.selects RX4 yX4_level yX4_level, Cond.code yX4_level cX4_level 3 (some .int), Cond.methodLink RX4 130 yX3_countAtDepth, Cond.instanceMethod yX3_countAtDepth, Cond.selects RX3 yX3_countAtDepth yX3_countAtDepth, Cond.code yX3_countAtDepth cX3_countAtDepth 4 (some .int), Cond.methodLink RX4 133 yX3_findAtDepth, Cond.instanceMethod yX3_findAtDepth, Cond.selects RX3 yX3_findAtDepth yX3_findAtDepth, Cond.code yX3_findAtDepth cX3_findAtDepth 5 (some .int)]
def wsL_two_r6 : List Cond := [Cond.methodLink RL 22 yX4_neighbour, Cond.instanceMethod yX4_neighbour, Cond.selects RX4 yX4_neighbour yX4_neighbour, Cond.code yX4_neighbour cX4_neighbour 3 (some .int), Cond.methodLink RX4 106 yX3_nextSibling, Cond.instanceMethod yX3_nextSibling, Cond.selects RX3 yX3_nextSibling yX3_nextSibling, Cond.code yX3_nextSibling cX3_nextSibling 3 (some .int), Cond.methodLink RX4 109 yX3_previousSibling, Cond.instanceMethod yX3_previousSibling, Cond.selects RX3 yX3_previousSibling yX3_previousSibling, Cond.code yX3_previousSibling cX3_previousSibling 2 (some .int), Cond.methodLink RX3 65 yX3_placeOf, Cond.methodLink RX3 68 yX3_previousAtDepth, Cond.instanceMethod yX3_previousAtDepth, Cond.selects RX3 yX3_previousAtDepth yX3_previousAtDepth, Cond.code yX3_previousAtDepth cX3_previousAtDepth 2 (some .int), Cond.methodLink RX4 112 yX3_nextAtDepth, Cond.instanceMethod yX3_nextAtDepth, Cond.selects RX3 yX3_nextAtDepth yX3_nextAtDepth, Cond.code yX3_nextAtDepth cX3_nextAtDepth 3 (some .int), Cond.methodLink RX4 115 yX3_previousAtDepth, Cond.methodLink RX4 118 yX3_nextLeaf, Cond.instanceMethod yX3_nextLeaf]
def wsL_two_r7 : List Cond := [Cond.selects RX3 yX3_nextLeaf yX3_nextLeaf, Cond.code yX3_nextLeaf cX3_nextLeaf 3 (some .int), Cond.methodLink RX4 121 yX3_largestChild, Cond.instanceMethod yX3_largestChild, Cond.selects RX3 yX3_largestChild yX3_largestChild, Cond.code yX3_largestChild cX3_largestChild 6 (some .int)]
def wsL_two : List Cond := .code yL_two cL_two 14 (some .boolean) :: ((wsL_two_r1 ++ (wsL_two_r2 ++ (wsL_two_r3 ++ (wsL_two_r4 ++ (wsL_two_r5 ++ (wsL_two_r6 ++ wsL_two_r7)))))) ++ wsX40 ++ wsX30)
def wsL_labels_r1 : List Cond := [Cond.methodLink RL 15 yX4_node, Cond.instanceMethod yX4_node, Cond.selects RX4 yX4_node yX4_node, Cond.initialized RX4, Cond.code yX4_node cX4_node 3 (some .int), Cond.fieldLink RX4 10 "BracketTree" "tree" "LBracketTree$Tree;", Cond.methodLink RX4 65 yX3_has, Cond.instanceMethod yX3_has, Cond.selects RX3 yX3_has yX3_has, Cond.initialized RX3, Cond.code yX3_has cX3_has 2 (some .boolean), Cond.fieldLink RX3 28 "BracketTree$Tree" "count" "I", Cond.methodLink RX4 69 yX3_depthOf, Cond.instanceMethod yX3_depthOf, Cond.selects RX3 yX3_depthOf yX3_depthOf, Cond.code yX3_depthOf cX3_depthOf 2 (some .int), Cond.fieldLink RX3 9 "BracketTree$Tree" "depths" "[I", Cond.methodLink RX3 32 yX3_has, Cond.static yX4_get, Cond.code yX4_get cX4_get 2 (some .int), Cond.methodLink RX4 72 yX3_parentOf, Cond.instanceMethod yX3_parentOf, Cond.selects RX3 yX3_parentOf yX3_parentOf, Cond.code yX3_parentOf cX3_parentOf 2 (some .int)]
def wsL_labels_r2 : List Cond := [Cond.methodLink RX3 40 yX3_depthOf, Cond.methodLink RX3 47 yX3_climb, Cond.instanceMethod yX3_climb, Cond.selects RX3 yX3_climb yX3_climb, Cond.code yX3_climb cX3_climb 4 (some .int), Cond.methodLink RX4 75 yX3_childCount, Cond.instanceMethod yX3_childCount, Cond.selects RX3 yX3_childCount yX3_childCount, Cond.code yX3_childCount cX3_childCount 5 (some .int), Cond.methodLink RX3 44 yX3_endOf, Cond.instanceMethod yX3_endOf, Cond.selects RX3 yX3_endOf yX3_endOf, Cond.code yX3_endOf cX3_endOf 4 (some .int), Cond.methodLink RX4 78 yX3_sizeOf, Cond.instanceMethod yX3_sizeOf, Cond.selects RX3 yX3_sizeOf yX3_sizeOf, Cond.code yX3_sizeOf cX3_sizeOf 2 (some .int), Cond.methodLink RX4 81 yX3_deepestOf, Cond.instanceMethod yX3_deepestOf, Cond.selects RX3 yX3_deepestOf yX3_deepestOf, Cond.code yX3_deepestOf cX3_deepestOf 5 (some .int), Cond.methodLink RX4 84 yX3_placeOf, Cond.instanceMethod yX3_placeOf, Cond.selects RX3 yX3_placeOf yX3_placeOf]
def wsL_labels_r3 : List Cond := [Cond.code yX3_placeOf cX3_placeOf 5 (some .int), Cond.methodLink RX4 87 yX3_leafCount, Cond.instanceMethod yX3_leafCount, Cond.selects RX3 yX3_leafCount yX3_leafCount, Cond.code yX3_leafCount cX3_leafCount 5 (some .int), Cond.methodLink RX3 51 yX3_isLeaf, Cond.instanceMethod yX3_isLeaf, Cond.selects RX3 yX3_isLeaf yX3_isLeaf, Cond.code yX3_isLeaf cX3_isLeaf 2 (some .boolean), Cond.methodLink RX4 90 yX3_openingOf, Cond.instanceMethod yX3_openingOf, Cond.selects RX3 yX3_openingOf yX3_openingOf, Cond.code yX3_openingOf cX3_openingOf 2 (some .int), Cond.methodLink RX4 93 yX3_closingOf, Cond.instanceMethod yX3_closingOf, Cond.selects RX3 yX3_closingOf yX3_closingOf, Cond.code yX3_closingOf cX3_closingOf 2 (some .int), Cond.methodLink RX3 74 yX3_openingOf, Cond.methodLink RX3 71 yX3_sizeOf, Cond.methodLink RX4 96 yX3_postorderOf, Cond.instanceMethod yX3_postorderOf, Cond.selects RX3 yX3_postorderOf yX3_postorderOf, Cond.code yX3_postorderOf cX3_postorderOf 2 (some .int), Cond.methodLink RX4 99 yX3_labelOf]
def wsL_labels_r4 : List Cond := [Cond.instanceMethod yX3_labelOf, Cond.selects RX3 yX3_labelOf yX3_labelOf, Cond.code yX3_labelOf cX3_labelOf 2 (some .int), Cond.fieldLink RX3 15 "BracketTree$Tree" "labels" "[I", Cond.methodLink RL 48 yX4_labelled, Cond.instanceMethod yX4_labelled, Cond.selects RX4 yX4_labelled yX4_labelled, Cond.code yX4_labelled cX4_labelled 3 (some .int), Cond.methodLink RX4 171 yX4_isLetter, Cond.static yX4_isLetter, Cond.code yX4_isLetter cX4_isLetter 1 (some .boolean), Cond.methodLink RX4 178 yX3_countLabel, Cond.instanceMethod yX3_countLabel, Cond.selects RX3 yX3_countLabel yX3_countLabel, Cond.code yX3_countLabel cX3_countLabel 6 (some .int), Cond.methodLink RX3 83 yX3_labelOf, Cond.methodLink RL 52 yX4_select, Cond.instanceMethod yX4_select, Cond.selects RX4 yX4_select yX4_select, Cond.code yX4_select cX4_select 4 (some .int), Cond.methodLink RX4 181 yX3_findLabel, Cond.instanceMethod yX3_findLabel, Cond.selects RX3 yX3_findLabel yX3_findLabel, Cond.code yX3_findLabel cX3_findLabel 7 (some .int)]
def wsL_labels_r5 : List Cond := [Cond.methodLink RL 9 yX4_size, Cond.instanceMethod yX4_size, Cond.selects RX4 yX4_size yX4_size, Cond.code yX4_size cX4_size 1 (some .int), Cond.methodLink RX4 55 yX3_count, Cond.instanceMethod yX3_count, Cond.selects RX3 yX3_count yX3_count, Cond.code yX3_count cX3_count 1 (some .int), Cond.methodLink RL 56 yX4_areEqual, Cond.instanceMethod yX4_areEqual, Cond.selects RX4 yX4_areEqual yX4_areEqual, Cond.code yX4_areEqual cX4_areEqual 3 (some .int), Cond.methodLink RX4 188 yX3_sameSubtrees, Cond.instanceMethod yX3_sameSubtrees, Cond.selects RX3 yX3_sameSubtrees yX3_sameSubtrees, Cond.code yX3_sameSubtrees cX3_sameSubtrees 6 (some .boolean), Cond.methodLink RL 19 yX4_child, Cond.instanceMethod yX4_child, Cond.selects RX4 yX4_child yX4_child, Cond.code yX4_child cX4_child 3 (some .int), Cond.methodLink RX4 102 yX3_startOfPlace, Cond.instanceMethod yX3_startOfPlace, Cond.selects RX3 yX3_startOfPlace yX3_startOfPlace, Cond.code yX3_startOfPlace cX3_startOfPlace 6 (some .int)]
def wsL_labels_r6 : List Cond := [Cond.methodLink RL 59 yX4_copies, Cond.instanceMethod yX4_copies, Cond.selects RX4 yX4_copies yX4_copies, Cond.code yX4_copies cX4_copies 2 (some .int), Cond.methodLink RX4 192 yX3_countEqual, Cond.instanceMethod yX3_countEqual, Cond.selects RX3 yX3_countEqual yX3_countEqual, Cond.code yX3_countEqual cX3_countEqual 4 (some .int), Cond.methodLink RX3 86 yX3_sameSubtrees, Cond.methodLink RL 62 yX4_ancestorWith, Cond.instanceMethod yX4_ancestorWith, Cond.selects RX4 yX4_ancestorWith yX4_ancestorWith, Cond.code yX4_ancestorWith cX4_ancestorWith 3 (some .int), Cond.methodLink RX4 185 yX3_findAncestor, Cond.instanceMethod yX3_findAncestor, Cond.selects RX3 yX3_findAncestor yX3_findAncestor, Cond.code yX3_findAncestor cX3_findAncestor 5 (some .int)]
def wsL_labels : List Cond := .code yL_labels cL_labels 11 (some .boolean) :: ((wsL_labels_r1 ++ (wsL_labels_r2 ++ (wsL_labels_r3 ++ (wsL_labels_r4 ++ (wsL_labels_r5 ++ wsL_labels_r6))))) ++ wsX40 ++ wsX30)
def wsL_blocks_r1 : List Cond := [Cond.methodLink RL 9 yX4_size, Cond.instanceMethod yX4_size, Cond.selects RX4 yX4_size yX4_size, Cond.initialized RX4, Cond.code yX4_size cX4_size 1 (some .int), Cond.fieldLink RX4 10 "BracketTree" "tree" "LBracketTree$Tree;", Cond.methodLink RX4 55 yX3_count, Cond.instanceMethod yX3_count, Cond.selects RX3 yX3_count yX3_count, Cond.initialized RX3, Cond.code yX3_count cX3_count 1 (some .int), Cond.fieldLink RX3 28 "BracketTree$Tree" "count" "I", Cond.methodLink RL 65 yX4_space, Cond.instanceMethod yX4_space, Cond.selects RX4 yX4_space yX4_space, Cond.code yX4_space cX4_space 5 (some .int), Cond.fieldLink RX4 19 "BracketTree" "blocks" "LBracketTree$Blocks;", Cond.methodLink RX4 168 yX4_binaryDigits, Cond.static yX4_binaryDigits, Cond.code yX4_binaryDigits cX4_binaryDigits 2 (some .int), Cond.methodLink RX4 151 yX0_countFor, Cond.instanceMethod yX0_countFor, Cond.selects RX0 yX0_countFor yX0_countFor, Cond.initialized RX0]
def wsL_blocks_r2 : List Cond := [Cond.code yX0_countFor cX0_countFor 3 (some .int), Cond.fieldLink RX0 9 "BracketTree$Blocks" "width" "I", Cond.methodLink RX0 15 Lib.Math.max.name, Cond.static Lib.Math.max.name, Cond.initialized "java/lang/Math", Cond.code Lib.Math.max.name Lib.Math.max.code 2 (some .int), Cond.methodLink RX0 21 yX3_positionCount, Cond.instanceMethod yX3_positionCount, Cond.selects RX3 yX3_positionCount yX3_positionCount, Cond.code yX3_positionCount cX3_positionCount 1 (some .int), Cond.methodLink RL 68 yX4_block, Cond.instanceMethod yX4_block, Cond.selects RX4 yX4_block yX4_block, Cond.code yX4_block cX4_block 3 (some .int), Cond.methodLink RX4 155 yX0_startOf, Cond.instanceMethod yX0_startOf, Cond.selects RX0 yX0_startOf yX0_startOf, Cond.code yX0_startOf cX0_startOf 2 (some .int), Cond.methodLink RX4 145 yX3_excessBefore, Cond.instanceMethod yX3_excessBefore, Cond.selects RX3 yX3_excessBefore yX3_excessBefore, Cond.code yX3_excessBefore cX3_excessBefore 2 (some .int), Cond.methodLink RX3 77 yX3_openedBefore, Cond.instanceMethod yX3_openedBefore]
def wsL_blocks_r3 : List Cond := [Cond.selects RX3 yX3_openedBefore yX3_openedBefore, Cond.code yX3_openedBefore cX3_openedBefore 3 (some .int), Cond.methodLink RX3 74 yX3_openingOf, Cond.instanceMethod yX3_openingOf, Cond.selects RX3 yX3_openingOf yX3_openingOf, Cond.code yX3_openingOf cX3_openingOf 2 (some .int), Cond.methodLink RX3 40 yX3_depthOf, Cond.instanceMethod yX3_depthOf, Cond.selects RX3 yX3_depthOf yX3_depthOf, Cond.code yX3_depthOf cX3_depthOf 2 (some .int), Cond.fieldLink RX3 9 "BracketTree$Tree" "depths" "[I", Cond.methodLink RX3 32 yX3_has, Cond.instanceMethod yX3_has, Cond.selects RX3 yX3_has yX3_has, Cond.code yX3_has cX3_has 2 (some .boolean), Cond.static yX4_get, Cond.code yX4_get cX4_get 2 (some .int), Cond.methodLink RX4 158 yX0_leastExcess, Cond.instanceMethod yX0_leastExcess, Cond.selects RX0 yX0_leastExcess yX0_leastExcess, Cond.code yX0_leastExcess cX0_leastExcess 7 (some .int), Cond.methodLink RX0 31 Lib.Math.min.name, Cond.static Lib.Math.min.name, Cond.code Lib.Math.min.name Lib.Math.min.code 2 (some .int)]
def wsL_blocks_r4 : List Cond := [Cond.methodLink RX0 34 yX0_endOf, Cond.instanceMethod yX0_endOf, Cond.selects RX0 yX0_endOf yX0_endOf, Cond.code yX0_endOf cX0_endOf 3 (some .int), Cond.methodLink RX0 27 yX0_startOf, Cond.methodLink RX0 38 yX3_openedBefore, Cond.methodLink RX0 41 yX3_opensAt, Cond.instanceMethod yX3_opensAt, Cond.selects RX3 yX3_opensAt yX3_opensAt, Cond.code yX3_opensAt cX3_opensAt 3 (some .int), Cond.methodLink RX4 162 yX0_greatestExcess, Cond.instanceMethod yX0_greatestExcess, Cond.selects RX0 yX0_greatestExcess yX0_greatestExcess, Cond.code yX0_greatestExcess cX0_greatestExcess 7 (some .int), Cond.methodLink RX4 165 yX0_positionsOf, Cond.instanceMethod yX0_positionsOf, Cond.selects RX0 yX0_positionsOf yX0_positionsOf, Cond.code yX0_positionsOf cX0_positionsOf 3 (some .int), Cond.methodLink RL 25 yX4_bracket, Cond.instanceMethod yX4_bracket, Cond.selects RX4 yX4_bracket yX4_bracket, Cond.code yX4_bracket cX4_bracket 5 (some .int), Cond.methodLink RX4 139 yX3_positionCount, Cond.methodLink RX4 142 yX3_nodeOfPosition]
def wsL_blocks_r5 : List Cond := [Cond.instanceMethod yX3_nodeOfPosition, Cond.selects RX3 yX3_nodeOfPosition yX3_nodeOfPosition, Cond.code yX3_nodeOfPosition cX3_nodeOfPosition 3 (some .int), Cond.methodLink RX3 80 yX3_excessBefore, Cond.methodLink RX3 47 yX3_climb, Cond.instanceMethod yX3_climb, Cond.selects RX3 yX3_climb yX3_climb, Cond.code yX3_climb cX3_climb 4 (some .int), Cond.methodLink RX4 90 yX3_openingOf, Cond.methodLink RX4 93 yX3_closingOf, Cond.instanceMethod yX3_closingOf, Cond.selects RX3 yX3_closingOf yX3_closingOf, Cond.code yX3_closingOf cX3_closingOf 2 (some .int), Cond.methodLink RX3 71 yX3_sizeOf, Cond.instanceMethod yX3_sizeOf, Cond.selects RX3 yX3_sizeOf yX3_sizeOf, Cond.code yX3_sizeOf cX3_sizeOf 2 (some .int), Cond.methodLink RX3 44 yX3_endOf, Cond.instanceMethod yX3_endOf, Cond.selects RX3 yX3_endOf yX3_endOf, Cond.code yX3_endOf cX3_endOf 4 (some .int), Cond.methodLink RX4 72 yX3_parentOf, Cond.instanceMethod yX3_parentOf, Cond.selects RX3 yX3_parentOf yX3_parentOf]
def wsL_blocks_r6 : List Cond := [Cond.code yX3_parentOf cX3_parentOf 2 (some .int)]
def wsL_blocks : List Cond := .code yL_blocks cL_blocks 11 (some .boolean) :: ((wsL_blocks_r1 ++ (wsL_blocks_r2 ++ (wsL_blocks_r3 ++ (wsL_blocks_r4 ++ (wsL_blocks_r5 ++ wsL_blocks_r6))))) ++ wsX40 ++ wsX30 ++ wsX00)
def wsL_print_r1 : List Cond := [Cond.constantLong RL 71 (1000003), Cond.constantLong RL 73 (31), Cond.methodLink RL 9 yX4_size, Cond.instanceMethod yX4_size, Cond.selects RX4 yX4_size yX4_size, Cond.initialized RX4, Cond.code yX4_size cX4_size 1 (some .int), Cond.fieldLink RX4 10 "BracketTree" "tree" "LBracketTree$Tree;", Cond.methodLink RX4 55 yX3_count, Cond.instanceMethod yX3_count, Cond.selects RX3 yX3_count yX3_count, Cond.initialized RX3, Cond.code yX3_count cX3_count 1 (some .int), Cond.fieldLink RX3 28 "BracketTree$Tree" "count" "I", Cond.methodLink RL 15 yX4_node, Cond.instanceMethod yX4_node, Cond.selects RX4 yX4_node yX4_node, Cond.code yX4_node cX4_node 3 (some .int), Cond.methodLink RX4 65 yX3_has, Cond.instanceMethod yX3_has, Cond.selects RX3 yX3_has yX3_has, Cond.code yX3_has cX3_has 2 (some .boolean), Cond.methodLink RX4 69 yX3_depthOf, Cond.instanceMethod yX3_depthOf]
def wsL_print_r2 : List Cond := [Cond.selects RX3 yX3_depthOf yX3_depthOf, Cond.code yX3_depthOf cX3_depthOf 2 (some .int), Cond.fieldLink RX3 9 "BracketTree$Tree" "depths" "[I", Cond.methodLink RX3 32 yX3_has, Cond.static yX4_get, Cond.code yX4_get cX4_get 2 (some .int), Cond.methodLink RX4 72 yX3_parentOf, Cond.instanceMethod yX3_parentOf, Cond.selects RX3 yX3_parentOf yX3_parentOf, Cond.code yX3_parentOf cX3_parentOf 2 (some .int), Cond.methodLink RX3 40 yX3_depthOf, Cond.methodLink RX3 47 yX3_climb, Cond.instanceMethod yX3_climb, Cond.selects RX3 yX3_climb yX3_climb, Cond.code yX3_climb cX3_climb 4 (some .int), Cond.methodLink RX4 75 yX3_childCount, Cond.instanceMethod yX3_childCount, Cond.selects RX3 yX3_childCount yX3_childCount, Cond.code yX3_childCount cX3_childCount 5 (some .int), Cond.methodLink RX3 44 yX3_endOf, Cond.instanceMethod yX3_endOf, Cond.selects RX3 yX3_endOf yX3_endOf, Cond.code yX3_endOf cX3_endOf 4 (some .int), Cond.methodLink RX4 78 yX3_sizeOf]
def wsL_print_r3 : List Cond := [Cond.instanceMethod yX3_sizeOf, Cond.selects RX3 yX3_sizeOf yX3_sizeOf, Cond.code yX3_sizeOf cX3_sizeOf 2 (some .int), Cond.methodLink RX4 81 yX3_deepestOf, Cond.instanceMethod yX3_deepestOf, Cond.selects RX3 yX3_deepestOf yX3_deepestOf, Cond.code yX3_deepestOf cX3_deepestOf 5 (some .int), Cond.methodLink RX4 84 yX3_placeOf, Cond.instanceMethod yX3_placeOf, Cond.selects RX3 yX3_placeOf yX3_placeOf, Cond.code yX3_placeOf cX3_placeOf 5 (some .int), Cond.methodLink RX4 87 yX3_leafCount, Cond.instanceMethod yX3_leafCount, Cond.selects RX3 yX3_leafCount yX3_leafCount, Cond.code yX3_leafCount cX3_leafCount 5 (some .int), Cond.methodLink RX3 51 yX3_isLeaf, Cond.instanceMethod yX3_isLeaf, Cond.selects RX3 yX3_isLeaf yX3_isLeaf, Cond.code yX3_isLeaf cX3_isLeaf 2 (some .boolean), Cond.methodLink RX4 90 yX3_openingOf, Cond.instanceMethod yX3_openingOf, Cond.selects RX3 yX3_openingOf yX3_openingOf, Cond.code yX3_openingOf cX3_openingOf 2 (some .int), Cond.methodLink RX4 93 yX3_closingOf]
def wsL_print_r4 : List Cond := [Cond.instanceMethod yX3_closingOf, Cond.selects RX3 yX3_closingOf yX3_closingOf, Cond.code yX3_closingOf cX3_closingOf 2 (some .int), Cond.methodLink RX3 74 yX3_openingOf, Cond.methodLink RX3 71 yX3_sizeOf, Cond.methodLink RX4 96 yX3_postorderOf, Cond.instanceMethod yX3_postorderOf, Cond.selects RX3 yX3_postorderOf yX3_postorderOf, Cond.code yX3_postorderOf cX3_postorderOf 2 (some .int), Cond.methodLink RX4 99 yX3_labelOf, Cond.instanceMethod yX3_labelOf, Cond.selects RX3 yX3_labelOf yX3_labelOf, Cond.code yX3_labelOf cX3_labelOf 2 (some .int), Cond.fieldLink RX3 15 "BracketTree$Tree" "labels" "[I"]
def wsL_print : List Cond := .code yL_print cL_print 4 (some .long) :: ((wsL_print_r1 ++ (wsL_print_r2 ++ (wsL_print_r3 ++ wsL_print_r4))) ++ wsX40 ++ wsX30)
def wsL_texts_r1 : List Cond := [Cond.methodLink RL 75 yX4_written, Cond.instanceMethod yX4_written, Cond.selects RX4 yX4_written yX4_written, Cond.initialized RX4, Cond.code yX4_written cX4_written 2 (some .int), Cond.fieldLink RX4 10 "BracketTree" "tree" "LBracketTree$Tree;", Cond.methodLink RX4 58 yX3_writtenLength, Cond.instanceMethod yX3_writtenLength, Cond.selects RX3 yX3_writtenLength yX3_writtenLength, Cond.initialized RX3, Cond.code yX3_writtenLength cX3_writtenLength 3 (some .int), Cond.fieldLink RX3 28 "BracketTree$Tree" "count" "I", Cond.methodLink RX3 90 yX3_signsBehind, Cond.instanceMethod yX3_signsBehind, Cond.selects RX3 yX3_signsBehind yX3_signsBehind, Cond.code yX3_signsBehind cX3_signsBehind 2 (some .int), Cond.methodLink RX3 51 yX3_isLeaf, Cond.instanceMethod yX3_isLeaf, Cond.selects RX3 yX3_isLeaf yX3_isLeaf, Cond.code yX3_isLeaf cX3_isLeaf 2 (some .boolean), Cond.methodLink RX3 40 yX3_depthOf, Cond.instanceMethod yX3_depthOf, Cond.selects RX3 yX3_depthOf yX3_depthOf, Cond.code yX3_depthOf cX3_depthOf 2 (some .int)]
def wsL_texts_r2 : List Cond := [Cond.fieldLink RX3 9 "BracketTree$Tree" "depths" "[I", Cond.methodLink RX3 32 yX3_has, Cond.instanceMethod yX3_has, Cond.selects RX3 yX3_has yX3_has, Cond.code yX3_has cX3_has 2 (some .boolean), Cond.static yX4_get, Cond.code yX4_get cX4_get 2 (some .int), Cond.methodLink RX4 61 yX3_writtenAt, Cond.instanceMethod yX3_writtenAt, Cond.selects RX3 yX3_writtenAt yX3_writtenAt, Cond.code yX3_writtenAt cX3_writtenAt 5 (some .int), Cond.methodLink RX3 83 yX3_labelOf, Cond.instanceMethod yX3_labelOf, Cond.selects RX3 yX3_labelOf yX3_labelOf, Cond.code yX3_labelOf cX3_labelOf 2 (some .int), Cond.fieldLink RX3 15 "BracketTree$Tree" "labels" "[I", Cond.methodLink RL 78 yL_print, Cond.static yL_print, Cond.initialized RL, Cond.code yL_print cL_print 4 (some .long), Cond.constantLong RL 71 (1000003), Cond.constantLong RL 73 (31), Cond.methodLink RL 9 yX4_size, Cond.instanceMethod yX4_size]
def wsL_texts_r3 : List Cond := [Cond.selects RX4 yX4_size yX4_size, Cond.code yX4_size cX4_size 1 (some .int), Cond.methodLink RX4 55 yX3_count, Cond.instanceMethod yX3_count, Cond.selects RX3 yX3_count yX3_count, Cond.code yX3_count cX3_count 1 (some .int), Cond.methodLink RL 15 yX4_node, Cond.instanceMethod yX4_node, Cond.selects RX4 yX4_node yX4_node, Cond.code yX4_node cX4_node 3 (some .int), Cond.methodLink RX4 65 yX3_has, Cond.methodLink RX4 69 yX3_depthOf, Cond.methodLink RX4 72 yX3_parentOf, Cond.instanceMethod yX3_parentOf, Cond.selects RX3 yX3_parentOf yX3_parentOf, Cond.code yX3_parentOf cX3_parentOf 2 (some .int), Cond.methodLink RX3 47 yX3_climb, Cond.instanceMethod yX3_climb, Cond.selects RX3 yX3_climb yX3_climb, Cond.code yX3_climb cX3_climb 4 (some .int), Cond.methodLink RX4 75 yX3_childCount, Cond.instanceMethod yX3_childCount, Cond.selects RX3 yX3_childCount yX3_childCount, Cond.code yX3_childCount cX3_childCount 5 (some .int)]
def wsL_texts_r4 : List Cond := [Cond.methodLink RX3 44 yX3_endOf, Cond.instanceMethod yX3_endOf, Cond.selects RX3 yX3_endOf yX3_endOf, Cond.code yX3_endOf cX3_endOf 4 (some .int), Cond.methodLink RX4 78 yX3_sizeOf, Cond.instanceMethod yX3_sizeOf, Cond.selects RX3 yX3_sizeOf yX3_sizeOf, Cond.code yX3_sizeOf cX3_sizeOf 2 (some .int), Cond.methodLink RX4 81 yX3_deepestOf, Cond.instanceMethod yX3_deepestOf, Cond.selects RX3 yX3_deepestOf yX3_deepestOf, Cond.code yX3_deepestOf cX3_deepestOf 5 (some .int), Cond.methodLink RX4 84 yX3_placeOf, Cond.instanceMethod yX3_placeOf, Cond.selects RX3 yX3_placeOf yX3_placeOf, Cond.code yX3_placeOf cX3_placeOf 5 (some .int), Cond.methodLink RX4 87 yX3_leafCount, Cond.instanceMethod yX3_leafCount, Cond.selects RX3 yX3_leafCount yX3_leafCount, Cond.code yX3_leafCount cX3_leafCount 5 (some .int), Cond.methodLink RX4 90 yX3_openingOf, Cond.instanceMethod yX3_openingOf, Cond.selects RX3 yX3_openingOf yX3_openingOf, Cond.code yX3_openingOf cX3_openingOf 2 (some .int)]
def wsL_texts_r5 : List Cond := [Cond.methodLink RX4 93 yX3_closingOf, Cond.instanceMethod yX3_closingOf, Cond.selects RX3 yX3_closingOf yX3_closingOf, Cond.code yX3_closingOf cX3_closingOf 2 (some .int), Cond.methodLink RX3 74 yX3_openingOf, Cond.methodLink RX3 71 yX3_sizeOf, Cond.methodLink RX4 96 yX3_postorderOf, Cond.instanceMethod yX3_postorderOf, Cond.selects RX3 yX3_postorderOf yX3_postorderOf, Cond.code yX3_postorderOf cX3_postorderOf 2 (some .int), Cond.methodLink RX4 99 yX3_labelOf, Cond.methodLink RL 84 yX4_clearText, Cond.instanceMethod yX4_clearText, Cond.selects RX4 yX4_clearText yX4_clearText, Cond.code yX4_clearText cX4_clearText 1 (some .int), Cond.fieldLink RX4 33 "BracketTree" "text" "LBracketTree$Text;", Cond.methodLink RX4 41 yX2_empty, Cond.instanceMethod yX2_empty, Cond.selects RX2 yX2_empty yX2_empty, Cond.initialized RX2, Cond.code yX2_empty cX2_empty 2 (some .int), Cond.fieldLink RX2 15 "BracketTree$Text" "length" "I", Cond.methodLink RL 87 yX4_type, Cond.instanceMethod yX4_type]
def wsL_texts_r6 : List Cond := [Cond.selects RX4 yX4_type yX4_type, Cond.code yX4_type cX4_type 2 (some .int), Cond.methodLink RX4 37 yX2_append, Cond.instanceMethod yX2_append, Cond.selects RX2 yX2_append yX2_append, Cond.code yX2_append cX2_append 2 (some .int), Cond.fieldLink RX2 9 "BracketTree$Text" "characters" "[I", Cond.static yX4_put, Cond.code yX4_put cX4_put 3 none, Cond.methodLink RL 91 yX4_read, Cond.instanceMethod yX4_read, Cond.selects RX4 yX4_read yX4_read, Cond.code yX4_read cX4_read 2 (some .int), Cond.fieldLink RX4 26 "BracketTree" "history" "LBracketTree$History;", Cond.methodLink RX4 45 yX2_findFault, Cond.instanceMethod yX2_findFault, Cond.selects RX2 yX2_findFault yX2_findFault, Cond.code yX2_findFault cX2_findFault 4 (some .int), Cond.methodLink RX2 23 yX2_isAllowed, Cond.instanceMethod yX2_isAllowed, Cond.selects RX2 yX2_isAllowed yX2_isAllowed, Cond.code yX2_isAllowed cX2_isAllowed 6 (some .boolean), Cond.static yX4_isLetter, Cond.code yX4_isLetter cX4_isLetter 1 (some .boolean)]
def wsL_texts_r7 : List Cond := [Cond.methodLink RX2 27 yX2_deeper, Cond.instanceMethod yX2_deeper, Cond.selects RX2 yX2_deeper yX2_deeper, Cond.code yX2_deeper cX2_deeper 3 (some .int), Cond.methodLink RX4 48 yX1_record, Cond.instanceMethod yX1_record, Cond.selects RX1 yX1_record yX1_record, Cond.initialized RX1, Cond.code yX1_record cX1_record 4 none, Cond.fieldLink RX1 25 "BracketTree$History" "slot" "I", Cond.fieldLink RX1 9 "BracketTree$History" "counts" "[I", Cond.fieldLink RX1 15 "BracketTree$History" "depths" "[I", Cond.fieldLink RX1 18 "BracketTree$History" "labels" "[I", Cond.fieldLink RX1 21 "BracketTree$History" "kept" "I", Cond.methodLink RX1 45 Lib.Math.min.name, Cond.static Lib.Math.min.name, Cond.initialized "java/lang/Math", Cond.code Lib.Math.min.name Lib.Math.min.code 2 (some .int), Cond.methodLink RX1 28 yX3_count, Cond.methodLink RX1 38 yX3_depthOf, Cond.methodLink RX1 42 yX3_labelOf, Cond.methodLink RX4 52 yX2_makeTree, Cond.instanceMethod yX2_makeTree, Cond.selects RX2 yX2_makeTree yX2_makeTree]
def wsL_texts_r8 : List Cond := [Cond.code yX2_makeTree cX2_makeTree 4 none, Cond.methodLink RX2 39 yX3_empty, Cond.instanceMethod yX3_empty, Cond.selects RX3 yX3_empty yX3_empty, Cond.code yX3_empty cX3_empty 1 none, Cond.methodLink RX2 44 yX3_append, Cond.instanceMethod yX3_append, Cond.selects RX3 yX3_append yX3_append, Cond.code yX3_append cX3_append 3 none, Cond.methodLink RX3 93 yX3_putNode, Cond.instanceMethod yX3_putNode, Cond.selects RX3 yX3_putNode yX3_putNode, Cond.code yX3_putNode cX3_putNode 4 none, Cond.methodLink RL 94 yX4_undo, Cond.instanceMethod yX4_undo, Cond.selects RX4 yX4_undo yX4_undo, Cond.code yX4_undo cX4_undo 1 (some .int), Cond.methodLink RX4 217 yX1_isBlank, Cond.instanceMethod yX1_isBlank, Cond.selects RX1 yX1_isBlank yX1_isBlank, Cond.code yX1_isBlank cX1_isBlank 1 (some .boolean), Cond.methodLink RX4 221 yX1_recall, Cond.instanceMethod yX1_recall, Cond.selects RX1 yX1_recall yX1_recall]
def wsL_texts_r9 : List Cond := [Cond.code yX1_recall cX1_recall 5 (some .int), Cond.methodLink RX1 51 Lib.Math.max.name, Cond.static Lib.Math.max.name, Cond.code Lib.Math.max.name Lib.Math.max.code 2 (some .int), Cond.methodLink RX1 58 yX3_empty, Cond.methodLink RX1 61 yX3_append]
def wsL_texts : List Cond := .code yL_texts cL_texts 9 (some .boolean) :: ((wsL_texts_r1 ++ (wsL_texts_r2 ++ (wsL_texts_r3 ++ (wsL_texts_r4 ++ (wsL_texts_r5 ++ (wsL_texts_r6 ++ (wsL_texts_r7 ++ (wsL_texts_r8 ++ wsL_texts_r9)))))))) ++ wsX40 ++ wsX30 ++ wsX20 ++ wsX10)
def wsL_edits_r1 : List Cond := [Cond.methodLink RL 9 yX4_size, Cond.instanceMethod yX4_size, Cond.selects RX4 yX4_size yX4_size, Cond.initialized RX4, Cond.code yX4_size cX4_size 1 (some .int), Cond.fieldLink RX4 10 "BracketTree" "tree" "LBracketTree$Tree;", Cond.methodLink RX4 55 yX3_count, Cond.instanceMethod yX3_count, Cond.selects RX3 yX3_count yX3_count, Cond.initialized RX3, Cond.code yX3_count cX3_count 1 (some .int), Cond.fieldLink RX3 28 "BracketTree$Tree" "count" "I", Cond.methodLink RL 97 yL_low, Cond.static yL_low, Cond.initialized RL, Cond.code yL_low cL_low 2 (some .int), Cond.constant RL 8 (2147483647), Cond.methodLink RL 15 yX4_node, Cond.instanceMethod yX4_node, Cond.selects RX4 yX4_node yX4_node, Cond.code yX4_node cX4_node 3 (some .int), Cond.methodLink RX4 65 yX3_has, Cond.instanceMethod yX3_has, Cond.selects RX3 yX3_has yX3_has]
def wsL_edits_r2 : List Cond := [Cond.code yX3_has cX3_has 2 (some .boolean), Cond.methodLink RX4 69 yX3_depthOf, Cond.instanceMethod yX3_depthOf, Cond.selects RX3 yX3_depthOf yX3_depthOf, Cond.code yX3_depthOf cX3_depthOf 2 (some .int), Cond.fieldLink RX3 9 "BracketTree$Tree" "depths" "[I", Cond.methodLink RX3 32 yX3_has, Cond.static yX4_get, Cond.code yX4_get cX4_get 2 (some .int), Cond.methodLink RX4 72 yX3_parentOf, Cond.instanceMethod yX3_parentOf, Cond.selects RX3 yX3_parentOf yX3_parentOf, Cond.code yX3_parentOf cX3_parentOf 2 (some .int), Cond.methodLink RX3 40 yX3_depthOf, Cond.methodLink RX3 47 yX3_climb, Cond.instanceMethod yX3_climb, Cond.selects RX3 yX3_climb yX3_climb, Cond.code yX3_climb cX3_climb 4 (some .int), Cond.methodLink RX4 75 yX3_childCount, Cond.instanceMethod yX3_childCount, Cond.selects RX3 yX3_childCount yX3_childCount, Cond.code yX3_childCount cX3_childCount 5 (some .int), Cond.methodLink RX3 44 yX3_endOf, Cond.instanceMethod yX3_endOf]
def wsL_edits_r3 : List Cond := [Cond.selects RX3 yX3_endOf yX3_endOf, Cond.code yX3_endOf cX3_endOf 4 (some .int), Cond.methodLink RX4 78 yX3_sizeOf, Cond.instanceMethod yX3_sizeOf, Cond.selects RX3 yX3_sizeOf yX3_sizeOf, Cond.code yX3_sizeOf cX3_sizeOf 2 (some .int), Cond.methodLink RX4 81 yX3_deepestOf, Cond.instanceMethod yX3_deepestOf, Cond.selects RX3 yX3_deepestOf yX3_deepestOf, Cond.code yX3_deepestOf cX3_deepestOf 5 (some .int), Cond.methodLink RX4 84 yX3_placeOf, Cond.instanceMethod yX3_placeOf, Cond.selects RX3 yX3_placeOf yX3_placeOf, Cond.code yX3_placeOf cX3_placeOf 5 (some .int), Cond.methodLink RX4 87 yX3_leafCount, Cond.instanceMethod yX3_leafCount, Cond.selects RX3 yX3_leafCount yX3_leafCount, Cond.code yX3_leafCount cX3_leafCount 5 (some .int), Cond.methodLink RX3 51 yX3_isLeaf, Cond.instanceMethod yX3_isLeaf, Cond.selects RX3 yX3_isLeaf yX3_isLeaf, Cond.code yX3_isLeaf cX3_isLeaf 2 (some .boolean), Cond.methodLink RX4 90 yX3_openingOf, Cond.instanceMethod yX3_openingOf]
def wsL_edits_r4 : List Cond := [Cond.selects RX3 yX3_openingOf yX3_openingOf, Cond.code yX3_openingOf cX3_openingOf 2 (some .int), Cond.methodLink RX4 93 yX3_closingOf, Cond.instanceMethod yX3_closingOf, Cond.selects RX3 yX3_closingOf yX3_closingOf, Cond.code yX3_closingOf cX3_closingOf 2 (some .int), Cond.methodLink RX3 74 yX3_openingOf, Cond.methodLink RX3 71 yX3_sizeOf, Cond.methodLink RX4 96 yX3_postorderOf, Cond.instanceMethod yX3_postorderOf, Cond.selects RX3 yX3_postorderOf yX3_postorderOf, Cond.code yX3_postorderOf cX3_postorderOf 2 (some .int), Cond.methodLink RX4 99 yX3_labelOf, Cond.instanceMethod yX3_labelOf, Cond.selects RX3 yX3_labelOf yX3_labelOf, Cond.code yX3_labelOf cX3_labelOf 2 (some .int), Cond.fieldLink RX3 15 "BracketTree$Tree" "labels" "[I", Cond.methodLink RL 78 yL_print, Cond.static yL_print, Cond.code yL_print cL_print 4 (some .long), Cond.constantLong RL 71 (1000003), Cond.constantLong RL 73 (31), Cond.methodLink RL 100 yX4_insert, Cond.instanceMethod yX4_insert]
def wsL_edits_r5 : List Cond := [Cond.selects RX4 yX4_insert yX4_insert, Cond.code yX4_insert cX4_insert 4 (some .int), Cond.methodLink RX4 195 yX4_wrap, Cond.instanceMethod yX4_wrap, Cond.selects RX4 yX4_wrap yX4_wrap, Cond.code yX4_wrap cX4_wrap 6 (some .int), Cond.fieldLink RX4 26 "BracketTree" "history" "LBracketTree$History;", Cond.methodLink RX4 171 yX4_isLetter, Cond.static yX4_isLetter, Cond.code yX4_isLetter cX4_isLetter 1 (some .boolean), Cond.methodLink RX4 48 yX1_record, Cond.instanceMethod yX1_record, Cond.selects RX1 yX1_record yX1_record, Cond.initialized RX1, Cond.code yX1_record cX1_record 4 none, Cond.fieldLink RX1 25 "BracketTree$History" "slot" "I", Cond.fieldLink RX1 9 "BracketTree$History" "counts" "[I", Cond.fieldLink RX1 15 "BracketTree$History" "depths" "[I", Cond.fieldLink RX1 18 "BracketTree$History" "labels" "[I", Cond.fieldLink RX1 21 "BracketTree$History" "kept" "I", Cond.methodLink RX1 45 Lib.Math.min.name, Cond.static Lib.Math.min.name, Cond.initialized "java/lang/Math", Cond.code Lib.Math.min.name Lib.Math.min.code 2 (some .int)]
def wsL_edits_r6 : List Cond := [Cond.methodLink RX1 28 yX3_count, Cond.static yX4_put, Cond.code yX4_put cX4_put 3 none, Cond.methodLink RX1 38 yX3_depthOf, Cond.methodLink RX1 42 yX3_labelOf, Cond.methodLink RX4 199 yX3_wrapChildren, Cond.instanceMethod yX3_wrapChildren, Cond.selects RX3 yX3_wrapChildren yX3_wrapChildren, Cond.code yX3_wrapChildren cX3_wrapChildren 7 (some .int), Cond.methodLink RX3 97 yX3_startOfPlace, Cond.instanceMethod yX3_startOfPlace, Cond.selects RX3 yX3_startOfPlace yX3_startOfPlace, Cond.code yX3_startOfPlace cX3_startOfPlace 6 (some .int), Cond.methodLink RX3 100 yX3_sink, Cond.instanceMethod yX3_sink, Cond.selects RX3 yX3_sink yX3_sink, Cond.code yX3_sink cX3_sink 5 none, Cond.methodLink RX3 83 yX3_labelOf, Cond.methodLink RX3 93 yX3_putNode, Cond.instanceMethod yX3_putNode, Cond.selects RX3 yX3_putNode yX3_putNode, Cond.code yX3_putNode cX3_putNode 4 none, Cond.methodLink RX3 103 yX3_openGap, Cond.instanceMethod yX3_openGap]
def wsL_edits_r7 : List Cond := [Cond.selects RX3 yX3_openGap yX3_openGap, Cond.code yX3_openGap cX3_openGap 4 none, Cond.methodLink RX3 57 Lib.Math.min.name, Cond.methodLink RL 104 yX4_wrap, Cond.methodLink RL 108 yX4_remove, Cond.instanceMethod yX4_remove, Cond.selects RX4 yX4_remove yX4_remove, Cond.code yX4_remove cX4_remove 2 (some .int), Cond.methodLink RX4 203 yX3_dissolve, Cond.instanceMethod yX3_dissolve, Cond.selects RX3 yX3_dissolve yX3_dissolve, Cond.code yX3_dissolve cX3_dissolve 2 none, Cond.methodLink RX3 107 yX3_closeGap, Cond.instanceMethod yX3_closeGap, Cond.selects RX3 yX3_closeGap yX3_closeGap, Cond.code yX3_closeGap cX3_closeGap 4 none, Cond.methodLink RX3 62 Lib.Math.max.name, Cond.static Lib.Math.max.name, Cond.code Lib.Math.max.name Lib.Math.max.code 2 (some .int), Cond.methodLink RL 111 yX4_cut, Cond.instanceMethod yX4_cut, Cond.selects RX4 yX4_cut yX4_cut, Cond.code yX4_cut cX4_cut 2 (some .int), Cond.methodLink RX4 207 yX3_closeGap]
def wsL_edits_r8 : List Cond := [Cond.methodLink RL 114 yX4_move, Cond.instanceMethod yX4_move, Cond.selects RX4 yX4_move yX4_move, Cond.code yX4_move cX4_move 5 (some .int), Cond.methodLink RX4 211 yX3_endOf, Cond.methodLink RX4 214 yX3_transplant, Cond.instanceMethod yX3_transplant, Cond.selects RX3 yX3_transplant yX3_transplant, Cond.code yX3_transplant cX3_transplant 7 (some .int), Cond.methodLink RX3 110 yX3_hold, Cond.instanceMethod yX3_hold, Cond.selects RX3 yX3_hold yX3_hold, Cond.code yX3_hold cX3_hold 4 none, Cond.fieldLink RX3 18 "BracketTree$Tree" "heldDepths" "[I", Cond.fieldLink RX3 21 "BracketTree$Tree" "heldLabels" "[I", Cond.methodLink RX3 113 yX3_release, Cond.instanceMethod yX3_release, Cond.selects RX3 yX3_release yX3_release, Cond.code yX3_release cX3_release 5 none, Cond.methodLink RL 117 yX4_setLabel, Cond.instanceMethod yX4_setLabel, Cond.selects RX4 yX4_setLabel yX4_setLabel, Cond.code yX4_setLabel cX4_setLabel 4 (some .int), Cond.methodLink RX4 174 yX3_putNode]
def wsL_edits_r9 : List Cond := [Cond.methodLink RL 94 yX4_undo, Cond.instanceMethod yX4_undo, Cond.selects RX4 yX4_undo yX4_undo, Cond.code yX4_undo cX4_undo 1 (some .int), Cond.methodLink RX4 217 yX1_isBlank, Cond.instanceMethod yX1_isBlank, Cond.selects RX1 yX1_isBlank yX1_isBlank, Cond.code yX1_isBlank cX1_isBlank 1 (some .boolean), Cond.methodLink RX4 221 yX1_recall, Cond.instanceMethod yX1_recall, Cond.selects RX1 yX1_recall yX1_recall, Cond.code yX1_recall cX1_recall 5 (some .int), Cond.methodLink RX1 51 Lib.Math.max.name, Cond.methodLink RX1 58 yX3_empty, Cond.instanceMethod yX3_empty, Cond.selects RX3 yX3_empty yX3_empty, Cond.code yX3_empty cX3_empty 1 none, Cond.methodLink RX1 61 yX3_append, Cond.instanceMethod yX3_append, Cond.selects RX3 yX3_append yX3_append, Cond.code yX3_append cX3_append 3 none]
def wsL_edits : List Cond := .code yL_edits cL_edits 18 (some .int) :: ((wsL_edits_r1 ++ (wsL_edits_r2 ++ (wsL_edits_r3 ++ (wsL_edits_r4 ++ (wsL_edits_r5 ++ (wsL_edits_r6 ++ (wsL_edits_r7 ++ (wsL_edits_r8 ++ wsL_edits_r9)))))))) ++ wsX40 ++ wsX30 ++ wsX10)
def wsL_errors_r1 : List Cond := [Cond.methodLink RL 9 yX4_size, Cond.instanceMethod yX4_size, Cond.selects RX4 yX4_size yX4_size, Cond.initialized RX4, Cond.code yX4_size cX4_size 1 (some .int), Cond.fieldLink RX4 10 "BracketTree" "tree" "LBracketTree$Tree;", Cond.methodLink RX4 55 yX3_count, Cond.instanceMethod yX3_count, Cond.selects RX3 yX3_count yX3_count, Cond.initialized RX3, Cond.code yX3_count cX3_count 1 (some .int), Cond.fieldLink RX3 28 "BracketTree$Tree" "count" "I", Cond.methodLink RL 15 yX4_node, Cond.instanceMethod yX4_node, Cond.selects RX4 yX4_node yX4_node, Cond.code yX4_node cX4_node 3 (some .int), Cond.methodLink RX4 65 yX3_has, Cond.instanceMethod yX3_has, Cond.selects RX3 yX3_has yX3_has, Cond.code yX3_has cX3_has 2 (some .boolean), Cond.methodLink RX4 69 yX3_depthOf, Cond.instanceMethod yX3_depthOf, Cond.selects RX3 yX3_depthOf yX3_depthOf, Cond.code yX3_depthOf cX3_depthOf 2 (some .int)]
def wsL_errors_r2 : List Cond := [Cond.fieldLink RX3 9 "BracketTree$Tree" "depths" "[I", Cond.methodLink RX3 32 yX3_has, Cond.static yX4_get, Cond.code yX4_get cX4_get 2 (some .int), Cond.methodLink RX4 72 yX3_parentOf, Cond.instanceMethod yX3_parentOf, Cond.selects RX3 yX3_parentOf yX3_parentOf, Cond.code yX3_parentOf cX3_parentOf 2 (some .int), Cond.methodLink RX3 40 yX3_depthOf, Cond.methodLink RX3 47 yX3_climb, Cond.instanceMethod yX3_climb, Cond.selects RX3 yX3_climb yX3_climb, Cond.code yX3_climb cX3_climb 4 (some .int), Cond.methodLink RX4 75 yX3_childCount, Cond.instanceMethod yX3_childCount, Cond.selects RX3 yX3_childCount yX3_childCount, Cond.code yX3_childCount cX3_childCount 5 (some .int), Cond.methodLink RX3 44 yX3_endOf, Cond.instanceMethod yX3_endOf, Cond.selects RX3 yX3_endOf yX3_endOf, Cond.code yX3_endOf cX3_endOf 4 (some .int), Cond.methodLink RX4 78 yX3_sizeOf, Cond.instanceMethod yX3_sizeOf, Cond.selects RX3 yX3_sizeOf yX3_sizeOf]
def wsL_errors_r3 : List Cond := [Cond.code yX3_sizeOf cX3_sizeOf 2 (some .int), Cond.methodLink RX4 81 yX3_deepestOf, Cond.instanceMethod yX3_deepestOf, Cond.selects RX3 yX3_deepestOf yX3_deepestOf, Cond.code yX3_deepestOf cX3_deepestOf 5 (some .int), Cond.methodLink RX4 84 yX3_placeOf, Cond.instanceMethod yX3_placeOf, Cond.selects RX3 yX3_placeOf yX3_placeOf, Cond.code yX3_placeOf cX3_placeOf 5 (some .int), Cond.methodLink RX4 87 yX3_leafCount, Cond.instanceMethod yX3_leafCount, Cond.selects RX3 yX3_leafCount yX3_leafCount, Cond.code yX3_leafCount cX3_leafCount 5 (some .int), Cond.methodLink RX3 51 yX3_isLeaf, Cond.instanceMethod yX3_isLeaf, Cond.selects RX3 yX3_isLeaf yX3_isLeaf, Cond.code yX3_isLeaf cX3_isLeaf 2 (some .boolean), Cond.methodLink RX4 90 yX3_openingOf, Cond.instanceMethod yX3_openingOf, Cond.selects RX3 yX3_openingOf yX3_openingOf, Cond.code yX3_openingOf cX3_openingOf 2 (some .int), Cond.methodLink RX4 93 yX3_closingOf, Cond.instanceMethod yX3_closingOf, Cond.selects RX3 yX3_closingOf yX3_closingOf]
def wsL_errors_r4 : List Cond := [Cond.code yX3_closingOf cX3_closingOf 2 (some .int), Cond.methodLink RX3 74 yX3_openingOf, Cond.methodLink RX3 71 yX3_sizeOf, Cond.methodLink RX4 96 yX3_postorderOf, Cond.instanceMethod yX3_postorderOf, Cond.selects RX3 yX3_postorderOf yX3_postorderOf, Cond.code yX3_postorderOf cX3_postorderOf 2 (some .int), Cond.methodLink RX4 99 yX3_labelOf, Cond.instanceMethod yX3_labelOf, Cond.selects RX3 yX3_labelOf yX3_labelOf, Cond.code yX3_labelOf cX3_labelOf 2 (some .int), Cond.fieldLink RX3 15 "BracketTree$Tree" "labels" "[I", Cond.methodLink RL 19 yX4_child, Cond.instanceMethod yX4_child, Cond.selects RX4 yX4_child yX4_child, Cond.code yX4_child cX4_child 3 (some .int), Cond.methodLink RX4 102 yX3_startOfPlace, Cond.instanceMethod yX3_startOfPlace, Cond.selects RX3 yX3_startOfPlace yX3_startOfPlace, Cond.code yX3_startOfPlace cX3_startOfPlace 6 (some .int), Cond.methodLink RL 22 yX4_neighbour, Cond.instanceMethod yX4_neighbour, Cond.selects RX4 yX4_neighbour yX4_neighbour, Cond.code yX4_neighbour cX4_neighbour 3 (some .int)]
def wsL_errors_r5 : List Cond := [Cond.methodLink RX4 106 yX3_nextSibling, Cond.instanceMethod yX3_nextSibling, Cond.selects RX3 yX3_nextSibling yX3_nextSibling, Cond.code yX3_nextSibling cX3_nextSibling 3 (some .int), Cond.methodLink RX4 109 yX3_previousSibling, Cond.instanceMethod yX3_previousSibling, Cond.selects RX3 yX3_previousSibling yX3_previousSibling, Cond.code yX3_previousSibling cX3_previousSibling 2 (some .int), Cond.methodLink RX3 65 yX3_placeOf, Cond.methodLink RX3 68 yX3_previousAtDepth, Cond.instanceMethod yX3_previousAtDepth, Cond.selects RX3 yX3_previousAtDepth yX3_previousAtDepth, Cond.code yX3_previousAtDepth cX3_previousAtDepth 2 (some .int), Cond.methodLink RX4 112 yX3_nextAtDepth, Cond.instanceMethod yX3_nextAtDepth, Cond.selects RX3 yX3_nextAtDepth yX3_nextAtDepth, Cond.code yX3_nextAtDepth cX3_nextAtDepth 3 (some .int), Cond.methodLink RX4 115 yX3_previousAtDepth, Cond.methodLink RX4 118 yX3_nextLeaf, Cond.instanceMethod yX3_nextLeaf, Cond.selects RX3 yX3_nextLeaf yX3_nextLeaf, Cond.code yX3_nextLeaf cX3_nextLeaf 3 (some .int), Cond.methodLink RX4 121 yX3_largestChild, Cond.instanceMethod yX3_largestChild]
def wsL_errors_r6 : List Cond := [Cond.selects RX3 yX3_largestChild yX3_largestChild, Cond.code yX3_largestChild cX3_largestChild 6 (some .int), Cond.methodLink RL 38 yX4_ancestorAt, Cond.instanceMethod yX4_ancestorAt, Cond.selects RX4 yX4_ancestorAt yX4_ancestorAt, Cond.code yX4_ancestorAt cX4_ancestorAt 3 (some .int), Cond.methodLink RX4 124 yX3_climb, Cond.methodLink RL 35 yX4_common, Cond.instanceMethod yX4_common, Cond.selects RX4 yX4_common yX4_common, Cond.code yX4_common cX4_common 3 (some .int), Cond.methodLink RX4 127 yX3_meetingOf, Cond.instanceMethod yX3_meetingOf, Cond.selects RX3 yX3_meetingOf yX3_meetingOf, Cond.code yX3_meetingOf cX3_meetingOf 7 (some .int), Cond.methodLink RX3 57 Lib.Math.min.name, Cond.static Lib.Math.min.name, Cond.initialized "java/lang/Math", Cond.code Lib.Math.min.name Lib.Math.min.code 2 (some .int), Cond.methodLink RX3 62 Lib.Math.max.name, Cond.static Lib.Math.max.name, Cond.code Lib.Math.max.name Lib.Math.max.code 2 (some .int), Cond.methodLink RL 41 yX4_way, Cond.instanceMethod yX4_way]
def wsL_errors_r7 : List Cond := [Cond.selects RX4 yX4_way yX4_way, Cond.code yX4_way cX4_way 7 (some .int), Cond.methodLink RL 32 yX4_byPostorder, Cond.instanceMethod yX4_byPostorder, Cond.selects RX4 yX4_byPostorder yX4_byPostorder, Cond.code yX4_byPostorder cX4_byPostorder 2 (some .int), Cond.methodLink RX4 136 yX3_findByPostorder, Cond.instanceMethod yX3_findByPostorder, Cond.selects RX3 yX3_findByPostorder yX3_findByPostorder, Cond.code yX3_findByPostorder cX3_findByPostorder 3 (some .int), Cond.methodLink RX3 54 yX3_postorderOf, Cond.methodLink RL 28 yX4_deepest, Cond.instanceMethod yX4_deepest, Cond.selects RX4 yX4_deepest yX4_deepest, Cond.code yX4_deepest cX4_deepest 2 (some .int), Cond.methodLink RL 25 yX4_bracket, Cond.instanceMethod yX4_bracket, Cond.selects RX4 yX4_bracket yX4_bracket, Cond.code yX4_bracket cX4_bracket 5 (some .int), Cond.methodLink RX4 139 yX3_positionCount, Cond.instanceMethod yX3_positionCount, Cond.selects RX3 yX3_positionCount yX3_positionCount, Cond.code yX3_positionCount cX3_positionCount 1 (some .int), Cond.methodLink RX4 142 yX3_nodeOfPosition]
def wsL_errors_r8 : List Cond := [Cond.instanceMethod yX3_nodeOfPosition, Cond.selects RX3 yX3_nodeOfPosition yX3_nodeOfPosition, Cond.code yX3_nodeOfPosition cX3_nodeOfPosition 3 (some .int), Cond.methodLink RX3 77 yX3_openedBefore, Cond.instanceMethod yX3_openedBefore, Cond.selects RX3 yX3_openedBefore yX3_openedBefore, Cond.code yX3_openedBefore cX3_openedBefore 3 (some .int), Cond.methodLink RX3 80 yX3_excessBefore, Cond.instanceMethod yX3_excessBefore, Cond.selects RX3 yX3_excessBefore yX3_excessBefore, Cond.code yX3_excessBefore cX3_excessBefore 2 (some .int), Cond.methodLink RX4 145 yX3_excessBefore, Cond.methodLink RL 120 yX4_setWidth, Cond.instanceMethod yX4_setWidth, Cond.selects RX4 yX4_setWidth yX4_setWidth, Cond.code yX4_setWidth cX4_setWidth 2 (some .int), Cond.fieldLink RX4 19 "BracketTree" "blocks" "LBracketTree$Blocks;", Cond.methodLink RX4 148 yX0_changeWidth, Cond.instanceMethod yX0_changeWidth, Cond.selects RX0 yX0_changeWidth yX0_changeWidth, Cond.initialized RX0, Cond.code yX0_changeWidth cX0_changeWidth 3 (some .int), Cond.fieldLink RX0 9 "BracketTree$Blocks" "width" "I", Cond.methodLink RL 68 yX4_block]
def wsL_errors_r9 : List Cond := [Cond.instanceMethod yX4_block, Cond.selects RX4 yX4_block yX4_block, Cond.code yX4_block cX4_block 3 (some .int), Cond.methodLink RX4 151 yX0_countFor, Cond.instanceMethod yX0_countFor, Cond.selects RX0 yX0_countFor yX0_countFor, Cond.code yX0_countFor cX0_countFor 3 (some .int), Cond.methodLink RX0 15 Lib.Math.max.name, Cond.methodLink RX0 21 yX3_positionCount, Cond.methodLink RX4 155 yX0_startOf, Cond.instanceMethod yX0_startOf, Cond.selects RX0 yX0_startOf yX0_startOf, Cond.code yX0_startOf cX0_startOf 2 (some .int), Cond.methodLink RX4 158 yX0_leastExcess, Cond.instanceMethod yX0_leastExcess, Cond.selects RX0 yX0_leastExcess yX0_leastExcess, Cond.code yX0_leastExcess cX0_leastExcess 7 (some .int), Cond.methodLink RX0 31 Lib.Math.min.name, Cond.methodLink RX0 34 yX0_endOf, Cond.instanceMethod yX0_endOf, Cond.selects RX0 yX0_endOf yX0_endOf, Cond.code yX0_endOf cX0_endOf 3 (some .int), Cond.methodLink RX0 27 yX0_startOf, Cond.methodLink RX0 38 yX3_openedBefore]
def wsL_errors_r10 : List Cond := [Cond.methodLink RX0 41 yX3_opensAt, Cond.instanceMethod yX3_opensAt, Cond.selects RX3 yX3_opensAt yX3_opensAt, Cond.code yX3_opensAt cX3_opensAt 3 (some .int), Cond.methodLink RX4 162 yX0_greatestExcess, Cond.instanceMethod yX0_greatestExcess, Cond.selects RX0 yX0_greatestExcess yX0_greatestExcess, Cond.code yX0_greatestExcess cX0_greatestExcess 7 (some .int), Cond.methodLink RX4 165 yX0_positionsOf, Cond.instanceMethod yX0_positionsOf, Cond.selects RX0 yX0_positionsOf yX0_positionsOf, Cond.code yX0_positionsOf cX0_positionsOf 3 (some .int), Cond.methodLink RL 117 yX4_setLabel, Cond.instanceMethod yX4_setLabel, Cond.selects RX4 yX4_setLabel yX4_setLabel, Cond.code yX4_setLabel cX4_setLabel 4 (some .int), Cond.fieldLink RX4 26 "BracketTree" "history" "LBracketTree$History;", Cond.methodLink RX4 171 yX4_isLetter, Cond.static yX4_isLetter, Cond.code yX4_isLetter cX4_isLetter 1 (some .boolean), Cond.methodLink RX4 48 yX1_record, Cond.instanceMethod yX1_record, Cond.selects RX1 yX1_record yX1_record, Cond.initialized RX1]
def wsL_errors_r11 : List Cond := [Cond.code yX1_record cX1_record 4 none, Cond.fieldLink RX1 25 "BracketTree$History" "slot" "I", Cond.fieldLink RX1 9 "BracketTree$History" "counts" "[I", Cond.fieldLink RX1 15 "BracketTree$History" "depths" "[I", Cond.fieldLink RX1 18 "BracketTree$History" "labels" "[I", Cond.fieldLink RX1 21 "BracketTree$History" "kept" "I", Cond.methodLink RX1 45 Lib.Math.min.name, Cond.methodLink RX1 28 yX3_count, Cond.static yX4_put, Cond.code yX4_put cX4_put 3 none, Cond.methodLink RX1 38 yX3_depthOf, Cond.methodLink RX1 42 yX3_labelOf, Cond.methodLink RX4 174 yX3_putNode, Cond.instanceMethod yX3_putNode, Cond.selects RX3 yX3_putNode yX3_putNode, Cond.code yX3_putNode cX3_putNode 4 none, Cond.methodLink RL 48 yX4_labelled, Cond.instanceMethod yX4_labelled, Cond.selects RX4 yX4_labelled yX4_labelled, Cond.code yX4_labelled cX4_labelled 3 (some .int), Cond.methodLink RX4 178 yX3_countLabel, Cond.instanceMethod yX3_countLabel, Cond.selects RX3 yX3_countLabel yX3_countLabel, Cond.code yX3_countLabel cX3_countLabel 6 (some .int)]
def wsL_errors_r12 : List Cond := [Cond.methodLink RX3 83 yX3_labelOf, Cond.methodLink RL 52 yX4_select, Cond.instanceMethod yX4_select, Cond.selects RX4 yX4_select yX4_select, Cond.code yX4_select cX4_select 4 (some .int), Cond.methodLink RX4 181 yX3_findLabel, Cond.instanceMethod yX3_findLabel, Cond.selects RX3 yX3_findLabel yX3_findLabel, Cond.code yX3_findLabel cX3_findLabel 7 (some .int), Cond.methodLink RL 62 yX4_ancestorWith, Cond.instanceMethod yX4_ancestorWith, Cond.selects RX4 yX4_ancestorWith yX4_ancestorWith, Cond.code yX4_ancestorWith cX4_ancestorWith 3 (some .int), Cond.methodLink RX4 185 yX3_findAncestor, Cond.instanceMethod yX3_findAncestor, Cond.selects RX3 yX3_findAncestor yX3_findAncestor, Cond.code yX3_findAncestor cX3_findAncestor 5 (some .int), Cond.methodLink RL 56 yX4_areEqual, Cond.instanceMethod yX4_areEqual, Cond.selects RX4 yX4_areEqual yX4_areEqual, Cond.code yX4_areEqual cX4_areEqual 3 (some .int), Cond.methodLink RX4 188 yX3_sameSubtrees, Cond.instanceMethod yX3_sameSubtrees, Cond.selects RX3 yX3_sameSubtrees yX3_sameSubtrees]
def wsL_errors_r13 : List Cond := [Cond.code yX3_sameSubtrees cX3_sameSubtrees 6 (some .boolean), Cond.methodLink RL 59 yX4_copies, Cond.instanceMethod yX4_copies, Cond.selects RX4 yX4_copies yX4_copies, Cond.code yX4_copies cX4_copies 2 (some .int), Cond.methodLink RX4 192 yX3_countEqual, Cond.instanceMethod yX3_countEqual, Cond.selects RX3 yX3_countEqual yX3_countEqual, Cond.code yX3_countEqual cX3_countEqual 4 (some .int), Cond.methodLink RX3 86 yX3_sameSubtrees, Cond.methodLink RL 100 yX4_insert, Cond.instanceMethod yX4_insert, Cond.selects RX4 yX4_insert yX4_insert, Cond.code yX4_insert cX4_insert 4 (some .int), Cond.methodLink RX4 195 yX4_wrap, Cond.instanceMethod yX4_wrap, Cond.selects RX4 yX4_wrap yX4_wrap, Cond.code yX4_wrap cX4_wrap 6 (some .int), Cond.methodLink RX4 199 yX3_wrapChildren, Cond.instanceMethod yX3_wrapChildren, Cond.selects RX3 yX3_wrapChildren yX3_wrapChildren, Cond.code yX3_wrapChildren cX3_wrapChildren 7 (some .int), Cond.methodLink RX3 97 yX3_startOfPlace, Cond.methodLink RX3 100 yX3_sink]
def wsL_errors_r14 : List Cond := [Cond.instanceMethod yX3_sink, Cond.selects RX3 yX3_sink yX3_sink, Cond.code yX3_sink cX3_sink 5 none, Cond.methodLink RX3 93 yX3_putNode, Cond.methodLink RX3 103 yX3_openGap, Cond.instanceMethod yX3_openGap, Cond.selects RX3 yX3_openGap yX3_openGap, Cond.code yX3_openGap cX3_openGap 4 none, Cond.methodLink RL 104 yX4_wrap, Cond.methodLink RL 108 yX4_remove, Cond.instanceMethod yX4_remove, Cond.selects RX4 yX4_remove yX4_remove, Cond.code yX4_remove cX4_remove 2 (some .int), Cond.methodLink RX4 203 yX3_dissolve, Cond.instanceMethod yX3_dissolve, Cond.selects RX3 yX3_dissolve yX3_dissolve, Cond.code yX3_dissolve cX3_dissolve 2 none, Cond.methodLink RX3 107 yX3_closeGap, Cond.instanceMethod yX3_closeGap, Cond.selects RX3 yX3_closeGap yX3_closeGap, Cond.code yX3_closeGap cX3_closeGap 4 none, Cond.methodLink RL 111 yX4_cut, Cond.instanceMethod yX4_cut, Cond.selects RX4 yX4_cut yX4_cut]
def wsL_errors_r15 : List Cond := [Cond.code yX4_cut cX4_cut 2 (some .int), Cond.methodLink RX4 207 yX3_closeGap, Cond.methodLink RL 114 yX4_move, Cond.instanceMethod yX4_move, Cond.selects RX4 yX4_move yX4_move, Cond.code yX4_move cX4_move 5 (some .int), Cond.methodLink RX4 211 yX3_endOf, Cond.methodLink RX4 214 yX3_transplant, Cond.instanceMethod yX3_transplant, Cond.selects RX3 yX3_transplant yX3_transplant, Cond.code yX3_transplant cX3_transplant 7 (some .int), Cond.methodLink RX3 110 yX3_hold, Cond.instanceMethod yX3_hold, Cond.selects RX3 yX3_hold yX3_hold, Cond.code yX3_hold cX3_hold 4 none, Cond.fieldLink RX3 18 "BracketTree$Tree" "heldDepths" "[I", Cond.fieldLink RX3 21 "BracketTree$Tree" "heldLabels" "[I", Cond.methodLink RX3 113 yX3_release, Cond.instanceMethod yX3_release, Cond.selects RX3 yX3_release yX3_release, Cond.code yX3_release cX3_release 5 none]
def wsL_errors : List Cond := .code yL_errors cL_errors 5 (some .boolean) :: ((wsL_errors_r1 ++ (wsL_errors_r2 ++ (wsL_errors_r3 ++ (wsL_errors_r4 ++ (wsL_errors_r5 ++ (wsL_errors_r6 ++ (wsL_errors_r7 ++ (wsL_errors_r8 ++ (wsL_errors_r9 ++ (wsL_errors_r10 ++ (wsL_errors_r11 ++ (wsL_errors_r12 ++ (wsL_errors_r13 ++ (wsL_errors_r14 ++ wsL_errors_r15)))))))))))))) ++ wsX40 ++ wsX30 ++ wsX00 ++ wsX10)
def wsL_law_r1 : List Cond := [Cond.classLink RL 10 RX4, Cond.instantiable RX4 4, Cond.initialized RX4, Cond.methodLink RL 123 yX4_init, Cond.instanceMethod yX4_init, Cond.code yX4_init cX4_init 1 none, Cond.methodLink RX4 1 objectInit, Cond.instanceMethod objectInit, Cond.code objectInit ⟨#[0xb1]⟩ 1 none, Cond.classLink RX4 7 RX3, Cond.instantiable RX3 5, Cond.initialized RX3, Cond.fieldLink RX4 10 "BracketTree" "tree" "LBracketTree$Tree;", Cond.classLink RX4 16 RX0, Cond.instantiable RX0 1, Cond.initialized RX0, Cond.fieldLink RX4 19 "BracketTree" "blocks" "LBracketTree$Blocks;", Cond.classLink RX4 23 RX1, Cond.instantiable RX1 5, Cond.initialized RX1, Cond.fieldLink RX4 26 "BracketTree" "history" "LBracketTree$History;", Cond.classLink RX4 30 RX2, Cond.instantiable RX2 2, Cond.initialized RX2]
def wsL_law_r2 : List Cond := [Cond.fieldLink RX4 33 "BracketTree" "text" "LBracketTree$Text;", Cond.methodLink RX4 9 yX3_init, Cond.instanceMethod yX3_init, Cond.code yX3_init cX3_init 1 none, Cond.methodLink RX3 3 objectInit, Cond.arrayClass .int, Cond.fieldLink RX3 9 "BracketTree$Tree" "depths" "[I", Cond.fieldLink RX3 15 "BracketTree$Tree" "labels" "[I", Cond.fieldLink RX3 18 "BracketTree$Tree" "heldDepths" "[I", Cond.fieldLink RX3 21 "BracketTree$Tree" "heldLabels" "[I", Cond.fieldLink RX3 28 "BracketTree$Tree" "count" "I", Cond.static yX4_put, Cond.code yX4_put cX4_put 3 none, Cond.instanceMethod yX0_init, Cond.code yX0_init cX0_init 1 none, Cond.methodLink RX0 3 objectInit, Cond.fieldLink RX0 9 "BracketTree$Blocks" "width" "I", Cond.instanceMethod yX1_init, Cond.code yX1_init cX1_init 1 none, Cond.methodLink RX1 3 objectInit, Cond.fieldLink RX1 9 "BracketTree$History" "counts" "[I", Cond.fieldLink RX1 15 "BracketTree$History" "depths" "[I", Cond.fieldLink RX1 18 "BracketTree$History" "labels" "[I", Cond.instanceMethod yX2_init]
def wsL_law_r3 : List Cond := [Cond.code yX2_init cX2_init 1 none, Cond.methodLink RX2 3 objectInit, Cond.fieldLink RX2 9 "BracketTree$Text" "characters" "[I", Cond.methodLink RL 9 yX4_size, Cond.instanceMethod yX4_size, Cond.selects RX4 yX4_size yX4_size, Cond.code yX4_size cX4_size 1 (some .int), Cond.methodLink RX4 55 yX3_count, Cond.instanceMethod yX3_count, Cond.selects RX3 yX3_count yX3_count, Cond.code yX3_count cX3_count 1 (some .int), Cond.methodLink RL 15 yX4_node, Cond.instanceMethod yX4_node, Cond.selects RX4 yX4_node yX4_node, Cond.code yX4_node cX4_node 3 (some .int), Cond.methodLink RX4 65 yX3_has, Cond.instanceMethod yX3_has, Cond.selects RX3 yX3_has yX3_has, Cond.code yX3_has cX3_has 2 (some .boolean), Cond.methodLink RX4 69 yX3_depthOf, Cond.instanceMethod yX3_depthOf, Cond.selects RX3 yX3_depthOf yX3_depthOf, Cond.code yX3_depthOf cX3_depthOf 2 (some .int), Cond.methodLink RX3 32 yX3_has]
def wsL_law_r4 : List Cond := [Cond.static yX4_get, Cond.code yX4_get cX4_get 2 (some .int), Cond.methodLink RX4 72 yX3_parentOf, Cond.instanceMethod yX3_parentOf, Cond.selects RX3 yX3_parentOf yX3_parentOf, Cond.code yX3_parentOf cX3_parentOf 2 (some .int), Cond.methodLink RX3 40 yX3_depthOf, Cond.methodLink RX3 47 yX3_climb, Cond.instanceMethod yX3_climb, Cond.selects RX3 yX3_climb yX3_climb, Cond.code yX3_climb cX3_climb 4 (some .int), Cond.methodLink RX4 75 yX3_childCount, Cond.instanceMethod yX3_childCount, Cond.selects RX3 yX3_childCount yX3_childCount, Cond.code yX3_childCount cX3_childCount 5 (some .int), Cond.methodLink RX3 44 yX3_endOf, Cond.instanceMethod yX3_endOf, Cond.selects RX3 yX3_endOf yX3_endOf, Cond.code yX3_endOf cX3_endOf 4 (some .int), Cond.methodLink RX4 78 yX3_sizeOf, Cond.instanceMethod yX3_sizeOf, Cond.selects RX3 yX3_sizeOf yX3_sizeOf, Cond.code yX3_sizeOf cX3_sizeOf 2 (some .int), Cond.methodLink RX4 81 yX3_deepestOf]
def wsL_law_r5 : List Cond := [Cond.instanceMethod yX3_deepestOf, Cond.selects RX3 yX3_deepestOf yX3_deepestOf, Cond.code yX3_deepestOf cX3_deepestOf 5 (some .int), Cond.methodLink RX4 84 yX3_placeOf, Cond.instanceMethod yX3_placeOf, Cond.selects RX3 yX3_placeOf yX3_placeOf, Cond.code yX3_placeOf cX3_placeOf 5 (some .int), Cond.methodLink RX4 87 yX3_leafCount, Cond.instanceMethod yX3_leafCount, Cond.selects RX3 yX3_leafCount yX3_leafCount, Cond.code yX3_leafCount cX3_leafCount 5 (some .int), Cond.methodLink RX3 51 yX3_isLeaf, Cond.instanceMethod yX3_isLeaf, Cond.selects RX3 yX3_isLeaf yX3_isLeaf, Cond.code yX3_isLeaf cX3_isLeaf 2 (some .boolean), Cond.methodLink RX4 90 yX3_openingOf, Cond.instanceMethod yX3_openingOf, Cond.selects RX3 yX3_openingOf yX3_openingOf, Cond.code yX3_openingOf cX3_openingOf 2 (some .int), Cond.methodLink RX4 93 yX3_closingOf, Cond.instanceMethod yX3_closingOf, Cond.selects RX3 yX3_closingOf yX3_closingOf, Cond.code yX3_closingOf cX3_closingOf 2 (some .int), Cond.methodLink RX3 74 yX3_openingOf]
def wsL_law_r6 : List Cond := [Cond.methodLink RX3 71 yX3_sizeOf, Cond.methodLink RX4 96 yX3_postorderOf, Cond.instanceMethod yX3_postorderOf, Cond.selects RX3 yX3_postorderOf yX3_postorderOf, Cond.code yX3_postorderOf cX3_postorderOf 2 (some .int), Cond.methodLink RX4 99 yX3_labelOf, Cond.instanceMethod yX3_labelOf, Cond.selects RX3 yX3_labelOf yX3_labelOf, Cond.code yX3_labelOf cX3_labelOf 2 (some .int), Cond.methodLink RL 94 yX4_undo, Cond.instanceMethod yX4_undo, Cond.selects RX4 yX4_undo yX4_undo, Cond.code yX4_undo cX4_undo 1 (some .int), Cond.methodLink RX4 217 yX1_isBlank, Cond.instanceMethod yX1_isBlank, Cond.selects RX1 yX1_isBlank yX1_isBlank, Cond.code yX1_isBlank cX1_isBlank 1 (some .boolean), Cond.fieldLink RX1 21 "BracketTree$History" "kept" "I", Cond.methodLink RX4 221 yX1_recall, Cond.instanceMethod yX1_recall, Cond.selects RX1 yX1_recall yX1_recall, Cond.code yX1_recall cX1_recall 5 (some .int), Cond.fieldLink RX1 25 "BracketTree$History" "slot" "I", Cond.methodLink RX1 51 Lib.Math.max.name]
def wsL_law_r7 : List Cond := [Cond.static Lib.Math.max.name, Cond.initialized "java/lang/Math", Cond.code Lib.Math.max.name Lib.Math.max.code 2 (some .int), Cond.methodLink RX1 58 yX3_empty, Cond.instanceMethod yX3_empty, Cond.selects RX3 yX3_empty yX3_empty, Cond.code yX3_empty cX3_empty 1 none, Cond.methodLink RX1 61 yX3_append, Cond.instanceMethod yX3_append, Cond.selects RX3 yX3_append yX3_append, Cond.code yX3_append cX3_append 3 none, Cond.methodLink RX3 93 yX3_putNode, Cond.instanceMethod yX3_putNode, Cond.selects RX3 yX3_putNode yX3_putNode, Cond.code yX3_putNode cX3_putNode 4 none, Cond.methodLink RL 75 yX4_written, Cond.instanceMethod yX4_written, Cond.selects RX4 yX4_written yX4_written, Cond.code yX4_written cX4_written 2 (some .int), Cond.methodLink RX4 58 yX3_writtenLength, Cond.instanceMethod yX3_writtenLength, Cond.selects RX3 yX3_writtenLength yX3_writtenLength, Cond.code yX3_writtenLength cX3_writtenLength 3 (some .int), Cond.methodLink RX3 90 yX3_signsBehind]
def wsL_law_r8 : List Cond := [Cond.instanceMethod yX3_signsBehind, Cond.selects RX3 yX3_signsBehind yX3_signsBehind, Cond.code yX3_signsBehind cX3_signsBehind 2 (some .int), Cond.methodLink RX4 61 yX3_writtenAt, Cond.instanceMethod yX3_writtenAt, Cond.selects RX3 yX3_writtenAt yX3_writtenAt, Cond.code yX3_writtenAt cX3_writtenAt 5 (some .int), Cond.methodLink RX3 83 yX3_labelOf, Cond.methodLink RL 108 yX4_remove, Cond.instanceMethod yX4_remove, Cond.selects RX4 yX4_remove yX4_remove, Cond.code yX4_remove cX4_remove 2 (some .int), Cond.methodLink RX4 48 yX1_record, Cond.instanceMethod yX1_record, Cond.selects RX1 yX1_record yX1_record, Cond.code yX1_record cX1_record 4 none, Cond.methodLink RX1 45 Lib.Math.min.name, Cond.static Lib.Math.min.name, Cond.code Lib.Math.min.name Lib.Math.min.code 2 (some .int), Cond.methodLink RX1 28 yX3_count, Cond.methodLink RX1 38 yX3_depthOf, Cond.methodLink RX1 42 yX3_labelOf, Cond.methodLink RX4 203 yX3_dissolve, Cond.instanceMethod yX3_dissolve]
def wsL_law_r9 : List Cond := [Cond.selects RX3 yX3_dissolve yX3_dissolve, Cond.code yX3_dissolve cX3_dissolve 2 none, Cond.methodLink RX3 100 yX3_sink, Cond.instanceMethod yX3_sink, Cond.selects RX3 yX3_sink yX3_sink, Cond.code yX3_sink cX3_sink 5 none, Cond.methodLink RX3 107 yX3_closeGap, Cond.instanceMethod yX3_closeGap, Cond.selects RX3 yX3_closeGap yX3_closeGap, Cond.code yX3_closeGap cX3_closeGap 4 none, Cond.methodLink RX3 62 Lib.Math.max.name, Cond.methodLink RL 124 yL_cell, Cond.static yL_cell, Cond.initialized RL, Cond.code yL_cell cL_cell 2 (some .int), Cond.constant RL 7 (4270009), Cond.methodLink RL 97 yL_low, Cond.static yL_low, Cond.code yL_low cL_low 2 (some .int), Cond.constant RL 8 (2147483647), Cond.methodLink RL 128 yL_edits, Cond.static yL_edits, Cond.code yL_edits cL_edits 18 (some .int), Cond.methodLink RL 78 yL_print]
def wsL_law_r10 : List Cond := [Cond.static yL_print, Cond.code yL_print cL_print 4 (some .long), Cond.constantLong RL 71 (1000003), Cond.constantLong RL 73 (31), Cond.methodLink RL 100 yX4_insert, Cond.instanceMethod yX4_insert, Cond.selects RX4 yX4_insert yX4_insert, Cond.code yX4_insert cX4_insert 4 (some .int), Cond.methodLink RX4 195 yX4_wrap, Cond.instanceMethod yX4_wrap, Cond.selects RX4 yX4_wrap yX4_wrap, Cond.code yX4_wrap cX4_wrap 6 (some .int), Cond.methodLink RX4 171 yX4_isLetter, Cond.static yX4_isLetter, Cond.code yX4_isLetter cX4_isLetter 1 (some .boolean), Cond.methodLink RX4 199 yX3_wrapChildren, Cond.instanceMethod yX3_wrapChildren, Cond.selects RX3 yX3_wrapChildren yX3_wrapChildren, Cond.code yX3_wrapChildren cX3_wrapChildren 7 (some .int), Cond.methodLink RX3 97 yX3_startOfPlace, Cond.instanceMethod yX3_startOfPlace, Cond.selects RX3 yX3_startOfPlace yX3_startOfPlace, Cond.code yX3_startOfPlace cX3_startOfPlace 6 (some .int), Cond.methodLink RX3 103 yX3_openGap]
def wsL_law_r11 : List Cond := [Cond.instanceMethod yX3_openGap, Cond.selects RX3 yX3_openGap yX3_openGap, Cond.code yX3_openGap cX3_openGap 4 none, Cond.methodLink RX3 57 Lib.Math.min.name, Cond.methodLink RL 104 yX4_wrap, Cond.methodLink RL 111 yX4_cut, Cond.instanceMethod yX4_cut, Cond.selects RX4 yX4_cut yX4_cut, Cond.code yX4_cut cX4_cut 2 (some .int), Cond.methodLink RX4 207 yX3_closeGap, Cond.methodLink RL 114 yX4_move, Cond.instanceMethod yX4_move, Cond.selects RX4 yX4_move yX4_move, Cond.code yX4_move cX4_move 5 (some .int), Cond.methodLink RX4 211 yX3_endOf, Cond.methodLink RX4 214 yX3_transplant, Cond.instanceMethod yX3_transplant, Cond.selects RX3 yX3_transplant yX3_transplant, Cond.code yX3_transplant cX3_transplant 7 (some .int), Cond.methodLink RX3 110 yX3_hold, Cond.instanceMethod yX3_hold, Cond.selects RX3 yX3_hold yX3_hold, Cond.code yX3_hold cX3_hold 4 none, Cond.methodLink RX3 113 yX3_release]
def wsL_law_r12 : List Cond := [Cond.instanceMethod yX3_release, Cond.selects RX3 yX3_release yX3_release, Cond.code yX3_release cX3_release 5 none, Cond.methodLink RL 117 yX4_setLabel, Cond.instanceMethod yX4_setLabel, Cond.selects RX4 yX4_setLabel yX4_setLabel, Cond.code yX4_setLabel cX4_setLabel 4 (some .int), Cond.methodLink RX4 174 yX3_putNode, Cond.methodLink RL 132 yL_node, Cond.static yL_node, Cond.code yL_node cL_node 22 (some .boolean), Cond.methodLink RL 19 yX4_child, Cond.instanceMethod yX4_child, Cond.selects RX4 yX4_child yX4_child, Cond.code yX4_child cX4_child 3 (some .int), Cond.methodLink RX4 102 yX3_startOfPlace, Cond.methodLink RL 22 yX4_neighbour, Cond.instanceMethod yX4_neighbour, Cond.selects RX4 yX4_neighbour yX4_neighbour, Cond.code yX4_neighbour cX4_neighbour 3 (some .int), Cond.methodLink RX4 106 yX3_nextSibling, Cond.instanceMethod yX3_nextSibling, Cond.selects RX3 yX3_nextSibling yX3_nextSibling, Cond.code yX3_nextSibling cX3_nextSibling 3 (some .int)]
def wsL_law_r13 : List Cond := [Cond.methodLink RX4 109 yX3_previousSibling, Cond.instanceMethod yX3_previousSibling, Cond.selects RX3 yX3_previousSibling yX3_previousSibling, Cond.code yX3_previousSibling cX3_previousSibling 2 (some .int), Cond.methodLink RX3 65 yX3_placeOf, Cond.methodLink RX3 68 yX3_previousAtDepth, Cond.instanceMethod yX3_previousAtDepth, Cond.selects RX3 yX3_previousAtDepth yX3_previousAtDepth, Cond.code yX3_previousAtDepth cX3_previousAtDepth 2 (some .int), Cond.methodLink RX4 112 yX3_nextAtDepth, Cond.instanceMethod yX3_nextAtDepth, Cond.selects RX3 yX3_nextAtDepth yX3_nextAtDepth, Cond.code yX3_nextAtDepth cX3_nextAtDepth 3 (some .int), Cond.methodLink RX4 115 yX3_previousAtDepth, Cond.methodLink RX4 118 yX3_nextLeaf, Cond.instanceMethod yX3_nextLeaf, Cond.selects RX3 yX3_nextLeaf yX3_nextLeaf, Cond.code yX3_nextLeaf cX3_nextLeaf 3 (some .int), Cond.methodLink RX4 121 yX3_largestChild, Cond.instanceMethod yX3_largestChild, Cond.selects RX3 yX3_largestChild yX3_largestChild, Cond.code yX3_largestChild cX3_largestChild 6 (some .int), Cond.methodLink RL 25 yX4_bracket, Cond.instanceMethod yX4_bracket]
def wsL_law_r14 : List Cond := [Cond.selects RX4 yX4_bracket yX4_bracket, Cond.code yX4_bracket cX4_bracket 5 (some .int), Cond.methodLink RX4 139 yX3_positionCount, Cond.instanceMethod yX3_positionCount, Cond.selects RX3 yX3_positionCount yX3_positionCount, Cond.code yX3_positionCount cX3_positionCount 1 (some .int), Cond.methodLink RX4 142 yX3_nodeOfPosition, Cond.instanceMethod yX3_nodeOfPosition, Cond.selects RX3 yX3_nodeOfPosition yX3_nodeOfPosition, Cond.code yX3_nodeOfPosition cX3_nodeOfPosition 3 (some .int), Cond.methodLink RX3 77 yX3_openedBefore, Cond.instanceMethod yX3_openedBefore, Cond.selects RX3 yX3_openedBefore yX3_openedBefore, Cond.code yX3_openedBefore cX3_openedBefore 3 (some .int), Cond.methodLink RX3 80 yX3_excessBefore, Cond.instanceMethod yX3_excessBefore, Cond.selects RX3 yX3_excessBefore yX3_excessBefore, Cond.code yX3_excessBefore cX3_excessBefore 2 (some .int), Cond.methodLink RX4 145 yX3_excessBefore, Cond.methodLink RL 28 yX4_deepest, Cond.instanceMethod yX4_deepest, Cond.selects RX4 yX4_deepest yX4_deepest, Cond.code yX4_deepest cX4_deepest 2 (some .int), Cond.methodLink RL 32 yX4_byPostorder]
def wsL_law_r15 : List Cond := [Cond.instanceMethod yX4_byPostorder, Cond.selects RX4 yX4_byPostorder yX4_byPostorder, Cond.code yX4_byPostorder cX4_byPostorder 2 (some .int), Cond.methodLink RX4 136 yX3_findByPostorder, Cond.instanceMethod yX3_findByPostorder, Cond.selects RX3 yX3_findByPostorder yX3_findByPostorder, Cond.code yX3_findByPostorder cX3_findByPostorder 3 (some .int), Cond.methodLink RX3 54 yX3_postorderOf, Cond.methodLink RL 135 yL_two, Cond.static yL_two, Cond.code yL_two cL_two 14 (some .boolean), Cond.methodLink RL 35 yX4_common, Cond.instanceMethod yX4_common, Cond.selects RX4 yX4_common yX4_common, Cond.code yX4_common cX4_common 3 (some .int), Cond.methodLink RX4 127 yX3_meetingOf, Cond.instanceMethod yX3_meetingOf, Cond.selects RX3 yX3_meetingOf yX3_meetingOf, Cond.code yX3_meetingOf cX3_meetingOf 7 (some .int), Cond.methodLink RL 38 yX4_ancestorAt, Cond.instanceMethod yX4_ancestorAt, Cond.selects RX4 yX4_ancestorAt yX4_ancestorAt, Cond.code yX4_ancestorAt cX4_ancestorAt 3 (some .int), Cond.methodLink RX4 124 yX3_climb]
def wsL_law_r16 : List Cond := [Cond.methodLink RL 41 yX4_way, Cond.instanceMethod yX4_way, Cond.selects RX4 yX4_way yX4_way, Cond.code yX4_way cX4_way 7 (some .int), Cond.methodLink RL 45 yX4_level, Cond.instanceMethod yX4_level, Cond.selects RX4 yX4_level yX4_level, Cond.code yX4_level cX4_level 3 (some .int), Cond.methodLink RX4 130 yX3_countAtDepth, Cond.instanceMethod yX3_countAtDepth, Cond.selects RX3 yX3_countAtDepth yX3_countAtDepth, Cond.code yX3_countAtDepth cX3_countAtDepth 4 (some .int), Cond.methodLink RX4 133 yX3_findAtDepth, Cond.instanceMethod yX3_findAtDepth, Cond.selects RX3 yX3_findAtDepth yX3_findAtDepth, Cond.code yX3_findAtDepth cX3_findAtDepth 5 (some .int), Cond.methodLink RL 139 yL_labels, Cond.static yL_labels, Cond.code yL_labels cL_labels 11 (some .boolean), Cond.methodLink RL 48 yX4_labelled, Cond.instanceMethod yX4_labelled, Cond.selects RX4 yX4_labelled yX4_labelled, Cond.code yX4_labelled cX4_labelled 3 (some .int), Cond.methodLink RX4 178 yX3_countLabel]
def wsL_law_r17 : List Cond := [Cond.instanceMethod yX3_countLabel, Cond.selects RX3 yX3_countLabel yX3_countLabel, Cond.code yX3_countLabel cX3_countLabel 6 (some .int), Cond.methodLink RL 52 yX4_select, Cond.instanceMethod yX4_select, Cond.selects RX4 yX4_select yX4_select, Cond.code yX4_select cX4_select 4 (some .int), Cond.methodLink RX4 181 yX3_findLabel, Cond.instanceMethod yX3_findLabel, Cond.selects RX3 yX3_findLabel yX3_findLabel, Cond.code yX3_findLabel cX3_findLabel 7 (some .int), Cond.methodLink RL 56 yX4_areEqual, Cond.instanceMethod yX4_areEqual, Cond.selects RX4 yX4_areEqual yX4_areEqual, Cond.code yX4_areEqual cX4_areEqual 3 (some .int), Cond.methodLink RX4 188 yX3_sameSubtrees, Cond.instanceMethod yX3_sameSubtrees, Cond.selects RX3 yX3_sameSubtrees yX3_sameSubtrees, Cond.code yX3_sameSubtrees cX3_sameSubtrees 6 (some .boolean), Cond.methodLink RL 59 yX4_copies, Cond.instanceMethod yX4_copies, Cond.selects RX4 yX4_copies yX4_copies, Cond.code yX4_copies cX4_copies 2 (some .int), Cond.methodLink RX4 192 yX3_countEqual]
def wsL_law_r18 : List Cond := [Cond.instanceMethod yX3_countEqual, Cond.selects RX3 yX3_countEqual yX3_countEqual, Cond.code yX3_countEqual cX3_countEqual 4 (some .int), Cond.methodLink RX3 86 yX3_sameSubtrees, Cond.methodLink RL 62 yX4_ancestorWith, Cond.instanceMethod yX4_ancestorWith, Cond.selects RX4 yX4_ancestorWith yX4_ancestorWith, Cond.code yX4_ancestorWith cX4_ancestorWith 3 (some .int), Cond.methodLink RX4 185 yX3_findAncestor, Cond.instanceMethod yX3_findAncestor, Cond.selects RX3 yX3_findAncestor yX3_findAncestor, Cond.code yX3_findAncestor cX3_findAncestor 5 (some .int), Cond.methodLink RL 120 yX4_setWidth, Cond.instanceMethod yX4_setWidth, Cond.selects RX4 yX4_setWidth yX4_setWidth, Cond.code yX4_setWidth cX4_setWidth 2 (some .int), Cond.methodLink RX4 148 yX0_changeWidth, Cond.instanceMethod yX0_changeWidth, Cond.selects RX0 yX0_changeWidth yX0_changeWidth, Cond.code yX0_changeWidth cX0_changeWidth 3 (some .int), Cond.methodLink RL 142 yL_blocks, Cond.static yL_blocks, Cond.code yL_blocks cL_blocks 11 (some .boolean), Cond.methodLink RL 65 yX4_space]
def wsL_law_r19 : List Cond := [Cond.instanceMethod yX4_space, Cond.selects RX4 yX4_space yX4_space, Cond.code yX4_space cX4_space 5 (some .int), Cond.methodLink RX4 168 yX4_binaryDigits, Cond.static yX4_binaryDigits, Cond.code yX4_binaryDigits cX4_binaryDigits 2 (some .int), Cond.methodLink RX4 151 yX0_countFor, Cond.instanceMethod yX0_countFor, Cond.selects RX0 yX0_countFor yX0_countFor, Cond.code yX0_countFor cX0_countFor 3 (some .int), Cond.methodLink RX0 15 Lib.Math.max.name, Cond.methodLink RX0 21 yX3_positionCount, Cond.methodLink RL 68 yX4_block, Cond.instanceMethod yX4_block, Cond.selects RX4 yX4_block yX4_block, Cond.code yX4_block cX4_block 3 (some .int), Cond.methodLink RX4 155 yX0_startOf, Cond.instanceMethod yX0_startOf, Cond.selects RX0 yX0_startOf yX0_startOf, Cond.code yX0_startOf cX0_startOf 2 (some .int), Cond.methodLink RX4 158 yX0_leastExcess, Cond.instanceMethod yX0_leastExcess, Cond.selects RX0 yX0_leastExcess yX0_leastExcess, Cond.code yX0_leastExcess cX0_leastExcess 7 (some .int)]
def wsL_law_r20 : List Cond := [Cond.methodLink RX0 31 Lib.Math.min.name, Cond.methodLink RX0 34 yX0_endOf, Cond.instanceMethod yX0_endOf, Cond.selects RX0 yX0_endOf yX0_endOf, Cond.code yX0_endOf cX0_endOf 3 (some .int), Cond.methodLink RX0 27 yX0_startOf, Cond.methodLink RX0 38 yX3_openedBefore, Cond.methodLink RX0 41 yX3_opensAt, Cond.instanceMethod yX3_opensAt, Cond.selects RX3 yX3_opensAt yX3_opensAt, Cond.code yX3_opensAt cX3_opensAt 3 (some .int), Cond.methodLink RX4 162 yX0_greatestExcess, Cond.instanceMethod yX0_greatestExcess, Cond.selects RX0 yX0_greatestExcess yX0_greatestExcess, Cond.code yX0_greatestExcess cX0_greatestExcess 7 (some .int), Cond.methodLink RX4 165 yX0_positionsOf, Cond.instanceMethod yX0_positionsOf, Cond.selects RX0 yX0_positionsOf yX0_positionsOf, Cond.code yX0_positionsOf cX0_positionsOf 3 (some .int), Cond.methodLink RL 145 yL_texts, Cond.static yL_texts, Cond.code yL_texts cL_texts 9 (some .boolean), Cond.methodLink RL 84 yX4_clearText, Cond.instanceMethod yX4_clearText]
def wsL_law_r21 : List Cond := [Cond.selects RX4 yX4_clearText yX4_clearText, Cond.code yX4_clearText cX4_clearText 1 (some .int), Cond.methodLink RX4 41 yX2_empty, Cond.instanceMethod yX2_empty, Cond.selects RX2 yX2_empty yX2_empty, Cond.code yX2_empty cX2_empty 2 (some .int), Cond.fieldLink RX2 15 "BracketTree$Text" "length" "I", Cond.methodLink RL 87 yX4_type, Cond.instanceMethod yX4_type, Cond.selects RX4 yX4_type yX4_type, Cond.code yX4_type cX4_type 2 (some .int), Cond.methodLink RX4 37 yX2_append, Cond.instanceMethod yX2_append, Cond.selects RX2 yX2_append yX2_append, Cond.code yX2_append cX2_append 2 (some .int), Cond.methodLink RL 91 yX4_read, Cond.instanceMethod yX4_read, Cond.selects RX4 yX4_read yX4_read, Cond.code yX4_read cX4_read 2 (some .int), Cond.methodLink RX4 45 yX2_findFault, Cond.instanceMethod yX2_findFault, Cond.selects RX2 yX2_findFault yX2_findFault, Cond.code yX2_findFault cX2_findFault 4 (some .int), Cond.methodLink RX2 23 yX2_isAllowed]
def wsL_law_r22 : List Cond := [Cond.instanceMethod yX2_isAllowed, Cond.selects RX2 yX2_isAllowed yX2_isAllowed, Cond.code yX2_isAllowed cX2_isAllowed 6 (some .boolean), Cond.methodLink RX2 27 yX2_deeper, Cond.instanceMethod yX2_deeper, Cond.selects RX2 yX2_deeper yX2_deeper, Cond.code yX2_deeper cX2_deeper 3 (some .int), Cond.methodLink RX4 52 yX2_makeTree, Cond.instanceMethod yX2_makeTree, Cond.selects RX2 yX2_makeTree yX2_makeTree, Cond.code yX2_makeTree cX2_makeTree 4 none, Cond.methodLink RX2 39 yX3_empty, Cond.methodLink RX2 44 yX3_append, Cond.methodLink RL 148 yL_errors, Cond.static yL_errors, Cond.code yL_errors cL_errors 5 (some .boolean)]
def wsL_law : List Cond := (wsL_law_r1 ++ (wsL_law_r2 ++ (wsL_law_r3 ++ (wsL_law_r4 ++ (wsL_law_r5 ++ (wsL_law_r6 ++ (wsL_law_r7 ++ (wsL_law_r8 ++ (wsL_law_r9 ++ (wsL_law_r10 ++ (wsL_law_r11 ++ (wsL_law_r12 ++ (wsL_law_r13 ++ (wsL_law_r14 ++ (wsL_law_r15 ++ (wsL_law_r16 ++ (wsL_law_r17 ++ (wsL_law_r18 ++ (wsL_law_r19 ++ (wsL_law_r20 ++ (wsL_law_r21 ++ wsL_law_r22))))))))))))))))))))) ++ wsX40 ++ wsX30 ++ wsX00 ++ wsX10 ++ wsX20 ++ ([] : List Cond)
end
section
theorem lw_places {big ws : List Cond} (ps : List Nat) (hp : ws = ps.filterMap (fun i => big[i]?)) : ∀ w ∈ ws, w ∈ big := by
  intro w hw
  rw [hp] at hw
  obtain ⟨i, -, hi⟩ := List.mem_filterMap.mp hw
  exact List.mem_of_getElem? hi
set_option maxRecDepth 100000 in
theorem wsL_law_r1_in : ∀ w ∈ wsL_law_r1, w ∈ lw_tbl := lw_places [7, 8, 1, 9, 10, 11, 12, 13, 14, 15, 16, 2, 86, 41, 42, 3, 87, 51, 52, 4, 88, 73, 74, 5] (by decide +kernel)
set_option maxRecDepth 100000 in
theorem wsL_law_r2_in : ∀ w ∈ wsL_law_r2, w ∈ lw_tbl := lw_places [89, 17, 18, 19, 20, 40, 24, 25, 26, 27, 28, 22, 23, 44, 45, 46, 47, 54, 55, 56, 57, 58, 59, 76] (by decide +kernel)
set_option maxRecDepth 100000 in
theorem wsL_law_r3_in : ∀ w ∈ wsL_law_r3, w ∈ lw_tbl := lw_places [77, 78, 79, 134, 135, 136, 137, 138, 139, 140, 141, 142, 143, 144, 145, 146, 120, 121, 122, 147, 116, 117, 118, 119] (by decide +kernel)
set_option maxRecDepth 100000 in
theorem wsL_law_r4_in : ∀ w ∈ wsL_law_r4, w ∈ lw_tbl := lw_places [124, 125, 148, 149, 150, 151, 115, 152, 153, 154, 155, 156, 157, 158, 159, 160, 161, 162, 163, 164, 165, 166, 167, 168] (by decide +kernel)
set_option maxRecDepth 100000 in
theorem wsL_law_r5_in : ∀ w ∈ wsL_law_r5, w ∈ lw_tbl := lw_places [169, 170, 171, 172, 173, 174, 175, 176, 177, 178, 179, 111, 112, 113, 114, 180, 181, 182, 183, 184, 185, 186, 187, 188] (by decide +kernel)
set_option maxRecDepth 100000 in
theorem wsL_law_r6_in : ∀ w ∈ wsL_law_r6, w ∈ lw_tbl := lw_places [189, 190, 191, 192, 193, 194, 131, 132, 133, 237, 238, 239, 240, 241, 242, 243, 244, 61, 245, 246, 247, 248, 60, 249] (by decide +kernel)
set_option maxRecDepth 100000 in
theorem wsL_law_r7_in : ∀ w ∈ wsL_law_r7, w ∈ lw_tbl := lw_places [235, 6, 236, 251, 252, 253, 254, 255, 256, 257, 258, 226, 227, 228, 229, 99, 100, 101, 102, 103, 104, 105, 106, 107] (by decide +kernel)
set_option maxRecDepth 100000 in
theorem wsL_law_r8_in : ∀ w ∈ wsL_law_r8, w ∈ lw_tbl := lw_places [108, 109, 110, 126, 127, 128, 129, 130, 203, 204, 205, 206, 207, 208, 209, 210, 215, 216, 217, 211, 213, 214, 218, 219] (by decide +kernel)
set_option maxRecDepth 100000 in
theorem wsL_law_r9_in : ∀ w ∈ wsL_law_r9, w ∈ lw_tbl := lw_places [220, 221, 222, 223, 224, 225, 230, 231, 232, 233, 234, 259, 260, 0, 261, 262, 263, 264, 265, 266, 518, 519, 520, 472] rfl
set_option maxRecDepth 100000 in
theorem wsL_law_r10_in : ∀ w ∈ wsL_law_r10, w ∈ lw_tbl := lw_places [473, 474, 475, 476, 521, 522, 523, 524, 525, 526, 527, 528, 382, 383, 384, 529, 530, 531, 532, 533, 275, 276, 277, 534] rfl
set_option maxRecDepth 100000 in
theorem wsL_law_r11_in : ∀ w ∈ wsL_law_r11, w ∈ lw_tbl := lw_places [535, 536, 537, 353, 538, 539, 540, 541, 542, 543, 544, 545, 546, 547, 548, 549, 550, 551, 552, 553, 554, 555, 556, 557] (by decide +kernel)
set_option maxRecDepth 100000 in
theorem wsL_law_r12_in : ∀ w ∈ wsL_law_r12, w ∈ lw_tbl := lw_places [558, 559, 560, 561, 562, 563, 564, 565, 267, 268, 269, 270, 271, 272, 273, 274, 278, 279, 280, 281, 282, 283, 284, 285] rfl
set_option maxRecDepth 100000 in
theorem wsL_law_r13_in : ∀ w ∈ wsL_law_r13, w ∈ lw_tbl := lw_places [286, 287, 288, 289, 290, 291, 292, 293, 294, 295, 296, 297, 298, 299, 300, 301, 302, 303, 304, 305, 306, 307, 308, 309] (by decide +kernel)
set_option maxRecDepth 100000 in
theorem wsL_law_r14_in : ∀ w ∈ wsL_law_r14, w ∈ lw_tbl := lw_places [310, 311, 312, 313, 314, 315, 316, 317, 318, 319, 320, 321, 322, 323, 324, 325, 326, 327, 328, 329, 330, 331, 332, 333] (by decide +kernel)
set_option maxRecDepth 100000 in
theorem wsL_law_r15_in : ∀ w ∈ wsL_law_r15, w ∈ lw_tbl := lw_places [334, 335, 336, 337, 338, 339, 340, 341, 342, 343, 344, 345, 346, 347, 348, 349, 350, 351, 352, 354, 355, 356, 357, 358] rfl
set_option maxRecDepth 100000 in
theorem wsL_law_r16_in : ∀ w ∈ wsL_law_r16, w ∈ lw_tbl := lw_places [359, 360, 361, 362, 363, 364, 365, 366, 367, 368, 369, 370, 371, 372, 373, 374, 375, 376, 377, 378, 379, 380, 381, 385] rfl
set_option maxRecDepth 100000 in
theorem wsL_law_r17_in : ∀ w ∈ wsL_law_r17, w ∈ lw_tbl := lw_places [386, 387, 388, 389, 390, 391, 392, 393, 394, 395, 396, 397, 398, 399, 400, 401, 402, 403, 404, 405, 406, 407, 408, 409] (by decide +kernel)
set_option maxRecDepth 100000 in
theorem wsL_law_r18_in : ∀ w ∈ wsL_law_r18, w ∈ lw_tbl := lw_places [410, 411, 412, 413, 414, 415, 416, 417, 418, 419, 420, 421, 195, 196, 197, 198, 199, 200, 201, 202, 422, 423, 424, 425] rfl
set_option maxRecDepth 100000 in
theorem wsL_law_r19_in : ∀ w ∈ wsL_law_r19, w ∈ lw_tbl := lw_places [426, 427, 428, 429, 430, 431, 432, 433, 434, 435, 436, 437, 438, 439, 440, 441, 442, 443, 444, 445, 446, 447, 448, 449] (by decide +kernel)
set_option maxRecDepth 100000 in
theorem wsL_law_r20_in : ∀ w ∈ wsL_law_r20, w ∈ lw_tbl := lw_places [455, 450, 451, 452, 453, 454, 456, 457, 458, 459, 460, 461, 462, 463, 464, 465, 466, 467, 468, 469, 470, 471, 477, 478] rfl
set_option maxRecDepth 100000 in
theorem wsL_law_r21_in : ∀ w ∈ wsL_law_r21, w ∈ lw_tbl := lw_places [479, 480, 481, 482, 483, 484, 80, 485, 486, 487, 488, 489, 490, 491, 492, 494, 495, 496, 497, 498, 499, 500, 501, 502] (by decide +kernel)
set_option maxRecDepth 100000 in
theorem wsL_law_r22_in : ∀ w ∈ wsL_law_r22, w ∈ lw_tbl := lw_places [503, 504, 505, 508, 509, 510, 511, 512, 513, 514, 515, 516, 517, 566, 567, 568] rfl
set_option maxRecDepth 100000 in
theorem wsX40_in : ∀ w ∈ wsX40, w ∈ lw_tbl := lw_places [90, 92, 94, 96] (by decide +kernel)
set_option maxRecDepth 100000 in
theorem wsX30_in : ∀ w ∈ wsX30, w ∈ lw_tbl := lw_places [29, 31, 33, 35, 37] (by decide +kernel)
set_option maxRecDepth 100000 in
theorem wsX00_in : ∀ w ∈ wsX00, w ∈ lw_tbl := lw_places [48] (by decide +kernel)
set_option maxRecDepth 100000 in
theorem wsX10_in : ∀ w ∈ wsX10, w ∈ lw_tbl := lw_places [62, 64, 66, 68, 70] (by decide +kernel)
set_option maxRecDepth 100000 in
theorem wsX20_in : ∀ w ∈ wsX20, w ∈ lw_tbl := lw_places [81, 83] (by decide +kernel)
theorem wsL_law_in : ∀ w ∈ wsL_law, w ∈ lw_tbl := List.forall_mem_append.mpr ⟨List.forall_mem_append.mpr ⟨List.forall_mem_append.mpr ⟨List.forall_mem_append.mpr ⟨List.forall_mem_append.mpr ⟨List.forall_mem_append.mpr ⟨List.forall_mem_append.mpr ⟨wsL_law_r1_in, List.forall_mem_append.mpr ⟨wsL_law_r2_in, List.forall_mem_append.mpr ⟨wsL_law_r3_in, List.forall_mem_append.mpr ⟨wsL_law_r4_in, List.forall_mem_append.mpr ⟨wsL_law_r5_in, List.forall_mem_append.mpr ⟨wsL_law_r6_in, List.forall_mem_append.mpr ⟨wsL_law_r7_in, List.forall_mem_append.mpr ⟨wsL_law_r8_in, List.forall_mem_append.mpr ⟨wsL_law_r9_in, List.forall_mem_append.mpr ⟨wsL_law_r10_in, List.forall_mem_append.mpr ⟨wsL_law_r11_in, List.forall_mem_append.mpr ⟨wsL_law_r12_in, List.forall_mem_append.mpr ⟨wsL_law_r13_in, List.forall_mem_append.mpr ⟨wsL_law_r14_in, List.forall_mem_append.mpr ⟨wsL_law_r15_in, List.forall_mem_append.mpr ⟨wsL_law_r16_in, List.forall_mem_append.mpr ⟨wsL_law_r17_in, List.forall_mem_append.mpr ⟨wsL_law_r18_in, List.forall_mem_append.mpr ⟨wsL_law_r19_in, List.forall_mem_append.mpr ⟨wsL_law_r20_in, List.forall_mem_append.mpr ⟨wsL_law_r21_in, wsL_law_r22_in⟩⟩⟩⟩⟩⟩⟩⟩⟩⟩⟩⟩⟩⟩⟩⟩⟩⟩⟩⟩⟩, wsX40_in⟩, wsX30_in⟩, wsX00_in⟩, wsX10_in⟩, wsX20_in⟩, fun _ h => absurd h List.not_mem_nil⟩

theorem inlX0 : ∀ w ∈ wsX00, w ∈ wsL_law := fun _ h => List.mem_append_left _ (List.mem_append_left _ (List.mem_append_left _ (List.mem_append_right _ h)))
theorem inX0 : ∀ w ∈ wsX00, w ∈ lw_tbl := fun w h => wsL_law_in w (inlX0 w h)
theorem inlX1 : ∀ w ∈ wsX10, w ∈ wsL_law := fun _ h => List.mem_append_left _ (List.mem_append_left _ (List.mem_append_right _ h))
theorem inX1 : ∀ w ∈ wsX10, w ∈ lw_tbl := fun w h => wsL_law_in w (inlX1 w h)
theorem inlX2 : ∀ w ∈ wsX20, w ∈ wsL_law := fun _ h => List.mem_append_left _ (List.mem_append_right _ h)
theorem inX2 : ∀ w ∈ wsX20, w ∈ lw_tbl := fun w h => wsL_law_in w (inlX2 w h)
theorem inlX3 : ∀ w ∈ wsX30, w ∈ wsL_law := fun _ h => List.mem_append_left _ (List.mem_append_left _ (List.mem_append_left _ (List.mem_append_left _ (List.mem_append_right _ h))))
theorem inX3 : ∀ w ∈ wsX30, w ∈ lw_tbl := fun w h => wsL_law_in w (inlX3 w h)
theorem inlX4 : ∀ w ∈ wsX40, w ∈ wsL_law := fun _ h => List.mem_append_left _ (List.mem_append_left _ (List.mem_append_left _ (List.mem_append_left _ (List.mem_append_left _ (List.mem_append_right _ h)))))
theorem inX4 : ∀ w ∈ wsX40, w ∈ lw_tbl := fun w h => wsL_law_in w (inlX4 w h)
theorem inX5 : ∀ w ∈ wsX50, w ∈ lw_tbl := by decide +kernel
theorem inJ9 : ∀ w ∈ wsJ90, w ∈ lw_tbl := by decide +kernel
end
section
theorem dX0_init_0 : decode cX0_init 0 = .ok (.aload_n 0, 1) := by decide +kernel
theorem dX0_init_1 : decode cX0_init 1 = .ok (.invokespecial 3, 3) := by decide +kernel
theorem dX0_init_4 : decode cX0_init 4 = .ok (.aload_n 0, 1) := by decide +kernel
theorem dX0_init_5 : decode cX0_init 5 = .ok (.bipush 8, 2) := by decide +kernel
theorem dX0_init_7 : decode cX0_init 7 = .ok (.putfield 9, 3) := by decide +kernel
theorem dX0_init_10 : decode cX0_init 10 = .ok (.return_, 1) := by decide +kernel
theorem dX0_changeWidth_0 : decode cX0_changeWidth 0 = .ok (.aload_n 0, 1) := by decide +kernel
theorem dX0_changeWidth_1 : decode cX0_changeWidth 1 = .ok (.getfield 9, 3) := by decide +kernel
theorem dX0_changeWidth_4 : decode cX0_changeWidth 4 = .ok (.istore_n 2, 1) := by decide +kernel
theorem dX0_changeWidth_5 : decode cX0_changeWidth 5 = .ok (.aload_n 0, 1) := by decide +kernel
theorem dX0_changeWidth_6 : decode cX0_changeWidth 6 = .ok (.iload_n 1, 1) := by decide +kernel
theorem dX0_changeWidth_7 : decode cX0_changeWidth 7 = .ok (.putfield 9, 3) := by decide +kernel
theorem dX0_changeWidth_10 : decode cX0_changeWidth 10 = .ok (.iload_n 2, 1) := by decide +kernel
theorem dX0_changeWidth_11 : decode cX0_changeWidth 11 = .ok (.ireturn, 1) := by decide +kernel
set_option maxRecDepth 20000 in
theorem ggX0_countFor_X3_positionCount : GoodIn wsX0_countFor wsX3_positionCount := goodIn_r _ [10, 11, 13, 14, 15, 16, 17] (by decide +kernel) (by decide +kernel)
set_option maxRecDepth 20000 in
theorem gX0_countFor_X3_positionCount : GoodIn wsX0_countFor (wsV RX0 21 RX3 yX3_positionCount wsX3_positionCount) := goodIn_app (goodIn_of _ (by decide +kernel)) ggX0_countFor_X3_positionCount
theorem dX0_countFor_0 : decode cX0_countFor 0 = .ok (.aload_n 0, 1) := by decide +kernel
theorem dX0_countFor_1 : decode cX0_countFor 1 = .ok (.getfield 9, 3) := by decide +kernel
theorem dX0_countFor_4 : decode cX0_countFor 4 = .ok (.iconst 4, 1) := by decide +kernel
theorem dX0_countFor_5 : decode cX0_countFor 5 = .ok (.invokestatic 15, 3) := by decide +kernel
theorem dX0_countFor_8 : decode cX0_countFor 8 = .ok (.istore_n 2, 1) := by decide +kernel
theorem dX0_countFor_9 : decode cX0_countFor 9 = .ok (.aload_n 1, 1) := by decide +kernel
theorem dX0_countFor_10 : decode cX0_countFor 10 = .ok (.invokevirtual 21, 3) := by decide +kernel
theorem dX0_countFor_13 : decode cX0_countFor 13 = .ok (.iload_n 2, 1) := by decide +kernel
theorem dX0_countFor_14 : decode cX0_countFor 14 = .ok (.iadd, 1) := by decide +kernel
theorem dX0_countFor_15 : decode cX0_countFor 15 = .ok (.iconst 1, 1) := by decide +kernel
theorem dX0_countFor_16 : decode cX0_countFor 16 = .ok (.isub, 1) := by decide +kernel
theorem dX0_countFor_17 : decode cX0_countFor 17 = .ok (.iload_n 2, 1) := by decide +kernel
theorem dX0_countFor_18 : decode cX0_countFor 18 = .ok (.idiv, 1) := by decide +kernel
theorem dX0_countFor_19 : decode cX0_countFor 19 = .ok (.ireturn, 1) := by decide +kernel
theorem dX0_startOf_0 : decode cX0_startOf 0 = .ok (.iload_n 1, 1) := by decide +kernel
theorem dX0_startOf_1 : decode cX0_startOf 1 = .ok (.aload_n 0, 1) := by decide +kernel
theorem dX0_startOf_2 : decode cX0_startOf 2 = .ok (.getfield 9, 3) := by decide +kernel
theorem dX0_startOf_5 : decode cX0_startOf 5 = .ok (.imul, 1) := by decide +kernel
theorem dX0_startOf_6 : decode cX0_startOf 6 = .ok (.ireturn, 1) := by decide +kernel
set_option maxRecDepth 20000 in
theorem ggX0_endOf_X0_startOf : GoodIn wsX0_endOf wsX0_startOf := goodIn_r _ [10, 1, 17] (by decide +kernel) (by decide +kernel)
set_option maxRecDepth 20000 in
theorem gX0_endOf_X0_startOf : GoodIn wsX0_endOf (wsV RX0 27 RX0 yX0_startOf wsX0_startOf) := goodIn_app (goodIn_of _ (by decide +kernel)) ggX0_endOf_X0_startOf
set_option maxRecDepth 20000 in
theorem ggX0_endOf_X3_positionCount : GoodIn wsX0_endOf wsX3_positionCount := goodIn_r _ [15, 16, 18, 19, 20, 21, 22] (by decide +kernel) (by decide +kernel)
set_option maxRecDepth 20000 in
theorem gX0_endOf_X3_positionCount : GoodIn wsX0_endOf (wsV RX0 21 RX3 yX3_positionCount wsX3_positionCount) := goodIn_app (goodIn_of _ (by decide +kernel)) ggX0_endOf_X3_positionCount
theorem dX0_endOf_0 : decode cX0_endOf 0 = .ok (.aload_n 0, 1) := by decide +kernel
theorem dX0_endOf_1 : decode cX0_endOf 1 = .ok (.iload_n 2, 1) := by decide +kernel
theorem dX0_endOf_2 : decode cX0_endOf 2 = .ok (.invokevirtual 27, 3) := by decide +kernel
theorem dX0_endOf_5 : decode cX0_endOf 5 = .ok (.aload_n 0, 1) := by decide +kernel
theorem dX0_endOf_6 : decode cX0_endOf 6 = .ok (.getfield 9, 3) := by decide +kernel
theorem dX0_endOf_9 : decode cX0_endOf 9 = .ok (.iadd, 1) := by decide +kernel
theorem dX0_endOf_10 : decode cX0_endOf 10 = .ok (.aload_n 1, 1) := by decide +kernel
theorem dX0_endOf_11 : decode cX0_endOf 11 = .ok (.invokevirtual 21, 3) := by decide +kernel
theorem dX0_endOf_14 : decode cX0_endOf 14 = .ok (.invokestatic 31, 3) := by decide +kernel
theorem dX0_endOf_17 : decode cX0_endOf 17 = .ok (.ireturn, 1) := by decide +kernel
set_option maxRecDepth 20000 in
theorem ggX0_positionsOf_X0_endOf : GoodIn wsX0_positionsOf wsX0_endOf := goodIn_r _ [5, 6, 7, 8, 9, 10, 11, 12, 13, 4, 14, 15, 16, 17, 18, 19, 20, 21, 22, 23, 24, 25, 26] (by decide +kernel) (by decide +kernel)
set_option maxRecDepth 20000 in
theorem gX0_positionsOf_X0_endOf : GoodIn wsX0_positionsOf (wsV RX0 34 RX0 yX0_endOf wsX0_endOf) := goodIn_app (goodIn_of _ (by decide +kernel)) ggX0_positionsOf_X0_endOf
set_option maxRecDepth 20000 in
theorem ggX0_positionsOf_X0_startOf : GoodIn wsX0_positionsOf wsX0_startOf := goodIn_r _ [14, 6, 21] (by decide +kernel) (by decide +kernel)
set_option maxRecDepth 20000 in
theorem gX0_positionsOf_X0_startOf : GoodIn wsX0_positionsOf (wsV RX0 27 RX0 yX0_startOf wsX0_startOf) := goodIn_app (goodIn_of _ (by decide +kernel)) ggX0_positionsOf_X0_startOf
theorem dX0_positionsOf_0 : decode cX0_positionsOf 0 = .ok (.aload_n 0, 1) := by decide +kernel
theorem dX0_positionsOf_1 : decode cX0_positionsOf 1 = .ok (.aload_n 1, 1) := by decide +kernel
theorem dX0_positionsOf_2 : decode cX0_positionsOf 2 = .ok (.iload_n 2, 1) := by decide +kernel
theorem dX0_positionsOf_3 : decode cX0_positionsOf 3 = .ok (.invokevirtual 34, 3) := by decide +kernel
theorem dX0_positionsOf_6 : decode cX0_positionsOf 6 = .ok (.aload_n 0, 1) := by decide +kernel
theorem dX0_positionsOf_7 : decode cX0_positionsOf 7 = .ok (.iload_n 2, 1) := by decide +kernel
theorem dX0_positionsOf_8 : decode cX0_positionsOf 8 = .ok (.invokevirtual 27, 3) := by decide +kernel
theorem dX0_positionsOf_11 : decode cX0_positionsOf 11 = .ok (.isub, 1) := by decide +kernel
theorem dX0_positionsOf_12 : decode cX0_positionsOf 12 = .ok (.ireturn, 1) := by decide +kernel
set_option maxRecDepth 20000 in
theorem ggX0_leastExcess_X0_endOf : GoodIn wsX0_leastExcess wsX0_endOf := goodIn_r _ [9, 10, 1, 2, 3, 4, 11, 12, 13, 8, 14, 15, 16, 17, 18, 19, 20, 45, 46, 47, 48, 49, 50] (by decide +kernel) (by decide +kernel)
set_option maxRecDepth 20000 in
theorem gX0_leastExcess_X0_endOf : GoodIn wsX0_leastExcess (wsV RX0 34 RX0 yX0_endOf wsX0_endOf) := goodIn_app (goodIn_of _ (by decide +kernel)) ggX0_leastExcess_X0_endOf
set_option maxRecDepth 20000 in
theorem ggX0_leastExcess_X0_startOf : GoodIn wsX0_leastExcess wsX0_startOf := goodIn_r _ [14, 10, 45] (by decide +kernel) (by decide +kernel)
set_option maxRecDepth 20000 in
theorem gX0_leastExcess_X0_startOf : GoodIn wsX0_leastExcess (wsV RX0 27 RX0 yX0_startOf wsX0_startOf) := goodIn_app (goodIn_of _ (by decide +kernel)) ggX0_leastExcess_X0_startOf
set_option maxRecDepth 20000 in
theorem ggX0_leastExcess_X3_openedBefore : GoodIn wsX0_leastExcess wsX3_openedBefore := goodIn_r _ [24, 20, 25, 26, 27, 18, 28, 29, 30, 31, 32, 33, 34, 35, 36, 37, 38, 39, 40, 46, 47, 48, 49, 50] (by decide +kernel) (by decide +kernel)
set_option maxRecDepth 20000 in
theorem gX0_leastExcess_X3_openedBefore : GoodIn wsX0_leastExcess (wsV RX0 38 RX3 yX3_openedBefore wsX3_openedBefore) := goodIn_app (goodIn_of _ (by decide +kernel)) ggX0_leastExcess_X3_openedBefore
set_option maxRecDepth 20000 in
theorem ggX0_leastExcess_X3_opensAt : GoodIn wsX0_leastExcess wsX3_opensAt := goodIn_r _ [44, 34, 35, 36, 18, 37, 20, 25, 26, 27, 28, 29, 30, 31, 32, 33, 38, 39, 40, 46, 47, 48, 49, 50] (by decide +kernel) (by decide +kernel)
set_option maxRecDepth 20000 in
theorem gX0_leastExcess_X3_opensAt : GoodIn wsX0_leastExcess (wsV RX0 41 RX3 yX3_opensAt wsX3_opensAt) := goodIn_app (goodIn_of _ (by decide +kernel)) ggX0_leastExcess_X3_opensAt
theorem dX0_leastExcess_0 : decode cX0_leastExcess 0 = .ok (.aload_n 0, 1) := by decide +kernel
theorem dX0_leastExcess_1 : decode cX0_leastExcess 1 = .ok (.aload_n 1, 1) := by decide +kernel
theorem dX0_leastExcess_2 : decode cX0_leastExcess 2 = .ok (.iload_n 2, 1) := by decide +kernel
theorem dX0_leastExcess_3 : decode cX0_leastExcess 3 = .ok (.invokevirtual 34, 3) := by decide +kernel
theorem dX0_leastExcess_6 : decode cX0_leastExcess 6 = .ok (.istore_n 3, 1) := by decide +kernel
theorem dX0_leastExcess_7 : decode cX0_leastExcess 7 = .ok (.aload_n 1, 1) := by decide +kernel
theorem dX0_leastExcess_8 : decode cX0_leastExcess 8 = .ok (.aload_n 0, 1) := by decide +kernel
theorem dX0_leastExcess_9 : decode cX0_leastExcess 9 = .ok (.iload_n 2, 1) := by decide +kernel
theorem dX0_leastExcess_10 : decode cX0_leastExcess 10 = .ok (.invokevirtual 27, 3) := by decide +kernel
theorem dX0_leastExcess_13 : decode cX0_leastExcess 13 = .ok (.invokevirtual 38, 3) := by decide +kernel
theorem dX0_leastExcess_16 : decode cX0_leastExcess 16 = .ok (.istore 4, 2) := by decide +kernel
theorem dX0_leastExcess_18 : decode cX0_leastExcess 18 = .ok (.bipush 100, 2) := by decide +kernel
theorem dX0_leastExcess_20 : decode cX0_leastExcess 20 = .ok (.istore 5, 2) := by decide +kernel
theorem dX0_leastExcess_22 : decode cX0_leastExcess 22 = .ok (.aload_n 0, 1) := by decide +kernel
theorem dX0_leastExcess_23 : decode cX0_leastExcess 23 = .ok (.iload_n 2, 1) := by decide +kernel
theorem dX0_leastExcess_24 : decode cX0_leastExcess 24 = .ok (.invokevirtual 27, 3) := by decide +kernel
theorem dX0_leastExcess_27 : decode cX0_leastExcess 27 = .ok (.istore 6, 2) := by decide +kernel
theorem dX0_leastExcess_29 : decode cX0_leastExcess 29 = .ok (.iload 6, 2) := by decide +kernel
theorem dX0_leastExcess_31 : decode cX0_leastExcess 31 = .ok (.iload_n 3, 1) := by decide +kernel
theorem dX0_leastExcess_32 : decode cX0_leastExcess 32 = .ok (.if_icmp .ge 38, 3) := by decide +kernel
theorem dX0_leastExcess_35 : decode cX0_leastExcess 35 = .ok (.iload 4, 2) := by decide +kernel
theorem dX0_leastExcess_37 : decode cX0_leastExcess 37 = .ok (.aload_n 1, 1) := by decide +kernel
theorem dX0_leastExcess_38 : decode cX0_leastExcess 38 = .ok (.iload 4, 2) := by decide +kernel
theorem dX0_leastExcess_40 : decode cX0_leastExcess 40 = .ok (.iload 6, 2) := by decide +kernel
theorem dX0_leastExcess_42 : decode cX0_leastExcess 42 = .ok (.invokevirtual 41, 3) := by decide +kernel
theorem dX0_leastExcess_45 : decode cX0_leastExcess 45 = .ok (.iadd, 1) := by decide +kernel
theorem dX0_leastExcess_46 : decode cX0_leastExcess 46 = .ok (.istore 4, 2) := by decide +kernel
theorem dX0_leastExcess_48 : decode cX0_leastExcess 48 = .ok (.iload 5, 2) := by decide +kernel
theorem dX0_leastExcess_50 : decode cX0_leastExcess 50 = .ok (.iconst 2, 1) := by decide +kernel
theorem dX0_leastExcess_51 : decode cX0_leastExcess 51 = .ok (.iload 4, 2) := by decide +kernel
theorem dX0_leastExcess_53 : decode cX0_leastExcess 53 = .ok (.imul, 1) := by decide +kernel
theorem dX0_leastExcess_54 : decode cX0_leastExcess 54 = .ok (.iload 6, 2) := by decide +kernel
theorem dX0_leastExcess_56 : decode cX0_leastExcess 56 = .ok (.isub, 1) := by decide +kernel
theorem dX0_leastExcess_57 : decode cX0_leastExcess 57 = .ok (.iconst 1, 1) := by decide +kernel
theorem dX0_leastExcess_58 : decode cX0_leastExcess 58 = .ok (.isub, 1) := by decide +kernel
theorem dX0_leastExcess_59 : decode cX0_leastExcess 59 = .ok (.invokestatic 31, 3) := by decide +kernel
theorem dX0_leastExcess_62 : decode cX0_leastExcess 62 = .ok (.istore 5, 2) := by decide +kernel
theorem dX0_leastExcess_64 : decode cX0_leastExcess 64 = .ok (.iinc 6 1, 3) := by decide +kernel
theorem dX0_leastExcess_67 : decode cX0_leastExcess 67 = .ok (.goto (-38), 3) := by decide +kernel
theorem dX0_leastExcess_70 : decode cX0_leastExcess 70 = .ok (.iload 5, 2) := by decide +kernel
theorem dX0_leastExcess_72 : decode cX0_leastExcess 72 = .ok (.ireturn, 1) := by decide +kernel
set_option maxRecDepth 20000 in
theorem ggX0_greatestExcess_X0_endOf : GoodIn wsX0_greatestExcess wsX0_endOf := goodIn_r _ [9, 10, 11, 12, 3, 13, 14, 15, 16, 8, 17, 18, 19, 20, 21, 22, 23, 48, 49, 50, 51, 52, 53] (by decide +kernel) (by decide +kernel)
set_option maxRecDepth 20000 in
theorem gX0_greatestExcess_X0_endOf : GoodIn wsX0_greatestExcess (wsV RX0 34 RX0 yX0_endOf wsX0_endOf) := goodIn_app (goodIn_of _ (by decide +kernel)) ggX0_greatestExcess_X0_endOf
set_option maxRecDepth 20000 in
theorem ggX0_greatestExcess_X0_startOf : GoodIn wsX0_greatestExcess wsX0_startOf := goodIn_r _ [17, 10, 48] (by decide +kernel) (by decide +kernel)
set_option maxRecDepth 20000 in
theorem gX0_greatestExcess_X0_startOf : GoodIn wsX0_greatestExcess (wsV RX0 27 RX0 yX0_startOf wsX0_startOf) := goodIn_app (goodIn_of _ (by decide +kernel)) ggX0_greatestExcess_X0_startOf
set_option maxRecDepth 20000 in
theorem ggX0_greatestExcess_X3_openedBefore : GoodIn wsX0_greatestExcess wsX3_openedBefore := goodIn_r _ [27, 23, 28, 29, 30, 21, 31, 32, 33, 34, 35, 36, 37, 38, 39, 40, 41, 42, 43, 49, 50, 51, 52, 53] (by decide +kernel) (by decide +kernel)
set_option maxRecDepth 20000 in
theorem gX0_greatestExcess_X3_openedBefore : GoodIn wsX0_greatestExcess (wsV RX0 38 RX3 yX3_openedBefore wsX3_openedBefore) := goodIn_app (goodIn_of _ (by decide +kernel)) ggX0_greatestExcess_X3_openedBefore
set_option maxRecDepth 20000 in
theorem ggX0_greatestExcess_X3_opensAt : GoodIn wsX0_greatestExcess wsX3_opensAt := goodIn_r _ [47, 37, 38, 39, 21, 40, 23, 28, 29, 30, 31, 32, 33, 34, 35, 36, 41, 42, 43, 49, 50, 51, 52, 53] (by decide +kernel) (by decide +kernel)
set_option maxRecDepth 20000 in
theorem gX0_greatestExcess_X3_opensAt : GoodIn wsX0_greatestExcess (wsV RX0 41 RX3 yX3_opensAt wsX3_opensAt) := goodIn_app (goodIn_of _ (by decide +kernel)) ggX0_greatestExcess_X3_opensAt
theorem dX0_greatestExcess_0 : decode cX0_greatestExcess 0 = .ok (.aload_n 0, 1) := by decide +kernel
theorem dX0_greatestExcess_1 : decode cX0_greatestExcess 1 = .ok (.aload_n 1, 1) := by decide +kernel
theorem dX0_greatestExcess_2 : decode cX0_greatestExcess 2 = .ok (.iload_n 2, 1) := by decide +kernel
theorem dX0_greatestExcess_3 : decode cX0_greatestExcess 3 = .ok (.invokevirtual 34, 3) := by decide +kernel
theorem dX0_greatestExcess_6 : decode cX0_greatestExcess 6 = .ok (.istore_n 3, 1) := by decide +kernel
theorem dX0_greatestExcess_7 : decode cX0_greatestExcess 7 = .ok (.aload_n 1, 1) := by decide +kernel
theorem dX0_greatestExcess_8 : decode cX0_greatestExcess 8 = .ok (.aload_n 0, 1) := by decide +kernel
theorem dX0_greatestExcess_9 : decode cX0_greatestExcess 9 = .ok (.iload_n 2, 1) := by decide +kernel
theorem dX0_greatestExcess_10 : decode cX0_greatestExcess 10 = .ok (.invokevirtual 27, 3) := by decide +kernel
theorem dX0_greatestExcess_13 : decode cX0_greatestExcess 13 = .ok (.invokevirtual 38, 3) := by decide +kernel
theorem dX0_greatestExcess_16 : decode cX0_greatestExcess 16 = .ok (.istore 4, 2) := by decide +kernel
theorem dX0_greatestExcess_18 : decode cX0_greatestExcess 18 = .ok (.iconst 0, 1) := by decide +kernel
theorem dX0_greatestExcess_19 : decode cX0_greatestExcess 19 = .ok (.istore 5, 2) := by decide +kernel
theorem dX0_greatestExcess_21 : decode cX0_greatestExcess 21 = .ok (.aload_n 0, 1) := by decide +kernel
theorem dX0_greatestExcess_22 : decode cX0_greatestExcess 22 = .ok (.iload_n 2, 1) := by decide +kernel
theorem dX0_greatestExcess_23 : decode cX0_greatestExcess 23 = .ok (.invokevirtual 27, 3) := by decide +kernel
theorem dX0_greatestExcess_26 : decode cX0_greatestExcess 26 = .ok (.istore 6, 2) := by decide +kernel
theorem dX0_greatestExcess_28 : decode cX0_greatestExcess 28 = .ok (.iload 6, 2) := by decide +kernel
theorem dX0_greatestExcess_30 : decode cX0_greatestExcess 30 = .ok (.iload_n 3, 1) := by decide +kernel
theorem dX0_greatestExcess_31 : decode cX0_greatestExcess 31 = .ok (.if_icmp .ge 38, 3) := by decide +kernel
theorem dX0_greatestExcess_34 : decode cX0_greatestExcess 34 = .ok (.iload 4, 2) := by decide +kernel
theorem dX0_greatestExcess_36 : decode cX0_greatestExcess 36 = .ok (.aload_n 1, 1) := by decide +kernel
theorem dX0_greatestExcess_37 : decode cX0_greatestExcess 37 = .ok (.iload 4, 2) := by decide +kernel
theorem dX0_greatestExcess_39 : decode cX0_greatestExcess 39 = .ok (.iload 6, 2) := by decide +kernel
theorem dX0_greatestExcess_41 : decode cX0_greatestExcess 41 = .ok (.invokevirtual 41, 3) := by decide +kernel
theorem dX0_greatestExcess_44 : decode cX0_greatestExcess 44 = .ok (.iadd, 1) := by decide +kernel
theorem dX0_greatestExcess_45 : decode cX0_greatestExcess 45 = .ok (.istore 4, 2) := by decide +kernel
theorem dX0_greatestExcess_47 : decode cX0_greatestExcess 47 = .ok (.iload 5, 2) := by decide +kernel
theorem dX0_greatestExcess_49 : decode cX0_greatestExcess 49 = .ok (.iconst 2, 1) := by decide +kernel
theorem dX0_greatestExcess_50 : decode cX0_greatestExcess 50 = .ok (.iload 4, 2) := by decide +kernel
theorem dX0_greatestExcess_52 : decode cX0_greatestExcess 52 = .ok (.imul, 1) := by decide +kernel
theorem dX0_greatestExcess_53 : decode cX0_greatestExcess 53 = .ok (.iload 6, 2) := by decide +kernel
theorem dX0_greatestExcess_55 : decode cX0_greatestExcess 55 = .ok (.isub, 1) := by decide +kernel
theorem dX0_greatestExcess_56 : decode cX0_greatestExcess 56 = .ok (.iconst 1, 1) := by decide +kernel
theorem dX0_greatestExcess_57 : decode cX0_greatestExcess 57 = .ok (.isub, 1) := by decide +kernel
theorem dX0_greatestExcess_58 : decode cX0_greatestExcess 58 = .ok (.invokestatic 15, 3) := by decide +kernel
theorem dX0_greatestExcess_61 : decode cX0_greatestExcess 61 = .ok (.istore 5, 2) := by decide +kernel
theorem dX0_greatestExcess_63 : decode cX0_greatestExcess 63 = .ok (.iinc 6 1, 3) := by decide +kernel
theorem dX0_greatestExcess_66 : decode cX0_greatestExcess 66 = .ok (.goto (-38), 3) := by decide +kernel
theorem dX0_greatestExcess_69 : decode cX0_greatestExcess 69 = .ok (.iload 5, 2) := by decide +kernel
theorem dX0_greatestExcess_71 : decode cX0_greatestExcess 71 = .ok (.ireturn, 1) := by decide +kernel
theorem dX1_init_0 : decode cX1_init 0 = .ok (.aload_n 0, 1) := by decide +kernel
theorem dX1_init_1 : decode cX1_init 1 = .ok (.invokespecial 3, 3) := by decide +kernel
theorem dX1_init_4 : decode cX1_init 4 = .ok (.aload_n 0, 1) := by decide +kernel
theorem dX1_init_5 : decode cX1_init 5 = .ok (.bipush 15, 2) := by decide +kernel
theorem dX1_init_7 : decode cX1_init 7 = .ok (.newarray .int, 2) := by decide +kernel
theorem dX1_init_9 : decode cX1_init 9 = .ok (.putfield 9, 3) := by decide +kernel
theorem dX1_init_12 : decode cX1_init 12 = .ok (.aload_n 0, 1) := by decide +kernel
theorem dX1_init_13 : decode cX1_init 13 = .ok (.sipush 1500, 3) := by decide +kernel
theorem dX1_init_16 : decode cX1_init 16 = .ok (.newarray .int, 2) := by decide +kernel
theorem dX1_init_18 : decode cX1_init 18 = .ok (.putfield 15, 3) := by decide +kernel
theorem dX1_init_21 : decode cX1_init 21 = .ok (.aload_n 0, 1) := by decide +kernel
theorem dX1_init_22 : decode cX1_init 22 = .ok (.sipush 1500, 3) := by decide +kernel
theorem dX1_init_25 : decode cX1_init 25 = .ok (.newarray .int, 2) := by decide +kernel
theorem dX1_init_27 : decode cX1_init 27 = .ok (.putfield 18, 3) := by decide +kernel
theorem dX1_init_30 : decode cX1_init 30 = .ok (.return_, 1) := by decide +kernel
theorem dX1_isBlank_0 : decode cX1_isBlank 0 = .ok (.aload_n 0, 1) := by decide +kernel
theorem dX1_isBlank_1 : decode cX1_isBlank 1 = .ok (.getfield 21, 3) := by decide +kernel
theorem dX1_isBlank_4 : decode cX1_isBlank 4 = .ok (.ifCond .ne 7, 3) := by decide +kernel
theorem dX1_isBlank_7 : decode cX1_isBlank 7 = .ok (.iconst 1, 1) := by decide +kernel
theorem dX1_isBlank_8 : decode cX1_isBlank 8 = .ok (.goto 4, 3) := by decide +kernel
theorem dX1_isBlank_11 : decode cX1_isBlank 11 = .ok (.iconst 0, 1) := by decide +kernel
theorem dX1_isBlank_12 : decode cX1_isBlank 12 = .ok (.ireturn, 1) := by decide +kernel
set_option maxRecDepth 20000 in
theorem ggX1_record_X3_count : GoodIn wsX1_record wsX3_count := goodIn_r _ [14, 15, 40, 41, 42, 43, 44] (by decide +kernel) (by decide +kernel)
set_option maxRecDepth 20000 in
theorem gX1_record_X3_count : GoodIn wsX1_record (wsV RX1 28 RX3 yX3_count wsX3_count) := goodIn_app (goodIn_of _ (by decide +kernel)) ggX1_record_X3_count
set_option maxRecDepth 20000 in
theorem ggX1_record_X4_put : GoodIn wsX1_record wsX4_put := goodIn_r _ [18] (by decide +kernel) (by decide +kernel)
set_option maxRecDepth 20000 in
theorem gX1_record_X4_put_n34 : GoodIn wsX1_record (wsX4_put) := ggX1_record_X4_put
set_option maxRecDepth 20000 in
theorem ggX1_record_X3_depthOf : GoodIn wsX1_record wsX3_depthOf := goodIn_r _ [22, 23, 24, 25, 26, 13, 27, 15, 28, 17, 29, 40, 41, 42, 43, 44] (by decide +kernel) (by decide +kernel)
set_option maxRecDepth 20000 in
theorem gX1_record_X3_depthOf : GoodIn wsX1_record (wsV RX1 38 RX3 yX3_depthOf wsX3_depthOf) := goodIn_app (goodIn_of _ (by decide +kernel)) ggX1_record_X3_depthOf
set_option maxRecDepth 20000 in
theorem ggX1_record_X3_labelOf : GoodIn wsX1_record wsX3_labelOf := goodIn_r _ [33, 34, 28, 17, 29, 40, 41, 42, 43, 44] (by decide +kernel) (by decide +kernel)
set_option maxRecDepth 20000 in
theorem gX1_record_X3_labelOf : GoodIn wsX1_record (wsV RX1 42 RX3 yX3_labelOf wsX3_labelOf) := goodIn_app (goodIn_of _ (by decide +kernel)) ggX1_record_X3_labelOf
theorem dX1_record_0 : decode cX1_record 0 = .ok (.aload_n 0, 1) := by decide +kernel
theorem dX1_record_1 : decode cX1_record 1 = .ok (.getfield 25, 3) := by decide +kernel
theorem dX1_record_4 : decode cX1_record 4 = .ok (.bipush 100, 2) := by decide +kernel
theorem dX1_record_6 : decode cX1_record 6 = .ok (.imul, 1) := by decide +kernel
theorem dX1_record_7 : decode cX1_record 7 = .ok (.istore_n 2, 1) := by decide +kernel
theorem dX1_record_8 : decode cX1_record 8 = .ok (.aload_n 0, 1) := by decide +kernel
theorem dX1_record_9 : decode cX1_record 9 = .ok (.getfield 9, 3) := by decide +kernel
theorem dX1_record_12 : decode cX1_record 12 = .ok (.aload_n 0, 1) := by decide +kernel
theorem dX1_record_13 : decode cX1_record 13 = .ok (.getfield 25, 3) := by decide +kernel
theorem dX1_record_16 : decode cX1_record 16 = .ok (.aload_n 1, 1) := by decide +kernel
theorem dX1_record_17 : decode cX1_record 17 = .ok (.invokevirtual 28, 3) := by decide +kernel
theorem dX1_record_20 : decode cX1_record 20 = .ok (.invokestatic 34, 3) := by decide +kernel
theorem dX1_record_23 : decode cX1_record 23 = .ok (.iconst 0, 1) := by decide +kernel
theorem dX1_record_24 : decode cX1_record 24 = .ok (.istore_n 3, 1) := by decide +kernel
theorem dX1_record_25 : decode cX1_record 25 = .ok (.iload_n 3, 1) := by decide +kernel
theorem dX1_record_26 : decode cX1_record 26 = .ok (.aload_n 1, 1) := by decide +kernel
theorem dX1_record_27 : decode cX1_record 27 = .ok (.invokevirtual 28, 3) := by decide +kernel
theorem dX1_record_30 : decode cX1_record 30 = .ok (.if_icmp .ge 39, 3) := by decide +kernel
theorem dX1_record_33 : decode cX1_record 33 = .ok (.aload_n 0, 1) := by decide +kernel
theorem dX1_record_34 : decode cX1_record 34 = .ok (.getfield 15, 3) := by decide +kernel
theorem dX1_record_37 : decode cX1_record 37 = .ok (.iload_n 2, 1) := by decide +kernel
theorem dX1_record_38 : decode cX1_record 38 = .ok (.iload_n 3, 1) := by decide +kernel
theorem dX1_record_39 : decode cX1_record 39 = .ok (.iadd, 1) := by decide +kernel
theorem dX1_record_40 : decode cX1_record 40 = .ok (.aload_n 1, 1) := by decide +kernel
theorem dX1_record_41 : decode cX1_record 41 = .ok (.iload_n 3, 1) := by decide +kernel
theorem dX1_record_42 : decode cX1_record 42 = .ok (.invokevirtual 38, 3) := by decide +kernel
theorem dX1_record_45 : decode cX1_record 45 = .ok (.invokestatic 34, 3) := by decide +kernel
theorem dX1_record_48 : decode cX1_record 48 = .ok (.aload_n 0, 1) := by decide +kernel
theorem dX1_record_49 : decode cX1_record 49 = .ok (.getfield 18, 3) := by decide +kernel
theorem dX1_record_52 : decode cX1_record 52 = .ok (.iload_n 2, 1) := by decide +kernel
theorem dX1_record_53 : decode cX1_record 53 = .ok (.iload_n 3, 1) := by decide +kernel
theorem dX1_record_54 : decode cX1_record 54 = .ok (.iadd, 1) := by decide +kernel
theorem dX1_record_55 : decode cX1_record 55 = .ok (.aload_n 1, 1) := by decide +kernel
theorem dX1_record_56 : decode cX1_record 56 = .ok (.iload_n 3, 1) := by decide +kernel
theorem dX1_record_57 : decode cX1_record 57 = .ok (.invokevirtual 42, 3) := by decide +kernel
theorem dX1_record_60 : decode cX1_record 60 = .ok (.invokestatic 34, 3) := by decide +kernel
theorem dX1_record_63 : decode cX1_record 63 = .ok (.iinc 3 1, 3) := by decide +kernel
theorem dX1_record_66 : decode cX1_record 66 = .ok (.goto (-41), 3) := by decide +kernel
theorem dX1_record_69 : decode cX1_record 69 = .ok (.aload_n 0, 1) := by decide +kernel
theorem dX1_record_70 : decode cX1_record 70 = .ok (.aload_n 0, 1) := by decide +kernel
theorem dX1_record_71 : decode cX1_record 71 = .ok (.getfield 25, 3) := by decide +kernel
theorem dX1_record_74 : decode cX1_record 74 = .ok (.iconst 1, 1) := by decide +kernel
theorem dX1_record_75 : decode cX1_record 75 = .ok (.iadd, 1) := by decide +kernel
theorem dX1_record_76 : decode cX1_record 76 = .ok (.bipush 15, 2) := by decide +kernel
theorem dX1_record_78 : decode cX1_record 78 = .ok (.if_icmp .ge 12, 3) := by decide +kernel
theorem dX1_record_81 : decode cX1_record 81 = .ok (.aload_n 0, 1) := by decide +kernel
theorem dX1_record_82 : decode cX1_record 82 = .ok (.getfield 25, 3) := by decide +kernel
theorem dX1_record_85 : decode cX1_record 85 = .ok (.iconst 1, 1) := by decide +kernel
theorem dX1_record_86 : decode cX1_record 86 = .ok (.iadd, 1) := by decide +kernel
theorem dX1_record_87 : decode cX1_record 87 = .ok (.goto 4, 3) := by decide +kernel
theorem dX1_record_90 : decode cX1_record 90 = .ok (.iconst 0, 1) := by decide +kernel
theorem dX1_record_91 : decode cX1_record 91 = .ok (.putfield 25, 3) := by decide +kernel
theorem dX1_record_94 : decode cX1_record 94 = .ok (.aload_n 0, 1) := by decide +kernel
theorem dX1_record_95 : decode cX1_record 95 = .ok (.aload_n 0, 1) := by decide +kernel
theorem dX1_record_96 : decode cX1_record 96 = .ok (.getfield 21, 3) := by decide +kernel
theorem dX1_record_99 : decode cX1_record 99 = .ok (.iconst 1, 1) := by decide +kernel
theorem dX1_record_100 : decode cX1_record 100 = .ok (.iadd, 1) := by decide +kernel
theorem dX1_record_101 : decode cX1_record 101 = .ok (.bipush 15, 2) := by decide +kernel
theorem dX1_record_103 : decode cX1_record 103 = .ok (.invokestatic 45, 3) := by decide +kernel
theorem dX1_record_106 : decode cX1_record 106 = .ok (.putfield 21, 3) := by decide +kernel
theorem dX1_record_109 : decode cX1_record 109 = .ok (.return_, 1) := by decide +kernel
set_option maxRecDepth 20000 in
theorem ggX1_recall_X4_get : GoodIn wsX1_recall wsX4_get := goodIn_r _ [12] (by decide +kernel) (by decide +kernel)
set_option maxRecDepth 20000 in
theorem gX1_recall_X4_get_n54 : GoodIn wsX1_recall (wsX4_get) := ggX1_recall_X4_get
set_option maxRecDepth 20000 in
theorem ggX1_recall_X3_empty : GoodIn wsX1_recall wsX3_empty := goodIn_r _ [17, 18, 36, 37, 38, 39, 40] (by decide +kernel) (by decide +kernel)
set_option maxRecDepth 20000 in
theorem gX1_recall_X3_empty : GoodIn wsX1_recall (wsV RX1 58 RX3 yX3_empty wsX3_empty) := goodIn_app (goodIn_of _ (by decide +kernel)) ggX1_recall_X3_empty
set_option maxRecDepth 20000 in
theorem ggX1_recall_X3_append : GoodIn wsX1_recall wsX3_append := goodIn_r _ [22, 18, 23, 24, 25, 16, 26, 27, 28, 29, 11, 30, 36, 37, 38, 39, 40] (by decide +kernel) (by decide +kernel)
set_option maxRecDepth 20000 in
theorem gX1_recall_X3_append : GoodIn wsX1_recall (wsV RX1 61 RX3 yX3_append wsX3_append) := goodIn_app (goodIn_of _ (by decide +kernel)) ggX1_recall_X3_append
theorem dX1_recall_0 : decode cX1_recall 0 = .ok (.aload_n 0, 1) := by decide +kernel
theorem dX1_recall_1 : decode cX1_recall 1 = .ok (.aload_n 0, 1) := by decide +kernel
theorem dX1_recall_2 : decode cX1_recall 2 = .ok (.getfield 25, 3) := by decide +kernel
theorem dX1_recall_5 : decode cX1_recall 5 = .ok (.ifCond .le 12, 3) := by decide +kernel
theorem dX1_recall_8 : decode cX1_recall 8 = .ok (.aload_n 0, 1) := by decide +kernel
theorem dX1_recall_9 : decode cX1_recall 9 = .ok (.getfield 25, 3) := by decide +kernel
theorem dX1_recall_12 : decode cX1_recall 12 = .ok (.iconst 1, 1) := by decide +kernel
theorem dX1_recall_13 : decode cX1_recall 13 = .ok (.isub, 1) := by decide +kernel
theorem dX1_recall_14 : decode cX1_recall 14 = .ok (.goto 5, 3) := by decide +kernel
theorem dX1_recall_17 : decode cX1_recall 17 = .ok (.bipush 14, 2) := by decide +kernel
theorem dX1_recall_19 : decode cX1_recall 19 = .ok (.putfield 25, 3) := by decide +kernel
theorem dX1_recall_22 : decode cX1_recall 22 = .ok (.aload_n 0, 1) := by decide +kernel
theorem dX1_recall_23 : decode cX1_recall 23 = .ok (.aload_n 0, 1) := by decide +kernel
theorem dX1_recall_24 : decode cX1_recall 24 = .ok (.getfield 21, 3) := by decide +kernel
theorem dX1_recall_27 : decode cX1_recall 27 = .ok (.iconst 1, 1) := by decide +kernel
theorem dX1_recall_28 : decode cX1_recall 28 = .ok (.isub, 1) := by decide +kernel
theorem dX1_recall_29 : decode cX1_recall 29 = .ok (.iconst 0, 1) := by decide +kernel
theorem dX1_recall_30 : decode cX1_recall 30 = .ok (.invokestatic 51, 3) := by decide +kernel
theorem dX1_recall_33 : decode cX1_recall 33 = .ok (.putfield 21, 3) := by decide +kernel
theorem dX1_recall_36 : decode cX1_recall 36 = .ok (.aload_n 0, 1) := by decide +kernel
theorem dX1_recall_37 : decode cX1_recall 37 = .ok (.getfield 25, 3) := by decide +kernel
theorem dX1_recall_40 : decode cX1_recall 40 = .ok (.bipush 100, 2) := by decide +kernel
theorem dX1_recall_42 : decode cX1_recall 42 = .ok (.imul, 1) := by decide +kernel
theorem dX1_recall_43 : decode cX1_recall 43 = .ok (.istore_n 2, 1) := by decide +kernel
theorem dX1_recall_44 : decode cX1_recall 44 = .ok (.aload_n 0, 1) := by decide +kernel
theorem dX1_recall_45 : decode cX1_recall 45 = .ok (.getfield 9, 3) := by decide +kernel
theorem dX1_recall_48 : decode cX1_recall 48 = .ok (.aload_n 0, 1) := by decide +kernel
theorem dX1_recall_49 : decode cX1_recall 49 = .ok (.getfield 25, 3) := by decide +kernel
theorem dX1_recall_52 : decode cX1_recall 52 = .ok (.invokestatic 54, 3) := by decide +kernel
theorem dX1_recall_55 : decode cX1_recall 55 = .ok (.istore_n 3, 1) := by decide +kernel
theorem dX1_recall_56 : decode cX1_recall 56 = .ok (.aload_n 1, 1) := by decide +kernel
theorem dX1_recall_57 : decode cX1_recall 57 = .ok (.invokevirtual 58, 3) := by decide +kernel
theorem dX1_recall_60 : decode cX1_recall 60 = .ok (.iconst 0, 1) := by decide +kernel
theorem dX1_recall_61 : decode cX1_recall 61 = .ok (.istore 4, 2) := by decide +kernel
theorem dX1_recall_63 : decode cX1_recall 63 = .ok (.iload 4, 2) := by decide +kernel
theorem dX1_recall_65 : decode cX1_recall 65 = .ok (.iload_n 3, 1) := by decide +kernel
theorem dX1_recall_66 : decode cX1_recall 66 = .ok (.if_icmp .ge 35, 3) := by decide +kernel
theorem dX1_recall_69 : decode cX1_recall 69 = .ok (.aload_n 1, 1) := by decide +kernel
theorem dX1_recall_70 : decode cX1_recall 70 = .ok (.aload_n 0, 1) := by decide +kernel
theorem dX1_recall_71 : decode cX1_recall 71 = .ok (.getfield 15, 3) := by decide +kernel
theorem dX1_recall_74 : decode cX1_recall 74 = .ok (.iload_n 2, 1) := by decide +kernel
theorem dX1_recall_75 : decode cX1_recall 75 = .ok (.iload 4, 2) := by decide +kernel
theorem dX1_recall_77 : decode cX1_recall 77 = .ok (.iadd, 1) := by decide +kernel
theorem dX1_recall_78 : decode cX1_recall 78 = .ok (.invokestatic 54, 3) := by decide +kernel
theorem dX1_recall_81 : decode cX1_recall 81 = .ok (.aload_n 0, 1) := by decide +kernel
theorem dX1_recall_82 : decode cX1_recall 82 = .ok (.getfield 18, 3) := by decide +kernel
theorem dX1_recall_85 : decode cX1_recall 85 = .ok (.iload_n 2, 1) := by decide +kernel
theorem dX1_recall_86 : decode cX1_recall 86 = .ok (.iload 4, 2) := by decide +kernel
theorem dX1_recall_88 : decode cX1_recall 88 = .ok (.iadd, 1) := by decide +kernel
theorem dX1_recall_89 : decode cX1_recall 89 = .ok (.invokestatic 54, 3) := by decide +kernel
theorem dX1_recall_92 : decode cX1_recall 92 = .ok (.invokevirtual 61, 3) := by decide +kernel
theorem dX1_recall_95 : decode cX1_recall 95 = .ok (.iinc 4 1, 3) := by decide +kernel
theorem dX1_recall_98 : decode cX1_recall 98 = .ok (.goto (-35), 3) := by decide +kernel
theorem dX1_recall_101 : decode cX1_recall 101 = .ok (.aload_n 0, 1) := by decide +kernel
theorem dX1_recall_102 : decode cX1_recall 102 = .ok (.getfield 21, 3) := by decide +kernel
theorem dX1_recall_105 : decode cX1_recall 105 = .ok (.ireturn, 1) := by decide +kernel
theorem dX2_init_0 : decode cX2_init 0 = .ok (.aload_n 0, 1) := by decide +kernel
theorem dX2_init_1 : decode cX2_init 1 = .ok (.invokespecial 3, 3) := by decide +kernel
theorem dX2_init_4 : decode cX2_init 4 = .ok (.aload_n 0, 1) := by decide +kernel
theorem dX2_init_5 : decode cX2_init 5 = .ok (.sipush 300, 3) := by decide +kernel
theorem dX2_init_8 : decode cX2_init 8 = .ok (.newarray .int, 2) := by decide +kernel
theorem dX2_init_10 : decode cX2_init 10 = .ok (.putfield 9, 3) := by decide +kernel
theorem dX2_init_13 : decode cX2_init 13 = .ok (.return_, 1) := by decide +kernel
set_option maxRecDepth 20000 in
theorem ggX2_append_X4_put : GoodIn wsX2_append wsX4_put := goodIn_r _ [5] (by decide +kernel) (by decide +kernel)
set_option maxRecDepth 20000 in
theorem gX2_append_X4_put_n19 : GoodIn wsX2_append (wsX4_put) := ggX2_append_X4_put
theorem dX2_append_0 : decode cX2_append 0 = .ok (.aload_n 0, 1) := by decide +kernel
theorem dX2_append_1 : decode cX2_append 1 = .ok (.getfield 15, 3) := by decide +kernel
theorem dX2_append_4 : decode cX2_append 4 = .ok (.sipush 300, 3) := by decide +kernel
theorem dX2_append_7 : decode cX2_append 7 = .ok (.if_icmp .lt 6, 3) := by decide +kernel
theorem dX2_append_10 : decode cX2_append 10 = .ok (.bipush (-4), 2) := by decide +kernel
theorem dX2_append_12 : decode cX2_append 12 = .ok (.ireturn, 1) := by decide +kernel
theorem dX2_append_13 : decode cX2_append 13 = .ok (.aload_n 0, 1) := by decide +kernel
theorem dX2_append_14 : decode cX2_append 14 = .ok (.getfield 9, 3) := by decide +kernel
theorem dX2_append_17 : decode cX2_append 17 = .ok (.aload_n 0, 1) := by decide +kernel
theorem dX2_append_18 : decode cX2_append 18 = .ok (.getfield 15, 3) := by decide +kernel
theorem dX2_append_21 : decode cX2_append 21 = .ok (.iload_n 1, 1) := by decide +kernel
theorem dX2_append_22 : decode cX2_append 22 = .ok (.invokestatic 19, 3) := by decide +kernel
theorem dX2_append_25 : decode cX2_append 25 = .ok (.aload_n 0, 1) := by decide +kernel
theorem dX2_append_26 : decode cX2_append 26 = .ok (.dup, 1) := by decide +kernel
theorem dX2_append_27 : decode cX2_append 27 = .ok (.getfield 15, 3) := by decide +kernel
theorem dX2_append_30 : decode cX2_append 30 = .ok (.iconst 1, 1) := by decide +kernel
theorem dX2_append_31 : decode cX2_append 31 = .ok (.iadd, 1) := by decide +kernel
theorem dX2_append_32 : decode cX2_append 32 = .ok (.putfield 15, 3) := by decide +kernel
theorem dX2_append_35 : decode cX2_append 35 = .ok (.aload_n 0, 1) := by decide +kernel
theorem dX2_append_36 : decode cX2_append 36 = .ok (.getfield 15, 3) := by decide +kernel
theorem dX2_append_39 : decode cX2_append 39 = .ok (.ireturn, 1) := by decide +kernel
theorem dX2_empty_0 : decode cX2_empty 0 = .ok (.aload_n 0, 1) := by decide +kernel
theorem dX2_empty_1 : decode cX2_empty 1 = .ok (.getfield 15, 3) := by decide +kernel
theorem dX2_empty_4 : decode cX2_empty 4 = .ok (.istore_n 1, 1) := by decide +kernel
theorem dX2_empty_5 : decode cX2_empty 5 = .ok (.aload_n 0, 1) := by decide +kernel
theorem dX2_empty_6 : decode cX2_empty 6 = .ok (.iconst 0, 1) := by decide +kernel
theorem dX2_empty_7 : decode cX2_empty 7 = .ok (.putfield 15, 3) := by decide +kernel
theorem dX2_empty_10 : decode cX2_empty 10 = .ok (.iload_n 1, 1) := by decide +kernel
theorem dX2_empty_11 : decode cX2_empty 11 = .ok (.ireturn, 1) := by decide +kernel
set_option maxRecDepth 20000 in
theorem ggX2_findFault_X2_isAllowed : GoodIn wsX2_findFault wsX2_isAllowed := goodIn_r _ [7, 2, 8, 9, 10, 11, 12, 17, 18] (by decide +kernel) (by decide +kernel)
set_option maxRecDepth 20000 in
theorem gX2_findFault_X2_isAllowed : GoodIn wsX2_findFault (wsV RX2 23 RX2 yX2_isAllowed wsX2_isAllowed) := goodIn_app (goodIn_of _ (by decide +kernel)) ggX2_findFault_X2_isAllowed
set_option maxRecDepth 20000 in
theorem ggX2_findFault_X2_deeper : GoodIn wsX2_findFault wsX2_deeper := goodIn_r _ [16, 2, 8, 9, 10, 17, 18] (by decide +kernel) (by decide +kernel)
set_option maxRecDepth 20000 in
theorem gX2_findFault_X2_deeper : GoodIn wsX2_findFault (wsV RX2 27 RX2 yX2_deeper wsX2_deeper) := goodIn_app (goodIn_of _ (by decide +kernel)) ggX2_findFault_X2_deeper
set_option maxRecDepth 20000 in
theorem ggX2_findFault_X4_get : GoodIn wsX2_findFault wsX4_get := goodIn_r _ [10] (by decide +kernel) (by decide +kernel)
set_option maxRecDepth 20000 in
theorem gX2_findFault_X4_get_n31 : GoodIn wsX2_findFault (wsX4_get) := ggX2_findFault_X4_get
set_option maxRecDepth 20000 in
theorem ggX2_findFault_X4_isLetter : GoodIn wsX2_findFault wsX4_isLetter := goodIn_r _ [12] (by decide +kernel) (by decide +kernel)
set_option maxRecDepth 20000 in
theorem gX2_findFault_X4_isLetter_n35 : GoodIn wsX2_findFault (wsX4_isLetter) := ggX2_findFault_X4_isLetter
theorem dX2_findFault_0 : decode cX2_findFault 0 = .ok (.iconst 0, 1) := by decide +kernel
theorem dX2_findFault_1 : decode cX2_findFault 1 = .ok (.istore_n 1, 1) := by decide +kernel
theorem dX2_findFault_2 : decode cX2_findFault 2 = .ok (.iconst 0, 1) := by decide +kernel
theorem dX2_findFault_3 : decode cX2_findFault 3 = .ok (.istore_n 2, 1) := by decide +kernel
theorem dX2_findFault_4 : decode cX2_findFault 4 = .ok (.iconst 0, 1) := by decide +kernel
theorem dX2_findFault_5 : decode cX2_findFault 5 = .ok (.istore_n 3, 1) := by decide +kernel
theorem dX2_findFault_6 : decode cX2_findFault 6 = .ok (.iload_n 3, 1) := by decide +kernel
theorem dX2_findFault_7 : decode cX2_findFault 7 = .ok (.aload_n 0, 1) := by decide +kernel
theorem dX2_findFault_8 : decode cX2_findFault 8 = .ok (.getfield 15, 3) := by decide +kernel
theorem dX2_findFault_11 : decode cX2_findFault 11 = .ok (.if_icmp .ge 51, 3) := by decide +kernel
theorem dX2_findFault_14 : decode cX2_findFault 14 = .ok (.aload_n 0, 1) := by decide +kernel
theorem dX2_findFault_15 : decode cX2_findFault 15 = .ok (.iload_n 3, 1) := by decide +kernel
theorem dX2_findFault_16 : decode cX2_findFault 16 = .ok (.iload_n 1, 1) := by decide +kernel
theorem dX2_findFault_17 : decode cX2_findFault 17 = .ok (.iload_n 2, 1) := by decide +kernel
theorem dX2_findFault_18 : decode cX2_findFault 18 = .ok (.invokevirtual 23, 3) := by decide +kernel
theorem dX2_findFault_21 : decode cX2_findFault 21 = .ok (.ifCond .ne 5, 3) := by decide +kernel
theorem dX2_findFault_24 : decode cX2_findFault 24 = .ok (.iload_n 3, 1) := by decide +kernel
theorem dX2_findFault_25 : decode cX2_findFault 25 = .ok (.ireturn, 1) := by decide +kernel
theorem dX2_findFault_26 : decode cX2_findFault 26 = .ok (.iload_n 1, 1) := by decide +kernel
theorem dX2_findFault_27 : decode cX2_findFault 27 = .ok (.aload_n 0, 1) := by decide +kernel
theorem dX2_findFault_28 : decode cX2_findFault 28 = .ok (.iload_n 3, 1) := by decide +kernel
theorem dX2_findFault_29 : decode cX2_findFault 29 = .ok (.invokevirtual 27, 3) := by decide +kernel
theorem dX2_findFault_32 : decode cX2_findFault 32 = .ok (.iadd, 1) := by decide +kernel
theorem dX2_findFault_33 : decode cX2_findFault 33 = .ok (.istore_n 1, 1) := by decide +kernel
theorem dX2_findFault_34 : decode cX2_findFault 34 = .ok (.iload_n 2, 1) := by decide +kernel
theorem dX2_findFault_35 : decode cX2_findFault 35 = .ok (.aload_n 0, 1) := by decide +kernel
theorem dX2_findFault_36 : decode cX2_findFault 36 = .ok (.getfield 9, 3) := by decide +kernel
theorem dX2_findFault_39 : decode cX2_findFault 39 = .ok (.iload_n 3, 1) := by decide +kernel
theorem dX2_findFault_40 : decode cX2_findFault 40 = .ok (.invokestatic 31, 3) := by decide +kernel
theorem dX2_findFault_43 : decode cX2_findFault 43 = .ok (.invokestatic 35, 3) := by decide +kernel
theorem dX2_findFault_46 : decode cX2_findFault 46 = .ok (.ifCond .eq 7, 3) := by decide +kernel
theorem dX2_findFault_49 : decode cX2_findFault 49 = .ok (.iconst 1, 1) := by decide +kernel
theorem dX2_findFault_50 : decode cX2_findFault 50 = .ok (.goto 4, 3) := by decide +kernel
theorem dX2_findFault_53 : decode cX2_findFault 53 = .ok (.iconst 0, 1) := by decide +kernel
theorem dX2_findFault_54 : decode cX2_findFault 54 = .ok (.iadd, 1) := by decide +kernel
theorem dX2_findFault_55 : decode cX2_findFault 55 = .ok (.istore_n 2, 1) := by decide +kernel
theorem dX2_findFault_56 : decode cX2_findFault 56 = .ok (.iinc 3 1, 3) := by decide +kernel
theorem dX2_findFault_59 : decode cX2_findFault 59 = .ok (.goto (-53), 3) := by decide +kernel
theorem dX2_findFault_62 : decode cX2_findFault 62 = .ok (.aload_n 0, 1) := by decide +kernel
theorem dX2_findFault_63 : decode cX2_findFault 63 = .ok (.getfield 15, 3) := by decide +kernel
theorem dX2_findFault_66 : decode cX2_findFault 66 = .ok (.ifCond .le 11, 3) := by decide +kernel
theorem dX2_findFault_69 : decode cX2_findFault 69 = .ok (.iload_n 1, 1) := by decide +kernel
theorem dX2_findFault_70 : decode cX2_findFault 70 = .ok (.ifCond .ne 7, 3) := by decide +kernel
theorem dX2_findFault_73 : decode cX2_findFault 73 = .ok (.iconst (-1), 1) := by decide +kernel
theorem dX2_findFault_74 : decode cX2_findFault 74 = .ok (.goto 7, 3) := by decide +kernel
theorem dX2_findFault_77 : decode cX2_findFault 77 = .ok (.aload_n 0, 1) := by decide +kernel
theorem dX2_findFault_78 : decode cX2_findFault 78 = .ok (.getfield 15, 3) := by decide +kernel
theorem dX2_findFault_81 : decode cX2_findFault 81 = .ok (.ireturn, 1) := by decide +kernel
set_option maxRecDepth 20000 in
theorem ggX2_isAllowed_X4_get : GoodIn wsX2_isAllowed wsX4_get := goodIn_r _ [4] (by decide +kernel) (by decide +kernel)
set_option maxRecDepth 20000 in
theorem gX2_isAllowed_X4_get_n31 : GoodIn wsX2_isAllowed (wsX4_get) := ggX2_isAllowed_X4_get
set_option maxRecDepth 20000 in
theorem ggX2_isAllowed_X4_isLetter : GoodIn wsX2_isAllowed wsX4_isLetter := goodIn_r _ [6] (by decide +kernel) (by decide +kernel)
set_option maxRecDepth 20000 in
theorem gX2_isAllowed_X4_isLetter_n35 : GoodIn wsX2_isAllowed (wsX4_isLetter) := ggX2_isAllowed_X4_isLetter
theorem dX2_isAllowed_0 : decode cX2_isAllowed 0 = .ok (.aload_n 0, 1) := by decide +kernel
theorem dX2_isAllowed_1 : decode cX2_isAllowed 1 = .ok (.getfield 9, 3) := by decide +kernel
theorem dX2_isAllowed_4 : decode cX2_isAllowed 4 = .ok (.iload_n 1, 1) := by decide +kernel
theorem dX2_isAllowed_5 : decode cX2_isAllowed 5 = .ok (.invokestatic 31, 3) := by decide +kernel
theorem dX2_isAllowed_8 : decode cX2_isAllowed 8 = .ok (.istore 4, 2) := by decide +kernel
theorem dX2_isAllowed_10 : decode cX2_isAllowed 10 = .ok (.iload_n 1, 1) := by decide +kernel
theorem dX2_isAllowed_11 : decode cX2_isAllowed 11 = .ok (.ifCond .le 16, 3) := by decide +kernel
theorem dX2_isAllowed_14 : decode cX2_isAllowed 14 = .ok (.aload_n 0, 1) := by decide +kernel
theorem dX2_isAllowed_15 : decode cX2_isAllowed 15 = .ok (.getfield 9, 3) := by decide +kernel
theorem dX2_isAllowed_18 : decode cX2_isAllowed 18 = .ok (.iload_n 1, 1) := by decide +kernel
theorem dX2_isAllowed_19 : decode cX2_isAllowed 19 = .ok (.iconst 1, 1) := by decide +kernel
theorem dX2_isAllowed_20 : decode cX2_isAllowed 20 = .ok (.isub, 1) := by decide +kernel
theorem dX2_isAllowed_21 : decode cX2_isAllowed 21 = .ok (.invokestatic 31, 3) := by decide +kernel
theorem dX2_isAllowed_24 : decode cX2_isAllowed 24 = .ok (.goto 4, 3) := by decide +kernel
theorem dX2_isAllowed_27 : decode cX2_isAllowed 27 = .ok (.iconst 0, 1) := by decide +kernel
theorem dX2_isAllowed_28 : decode cX2_isAllowed 28 = .ok (.istore 5, 2) := by decide +kernel
theorem dX2_isAllowed_30 : decode cX2_isAllowed 30 = .ok (.iload 4, 2) := by decide +kernel
theorem dX2_isAllowed_32 : decode cX2_isAllowed 32 = .ok (.bipush 40, 2) := by decide +kernel
theorem dX2_isAllowed_34 : decode cX2_isAllowed 34 = .ok (.if_icmp .ne 9, 3) := by decide +kernel
theorem dX2_isAllowed_37 : decode cX2_isAllowed 37 = .ok (.iload 5, 2) := by decide +kernel
theorem dX2_isAllowed_39 : decode cX2_isAllowed 39 = .ok (.invokestatic 35, 3) := by decide +kernel
theorem dX2_isAllowed_42 : decode cX2_isAllowed 42 = .ok (.ireturn, 1) := by decide +kernel
theorem dX2_isAllowed_43 : decode cX2_isAllowed 43 = .ok (.iload 4, 2) := by decide +kernel
theorem dX2_isAllowed_45 : decode cX2_isAllowed 45 = .ok (.bipush 41, 2) := by decide +kernel
theorem dX2_isAllowed_47 : decode cX2_isAllowed 47 = .ok (.if_icmp .ne 20, 3) := by decide +kernel
theorem dX2_isAllowed_50 : decode cX2_isAllowed 50 = .ok (.iload_n 2, 1) := by decide +kernel
theorem dX2_isAllowed_51 : decode cX2_isAllowed 51 = .ok (.ifCond .le 14, 3) := by decide +kernel
theorem dX2_isAllowed_54 : decode cX2_isAllowed 54 = .ok (.iload 5, 2) := by decide +kernel
theorem dX2_isAllowed_56 : decode cX2_isAllowed 56 = .ok (.bipush 40, 2) := by decide +kernel
theorem dX2_isAllowed_58 : decode cX2_isAllowed 58 = .ok (.if_icmp .eq 7, 3) := by decide +kernel
theorem dX2_isAllowed_61 : decode cX2_isAllowed 61 = .ok (.iconst 1, 1) := by decide +kernel
theorem dX2_isAllowed_62 : decode cX2_isAllowed 62 = .ok (.goto 4, 3) := by decide +kernel
theorem dX2_isAllowed_65 : decode cX2_isAllowed 65 = .ok (.iconst 0, 1) := by decide +kernel
theorem dX2_isAllowed_66 : decode cX2_isAllowed 66 = .ok (.ireturn, 1) := by decide +kernel
theorem dX2_isAllowed_67 : decode cX2_isAllowed 67 = .ok (.iload 4, 2) := by decide +kernel
theorem dX2_isAllowed_69 : decode cX2_isAllowed 69 = .ok (.invokestatic 35, 3) := by decide +kernel
theorem dX2_isAllowed_72 : decode cX2_isAllowed 72 = .ok (.ifCond .eq 21, 3) := by decide +kernel
theorem dX2_isAllowed_75 : decode cX2_isAllowed 75 = .ok (.iload_n 1, 1) := by decide +kernel
theorem dX2_isAllowed_76 : decode cX2_isAllowed 76 = .ok (.ifCond .eq 7, 3) := by decide +kernel
theorem dX2_isAllowed_79 : decode cX2_isAllowed 79 = .ok (.iload_n 2, 1) := by decide +kernel
theorem dX2_isAllowed_80 : decode cX2_isAllowed 80 = .ok (.ifCond .le 13, 3) := by decide +kernel
theorem dX2_isAllowed_83 : decode cX2_isAllowed 83 = .ok (.iload_n 3, 1) := by decide +kernel
theorem dX2_isAllowed_84 : decode cX2_isAllowed 84 = .ok (.bipush 100, 2) := by decide +kernel
theorem dX2_isAllowed_86 : decode cX2_isAllowed 86 = .ok (.if_icmp .ge 7, 3) := by decide +kernel
theorem dX2_isAllowed_89 : decode cX2_isAllowed 89 = .ok (.iconst 1, 1) := by decide +kernel
theorem dX2_isAllowed_90 : decode cX2_isAllowed 90 = .ok (.goto 4, 3) := by decide +kernel
theorem dX2_isAllowed_93 : decode cX2_isAllowed 93 = .ok (.iconst 0, 1) := by decide +kernel
theorem dX2_isAllowed_94 : decode cX2_isAllowed 94 = .ok (.ireturn, 1) := by decide +kernel
set_option maxRecDepth 20000 in
theorem ggX2_deeper_X4_get : GoodIn wsX2_deeper wsX4_get := goodIn_r _ [4] (by decide +kernel) (by decide +kernel)
set_option maxRecDepth 20000 in
theorem gX2_deeper_X4_get_n31 : GoodIn wsX2_deeper (wsX4_get) := ggX2_deeper_X4_get
theorem dX2_deeper_0 : decode cX2_deeper 0 = .ok (.aload_n 0, 1) := by decide +kernel
theorem dX2_deeper_1 : decode cX2_deeper 1 = .ok (.getfield 9, 3) := by decide +kernel
theorem dX2_deeper_4 : decode cX2_deeper 4 = .ok (.iload_n 1, 1) := by decide +kernel
theorem dX2_deeper_5 : decode cX2_deeper 5 = .ok (.invokestatic 31, 3) := by decide +kernel
theorem dX2_deeper_8 : decode cX2_deeper 8 = .ok (.istore_n 2, 1) := by decide +kernel
theorem dX2_deeper_9 : decode cX2_deeper 9 = .ok (.iload_n 2, 1) := by decide +kernel
theorem dX2_deeper_10 : decode cX2_deeper 10 = .ok (.bipush 40, 2) := by decide +kernel
theorem dX2_deeper_12 : decode cX2_deeper 12 = .ok (.if_icmp .ne 7, 3) := by decide +kernel
theorem dX2_deeper_15 : decode cX2_deeper 15 = .ok (.iconst 1, 1) := by decide +kernel
theorem dX2_deeper_16 : decode cX2_deeper 16 = .ok (.goto 14, 3) := by decide +kernel
theorem dX2_deeper_19 : decode cX2_deeper 19 = .ok (.iload_n 2, 1) := by decide +kernel
theorem dX2_deeper_20 : decode cX2_deeper 20 = .ok (.bipush 41, 2) := by decide +kernel
theorem dX2_deeper_22 : decode cX2_deeper 22 = .ok (.if_icmp .ne 7, 3) := by decide +kernel
theorem dX2_deeper_25 : decode cX2_deeper 25 = .ok (.iconst (-1), 1) := by decide +kernel
theorem dX2_deeper_26 : decode cX2_deeper 26 = .ok (.goto 4, 3) := by decide +kernel
theorem dX2_deeper_29 : decode cX2_deeper 29 = .ok (.iconst 0, 1) := by decide +kernel
theorem dX2_deeper_30 : decode cX2_deeper 30 = .ok (.ireturn, 1) := by decide +kernel
set_option maxRecDepth 20000 in
theorem ggX2_makeTree_X3_empty : GoodIn wsX2_makeTree wsX3_empty := goodIn_r _ [7, 8, 33, 34, 35, 36, 37] (by decide +kernel) (by decide +kernel)
set_option maxRecDepth 20000 in
theorem gX2_makeTree_X3_empty : GoodIn wsX2_makeTree (wsV RX2 39 RX3 yX3_empty wsX3_empty) := goodIn_app (goodIn_of _ (by decide +kernel)) ggX2_makeTree_X3_empty
set_option maxRecDepth 20000 in
theorem ggX2_makeTree_X4_get : GoodIn wsX2_makeTree wsX4_get := goodIn_r _ [11] (by decide +kernel) (by decide +kernel)
set_option maxRecDepth 20000 in
theorem gX2_makeTree_X4_get_n31 : GoodIn wsX2_makeTree (wsX4_get) := ggX2_makeTree_X4_get
set_option maxRecDepth 20000 in
theorem ggX2_makeTree_X4_isLetter : GoodIn wsX2_makeTree wsX4_isLetter := goodIn_r _ [13] (by decide +kernel) (by decide +kernel)
set_option maxRecDepth 20000 in
theorem gX2_makeTree_X4_isLetter_n35 : GoodIn wsX2_makeTree (wsX4_isLetter) := ggX2_makeTree_X4_isLetter
set_option maxRecDepth 20000 in
theorem ggX2_makeTree_X3_append : GoodIn wsX2_makeTree wsX3_append := goodIn_r _ [17, 8, 18, 19, 20, 6, 21, 22, 23, 24, 10, 25, 33, 34, 35, 36, 37] (by decide +kernel) (by decide +kernel)
set_option maxRecDepth 20000 in
theorem gX2_makeTree_X3_append : GoodIn wsX2_makeTree (wsV RX2 44 RX3 yX3_append wsX3_append) := goodIn_app (goodIn_of _ (by decide +kernel)) ggX2_makeTree_X3_append
set_option maxRecDepth 20000 in
theorem ggX2_makeTree_X2_deeper : GoodIn wsX2_makeTree wsX2_deeper := goodIn_r _ [30, 2, 9, 10, 11, 31, 32] (by decide +kernel) (by decide +kernel)
set_option maxRecDepth 20000 in
theorem gX2_makeTree_X2_deeper : GoodIn wsX2_makeTree (wsV RX2 27 RX2 yX2_deeper wsX2_deeper) := goodIn_app (goodIn_of _ (by decide +kernel)) ggX2_makeTree_X2_deeper
theorem dX2_makeTree_0 : decode cX2_makeTree 0 = .ok (.iconst 0, 1) := by decide +kernel
theorem dX2_makeTree_1 : decode cX2_makeTree 1 = .ok (.istore_n 2, 1) := by decide +kernel
theorem dX2_makeTree_2 : decode cX2_makeTree 2 = .ok (.aload_n 1, 1) := by decide +kernel
theorem dX2_makeTree_3 : decode cX2_makeTree 3 = .ok (.invokevirtual 39, 3) := by decide +kernel
theorem dX2_makeTree_6 : decode cX2_makeTree 6 = .ok (.iconst 0, 1) := by decide +kernel
theorem dX2_makeTree_7 : decode cX2_makeTree 7 = .ok (.istore_n 3, 1) := by decide +kernel
theorem dX2_makeTree_8 : decode cX2_makeTree 8 = .ok (.iload_n 3, 1) := by decide +kernel
theorem dX2_makeTree_9 : decode cX2_makeTree 9 = .ok (.aload_n 0, 1) := by decide +kernel
theorem dX2_makeTree_10 : decode cX2_makeTree 10 = .ok (.getfield 15, 3) := by decide +kernel
theorem dX2_makeTree_13 : decode cX2_makeTree 13 = .ok (.if_icmp .ge 44, 3) := by decide +kernel
theorem dX2_makeTree_16 : decode cX2_makeTree 16 = .ok (.aload_n 0, 1) := by decide +kernel
theorem dX2_makeTree_17 : decode cX2_makeTree 17 = .ok (.getfield 9, 3) := by decide +kernel
theorem dX2_makeTree_20 : decode cX2_makeTree 20 = .ok (.iload_n 3, 1) := by decide +kernel
theorem dX2_makeTree_21 : decode cX2_makeTree 21 = .ok (.invokestatic 31, 3) := by decide +kernel
theorem dX2_makeTree_24 : decode cX2_makeTree 24 = .ok (.invokestatic 35, 3) := by decide +kernel
theorem dX2_makeTree_27 : decode cX2_makeTree 27 = .ok (.ifCond .eq 16, 3) := by decide +kernel
theorem dX2_makeTree_30 : decode cX2_makeTree 30 = .ok (.aload_n 1, 1) := by decide +kernel
theorem dX2_makeTree_31 : decode cX2_makeTree 31 = .ok (.iload_n 2, 1) := by decide +kernel
theorem dX2_makeTree_32 : decode cX2_makeTree 32 = .ok (.aload_n 0, 1) := by decide +kernel
theorem dX2_makeTree_33 : decode cX2_makeTree 33 = .ok (.getfield 9, 3) := by decide +kernel
theorem dX2_makeTree_36 : decode cX2_makeTree 36 = .ok (.iload_n 3, 1) := by decide +kernel
theorem dX2_makeTree_37 : decode cX2_makeTree 37 = .ok (.invokestatic 31, 3) := by decide +kernel
theorem dX2_makeTree_40 : decode cX2_makeTree 40 = .ok (.invokevirtual 44, 3) := by decide +kernel
theorem dX2_makeTree_43 : decode cX2_makeTree 43 = .ok (.iload_n 2, 1) := by decide +kernel
theorem dX2_makeTree_44 : decode cX2_makeTree 44 = .ok (.aload_n 0, 1) := by decide +kernel
theorem dX2_makeTree_45 : decode cX2_makeTree 45 = .ok (.iload_n 3, 1) := by decide +kernel
theorem dX2_makeTree_46 : decode cX2_makeTree 46 = .ok (.invokevirtual 27, 3) := by decide +kernel
theorem dX2_makeTree_49 : decode cX2_makeTree 49 = .ok (.iadd, 1) := by decide +kernel
theorem dX2_makeTree_50 : decode cX2_makeTree 50 = .ok (.istore_n 2, 1) := by decide +kernel
theorem dX2_makeTree_51 : decode cX2_makeTree 51 = .ok (.iinc 3 1, 3) := by decide +kernel
theorem dX2_makeTree_54 : decode cX2_makeTree 54 = .ok (.goto (-46), 3) := by decide +kernel
theorem dX2_makeTree_57 : decode cX2_makeTree 57 = .ok (.return_, 1) := by decide +kernel
set_option maxRecDepth 20000 in
theorem ggX3_init_X4_put : GoodIn wsX3_init wsX4_put := goodIn_r _ [12] (by decide +kernel) (by decide +kernel)
set_option maxRecDepth 20000 in
theorem gX3_init_X4_put_n24 : GoodIn wsX3_init (wsX4_put) := ggX3_init_X4_put
end
section
theorem dX3_init_0 : decode cX3_init 0 = .ok (.aload_n 0, 1) := by decide +kernel
theorem dX3_init_1 : decode cX3_init 1 = .ok (.invokespecial 3, 3) := by decide +kernel
theorem dX3_init_4 : decode cX3_init 4 = .ok (.aload_n 0, 1) := by decide +kernel
theorem dX3_init_5 : decode cX3_init 5 = .ok (.bipush 100, 2) := by decide +kernel
theorem dX3_init_7 : decode cX3_init 7 = .ok (.newarray .int, 2) := by decide +kernel
theorem dX3_init_9 : decode cX3_init 9 = .ok (.putfield 9, 3) := by decide +kernel
theorem dX3_init_12 : decode cX3_init 12 = .ok (.aload_n 0, 1) := by decide +kernel
theorem dX3_init_13 : decode cX3_init 13 = .ok (.bipush 100, 2) := by decide +kernel
theorem dX3_init_15 : decode cX3_init 15 = .ok (.newarray .int, 2) := by decide +kernel
theorem dX3_init_17 : decode cX3_init 17 = .ok (.putfield 15, 3) := by decide +kernel
theorem dX3_init_20 : decode cX3_init 20 = .ok (.aload_n 0, 1) := by decide +kernel
theorem dX3_init_21 : decode cX3_init 21 = .ok (.bipush 100, 2) := by decide +kernel
theorem dX3_init_23 : decode cX3_init 23 = .ok (.newarray .int, 2) := by decide +kernel
theorem dX3_init_25 : decode cX3_init 25 = .ok (.putfield 18, 3) := by decide +kernel
theorem dX3_init_28 : decode cX3_init 28 = .ok (.aload_n 0, 1) := by decide +kernel
theorem dX3_init_29 : decode cX3_init 29 = .ok (.bipush 100, 2) := by decide +kernel
theorem dX3_init_31 : decode cX3_init 31 = .ok (.newarray .int, 2) := by decide +kernel
theorem dX3_init_33 : decode cX3_init 33 = .ok (.putfield 21, 3) := by decide +kernel
theorem dX3_init_36 : decode cX3_init 36 = .ok (.aload_n 0, 1) := by decide +kernel
theorem dX3_init_37 : decode cX3_init 37 = .ok (.getfield 15, 3) := by decide +kernel
theorem dX3_init_40 : decode cX3_init 40 = .ok (.iconst 0, 1) := by decide +kernel
theorem dX3_init_41 : decode cX3_init 41 = .ok (.bipush 97, 2) := by decide +kernel
theorem dX3_init_43 : decode cX3_init 43 = .ok (.invokestatic 24, 3) := by decide +kernel
theorem dX3_init_46 : decode cX3_init 46 = .ok (.aload_n 0, 1) := by decide +kernel
theorem dX3_init_47 : decode cX3_init 47 = .ok (.iconst 1, 1) := by decide +kernel
theorem dX3_init_48 : decode cX3_init 48 = .ok (.putfield 28, 3) := by decide +kernel
theorem dX3_init_51 : decode cX3_init 51 = .ok (.return_, 1) := by decide +kernel
theorem dX3_count_0 : decode cX3_count 0 = .ok (.aload_n 0, 1) := by decide +kernel
theorem dX3_count_1 : decode cX3_count 1 = .ok (.getfield 28, 3) := by decide +kernel
theorem dX3_count_4 : decode cX3_count 4 = .ok (.ireturn, 1) := by decide +kernel
theorem dX3_has_0 : decode cX3_has 0 = .ok (.iload_n 1, 1) := by decide +kernel
theorem dX3_has_1 : decode cX3_has 1 = .ok (.ifCond .lt 15, 3) := by decide +kernel
theorem dX3_has_4 : decode cX3_has 4 = .ok (.iload_n 1, 1) := by decide +kernel
theorem dX3_has_5 : decode cX3_has 5 = .ok (.aload_n 0, 1) := by decide +kernel
theorem dX3_has_6 : decode cX3_has 6 = .ok (.getfield 28, 3) := by decide +kernel
theorem dX3_has_9 : decode cX3_has 9 = .ok (.if_icmp .ge 7, 3) := by decide +kernel
theorem dX3_has_12 : decode cX3_has 12 = .ok (.iconst 1, 1) := by decide +kernel
theorem dX3_has_13 : decode cX3_has 13 = .ok (.goto 4, 3) := by decide +kernel
theorem dX3_has_16 : decode cX3_has 16 = .ok (.iconst 0, 1) := by decide +kernel
theorem dX3_has_17 : decode cX3_has 17 = .ok (.ireturn, 1) := by decide +kernel
set_option maxRecDepth 20000 in
theorem ggX3_depthOf_X3_has : GoodIn wsX3_depthOf wsX3_has := goodIn_r _ [6, 7, 11, 12, 13, 14, 15] (by decide +kernel) (by decide +kernel)
set_option maxRecDepth 20000 in
theorem gX3_depthOf_X3_has : GoodIn wsX3_depthOf (wsV RX3 32 RX3 yX3_has wsX3_has) := goodIn_app (goodIn_of _ (by decide +kernel)) ggX3_depthOf_X3_has
set_option maxRecDepth 20000 in
theorem ggX3_depthOf_X4_get : GoodIn wsX3_depthOf wsX4_get := goodIn_r _ [10] (by decide +kernel) (by decide +kernel)
set_option maxRecDepth 20000 in
theorem gX3_depthOf_X4_get_n36 : GoodIn wsX3_depthOf (wsX4_get) := ggX3_depthOf_X4_get
theorem dX3_depthOf_0 : decode cX3_depthOf 0 = .ok (.aload_n 0, 1) := by decide +kernel
theorem dX3_depthOf_1 : decode cX3_depthOf 1 = .ok (.iload_n 1, 1) := by decide +kernel
theorem dX3_depthOf_2 : decode cX3_depthOf 2 = .ok (.invokevirtual 32, 3) := by decide +kernel
theorem dX3_depthOf_5 : decode cX3_depthOf 5 = .ok (.ifCond .eq 14, 3) := by decide +kernel
theorem dX3_depthOf_8 : decode cX3_depthOf 8 = .ok (.aload_n 0, 1) := by decide +kernel
theorem dX3_depthOf_9 : decode cX3_depthOf 9 = .ok (.getfield 9, 3) := by decide +kernel
theorem dX3_depthOf_12 : decode cX3_depthOf 12 = .ok (.iload_n 1, 1) := by decide +kernel
theorem dX3_depthOf_13 : decode cX3_depthOf 13 = .ok (.invokestatic 36, 3) := by decide +kernel
theorem dX3_depthOf_16 : decode cX3_depthOf 16 = .ok (.goto 4, 3) := by decide +kernel
theorem dX3_depthOf_19 : decode cX3_depthOf 19 = .ok (.iconst 0, 1) := by decide +kernel
theorem dX3_depthOf_20 : decode cX3_depthOf 20 = .ok (.ireturn, 1) := by decide +kernel
set_option maxRecDepth 20000 in
theorem ggX3_labelOf_X4_get : GoodIn wsX3_labelOf wsX4_get := goodIn_r _ [4] (by decide +kernel) (by decide +kernel)
set_option maxRecDepth 20000 in
theorem gX3_labelOf_X4_get_n36 : GoodIn wsX3_labelOf (wsX4_get) := ggX3_labelOf_X4_get
theorem dX3_labelOf_0 : decode cX3_labelOf 0 = .ok (.aload_n 0, 1) := by decide +kernel
theorem dX3_labelOf_1 : decode cX3_labelOf 1 = .ok (.getfield 15, 3) := by decide +kernel
theorem dX3_labelOf_4 : decode cX3_labelOf 4 = .ok (.iload_n 1, 1) := by decide +kernel
theorem dX3_labelOf_5 : decode cX3_labelOf 5 = .ok (.invokestatic 36, 3) := by decide +kernel
theorem dX3_labelOf_8 : decode cX3_labelOf 8 = .ok (.ireturn, 1) := by decide +kernel
set_option maxRecDepth 20000 in
theorem ggX3_endOf_X3_depthOf : GoodIn wsX3_endOf wsX3_depthOf := goodIn_r _ [6, 7, 8, 9, 10, 5, 11, 1, 12, 13, 14, 15, 16, 17, 18, 19] (by decide +kernel) (by decide +kernel)
set_option maxRecDepth 20000 in
theorem gX3_endOf_X3_depthOf : GoodIn wsX3_endOf (wsV RX3 40 RX3 yX3_depthOf wsX3_depthOf) := goodIn_app (goodIn_of _ (by decide +kernel)) ggX3_endOf_X3_depthOf
theorem dX3_endOf_0 : decode cX3_endOf 0 = .ok (.aload_n 0, 1) := by decide +kernel
theorem dX3_endOf_1 : decode cX3_endOf 1 = .ok (.iload_n 1, 1) := by decide +kernel
theorem dX3_endOf_2 : decode cX3_endOf 2 = .ok (.invokevirtual 40, 3) := by decide +kernel
theorem dX3_endOf_5 : decode cX3_endOf 5 = .ok (.istore_n 2, 1) := by decide +kernel
theorem dX3_endOf_6 : decode cX3_endOf 6 = .ok (.iload_n 1, 1) := by decide +kernel
theorem dX3_endOf_7 : decode cX3_endOf 7 = .ok (.iconst 1, 1) := by decide +kernel
theorem dX3_endOf_8 : decode cX3_endOf 8 = .ok (.iadd, 1) := by decide +kernel
theorem dX3_endOf_9 : decode cX3_endOf 9 = .ok (.istore_n 3, 1) := by decide +kernel
theorem dX3_endOf_10 : decode cX3_endOf 10 = .ok (.iload_n 3, 1) := by decide +kernel
theorem dX3_endOf_11 : decode cX3_endOf 11 = .ok (.aload_n 0, 1) := by decide +kernel
theorem dX3_endOf_12 : decode cX3_endOf 12 = .ok (.getfield 28, 3) := by decide +kernel
theorem dX3_endOf_15 : decode cX3_endOf 15 = .ok (.if_icmp .ge 20, 3) := by decide +kernel
theorem dX3_endOf_18 : decode cX3_endOf 18 = .ok (.aload_n 0, 1) := by decide +kernel
theorem dX3_endOf_19 : decode cX3_endOf 19 = .ok (.iload_n 3, 1) := by decide +kernel
theorem dX3_endOf_20 : decode cX3_endOf 20 = .ok (.invokevirtual 40, 3) := by decide +kernel
theorem dX3_endOf_23 : decode cX3_endOf 23 = .ok (.iload_n 2, 1) := by decide +kernel
theorem dX3_endOf_24 : decode cX3_endOf 24 = .ok (.if_icmp .gt 5, 3) := by decide +kernel
theorem dX3_endOf_27 : decode cX3_endOf 27 = .ok (.iload_n 3, 1) := by decide +kernel
theorem dX3_endOf_28 : decode cX3_endOf 28 = .ok (.ireturn, 1) := by decide +kernel
theorem dX3_endOf_29 : decode cX3_endOf 29 = .ok (.iinc 3 1, 3) := by decide +kernel
theorem dX3_endOf_32 : decode cX3_endOf 32 = .ok (.goto (-22), 3) := by decide +kernel
theorem dX3_endOf_35 : decode cX3_endOf 35 = .ok (.aload_n 0, 1) := by decide +kernel
theorem dX3_endOf_36 : decode cX3_endOf 36 = .ok (.getfield 28, 3) := by decide +kernel
theorem dX3_endOf_39 : decode cX3_endOf 39 = .ok (.ireturn, 1) := by decide +kernel
set_option maxRecDepth 20000 in
theorem ggX3_sizeOf_X3_endOf : GoodIn wsX3_sizeOf wsX3_endOf := goodIn_r _ [5, 6, 7, 8, 9, 4, 10, 11, 12, 13, 14, 15, 16, 17, 18, 19, 20, 21, 22, 23] (by decide +kernel) (by decide +kernel)
set_option maxRecDepth 20000 in
theorem gX3_sizeOf_X3_endOf : GoodIn wsX3_sizeOf (wsV RX3 44 RX3 yX3_endOf wsX3_endOf) := goodIn_app (goodIn_of _ (by decide +kernel)) ggX3_sizeOf_X3_endOf
theorem dX3_sizeOf_0 : decode cX3_sizeOf 0 = .ok (.aload_n 0, 1) := by decide +kernel
theorem dX3_sizeOf_1 : decode cX3_sizeOf 1 = .ok (.iload_n 1, 1) := by decide +kernel
theorem dX3_sizeOf_2 : decode cX3_sizeOf 2 = .ok (.invokevirtual 44, 3) := by decide +kernel
theorem dX3_sizeOf_5 : decode cX3_sizeOf 5 = .ok (.iload_n 1, 1) := by decide +kernel
theorem dX3_sizeOf_6 : decode cX3_sizeOf 6 = .ok (.isub, 1) := by decide +kernel
theorem dX3_sizeOf_7 : decode cX3_sizeOf 7 = .ok (.ireturn, 1) := by decide +kernel
set_option maxRecDepth 20000 in
theorem ggX3_parentOf_X3_depthOf : GoodIn wsX3_parentOf wsX3_depthOf := goodIn_r _ [5, 6, 7, 8, 9, 4, 10, 11, 12, 13, 14, 19, 20, 21, 22, 23] (by decide +kernel) (by decide +kernel)
set_option maxRecDepth 20000 in
theorem gX3_parentOf_X3_depthOf : GoodIn wsX3_parentOf (wsV RX3 40 RX3 yX3_depthOf wsX3_depthOf) := goodIn_app (goodIn_of _ (by decide +kernel)) ggX3_parentOf_X3_depthOf
set_option maxRecDepth 20000 in
theorem ggX3_parentOf_X3_climb : GoodIn wsX3_parentOf wsX3_climb := goodIn_r _ [18, 1, 2, 3, 4, 5, 6, 7, 8, 9, 10, 11, 12, 13, 14, 19, 20, 21, 22, 23] (by decide +kernel) (by decide +kernel)
set_option maxRecDepth 20000 in
theorem gX3_parentOf_X3_climb : GoodIn wsX3_parentOf (wsV RX3 47 RX3 yX3_climb wsX3_climb) := goodIn_app (goodIn_of _ (by decide +kernel)) ggX3_parentOf_X3_climb
theorem dX3_parentOf_0 : decode cX3_parentOf 0 = .ok (.iload_n 1, 1) := by decide +kernel
theorem dX3_parentOf_1 : decode cX3_parentOf 1 = .ok (.ifCond .ne 8, 3) := by decide +kernel
theorem dX3_parentOf_4 : decode cX3_parentOf 4 = .ok (.bipush (-5), 2) := by decide +kernel
theorem dX3_parentOf_6 : decode cX3_parentOf 6 = .ok (.goto 15, 3) := by decide +kernel
theorem dX3_parentOf_9 : decode cX3_parentOf 9 = .ok (.aload_n 0, 1) := by decide +kernel
theorem dX3_parentOf_10 : decode cX3_parentOf 10 = .ok (.iload_n 1, 1) := by decide +kernel
theorem dX3_parentOf_11 : decode cX3_parentOf 11 = .ok (.aload_n 0, 1) := by decide +kernel
theorem dX3_parentOf_12 : decode cX3_parentOf 12 = .ok (.iload_n 1, 1) := by decide +kernel
theorem dX3_parentOf_13 : decode cX3_parentOf 13 = .ok (.invokevirtual 40, 3) := by decide +kernel
theorem dX3_parentOf_16 : decode cX3_parentOf 16 = .ok (.iconst 1, 1) := by decide +kernel
theorem dX3_parentOf_17 : decode cX3_parentOf 17 = .ok (.isub, 1) := by decide +kernel
theorem dX3_parentOf_18 : decode cX3_parentOf 18 = .ok (.invokevirtual 47, 3) := by decide +kernel
theorem dX3_parentOf_21 : decode cX3_parentOf 21 = .ok (.ireturn, 1) := by decide +kernel
set_option maxRecDepth 20000 in
theorem ggX3_climb_X3_depthOf : GoodIn wsX3_climb wsX3_depthOf := goodIn_r _ [5, 6, 7, 8, 9, 4, 10, 11, 12, 13, 14, 15, 16, 17, 18, 19] (by decide +kernel) (by decide +kernel)
set_option maxRecDepth 20000 in
theorem gX3_climb_X3_depthOf : GoodIn wsX3_climb (wsV RX3 40 RX3 yX3_depthOf wsX3_depthOf) := goodIn_app (goodIn_of _ (by decide +kernel)) ggX3_climb_X3_depthOf
theorem dX3_climb_0 : decode cX3_climb 0 = .ok (.iload_n 1, 1) := by decide +kernel
theorem dX3_climb_1 : decode cX3_climb 1 = .ok (.istore_n 3, 1) := by decide +kernel
theorem dX3_climb_2 : decode cX3_climb 2 = .ok (.iload_n 3, 1) := by decide +kernel
theorem dX3_climb_3 : decode cX3_climb 3 = .ok (.ifCond .lt 20, 3) := by decide +kernel
theorem dX3_climb_6 : decode cX3_climb 6 = .ok (.aload_n 0, 1) := by decide +kernel
theorem dX3_climb_7 : decode cX3_climb 7 = .ok (.iload_n 3, 1) := by decide +kernel
theorem dX3_climb_8 : decode cX3_climb 8 = .ok (.invokevirtual 40, 3) := by decide +kernel
theorem dX3_climb_11 : decode cX3_climb 11 = .ok (.iload_n 2, 1) := by decide +kernel
theorem dX3_climb_12 : decode cX3_climb 12 = .ok (.if_icmp .ne 5, 3) := by decide +kernel
theorem dX3_climb_15 : decode cX3_climb 15 = .ok (.iload_n 3, 1) := by decide +kernel
theorem dX3_climb_16 : decode cX3_climb 16 = .ok (.ireturn, 1) := by decide +kernel
theorem dX3_climb_17 : decode cX3_climb 17 = .ok (.iinc 3 (-1), 3) := by decide +kernel
theorem dX3_climb_20 : decode cX3_climb 20 = .ok (.goto (-18), 3) := by decide +kernel
theorem dX3_climb_23 : decode cX3_climb 23 = .ok (.bipush (-5), 2) := by decide +kernel
theorem dX3_climb_25 : decode cX3_climb 25 = .ok (.ireturn, 1) := by decide +kernel
set_option maxRecDepth 20000 in
theorem ggX3_childCount_X3_endOf : GoodIn wsX3_childCount wsX3_endOf := goodIn_r _ [5, 6, 7, 8, 9, 4, 10, 11, 12, 13, 14, 15, 16, 17, 18, 19, 20, 21, 22, 23] (by decide +kernel) (by decide +kernel)
set_option maxRecDepth 20000 in
theorem gX3_childCount_X3_endOf : GoodIn wsX3_childCount (wsV RX3 44 RX3 yX3_endOf wsX3_endOf) := goodIn_app (goodIn_of _ (by decide +kernel)) ggX3_childCount_X3_endOf
set_option maxRecDepth 20000 in
theorem ggX3_childCount_X3_depthOf : GoodIn wsX3_childCount wsX3_depthOf := goodIn_r _ [10, 11, 12, 13, 14, 4, 15, 6, 16, 17, 18, 19, 20, 21, 22, 23] (by decide +kernel) (by decide +kernel)
set_option maxRecDepth 20000 in
theorem gX3_childCount_X3_depthOf : GoodIn wsX3_childCount (wsV RX3 40 RX3 yX3_depthOf wsX3_depthOf) := goodIn_app (goodIn_of _ (by decide +kernel)) ggX3_childCount_X3_depthOf
theorem dX3_childCount_0 : decode cX3_childCount 0 = .ok (.aload_n 0, 1) := by decide +kernel
theorem dX3_childCount_1 : decode cX3_childCount 1 = .ok (.iload_n 1, 1) := by decide +kernel
theorem dX3_childCount_2 : decode cX3_childCount 2 = .ok (.invokevirtual 44, 3) := by decide +kernel
theorem dX3_childCount_5 : decode cX3_childCount 5 = .ok (.istore_n 2, 1) := by decide +kernel
theorem dX3_childCount_6 : decode cX3_childCount 6 = .ok (.iconst 0, 1) := by decide +kernel
theorem dX3_childCount_7 : decode cX3_childCount 7 = .ok (.istore_n 3, 1) := by decide +kernel
theorem dX3_childCount_8 : decode cX3_childCount 8 = .ok (.iload_n 1, 1) := by decide +kernel
theorem dX3_childCount_9 : decode cX3_childCount 9 = .ok (.iconst 1, 1) := by decide +kernel
theorem dX3_childCount_10 : decode cX3_childCount 10 = .ok (.iadd, 1) := by decide +kernel
theorem dX3_childCount_11 : decode cX3_childCount 11 = .ok (.istore 4, 2) := by decide +kernel
theorem dX3_childCount_13 : decode cX3_childCount 13 = .ok (.iload 4, 2) := by decide +kernel
theorem dX3_childCount_15 : decode cX3_childCount 15 = .ok (.iload_n 2, 1) := by decide +kernel
theorem dX3_childCount_16 : decode cX3_childCount 16 = .ok (.if_icmp .ge 28, 3) := by decide +kernel
theorem dX3_childCount_19 : decode cX3_childCount 19 = .ok (.aload_n 0, 1) := by decide +kernel
theorem dX3_childCount_20 : decode cX3_childCount 20 = .ok (.iload 4, 2) := by decide +kernel
theorem dX3_childCount_22 : decode cX3_childCount 22 = .ok (.invokevirtual 40, 3) := by decide +kernel
theorem dX3_childCount_25 : decode cX3_childCount 25 = .ok (.aload_n 0, 1) := by decide +kernel
theorem dX3_childCount_26 : decode cX3_childCount 26 = .ok (.iload_n 1, 1) := by decide +kernel
theorem dX3_childCount_27 : decode cX3_childCount 27 = .ok (.invokevirtual 40, 3) := by decide +kernel
theorem dX3_childCount_30 : decode cX3_childCount 30 = .ok (.iconst 1, 1) := by decide +kernel
theorem dX3_childCount_31 : decode cX3_childCount 31 = .ok (.iadd, 1) := by decide +kernel
theorem dX3_childCount_32 : decode cX3_childCount 32 = .ok (.if_icmp .ne 6, 3) := by decide +kernel
theorem dX3_childCount_35 : decode cX3_childCount 35 = .ok (.iinc 3 1, 3) := by decide +kernel
theorem dX3_childCount_38 : decode cX3_childCount 38 = .ok (.iinc 4 1, 3) := by decide +kernel
theorem dX3_childCount_41 : decode cX3_childCount 41 = .ok (.goto (-28), 3) := by decide +kernel
theorem dX3_childCount_44 : decode cX3_childCount 44 = .ok (.iload_n 3, 1) := by decide +kernel
theorem dX3_childCount_45 : decode cX3_childCount 45 = .ok (.ireturn, 1) := by decide +kernel
set_option maxRecDepth 20000 in
theorem ggX3_startOfPlace_X3_endOf : GoodIn wsX3_startOfPlace wsX3_endOf := goodIn_r _ [5, 6, 7, 8, 9, 4, 10, 11, 12, 13, 14, 15, 16, 17, 18, 19, 20, 21, 22, 23] (by decide +kernel) (by decide +kernel)
set_option maxRecDepth 20000 in
theorem gX3_startOfPlace_X3_endOf : GoodIn wsX3_startOfPlace (wsV RX3 44 RX3 yX3_endOf wsX3_endOf) := goodIn_app (goodIn_of _ (by decide +kernel)) ggX3_startOfPlace_X3_endOf
set_option maxRecDepth 20000 in
theorem ggX3_startOfPlace_X3_depthOf : GoodIn wsX3_startOfPlace wsX3_depthOf := goodIn_r _ [10, 11, 12, 13, 14, 4, 15, 6, 16, 17, 18, 19, 20, 21, 22, 23] (by decide +kernel) (by decide +kernel)
set_option maxRecDepth 20000 in
theorem gX3_startOfPlace_X3_depthOf : GoodIn wsX3_startOfPlace (wsV RX3 40 RX3 yX3_depthOf wsX3_depthOf) := goodIn_app (goodIn_of _ (by decide +kernel)) ggX3_startOfPlace_X3_depthOf
theorem dX3_startOfPlace_0 : decode cX3_startOfPlace 0 = .ok (.aload_n 0, 1) := by decide +kernel
theorem dX3_startOfPlace_1 : decode cX3_startOfPlace 1 = .ok (.iload_n 1, 1) := by decide +kernel
theorem dX3_startOfPlace_2 : decode cX3_startOfPlace 2 = .ok (.invokevirtual 44, 3) := by decide +kernel
theorem dX3_startOfPlace_5 : decode cX3_startOfPlace 5 = .ok (.istore_n 3, 1) := by decide +kernel
theorem dX3_startOfPlace_6 : decode cX3_startOfPlace 6 = .ok (.iconst 0, 1) := by decide +kernel
theorem dX3_startOfPlace_7 : decode cX3_startOfPlace 7 = .ok (.istore 4, 2) := by decide +kernel
theorem dX3_startOfPlace_9 : decode cX3_startOfPlace 9 = .ok (.iload_n 1, 1) := by decide +kernel
theorem dX3_startOfPlace_10 : decode cX3_startOfPlace 10 = .ok (.iconst 1, 1) := by decide +kernel
theorem dX3_startOfPlace_11 : decode cX3_startOfPlace 11 = .ok (.iadd, 1) := by decide +kernel
theorem dX3_startOfPlace_12 : decode cX3_startOfPlace 12 = .ok (.istore 5, 2) := by decide +kernel
theorem dX3_startOfPlace_14 : decode cX3_startOfPlace 14 = .ok (.iload 5, 2) := by decide +kernel
theorem dX3_startOfPlace_16 : decode cX3_startOfPlace 16 = .ok (.iload_n 3, 1) := by decide +kernel
theorem dX3_startOfPlace_17 : decode cX3_startOfPlace 17 = .ok (.if_icmp .ge 37, 3) := by decide +kernel
theorem dX3_startOfPlace_20 : decode cX3_startOfPlace 20 = .ok (.aload_n 0, 1) := by decide +kernel
theorem dX3_startOfPlace_21 : decode cX3_startOfPlace 21 = .ok (.iload 5, 2) := by decide +kernel
theorem dX3_startOfPlace_23 : decode cX3_startOfPlace 23 = .ok (.invokevirtual 40, 3) := by decide +kernel
theorem dX3_startOfPlace_26 : decode cX3_startOfPlace 26 = .ok (.aload_n 0, 1) := by decide +kernel
theorem dX3_startOfPlace_27 : decode cX3_startOfPlace 27 = .ok (.iload_n 1, 1) := by decide +kernel
theorem dX3_startOfPlace_28 : decode cX3_startOfPlace 28 = .ok (.invokevirtual 40, 3) := by decide +kernel
theorem dX3_startOfPlace_31 : decode cX3_startOfPlace 31 = .ok (.iconst 1, 1) := by decide +kernel
theorem dX3_startOfPlace_32 : decode cX3_startOfPlace 32 = .ok (.iadd, 1) := by decide +kernel
theorem dX3_startOfPlace_33 : decode cX3_startOfPlace 33 = .ok (.if_icmp .ne 15, 3) := by decide +kernel
theorem dX3_startOfPlace_36 : decode cX3_startOfPlace 36 = .ok (.iload 4, 2) := by decide +kernel
theorem dX3_startOfPlace_38 : decode cX3_startOfPlace 38 = .ok (.iload_n 2, 1) := by decide +kernel
theorem dX3_startOfPlace_39 : decode cX3_startOfPlace 39 = .ok (.if_icmp .ne 6, 3) := by decide +kernel
theorem dX3_startOfPlace_42 : decode cX3_startOfPlace 42 = .ok (.iload 5, 2) := by decide +kernel
theorem dX3_startOfPlace_44 : decode cX3_startOfPlace 44 = .ok (.ireturn, 1) := by decide +kernel
theorem dX3_startOfPlace_45 : decode cX3_startOfPlace 45 = .ok (.iinc 4 1, 3) := by decide +kernel
theorem dX3_startOfPlace_48 : decode cX3_startOfPlace 48 = .ok (.iinc 5 1, 3) := by decide +kernel
theorem dX3_startOfPlace_51 : decode cX3_startOfPlace 51 = .ok (.goto (-37), 3) := by decide +kernel
theorem dX3_startOfPlace_54 : decode cX3_startOfPlace 54 = .ok (.iload_n 3, 1) := by decide +kernel
theorem dX3_startOfPlace_55 : decode cX3_startOfPlace 55 = .ok (.ireturn, 1) := by decide +kernel
set_option maxRecDepth 20000 in
theorem ggX3_placeOf_X3_depthOf : GoodIn wsX3_placeOf wsX3_depthOf := goodIn_r _ [5, 6, 7, 8, 9, 4, 10, 11, 12, 13, 14, 15, 16, 17, 18, 19] (by decide +kernel) (by decide +kernel)
set_option maxRecDepth 20000 in
theorem gX3_placeOf_X3_depthOf : GoodIn wsX3_placeOf (wsV RX3 40 RX3 yX3_depthOf wsX3_depthOf) := goodIn_app (goodIn_of _ (by decide +kernel)) ggX3_placeOf_X3_depthOf
theorem dX3_placeOf_0 : decode cX3_placeOf 0 = .ok (.aload_n 0, 1) := by decide +kernel
theorem dX3_placeOf_1 : decode cX3_placeOf 1 = .ok (.iload_n 1, 1) := by decide +kernel
theorem dX3_placeOf_2 : decode cX3_placeOf 2 = .ok (.invokevirtual 40, 3) := by decide +kernel
theorem dX3_placeOf_5 : decode cX3_placeOf 5 = .ok (.istore_n 2, 1) := by decide +kernel
theorem dX3_placeOf_6 : decode cX3_placeOf 6 = .ok (.iconst 0, 1) := by decide +kernel
theorem dX3_placeOf_7 : decode cX3_placeOf 7 = .ok (.istore_n 3, 1) := by decide +kernel
theorem dX3_placeOf_8 : decode cX3_placeOf 8 = .ok (.iload_n 1, 1) := by decide +kernel
theorem dX3_placeOf_9 : decode cX3_placeOf 9 = .ok (.iconst 1, 1) := by decide +kernel
theorem dX3_placeOf_10 : decode cX3_placeOf 10 = .ok (.isub, 1) := by decide +kernel
theorem dX3_placeOf_11 : decode cX3_placeOf 11 = .ok (.istore 4, 2) := by decide +kernel
theorem dX3_placeOf_13 : decode cX3_placeOf 13 = .ok (.iload 4, 2) := by decide +kernel
theorem dX3_placeOf_15 : decode cX3_placeOf 15 = .ok (.ifCond .lt 32, 3) := by decide +kernel
theorem dX3_placeOf_18 : decode cX3_placeOf 18 = .ok (.aload_n 0, 1) := by decide +kernel
theorem dX3_placeOf_19 : decode cX3_placeOf 19 = .ok (.iload 4, 2) := by decide +kernel
theorem dX3_placeOf_21 : decode cX3_placeOf 21 = .ok (.invokevirtual 40, 3) := by decide +kernel
theorem dX3_placeOf_24 : decode cX3_placeOf 24 = .ok (.iload_n 2, 1) := by decide +kernel
theorem dX3_placeOf_25 : decode cX3_placeOf 25 = .ok (.if_icmp .lt 22, 3) := by decide +kernel
theorem dX3_placeOf_28 : decode cX3_placeOf 28 = .ok (.aload_n 0, 1) := by decide +kernel
theorem dX3_placeOf_29 : decode cX3_placeOf 29 = .ok (.iload 4, 2) := by decide +kernel
theorem dX3_placeOf_31 : decode cX3_placeOf 31 = .ok (.invokevirtual 40, 3) := by decide +kernel
theorem dX3_placeOf_34 : decode cX3_placeOf 34 = .ok (.iload_n 2, 1) := by decide +kernel
theorem dX3_placeOf_35 : decode cX3_placeOf 35 = .ok (.if_icmp .ne 6, 3) := by decide +kernel
theorem dX3_placeOf_38 : decode cX3_placeOf 38 = .ok (.iinc 3 1, 3) := by decide +kernel
theorem dX3_placeOf_41 : decode cX3_placeOf 41 = .ok (.iinc 4 (-1), 3) := by decide +kernel
theorem dX3_placeOf_44 : decode cX3_placeOf 44 = .ok (.goto (-31), 3) := by decide +kernel
theorem dX3_placeOf_47 : decode cX3_placeOf 47 = .ok (.iload_n 3, 1) := by decide +kernel
theorem dX3_placeOf_48 : decode cX3_placeOf 48 = .ok (.ireturn, 1) := by decide +kernel
set_option maxRecDepth 20000 in
theorem ggX3_isLeaf_X3_depthOf : GoodIn wsX3_isLeaf wsX3_depthOf := goodIn_r _ [5, 6, 7, 8, 9, 4, 10, 11, 12, 13, 14, 15, 16, 17, 18, 19] (by decide +kernel) (by decide +kernel)
set_option maxRecDepth 20000 in
theorem gX3_isLeaf_X3_depthOf : GoodIn wsX3_isLeaf (wsV RX3 40 RX3 yX3_depthOf wsX3_depthOf) := goodIn_app (goodIn_of _ (by decide +kernel)) ggX3_isLeaf_X3_depthOf
theorem dX3_isLeaf_0 : decode cX3_isLeaf 0 = .ok (.aload_n 0, 1) := by decide +kernel
theorem dX3_isLeaf_1 : decode cX3_isLeaf 1 = .ok (.iload_n 1, 1) := by decide +kernel
theorem dX3_isLeaf_2 : decode cX3_isLeaf 2 = .ok (.iconst 1, 1) := by decide +kernel
theorem dX3_isLeaf_3 : decode cX3_isLeaf 3 = .ok (.iadd, 1) := by decide +kernel
theorem dX3_isLeaf_4 : decode cX3_isLeaf 4 = .ok (.invokevirtual 40, 3) := by decide +kernel
theorem dX3_isLeaf_7 : decode cX3_isLeaf 7 = .ok (.aload_n 0, 1) := by decide +kernel
theorem dX3_isLeaf_8 : decode cX3_isLeaf 8 = .ok (.iload_n 1, 1) := by decide +kernel
theorem dX3_isLeaf_9 : decode cX3_isLeaf 9 = .ok (.invokevirtual 40, 3) := by decide +kernel
theorem dX3_isLeaf_12 : decode cX3_isLeaf 12 = .ok (.if_icmp .gt 7, 3) := by decide +kernel
theorem dX3_isLeaf_15 : decode cX3_isLeaf 15 = .ok (.iconst 1, 1) := by decide +kernel
theorem dX3_isLeaf_16 : decode cX3_isLeaf 16 = .ok (.goto 4, 3) := by decide +kernel
theorem dX3_isLeaf_19 : decode cX3_isLeaf 19 = .ok (.iconst 0, 1) := by decide +kernel
theorem dX3_isLeaf_20 : decode cX3_isLeaf 20 = .ok (.ireturn, 1) := by decide +kernel
set_option maxRecDepth 20000 in
theorem ggX3_leafCount_X3_endOf : GoodIn wsX3_leafCount wsX3_endOf := goodIn_r _ [5, 6, 7, 8, 9, 4, 10, 11, 12, 13, 14, 15, 16, 17, 18, 23, 24, 25, 26, 27] (by decide +kernel) (by decide +kernel)
set_option maxRecDepth 20000 in
theorem gX3_leafCount_X3_endOf : GoodIn wsX3_leafCount (wsV RX3 44 RX3 yX3_endOf wsX3_endOf) := goodIn_app (goodIn_of _ (by decide +kernel)) ggX3_leafCount_X3_endOf
set_option maxRecDepth 20000 in
theorem ggX3_leafCount_X3_isLeaf : GoodIn wsX3_leafCount wsX3_isLeaf := goodIn_r _ [22, 7, 8, 9, 4, 10, 11, 12, 13, 14, 15, 6, 16, 17, 18, 23, 24, 25, 26, 27] (by decide +kernel) (by decide +kernel)
set_option maxRecDepth 20000 in
theorem gX3_leafCount_X3_isLeaf : GoodIn wsX3_leafCount (wsV RX3 51 RX3 yX3_isLeaf wsX3_isLeaf) := goodIn_app (goodIn_of _ (by decide +kernel)) ggX3_leafCount_X3_isLeaf
theorem dX3_leafCount_0 : decode cX3_leafCount 0 = .ok (.aload_n 0, 1) := by decide +kernel
theorem dX3_leafCount_1 : decode cX3_leafCount 1 = .ok (.iload_n 1, 1) := by decide +kernel
theorem dX3_leafCount_2 : decode cX3_leafCount 2 = .ok (.invokevirtual 44, 3) := by decide +kernel
theorem dX3_leafCount_5 : decode cX3_leafCount 5 = .ok (.istore_n 2, 1) := by decide +kernel
theorem dX3_leafCount_6 : decode cX3_leafCount 6 = .ok (.iconst 0, 1) := by decide +kernel
theorem dX3_leafCount_7 : decode cX3_leafCount 7 = .ok (.istore_n 3, 1) := by decide +kernel
theorem dX3_leafCount_8 : decode cX3_leafCount 8 = .ok (.iload_n 1, 1) := by decide +kernel
theorem dX3_leafCount_9 : decode cX3_leafCount 9 = .ok (.istore 4, 2) := by decide +kernel
theorem dX3_leafCount_11 : decode cX3_leafCount 11 = .ok (.iload 4, 2) := by decide +kernel
theorem dX3_leafCount_13 : decode cX3_leafCount 13 = .ok (.iload_n 2, 1) := by decide +kernel
theorem dX3_leafCount_14 : decode cX3_leafCount 14 = .ok (.if_icmp .ge 21, 3) := by decide +kernel
theorem dX3_leafCount_17 : decode cX3_leafCount 17 = .ok (.aload_n 0, 1) := by decide +kernel
theorem dX3_leafCount_18 : decode cX3_leafCount 18 = .ok (.iload 4, 2) := by decide +kernel
theorem dX3_leafCount_20 : decode cX3_leafCount 20 = .ok (.invokevirtual 51, 3) := by decide +kernel
theorem dX3_leafCount_23 : decode cX3_leafCount 23 = .ok (.ifCond .eq 6, 3) := by decide +kernel
theorem dX3_leafCount_26 : decode cX3_leafCount 26 = .ok (.iinc 3 1, 3) := by decide +kernel
theorem dX3_leafCount_29 : decode cX3_leafCount 29 = .ok (.iinc 4 1, 3) := by decide +kernel
theorem dX3_leafCount_32 : decode cX3_leafCount 32 = .ok (.goto (-21), 3) := by decide +kernel
theorem dX3_leafCount_35 : decode cX3_leafCount 35 = .ok (.iload_n 3, 1) := by decide +kernel
theorem dX3_leafCount_36 : decode cX3_leafCount 36 = .ok (.ireturn, 1) := by decide +kernel
set_option maxRecDepth 20000 in
theorem ggX3_deepestOf_X3_endOf : GoodIn wsX3_deepestOf wsX3_endOf := goodIn_r _ [5, 6, 7, 8, 9, 4, 10, 11, 12, 13, 14, 15, 16, 17, 18, 19, 20, 21, 22, 23] (by decide +kernel) (by decide +kernel)
set_option maxRecDepth 20000 in
theorem gX3_deepestOf_X3_endOf : GoodIn wsX3_deepestOf (wsV RX3 44 RX3 yX3_endOf wsX3_endOf) := goodIn_app (goodIn_of _ (by decide +kernel)) ggX3_deepestOf_X3_endOf
set_option maxRecDepth 20000 in
theorem ggX3_deepestOf_X3_depthOf : GoodIn wsX3_deepestOf wsX3_depthOf := goodIn_r _ [10, 11, 12, 13, 14, 4, 15, 6, 16, 17, 18, 19, 20, 21, 22, 23] (by decide +kernel) (by decide +kernel)
set_option maxRecDepth 20000 in
theorem gX3_deepestOf_X3_depthOf : GoodIn wsX3_deepestOf (wsV RX3 40 RX3 yX3_depthOf wsX3_depthOf) := goodIn_app (goodIn_of _ (by decide +kernel)) ggX3_deepestOf_X3_depthOf
theorem dX3_deepestOf_0 : decode cX3_deepestOf 0 = .ok (.aload_n 0, 1) := by decide +kernel
theorem dX3_deepestOf_1 : decode cX3_deepestOf 1 = .ok (.iload_n 1, 1) := by decide +kernel
theorem dX3_deepestOf_2 : decode cX3_deepestOf 2 = .ok (.invokevirtual 44, 3) := by decide +kernel
theorem dX3_deepestOf_5 : decode cX3_deepestOf 5 = .ok (.istore_n 2, 1) := by decide +kernel
theorem dX3_deepestOf_6 : decode cX3_deepestOf 6 = .ok (.iload_n 1, 1) := by decide +kernel
theorem dX3_deepestOf_7 : decode cX3_deepestOf 7 = .ok (.istore_n 3, 1) := by decide +kernel
theorem dX3_deepestOf_8 : decode cX3_deepestOf 8 = .ok (.iload_n 1, 1) := by decide +kernel
theorem dX3_deepestOf_9 : decode cX3_deepestOf 9 = .ok (.iconst 1, 1) := by decide +kernel
theorem dX3_deepestOf_10 : decode cX3_deepestOf 10 = .ok (.iadd, 1) := by decide +kernel
theorem dX3_deepestOf_11 : decode cX3_deepestOf 11 = .ok (.istore 4, 2) := by decide +kernel
theorem dX3_deepestOf_13 : decode cX3_deepestOf 13 = .ok (.iload 4, 2) := by decide +kernel
theorem dX3_deepestOf_15 : decode cX3_deepestOf 15 = .ok (.iload_n 2, 1) := by decide +kernel
theorem dX3_deepestOf_16 : decode cX3_deepestOf 16 = .ok (.if_icmp .ge 26, 3) := by decide +kernel
theorem dX3_deepestOf_19 : decode cX3_deepestOf 19 = .ok (.aload_n 0, 1) := by decide +kernel
theorem dX3_deepestOf_20 : decode cX3_deepestOf 20 = .ok (.iload 4, 2) := by decide +kernel
theorem dX3_deepestOf_22 : decode cX3_deepestOf 22 = .ok (.invokevirtual 40, 3) := by decide +kernel
theorem dX3_deepestOf_25 : decode cX3_deepestOf 25 = .ok (.aload_n 0, 1) := by decide +kernel
theorem dX3_deepestOf_26 : decode cX3_deepestOf 26 = .ok (.iload_n 3, 1) := by decide +kernel
theorem dX3_deepestOf_27 : decode cX3_deepestOf 27 = .ok (.invokevirtual 40, 3) := by decide +kernel
theorem dX3_deepestOf_30 : decode cX3_deepestOf 30 = .ok (.if_icmp .le 6, 3) := by decide +kernel
theorem dX3_deepestOf_33 : decode cX3_deepestOf 33 = .ok (.iload 4, 2) := by decide +kernel
theorem dX3_deepestOf_35 : decode cX3_deepestOf 35 = .ok (.istore_n 3, 1) := by decide +kernel
theorem dX3_deepestOf_36 : decode cX3_deepestOf 36 = .ok (.iinc 4 1, 3) := by decide +kernel
theorem dX3_deepestOf_39 : decode cX3_deepestOf 39 = .ok (.goto (-26), 3) := by decide +kernel
theorem dX3_deepestOf_42 : decode cX3_deepestOf 42 = .ok (.iload_n 3, 1) := by decide +kernel
theorem dX3_deepestOf_43 : decode cX3_deepestOf 43 = .ok (.ireturn, 1) := by decide +kernel
set_option maxRecDepth 20000 in
theorem ggX3_postorderOf_X3_endOf : GoodIn wsX3_postorderOf wsX3_endOf := goodIn_r _ [5, 6, 7, 8, 9, 4, 10, 11, 12, 13, 14, 15, 16, 17, 18, 19, 20, 21, 22, 23] (by decide +kernel) (by decide +kernel)
set_option maxRecDepth 20000 in
theorem gX3_postorderOf_X3_endOf : GoodIn wsX3_postorderOf (wsV RX3 44 RX3 yX3_endOf wsX3_endOf) := goodIn_app (goodIn_of _ (by decide +kernel)) ggX3_postorderOf_X3_endOf
set_option maxRecDepth 20000 in
theorem ggX3_postorderOf_X3_depthOf : GoodIn wsX3_postorderOf wsX3_depthOf := goodIn_r _ [10, 11, 12, 13, 14, 4, 15, 6, 16, 17, 18, 19, 20, 21, 22, 23] (by decide +kernel) (by decide +kernel)
set_option maxRecDepth 20000 in
theorem gX3_postorderOf_X3_depthOf : GoodIn wsX3_postorderOf (wsV RX3 40 RX3 yX3_depthOf wsX3_depthOf) := goodIn_app (goodIn_of _ (by decide +kernel)) ggX3_postorderOf_X3_depthOf
theorem dX3_postorderOf_0 : decode cX3_postorderOf 0 = .ok (.aload_n 0, 1) := by decide +kernel
theorem dX3_postorderOf_1 : decode cX3_postorderOf 1 = .ok (.iload_n 1, 1) := by decide +kernel
theorem dX3_postorderOf_2 : decode cX3_postorderOf 2 = .ok (.invokevirtual 44, 3) := by decide +kernel
theorem dX3_postorderOf_5 : decode cX3_postorderOf 5 = .ok (.iconst 1, 1) := by decide +kernel
theorem dX3_postorderOf_6 : decode cX3_postorderOf 6 = .ok (.isub, 1) := by decide +kernel
theorem dX3_postorderOf_7 : decode cX3_postorderOf 7 = .ok (.aload_n 0, 1) := by decide +kernel
theorem dX3_postorderOf_8 : decode cX3_postorderOf 8 = .ok (.iload_n 1, 1) := by decide +kernel
theorem dX3_postorderOf_9 : decode cX3_postorderOf 9 = .ok (.invokevirtual 40, 3) := by decide +kernel
theorem dX3_postorderOf_12 : decode cX3_postorderOf 12 = .ok (.isub, 1) := by decide +kernel
theorem dX3_postorderOf_13 : decode cX3_postorderOf 13 = .ok (.ireturn, 1) := by decide +kernel
set_option maxRecDepth 20000 in
theorem ggX3_findByPostorder_X3_postorderOf : GoodIn wsX3_findByPostorder wsX3_postorderOf := goodIn_r _ [6, 7, 8, 9, 5, 10, 1, 11, 12, 13, 14, 15, 16, 17, 18, 19, 20, 21, 22, 23, 24, 25, 26, 27] (by decide +kernel) (by decide +kernel)
set_option maxRecDepth 20000 in
theorem gX3_findByPostorder_X3_postorderOf : GoodIn wsX3_findByPostorder (wsV RX3 54 RX3 yX3_postorderOf wsX3_postorderOf) := goodIn_app (goodIn_of _ (by decide +kernel)) ggX3_findByPostorder_X3_postorderOf
theorem dX3_findByPostorder_0 : decode cX3_findByPostorder 0 = .ok (.iconst 0, 1) := by decide +kernel
theorem dX3_findByPostorder_1 : decode cX3_findByPostorder 1 = .ok (.istore_n 2, 1) := by decide +kernel
theorem dX3_findByPostorder_2 : decode cX3_findByPostorder 2 = .ok (.iload_n 2, 1) := by decide +kernel
theorem dX3_findByPostorder_3 : decode cX3_findByPostorder 3 = .ok (.aload_n 0, 1) := by decide +kernel
theorem dX3_findByPostorder_4 : decode cX3_findByPostorder 4 = .ok (.getfield 28, 3) := by decide +kernel
theorem dX3_findByPostorder_7 : decode cX3_findByPostorder 7 = .ok (.if_icmp .ge 20, 3) := by decide +kernel
theorem dX3_findByPostorder_10 : decode cX3_findByPostorder 10 = .ok (.aload_n 0, 1) := by decide +kernel
theorem dX3_findByPostorder_11 : decode cX3_findByPostorder 11 = .ok (.iload_n 2, 1) := by decide +kernel
theorem dX3_findByPostorder_12 : decode cX3_findByPostorder 12 = .ok (.invokevirtual 54, 3) := by decide +kernel
theorem dX3_findByPostorder_15 : decode cX3_findByPostorder 15 = .ok (.iload_n 1, 1) := by decide +kernel
theorem dX3_findByPostorder_16 : decode cX3_findByPostorder 16 = .ok (.if_icmp .ne 5, 3) := by decide +kernel
theorem dX3_findByPostorder_19 : decode cX3_findByPostorder 19 = .ok (.iload_n 2, 1) := by decide +kernel
theorem dX3_findByPostorder_20 : decode cX3_findByPostorder 20 = .ok (.ireturn, 1) := by decide +kernel
theorem dX3_findByPostorder_21 : decode cX3_findByPostorder 21 = .ok (.iinc 2 1, 3) := by decide +kernel
theorem dX3_findByPostorder_24 : decode cX3_findByPostorder 24 = .ok (.goto (-22), 3) := by decide +kernel
theorem dX3_findByPostorder_27 : decode cX3_findByPostorder 27 = .ok (.bipush (-5), 2) := by decide +kernel
theorem dX3_findByPostorder_29 : decode cX3_findByPostorder 29 = .ok (.ireturn, 1) := by decide +kernel
set_option maxRecDepth 20000 in
theorem ggX3_meetingOf_X3_depthOf : GoodIn wsX3_meetingOf wsX3_depthOf := goodIn_r _ [12, 13, 14, 15, 16, 11, 17, 18, 19, 20, 21, 26, 27, 28, 29, 30] (by decide +kernel) (by decide +kernel)
set_option maxRecDepth 20000 in
theorem gX3_meetingOf_X3_depthOf : GoodIn wsX3_meetingOf (wsV RX3 40 RX3 yX3_depthOf wsX3_depthOf) := goodIn_app (goodIn_of _ (by decide +kernel)) ggX3_meetingOf_X3_depthOf
set_option maxRecDepth 20000 in
theorem ggX3_meetingOf_X3_climb : GoodIn wsX3_meetingOf wsX3_climb := goodIn_r _ [25, 8, 9, 10, 11, 12, 13, 14, 15, 16, 17, 18, 19, 20, 21, 26, 27, 28, 29, 30] (by decide +kernel) (by decide +kernel)
set_option maxRecDepth 20000 in
theorem gX3_meetingOf_X3_climb : GoodIn wsX3_meetingOf (wsV RX3 47 RX3 yX3_climb wsX3_climb) := goodIn_app (goodIn_of _ (by decide +kernel)) ggX3_meetingOf_X3_climb
theorem dX3_meetingOf_0 : decode cX3_meetingOf 0 = .ok (.iload_n 1, 1) := by decide +kernel
theorem dX3_meetingOf_1 : decode cX3_meetingOf 1 = .ok (.iload_n 2, 1) := by decide +kernel
theorem dX3_meetingOf_2 : decode cX3_meetingOf 2 = .ok (.invokestatic 57, 3) := by decide +kernel
theorem dX3_meetingOf_5 : decode cX3_meetingOf 5 = .ok (.istore_n 3, 1) := by decide +kernel
theorem dX3_meetingOf_6 : decode cX3_meetingOf 6 = .ok (.iload_n 1, 1) := by decide +kernel
theorem dX3_meetingOf_7 : decode cX3_meetingOf 7 = .ok (.iload_n 2, 1) := by decide +kernel
theorem dX3_meetingOf_8 : decode cX3_meetingOf 8 = .ok (.invokestatic 62, 3) := by decide +kernel
theorem dX3_meetingOf_11 : decode cX3_meetingOf 11 = .ok (.istore 4, 2) := by decide +kernel
theorem dX3_meetingOf_13 : decode cX3_meetingOf 13 = .ok (.aload_n 0, 1) := by decide +kernel
theorem dX3_meetingOf_14 : decode cX3_meetingOf 14 = .ok (.iload_n 3, 1) := by decide +kernel
theorem dX3_meetingOf_15 : decode cX3_meetingOf 15 = .ok (.invokevirtual 40, 3) := by decide +kernel
theorem dX3_meetingOf_18 : decode cX3_meetingOf 18 = .ok (.istore 5, 2) := by decide +kernel
theorem dX3_meetingOf_20 : decode cX3_meetingOf 20 = .ok (.iload_n 3, 1) := by decide +kernel
theorem dX3_meetingOf_21 : decode cX3_meetingOf 21 = .ok (.iconst 1, 1) := by decide +kernel
theorem dX3_meetingOf_22 : decode cX3_meetingOf 22 = .ok (.iadd, 1) := by decide +kernel
theorem dX3_meetingOf_23 : decode cX3_meetingOf 23 = .ok (.istore 6, 2) := by decide +kernel
theorem dX3_meetingOf_25 : decode cX3_meetingOf 25 = .ok (.iload 6, 2) := by decide +kernel
theorem dX3_meetingOf_27 : decode cX3_meetingOf 27 = .ok (.iload 4, 2) := by decide +kernel
theorem dX3_meetingOf_29 : decode cX3_meetingOf 29 = .ok (.if_icmp .gt 24, 3) := by decide +kernel
theorem dX3_meetingOf_32 : decode cX3_meetingOf 32 = .ok (.iload 5, 2) := by decide +kernel
theorem dX3_meetingOf_34 : decode cX3_meetingOf 34 = .ok (.aload_n 0, 1) := by decide +kernel
theorem dX3_meetingOf_35 : decode cX3_meetingOf 35 = .ok (.iload 6, 2) := by decide +kernel
theorem dX3_meetingOf_37 : decode cX3_meetingOf 37 = .ok (.invokevirtual 40, 3) := by decide +kernel
theorem dX3_meetingOf_40 : decode cX3_meetingOf 40 = .ok (.iconst 1, 1) := by decide +kernel
theorem dX3_meetingOf_41 : decode cX3_meetingOf 41 = .ok (.isub, 1) := by decide +kernel
theorem dX3_meetingOf_42 : decode cX3_meetingOf 42 = .ok (.invokestatic 57, 3) := by decide +kernel
theorem dX3_meetingOf_45 : decode cX3_meetingOf 45 = .ok (.istore 5, 2) := by decide +kernel
theorem dX3_meetingOf_47 : decode cX3_meetingOf 47 = .ok (.iinc 6 1, 3) := by decide +kernel
theorem dX3_meetingOf_50 : decode cX3_meetingOf 50 = .ok (.goto (-25), 3) := by decide +kernel
theorem dX3_meetingOf_53 : decode cX3_meetingOf 53 = .ok (.aload_n 0, 1) := by decide +kernel
theorem dX3_meetingOf_54 : decode cX3_meetingOf 54 = .ok (.iload_n 3, 1) := by decide +kernel
theorem dX3_meetingOf_55 : decode cX3_meetingOf 55 = .ok (.iload 5, 2) := by decide +kernel
theorem dX3_meetingOf_57 : decode cX3_meetingOf 57 = .ok (.invokevirtual 47, 3) := by decide +kernel
theorem dX3_meetingOf_60 : decode cX3_meetingOf 60 = .ok (.ireturn, 1) := by decide +kernel
set_option maxRecDepth 20000 in
theorem ggX3_nextSibling_X3_endOf : GoodIn wsX3_nextSibling wsX3_endOf := goodIn_r _ [5, 6, 7, 8, 9, 4, 10, 11, 12, 13, 14, 15, 16, 17, 18, 19, 20, 21, 22, 23] (by decide +kernel) (by decide +kernel)
set_option maxRecDepth 20000 in
theorem gX3_nextSibling_X3_endOf : GoodIn wsX3_nextSibling (wsV RX3 44 RX3 yX3_endOf wsX3_endOf) := goodIn_app (goodIn_of _ (by decide +kernel)) ggX3_nextSibling_X3_endOf
set_option maxRecDepth 20000 in
theorem ggX3_nextSibling_X3_has : GoodIn wsX3_nextSibling wsX3_has := goodIn_r _ [15, 6, 19, 20, 21, 22, 23] (by decide +kernel) (by decide +kernel)
set_option maxRecDepth 20000 in
theorem gX3_nextSibling_X3_has : GoodIn wsX3_nextSibling (wsV RX3 32 RX3 yX3_has wsX3_has) := goodIn_app (goodIn_of _ (by decide +kernel)) ggX3_nextSibling_X3_has
set_option maxRecDepth 20000 in
theorem ggX3_nextSibling_X3_depthOf : GoodIn wsX3_nextSibling wsX3_depthOf := goodIn_r _ [10, 11, 12, 13, 14, 4, 15, 6, 16, 17, 18, 19, 20, 21, 22, 23] (by decide +kernel) (by decide +kernel)
set_option maxRecDepth 20000 in
theorem gX3_nextSibling_X3_depthOf : GoodIn wsX3_nextSibling (wsV RX3 40 RX3 yX3_depthOf wsX3_depthOf) := goodIn_app (goodIn_of _ (by decide +kernel)) ggX3_nextSibling_X3_depthOf
theorem dX3_nextSibling_0 : decode cX3_nextSibling 0 = .ok (.aload_n 0, 1) := by decide +kernel
theorem dX3_nextSibling_1 : decode cX3_nextSibling 1 = .ok (.iload_n 1, 1) := by decide +kernel
theorem dX3_nextSibling_2 : decode cX3_nextSibling 2 = .ok (.invokevirtual 44, 3) := by decide +kernel
theorem dX3_nextSibling_5 : decode cX3_nextSibling 5 = .ok (.istore_n 2, 1) := by decide +kernel
theorem dX3_nextSibling_6 : decode cX3_nextSibling 6 = .ok (.aload_n 0, 1) := by decide +kernel
theorem dX3_nextSibling_7 : decode cX3_nextSibling 7 = .ok (.iload_n 2, 1) := by decide +kernel
theorem dX3_nextSibling_8 : decode cX3_nextSibling 8 = .ok (.invokevirtual 32, 3) := by decide +kernel
theorem dX3_nextSibling_11 : decode cX3_nextSibling 11 = .ok (.ifCond .eq 20, 3) := by decide +kernel
theorem dX3_nextSibling_14 : decode cX3_nextSibling 14 = .ok (.aload_n 0, 1) := by decide +kernel
theorem dX3_nextSibling_15 : decode cX3_nextSibling 15 = .ok (.iload_n 2, 1) := by decide +kernel
theorem dX3_nextSibling_16 : decode cX3_nextSibling 16 = .ok (.invokevirtual 40, 3) := by decide +kernel
theorem dX3_nextSibling_19 : decode cX3_nextSibling 19 = .ok (.aload_n 0, 1) := by decide +kernel
theorem dX3_nextSibling_20 : decode cX3_nextSibling 20 = .ok (.iload_n 1, 1) := by decide +kernel
theorem dX3_nextSibling_21 : decode cX3_nextSibling 21 = .ok (.invokevirtual 40, 3) := by decide +kernel
theorem dX3_nextSibling_24 : decode cX3_nextSibling 24 = .ok (.if_icmp .ne 7, 3) := by decide +kernel
theorem dX3_nextSibling_27 : decode cX3_nextSibling 27 = .ok (.iload_n 2, 1) := by decide +kernel
theorem dX3_nextSibling_28 : decode cX3_nextSibling 28 = .ok (.goto 5, 3) := by decide +kernel
theorem dX3_nextSibling_31 : decode cX3_nextSibling 31 = .ok (.bipush (-5), 2) := by decide +kernel
theorem dX3_nextSibling_33 : decode cX3_nextSibling 33 = .ok (.ireturn, 1) := by decide +kernel
set_option maxRecDepth 20000 in
theorem ggX3_previousSibling_X3_placeOf : GoodIn wsX3_previousSibling wsX3_placeOf := goodIn_r _ [5, 6, 7, 8, 4, 9, 10, 11, 12, 13, 14, 15, 16, 17, 18, 27, 28, 29, 30, 31] (by decide +kernel) (by decide +kernel)
set_option maxRecDepth 20000 in
theorem gX3_previousSibling_X3_placeOf : GoodIn wsX3_previousSibling (wsV RX3 65 RX3 yX3_placeOf wsX3_placeOf) := goodIn_app (goodIn_of _ (by decide +kernel)) ggX3_previousSibling_X3_placeOf
set_option maxRecDepth 20000 in
theorem ggX3_previousSibling_X3_previousAtDepth : GoodIn wsX3_previousSibling wsX3_previousAtDepth := goodIn_r _ [22, 6, 7, 8, 4, 9, 10, 11, 12, 13, 14, 15, 16, 17, 18, 23, 24, 25, 26, 27, 28, 29, 30, 31] (by decide +kernel) (by decide +kernel)
set_option maxRecDepth 20000 in
theorem gX3_previousSibling_X3_previousAtDepth : GoodIn wsX3_previousSibling (wsV RX3 68 RX3 yX3_previousAtDepth wsX3_previousAtDepth) := goodIn_app (goodIn_of _ (by decide +kernel)) ggX3_previousSibling_X3_previousAtDepth
theorem dX3_previousSibling_0 : decode cX3_previousSibling 0 = .ok (.aload_n 0, 1) := by decide +kernel
theorem dX3_previousSibling_1 : decode cX3_previousSibling 1 = .ok (.iload_n 1, 1) := by decide +kernel
theorem dX3_previousSibling_2 : decode cX3_previousSibling 2 = .ok (.invokevirtual 65, 3) := by decide +kernel
theorem dX3_previousSibling_5 : decode cX3_previousSibling 5 = .ok (.ifCond .ne 8, 3) := by decide +kernel
theorem dX3_previousSibling_8 : decode cX3_previousSibling 8 = .ok (.bipush (-5), 2) := by decide +kernel
theorem dX3_previousSibling_10 : decode cX3_previousSibling 10 = .ok (.goto 8, 3) := by decide +kernel
theorem dX3_previousSibling_13 : decode cX3_previousSibling 13 = .ok (.aload_n 0, 1) := by decide +kernel
theorem dX3_previousSibling_14 : decode cX3_previousSibling 14 = .ok (.iload_n 1, 1) := by decide +kernel
theorem dX3_previousSibling_15 : decode cX3_previousSibling 15 = .ok (.invokevirtual 68, 3) := by decide +kernel
theorem dX3_previousSibling_18 : decode cX3_previousSibling 18 = .ok (.ireturn, 1) := by decide +kernel
set_option maxRecDepth 20000 in
theorem ggX3_nextAtDepth_X3_depthOf : GoodIn wsX3_nextAtDepth wsX3_depthOf := goodIn_r _ [6, 7, 8, 9, 10, 5, 11, 1, 12, 13, 14, 15, 16, 17, 18, 19] (by decide +kernel) (by decide +kernel)
set_option maxRecDepth 20000 in
theorem gX3_nextAtDepth_X3_depthOf : GoodIn wsX3_nextAtDepth (wsV RX3 40 RX3 yX3_depthOf wsX3_depthOf) := goodIn_app (goodIn_of _ (by decide +kernel)) ggX3_nextAtDepth_X3_depthOf
theorem dX3_nextAtDepth_0 : decode cX3_nextAtDepth 0 = .ok (.iload_n 1, 1) := by decide +kernel
theorem dX3_nextAtDepth_1 : decode cX3_nextAtDepth 1 = .ok (.iconst 1, 1) := by decide +kernel
theorem dX3_nextAtDepth_2 : decode cX3_nextAtDepth 2 = .ok (.iadd, 1) := by decide +kernel
theorem dX3_nextAtDepth_3 : decode cX3_nextAtDepth 3 = .ok (.istore_n 2, 1) := by decide +kernel
theorem dX3_nextAtDepth_4 : decode cX3_nextAtDepth 4 = .ok (.iload_n 2, 1) := by decide +kernel
theorem dX3_nextAtDepth_5 : decode cX3_nextAtDepth 5 = .ok (.aload_n 0, 1) := by decide +kernel
theorem dX3_nextAtDepth_6 : decode cX3_nextAtDepth 6 = .ok (.getfield 28, 3) := by decide +kernel
theorem dX3_nextAtDepth_9 : decode cX3_nextAtDepth 9 = .ok (.if_icmp .ge 24, 3) := by decide +kernel
theorem dX3_nextAtDepth_12 : decode cX3_nextAtDepth 12 = .ok (.aload_n 0, 1) := by decide +kernel
theorem dX3_nextAtDepth_13 : decode cX3_nextAtDepth 13 = .ok (.iload_n 2, 1) := by decide +kernel
theorem dX3_nextAtDepth_14 : decode cX3_nextAtDepth 14 = .ok (.invokevirtual 40, 3) := by decide +kernel
theorem dX3_nextAtDepth_17 : decode cX3_nextAtDepth 17 = .ok (.aload_n 0, 1) := by decide +kernel
theorem dX3_nextAtDepth_18 : decode cX3_nextAtDepth 18 = .ok (.iload_n 1, 1) := by decide +kernel
theorem dX3_nextAtDepth_19 : decode cX3_nextAtDepth 19 = .ok (.invokevirtual 40, 3) := by decide +kernel
theorem dX3_nextAtDepth_22 : decode cX3_nextAtDepth 22 = .ok (.if_icmp .ne 5, 3) := by decide +kernel
theorem dX3_nextAtDepth_25 : decode cX3_nextAtDepth 25 = .ok (.iload_n 2, 1) := by decide +kernel
theorem dX3_nextAtDepth_26 : decode cX3_nextAtDepth 26 = .ok (.ireturn, 1) := by decide +kernel
theorem dX3_nextAtDepth_27 : decode cX3_nextAtDepth 27 = .ok (.iinc 2 1, 3) := by decide +kernel
theorem dX3_nextAtDepth_30 : decode cX3_nextAtDepth 30 = .ok (.goto (-26), 3) := by decide +kernel
theorem dX3_nextAtDepth_33 : decode cX3_nextAtDepth 33 = .ok (.bipush (-5), 2) := by decide +kernel
theorem dX3_nextAtDepth_35 : decode cX3_nextAtDepth 35 = .ok (.ireturn, 1) := by decide +kernel
set_option maxRecDepth 20000 in
theorem ggX3_previousAtDepth_X3_depthOf : GoodIn wsX3_previousAtDepth wsX3_depthOf := goodIn_r _ [5, 6, 7, 8, 9, 4, 10, 11, 12, 13, 14, 19, 20, 21, 22, 23] (by decide +kernel) (by decide +kernel)
set_option maxRecDepth 20000 in
theorem gX3_previousAtDepth_X3_depthOf : GoodIn wsX3_previousAtDepth (wsV RX3 40 RX3 yX3_depthOf wsX3_depthOf) := goodIn_app (goodIn_of _ (by decide +kernel)) ggX3_previousAtDepth_X3_depthOf
set_option maxRecDepth 20000 in
theorem ggX3_previousAtDepth_X3_climb : GoodIn wsX3_previousAtDepth wsX3_climb := goodIn_r _ [18, 1, 2, 3, 4, 5, 6, 7, 8, 9, 10, 11, 12, 13, 14, 19, 20, 21, 22, 23] (by decide +kernel) (by decide +kernel)
set_option maxRecDepth 20000 in
theorem gX3_previousAtDepth_X3_climb : GoodIn wsX3_previousAtDepth (wsV RX3 47 RX3 yX3_climb wsX3_climb) := goodIn_app (goodIn_of _ (by decide +kernel)) ggX3_previousAtDepth_X3_climb
theorem dX3_previousAtDepth_0 : decode cX3_previousAtDepth 0 = .ok (.aload_n 0, 1) := by decide +kernel
theorem dX3_previousAtDepth_1 : decode cX3_previousAtDepth 1 = .ok (.iload_n 1, 1) := by decide +kernel
theorem dX3_previousAtDepth_2 : decode cX3_previousAtDepth 2 = .ok (.iconst 1, 1) := by decide +kernel
theorem dX3_previousAtDepth_3 : decode cX3_previousAtDepth 3 = .ok (.isub, 1) := by decide +kernel
theorem dX3_previousAtDepth_4 : decode cX3_previousAtDepth 4 = .ok (.aload_n 0, 1) := by decide +kernel
theorem dX3_previousAtDepth_5 : decode cX3_previousAtDepth 5 = .ok (.iload_n 1, 1) := by decide +kernel
theorem dX3_previousAtDepth_6 : decode cX3_previousAtDepth 6 = .ok (.invokevirtual 40, 3) := by decide +kernel
theorem dX3_previousAtDepth_9 : decode cX3_previousAtDepth 9 = .ok (.invokevirtual 47, 3) := by decide +kernel
theorem dX3_previousAtDepth_12 : decode cX3_previousAtDepth 12 = .ok (.ireturn, 1) := by decide +kernel
set_option maxRecDepth 20000 in
theorem ggX3_nextLeaf_X3_isLeaf : GoodIn wsX3_nextLeaf wsX3_isLeaf := goodIn_r _ [6, 7, 8, 9, 5, 10, 11, 12, 13, 14, 15, 1, 16, 17, 18, 19, 20, 21, 22, 23] (by decide +kernel) (by decide +kernel)
set_option maxRecDepth 20000 in
theorem gX3_nextLeaf_X3_isLeaf : GoodIn wsX3_nextLeaf (wsV RX3 51 RX3 yX3_isLeaf wsX3_isLeaf) := goodIn_app (goodIn_of _ (by decide +kernel)) ggX3_nextLeaf_X3_isLeaf
theorem dX3_nextLeaf_0 : decode cX3_nextLeaf 0 = .ok (.iload_n 1, 1) := by decide +kernel
theorem dX3_nextLeaf_1 : decode cX3_nextLeaf 1 = .ok (.iconst 1, 1) := by decide +kernel
theorem dX3_nextLeaf_2 : decode cX3_nextLeaf 2 = .ok (.iadd, 1) := by decide +kernel
theorem dX3_nextLeaf_3 : decode cX3_nextLeaf 3 = .ok (.istore_n 2, 1) := by decide +kernel
theorem dX3_nextLeaf_4 : decode cX3_nextLeaf 4 = .ok (.iload_n 2, 1) := by decide +kernel
theorem dX3_nextLeaf_5 : decode cX3_nextLeaf 5 = .ok (.aload_n 0, 1) := by decide +kernel
theorem dX3_nextLeaf_6 : decode cX3_nextLeaf 6 = .ok (.getfield 28, 3) := by decide +kernel
theorem dX3_nextLeaf_9 : decode cX3_nextLeaf 9 = .ok (.if_icmp .ge 19, 3) := by decide +kernel
theorem dX3_nextLeaf_12 : decode cX3_nextLeaf 12 = .ok (.aload_n 0, 1) := by decide +kernel
theorem dX3_nextLeaf_13 : decode cX3_nextLeaf 13 = .ok (.iload_n 2, 1) := by decide +kernel
theorem dX3_nextLeaf_14 : decode cX3_nextLeaf 14 = .ok (.invokevirtual 51, 3) := by decide +kernel
theorem dX3_nextLeaf_17 : decode cX3_nextLeaf 17 = .ok (.ifCond .eq 5, 3) := by decide +kernel
theorem dX3_nextLeaf_20 : decode cX3_nextLeaf 20 = .ok (.iload_n 2, 1) := by decide +kernel
theorem dX3_nextLeaf_21 : decode cX3_nextLeaf 21 = .ok (.ireturn, 1) := by decide +kernel
theorem dX3_nextLeaf_22 : decode cX3_nextLeaf 22 = .ok (.iinc 2 1, 3) := by decide +kernel
theorem dX3_nextLeaf_25 : decode cX3_nextLeaf 25 = .ok (.goto (-21), 3) := by decide +kernel
theorem dX3_nextLeaf_28 : decode cX3_nextLeaf 28 = .ok (.bipush (-5), 2) := by decide +kernel
theorem dX3_nextLeaf_30 : decode cX3_nextLeaf 30 = .ok (.ireturn, 1) := by decide +kernel
set_option maxRecDepth 20000 in
theorem ggX3_largestChild_X3_endOf : GoodIn wsX3_largestChild wsX3_endOf := goodIn_r _ [5, 6, 7, 8, 9, 4, 10, 11, 12, 13, 14, 15, 16, 17, 18, 23, 24, 25, 26, 27] (by decide +kernel) (by decide +kernel)
set_option maxRecDepth 20000 in
theorem gX3_largestChild_X3_endOf : GoodIn wsX3_largestChild (wsV RX3 44 RX3 yX3_endOf wsX3_endOf) := goodIn_app (goodIn_of _ (by decide +kernel)) ggX3_largestChild_X3_endOf
set_option maxRecDepth 20000 in
theorem ggX3_largestChild_X3_depthOf : GoodIn wsX3_largestChild wsX3_depthOf := goodIn_r _ [10, 11, 12, 13, 14, 4, 15, 6, 16, 17, 18, 23, 24, 25, 26, 27] (by decide +kernel) (by decide +kernel)
set_option maxRecDepth 20000 in
theorem gX3_largestChild_X3_depthOf : GoodIn wsX3_largestChild (wsV RX3 40 RX3 yX3_depthOf wsX3_depthOf) := goodIn_app (goodIn_of _ (by decide +kernel)) ggX3_largestChild_X3_depthOf
set_option maxRecDepth 20000 in
theorem ggX3_largestChild_X3_sizeOf : GoodIn wsX3_largestChild wsX3_sizeOf := goodIn_r _ [22, 1, 2, 3, 4, 5, 6, 7, 8, 9, 10, 11, 12, 13, 14, 15, 16, 17, 18, 23, 24, 25, 26, 27] (by decide +kernel) (by decide +kernel)
set_option maxRecDepth 20000 in
theorem gX3_largestChild_X3_sizeOf : GoodIn wsX3_largestChild (wsV RX3 71 RX3 yX3_sizeOf wsX3_sizeOf) := goodIn_app (goodIn_of _ (by decide +kernel)) ggX3_largestChild_X3_sizeOf
theorem dX3_largestChild_0 : decode cX3_largestChild 0 = .ok (.aload_n 0, 1) := by decide +kernel
theorem dX3_largestChild_1 : decode cX3_largestChild 1 = .ok (.iload_n 1, 1) := by decide +kernel
theorem dX3_largestChild_2 : decode cX3_largestChild 2 = .ok (.invokevirtual 44, 3) := by decide +kernel
theorem dX3_largestChild_5 : decode cX3_largestChild 5 = .ok (.istore_n 2, 1) := by decide +kernel
theorem dX3_largestChild_6 : decode cX3_largestChild 6 = .ok (.bipush (-5), 2) := by decide +kernel
theorem dX3_largestChild_8 : decode cX3_largestChild 8 = .ok (.istore_n 3, 1) := by decide +kernel
theorem dX3_largestChild_9 : decode cX3_largestChild 9 = .ok (.iconst 0, 1) := by decide +kernel
theorem dX3_largestChild_10 : decode cX3_largestChild 10 = .ok (.istore 4, 2) := by decide +kernel
theorem dX3_largestChild_12 : decode cX3_largestChild 12 = .ok (.iload_n 1, 1) := by decide +kernel
theorem dX3_largestChild_13 : decode cX3_largestChild 13 = .ok (.iconst 1, 1) := by decide +kernel
theorem dX3_largestChild_14 : decode cX3_largestChild 14 = .ok (.iadd, 1) := by decide +kernel
theorem dX3_largestChild_15 : decode cX3_largestChild 15 = .ok (.istore 5, 2) := by decide +kernel
theorem dX3_largestChild_17 : decode cX3_largestChild 17 = .ok (.iload 5, 2) := by decide +kernel
theorem dX3_largestChild_19 : decode cX3_largestChild 19 = .ok (.iload_n 2, 1) := by decide +kernel
theorem dX3_largestChild_20 : decode cX3_largestChild 20 = .ok (.if_icmp .ge 47, 3) := by decide +kernel
theorem dX3_largestChild_23 : decode cX3_largestChild 23 = .ok (.aload_n 0, 1) := by decide +kernel
theorem dX3_largestChild_24 : decode cX3_largestChild 24 = .ok (.iload 5, 2) := by decide +kernel
theorem dX3_largestChild_26 : decode cX3_largestChild 26 = .ok (.invokevirtual 40, 3) := by decide +kernel
theorem dX3_largestChild_29 : decode cX3_largestChild 29 = .ok (.aload_n 0, 1) := by decide +kernel
theorem dX3_largestChild_30 : decode cX3_largestChild 30 = .ok (.iload_n 1, 1) := by decide +kernel
theorem dX3_largestChild_31 : decode cX3_largestChild 31 = .ok (.invokevirtual 40, 3) := by decide +kernel
theorem dX3_largestChild_34 : decode cX3_largestChild 34 = .ok (.iconst 1, 1) := by decide +kernel
theorem dX3_largestChild_35 : decode cX3_largestChild 35 = .ok (.iadd, 1) := by decide +kernel
theorem dX3_largestChild_36 : decode cX3_largestChild 36 = .ok (.if_icmp .ne 25, 3) := by decide +kernel
theorem dX3_largestChild_39 : decode cX3_largestChild 39 = .ok (.aload_n 0, 1) := by decide +kernel
theorem dX3_largestChild_40 : decode cX3_largestChild 40 = .ok (.iload 5, 2) := by decide +kernel
theorem dX3_largestChild_42 : decode cX3_largestChild 42 = .ok (.invokevirtual 71, 3) := by decide +kernel
theorem dX3_largestChild_45 : decode cX3_largestChild 45 = .ok (.iload 4, 2) := by decide +kernel
theorem dX3_largestChild_47 : decode cX3_largestChild 47 = .ok (.if_icmp .le 14, 3) := by decide +kernel
theorem dX3_largestChild_50 : decode cX3_largestChild 50 = .ok (.iload 5, 2) := by decide +kernel
theorem dX3_largestChild_52 : decode cX3_largestChild 52 = .ok (.istore_n 3, 1) := by decide +kernel
theorem dX3_largestChild_53 : decode cX3_largestChild 53 = .ok (.aload_n 0, 1) := by decide +kernel
theorem dX3_largestChild_54 : decode cX3_largestChild 54 = .ok (.iload 5, 2) := by decide +kernel
theorem dX3_largestChild_56 : decode cX3_largestChild 56 = .ok (.invokevirtual 71, 3) := by decide +kernel
theorem dX3_largestChild_59 : decode cX3_largestChild 59 = .ok (.istore 4, 2) := by decide +kernel
theorem dX3_largestChild_61 : decode cX3_largestChild 61 = .ok (.iinc 5 1, 3) := by decide +kernel
theorem dX3_largestChild_64 : decode cX3_largestChild 64 = .ok (.goto (-47), 3) := by decide +kernel
theorem dX3_largestChild_67 : decode cX3_largestChild 67 = .ok (.iload_n 3, 1) := by decide +kernel
theorem dX3_largestChild_68 : decode cX3_largestChild 68 = .ok (.ireturn, 1) := by decide +kernel
set_option maxRecDepth 20000 in
theorem ggX3_countAtDepth_X3_depthOf : GoodIn wsX3_countAtDepth wsX3_depthOf := goodIn_r _ [6, 7, 8, 9, 10, 5, 11, 1, 12, 13, 14, 15, 16, 17, 18, 19] (by decide +kernel) (by decide +kernel)
set_option maxRecDepth 20000 in
theorem gX3_countAtDepth_X3_depthOf : GoodIn wsX3_countAtDepth (wsV RX3 40 RX3 yX3_depthOf wsX3_depthOf) := goodIn_app (goodIn_of _ (by decide +kernel)) ggX3_countAtDepth_X3_depthOf
theorem dX3_countAtDepth_0 : decode cX3_countAtDepth 0 = .ok (.iconst 0, 1) := by decide +kernel
theorem dX3_countAtDepth_1 : decode cX3_countAtDepth 1 = .ok (.istore_n 2, 1) := by decide +kernel
theorem dX3_countAtDepth_2 : decode cX3_countAtDepth 2 = .ok (.iconst 0, 1) := by decide +kernel
theorem dX3_countAtDepth_3 : decode cX3_countAtDepth 3 = .ok (.istore_n 3, 1) := by decide +kernel
theorem dX3_countAtDepth_4 : decode cX3_countAtDepth 4 = .ok (.iload_n 3, 1) := by decide +kernel
theorem dX3_countAtDepth_5 : decode cX3_countAtDepth 5 = .ok (.aload_n 0, 1) := by decide +kernel
theorem dX3_countAtDepth_6 : decode cX3_countAtDepth 6 = .ok (.getfield 28, 3) := by decide +kernel
theorem dX3_countAtDepth_9 : decode cX3_countAtDepth 9 = .ok (.if_icmp .ge 21, 3) := by decide +kernel
theorem dX3_countAtDepth_12 : decode cX3_countAtDepth 12 = .ok (.aload_n 0, 1) := by decide +kernel
theorem dX3_countAtDepth_13 : decode cX3_countAtDepth 13 = .ok (.iload_n 3, 1) := by decide +kernel
theorem dX3_countAtDepth_14 : decode cX3_countAtDepth 14 = .ok (.invokevirtual 40, 3) := by decide +kernel
theorem dX3_countAtDepth_17 : decode cX3_countAtDepth 17 = .ok (.iload_n 1, 1) := by decide +kernel
theorem dX3_countAtDepth_18 : decode cX3_countAtDepth 18 = .ok (.if_icmp .ne 6, 3) := by decide +kernel
theorem dX3_countAtDepth_21 : decode cX3_countAtDepth 21 = .ok (.iinc 2 1, 3) := by decide +kernel
theorem dX3_countAtDepth_24 : decode cX3_countAtDepth 24 = .ok (.iinc 3 1, 3) := by decide +kernel
theorem dX3_countAtDepth_27 : decode cX3_countAtDepth 27 = .ok (.goto (-23), 3) := by decide +kernel
theorem dX3_countAtDepth_30 : decode cX3_countAtDepth 30 = .ok (.iload_n 2, 1) := by decide +kernel
theorem dX3_countAtDepth_31 : decode cX3_countAtDepth 31 = .ok (.ireturn, 1) := by decide +kernel
set_option maxRecDepth 20000 in
theorem ggX3_findAtDepth_X3_depthOf : GoodIn wsX3_findAtDepth wsX3_depthOf := goodIn_r _ [6, 7, 8, 9, 10, 5, 11, 1, 12, 13, 14, 15, 16, 17, 18, 19] (by decide +kernel) (by decide +kernel)
set_option maxRecDepth 20000 in
theorem gX3_findAtDepth_X3_depthOf : GoodIn wsX3_findAtDepth (wsV RX3 40 RX3 yX3_depthOf wsX3_depthOf) := goodIn_app (goodIn_of _ (by decide +kernel)) ggX3_findAtDepth_X3_depthOf
theorem dX3_findAtDepth_0 : decode cX3_findAtDepth 0 = .ok (.iconst 0, 1) := by decide +kernel
theorem dX3_findAtDepth_1 : decode cX3_findAtDepth 1 = .ok (.istore_n 3, 1) := by decide +kernel
theorem dX3_findAtDepth_2 : decode cX3_findAtDepth 2 = .ok (.iconst 0, 1) := by decide +kernel
theorem dX3_findAtDepth_3 : decode cX3_findAtDepth 3 = .ok (.istore 4, 2) := by decide +kernel
theorem dX3_findAtDepth_5 : decode cX3_findAtDepth 5 = .ok (.iload 4, 2) := by decide +kernel
theorem dX3_findAtDepth_7 : decode cX3_findAtDepth 7 = .ok (.aload_n 0, 1) := by decide +kernel
theorem dX3_findAtDepth_8 : decode cX3_findAtDepth 8 = .ok (.getfield 28, 3) := by decide +kernel
theorem dX3_findAtDepth_11 : decode cX3_findAtDepth 11 = .ok (.if_icmp .ge 30, 3) := by decide +kernel
theorem dX3_findAtDepth_14 : decode cX3_findAtDepth 14 = .ok (.aload_n 0, 1) := by decide +kernel
theorem dX3_findAtDepth_15 : decode cX3_findAtDepth 15 = .ok (.iload 4, 2) := by decide +kernel
theorem dX3_findAtDepth_17 : decode cX3_findAtDepth 17 = .ok (.invokevirtual 40, 3) := by decide +kernel
theorem dX3_findAtDepth_20 : decode cX3_findAtDepth 20 = .ok (.iload_n 1, 1) := by decide +kernel
theorem dX3_findAtDepth_21 : decode cX3_findAtDepth 21 = .ok (.if_icmp .ne 14, 3) := by decide +kernel
theorem dX3_findAtDepth_24 : decode cX3_findAtDepth 24 = .ok (.iload_n 3, 1) := by decide +kernel
theorem dX3_findAtDepth_25 : decode cX3_findAtDepth 25 = .ok (.iload_n 2, 1) := by decide +kernel
theorem dX3_findAtDepth_26 : decode cX3_findAtDepth 26 = .ok (.if_icmp .ne 6, 3) := by decide +kernel
theorem dX3_findAtDepth_29 : decode cX3_findAtDepth 29 = .ok (.iload 4, 2) := by decide +kernel
theorem dX3_findAtDepth_31 : decode cX3_findAtDepth 31 = .ok (.ireturn, 1) := by decide +kernel
theorem dX3_findAtDepth_32 : decode cX3_findAtDepth 32 = .ok (.iinc 3 1, 3) := by decide +kernel
theorem dX3_findAtDepth_35 : decode cX3_findAtDepth 35 = .ok (.iinc 4 1, 3) := by decide +kernel
theorem dX3_findAtDepth_38 : decode cX3_findAtDepth 38 = .ok (.goto (-33), 3) := by decide +kernel
theorem dX3_findAtDepth_41 : decode cX3_findAtDepth 41 = .ok (.bipush (-5), 2) := by decide +kernel
theorem dX3_findAtDepth_43 : decode cX3_findAtDepth 43 = .ok (.ireturn, 1) := by decide +kernel
theorem dX3_positionCount_0 : decode cX3_positionCount 0 = .ok (.iconst 2, 1) := by decide +kernel
theorem dX3_positionCount_1 : decode cX3_positionCount 1 = .ok (.aload_n 0, 1) := by decide +kernel
theorem dX3_positionCount_2 : decode cX3_positionCount 2 = .ok (.getfield 28, 3) := by decide +kernel
theorem dX3_positionCount_5 : decode cX3_positionCount 5 = .ok (.imul, 1) := by decide +kernel
theorem dX3_positionCount_6 : decode cX3_positionCount 6 = .ok (.ireturn, 1) := by decide +kernel
set_option maxRecDepth 20000 in
theorem ggX3_openingOf_X3_depthOf : GoodIn wsX3_openingOf wsX3_depthOf := goodIn_r _ [5, 6, 7, 8, 9, 4, 10, 11, 12, 13, 14, 15, 16, 17, 18, 19] (by decide +kernel) (by decide +kernel)
set_option maxRecDepth 20000 in
theorem gX3_openingOf_X3_depthOf : GoodIn wsX3_openingOf (wsV RX3 40 RX3 yX3_depthOf wsX3_depthOf) := goodIn_app (goodIn_of _ (by decide +kernel)) ggX3_openingOf_X3_depthOf
theorem dX3_openingOf_0 : decode cX3_openingOf 0 = .ok (.iconst 2, 1) := by decide +kernel
theorem dX3_openingOf_1 : decode cX3_openingOf 1 = .ok (.iload_n 1, 1) := by decide +kernel
theorem dX3_openingOf_2 : decode cX3_openingOf 2 = .ok (.imul, 1) := by decide +kernel
theorem dX3_openingOf_3 : decode cX3_openingOf 3 = .ok (.aload_n 0, 1) := by decide +kernel
theorem dX3_openingOf_4 : decode cX3_openingOf 4 = .ok (.iload_n 1, 1) := by decide +kernel
theorem dX3_openingOf_5 : decode cX3_openingOf 5 = .ok (.invokevirtual 40, 3) := by decide +kernel
theorem dX3_openingOf_8 : decode cX3_openingOf 8 = .ok (.isub, 1) := by decide +kernel
theorem dX3_openingOf_9 : decode cX3_openingOf 9 = .ok (.ireturn, 1) := by decide +kernel
set_option maxRecDepth 20000 in
theorem ggX3_closingOf_X3_openingOf : GoodIn wsX3_closingOf wsX3_openingOf := goodIn_r _ [5, 6, 7, 8, 4, 9, 10, 11, 12, 13, 14, 15, 16, 17, 18, 27, 28, 29, 30, 31] (by decide +kernel) (by decide +kernel)
set_option maxRecDepth 20000 in
theorem gX3_closingOf_X3_openingOf : GoodIn wsX3_closingOf (wsV RX3 74 RX3 yX3_openingOf wsX3_openingOf) := goodIn_app (goodIn_of _ (by decide +kernel)) ggX3_closingOf_X3_openingOf
set_option maxRecDepth 20000 in
theorem ggX3_closingOf_X3_sizeOf : GoodIn wsX3_closingOf wsX3_sizeOf := goodIn_r _ [22, 23, 24, 25, 4, 26, 15, 6, 7, 8, 9, 10, 11, 12, 13, 14, 16, 17, 18, 27, 28, 29, 30, 31] (by decide +kernel) (by decide +kernel)
set_option maxRecDepth 20000 in
theorem gX3_closingOf_X3_sizeOf : GoodIn wsX3_closingOf (wsV RX3 71 RX3 yX3_sizeOf wsX3_sizeOf) := goodIn_app (goodIn_of _ (by decide +kernel)) ggX3_closingOf_X3_sizeOf
theorem dX3_closingOf_0 : decode cX3_closingOf 0 = .ok (.aload_n 0, 1) := by decide +kernel
theorem dX3_closingOf_1 : decode cX3_closingOf 1 = .ok (.iload_n 1, 1) := by decide +kernel
theorem dX3_closingOf_2 : decode cX3_closingOf 2 = .ok (.invokevirtual 74, 3) := by decide +kernel
theorem dX3_closingOf_5 : decode cX3_closingOf 5 = .ok (.iconst 2, 1) := by decide +kernel
theorem dX3_closingOf_6 : decode cX3_closingOf 6 = .ok (.aload_n 0, 1) := by decide +kernel
theorem dX3_closingOf_7 : decode cX3_closingOf 7 = .ok (.iload_n 1, 1) := by decide +kernel
theorem dX3_closingOf_8 : decode cX3_closingOf 8 = .ok (.invokevirtual 71, 3) := by decide +kernel
theorem dX3_closingOf_11 : decode cX3_closingOf 11 = .ok (.imul, 1) := by decide +kernel
theorem dX3_closingOf_12 : decode cX3_closingOf 12 = .ok (.iadd, 1) := by decide +kernel
theorem dX3_closingOf_13 : decode cX3_closingOf 13 = .ok (.iconst 1, 1) := by decide +kernel
theorem dX3_closingOf_14 : decode cX3_closingOf 14 = .ok (.isub, 1) := by decide +kernel
theorem dX3_closingOf_15 : decode cX3_closingOf 15 = .ok (.ireturn, 1) := by decide +kernel
set_option maxRecDepth 20000 in
theorem ggX3_openedBefore_X3_openingOf : GoodIn wsX3_openedBefore wsX3_openingOf := goodIn_r _ [6, 7, 8, 9, 5, 10, 11, 12, 13, 14, 15, 1, 16, 17, 18, 19, 20, 21, 22, 23] (by decide +kernel) (by decide +kernel)
set_option maxRecDepth 20000 in
theorem gX3_openedBefore_X3_openingOf : GoodIn wsX3_openedBefore (wsV RX3 74 RX3 yX3_openingOf wsX3_openingOf) := goodIn_app (goodIn_of _ (by decide +kernel)) ggX3_openedBefore_X3_openingOf
theorem dX3_openedBefore_0 : decode cX3_openedBefore 0 = .ok (.iconst 0, 1) := by decide +kernel
theorem dX3_openedBefore_1 : decode cX3_openedBefore 1 = .ok (.istore_n 2, 1) := by decide +kernel
theorem dX3_openedBefore_2 : decode cX3_openedBefore 2 = .ok (.iload_n 2, 1) := by decide +kernel
theorem dX3_openedBefore_3 : decode cX3_openedBefore 3 = .ok (.aload_n 0, 1) := by decide +kernel
theorem dX3_openedBefore_4 : decode cX3_openedBefore 4 = .ok (.getfield 28, 3) := by decide +kernel
theorem dX3_openedBefore_7 : decode cX3_openedBefore 7 = .ok (.if_icmp .ge 18, 3) := by decide +kernel
theorem dX3_openedBefore_10 : decode cX3_openedBefore 10 = .ok (.aload_n 0, 1) := by decide +kernel
theorem dX3_openedBefore_11 : decode cX3_openedBefore 11 = .ok (.iload_n 2, 1) := by decide +kernel
theorem dX3_openedBefore_12 : decode cX3_openedBefore 12 = .ok (.invokevirtual 74, 3) := by decide +kernel
theorem dX3_openedBefore_15 : decode cX3_openedBefore 15 = .ok (.iload_n 1, 1) := by decide +kernel
theorem dX3_openedBefore_16 : decode cX3_openedBefore 16 = .ok (.if_icmp .ge 9, 3) := by decide +kernel
theorem dX3_openedBefore_19 : decode cX3_openedBefore 19 = .ok (.iinc 2 1, 3) := by decide +kernel
theorem dX3_openedBefore_22 : decode cX3_openedBefore 22 = .ok (.goto (-20), 3) := by decide +kernel
theorem dX3_openedBefore_25 : decode cX3_openedBefore 25 = .ok (.iload_n 2, 1) := by decide +kernel
theorem dX3_openedBefore_26 : decode cX3_openedBefore 26 = .ok (.ireturn, 1) := by decide +kernel
set_option maxRecDepth 20000 in
theorem ggX3_excessBefore_X3_openedBefore : GoodIn wsX3_excessBefore wsX3_openedBefore := goodIn_r _ [5, 6, 7, 8, 9, 4, 10, 11, 12, 13, 14, 15, 16, 17, 18, 19, 20, 21, 22, 23, 24, 25, 26, 27] (by decide +kernel) (by decide +kernel)
set_option maxRecDepth 20000 in
theorem gX3_excessBefore_X3_openedBefore : GoodIn wsX3_excessBefore (wsV RX3 77 RX3 yX3_openedBefore wsX3_openedBefore) := goodIn_app (goodIn_of _ (by decide +kernel)) ggX3_excessBefore_X3_openedBefore
theorem dX3_excessBefore_0 : decode cX3_excessBefore 0 = .ok (.iconst 2, 1) := by decide +kernel
theorem dX3_excessBefore_1 : decode cX3_excessBefore 1 = .ok (.aload_n 0, 1) := by decide +kernel
theorem dX3_excessBefore_2 : decode cX3_excessBefore 2 = .ok (.iload_n 1, 1) := by decide +kernel
theorem dX3_excessBefore_3 : decode cX3_excessBefore 3 = .ok (.invokevirtual 77, 3) := by decide +kernel
theorem dX3_excessBefore_6 : decode cX3_excessBefore 6 = .ok (.imul, 1) := by decide +kernel
theorem dX3_excessBefore_7 : decode cX3_excessBefore 7 = .ok (.iload_n 1, 1) := by decide +kernel
theorem dX3_excessBefore_8 : decode cX3_excessBefore 8 = .ok (.isub, 1) := by decide +kernel
theorem dX3_excessBefore_9 : decode cX3_excessBefore 9 = .ok (.ireturn, 1) := by decide +kernel
set_option maxRecDepth 20000 in
theorem ggX3_opensAt_X3_has : GoodIn wsX3_opensAt wsX3_has := goodIn_r _ [5, 6, 19, 20, 21, 22, 23] (by decide +kernel) (by decide +kernel)
set_option maxRecDepth 20000 in
theorem gX3_opensAt_X3_has : GoodIn wsX3_opensAt (wsV RX3 32 RX3 yX3_has wsX3_has) := goodIn_app (goodIn_of _ (by decide +kernel)) ggX3_opensAt_X3_has
set_option maxRecDepth 20000 in
theorem ggX3_opensAt_X3_openingOf : GoodIn wsX3_opensAt wsX3_openingOf := goodIn_r _ [10, 11, 12, 13, 4, 14, 15, 1, 2, 3, 5, 6, 16, 17, 18, 19, 20, 21, 22, 23] (by decide +kernel) (by decide +kernel)
set_option maxRecDepth 20000 in
theorem gX3_opensAt_X3_openingOf : GoodIn wsX3_opensAt (wsV RX3 74 RX3 yX3_openingOf wsX3_openingOf) := goodIn_app (goodIn_of _ (by decide +kernel)) ggX3_opensAt_X3_openingOf
theorem dX3_opensAt_0 : decode cX3_opensAt 0 = .ok (.aload_n 0, 1) := by decide +kernel
theorem dX3_opensAt_1 : decode cX3_opensAt 1 = .ok (.iload_n 1, 1) := by decide +kernel
theorem dX3_opensAt_2 : decode cX3_opensAt 2 = .ok (.invokevirtual 32, 3) := by decide +kernel
theorem dX3_opensAt_5 : decode cX3_opensAt 5 = .ok (.ifCond .eq 16, 3) := by decide +kernel
theorem dX3_opensAt_8 : decode cX3_opensAt 8 = .ok (.aload_n 0, 1) := by decide +kernel
theorem dX3_opensAt_9 : decode cX3_opensAt 9 = .ok (.iload_n 1, 1) := by decide +kernel
theorem dX3_opensAt_10 : decode cX3_opensAt 10 = .ok (.invokevirtual 74, 3) := by decide +kernel
theorem dX3_opensAt_13 : decode cX3_opensAt 13 = .ok (.iload_n 2, 1) := by decide +kernel
theorem dX3_opensAt_14 : decode cX3_opensAt 14 = .ok (.if_icmp .ne 7, 3) := by decide +kernel
theorem dX3_opensAt_17 : decode cX3_opensAt 17 = .ok (.iconst 1, 1) := by decide +kernel
theorem dX3_opensAt_18 : decode cX3_opensAt 18 = .ok (.goto 4, 3) := by decide +kernel
theorem dX3_opensAt_21 : decode cX3_opensAt 21 = .ok (.iconst 0, 1) := by decide +kernel
theorem dX3_opensAt_22 : decode cX3_opensAt 22 = .ok (.ireturn, 1) := by decide +kernel
set_option maxRecDepth 20000 in
theorem ggX3_nodeOfPosition_X3_openedBefore : GoodIn wsX3_nodeOfPosition wsX3_openedBefore := goodIn_r _ [5, 6, 7, 8, 9, 4, 10, 11, 12, 13, 14, 15, 16, 17, 18, 19, 20, 21, 22, 31, 32, 33, 34, 35] (by decide +kernel) (by decide +kernel)
set_option maxRecDepth 20000 in
theorem gX3_nodeOfPosition_X3_openedBefore : GoodIn wsX3_nodeOfPosition (wsV RX3 77 RX3 yX3_openedBefore wsX3_openedBefore) := goodIn_app (goodIn_of _ (by decide +kernel)) ggX3_nodeOfPosition_X3_openedBefore
set_option maxRecDepth 20000 in
theorem ggX3_nodeOfPosition_X3_openingOf : GoodIn wsX3_nodeOfPosition wsX3_openingOf := goodIn_r _ [10, 11, 12, 13, 4, 14, 15, 16, 17, 18, 19, 6, 20, 21, 22, 31, 32, 33, 34, 35] (by decide +kernel) (by decide +kernel)
set_option maxRecDepth 20000 in
theorem gX3_nodeOfPosition_X3_openingOf : GoodIn wsX3_nodeOfPosition (wsV RX3 74 RX3 yX3_openingOf wsX3_openingOf) := goodIn_app (goodIn_of _ (by decide +kernel)) ggX3_nodeOfPosition_X3_openingOf
set_option maxRecDepth 20000 in
theorem ggX3_nodeOfPosition_X3_excessBefore : GoodIn wsX3_nodeOfPosition wsX3_excessBefore := goodIn_r _ [26, 1, 2, 3, 4, 5, 6, 7, 8, 9, 10, 11, 12, 13, 14, 15, 16, 17, 18, 19, 20, 21, 22, 31, 32, 33, 34, 35] (by decide +kernel) (by decide +kernel)
set_option maxRecDepth 20000 in
theorem gX3_nodeOfPosition_X3_excessBefore : GoodIn wsX3_nodeOfPosition (wsV RX3 80 RX3 yX3_excessBefore wsX3_excessBefore) := goodIn_app (goodIn_of _ (by decide +kernel)) ggX3_nodeOfPosition_X3_excessBefore
set_option maxRecDepth 20000 in
theorem ggX3_nodeOfPosition_X3_climb : GoodIn wsX3_nodeOfPosition wsX3_climb := goodIn_r _ [30, 11, 12, 13, 4, 14, 15, 16, 17, 18, 19, 6, 20, 21, 22, 31, 32, 33, 34, 35] (by decide +kernel) (by decide +kernel)
set_option maxRecDepth 20000 in
theorem gX3_nodeOfPosition_X3_climb : GoodIn wsX3_nodeOfPosition (wsV RX3 47 RX3 yX3_climb wsX3_climb) := goodIn_app (goodIn_of _ (by decide +kernel)) ggX3_nodeOfPosition_X3_climb
theorem dX3_nodeOfPosition_0 : decode cX3_nodeOfPosition 0 = .ok (.aload_n 0, 1) := by decide +kernel
theorem dX3_nodeOfPosition_1 : decode cX3_nodeOfPosition 1 = .ok (.iload_n 1, 1) := by decide +kernel
theorem dX3_nodeOfPosition_2 : decode cX3_nodeOfPosition 2 = .ok (.iconst 1, 1) := by decide +kernel
theorem dX3_nodeOfPosition_3 : decode cX3_nodeOfPosition 3 = .ok (.iadd, 1) := by decide +kernel
theorem dX3_nodeOfPosition_4 : decode cX3_nodeOfPosition 4 = .ok (.invokevirtual 77, 3) := by decide +kernel
theorem dX3_nodeOfPosition_7 : decode cX3_nodeOfPosition 7 = .ok (.iconst 1, 1) := by decide +kernel
theorem dX3_nodeOfPosition_8 : decode cX3_nodeOfPosition 8 = .ok (.isub, 1) := by decide +kernel
theorem dX3_nodeOfPosition_9 : decode cX3_nodeOfPosition 9 = .ok (.istore_n 2, 1) := by decide +kernel
theorem dX3_nodeOfPosition_10 : decode cX3_nodeOfPosition 10 = .ok (.aload_n 0, 1) := by decide +kernel
theorem dX3_nodeOfPosition_11 : decode cX3_nodeOfPosition 11 = .ok (.iload_n 2, 1) := by decide +kernel
theorem dX3_nodeOfPosition_12 : decode cX3_nodeOfPosition 12 = .ok (.invokevirtual 74, 3) := by decide +kernel
theorem dX3_nodeOfPosition_15 : decode cX3_nodeOfPosition 15 = .ok (.iload_n 1, 1) := by decide +kernel
theorem dX3_nodeOfPosition_16 : decode cX3_nodeOfPosition 16 = .ok (.if_icmp .ne 7, 3) := by decide +kernel
theorem dX3_nodeOfPosition_19 : decode cX3_nodeOfPosition 19 = .ok (.iload_n 2, 1) := by decide +kernel
theorem dX3_nodeOfPosition_20 : decode cX3_nodeOfPosition 20 = .ok (.goto 15, 3) := by decide +kernel
theorem dX3_nodeOfPosition_23 : decode cX3_nodeOfPosition 23 = .ok (.aload_n 0, 1) := by decide +kernel
theorem dX3_nodeOfPosition_24 : decode cX3_nodeOfPosition 24 = .ok (.iload_n 2, 1) := by decide +kernel
theorem dX3_nodeOfPosition_25 : decode cX3_nodeOfPosition 25 = .ok (.aload_n 0, 1) := by decide +kernel
theorem dX3_nodeOfPosition_26 : decode cX3_nodeOfPosition 26 = .ok (.iload_n 1, 1) := by decide +kernel
theorem dX3_nodeOfPosition_27 : decode cX3_nodeOfPosition 27 = .ok (.iconst 1, 1) := by decide +kernel
theorem dX3_nodeOfPosition_28 : decode cX3_nodeOfPosition 28 = .ok (.iadd, 1) := by decide +kernel
theorem dX3_nodeOfPosition_29 : decode cX3_nodeOfPosition 29 = .ok (.invokevirtual 80, 3) := by decide +kernel
theorem dX3_nodeOfPosition_32 : decode cX3_nodeOfPosition 32 = .ok (.invokevirtual 47, 3) := by decide +kernel
theorem dX3_nodeOfPosition_35 : decode cX3_nodeOfPosition 35 = .ok (.ireturn, 1) := by decide +kernel
set_option maxRecDepth 20000 in
theorem ggX3_countLabel_X3_endOf : GoodIn wsX3_countLabel wsX3_endOf := goodIn_r _ [5, 6, 7, 8, 9, 4, 10, 11, 12, 13, 14, 15, 16, 17, 18, 24, 25, 26, 27, 28] (by decide +kernel) (by decide +kernel)
set_option maxRecDepth 20000 in
theorem gX3_countLabel_X3_endOf : GoodIn wsX3_countLabel (wsV RX3 44 RX3 yX3_endOf wsX3_endOf) := goodIn_app (goodIn_of _ (by decide +kernel)) ggX3_countLabel_X3_endOf
set_option maxRecDepth 20000 in
theorem ggX3_countLabel_X3_labelOf : GoodIn wsX3_countLabel wsX3_labelOf := goodIn_r _ [22, 23, 16, 17, 18, 24, 25, 26, 27, 28] (by decide +kernel) (by decide +kernel)
set_option maxRecDepth 20000 in
theorem gX3_countLabel_X3_labelOf : GoodIn wsX3_countLabel (wsV RX3 83 RX3 yX3_labelOf wsX3_labelOf) := goodIn_app (goodIn_of _ (by decide +kernel)) ggX3_countLabel_X3_labelOf
theorem dX3_countLabel_0 : decode cX3_countLabel 0 = .ok (.aload_n 0, 1) := by decide +kernel
theorem dX3_countLabel_1 : decode cX3_countLabel 1 = .ok (.iload_n 1, 1) := by decide +kernel
theorem dX3_countLabel_2 : decode cX3_countLabel 2 = .ok (.invokevirtual 44, 3) := by decide +kernel
theorem dX3_countLabel_5 : decode cX3_countLabel 5 = .ok (.istore_n 3, 1) := by decide +kernel
theorem dX3_countLabel_6 : decode cX3_countLabel 6 = .ok (.iconst 0, 1) := by decide +kernel
theorem dX3_countLabel_7 : decode cX3_countLabel 7 = .ok (.istore 4, 2) := by decide +kernel
theorem dX3_countLabel_9 : decode cX3_countLabel 9 = .ok (.iload_n 1, 1) := by decide +kernel
theorem dX3_countLabel_10 : decode cX3_countLabel 10 = .ok (.istore 5, 2) := by decide +kernel
theorem dX3_countLabel_12 : decode cX3_countLabel 12 = .ok (.iload 5, 2) := by decide +kernel
theorem dX3_countLabel_14 : decode cX3_countLabel 14 = .ok (.iload_n 3, 1) := by decide +kernel
theorem dX3_countLabel_15 : decode cX3_countLabel 15 = .ok (.if_icmp .ge 22, 3) := by decide +kernel
theorem dX3_countLabel_18 : decode cX3_countLabel 18 = .ok (.aload_n 0, 1) := by decide +kernel
theorem dX3_countLabel_19 : decode cX3_countLabel 19 = .ok (.iload 5, 2) := by decide +kernel
theorem dX3_countLabel_21 : decode cX3_countLabel 21 = .ok (.invokevirtual 83, 3) := by decide +kernel
theorem dX3_countLabel_24 : decode cX3_countLabel 24 = .ok (.iload_n 2, 1) := by decide +kernel
theorem dX3_countLabel_25 : decode cX3_countLabel 25 = .ok (.if_icmp .ne 6, 3) := by decide +kernel
theorem dX3_countLabel_28 : decode cX3_countLabel 28 = .ok (.iinc 4 1, 3) := by decide +kernel
theorem dX3_countLabel_31 : decode cX3_countLabel 31 = .ok (.iinc 5 1, 3) := by decide +kernel
theorem dX3_countLabel_34 : decode cX3_countLabel 34 = .ok (.goto (-22), 3) := by decide +kernel
theorem dX3_countLabel_37 : decode cX3_countLabel 37 = .ok (.iload 4, 2) := by decide +kernel
theorem dX3_countLabel_39 : decode cX3_countLabel 39 = .ok (.ireturn, 1) := by decide +kernel
set_option maxRecDepth 20000 in
theorem ggX3_findLabel_X3_endOf : GoodIn wsX3_findLabel wsX3_endOf := goodIn_r _ [5, 6, 7, 8, 9, 4, 10, 11, 12, 13, 14, 15, 16, 17, 18, 24, 25, 26, 27, 28] (by decide +kernel) (by decide +kernel)
set_option maxRecDepth 20000 in
theorem gX3_findLabel_X3_endOf : GoodIn wsX3_findLabel (wsV RX3 44 RX3 yX3_endOf wsX3_endOf) := goodIn_app (goodIn_of _ (by decide +kernel)) ggX3_findLabel_X3_endOf
set_option maxRecDepth 20000 in
theorem ggX3_findLabel_X3_labelOf : GoodIn wsX3_findLabel wsX3_labelOf := goodIn_r _ [22, 23, 16, 17, 18, 24, 25, 26, 27, 28] (by decide +kernel) (by decide +kernel)
set_option maxRecDepth 20000 in
theorem gX3_findLabel_X3_labelOf : GoodIn wsX3_findLabel (wsV RX3 83 RX3 yX3_labelOf wsX3_labelOf) := goodIn_app (goodIn_of _ (by decide +kernel)) ggX3_findLabel_X3_labelOf
theorem dX3_findLabel_0 : decode cX3_findLabel 0 = .ok (.aload_n 0, 1) := by decide +kernel
theorem dX3_findLabel_1 : decode cX3_findLabel 1 = .ok (.iload_n 1, 1) := by decide +kernel
theorem dX3_findLabel_2 : decode cX3_findLabel 2 = .ok (.invokevirtual 44, 3) := by decide +kernel
theorem dX3_findLabel_5 : decode cX3_findLabel 5 = .ok (.istore 4, 2) := by decide +kernel
theorem dX3_findLabel_7 : decode cX3_findLabel 7 = .ok (.iconst 0, 1) := by decide +kernel
theorem dX3_findLabel_8 : decode cX3_findLabel 8 = .ok (.istore 5, 2) := by decide +kernel
theorem dX3_findLabel_10 : decode cX3_findLabel 10 = .ok (.iload_n 1, 1) := by decide +kernel
theorem dX3_findLabel_11 : decode cX3_findLabel 11 = .ok (.istore 6, 2) := by decide +kernel
theorem dX3_findLabel_13 : decode cX3_findLabel 13 = .ok (.iload 6, 2) := by decide +kernel
theorem dX3_findLabel_15 : decode cX3_findLabel 15 = .ok (.iload 4, 2) := by decide +kernel
theorem dX3_findLabel_17 : decode cX3_findLabel 17 = .ok (.if_icmp .ge 31, 3) := by decide +kernel
theorem dX3_findLabel_20 : decode cX3_findLabel 20 = .ok (.aload_n 0, 1) := by decide +kernel
theorem dX3_findLabel_21 : decode cX3_findLabel 21 = .ok (.iload 6, 2) := by decide +kernel
theorem dX3_findLabel_23 : decode cX3_findLabel 23 = .ok (.invokevirtual 83, 3) := by decide +kernel
theorem dX3_findLabel_26 : decode cX3_findLabel 26 = .ok (.iload_n 2, 1) := by decide +kernel
theorem dX3_findLabel_27 : decode cX3_findLabel 27 = .ok (.if_icmp .ne 15, 3) := by decide +kernel
theorem dX3_findLabel_30 : decode cX3_findLabel 30 = .ok (.iload 5, 2) := by decide +kernel
theorem dX3_findLabel_32 : decode cX3_findLabel 32 = .ok (.iload_n 3, 1) := by decide +kernel
theorem dX3_findLabel_33 : decode cX3_findLabel 33 = .ok (.if_icmp .ne 6, 3) := by decide +kernel
theorem dX3_findLabel_36 : decode cX3_findLabel 36 = .ok (.iload 6, 2) := by decide +kernel
theorem dX3_findLabel_38 : decode cX3_findLabel 38 = .ok (.ireturn, 1) := by decide +kernel
theorem dX3_findLabel_39 : decode cX3_findLabel 39 = .ok (.iinc 5 1, 3) := by decide +kernel
theorem dX3_findLabel_42 : decode cX3_findLabel 42 = .ok (.iinc 6 1, 3) := by decide +kernel
theorem dX3_findLabel_45 : decode cX3_findLabel 45 = .ok (.goto (-32), 3) := by decide +kernel
theorem dX3_findLabel_48 : decode cX3_findLabel 48 = .ok (.bipush (-5), 2) := by decide +kernel
theorem dX3_findLabel_50 : decode cX3_findLabel 50 = .ok (.ireturn, 1) := by decide +kernel
set_option maxRecDepth 20000 in
theorem ggX3_findAncestor_X3_depthOf : GoodIn wsX3_findAncestor wsX3_depthOf := goodIn_r _ [5, 6, 7, 8, 9, 4, 10, 11, 12, 13, 14, 20, 21, 22, 23, 24] (by decide +kernel) (by decide +kernel)
set_option maxRecDepth 20000 in
theorem gX3_findAncestor_X3_depthOf : GoodIn wsX3_findAncestor (wsV RX3 40 RX3 yX3_depthOf wsX3_depthOf) := goodIn_app (goodIn_of _ (by decide +kernel)) ggX3_findAncestor_X3_depthOf
set_option maxRecDepth 20000 in
theorem ggX3_findAncestor_X3_labelOf : GoodIn wsX3_findAncestor wsX3_labelOf := goodIn_r _ [18, 19, 12, 13, 14, 20, 21, 22, 23, 24] (by decide +kernel) (by decide +kernel)
set_option maxRecDepth 20000 in
theorem gX3_findAncestor_X3_labelOf : GoodIn wsX3_findAncestor (wsV RX3 83 RX3 yX3_labelOf wsX3_labelOf) := goodIn_app (goodIn_of _ (by decide +kernel)) ggX3_findAncestor_X3_labelOf
theorem dX3_findAncestor_0 : decode cX3_findAncestor 0 = .ok (.aload_n 0, 1) := by decide +kernel
theorem dX3_findAncestor_1 : decode cX3_findAncestor 1 = .ok (.iload_n 1, 1) := by decide +kernel
theorem dX3_findAncestor_2 : decode cX3_findAncestor 2 = .ok (.invokevirtual 40, 3) := by decide +kernel
theorem dX3_findAncestor_5 : decode cX3_findAncestor 5 = .ok (.istore_n 3, 1) := by decide +kernel
theorem dX3_findAncestor_6 : decode cX3_findAncestor 6 = .ok (.iload_n 1, 1) := by decide +kernel
theorem dX3_findAncestor_7 : decode cX3_findAncestor 7 = .ok (.iconst 1, 1) := by decide +kernel
theorem dX3_findAncestor_8 : decode cX3_findAncestor 8 = .ok (.isub, 1) := by decide +kernel
theorem dX3_findAncestor_9 : decode cX3_findAncestor 9 = .ok (.istore 4, 2) := by decide +kernel
theorem dX3_findAncestor_11 : decode cX3_findAncestor 11 = .ok (.iload 4, 2) := by decide +kernel
theorem dX3_findAncestor_13 : decode cX3_findAncestor 13 = .ok (.ifCond .lt 39, 3) := by decide +kernel
theorem dX3_findAncestor_16 : decode cX3_findAncestor 16 = .ok (.aload_n 0, 1) := by decide +kernel
theorem dX3_findAncestor_17 : decode cX3_findAncestor 17 = .ok (.iload 4, 2) := by decide +kernel
theorem dX3_findAncestor_19 : decode cX3_findAncestor 19 = .ok (.invokevirtual 40, 3) := by decide +kernel
theorem dX3_findAncestor_22 : decode cX3_findAncestor 22 = .ok (.iload_n 3, 1) := by decide +kernel
theorem dX3_findAncestor_23 : decode cX3_findAncestor 23 = .ok (.if_icmp .ge 23, 3) := by decide +kernel
theorem dX3_findAncestor_26 : decode cX3_findAncestor 26 = .ok (.aload_n 0, 1) := by decide +kernel
theorem dX3_findAncestor_27 : decode cX3_findAncestor 27 = .ok (.iload 4, 2) := by decide +kernel
theorem dX3_findAncestor_29 : decode cX3_findAncestor 29 = .ok (.invokevirtual 83, 3) := by decide +kernel
theorem dX3_findAncestor_32 : decode cX3_findAncestor 32 = .ok (.iload_n 2, 1) := by decide +kernel
theorem dX3_findAncestor_33 : decode cX3_findAncestor 33 = .ok (.if_icmp .ne 6, 3) := by decide +kernel
theorem dX3_findAncestor_36 : decode cX3_findAncestor 36 = .ok (.iload 4, 2) := by decide +kernel
theorem dX3_findAncestor_38 : decode cX3_findAncestor 38 = .ok (.ireturn, 1) := by decide +kernel
theorem dX3_findAncestor_39 : decode cX3_findAncestor 39 = .ok (.aload_n 0, 1) := by decide +kernel
theorem dX3_findAncestor_40 : decode cX3_findAncestor 40 = .ok (.iload 4, 2) := by decide +kernel
theorem dX3_findAncestor_42 : decode cX3_findAncestor 42 = .ok (.invokevirtual 40, 3) := by decide +kernel
theorem dX3_findAncestor_45 : decode cX3_findAncestor 45 = .ok (.istore_n 3, 1) := by decide +kernel
theorem dX3_findAncestor_46 : decode cX3_findAncestor 46 = .ok (.iinc 4 (-1), 3) := by decide +kernel
theorem dX3_findAncestor_49 : decode cX3_findAncestor 49 = .ok (.goto (-38), 3) := by decide +kernel
theorem dX3_findAncestor_52 : decode cX3_findAncestor 52 = .ok (.bipush (-5), 2) := by decide +kernel
theorem dX3_findAncestor_54 : decode cX3_findAncestor 54 = .ok (.ireturn, 1) := by decide +kernel
set_option maxRecDepth 20000 in
theorem ggX3_sameSubtrees_X3_sizeOf : GoodIn wsX3_sameSubtrees wsX3_sizeOf := goodIn_r _ [5, 6, 7, 8, 4, 9, 10, 11, 12, 13, 14, 15, 16, 17, 18, 19, 20, 21, 22, 28, 29, 30, 31, 32] (by decide +kernel) (by decide +kernel)
set_option maxRecDepth 20000 in
theorem gX3_sameSubtrees_X3_sizeOf : GoodIn wsX3_sameSubtrees (wsV RX3 71 RX3 yX3_sizeOf wsX3_sizeOf) := goodIn_app (goodIn_of _ (by decide +kernel)) ggX3_sameSubtrees_X3_sizeOf
set_option maxRecDepth 20000 in
theorem ggX3_sameSubtrees_X3_depthOf : GoodIn wsX3_sameSubtrees wsX3_depthOf := goodIn_r _ [14, 15, 16, 17, 18, 4, 19, 10, 20, 21, 22, 28, 29, 30, 31, 32] (by decide +kernel) (by decide +kernel)
set_option maxRecDepth 20000 in
theorem gX3_sameSubtrees_X3_depthOf : GoodIn wsX3_sameSubtrees (wsV RX3 40 RX3 yX3_depthOf wsX3_depthOf) := goodIn_app (goodIn_of _ (by decide +kernel)) ggX3_sameSubtrees_X3_depthOf
set_option maxRecDepth 20000 in
theorem ggX3_sameSubtrees_X3_labelOf : GoodIn wsX3_sameSubtrees wsX3_labelOf := goodIn_r _ [26, 27, 20, 21, 22, 28, 29, 30, 31, 32] (by decide +kernel) (by decide +kernel)
set_option maxRecDepth 20000 in
theorem gX3_sameSubtrees_X3_labelOf : GoodIn wsX3_sameSubtrees (wsV RX3 83 RX3 yX3_labelOf wsX3_labelOf) := goodIn_app (goodIn_of _ (by decide +kernel)) ggX3_sameSubtrees_X3_labelOf
theorem dX3_sameSubtrees_0 : decode cX3_sameSubtrees 0 = .ok (.aload_n 0, 1) := by decide +kernel
theorem dX3_sameSubtrees_1 : decode cX3_sameSubtrees 1 = .ok (.iload_n 1, 1) := by decide +kernel
theorem dX3_sameSubtrees_2 : decode cX3_sameSubtrees 2 = .ok (.invokevirtual 71, 3) := by decide +kernel
theorem dX3_sameSubtrees_5 : decode cX3_sameSubtrees 5 = .ok (.istore_n 3, 1) := by decide +kernel
theorem dX3_sameSubtrees_6 : decode cX3_sameSubtrees 6 = .ok (.aload_n 0, 1) := by decide +kernel
theorem dX3_sameSubtrees_7 : decode cX3_sameSubtrees 7 = .ok (.iload_n 2, 1) := by decide +kernel
theorem dX3_sameSubtrees_8 : decode cX3_sameSubtrees 8 = .ok (.invokevirtual 71, 3) := by decide +kernel
theorem dX3_sameSubtrees_11 : decode cX3_sameSubtrees 11 = .ok (.iload_n 3, 1) := by decide +kernel
theorem dX3_sameSubtrees_12 : decode cX3_sameSubtrees 12 = .ok (.if_icmp .eq 5, 3) := by decide +kernel
theorem dX3_sameSubtrees_15 : decode cX3_sameSubtrees 15 = .ok (.iconst 0, 1) := by decide +kernel
theorem dX3_sameSubtrees_16 : decode cX3_sameSubtrees 16 = .ok (.ireturn, 1) := by decide +kernel
theorem dX3_sameSubtrees_17 : decode cX3_sameSubtrees 17 = .ok (.aload_n 0, 1) := by decide +kernel
theorem dX3_sameSubtrees_18 : decode cX3_sameSubtrees 18 = .ok (.iload_n 2, 1) := by decide +kernel
theorem dX3_sameSubtrees_19 : decode cX3_sameSubtrees 19 = .ok (.invokevirtual 40, 3) := by decide +kernel
theorem dX3_sameSubtrees_22 : decode cX3_sameSubtrees 22 = .ok (.aload_n 0, 1) := by decide +kernel
theorem dX3_sameSubtrees_23 : decode cX3_sameSubtrees 23 = .ok (.iload_n 1, 1) := by decide +kernel
theorem dX3_sameSubtrees_24 : decode cX3_sameSubtrees 24 = .ok (.invokevirtual 40, 3) := by decide +kernel
theorem dX3_sameSubtrees_27 : decode cX3_sameSubtrees 27 = .ok (.isub, 1) := by decide +kernel
theorem dX3_sameSubtrees_28 : decode cX3_sameSubtrees 28 = .ok (.istore 4, 2) := by decide +kernel
theorem dX3_sameSubtrees_30 : decode cX3_sameSubtrees 30 = .ok (.iconst 0, 1) := by decide +kernel
theorem dX3_sameSubtrees_31 : decode cX3_sameSubtrees 31 = .ok (.istore 5, 2) := by decide +kernel
theorem dX3_sameSubtrees_33 : decode cX3_sameSubtrees 33 = .ok (.iload 5, 2) := by decide +kernel
theorem dX3_sameSubtrees_35 : decode cX3_sameSubtrees 35 = .ok (.iload_n 3, 1) := by decide +kernel
theorem dX3_sameSubtrees_36 : decode cX3_sameSubtrees 36 = .ok (.if_icmp .ge 52, 3) := by decide +kernel
theorem dX3_sameSubtrees_39 : decode cX3_sameSubtrees 39 = .ok (.aload_n 0, 1) := by decide +kernel
theorem dX3_sameSubtrees_40 : decode cX3_sameSubtrees 40 = .ok (.iload_n 1, 1) := by decide +kernel
theorem dX3_sameSubtrees_41 : decode cX3_sameSubtrees 41 = .ok (.iload 5, 2) := by decide +kernel
theorem dX3_sameSubtrees_43 : decode cX3_sameSubtrees 43 = .ok (.iadd, 1) := by decide +kernel
theorem dX3_sameSubtrees_44 : decode cX3_sameSubtrees 44 = .ok (.invokevirtual 83, 3) := by decide +kernel
theorem dX3_sameSubtrees_47 : decode cX3_sameSubtrees 47 = .ok (.aload_n 0, 1) := by decide +kernel
theorem dX3_sameSubtrees_48 : decode cX3_sameSubtrees 48 = .ok (.iload_n 2, 1) := by decide +kernel
theorem dX3_sameSubtrees_49 : decode cX3_sameSubtrees 49 = .ok (.iload 5, 2) := by decide +kernel
theorem dX3_sameSubtrees_51 : decode cX3_sameSubtrees 51 = .ok (.iadd, 1) := by decide +kernel
theorem dX3_sameSubtrees_52 : decode cX3_sameSubtrees 52 = .ok (.invokevirtual 83, 3) := by decide +kernel
theorem dX3_sameSubtrees_55 : decode cX3_sameSubtrees 55 = .ok (.if_icmp .ne 25, 3) := by decide +kernel
theorem dX3_sameSubtrees_58 : decode cX3_sameSubtrees 58 = .ok (.aload_n 0, 1) := by decide +kernel
theorem dX3_sameSubtrees_59 : decode cX3_sameSubtrees 59 = .ok (.iload_n 1, 1) := by decide +kernel
theorem dX3_sameSubtrees_60 : decode cX3_sameSubtrees 60 = .ok (.iload 5, 2) := by decide +kernel
theorem dX3_sameSubtrees_62 : decode cX3_sameSubtrees 62 = .ok (.iadd, 1) := by decide +kernel
theorem dX3_sameSubtrees_63 : decode cX3_sameSubtrees 63 = .ok (.invokevirtual 40, 3) := by decide +kernel
theorem dX3_sameSubtrees_66 : decode cX3_sameSubtrees 66 = .ok (.iload 4, 2) := by decide +kernel
theorem dX3_sameSubtrees_68 : decode cX3_sameSubtrees 68 = .ok (.iadd, 1) := by decide +kernel
theorem dX3_sameSubtrees_69 : decode cX3_sameSubtrees 69 = .ok (.aload_n 0, 1) := by decide +kernel
theorem dX3_sameSubtrees_70 : decode cX3_sameSubtrees 70 = .ok (.iload_n 2, 1) := by decide +kernel
theorem dX3_sameSubtrees_71 : decode cX3_sameSubtrees 71 = .ok (.iload 5, 2) := by decide +kernel
theorem dX3_sameSubtrees_73 : decode cX3_sameSubtrees 73 = .ok (.iadd, 1) := by decide +kernel
theorem dX3_sameSubtrees_74 : decode cX3_sameSubtrees 74 = .ok (.invokevirtual 40, 3) := by decide +kernel
theorem dX3_sameSubtrees_77 : decode cX3_sameSubtrees 77 = .ok (.if_icmp .eq 5, 3) := by decide +kernel
theorem dX3_sameSubtrees_80 : decode cX3_sameSubtrees 80 = .ok (.iconst 0, 1) := by decide +kernel
theorem dX3_sameSubtrees_81 : decode cX3_sameSubtrees 81 = .ok (.ireturn, 1) := by decide +kernel
theorem dX3_sameSubtrees_82 : decode cX3_sameSubtrees 82 = .ok (.iinc 5 1, 3) := by decide +kernel
theorem dX3_sameSubtrees_85 : decode cX3_sameSubtrees 85 = .ok (.goto (-52), 3) := by decide +kernel
theorem dX3_sameSubtrees_88 : decode cX3_sameSubtrees 88 = .ok (.iconst 1, 1) := by decide +kernel
theorem dX3_sameSubtrees_89 : decode cX3_sameSubtrees 89 = .ok (.ireturn, 1) := by decide +kernel
set_option maxRecDepth 20000 in
theorem ggX3_countEqual_X3_sameSubtrees : GoodIn wsX3_countEqual wsX3_sameSubtrees := goodIn_r _ [6, 7, 8, 9, 5, 10, 11, 12, 13, 14, 1, 15, 16, 17, 18, 19, 20, 21, 22, 23, 24, 25, 26, 27, 28, 29, 30, 31, 32, 33, 34, 35, 36] (by decide +kernel) (by decide +kernel)
set_option maxRecDepth 20000 in
theorem gX3_countEqual_X3_sameSubtrees : GoodIn wsX3_countEqual (wsV RX3 86 RX3 yX3_sameSubtrees wsX3_sameSubtrees) := goodIn_app (goodIn_of _ (by decide +kernel)) ggX3_countEqual_X3_sameSubtrees
theorem dX3_countEqual_0 : decode cX3_countEqual 0 = .ok (.iconst 0, 1) := by decide +kernel
theorem dX3_countEqual_1 : decode cX3_countEqual 1 = .ok (.istore_n 2, 1) := by decide +kernel
theorem dX3_countEqual_2 : decode cX3_countEqual 2 = .ok (.iconst 0, 1) := by decide +kernel
theorem dX3_countEqual_3 : decode cX3_countEqual 3 = .ok (.istore_n 3, 1) := by decide +kernel
theorem dX3_countEqual_4 : decode cX3_countEqual 4 = .ok (.iload_n 3, 1) := by decide +kernel
theorem dX3_countEqual_5 : decode cX3_countEqual 5 = .ok (.aload_n 0, 1) := by decide +kernel
theorem dX3_countEqual_6 : decode cX3_countEqual 6 = .ok (.getfield 28, 3) := by decide +kernel
theorem dX3_countEqual_9 : decode cX3_countEqual 9 = .ok (.if_icmp .ge 21, 3) := by decide +kernel
theorem dX3_countEqual_12 : decode cX3_countEqual 12 = .ok (.aload_n 0, 1) := by decide +kernel
theorem dX3_countEqual_13 : decode cX3_countEqual 13 = .ok (.iload_n 1, 1) := by decide +kernel
theorem dX3_countEqual_14 : decode cX3_countEqual 14 = .ok (.iload_n 3, 1) := by decide +kernel
theorem dX3_countEqual_15 : decode cX3_countEqual 15 = .ok (.invokevirtual 86, 3) := by decide +kernel
theorem dX3_countEqual_18 : decode cX3_countEqual 18 = .ok (.ifCond .eq 6, 3) := by decide +kernel
theorem dX3_countEqual_21 : decode cX3_countEqual 21 = .ok (.iinc 2 1, 3) := by decide +kernel
theorem dX3_countEqual_24 : decode cX3_countEqual 24 = .ok (.iinc 3 1, 3) := by decide +kernel
theorem dX3_countEqual_27 : decode cX3_countEqual 27 = .ok (.goto (-23), 3) := by decide +kernel
theorem dX3_countEqual_30 : decode cX3_countEqual 30 = .ok (.iload_n 2, 1) := by decide +kernel
theorem dX3_countEqual_31 : decode cX3_countEqual 31 = .ok (.ireturn, 1) := by decide +kernel
set_option maxRecDepth 20000 in
theorem ggX3_signsBehind_X3_isLeaf : GoodIn wsX3_signsBehind wsX3_isLeaf := goodIn_r _ [5, 6, 7, 8, 4, 9, 10, 11, 12, 13, 14, 15, 16, 17, 18, 19, 20, 21, 22, 23] (by decide +kernel) (by decide +kernel)
set_option maxRecDepth 20000 in
theorem gX3_signsBehind_X3_isLeaf : GoodIn wsX3_signsBehind (wsV RX3 51 RX3 yX3_isLeaf wsX3_isLeaf) := goodIn_app (goodIn_of _ (by decide +kernel)) ggX3_signsBehind_X3_isLeaf
set_option maxRecDepth 20000 in
theorem ggX3_signsBehind_X3_depthOf : GoodIn wsX3_signsBehind wsX3_depthOf := goodIn_r _ [9, 10, 11, 12, 13, 4, 14, 15, 16, 17, 18, 19, 20, 21, 22, 23] (by decide +kernel) (by decide +kernel)
set_option maxRecDepth 20000 in
theorem gX3_signsBehind_X3_depthOf : GoodIn wsX3_signsBehind (wsV RX3 40 RX3 yX3_depthOf wsX3_depthOf) := goodIn_app (goodIn_of _ (by decide +kernel)) ggX3_signsBehind_X3_depthOf
theorem dX3_signsBehind_0 : decode cX3_signsBehind 0 = .ok (.aload_n 0, 1) := by decide +kernel
theorem dX3_signsBehind_1 : decode cX3_signsBehind 1 = .ok (.iload_n 1, 1) := by decide +kernel
theorem dX3_signsBehind_2 : decode cX3_signsBehind 2 = .ok (.invokevirtual 51, 3) := by decide +kernel
theorem dX3_signsBehind_5 : decode cX3_signsBehind 5 = .ok (.ifCond .eq 19, 3) := by decide +kernel
theorem dX3_signsBehind_8 : decode cX3_signsBehind 8 = .ok (.aload_n 0, 1) := by decide +kernel
theorem dX3_signsBehind_9 : decode cX3_signsBehind 9 = .ok (.iload_n 1, 1) := by decide +kernel
theorem dX3_signsBehind_10 : decode cX3_signsBehind 10 = .ok (.invokevirtual 40, 3) := by decide +kernel
theorem dX3_signsBehind_13 : decode cX3_signsBehind 13 = .ok (.aload_n 0, 1) := by decide +kernel
theorem dX3_signsBehind_14 : decode cX3_signsBehind 14 = .ok (.iload_n 1, 1) := by decide +kernel
theorem dX3_signsBehind_15 : decode cX3_signsBehind 15 = .ok (.iconst 1, 1) := by decide +kernel
theorem dX3_signsBehind_16 : decode cX3_signsBehind 16 = .ok (.iadd, 1) := by decide +kernel
theorem dX3_signsBehind_17 : decode cX3_signsBehind 17 = .ok (.invokevirtual 40, 3) := by decide +kernel
theorem dX3_signsBehind_20 : decode cX3_signsBehind 20 = .ok (.isub, 1) := by decide +kernel
theorem dX3_signsBehind_21 : decode cX3_signsBehind 21 = .ok (.goto 4, 3) := by decide +kernel
theorem dX3_signsBehind_24 : decode cX3_signsBehind 24 = .ok (.iconst 1, 1) := by decide +kernel
theorem dX3_signsBehind_25 : decode cX3_signsBehind 25 = .ok (.ireturn, 1) := by decide +kernel
set_option maxRecDepth 20000 in
theorem ggX3_writtenLength_X3_signsBehind : GoodIn wsX3_writtenLength wsX3_signsBehind := goodIn_r _ [6, 7, 8, 9, 5, 10, 11, 12, 13, 14, 15, 16, 17, 18, 19, 1, 20, 21, 22, 23, 24, 25, 26, 27] (by decide +kernel) (by decide +kernel)
set_option maxRecDepth 20000 in
theorem gX3_writtenLength_X3_signsBehind : GoodIn wsX3_writtenLength (wsV RX3 90 RX3 yX3_signsBehind wsX3_signsBehind) := goodIn_app (goodIn_of _ (by decide +kernel)) ggX3_writtenLength_X3_signsBehind
theorem dX3_writtenLength_0 : decode cX3_writtenLength 0 = .ok (.iconst 0, 1) := by decide +kernel
theorem dX3_writtenLength_1 : decode cX3_writtenLength 1 = .ok (.istore_n 1, 1) := by decide +kernel
theorem dX3_writtenLength_2 : decode cX3_writtenLength 2 = .ok (.iconst 0, 1) := by decide +kernel
theorem dX3_writtenLength_3 : decode cX3_writtenLength 3 = .ok (.istore_n 2, 1) := by decide +kernel
theorem dX3_writtenLength_4 : decode cX3_writtenLength 4 = .ok (.iload_n 2, 1) := by decide +kernel
theorem dX3_writtenLength_5 : decode cX3_writtenLength 5 = .ok (.aload_n 0, 1) := by decide +kernel
theorem dX3_writtenLength_6 : decode cX3_writtenLength 6 = .ok (.getfield 28, 3) := by decide +kernel
theorem dX3_writtenLength_9 : decode cX3_writtenLength 9 = .ok (.if_icmp .ge 19, 3) := by decide +kernel
theorem dX3_writtenLength_12 : decode cX3_writtenLength 12 = .ok (.iload_n 1, 1) := by decide +kernel
theorem dX3_writtenLength_13 : decode cX3_writtenLength 13 = .ok (.iconst 1, 1) := by decide +kernel
theorem dX3_writtenLength_14 : decode cX3_writtenLength 14 = .ok (.aload_n 0, 1) := by decide +kernel
theorem dX3_writtenLength_15 : decode cX3_writtenLength 15 = .ok (.iload_n 2, 1) := by decide +kernel
theorem dX3_writtenLength_16 : decode cX3_writtenLength 16 = .ok (.invokevirtual 90, 3) := by decide +kernel
theorem dX3_writtenLength_19 : decode cX3_writtenLength 19 = .ok (.iadd, 1) := by decide +kernel
theorem dX3_writtenLength_20 : decode cX3_writtenLength 20 = .ok (.iadd, 1) := by decide +kernel
theorem dX3_writtenLength_21 : decode cX3_writtenLength 21 = .ok (.istore_n 1, 1) := by decide +kernel
theorem dX3_writtenLength_22 : decode cX3_writtenLength 22 = .ok (.iinc 2 1, 3) := by decide +kernel
theorem dX3_writtenLength_25 : decode cX3_writtenLength 25 = .ok (.goto (-21), 3) := by decide +kernel
theorem dX3_writtenLength_28 : decode cX3_writtenLength 28 = .ok (.iload_n 1, 1) := by decide +kernel
theorem dX3_writtenLength_29 : decode cX3_writtenLength 29 = .ok (.ireturn, 1) := by decide +kernel
set_option maxRecDepth 20000 in
theorem ggX3_writtenAt_X3_signsBehind : GoodIn wsX3_writtenAt wsX3_signsBehind := goodIn_r _ [6, 7, 8, 9, 5, 10, 11, 12, 13, 14, 15, 16, 17, 18, 19, 1, 20, 21, 22, 28, 29, 30, 31, 32] (by decide +kernel) (by decide +kernel)
set_option maxRecDepth 20000 in
theorem gX3_writtenAt_X3_signsBehind : GoodIn wsX3_writtenAt (wsV RX3 90 RX3 yX3_signsBehind wsX3_signsBehind) := goodIn_app (goodIn_of _ (by decide +kernel)) ggX3_writtenAt_X3_signsBehind
set_option maxRecDepth 20000 in
theorem ggX3_writtenAt_X3_labelOf : GoodIn wsX3_writtenAt wsX3_labelOf := goodIn_r _ [26, 27, 20, 21, 22, 28, 29, 30, 31, 32] (by decide +kernel) (by decide +kernel)
set_option maxRecDepth 20000 in
theorem gX3_writtenAt_X3_labelOf : GoodIn wsX3_writtenAt (wsV RX3 83 RX3 yX3_labelOf wsX3_labelOf) := goodIn_app (goodIn_of _ (by decide +kernel)) ggX3_writtenAt_X3_labelOf
set_option maxRecDepth 20000 in
theorem ggX3_writtenAt_X3_isLeaf : GoodIn wsX3_writtenAt wsX3_isLeaf := goodIn_r _ [10, 11, 12, 13, 5, 14, 15, 16, 17, 18, 19, 1, 20, 21, 22, 28, 29, 30, 31, 32] (by decide +kernel) (by decide +kernel)
set_option maxRecDepth 20000 in
theorem gX3_writtenAt_X3_isLeaf : GoodIn wsX3_writtenAt (wsV RX3 51 RX3 yX3_isLeaf wsX3_isLeaf) := goodIn_app (goodIn_of _ (by decide +kernel)) ggX3_writtenAt_X3_isLeaf
theorem dX3_writtenAt_0 : decode cX3_writtenAt 0 = .ok (.iconst 0, 1) := by decide +kernel
theorem dX3_writtenAt_1 : decode cX3_writtenAt 1 = .ok (.istore_n 2, 1) := by decide +kernel
theorem dX3_writtenAt_2 : decode cX3_writtenAt 2 = .ok (.iconst 0, 1) := by decide +kernel
theorem dX3_writtenAt_3 : decode cX3_writtenAt 3 = .ok (.istore_n 3, 1) := by decide +kernel
theorem dX3_writtenAt_4 : decode cX3_writtenAt 4 = .ok (.iload_n 3, 1) := by decide +kernel
theorem dX3_writtenAt_5 : decode cX3_writtenAt 5 = .ok (.aload_n 0, 1) := by decide +kernel
theorem dX3_writtenAt_6 : decode cX3_writtenAt 6 = .ok (.getfield 28, 3) := by decide +kernel
theorem dX3_writtenAt_9 : decode cX3_writtenAt 9 = .ok (.if_icmp .ge 56, 3) := by decide +kernel
theorem dX3_writtenAt_12 : decode cX3_writtenAt 12 = .ok (.iload_n 2, 1) := by decide +kernel
theorem dX3_writtenAt_13 : decode cX3_writtenAt 13 = .ok (.iconst 1, 1) := by decide +kernel
theorem dX3_writtenAt_14 : decode cX3_writtenAt 14 = .ok (.iadd, 1) := by decide +kernel
theorem dX3_writtenAt_15 : decode cX3_writtenAt 15 = .ok (.aload_n 0, 1) := by decide +kernel
theorem dX3_writtenAt_16 : decode cX3_writtenAt 16 = .ok (.iload_n 3, 1) := by decide +kernel
theorem dX3_writtenAt_17 : decode cX3_writtenAt 17 = .ok (.invokevirtual 90, 3) := by decide +kernel
theorem dX3_writtenAt_20 : decode cX3_writtenAt 20 = .ok (.iadd, 1) := by decide +kernel
theorem dX3_writtenAt_21 : decode cX3_writtenAt 21 = .ok (.istore 4, 2) := by decide +kernel
theorem dX3_writtenAt_23 : decode cX3_writtenAt 23 = .ok (.iload_n 1, 1) := by decide +kernel
theorem dX3_writtenAt_24 : decode cX3_writtenAt 24 = .ok (.iload_n 2, 1) := by decide +kernel
theorem dX3_writtenAt_25 : decode cX3_writtenAt 25 = .ok (.if_icmp .ne 9, 3) := by decide +kernel
theorem dX3_writtenAt_28 : decode cX3_writtenAt 28 = .ok (.aload_n 0, 1) := by decide +kernel
theorem dX3_writtenAt_29 : decode cX3_writtenAt 29 = .ok (.iload_n 3, 1) := by decide +kernel
theorem dX3_writtenAt_30 : decode cX3_writtenAt 30 = .ok (.invokevirtual 83, 3) := by decide +kernel
theorem dX3_writtenAt_33 : decode cX3_writtenAt 33 = .ok (.ireturn, 1) := by decide +kernel
theorem dX3_writtenAt_34 : decode cX3_writtenAt 34 = .ok (.iload_n 1, 1) := by decide +kernel
theorem dX3_writtenAt_35 : decode cX3_writtenAt 35 = .ok (.iload 4, 2) := by decide +kernel
theorem dX3_writtenAt_37 : decode cX3_writtenAt 37 = .ok (.if_icmp .ge 19, 3) := by decide +kernel
theorem dX3_writtenAt_40 : decode cX3_writtenAt 40 = .ok (.aload_n 0, 1) := by decide +kernel
theorem dX3_writtenAt_41 : decode cX3_writtenAt 41 = .ok (.iload_n 3, 1) := by decide +kernel
theorem dX3_writtenAt_42 : decode cX3_writtenAt 42 = .ok (.invokevirtual 51, 3) := by decide +kernel
theorem dX3_writtenAt_45 : decode cX3_writtenAt 45 = .ok (.ifCond .eq 8, 3) := by decide +kernel
theorem dX3_writtenAt_48 : decode cX3_writtenAt 48 = .ok (.bipush 41, 2) := by decide +kernel
theorem dX3_writtenAt_50 : decode cX3_writtenAt 50 = .ok (.goto 5, 3) := by decide +kernel
theorem dX3_writtenAt_53 : decode cX3_writtenAt 53 = .ok (.bipush 40, 2) := by decide +kernel
theorem dX3_writtenAt_55 : decode cX3_writtenAt 55 = .ok (.ireturn, 1) := by decide +kernel
theorem dX3_writtenAt_56 : decode cX3_writtenAt 56 = .ok (.iload 4, 2) := by decide +kernel
theorem dX3_writtenAt_58 : decode cX3_writtenAt 58 = .ok (.istore_n 2, 1) := by decide +kernel
theorem dX3_writtenAt_59 : decode cX3_writtenAt 59 = .ok (.iinc 3 1, 3) := by decide +kernel
theorem dX3_writtenAt_62 : decode cX3_writtenAt 62 = .ok (.goto (-58), 3) := by decide +kernel
theorem dX3_writtenAt_65 : decode cX3_writtenAt 65 = .ok (.bipush (-5), 2) := by decide +kernel
theorem dX3_writtenAt_67 : decode cX3_writtenAt 67 = .ok (.ireturn, 1) := by decide +kernel
theorem dX3_empty_0 : decode cX3_empty 0 = .ok (.aload_n 0, 1) := by decide +kernel
theorem dX3_empty_1 : decode cX3_empty 1 = .ok (.iconst 0, 1) := by decide +kernel
theorem dX3_empty_2 : decode cX3_empty 2 = .ok (.putfield 28, 3) := by decide +kernel
theorem dX3_empty_5 : decode cX3_empty 5 = .ok (.return_, 1) := by decide +kernel
set_option maxRecDepth 20000 in
theorem ggX3_append_X3_putNode : GoodIn wsX3_append wsX3_putNode := goodIn_r _ [6, 7, 8, 9, 10, 11, 12, 13, 14, 15, 16] (by decide +kernel) (by decide +kernel)
set_option maxRecDepth 20000 in
theorem gX3_append_X3_putNode : GoodIn wsX3_append (wsV RX3 93 RX3 yX3_putNode wsX3_putNode) := goodIn_app (goodIn_of _ (by decide +kernel)) ggX3_append_X3_putNode
theorem dX3_append_0 : decode cX3_append 0 = .ok (.aload_n 0, 1) := by decide +kernel
theorem dX3_append_1 : decode cX3_append 1 = .ok (.getfield 28, 3) := by decide +kernel
theorem dX3_append_4 : decode cX3_append 4 = .ok (.bipush 100, 2) := by decide +kernel
theorem dX3_append_6 : decode cX3_append 6 = .ok (.if_icmp .ge 23, 3) := by decide +kernel
theorem dX3_append_9 : decode cX3_append 9 = .ok (.aload_n 0, 1) := by decide +kernel
theorem dX3_append_10 : decode cX3_append 10 = .ok (.aload_n 0, 1) := by decide +kernel
theorem dX3_append_11 : decode cX3_append 11 = .ok (.getfield 28, 3) := by decide +kernel
theorem dX3_append_14 : decode cX3_append 14 = .ok (.iload_n 1, 1) := by decide +kernel
theorem dX3_append_15 : decode cX3_append 15 = .ok (.iload_n 2, 1) := by decide +kernel
theorem dX3_append_16 : decode cX3_append 16 = .ok (.invokevirtual 93, 3) := by decide +kernel
theorem dX3_append_19 : decode cX3_append 19 = .ok (.aload_n 0, 1) := by decide +kernel
theorem dX3_append_20 : decode cX3_append 20 = .ok (.dup, 1) := by decide +kernel
theorem dX3_append_21 : decode cX3_append 21 = .ok (.getfield 28, 3) := by decide +kernel
theorem dX3_append_24 : decode cX3_append 24 = .ok (.iconst 1, 1) := by decide +kernel
theorem dX3_append_25 : decode cX3_append 25 = .ok (.iadd, 1) := by decide +kernel
theorem dX3_append_26 : decode cX3_append 26 = .ok (.putfield 28, 3) := by decide +kernel
theorem dX3_append_29 : decode cX3_append 29 = .ok (.return_, 1) := by decide +kernel
set_option maxRecDepth 20000 in
theorem ggX3_putNode_X4_put : GoodIn wsX3_putNode wsX4_put := goodIn_r _ [5] (by decide +kernel) (by decide +kernel)
set_option maxRecDepth 20000 in
theorem gX3_putNode_X4_put_n24 : GoodIn wsX3_putNode (wsX4_put) := ggX3_putNode_X4_put
theorem dX3_putNode_0 : decode cX3_putNode 0 = .ok (.aload_n 0, 1) := by decide +kernel
theorem dX3_putNode_1 : decode cX3_putNode 1 = .ok (.getfield 9, 3) := by decide +kernel
theorem dX3_putNode_4 : decode cX3_putNode 4 = .ok (.iload_n 1, 1) := by decide +kernel
theorem dX3_putNode_5 : decode cX3_putNode 5 = .ok (.iload_n 2, 1) := by decide +kernel
theorem dX3_putNode_6 : decode cX3_putNode 6 = .ok (.invokestatic 24, 3) := by decide +kernel
theorem dX3_putNode_9 : decode cX3_putNode 9 = .ok (.aload_n 0, 1) := by decide +kernel
theorem dX3_putNode_10 : decode cX3_putNode 10 = .ok (.getfield 15, 3) := by decide +kernel
theorem dX3_putNode_13 : decode cX3_putNode 13 = .ok (.iload_n 1, 1) := by decide +kernel
theorem dX3_putNode_14 : decode cX3_putNode 14 = .ok (.iload_n 3, 1) := by decide +kernel
theorem dX3_putNode_15 : decode cX3_putNode 15 = .ok (.invokestatic 24, 3) := by decide +kernel
theorem dX3_putNode_18 : decode cX3_putNode 18 = .ok (.return_, 1) := by decide +kernel
set_option maxRecDepth 20000 in
theorem ggX3_openGap_X3_depthOf : GoodIn wsX3_openGap wsX3_depthOf := goodIn_r _ [10, 11, 12, 13, 14, 9, 15, 1, 16, 17, 18, 30, 31, 32, 33, 34] (by decide +kernel) (by decide +kernel)
set_option maxRecDepth 20000 in
theorem gX3_openGap_X3_depthOf : GoodIn wsX3_openGap (wsV RX3 40 RX3 yX3_depthOf wsX3_depthOf) := goodIn_app (goodIn_of _ (by decide +kernel)) ggX3_openGap_X3_depthOf
set_option maxRecDepth 20000 in
theorem ggX3_openGap_X3_labelOf : GoodIn wsX3_openGap wsX3_labelOf := goodIn_r _ [22, 23, 16, 17, 18, 30, 31, 32, 33, 34] (by decide +kernel) (by decide +kernel)
set_option maxRecDepth 20000 in
theorem gX3_openGap_X3_labelOf : GoodIn wsX3_openGap (wsV RX3 83 RX3 yX3_labelOf wsX3_labelOf) := goodIn_app (goodIn_of _ (by decide +kernel)) ggX3_openGap_X3_labelOf
set_option maxRecDepth 20000 in
theorem ggX3_openGap_X3_putNode : GoodIn wsX3_openGap wsX3_putNode := goodIn_r _ [27, 11, 23, 28, 17, 29, 30, 31, 32, 33, 34] (by decide +kernel) (by decide +kernel)
set_option maxRecDepth 20000 in
theorem gX3_openGap_X3_putNode : GoodIn wsX3_openGap (wsV RX3 93 RX3 yX3_putNode wsX3_putNode) := goodIn_app (goodIn_of _ (by decide +kernel)) ggX3_openGap_X3_putNode
theorem dX3_openGap_0 : decode cX3_openGap 0 = .ok (.aload_n 0, 1) := by decide +kernel
theorem dX3_openGap_1 : decode cX3_openGap 1 = .ok (.getfield 28, 3) := by decide +kernel
theorem dX3_openGap_4 : decode cX3_openGap 4 = .ok (.iconst 1, 1) := by decide +kernel
theorem dX3_openGap_5 : decode cX3_openGap 5 = .ok (.isub, 1) := by decide +kernel
theorem dX3_openGap_6 : decode cX3_openGap 6 = .ok (.istore_n 3, 1) := by decide +kernel
theorem dX3_openGap_7 : decode cX3_openGap 7 = .ok (.iload_n 3, 1) := by decide +kernel
theorem dX3_openGap_8 : decode cX3_openGap 8 = .ok (.iload_n 1, 1) := by decide +kernel
theorem dX3_openGap_9 : decode cX3_openGap 9 = .ok (.if_icmp .lt 26, 3) := by decide +kernel
theorem dX3_openGap_12 : decode cX3_openGap 12 = .ok (.aload_n 0, 1) := by decide +kernel
theorem dX3_openGap_13 : decode cX3_openGap 13 = .ok (.iload_n 3, 1) := by decide +kernel
theorem dX3_openGap_14 : decode cX3_openGap 14 = .ok (.iload_n 2, 1) := by decide +kernel
theorem dX3_openGap_15 : decode cX3_openGap 15 = .ok (.iadd, 1) := by decide +kernel
theorem dX3_openGap_16 : decode cX3_openGap 16 = .ok (.aload_n 0, 1) := by decide +kernel
theorem dX3_openGap_17 : decode cX3_openGap 17 = .ok (.iload_n 3, 1) := by decide +kernel
theorem dX3_openGap_18 : decode cX3_openGap 18 = .ok (.invokevirtual 40, 3) := by decide +kernel
theorem dX3_openGap_21 : decode cX3_openGap 21 = .ok (.aload_n 0, 1) := by decide +kernel
theorem dX3_openGap_22 : decode cX3_openGap 22 = .ok (.iload_n 3, 1) := by decide +kernel
theorem dX3_openGap_23 : decode cX3_openGap 23 = .ok (.invokevirtual 83, 3) := by decide +kernel
theorem dX3_openGap_26 : decode cX3_openGap 26 = .ok (.invokevirtual 93, 3) := by decide +kernel
theorem dX3_openGap_29 : decode cX3_openGap 29 = .ok (.iinc 3 (-1), 3) := by decide +kernel
theorem dX3_openGap_32 : decode cX3_openGap 32 = .ok (.goto (-25), 3) := by decide +kernel
theorem dX3_openGap_35 : decode cX3_openGap 35 = .ok (.aload_n 0, 1) := by decide +kernel
theorem dX3_openGap_36 : decode cX3_openGap 36 = .ok (.aload_n 0, 1) := by decide +kernel
theorem dX3_openGap_37 : decode cX3_openGap 37 = .ok (.getfield 28, 3) := by decide +kernel
theorem dX3_openGap_40 : decode cX3_openGap 40 = .ok (.iload_n 2, 1) := by decide +kernel
theorem dX3_openGap_41 : decode cX3_openGap 41 = .ok (.iadd, 1) := by decide +kernel
theorem dX3_openGap_42 : decode cX3_openGap 42 = .ok (.bipush 100, 2) := by decide +kernel
theorem dX3_openGap_44 : decode cX3_openGap 44 = .ok (.invokestatic 57, 3) := by decide +kernel
theorem dX3_openGap_47 : decode cX3_openGap 47 = .ok (.putfield 28, 3) := by decide +kernel
theorem dX3_openGap_50 : decode cX3_openGap 50 = .ok (.return_, 1) := by decide +kernel
set_option maxRecDepth 20000 in
theorem ggX3_closeGap_X3_depthOf : GoodIn wsX3_closeGap wsX3_depthOf := goodIn_r _ [10, 11, 12, 13, 14, 9, 15, 1, 16, 17, 18, 30, 31, 32, 33, 34] (by decide +kernel) (by decide +kernel)
set_option maxRecDepth 20000 in
theorem gX3_closeGap_X3_depthOf : GoodIn wsX3_closeGap (wsV RX3 40 RX3 yX3_depthOf wsX3_depthOf) := goodIn_app (goodIn_of _ (by decide +kernel)) ggX3_closeGap_X3_depthOf
set_option maxRecDepth 20000 in
theorem ggX3_closeGap_X3_labelOf : GoodIn wsX3_closeGap wsX3_labelOf := goodIn_r _ [22, 23, 16, 17, 18, 30, 31, 32, 33, 34] (by decide +kernel) (by decide +kernel)
set_option maxRecDepth 20000 in
theorem gX3_closeGap_X3_labelOf : GoodIn wsX3_closeGap (wsV RX3 83 RX3 yX3_labelOf wsX3_labelOf) := goodIn_app (goodIn_of _ (by decide +kernel)) ggX3_closeGap_X3_labelOf
set_option maxRecDepth 20000 in
theorem ggX3_closeGap_X3_putNode : GoodIn wsX3_closeGap wsX3_putNode := goodIn_r _ [27, 11, 23, 28, 17, 29, 30, 31, 32, 33, 34] (by decide +kernel) (by decide +kernel)
set_option maxRecDepth 20000 in
theorem gX3_closeGap_X3_putNode : GoodIn wsX3_closeGap (wsV RX3 93 RX3 yX3_putNode wsX3_putNode) := goodIn_app (goodIn_of _ (by decide +kernel)) ggX3_closeGap_X3_putNode
theorem dX3_closeGap_0 : decode cX3_closeGap 0 = .ok (.iload_n 1, 1) := by decide +kernel
theorem dX3_closeGap_1 : decode cX3_closeGap 1 = .ok (.iload_n 2, 1) := by decide +kernel
theorem dX3_closeGap_2 : decode cX3_closeGap 2 = .ok (.iadd, 1) := by decide +kernel
theorem dX3_closeGap_3 : decode cX3_closeGap 3 = .ok (.istore_n 3, 1) := by decide +kernel
theorem dX3_closeGap_4 : decode cX3_closeGap 4 = .ok (.iload_n 3, 1) := by decide +kernel
theorem dX3_closeGap_5 : decode cX3_closeGap 5 = .ok (.aload_n 0, 1) := by decide +kernel
theorem dX3_closeGap_6 : decode cX3_closeGap 6 = .ok (.getfield 28, 3) := by decide +kernel
theorem dX3_closeGap_9 : decode cX3_closeGap 9 = .ok (.if_icmp .ge 26, 3) := by decide +kernel
theorem dX3_closeGap_12 : decode cX3_closeGap 12 = .ok (.aload_n 0, 1) := by decide +kernel
theorem dX3_closeGap_13 : decode cX3_closeGap 13 = .ok (.iload_n 3, 1) := by decide +kernel
theorem dX3_closeGap_14 : decode cX3_closeGap 14 = .ok (.iload_n 2, 1) := by decide +kernel
theorem dX3_closeGap_15 : decode cX3_closeGap 15 = .ok (.isub, 1) := by decide +kernel
theorem dX3_closeGap_16 : decode cX3_closeGap 16 = .ok (.aload_n 0, 1) := by decide +kernel
theorem dX3_closeGap_17 : decode cX3_closeGap 17 = .ok (.iload_n 3, 1) := by decide +kernel
theorem dX3_closeGap_18 : decode cX3_closeGap 18 = .ok (.invokevirtual 40, 3) := by decide +kernel
theorem dX3_closeGap_21 : decode cX3_closeGap 21 = .ok (.aload_n 0, 1) := by decide +kernel
theorem dX3_closeGap_22 : decode cX3_closeGap 22 = .ok (.iload_n 3, 1) := by decide +kernel
theorem dX3_closeGap_23 : decode cX3_closeGap 23 = .ok (.invokevirtual 83, 3) := by decide +kernel
theorem dX3_closeGap_26 : decode cX3_closeGap 26 = .ok (.invokevirtual 93, 3) := by decide +kernel
theorem dX3_closeGap_29 : decode cX3_closeGap 29 = .ok (.iinc 3 1, 3) := by decide +kernel
theorem dX3_closeGap_32 : decode cX3_closeGap 32 = .ok (.goto (-28), 3) := by decide +kernel
theorem dX3_closeGap_35 : decode cX3_closeGap 35 = .ok (.aload_n 0, 1) := by decide +kernel
theorem dX3_closeGap_36 : decode cX3_closeGap 36 = .ok (.aload_n 0, 1) := by decide +kernel
theorem dX3_closeGap_37 : decode cX3_closeGap 37 = .ok (.getfield 28, 3) := by decide +kernel
theorem dX3_closeGap_40 : decode cX3_closeGap 40 = .ok (.iload_n 2, 1) := by decide +kernel
theorem dX3_closeGap_41 : decode cX3_closeGap 41 = .ok (.isub, 1) := by decide +kernel
theorem dX3_closeGap_42 : decode cX3_closeGap 42 = .ok (.iconst 0, 1) := by decide +kernel
theorem dX3_closeGap_43 : decode cX3_closeGap 43 = .ok (.invokestatic 62, 3) := by decide +kernel
theorem dX3_closeGap_46 : decode cX3_closeGap 46 = .ok (.putfield 28, 3) := by decide +kernel
theorem dX3_closeGap_49 : decode cX3_closeGap 49 = .ok (.return_, 1) := by decide +kernel
set_option maxRecDepth 20000 in
theorem ggX3_sink_X3_depthOf : GoodIn wsX3_sink wsX3_depthOf := goodIn_r _ [5, 6, 7, 8, 9, 4, 10, 11, 12, 13, 14, 26, 27, 28, 29, 30] (by decide +kernel) (by decide +kernel)
set_option maxRecDepth 20000 in
theorem gX3_sink_X3_depthOf : GoodIn wsX3_sink (wsV RX3 40 RX3 yX3_depthOf wsX3_depthOf) := goodIn_app (goodIn_of _ (by decide +kernel)) ggX3_sink_X3_depthOf
set_option maxRecDepth 20000 in
theorem ggX3_sink_X3_labelOf : GoodIn wsX3_sink wsX3_labelOf := goodIn_r _ [18, 19, 12, 13, 14, 26, 27, 28, 29, 30] (by decide +kernel) (by decide +kernel)
set_option maxRecDepth 20000 in
theorem gX3_sink_X3_labelOf : GoodIn wsX3_sink (wsV RX3 83 RX3 yX3_labelOf wsX3_labelOf) := goodIn_app (goodIn_of _ (by decide +kernel)) ggX3_sink_X3_labelOf
set_option maxRecDepth 20000 in
theorem ggX3_sink_X3_putNode : GoodIn wsX3_sink wsX3_putNode := goodIn_r _ [23, 6, 19, 24, 13, 25, 26, 27, 28, 29, 30] (by decide +kernel) (by decide +kernel)
set_option maxRecDepth 20000 in
theorem gX3_sink_X3_putNode : GoodIn wsX3_sink (wsV RX3 93 RX3 yX3_putNode wsX3_putNode) := goodIn_app (goodIn_of _ (by decide +kernel)) ggX3_sink_X3_putNode
theorem dX3_sink_0 : decode cX3_sink 0 = .ok (.iload_n 1, 1) := by decide +kernel
theorem dX3_sink_1 : decode cX3_sink 1 = .ok (.istore 4, 2) := by decide +kernel
theorem dX3_sink_3 : decode cX3_sink 3 = .ok (.iload 4, 2) := by decide +kernel
theorem dX3_sink_5 : decode cX3_sink 5 = .ok (.iload_n 2, 1) := by decide +kernel
theorem dX3_sink_6 : decode cX3_sink 6 = .ok (.if_icmp .ge 29, 3) := by decide +kernel
theorem dX3_sink_9 : decode cX3_sink 9 = .ok (.aload_n 0, 1) := by decide +kernel
theorem dX3_sink_10 : decode cX3_sink 10 = .ok (.iload 4, 2) := by decide +kernel
theorem dX3_sink_12 : decode cX3_sink 12 = .ok (.aload_n 0, 1) := by decide +kernel
theorem dX3_sink_13 : decode cX3_sink 13 = .ok (.iload 4, 2) := by decide +kernel
theorem dX3_sink_15 : decode cX3_sink 15 = .ok (.invokevirtual 40, 3) := by decide +kernel
theorem dX3_sink_18 : decode cX3_sink 18 = .ok (.iload_n 3, 1) := by decide +kernel
theorem dX3_sink_19 : decode cX3_sink 19 = .ok (.iadd, 1) := by decide +kernel
theorem dX3_sink_20 : decode cX3_sink 20 = .ok (.aload_n 0, 1) := by decide +kernel
theorem dX3_sink_21 : decode cX3_sink 21 = .ok (.iload 4, 2) := by decide +kernel
theorem dX3_sink_23 : decode cX3_sink 23 = .ok (.invokevirtual 83, 3) := by decide +kernel
theorem dX3_sink_26 : decode cX3_sink 26 = .ok (.invokevirtual 93, 3) := by decide +kernel
theorem dX3_sink_29 : decode cX3_sink 29 = .ok (.iinc 4 1, 3) := by decide +kernel
theorem dX3_sink_32 : decode cX3_sink 32 = .ok (.goto (-29), 3) := by decide +kernel
theorem dX3_sink_35 : decode cX3_sink 35 = .ok (.return_, 1) := by decide +kernel
set_option maxRecDepth 20000 in
theorem ggX3_wrapChildren_X3_startOfPlace : GoodIn wsX3_wrapChildren wsX3_startOfPlace := goodIn_r _ [5, 6, 7, 8, 4, 9, 10, 11, 12, 13, 14, 15, 16, 17, 18, 19, 20, 21, 22, 46, 47, 48, 49, 50] (by decide +kernel) (by decide +kernel)
set_option maxRecDepth 20000 in
theorem gX3_wrapChildren_X3_startOfPlace : GoodIn wsX3_wrapChildren (wsV RX3 97 RX3 yX3_startOfPlace wsX3_startOfPlace) := goodIn_app (goodIn_of _ (by decide +kernel)) ggX3_wrapChildren_X3_startOfPlace
set_option maxRecDepth 20000 in
theorem ggX3_wrapChildren_X3_sink : GoodIn wsX3_wrapChildren wsX3_sink := goodIn_r _ [26, 11, 12, 13, 4, 14, 15, 16, 17, 18, 19, 10, 20, 21, 22, 27, 28, 29, 30, 31, 32, 33, 34, 35, 36, 37, 46, 47, 48, 49, 50] (by decide +kernel) (by decide +kernel)
set_option maxRecDepth 20000 in
theorem gX3_wrapChildren_X3_sink : GoodIn wsX3_wrapChildren (wsV RX3 100 RX3 yX3_sink wsX3_sink) := goodIn_app (goodIn_of _ (by decide +kernel)) ggX3_wrapChildren_X3_sink
set_option maxRecDepth 20000 in
theorem ggX3_wrapChildren_X3_openGap : GoodIn wsX3_wrapChildren wsX3_openGap := goodIn_r _ [41, 10, 42, 43, 44, 45, 11, 12, 13, 4, 14, 15, 16, 17, 18, 19, 20, 21, 22, 27, 28, 29, 30, 31, 32, 33, 34, 35, 36, 37, 46, 47, 48, 49, 50] (by decide +kernel) (by decide +kernel)
set_option maxRecDepth 20000 in
theorem gX3_wrapChildren_X3_openGap : GoodIn wsX3_wrapChildren (wsV RX3 103 RX3 yX3_openGap wsX3_openGap) := goodIn_app (goodIn_of _ (by decide +kernel)) ggX3_wrapChildren_X3_openGap
set_option maxRecDepth 20000 in
theorem ggX3_wrapChildren_X3_depthOf : GoodIn wsX3_wrapChildren wsX3_depthOf := goodIn_r _ [14, 15, 16, 17, 18, 4, 19, 10, 20, 21, 22, 46, 47, 48, 49, 50] (by decide +kernel) (by decide +kernel)
set_option maxRecDepth 20000 in
theorem gX3_wrapChildren_X3_depthOf : GoodIn wsX3_wrapChildren (wsV RX3 40 RX3 yX3_depthOf wsX3_depthOf) := goodIn_app (goodIn_of _ (by decide +kernel)) ggX3_wrapChildren_X3_depthOf
set_option maxRecDepth 20000 in
theorem ggX3_wrapChildren_X3_putNode : GoodIn wsX3_wrapChildren wsX3_putNode := goodIn_r _ [35, 15, 31, 36, 21, 37, 46, 47, 48, 49, 50] (by decide +kernel) (by decide +kernel)
set_option maxRecDepth 20000 in
theorem gX3_wrapChildren_X3_putNode : GoodIn wsX3_wrapChildren (wsV RX3 93 RX3 yX3_putNode wsX3_putNode) := goodIn_app (goodIn_of _ (by decide +kernel)) ggX3_wrapChildren_X3_putNode
theorem dX3_wrapChildren_0 : decode cX3_wrapChildren 0 = .ok (.aload_n 0, 1) := by decide +kernel
theorem dX3_wrapChildren_1 : decode cX3_wrapChildren 1 = .ok (.iload_n 1, 1) := by decide +kernel
theorem dX3_wrapChildren_2 : decode cX3_wrapChildren 2 = .ok (.iload_n 2, 1) := by decide +kernel
theorem dX3_wrapChildren_3 : decode cX3_wrapChildren 3 = .ok (.invokevirtual 97, 3) := by decide +kernel
theorem dX3_wrapChildren_6 : decode cX3_wrapChildren 6 = .ok (.istore 5, 2) := by decide +kernel
theorem dX3_wrapChildren_8 : decode cX3_wrapChildren 8 = .ok (.aload_n 0, 1) := by decide +kernel
theorem dX3_wrapChildren_9 : decode cX3_wrapChildren 9 = .ok (.iload_n 1, 1) := by decide +kernel
theorem dX3_wrapChildren_10 : decode cX3_wrapChildren 10 = .ok (.iload_n 2, 1) := by decide +kernel
theorem dX3_wrapChildren_11 : decode cX3_wrapChildren 11 = .ok (.iload_n 3, 1) := by decide +kernel
theorem dX3_wrapChildren_12 : decode cX3_wrapChildren 12 = .ok (.iadd, 1) := by decide +kernel
theorem dX3_wrapChildren_13 : decode cX3_wrapChildren 13 = .ok (.invokevirtual 97, 3) := by decide +kernel
theorem dX3_wrapChildren_16 : decode cX3_wrapChildren 16 = .ok (.istore 6, 2) := by decide +kernel
theorem dX3_wrapChildren_18 : decode cX3_wrapChildren 18 = .ok (.aload_n 0, 1) := by decide +kernel
theorem dX3_wrapChildren_19 : decode cX3_wrapChildren 19 = .ok (.iload 5, 2) := by decide +kernel
theorem dX3_wrapChildren_21 : decode cX3_wrapChildren 21 = .ok (.iload 6, 2) := by decide +kernel
theorem dX3_wrapChildren_23 : decode cX3_wrapChildren 23 = .ok (.iconst 1, 1) := by decide +kernel
theorem dX3_wrapChildren_24 : decode cX3_wrapChildren 24 = .ok (.invokevirtual 100, 3) := by decide +kernel
theorem dX3_wrapChildren_27 : decode cX3_wrapChildren 27 = .ok (.aload_n 0, 1) := by decide +kernel
theorem dX3_wrapChildren_28 : decode cX3_wrapChildren 28 = .ok (.iload 5, 2) := by decide +kernel
theorem dX3_wrapChildren_30 : decode cX3_wrapChildren 30 = .ok (.iconst 1, 1) := by decide +kernel
theorem dX3_wrapChildren_31 : decode cX3_wrapChildren 31 = .ok (.invokevirtual 103, 3) := by decide +kernel
theorem dX3_wrapChildren_34 : decode cX3_wrapChildren 34 = .ok (.aload_n 0, 1) := by decide +kernel
theorem dX3_wrapChildren_35 : decode cX3_wrapChildren 35 = .ok (.iload 5, 2) := by decide +kernel
theorem dX3_wrapChildren_37 : decode cX3_wrapChildren 37 = .ok (.aload_n 0, 1) := by decide +kernel
theorem dX3_wrapChildren_38 : decode cX3_wrapChildren 38 = .ok (.iload_n 1, 1) := by decide +kernel
theorem dX3_wrapChildren_39 : decode cX3_wrapChildren 39 = .ok (.invokevirtual 40, 3) := by decide +kernel
theorem dX3_wrapChildren_42 : decode cX3_wrapChildren 42 = .ok (.iconst 1, 1) := by decide +kernel
theorem dX3_wrapChildren_43 : decode cX3_wrapChildren 43 = .ok (.iadd, 1) := by decide +kernel
theorem dX3_wrapChildren_44 : decode cX3_wrapChildren 44 = .ok (.iload 4, 2) := by decide +kernel
theorem dX3_wrapChildren_46 : decode cX3_wrapChildren 46 = .ok (.invokevirtual 93, 3) := by decide +kernel
theorem dX3_wrapChildren_49 : decode cX3_wrapChildren 49 = .ok (.iload 5, 2) := by decide +kernel
theorem dX3_wrapChildren_51 : decode cX3_wrapChildren 51 = .ok (.ireturn, 1) := by decide +kernel
set_option maxRecDepth 20000 in
theorem ggX3_dissolve_X3_endOf : GoodIn wsX3_dissolve wsX3_endOf := goodIn_r _ [5, 6, 7, 8, 9, 4, 10, 11, 12, 13, 14, 15, 16, 17, 18, 42, 43, 44, 45, 46] (by decide +kernel) (by decide +kernel)
set_option maxRecDepth 20000 in
theorem gX3_dissolve_X3_endOf : GoodIn wsX3_dissolve (wsV RX3 44 RX3 yX3_endOf wsX3_endOf) := goodIn_app (goodIn_of _ (by decide +kernel)) ggX3_dissolve_X3_endOf
set_option maxRecDepth 20000 in
theorem ggX3_dissolve_X3_sink : GoodIn wsX3_dissolve wsX3_sink := goodIn_r _ [22, 7, 8, 9, 4, 10, 11, 12, 13, 14, 15, 6, 16, 17, 18, 23, 24, 25, 26, 27, 28, 29, 30, 31, 32, 33, 42, 43, 44, 45, 46] (by decide +kernel) (by decide +kernel)
set_option maxRecDepth 20000 in
theorem gX3_dissolve_X3_sink : GoodIn wsX3_dissolve (wsV RX3 100 RX3 yX3_sink wsX3_sink) := goodIn_app (goodIn_of _ (by decide +kernel)) ggX3_dissolve_X3_sink
set_option maxRecDepth 20000 in
theorem ggX3_dissolve_X3_closeGap : GoodIn wsX3_dissolve wsX3_closeGap := goodIn_r _ [37, 6, 38, 39, 40, 41, 7, 8, 9, 4, 10, 11, 12, 13, 14, 15, 16, 17, 18, 23, 24, 25, 26, 27, 28, 29, 30, 31, 32, 33, 42, 43, 44, 45, 46] (by decide +kernel) (by decide +kernel)
set_option maxRecDepth 20000 in
theorem gX3_dissolve_X3_closeGap : GoodIn wsX3_dissolve (wsV RX3 107 RX3 yX3_closeGap wsX3_closeGap) := goodIn_app (goodIn_of _ (by decide +kernel)) ggX3_dissolve_X3_closeGap
theorem dX3_dissolve_0 : decode cX3_dissolve 0 = .ok (.aload_n 0, 1) := by decide +kernel
theorem dX3_dissolve_1 : decode cX3_dissolve 1 = .ok (.iload_n 1, 1) := by decide +kernel
theorem dX3_dissolve_2 : decode cX3_dissolve 2 = .ok (.iconst 1, 1) := by decide +kernel
theorem dX3_dissolve_3 : decode cX3_dissolve 3 = .ok (.iadd, 1) := by decide +kernel
theorem dX3_dissolve_4 : decode cX3_dissolve 4 = .ok (.aload_n 0, 1) := by decide +kernel
theorem dX3_dissolve_5 : decode cX3_dissolve 5 = .ok (.iload_n 1, 1) := by decide +kernel
theorem dX3_dissolve_6 : decode cX3_dissolve 6 = .ok (.invokevirtual 44, 3) := by decide +kernel
theorem dX3_dissolve_9 : decode cX3_dissolve 9 = .ok (.iconst (-1), 1) := by decide +kernel
theorem dX3_dissolve_10 : decode cX3_dissolve 10 = .ok (.invokevirtual 100, 3) := by decide +kernel
theorem dX3_dissolve_13 : decode cX3_dissolve 13 = .ok (.aload_n 0, 1) := by decide +kernel
theorem dX3_dissolve_14 : decode cX3_dissolve 14 = .ok (.iload_n 1, 1) := by decide +kernel
theorem dX3_dissolve_15 : decode cX3_dissolve 15 = .ok (.iconst 1, 1) := by decide +kernel
theorem dX3_dissolve_16 : decode cX3_dissolve 16 = .ok (.invokevirtual 107, 3) := by decide +kernel
theorem dX3_dissolve_19 : decode cX3_dissolve 19 = .ok (.return_, 1) := by decide +kernel
set_option maxRecDepth 20000 in
theorem ggX3_transplant_X3_sizeOf : GoodIn wsX3_transplant wsX3_sizeOf := goodIn_r _ [5, 6, 7, 8, 4, 9, 10, 11, 12, 13, 14, 15, 16, 17, 18, 19, 20, 21, 22, 63, 64, 65, 66, 67] (by decide +kernel) (by decide +kernel)
set_option maxRecDepth 20000 in
theorem gX3_transplant_X3_sizeOf : GoodIn wsX3_transplant (wsV RX3 71 RX3 yX3_sizeOf wsX3_sizeOf) := goodIn_app (goodIn_of _ (by decide +kernel)) ggX3_transplant_X3_sizeOf
set_option maxRecDepth 20000 in
theorem ggX3_transplant_X3_hold : GoodIn wsX3_transplant wsX3_hold := goodIn_r _ [26, 27, 28, 11, 12, 13, 4, 14, 15, 16, 17, 18, 19, 10, 20, 21, 22, 29, 30, 31, 32, 33, 34, 35, 63, 64, 65, 66, 67] (by decide +kernel) (by decide +kernel)
set_option maxRecDepth 20000 in
theorem gX3_transplant_X3_hold : GoodIn wsX3_transplant (wsV RX3 110 RX3 yX3_hold wsX3_hold) := goodIn_app (goodIn_of _ (by decide +kernel)) ggX3_transplant_X3_hold
set_option maxRecDepth 20000 in
theorem ggX3_transplant_X3_closeGap : GoodIn wsX3_transplant wsX3_closeGap := goodIn_r _ [39, 10, 40, 41, 42, 43, 11, 12, 13, 4, 14, 15, 16, 17, 18, 19, 20, 21, 22, 31, 32, 33, 34, 35, 44, 45, 46, 47, 29, 30, 63, 64, 65, 66, 67] (by decide +kernel) (by decide +kernel)
set_option maxRecDepth 20000 in
theorem gX3_transplant_X3_closeGap : GoodIn wsX3_transplant (wsV RX3 107 RX3 yX3_closeGap wsX3_closeGap) := goodIn_app (goodIn_of _ (by decide +kernel)) ggX3_transplant_X3_closeGap
set_option maxRecDepth 20000 in
theorem ggX3_transplant_X3_startOfPlace : GoodIn wsX3_transplant wsX3_startOfPlace := goodIn_r _ [51, 6, 7, 8, 4, 9, 10, 11, 12, 13, 14, 15, 16, 17, 18, 19, 20, 21, 22, 63, 64, 65, 66, 67] (by decide +kernel) (by decide +kernel)
set_option maxRecDepth 20000 in
theorem gX3_transplant_X3_startOfPlace : GoodIn wsX3_transplant (wsV RX3 97 RX3 yX3_startOfPlace wsX3_startOfPlace) := goodIn_app (goodIn_of _ (by decide +kernel)) ggX3_transplant_X3_startOfPlace
set_option maxRecDepth 20000 in
theorem ggX3_transplant_X3_openGap : GoodIn wsX3_transplant wsX3_openGap := goodIn_r _ [55, 10, 56, 57, 42, 58, 11, 12, 13, 4, 14, 15, 16, 17, 18, 19, 20, 21, 22, 31, 32, 33, 34, 35, 44, 45, 46, 47, 29, 30, 63, 64, 65, 66, 67] (by decide +kernel) (by decide +kernel)
set_option maxRecDepth 20000 in
theorem gX3_transplant_X3_openGap : GoodIn wsX3_transplant (wsV RX3 103 RX3 yX3_openGap wsX3_openGap) := goodIn_app (goodIn_of _ (by decide +kernel)) ggX3_transplant_X3_openGap
set_option maxRecDepth 20000 in
theorem ggX3_transplant_X3_depthOf : GoodIn wsX3_transplant wsX3_depthOf := goodIn_r _ [14, 15, 16, 17, 18, 4, 19, 10, 20, 21, 22, 63, 64, 65, 66, 67] (by decide +kernel) (by decide +kernel)
set_option maxRecDepth 20000 in
theorem gX3_transplant_X3_depthOf : GoodIn wsX3_transplant (wsV RX3 40 RX3 yX3_depthOf wsX3_depthOf) := goodIn_app (goodIn_of _ (by decide +kernel)) ggX3_transplant_X3_depthOf
set_option maxRecDepth 20000 in
theorem ggX3_transplant_X3_release : GoodIn wsX3_transplant wsX3_release := goodIn_r _ [62, 27, 28, 20, 21, 22, 44, 45, 46, 4, 47, 15, 35, 29, 30, 63, 64, 65, 66, 67] (by decide +kernel) (by decide +kernel)
set_option maxRecDepth 20000 in
theorem gX3_transplant_X3_release : GoodIn wsX3_transplant (wsV RX3 113 RX3 yX3_release wsX3_release) := goodIn_app (goodIn_of _ (by decide +kernel)) ggX3_transplant_X3_release
theorem dX3_transplant_0 : decode cX3_transplant 0 = .ok (.aload_n 0, 1) := by decide +kernel
theorem dX3_transplant_1 : decode cX3_transplant 1 = .ok (.iload_n 1, 1) := by decide +kernel
theorem dX3_transplant_2 : decode cX3_transplant 2 = .ok (.invokevirtual 71, 3) := by decide +kernel
theorem dX3_transplant_5 : decode cX3_transplant 5 = .ok (.istore 4, 2) := by decide +kernel
theorem dX3_transplant_7 : decode cX3_transplant 7 = .ok (.aload_n 0, 1) := by decide +kernel
theorem dX3_transplant_8 : decode cX3_transplant 8 = .ok (.iload_n 1, 1) := by decide +kernel
theorem dX3_transplant_9 : decode cX3_transplant 9 = .ok (.iload 4, 2) := by decide +kernel
theorem dX3_transplant_11 : decode cX3_transplant 11 = .ok (.invokevirtual 110, 3) := by decide +kernel
theorem dX3_transplant_14 : decode cX3_transplant 14 = .ok (.aload_n 0, 1) := by decide +kernel
theorem dX3_transplant_15 : decode cX3_transplant 15 = .ok (.iload_n 1, 1) := by decide +kernel
theorem dX3_transplant_16 : decode cX3_transplant 16 = .ok (.iload 4, 2) := by decide +kernel
theorem dX3_transplant_18 : decode cX3_transplant 18 = .ok (.invokevirtual 107, 3) := by decide +kernel
theorem dX3_transplant_21 : decode cX3_transplant 21 = .ok (.iload_n 2, 1) := by decide +kernel
theorem dX3_transplant_22 : decode cX3_transplant 22 = .ok (.iload_n 1, 1) := by decide +kernel
theorem dX3_transplant_23 : decode cX3_transplant 23 = .ok (.if_icmp .ge 7, 3) := by decide +kernel
theorem dX3_transplant_26 : decode cX3_transplant 26 = .ok (.iload_n 2, 1) := by decide +kernel
theorem dX3_transplant_27 : decode cX3_transplant 27 = .ok (.goto 7, 3) := by decide +kernel
theorem dX3_transplant_30 : decode cX3_transplant 30 = .ok (.iload_n 2, 1) := by decide +kernel
theorem dX3_transplant_31 : decode cX3_transplant 31 = .ok (.iload 4, 2) := by decide +kernel
theorem dX3_transplant_33 : decode cX3_transplant 33 = .ok (.isub, 1) := by decide +kernel
theorem dX3_transplant_34 : decode cX3_transplant 34 = .ok (.istore 5, 2) := by decide +kernel
theorem dX3_transplant_36 : decode cX3_transplant 36 = .ok (.aload_n 0, 1) := by decide +kernel
theorem dX3_transplant_37 : decode cX3_transplant 37 = .ok (.iload 5, 2) := by decide +kernel
theorem dX3_transplant_39 : decode cX3_transplant 39 = .ok (.iload_n 3, 1) := by decide +kernel
theorem dX3_transplant_40 : decode cX3_transplant 40 = .ok (.invokevirtual 97, 3) := by decide +kernel
theorem dX3_transplant_43 : decode cX3_transplant 43 = .ok (.istore 6, 2) := by decide +kernel
theorem dX3_transplant_45 : decode cX3_transplant 45 = .ok (.aload_n 0, 1) := by decide +kernel
theorem dX3_transplant_46 : decode cX3_transplant 46 = .ok (.iload 6, 2) := by decide +kernel
theorem dX3_transplant_48 : decode cX3_transplant 48 = .ok (.iload 4, 2) := by decide +kernel
theorem dX3_transplant_50 : decode cX3_transplant 50 = .ok (.invokevirtual 103, 3) := by decide +kernel
theorem dX3_transplant_53 : decode cX3_transplant 53 = .ok (.aload_n 0, 1) := by decide +kernel
theorem dX3_transplant_54 : decode cX3_transplant 54 = .ok (.iload 6, 2) := by decide +kernel
theorem dX3_transplant_56 : decode cX3_transplant 56 = .ok (.iload 4, 2) := by decide +kernel
theorem dX3_transplant_58 : decode cX3_transplant 58 = .ok (.aload_n 0, 1) := by decide +kernel
theorem dX3_transplant_59 : decode cX3_transplant 59 = .ok (.iload 5, 2) := by decide +kernel
theorem dX3_transplant_61 : decode cX3_transplant 61 = .ok (.invokevirtual 40, 3) := by decide +kernel
theorem dX3_transplant_64 : decode cX3_transplant 64 = .ok (.iconst 1, 1) := by decide +kernel
theorem dX3_transplant_65 : decode cX3_transplant 65 = .ok (.iadd, 1) := by decide +kernel
theorem dX3_transplant_66 : decode cX3_transplant 66 = .ok (.invokevirtual 113, 3) := by decide +kernel
theorem dX3_transplant_69 : decode cX3_transplant 69 = .ok (.iload 6, 2) := by decide +kernel
theorem dX3_transplant_71 : decode cX3_transplant 71 = .ok (.ireturn, 1) := by decide +kernel
set_option maxRecDepth 20000 in
theorem ggX3_hold_X3_depthOf : GoodIn wsX3_hold wsX3_depthOf := goodIn_r _ [7, 8, 9, 10, 11, 6, 12, 13, 14, 15, 16, 24, 25, 26, 27, 28] (by decide +kernel) (by decide +kernel)
set_option maxRecDepth 20000 in
theorem gX3_hold_X3_depthOf : GoodIn wsX3_hold (wsV RX3 40 RX3 yX3_depthOf wsX3_depthOf) := goodIn_app (goodIn_of _ (by decide +kernel)) ggX3_hold_X3_depthOf
set_option maxRecDepth 20000 in
theorem ggX3_hold_X4_put : GoodIn wsX3_hold wsX4_put := goodIn_r _ [18] (by decide +kernel) (by decide +kernel)
set_option maxRecDepth 20000 in
theorem gX3_hold_X4_put_n24 : GoodIn wsX3_hold (wsX4_put) := ggX3_hold_X4_put
set_option maxRecDepth 20000 in
theorem ggX3_hold_X3_labelOf : GoodIn wsX3_hold wsX3_labelOf := goodIn_r _ [22, 23, 14, 15, 16, 24, 25, 26, 27, 28] (by decide +kernel) (by decide +kernel)
set_option maxRecDepth 20000 in
theorem gX3_hold_X3_labelOf : GoodIn wsX3_hold (wsV RX3 83 RX3 yX3_labelOf wsX3_labelOf) := goodIn_app (goodIn_of _ (by decide +kernel)) ggX3_hold_X3_labelOf
theorem dX3_hold_0 : decode cX3_hold 0 = .ok (.iconst 0, 1) := by decide +kernel
theorem dX3_hold_1 : decode cX3_hold 1 = .ok (.istore_n 3, 1) := by decide +kernel
theorem dX3_hold_2 : decode cX3_hold 2 = .ok (.iload_n 3, 1) := by decide +kernel
theorem dX3_hold_3 : decode cX3_hold 3 = .ok (.iload_n 2, 1) := by decide +kernel
theorem dX3_hold_4 : decode cX3_hold 4 = .ok (.if_icmp .ge 45, 3) := by decide +kernel
theorem dX3_hold_7 : decode cX3_hold 7 = .ok (.aload_n 0, 1) := by decide +kernel
theorem dX3_hold_8 : decode cX3_hold 8 = .ok (.getfield 18, 3) := by decide +kernel
theorem dX3_hold_11 : decode cX3_hold 11 = .ok (.iload_n 3, 1) := by decide +kernel
theorem dX3_hold_12 : decode cX3_hold 12 = .ok (.aload_n 0, 1) := by decide +kernel
theorem dX3_hold_13 : decode cX3_hold 13 = .ok (.iload_n 1, 1) := by decide +kernel
theorem dX3_hold_14 : decode cX3_hold 14 = .ok (.iload_n 3, 1) := by decide +kernel
theorem dX3_hold_15 : decode cX3_hold 15 = .ok (.iadd, 1) := by decide +kernel
theorem dX3_hold_16 : decode cX3_hold 16 = .ok (.invokevirtual 40, 3) := by decide +kernel
theorem dX3_hold_19 : decode cX3_hold 19 = .ok (.aload_n 0, 1) := by decide +kernel
theorem dX3_hold_20 : decode cX3_hold 20 = .ok (.iload_n 1, 1) := by decide +kernel
theorem dX3_hold_21 : decode cX3_hold 21 = .ok (.invokevirtual 40, 3) := by decide +kernel
theorem dX3_hold_24 : decode cX3_hold 24 = .ok (.isub, 1) := by decide +kernel
theorem dX3_hold_25 : decode cX3_hold 25 = .ok (.invokestatic 24, 3) := by decide +kernel
theorem dX3_hold_28 : decode cX3_hold 28 = .ok (.aload_n 0, 1) := by decide +kernel
theorem dX3_hold_29 : decode cX3_hold 29 = .ok (.getfield 21, 3) := by decide +kernel
theorem dX3_hold_32 : decode cX3_hold 32 = .ok (.iload_n 3, 1) := by decide +kernel
theorem dX3_hold_33 : decode cX3_hold 33 = .ok (.aload_n 0, 1) := by decide +kernel
theorem dX3_hold_34 : decode cX3_hold 34 = .ok (.iload_n 1, 1) := by decide +kernel
theorem dX3_hold_35 : decode cX3_hold 35 = .ok (.iload_n 3, 1) := by decide +kernel
theorem dX3_hold_36 : decode cX3_hold 36 = .ok (.iadd, 1) := by decide +kernel
theorem dX3_hold_37 : decode cX3_hold 37 = .ok (.invokevirtual 83, 3) := by decide +kernel
theorem dX3_hold_40 : decode cX3_hold 40 = .ok (.invokestatic 24, 3) := by decide +kernel
theorem dX3_hold_43 : decode cX3_hold 43 = .ok (.iinc 3 1, 3) := by decide +kernel
theorem dX3_hold_46 : decode cX3_hold 46 = .ok (.goto (-44), 3) := by decide +kernel
theorem dX3_hold_49 : decode cX3_hold 49 = .ok (.return_, 1) := by decide +kernel
set_option maxRecDepth 20000 in
theorem ggX3_release_X4_get : GoodIn wsX3_release wsX4_get := goodIn_r _ [5] (by decide +kernel) (by decide +kernel)
set_option maxRecDepth 20000 in
theorem gX3_release_X4_get_n36 : GoodIn wsX3_release (wsX4_get) := ggX3_release_X4_get
set_option maxRecDepth 20000 in
theorem ggX3_release_X3_putNode : GoodIn wsX3_release wsX3_putNode := goodIn_r _ [10, 11, 12, 13, 4, 14, 15, 16, 17, 18, 19] (by decide +kernel) (by decide +kernel)
set_option maxRecDepth 20000 in
theorem gX3_release_X3_putNode : GoodIn wsX3_release (wsV RX3 93 RX3 yX3_putNode wsX3_putNode) := goodIn_app (goodIn_of _ (by decide +kernel)) ggX3_release_X3_putNode
theorem dX3_release_0 : decode cX3_release 0 = .ok (.iconst 0, 1) := by decide +kernel
theorem dX3_release_1 : decode cX3_release 1 = .ok (.istore 4, 2) := by decide +kernel
theorem dX3_release_3 : decode cX3_release 3 = .ok (.iload 4, 2) := by decide +kernel
theorem dX3_release_5 : decode cX3_release 5 = .ok (.iload_n 2, 1) := by decide +kernel
theorem dX3_release_6 : decode cX3_release 6 = .ok (.if_icmp .ge 37, 3) := by decide +kernel
theorem dX3_release_9 : decode cX3_release 9 = .ok (.aload_n 0, 1) := by decide +kernel
theorem dX3_release_10 : decode cX3_release 10 = .ok (.iload_n 1, 1) := by decide +kernel
theorem dX3_release_11 : decode cX3_release 11 = .ok (.iload 4, 2) := by decide +kernel
theorem dX3_release_13 : decode cX3_release 13 = .ok (.iadd, 1) := by decide +kernel
theorem dX3_release_14 : decode cX3_release 14 = .ok (.aload_n 0, 1) := by decide +kernel
theorem dX3_release_15 : decode cX3_release 15 = .ok (.getfield 18, 3) := by decide +kernel
theorem dX3_release_18 : decode cX3_release 18 = .ok (.iload 4, 2) := by decide +kernel
theorem dX3_release_20 : decode cX3_release 20 = .ok (.invokestatic 36, 3) := by decide +kernel
theorem dX3_release_23 : decode cX3_release 23 = .ok (.iload_n 3, 1) := by decide +kernel
theorem dX3_release_24 : decode cX3_release 24 = .ok (.iadd, 1) := by decide +kernel
theorem dX3_release_25 : decode cX3_release 25 = .ok (.aload_n 0, 1) := by decide +kernel
theorem dX3_release_26 : decode cX3_release 26 = .ok (.getfield 21, 3) := by decide +kernel
theorem dX3_release_29 : decode cX3_release 29 = .ok (.iload 4, 2) := by decide +kernel
theorem dX3_release_31 : decode cX3_release 31 = .ok (.invokestatic 36, 3) := by decide +kernel
theorem dX3_release_34 : decode cX3_release 34 = .ok (.invokevirtual 93, 3) := by decide +kernel
theorem dX3_release_37 : decode cX3_release 37 = .ok (.iinc 4 1, 3) := by decide +kernel
theorem dX3_release_40 : decode cX3_release 40 = .ok (.goto (-37), 3) := by decide +kernel
theorem dX3_release_43 : decode cX3_release 43 = .ok (.return_, 1) := by decide +kernel
set_option maxRecDepth 20000 in
theorem ggX4_init_X3_init : GoodIn wsX4_init wsX3_init := goodIn_r _ [22, 23, 2, 3, 24, 25, 26, 27, 28, 29, 30, 31, 32, 47, 48, 49, 50, 51] (by decide +kernel) (by decide +kernel)
set_option maxRecDepth 20000 in
theorem gX4_init_X3_init : GoodIn wsX4_init (wsX3_init) := ggX4_init_X3_init
set_option maxRecDepth 20000 in
theorem ggX4_init_X0_init : GoodIn wsX4_init wsX0_init := goodIn_r _ [34, 35, 2, 3, 36, 56] (by decide +kernel) (by decide +kernel)
set_option maxRecDepth 20000 in
theorem gX4_init_X0_init_n18 : GoodIn wsX4_init (wsX0_init) := ggX4_init_X0_init
set_option maxRecDepth 20000 in
theorem ggX4_init_X1_init : GoodIn wsX4_init wsX1_init := goodIn_r _ [38, 39, 2, 3, 24, 40, 41, 42, 57, 58, 59, 60, 61] (by decide +kernel) (by decide +kernel)
set_option maxRecDepth 20000 in
theorem gX4_init_X1_init_n25 : GoodIn wsX4_init (wsX1_init) := ggX4_init_X1_init
set_option maxRecDepth 20000 in
theorem ggX4_init_X2_init : GoodIn wsX4_init wsX2_init := goodIn_r _ [44, 45, 2, 3, 24, 46, 62, 63] (by decide +kernel) (by decide +kernel)
set_option maxRecDepth 20000 in
theorem gX4_init_X2_init_n32 : GoodIn wsX4_init (wsX2_init) := ggX4_init_X2_init
end
section
theorem dX4_init_0 : decode cX4_init 0 = .ok (.aload_n 0, 1) := by decide +kernel
theorem dX4_init_1 : decode cX4_init 1 = .ok (.invokespecial 1, 3) := by decide +kernel
theorem dX4_init_4 : decode cX4_init 4 = .ok (.aload_n 0, 1) := by decide +kernel
theorem dX4_init_5 : decode cX4_init 5 = .ok (.new 7, 3) := by decide +kernel
theorem dX4_init_8 : decode cX4_init 8 = .ok (.dup, 1) := by decide +kernel
theorem dX4_init_9 : decode cX4_init 9 = .ok (.invokespecial 9, 3) := by decide +kernel
theorem dX4_init_12 : decode cX4_init 12 = .ok (.putfield 10, 3) := by decide +kernel
theorem dX4_init_15 : decode cX4_init 15 = .ok (.aload_n 0, 1) := by decide +kernel
theorem dX4_init_16 : decode cX4_init 16 = .ok (.new 16, 3) := by decide +kernel
theorem dX4_init_19 : decode cX4_init 19 = .ok (.dup, 1) := by decide +kernel
theorem dX4_init_20 : decode cX4_init 20 = .ok (.invokespecial 18, 3) := by decide +kernel
theorem dX4_init_23 : decode cX4_init 23 = .ok (.putfield 19, 3) := by decide +kernel
theorem dX4_init_26 : decode cX4_init 26 = .ok (.aload_n 0, 1) := by decide +kernel
theorem dX4_init_27 : decode cX4_init 27 = .ok (.new 23, 3) := by decide +kernel
theorem dX4_init_30 : decode cX4_init 30 = .ok (.dup, 1) := by decide +kernel
theorem dX4_init_31 : decode cX4_init 31 = .ok (.invokespecial 25, 3) := by decide +kernel
theorem dX4_init_34 : decode cX4_init 34 = .ok (.putfield 26, 3) := by decide +kernel
theorem dX4_init_37 : decode cX4_init 37 = .ok (.aload_n 0, 1) := by decide +kernel
theorem dX4_init_38 : decode cX4_init 38 = .ok (.new 30, 3) := by decide +kernel
theorem dX4_init_41 : decode cX4_init 41 = .ok (.dup, 1) := by decide +kernel
theorem dX4_init_42 : decode cX4_init 42 = .ok (.invokespecial 32, 3) := by decide +kernel
theorem dX4_init_45 : decode cX4_init 45 = .ok (.putfield 33, 3) := by decide +kernel
theorem dX4_init_48 : decode cX4_init 48 = .ok (.return_, 1) := by decide +kernel
set_option maxRecDepth 20000 in
theorem ggX4_type_X2_append : GoodIn wsX4_type wsX2_append := goodIn_r _ [6, 7, 8, 9, 10, 11, 16, 17] (by decide +kernel) (by decide +kernel)
set_option maxRecDepth 20000 in
theorem gX4_type_X2_append : GoodIn wsX4_type (wsV RX4 37 RX2 yX2_append wsX2_append) := goodIn_app (goodIn_of _ (by decide +kernel)) ggX4_type_X2_append
theorem dX4_type_0 : decode cX4_type 0 = .ok (.aload_n 0, 1) := by decide +kernel
theorem dX4_type_1 : decode cX4_type 1 = .ok (.getfield 33, 3) := by decide +kernel
theorem dX4_type_4 : decode cX4_type 4 = .ok (.iload_n 1, 1) := by decide +kernel
theorem dX4_type_5 : decode cX4_type 5 = .ok (.invokevirtual 37, 3) := by decide +kernel
theorem dX4_type_8 : decode cX4_type 8 = .ok (.ireturn, 1) := by decide +kernel
set_option maxRecDepth 20000 in
theorem ggX4_clearText_X2_empty : GoodIn wsX4_clearText wsX2_empty := goodIn_r _ [6, 7, 12, 13] (by decide +kernel) (by decide +kernel)
set_option maxRecDepth 20000 in
theorem gX4_clearText_X2_empty : GoodIn wsX4_clearText (wsV RX4 41 RX2 yX2_empty wsX2_empty) := goodIn_app (goodIn_of _ (by decide +kernel)) ggX4_clearText_X2_empty
theorem dX4_clearText_0 : decode cX4_clearText 0 = .ok (.aload_n 0, 1) := by decide +kernel
theorem dX4_clearText_1 : decode cX4_clearText 1 = .ok (.getfield 33, 3) := by decide +kernel
theorem dX4_clearText_4 : decode cX4_clearText 4 = .ok (.invokevirtual 41, 3) := by decide +kernel
theorem dX4_clearText_7 : decode cX4_clearText 7 = .ok (.ireturn, 1) := by decide +kernel
set_option maxRecDepth 20000 in
theorem ggX4_read_X2_findFault : GoodIn wsX4_read wsX2_findFault := goodIn_r _ [8, 9, 10, 11, 12, 13, 7, 14, 15, 16, 17, 18, 19, 20, 21, 22, 23, 81, 82] (by decide +kernel) (by decide +kernel)
set_option maxRecDepth 20000 in
theorem gX4_read_X2_findFault : GoodIn wsX4_read (wsV RX4 45 RX2 yX2_findFault wsX2_findFault) := goodIn_app (goodIn_of _ (by decide +kernel)) ggX4_read_X2_findFault
set_option maxRecDepth 20000 in
theorem ggX4_read_X1_record : GoodIn wsX4_read wsX1_record := goodIn_r _ [28, 29, 30, 31, 32, 33, 34, 35, 36, 37, 38, 39, 40, 41, 42, 43, 44, 16, 45, 46, 47, 48, 49, 50, 51, 52, 53, 54, 15, 17, 55, 56, 57, 58, 59, 83, 84, 85, 86, 87, 88, 89, 90, 91, 92] (by decide +kernel) (by decide +kernel)
set_option maxRecDepth 20000 in
theorem gX4_read_X1_record : GoodIn wsX4_read (wsV RX4 48 RX1 yX1_record wsX1_record) := goodIn_app (goodIn_of _ (by decide +kernel)) ggX4_read_X1_record
set_option maxRecDepth 20000 in
theorem ggX4_read_X2_makeTree : GoodIn wsX4_read wsX2_makeTree := goodIn_r _ [63, 9, 10, 64, 65, 66, 41, 67, 43, 15, 16, 17, 18, 19, 68, 69, 70, 71, 72, 73, 74, 75, 50, 59, 44, 45, 20, 21, 22, 7, 23, 81, 82, 88, 89, 90, 91, 92] (by decide +kernel) (by decide +kernel)
set_option maxRecDepth 20000 in
theorem gX4_read_X2_makeTree : GoodIn wsX4_read (wsV RX4 52 RX2 yX2_makeTree wsX2_makeTree) := goodIn_app (goodIn_of _ (by decide +kernel)) ggX4_read_X2_makeTree
set_option maxRecDepth 20000 in
theorem ggX4_read_X3_count : GoodIn wsX4_read wsX3_count := goodIn_r _ [42, 43, 88, 89, 90, 91, 92] (by decide +kernel) (by decide +kernel)
set_option maxRecDepth 20000 in
theorem gX4_read_X3_count : GoodIn wsX4_read (wsV RX4 55 RX3 yX3_count wsX3_count) := goodIn_app (goodIn_of _ (by decide +kernel)) ggX4_read_X3_count
theorem dX4_read_0 : decode cX4_read 0 = .ok (.aload_n 0, 1) := by decide +kernel
theorem dX4_read_1 : decode cX4_read 1 = .ok (.getfield 33, 3) := by decide +kernel
theorem dX4_read_4 : decode cX4_read 4 = .ok (.invokevirtual 45, 3) := by decide +kernel
theorem dX4_read_7 : decode cX4_read 7 = .ok (.istore_n 1, 1) := by decide +kernel
theorem dX4_read_8 : decode cX4_read 8 = .ok (.iload_n 1, 1) := by decide +kernel
theorem dX4_read_9 : decode cX4_read 9 = .ok (.iconst (-1), 1) := by decide +kernel
theorem dX4_read_10 : decode cX4_read 10 = .ok (.if_icmp .eq 8, 3) := by decide +kernel
theorem dX4_read_13 : decode cX4_read 13 = .ok (.bipush (-100), 2) := by decide +kernel
theorem dX4_read_15 : decode cX4_read 15 = .ok (.iload_n 1, 1) := by decide +kernel
theorem dX4_read_16 : decode cX4_read 16 = .ok (.isub, 1) := by decide +kernel
theorem dX4_read_17 : decode cX4_read 17 = .ok (.ireturn, 1) := by decide +kernel
theorem dX4_read_18 : decode cX4_read 18 = .ok (.aload_n 0, 1) := by decide +kernel
theorem dX4_read_19 : decode cX4_read 19 = .ok (.getfield 26, 3) := by decide +kernel
theorem dX4_read_22 : decode cX4_read 22 = .ok (.aload_n 0, 1) := by decide +kernel
theorem dX4_read_23 : decode cX4_read 23 = .ok (.getfield 10, 3) := by decide +kernel
theorem dX4_read_26 : decode cX4_read 26 = .ok (.invokevirtual 48, 3) := by decide +kernel
theorem dX4_read_29 : decode cX4_read 29 = .ok (.aload_n 0, 1) := by decide +kernel
theorem dX4_read_30 : decode cX4_read 30 = .ok (.getfield 33, 3) := by decide +kernel
theorem dX4_read_33 : decode cX4_read 33 = .ok (.aload_n 0, 1) := by decide +kernel
theorem dX4_read_34 : decode cX4_read 34 = .ok (.getfield 10, 3) := by decide +kernel
theorem dX4_read_37 : decode cX4_read 37 = .ok (.invokevirtual 52, 3) := by decide +kernel
theorem dX4_read_40 : decode cX4_read 40 = .ok (.aload_n 0, 1) := by decide +kernel
theorem dX4_read_41 : decode cX4_read 41 = .ok (.getfield 10, 3) := by decide +kernel
theorem dX4_read_44 : decode cX4_read 44 = .ok (.invokevirtual 55, 3) := by decide +kernel
theorem dX4_read_47 : decode cX4_read 47 = .ok (.ireturn, 1) := by decide +kernel
set_option maxRecDepth 20000 in
theorem ggX4_written_X3_writtenLength : GoodIn wsX4_written wsX3_writtenLength := goodIn_r _ [6, 7, 8, 9, 10, 5, 11, 12, 13, 14, 15, 16, 17, 18, 19, 20, 21, 22, 23, 24, 25, 26, 27, 41, 42, 43, 44, 45] (by decide +kernel) (by decide +kernel)
set_option maxRecDepth 20000 in
theorem gX4_written_X3_writtenLength : GoodIn wsX4_written (wsV RX4 58 RX3 yX3_writtenLength wsX3_writtenLength) := goodIn_app (goodIn_of _ (by decide +kernel)) ggX4_written_X3_writtenLength
set_option maxRecDepth 20000 in
theorem ggX4_written_X3_writtenAt : GoodIn wsX4_written wsX3_writtenAt := goodIn_r _ [31, 7, 8, 9, 10, 5, 11, 12, 13, 14, 15, 16, 17, 18, 19, 20, 21, 22, 23, 24, 25, 26, 27, 32, 33, 34, 35, 36, 41, 42, 43, 44, 45] (by decide +kernel) (by decide +kernel)
set_option maxRecDepth 20000 in
theorem gX4_written_X3_writtenAt : GoodIn wsX4_written (wsV RX4 61 RX3 yX3_writtenAt wsX3_writtenAt) := goodIn_app (goodIn_of _ (by decide +kernel)) ggX4_written_X3_writtenAt
theorem dX4_written_0 : decode cX4_written 0 = .ok (.iload_n 1, 1) := by decide +kernel
theorem dX4_written_1 : decode cX4_written 1 = .ok (.iconst (-1), 1) := by decide +kernel
theorem dX4_written_2 : decode cX4_written 2 = .ok (.if_icmp .ge 6, 3) := by decide +kernel
theorem dX4_written_5 : decode cX4_written 5 = .ok (.bipush (-2), 2) := by decide +kernel
theorem dX4_written_7 : decode cX4_written 7 = .ok (.ireturn, 1) := by decide +kernel
theorem dX4_written_8 : decode cX4_written 8 = .ok (.iload_n 1, 1) := by decide +kernel
theorem dX4_written_9 : decode cX4_written 9 = .ok (.iconst (-1), 1) := by decide +kernel
theorem dX4_written_10 : decode cX4_written 10 = .ok (.if_icmp .ne 13, 3) := by decide +kernel
theorem dX4_written_13 : decode cX4_written 13 = .ok (.aload_n 0, 1) := by decide +kernel
theorem dX4_written_14 : decode cX4_written 14 = .ok (.getfield 10, 3) := by decide +kernel
theorem dX4_written_17 : decode cX4_written 17 = .ok (.invokevirtual 58, 3) := by decide +kernel
theorem dX4_written_20 : decode cX4_written 20 = .ok (.goto 11, 3) := by decide +kernel
theorem dX4_written_23 : decode cX4_written 23 = .ok (.aload_n 0, 1) := by decide +kernel
theorem dX4_written_24 : decode cX4_written 24 = .ok (.getfield 10, 3) := by decide +kernel
theorem dX4_written_27 : decode cX4_written 27 = .ok (.iload_n 1, 1) := by decide +kernel
theorem dX4_written_28 : decode cX4_written 28 = .ok (.invokevirtual 61, 3) := by decide +kernel
theorem dX4_written_31 : decode cX4_written 31 = .ok (.ireturn, 1) := by decide +kernel
set_option maxRecDepth 20000 in
theorem ggX4_size_X3_count : GoodIn wsX4_size wsX3_count := goodIn_r _ [6, 7, 12, 13, 14, 15, 16] (by decide +kernel) (by decide +kernel)
set_option maxRecDepth 20000 in
theorem gX4_size_X3_count : GoodIn wsX4_size (wsV RX4 55 RX3 yX3_count wsX3_count) := goodIn_app (goodIn_of _ (by decide +kernel)) ggX4_size_X3_count
theorem dX4_size_0 : decode cX4_size 0 = .ok (.aload_n 0, 1) := by decide +kernel
theorem dX4_size_1 : decode cX4_size 1 = .ok (.getfield 10, 3) := by decide +kernel
theorem dX4_size_4 : decode cX4_size 4 = .ok (.invokevirtual 55, 3) := by decide +kernel
theorem dX4_size_7 : decode cX4_size 7 = .ok (.ireturn, 1) := by decide +kernel
set_option maxRecDepth 20000 in
theorem ggX4_node_X3_has : GoodIn wsX4_node wsX3_has := goodIn_r _ [6, 7, 77, 78, 79, 80, 81] (by decide +kernel) (by decide +kernel)
set_option maxRecDepth 20000 in
theorem gX4_node_X3_has : GoodIn wsX4_node (wsV RX4 65 RX3 yX3_has wsX3_has) := goodIn_app (goodIn_of _ (by decide +kernel)) ggX4_node_X3_has
set_option maxRecDepth 20000 in
theorem ggX4_node_X3_depthOf : GoodIn wsX4_node wsX3_depthOf := goodIn_r _ [11, 12, 13, 3, 4, 5, 6, 7, 14, 15, 16, 77, 78, 79, 80, 81] (by decide +kernel) (by decide +kernel)
set_option maxRecDepth 20000 in
theorem gX4_node_X3_depthOf : GoodIn wsX4_node (wsV RX4 69 RX3 yX3_depthOf wsX3_depthOf) := goodIn_app (goodIn_of _ (by decide +kernel)) ggX4_node_X3_depthOf
set_option maxRecDepth 20000 in
theorem ggX4_node_X3_parentOf : GoodIn wsX4_node wsX3_parentOf := goodIn_r _ [20, 21, 9, 10, 5, 11, 12, 13, 3, 4, 6, 7, 14, 15, 16, 22, 23, 24, 25, 77, 78, 79, 80, 81] (by decide +kernel) (by decide +kernel)
set_option maxRecDepth 20000 in
theorem gX4_node_X3_parentOf : GoodIn wsX4_node (wsV RX4 72 RX3 yX3_parentOf wsX3_parentOf) := goodIn_app (goodIn_of _ (by decide +kernel)) ggX4_node_X3_parentOf
set_option maxRecDepth 20000 in
theorem ggX4_node_X3_childCount : GoodIn wsX4_node wsX3_childCount := goodIn_r _ [29, 30, 31, 32, 5, 33, 7, 21, 9, 10, 11, 12, 13, 3, 4, 6, 14, 15, 16, 77, 78, 79, 80, 81] (by decide +kernel) (by decide +kernel)
set_option maxRecDepth 20000 in
theorem gX4_node_X3_childCount : GoodIn wsX4_node (wsV RX4 75 RX3 yX3_childCount wsX3_childCount) := goodIn_app (goodIn_of _ (by decide +kernel)) ggX4_node_X3_childCount
set_option maxRecDepth 20000 in
theorem ggX4_node_X3_sizeOf : GoodIn wsX4_node wsX3_sizeOf := goodIn_r _ [37, 30, 31, 32, 5, 33, 7, 21, 9, 10, 11, 12, 13, 3, 4, 6, 14, 15, 16, 77, 78, 79, 80, 81] (by decide +kernel) (by decide +kernel)
set_option maxRecDepth 20000 in
theorem gX4_node_X3_sizeOf : GoodIn wsX4_node (wsV RX4 78 RX3 yX3_sizeOf wsX3_sizeOf) := goodIn_app (goodIn_of _ (by decide +kernel)) ggX4_node_X3_sizeOf
set_option maxRecDepth 20000 in
theorem ggX4_node_X3_deepestOf : GoodIn wsX4_node wsX3_deepestOf := goodIn_r _ [41, 30, 31, 32, 5, 33, 7, 21, 9, 10, 11, 12, 13, 3, 4, 6, 14, 15, 16, 77, 78, 79, 80, 81] (by decide +kernel) (by decide +kernel)
set_option maxRecDepth 20000 in
theorem gX4_node_X3_deepestOf : GoodIn wsX4_node (wsV RX4 81 RX3 yX3_deepestOf wsX3_deepestOf) := goodIn_app (goodIn_of _ (by decide +kernel)) ggX4_node_X3_deepestOf
set_option maxRecDepth 20000 in
theorem ggX4_node_X3_placeOf : GoodIn wsX4_node wsX3_placeOf := goodIn_r _ [45, 21, 9, 10, 5, 11, 12, 13, 3, 4, 6, 7, 14, 15, 16, 77, 78, 79, 80, 81] (by decide +kernel) (by decide +kernel)
set_option maxRecDepth 20000 in
theorem gX4_node_X3_placeOf : GoodIn wsX4_node (wsV RX4 84 RX3 yX3_placeOf wsX3_placeOf) := goodIn_app (goodIn_of _ (by decide +kernel)) ggX4_node_X3_placeOf
set_option maxRecDepth 20000 in
theorem ggX4_node_X3_leafCount : GoodIn wsX4_node wsX3_leafCount := goodIn_r _ [49, 30, 31, 32, 5, 33, 7, 21, 9, 10, 11, 12, 13, 3, 4, 6, 14, 15, 16, 50, 51, 52, 53, 77, 78, 79, 80, 81] (by decide +kernel) (by decide +kernel)
set_option maxRecDepth 20000 in
theorem gX4_node_X3_leafCount : GoodIn wsX4_node (wsV RX4 87 RX3 yX3_leafCount wsX3_leafCount) := goodIn_app (goodIn_of _ (by decide +kernel)) ggX4_node_X3_leafCount
set_option maxRecDepth 20000 in
theorem ggX4_node_X3_openingOf : GoodIn wsX4_node wsX3_openingOf := goodIn_r _ [57, 21, 9, 10, 5, 11, 12, 13, 3, 4, 6, 7, 14, 15, 16, 77, 78, 79, 80, 81] (by decide +kernel) (by decide +kernel)
set_option maxRecDepth 20000 in
theorem gX4_node_X3_openingOf : GoodIn wsX4_node (wsV RX4 90 RX3 yX3_openingOf wsX3_openingOf) := goodIn_app (goodIn_of _ (by decide +kernel)) ggX4_node_X3_openingOf
set_option maxRecDepth 20000 in
theorem ggX4_node_X3_closingOf : GoodIn wsX4_node wsX3_closingOf := goodIn_r _ [61, 62, 55, 56, 5, 57, 21, 9, 10, 11, 12, 13, 3, 4, 6, 7, 14, 15, 16, 63, 35, 36, 37, 30, 31, 32, 33, 77, 78, 79, 80, 81] (by decide +kernel) (by decide +kernel)
set_option maxRecDepth 20000 in
theorem gX4_node_X3_closingOf : GoodIn wsX4_node (wsV RX4 93 RX3 yX3_closingOf wsX3_closingOf) := goodIn_app (goodIn_of _ (by decide +kernel)) ggX4_node_X3_closingOf
set_option maxRecDepth 20000 in
theorem ggX4_node_X3_postorderOf : GoodIn wsX4_node wsX3_postorderOf := goodIn_r _ [67, 30, 31, 32, 5, 33, 7, 21, 9, 10, 11, 12, 13, 3, 4, 6, 14, 15, 16, 77, 78, 79, 80, 81] (by decide +kernel) (by decide +kernel)
set_option maxRecDepth 20000 in
theorem gX4_node_X3_postorderOf : GoodIn wsX4_node (wsV RX4 96 RX3 yX3_postorderOf wsX3_postorderOf) := goodIn_app (goodIn_of _ (by decide +kernel)) ggX4_node_X3_postorderOf
set_option maxRecDepth 20000 in
theorem ggX4_node_X3_labelOf : GoodIn wsX4_node wsX3_labelOf := goodIn_r _ [71, 72, 14, 15, 16, 77, 78, 79, 80, 81] (by decide +kernel) (by decide +kernel)
set_option maxRecDepth 20000 in
theorem gX4_node_X3_labelOf : GoodIn wsX4_node (wsV RX4 99 RX3 yX3_labelOf wsX3_labelOf) := goodIn_app (goodIn_of _ (by decide +kernel)) ggX4_node_X3_labelOf
theorem dX4_node_0 : decode cX4_node 0 = .ok (.aload_n 0, 1) := by decide +kernel
theorem dX4_node_1 : decode cX4_node 1 = .ok (.getfield 10, 3) := by decide +kernel
theorem dX4_node_4 : decode cX4_node 4 = .ok (.iload_n 1, 1) := by decide +kernel
theorem dX4_node_5 : decode cX4_node 5 = .ok (.invokevirtual 65, 3) := by decide +kernel
theorem dX4_node_8 : decode cX4_node 8 = .ok (.ifCond .ne 5, 3) := by decide +kernel
theorem dX4_node_11 : decode cX4_node 11 = .ok (.iconst (-1), 1) := by decide +kernel
theorem dX4_node_12 : decode cX4_node 12 = .ok (.ireturn, 1) := by decide +kernel
theorem dX4_node_13 : decode cX4_node 13 = .ok (.iload_n 2, 1) := by decide +kernel
theorem dX4_node_14 : decode cX4_node 14 = .ok (.tableswitch 173 0 10 #[58, 67, 76, 85, 94, 119, 128, 137, 146, 155, 164], 58) := by decide +kernel
theorem dX4_node_72 : decode cX4_node 72 = .ok (.aload_n 0, 1) := by decide +kernel
theorem dX4_node_73 : decode cX4_node 73 = .ok (.getfield 10, 3) := by decide +kernel
theorem dX4_node_76 : decode cX4_node 76 = .ok (.iload_n 1, 1) := by decide +kernel
theorem dX4_node_77 : decode cX4_node 77 = .ok (.invokevirtual 69, 3) := by decide +kernel
theorem dX4_node_80 : decode cX4_node 80 = .ok (.ireturn, 1) := by decide +kernel
theorem dX4_node_81 : decode cX4_node 81 = .ok (.aload_n 0, 1) := by decide +kernel
theorem dX4_node_82 : decode cX4_node 82 = .ok (.getfield 10, 3) := by decide +kernel
theorem dX4_node_85 : decode cX4_node 85 = .ok (.iload_n 1, 1) := by decide +kernel
theorem dX4_node_86 : decode cX4_node 86 = .ok (.invokevirtual 72, 3) := by decide +kernel
theorem dX4_node_89 : decode cX4_node 89 = .ok (.ireturn, 1) := by decide +kernel
theorem dX4_node_90 : decode cX4_node 90 = .ok (.aload_n 0, 1) := by decide +kernel
theorem dX4_node_91 : decode cX4_node 91 = .ok (.getfield 10, 3) := by decide +kernel
theorem dX4_node_94 : decode cX4_node 94 = .ok (.iload_n 1, 1) := by decide +kernel
theorem dX4_node_95 : decode cX4_node 95 = .ok (.invokevirtual 75, 3) := by decide +kernel
theorem dX4_node_98 : decode cX4_node 98 = .ok (.ireturn, 1) := by decide +kernel
theorem dX4_node_99 : decode cX4_node 99 = .ok (.aload_n 0, 1) := by decide +kernel
theorem dX4_node_100 : decode cX4_node 100 = .ok (.getfield 10, 3) := by decide +kernel
theorem dX4_node_103 : decode cX4_node 103 = .ok (.iload_n 1, 1) := by decide +kernel
theorem dX4_node_104 : decode cX4_node 104 = .ok (.invokevirtual 78, 3) := by decide +kernel
theorem dX4_node_107 : decode cX4_node 107 = .ok (.ireturn, 1) := by decide +kernel
theorem dX4_node_108 : decode cX4_node 108 = .ok (.aload_n 0, 1) := by decide +kernel
theorem dX4_node_109 : decode cX4_node 109 = .ok (.getfield 10, 3) := by decide +kernel
theorem dX4_node_112 : decode cX4_node 112 = .ok (.aload_n 0, 1) := by decide +kernel
theorem dX4_node_113 : decode cX4_node 113 = .ok (.getfield 10, 3) := by decide +kernel
theorem dX4_node_116 : decode cX4_node 116 = .ok (.iload_n 1, 1) := by decide +kernel
theorem dX4_node_117 : decode cX4_node 117 = .ok (.invokevirtual 81, 3) := by decide +kernel
theorem dX4_node_120 : decode cX4_node 120 = .ok (.invokevirtual 69, 3) := by decide +kernel
theorem dX4_node_123 : decode cX4_node 123 = .ok (.aload_n 0, 1) := by decide +kernel
theorem dX4_node_124 : decode cX4_node 124 = .ok (.getfield 10, 3) := by decide +kernel
theorem dX4_node_127 : decode cX4_node 127 = .ok (.iload_n 1, 1) := by decide +kernel
theorem dX4_node_128 : decode cX4_node 128 = .ok (.invokevirtual 69, 3) := by decide +kernel
theorem dX4_node_131 : decode cX4_node 131 = .ok (.isub, 1) := by decide +kernel
theorem dX4_node_132 : decode cX4_node 132 = .ok (.ireturn, 1) := by decide +kernel
theorem dX4_node_133 : decode cX4_node 133 = .ok (.aload_n 0, 1) := by decide +kernel
theorem dX4_node_134 : decode cX4_node 134 = .ok (.getfield 10, 3) := by decide +kernel
theorem dX4_node_137 : decode cX4_node 137 = .ok (.iload_n 1, 1) := by decide +kernel
theorem dX4_node_138 : decode cX4_node 138 = .ok (.invokevirtual 84, 3) := by decide +kernel
theorem dX4_node_141 : decode cX4_node 141 = .ok (.ireturn, 1) := by decide +kernel
theorem dX4_node_142 : decode cX4_node 142 = .ok (.aload_n 0, 1) := by decide +kernel
theorem dX4_node_143 : decode cX4_node 143 = .ok (.getfield 10, 3) := by decide +kernel
theorem dX4_node_146 : decode cX4_node 146 = .ok (.iload_n 1, 1) := by decide +kernel
theorem dX4_node_147 : decode cX4_node 147 = .ok (.invokevirtual 87, 3) := by decide +kernel
theorem dX4_node_150 : decode cX4_node 150 = .ok (.ireturn, 1) := by decide +kernel
theorem dX4_node_151 : decode cX4_node 151 = .ok (.aload_n 0, 1) := by decide +kernel
theorem dX4_node_152 : decode cX4_node 152 = .ok (.getfield 10, 3) := by decide +kernel
theorem dX4_node_155 : decode cX4_node 155 = .ok (.iload_n 1, 1) := by decide +kernel
theorem dX4_node_156 : decode cX4_node 156 = .ok (.invokevirtual 90, 3) := by decide +kernel
theorem dX4_node_159 : decode cX4_node 159 = .ok (.ireturn, 1) := by decide +kernel
theorem dX4_node_160 : decode cX4_node 160 = .ok (.aload_n 0, 1) := by decide +kernel
theorem dX4_node_161 : decode cX4_node 161 = .ok (.getfield 10, 3) := by decide +kernel
theorem dX4_node_164 : decode cX4_node 164 = .ok (.iload_n 1, 1) := by decide +kernel
theorem dX4_node_165 : decode cX4_node 165 = .ok (.invokevirtual 93, 3) := by decide +kernel
theorem dX4_node_168 : decode cX4_node 168 = .ok (.ireturn, 1) := by decide +kernel
theorem dX4_node_169 : decode cX4_node 169 = .ok (.aload_n 0, 1) := by decide +kernel
theorem dX4_node_170 : decode cX4_node 170 = .ok (.getfield 10, 3) := by decide +kernel
theorem dX4_node_173 : decode cX4_node 173 = .ok (.iload_n 1, 1) := by decide +kernel
theorem dX4_node_174 : decode cX4_node 174 = .ok (.invokevirtual 96, 3) := by decide +kernel
theorem dX4_node_177 : decode cX4_node 177 = .ok (.ireturn, 1) := by decide +kernel
theorem dX4_node_178 : decode cX4_node 178 = .ok (.aload_n 0, 1) := by decide +kernel
theorem dX4_node_179 : decode cX4_node 179 = .ok (.getfield 10, 3) := by decide +kernel
theorem dX4_node_182 : decode cX4_node 182 = .ok (.iload_n 1, 1) := by decide +kernel
theorem dX4_node_183 : decode cX4_node 183 = .ok (.invokevirtual 99, 3) := by decide +kernel
theorem dX4_node_186 : decode cX4_node 186 = .ok (.ireturn, 1) := by decide +kernel
theorem dX4_node_187 : decode cX4_node 187 = .ok (.bipush (-2), 2) := by decide +kernel
theorem dX4_node_189 : decode cX4_node 189 = .ok (.ireturn, 1) := by decide +kernel
set_option maxRecDepth 20000 in
theorem ggX4_child_X3_has : GoodIn wsX4_child wsX3_has := goodIn_r _ [6, 7, 33, 34, 35, 36, 37] (by decide +kernel) (by decide +kernel)
set_option maxRecDepth 20000 in
theorem gX4_child_X3_has : GoodIn wsX4_child (wsV RX4 65 RX3 yX3_has wsX3_has) := goodIn_app (goodIn_of _ (by decide +kernel)) ggX4_child_X3_has
set_option maxRecDepth 20000 in
theorem ggX4_child_X3_childCount : GoodIn wsX4_child wsX3_childCount := goodIn_r _ [11, 12, 13, 14, 5, 15, 7, 16, 17, 18, 19, 20, 21, 3, 4, 6, 22, 23, 24, 33, 34, 35, 36, 37] (by decide +kernel) (by decide +kernel)
set_option maxRecDepth 20000 in
theorem gX4_child_X3_childCount : GoodIn wsX4_child (wsV RX4 75 RX3 yX3_childCount wsX3_childCount) := goodIn_app (goodIn_of _ (by decide +kernel)) ggX4_child_X3_childCount
set_option maxRecDepth 20000 in
theorem ggX4_child_X3_startOfPlace : GoodIn wsX4_child wsX3_startOfPlace := goodIn_r _ [28, 12, 13, 14, 5, 15, 7, 16, 17, 18, 19, 20, 21, 3, 4, 6, 22, 23, 24, 33, 34, 35, 36, 37] (by decide +kernel) (by decide +kernel)
set_option maxRecDepth 20000 in
theorem gX4_child_X3_startOfPlace : GoodIn wsX4_child (wsV RX4 102 RX3 yX3_startOfPlace wsX3_startOfPlace) := goodIn_app (goodIn_of _ (by decide +kernel)) ggX4_child_X3_startOfPlace
theorem dX4_child_0 : decode cX4_child 0 = .ok (.aload_n 0, 1) := by decide +kernel
theorem dX4_child_1 : decode cX4_child 1 = .ok (.getfield 10, 3) := by decide +kernel
theorem dX4_child_4 : decode cX4_child 4 = .ok (.iload_n 1, 1) := by decide +kernel
theorem dX4_child_5 : decode cX4_child 5 = .ok (.invokevirtual 65, 3) := by decide +kernel
theorem dX4_child_8 : decode cX4_child 8 = .ok (.ifCond .ne 5, 3) := by decide +kernel
theorem dX4_child_11 : decode cX4_child 11 = .ok (.iconst (-1), 1) := by decide +kernel
theorem dX4_child_12 : decode cX4_child 12 = .ok (.ireturn, 1) := by decide +kernel
theorem dX4_child_13 : decode cX4_child 13 = .ok (.iload_n 2, 1) := by decide +kernel
theorem dX4_child_14 : decode cX4_child 14 = .ok (.ifCond .ge 6, 3) := by decide +kernel
theorem dX4_child_17 : decode cX4_child 17 = .ok (.bipush (-2), 2) := by decide +kernel
theorem dX4_child_19 : decode cX4_child 19 = .ok (.ireturn, 1) := by decide +kernel
theorem dX4_child_20 : decode cX4_child 20 = .ok (.iload_n 2, 1) := by decide +kernel
theorem dX4_child_21 : decode cX4_child 21 = .ok (.aload_n 0, 1) := by decide +kernel
theorem dX4_child_22 : decode cX4_child 22 = .ok (.getfield 10, 3) := by decide +kernel
theorem dX4_child_25 : decode cX4_child 25 = .ok (.iload_n 1, 1) := by decide +kernel
theorem dX4_child_26 : decode cX4_child 26 = .ok (.invokevirtual 75, 3) := by decide +kernel
theorem dX4_child_29 : decode cX4_child 29 = .ok (.if_icmp .ge 15, 3) := by decide +kernel
theorem dX4_child_32 : decode cX4_child 32 = .ok (.aload_n 0, 1) := by decide +kernel
theorem dX4_child_33 : decode cX4_child 33 = .ok (.getfield 10, 3) := by decide +kernel
theorem dX4_child_36 : decode cX4_child 36 = .ok (.iload_n 1, 1) := by decide +kernel
theorem dX4_child_37 : decode cX4_child 37 = .ok (.iload_n 2, 1) := by decide +kernel
theorem dX4_child_38 : decode cX4_child 38 = .ok (.invokevirtual 102, 3) := by decide +kernel
theorem dX4_child_41 : decode cX4_child 41 = .ok (.goto 5, 3) := by decide +kernel
theorem dX4_child_44 : decode cX4_child 44 = .ok (.bipush (-5), 2) := by decide +kernel
theorem dX4_child_46 : decode cX4_child 46 = .ok (.ireturn, 1) := by decide +kernel
set_option maxRecDepth 20000 in
theorem ggX4_neighbour_X3_has : GoodIn wsX4_neighbour wsX3_has := goodIn_r _ [6, 7, 66, 67, 68, 69, 70] (by decide +kernel) (by decide +kernel)
set_option maxRecDepth 20000 in
theorem gX4_neighbour_X3_has : GoodIn wsX4_neighbour (wsV RX4 65 RX3 yX3_has wsX3_has) := goodIn_app (goodIn_of _ (by decide +kernel)) ggX4_neighbour_X3_has
set_option maxRecDepth 20000 in
theorem ggX4_neighbour_X3_nextSibling : GoodIn wsX4_neighbour wsX3_nextSibling := goodIn_r _ [11, 12, 13, 14, 5, 15, 7, 16, 17, 18, 19, 20, 21, 3, 4, 6, 22, 23, 24, 66, 67, 68, 69, 70] (by decide +kernel) (by decide +kernel)
set_option maxRecDepth 20000 in
theorem gX4_neighbour_X3_nextSibling : GoodIn wsX4_neighbour (wsV RX4 106 RX3 yX3_nextSibling wsX3_nextSibling) := goodIn_app (goodIn_of _ (by decide +kernel)) ggX4_neighbour_X3_nextSibling
set_option maxRecDepth 20000 in
theorem ggX4_neighbour_X3_previousSibling : GoodIn wsX4_neighbour wsX3_previousSibling := goodIn_r _ [28, 29, 30, 31, 5, 32, 16, 17, 18, 19, 20, 21, 3, 4, 6, 7, 22, 23, 24, 33, 34, 35, 36, 37, 38, 39, 40, 66, 67, 68, 69, 70] (by decide +kernel) (by decide +kernel)
set_option maxRecDepth 20000 in
theorem gX4_neighbour_X3_previousSibling : GoodIn wsX4_neighbour (wsV RX4 109 RX3 yX3_previousSibling wsX3_previousSibling) := goodIn_app (goodIn_of _ (by decide +kernel)) ggX4_neighbour_X3_previousSibling
set_option maxRecDepth 20000 in
theorem ggX4_neighbour_X3_nextAtDepth : GoodIn wsX4_neighbour wsX3_nextAtDepth := goodIn_r _ [44, 7, 16, 17, 18, 5, 19, 20, 21, 3, 4, 6, 22, 23, 24, 66, 67, 68, 69, 70] (by decide +kernel) (by decide +kernel)
set_option maxRecDepth 20000 in
theorem gX4_neighbour_X3_nextAtDepth : GoodIn wsX4_neighbour (wsV RX4 112 RX3 yX3_nextAtDepth wsX3_nextAtDepth) := goodIn_app (goodIn_of _ (by decide +kernel)) ggX4_neighbour_X3_nextAtDepth
set_option maxRecDepth 20000 in
theorem ggX4_neighbour_X3_previousAtDepth : GoodIn wsX4_neighbour wsX3_previousAtDepth := goodIn_r _ [36, 16, 17, 18, 5, 19, 20, 21, 3, 4, 6, 7, 22, 23, 24, 37, 38, 39, 40, 66, 67, 68, 69, 70] (by decide +kernel) (by decide +kernel)
set_option maxRecDepth 20000 in
theorem gX4_neighbour_X3_previousAtDepth : GoodIn wsX4_neighbour (wsV RX4 115 RX3 yX3_previousAtDepth wsX3_previousAtDepth) := goodIn_app (goodIn_of _ (by decide +kernel)) ggX4_neighbour_X3_previousAtDepth
set_option maxRecDepth 20000 in
theorem ggX4_neighbour_X3_nextLeaf : GoodIn wsX4_neighbour wsX3_nextLeaf := goodIn_r _ [49, 7, 50, 51, 52, 5, 53, 16, 17, 18, 19, 20, 21, 3, 4, 6, 22, 23, 24, 66, 67, 68, 69, 70] (by decide +kernel) (by decide +kernel)
set_option maxRecDepth 20000 in
theorem gX4_neighbour_X3_nextLeaf : GoodIn wsX4_neighbour (wsV RX4 118 RX3 yX3_nextLeaf wsX3_nextLeaf) := goodIn_app (goodIn_of _ (by decide +kernel)) ggX4_neighbour_X3_nextLeaf
set_option maxRecDepth 20000 in
theorem ggX4_neighbour_X3_largestChild : GoodIn wsX4_neighbour wsX3_largestChild := goodIn_r _ [57, 12, 13, 14, 5, 15, 7, 16, 17, 18, 19, 20, 21, 3, 4, 6, 22, 23, 24, 58, 59, 60, 61, 66, 67, 68, 69, 70] (by decide +kernel) (by decide +kernel)
set_option maxRecDepth 20000 in
theorem gX4_neighbour_X3_largestChild : GoodIn wsX4_neighbour (wsV RX4 121 RX3 yX3_largestChild wsX3_largestChild) := goodIn_app (goodIn_of _ (by decide +kernel)) ggX4_neighbour_X3_largestChild
theorem dX4_neighbour_0 : decode cX4_neighbour 0 = .ok (.aload_n 0, 1) := by decide +kernel
theorem dX4_neighbour_1 : decode cX4_neighbour 1 = .ok (.getfield 10, 3) := by decide +kernel
theorem dX4_neighbour_4 : decode cX4_neighbour 4 = .ok (.iload_n 1, 1) := by decide +kernel
theorem dX4_neighbour_5 : decode cX4_neighbour 5 = .ok (.invokevirtual 65, 3) := by decide +kernel
theorem dX4_neighbour_8 : decode cX4_neighbour 8 = .ok (.ifCond .ne 5, 3) := by decide +kernel
theorem dX4_neighbour_11 : decode cX4_neighbour 11 = .ok (.iconst (-1), 1) := by decide +kernel
theorem dX4_neighbour_12 : decode cX4_neighbour 12 = .ok (.ireturn, 1) := by decide +kernel
theorem dX4_neighbour_13 : decode cX4_neighbour 13 = .ok (.iload_n 2, 1) := by decide +kernel
theorem dX4_neighbour_14 : decode cX4_neighbour 14 = .ok (.tableswitch 92 0 5 #[38, 47, 56, 65, 74, 83], 38) := by decide +kernel
theorem dX4_neighbour_52 : decode cX4_neighbour 52 = .ok (.aload_n 0, 1) := by decide +kernel
theorem dX4_neighbour_53 : decode cX4_neighbour 53 = .ok (.getfield 10, 3) := by decide +kernel
theorem dX4_neighbour_56 : decode cX4_neighbour 56 = .ok (.iload_n 1, 1) := by decide +kernel
theorem dX4_neighbour_57 : decode cX4_neighbour 57 = .ok (.invokevirtual 106, 3) := by decide +kernel
theorem dX4_neighbour_60 : decode cX4_neighbour 60 = .ok (.ireturn, 1) := by decide +kernel
theorem dX4_neighbour_61 : decode cX4_neighbour 61 = .ok (.aload_n 0, 1) := by decide +kernel
theorem dX4_neighbour_62 : decode cX4_neighbour 62 = .ok (.getfield 10, 3) := by decide +kernel
theorem dX4_neighbour_65 : decode cX4_neighbour 65 = .ok (.iload_n 1, 1) := by decide +kernel
theorem dX4_neighbour_66 : decode cX4_neighbour 66 = .ok (.invokevirtual 109, 3) := by decide +kernel
theorem dX4_neighbour_69 : decode cX4_neighbour 69 = .ok (.ireturn, 1) := by decide +kernel
theorem dX4_neighbour_70 : decode cX4_neighbour 70 = .ok (.aload_n 0, 1) := by decide +kernel
theorem dX4_neighbour_71 : decode cX4_neighbour 71 = .ok (.getfield 10, 3) := by decide +kernel
theorem dX4_neighbour_74 : decode cX4_neighbour 74 = .ok (.iload_n 1, 1) := by decide +kernel
theorem dX4_neighbour_75 : decode cX4_neighbour 75 = .ok (.invokevirtual 112, 3) := by decide +kernel
theorem dX4_neighbour_78 : decode cX4_neighbour 78 = .ok (.ireturn, 1) := by decide +kernel
theorem dX4_neighbour_79 : decode cX4_neighbour 79 = .ok (.aload_n 0, 1) := by decide +kernel
theorem dX4_neighbour_80 : decode cX4_neighbour 80 = .ok (.getfield 10, 3) := by decide +kernel
theorem dX4_neighbour_83 : decode cX4_neighbour 83 = .ok (.iload_n 1, 1) := by decide +kernel
theorem dX4_neighbour_84 : decode cX4_neighbour 84 = .ok (.invokevirtual 115, 3) := by decide +kernel
theorem dX4_neighbour_87 : decode cX4_neighbour 87 = .ok (.ireturn, 1) := by decide +kernel
theorem dX4_neighbour_88 : decode cX4_neighbour 88 = .ok (.aload_n 0, 1) := by decide +kernel
theorem dX4_neighbour_89 : decode cX4_neighbour 89 = .ok (.getfield 10, 3) := by decide +kernel
theorem dX4_neighbour_92 : decode cX4_neighbour 92 = .ok (.iload_n 1, 1) := by decide +kernel
theorem dX4_neighbour_93 : decode cX4_neighbour 93 = .ok (.invokevirtual 118, 3) := by decide +kernel
theorem dX4_neighbour_96 : decode cX4_neighbour 96 = .ok (.ireturn, 1) := by decide +kernel
theorem dX4_neighbour_97 : decode cX4_neighbour 97 = .ok (.aload_n 0, 1) := by decide +kernel
theorem dX4_neighbour_98 : decode cX4_neighbour 98 = .ok (.getfield 10, 3) := by decide +kernel
theorem dX4_neighbour_101 : decode cX4_neighbour 101 = .ok (.iload_n 1, 1) := by decide +kernel
theorem dX4_neighbour_102 : decode cX4_neighbour 102 = .ok (.invokevirtual 121, 3) := by decide +kernel
theorem dX4_neighbour_105 : decode cX4_neighbour 105 = .ok (.ireturn, 1) := by decide +kernel
theorem dX4_neighbour_106 : decode cX4_neighbour 106 = .ok (.bipush (-2), 2) := by decide +kernel
theorem dX4_neighbour_108 : decode cX4_neighbour 108 = .ok (.ireturn, 1) := by decide +kernel
set_option maxRecDepth 20000 in
theorem ggX4_ancestorAt_X3_has : GoodIn wsX4_ancestorAt wsX3_has := goodIn_r _ [6, 7, 26, 27, 28, 29, 30] (by decide +kernel) (by decide +kernel)
set_option maxRecDepth 20000 in
theorem gX4_ancestorAt_X3_has : GoodIn wsX4_ancestorAt (wsV RX4 65 RX3 yX3_has wsX3_has) := goodIn_app (goodIn_of _ (by decide +kernel)) ggX4_ancestorAt_X3_has
set_option maxRecDepth 20000 in
theorem ggX4_ancestorAt_X3_depthOf : GoodIn wsX4_ancestorAt wsX3_depthOf := goodIn_r _ [11, 12, 13, 3, 4, 5, 6, 7, 14, 15, 16, 26, 27, 28, 29, 30] (by decide +kernel) (by decide +kernel)
set_option maxRecDepth 20000 in
theorem gX4_ancestorAt_X3_depthOf : GoodIn wsX4_ancestorAt (wsV RX4 69 RX3 yX3_depthOf wsX3_depthOf) := goodIn_app (goodIn_of _ (by decide +kernel)) ggX4_ancestorAt_X3_depthOf
set_option maxRecDepth 20000 in
theorem ggX4_ancestorAt_X3_climb : GoodIn wsX4_ancestorAt wsX3_climb := goodIn_r _ [20, 21, 9, 10, 5, 11, 12, 13, 3, 4, 6, 7, 14, 15, 16, 26, 27, 28, 29, 30] (by decide +kernel) (by decide +kernel)
set_option maxRecDepth 20000 in
theorem gX4_ancestorAt_X3_climb : GoodIn wsX4_ancestorAt (wsV RX4 124 RX3 yX3_climb wsX3_climb) := goodIn_app (goodIn_of _ (by decide +kernel)) ggX4_ancestorAt_X3_climb
theorem dX4_ancestorAt_0 : decode cX4_ancestorAt 0 = .ok (.aload_n 0, 1) := by decide +kernel
theorem dX4_ancestorAt_1 : decode cX4_ancestorAt 1 = .ok (.getfield 10, 3) := by decide +kernel
theorem dX4_ancestorAt_4 : decode cX4_ancestorAt 4 = .ok (.iload_n 1, 1) := by decide +kernel
theorem dX4_ancestorAt_5 : decode cX4_ancestorAt 5 = .ok (.invokevirtual 65, 3) := by decide +kernel
theorem dX4_ancestorAt_8 : decode cX4_ancestorAt 8 = .ok (.ifCond .ne 5, 3) := by decide +kernel
theorem dX4_ancestorAt_11 : decode cX4_ancestorAt 11 = .ok (.iconst (-1), 1) := by decide +kernel
theorem dX4_ancestorAt_12 : decode cX4_ancestorAt 12 = .ok (.ireturn, 1) := by decide +kernel
theorem dX4_ancestorAt_13 : decode cX4_ancestorAt 13 = .ok (.iload_n 2, 1) := by decide +kernel
theorem dX4_ancestorAt_14 : decode cX4_ancestorAt 14 = .ok (.ifCond .lt 15, 3) := by decide +kernel
theorem dX4_ancestorAt_17 : decode cX4_ancestorAt 17 = .ok (.iload_n 2, 1) := by decide +kernel
theorem dX4_ancestorAt_18 : decode cX4_ancestorAt 18 = .ok (.aload_n 0, 1) := by decide +kernel
theorem dX4_ancestorAt_19 : decode cX4_ancestorAt 19 = .ok (.getfield 10, 3) := by decide +kernel
theorem dX4_ancestorAt_22 : decode cX4_ancestorAt 22 = .ok (.iload_n 1, 1) := by decide +kernel
theorem dX4_ancestorAt_23 : decode cX4_ancestorAt 23 = .ok (.invokevirtual 69, 3) := by decide +kernel
theorem dX4_ancestorAt_26 : decode cX4_ancestorAt 26 = .ok (.if_icmp .le 6, 3) := by decide +kernel
theorem dX4_ancestorAt_29 : decode cX4_ancestorAt 29 = .ok (.bipush (-2), 2) := by decide +kernel
theorem dX4_ancestorAt_31 : decode cX4_ancestorAt 31 = .ok (.ireturn, 1) := by decide +kernel
theorem dX4_ancestorAt_32 : decode cX4_ancestorAt 32 = .ok (.aload_n 0, 1) := by decide +kernel
theorem dX4_ancestorAt_33 : decode cX4_ancestorAt 33 = .ok (.getfield 10, 3) := by decide +kernel
theorem dX4_ancestorAt_36 : decode cX4_ancestorAt 36 = .ok (.iload_n 1, 1) := by decide +kernel
theorem dX4_ancestorAt_37 : decode cX4_ancestorAt 37 = .ok (.iload_n 2, 1) := by decide +kernel
theorem dX4_ancestorAt_38 : decode cX4_ancestorAt 38 = .ok (.invokevirtual 124, 3) := by decide +kernel
theorem dX4_ancestorAt_41 : decode cX4_ancestorAt 41 = .ok (.ireturn, 1) := by decide +kernel
set_option maxRecDepth 20000 in
theorem ggX4_common_X3_has : GoodIn wsX4_common wsX3_has := goodIn_r _ [6, 7, 36, 37, 38, 39, 40] (by decide +kernel) (by decide +kernel)
set_option maxRecDepth 20000 in
theorem gX4_common_X3_has : GoodIn wsX4_common (wsV RX4 65 RX3 yX3_has wsX3_has) := goodIn_app (goodIn_of _ (by decide +kernel)) ggX4_common_X3_has
set_option maxRecDepth 20000 in
theorem ggX4_common_X3_meetingOf : GoodIn wsX4_common wsX3_meetingOf := goodIn_r _ [11, 12, 13, 14, 15, 16, 17, 18, 19, 20, 21, 5, 22, 23, 24, 3, 4, 6, 7, 25, 26, 27, 28, 29, 30, 31, 36, 37, 38, 39, 40] (by decide +kernel) (by decide +kernel)
set_option maxRecDepth 20000 in
theorem gX4_common_X3_meetingOf : GoodIn wsX4_common (wsV RX4 127 RX3 yX3_meetingOf wsX3_meetingOf) := goodIn_app (goodIn_of _ (by decide +kernel)) ggX4_common_X3_meetingOf
theorem dX4_common_0 : decode cX4_common 0 = .ok (.aload_n 0, 1) := by decide +kernel
theorem dX4_common_1 : decode cX4_common 1 = .ok (.getfield 10, 3) := by decide +kernel
theorem dX4_common_4 : decode cX4_common 4 = .ok (.iload_n 1, 1) := by decide +kernel
theorem dX4_common_5 : decode cX4_common 5 = .ok (.invokevirtual 65, 3) := by decide +kernel
theorem dX4_common_8 : decode cX4_common 8 = .ok (.ifCond .eq 14, 3) := by decide +kernel
theorem dX4_common_11 : decode cX4_common 11 = .ok (.aload_n 0, 1) := by decide +kernel
theorem dX4_common_12 : decode cX4_common 12 = .ok (.getfield 10, 3) := by decide +kernel
theorem dX4_common_15 : decode cX4_common 15 = .ok (.iload_n 2, 1) := by decide +kernel
theorem dX4_common_16 : decode cX4_common 16 = .ok (.invokevirtual 65, 3) := by decide +kernel
theorem dX4_common_19 : decode cX4_common 19 = .ok (.ifCond .ne 5, 3) := by decide +kernel
theorem dX4_common_22 : decode cX4_common 22 = .ok (.iconst (-1), 1) := by decide +kernel
theorem dX4_common_23 : decode cX4_common 23 = .ok (.ireturn, 1) := by decide +kernel
theorem dX4_common_24 : decode cX4_common 24 = .ok (.aload_n 0, 1) := by decide +kernel
theorem dX4_common_25 : decode cX4_common 25 = .ok (.getfield 10, 3) := by decide +kernel
theorem dX4_common_28 : decode cX4_common 28 = .ok (.iload_n 1, 1) := by decide +kernel
theorem dX4_common_29 : decode cX4_common 29 = .ok (.iload_n 2, 1) := by decide +kernel
theorem dX4_common_30 : decode cX4_common 30 = .ok (.invokevirtual 127, 3) := by decide +kernel
theorem dX4_common_33 : decode cX4_common 33 = .ok (.ireturn, 1) := by decide +kernel
set_option maxRecDepth 20000 in
theorem ggX4_way_X3_has : GoodIn wsX4_way wsX3_has := goodIn_r _ [6, 7, 38, 39, 40, 41, 42] (by decide +kernel) (by decide +kernel)
set_option maxRecDepth 20000 in
theorem gX4_way_X3_has : GoodIn wsX4_way (wsV RX4 65 RX3 yX3_has wsX3_has) := goodIn_app (goodIn_of _ (by decide +kernel)) ggX4_way_X3_has
set_option maxRecDepth 20000 in
theorem ggX4_way_X3_meetingOf : GoodIn wsX4_way wsX3_meetingOf := goodIn_r _ [11, 12, 13, 14, 15, 16, 17, 18, 19, 20, 21, 5, 22, 23, 24, 3, 4, 6, 7, 25, 26, 27, 28, 29, 30, 31, 38, 39, 40, 41, 42] (by decide +kernel) (by decide +kernel)
set_option maxRecDepth 20000 in
theorem gX4_way_X3_meetingOf : GoodIn wsX4_way (wsV RX4 127 RX3 yX3_meetingOf wsX3_meetingOf) := goodIn_app (goodIn_of _ (by decide +kernel)) ggX4_way_X3_meetingOf
set_option maxRecDepth 20000 in
theorem ggX4_way_X3_depthOf : GoodIn wsX4_way wsX3_depthOf := goodIn_r _ [22, 23, 24, 3, 4, 5, 6, 7, 25, 26, 27, 38, 39, 40, 41, 42] (by decide +kernel) (by decide +kernel)
set_option maxRecDepth 20000 in
theorem gX4_way_X3_depthOf : GoodIn wsX4_way (wsV RX4 69 RX3 yX3_depthOf wsX3_depthOf) := goodIn_app (goodIn_of _ (by decide +kernel)) ggX4_way_X3_depthOf
set_option maxRecDepth 20000 in
theorem ggX4_way_X3_climb : GoodIn wsX4_way wsX3_climb := goodIn_r _ [31, 19, 20, 21, 5, 22, 23, 24, 3, 4, 6, 7, 25, 26, 27, 38, 39, 40, 41, 42] (by decide +kernel) (by decide +kernel)
set_option maxRecDepth 20000 in
theorem gX4_way_X3_climb : GoodIn wsX4_way (wsV RX4 124 RX3 yX3_climb wsX3_climb) := goodIn_app (goodIn_of _ (by decide +kernel)) ggX4_way_X3_climb
theorem dX4_way_0 : decode cX4_way 0 = .ok (.aload_n 0, 1) := by decide +kernel
theorem dX4_way_1 : decode cX4_way 1 = .ok (.getfield 10, 3) := by decide +kernel
theorem dX4_way_4 : decode cX4_way 4 = .ok (.iload_n 1, 1) := by decide +kernel
theorem dX4_way_5 : decode cX4_way 5 = .ok (.invokevirtual 65, 3) := by decide +kernel
theorem dX4_way_8 : decode cX4_way 8 = .ok (.ifCond .eq 14, 3) := by decide +kernel
theorem dX4_way_11 : decode cX4_way 11 = .ok (.aload_n 0, 1) := by decide +kernel
theorem dX4_way_12 : decode cX4_way 12 = .ok (.getfield 10, 3) := by decide +kernel
theorem dX4_way_15 : decode cX4_way 15 = .ok (.iload_n 2, 1) := by decide +kernel
theorem dX4_way_16 : decode cX4_way 16 = .ok (.invokevirtual 65, 3) := by decide +kernel
theorem dX4_way_19 : decode cX4_way 19 = .ok (.ifCond .ne 5, 3) := by decide +kernel
theorem dX4_way_22 : decode cX4_way 22 = .ok (.iconst (-1), 1) := by decide +kernel
theorem dX4_way_23 : decode cX4_way 23 = .ok (.ireturn, 1) := by decide +kernel
theorem dX4_way_24 : decode cX4_way 24 = .ok (.iload_n 3, 1) := by decide +kernel
theorem dX4_way_25 : decode cX4_way 25 = .ok (.iconst (-1), 1) := by decide +kernel
theorem dX4_way_26 : decode cX4_way 26 = .ok (.if_icmp .ge 6, 3) := by decide +kernel
theorem dX4_way_29 : decode cX4_way 29 = .ok (.bipush (-2), 2) := by decide +kernel
theorem dX4_way_31 : decode cX4_way 31 = .ok (.ireturn, 1) := by decide +kernel
theorem dX4_way_32 : decode cX4_way 32 = .ok (.aload_n 0, 1) := by decide +kernel
theorem dX4_way_33 : decode cX4_way 33 = .ok (.getfield 10, 3) := by decide +kernel
theorem dX4_way_36 : decode cX4_way 36 = .ok (.aload_n 0, 1) := by decide +kernel
theorem dX4_way_37 : decode cX4_way 37 = .ok (.getfield 10, 3) := by decide +kernel
theorem dX4_way_40 : decode cX4_way 40 = .ok (.iload_n 1, 1) := by decide +kernel
theorem dX4_way_41 : decode cX4_way 41 = .ok (.iload_n 2, 1) := by decide +kernel
theorem dX4_way_42 : decode cX4_way 42 = .ok (.invokevirtual 127, 3) := by decide +kernel
theorem dX4_way_45 : decode cX4_way 45 = .ok (.invokevirtual 69, 3) := by decide +kernel
theorem dX4_way_48 : decode cX4_way 48 = .ok (.istore 4, 2) := by decide +kernel
theorem dX4_way_50 : decode cX4_way 50 = .ok (.aload_n 0, 1) := by decide +kernel
theorem dX4_way_51 : decode cX4_way 51 = .ok (.getfield 10, 3) := by decide +kernel
theorem dX4_way_54 : decode cX4_way 54 = .ok (.iload_n 1, 1) := by decide +kernel
theorem dX4_way_55 : decode cX4_way 55 = .ok (.invokevirtual 69, 3) := by decide +kernel
theorem dX4_way_58 : decode cX4_way 58 = .ok (.iload 4, 2) := by decide +kernel
theorem dX4_way_60 : decode cX4_way 60 = .ok (.isub, 1) := by decide +kernel
theorem dX4_way_61 : decode cX4_way 61 = .ok (.istore 5, 2) := by decide +kernel
theorem dX4_way_63 : decode cX4_way 63 = .ok (.iload 5, 2) := by decide +kernel
theorem dX4_way_65 : decode cX4_way 65 = .ok (.aload_n 0, 1) := by decide +kernel
theorem dX4_way_66 : decode cX4_way 66 = .ok (.getfield 10, 3) := by decide +kernel
theorem dX4_way_69 : decode cX4_way 69 = .ok (.iload_n 2, 1) := by decide +kernel
theorem dX4_way_70 : decode cX4_way 70 = .ok (.invokevirtual 69, 3) := by decide +kernel
theorem dX4_way_73 : decode cX4_way 73 = .ok (.iadd, 1) := by decide +kernel
theorem dX4_way_74 : decode cX4_way 74 = .ok (.iload 4, 2) := by decide +kernel
theorem dX4_way_76 : decode cX4_way 76 = .ok (.isub, 1) := by decide +kernel
theorem dX4_way_77 : decode cX4_way 77 = .ok (.istore 6, 2) := by decide +kernel
theorem dX4_way_79 : decode cX4_way 79 = .ok (.iload_n 3, 1) := by decide +kernel
theorem dX4_way_80 : decode cX4_way 80 = .ok (.iconst (-1), 1) := by decide +kernel
theorem dX4_way_81 : decode cX4_way 81 = .ok (.if_icmp .ne 6, 3) := by decide +kernel
theorem dX4_way_84 : decode cX4_way 84 = .ok (.iload 6, 2) := by decide +kernel
theorem dX4_way_86 : decode cX4_way 86 = .ok (.ireturn, 1) := by decide +kernel
theorem dX4_way_87 : decode cX4_way 87 = .ok (.iload_n 3, 1) := by decide +kernel
theorem dX4_way_88 : decode cX4_way 88 = .ok (.iload 6, 2) := by decide +kernel
theorem dX4_way_90 : decode cX4_way 90 = .ok (.if_icmp .le 6, 3) := by decide +kernel
theorem dX4_way_93 : decode cX4_way 93 = .ok (.bipush (-5), 2) := by decide +kernel
theorem dX4_way_95 : decode cX4_way 95 = .ok (.ireturn, 1) := by decide +kernel
theorem dX4_way_96 : decode cX4_way 96 = .ok (.iload_n 3, 1) := by decide +kernel
theorem dX4_way_97 : decode cX4_way 97 = .ok (.iload 5, 2) := by decide +kernel
theorem dX4_way_99 : decode cX4_way 99 = .ok (.if_icmp .gt 24, 3) := by decide +kernel
theorem dX4_way_102 : decode cX4_way 102 = .ok (.aload_n 0, 1) := by decide +kernel
theorem dX4_way_103 : decode cX4_way 103 = .ok (.getfield 10, 3) := by decide +kernel
theorem dX4_way_106 : decode cX4_way 106 = .ok (.iload_n 1, 1) := by decide +kernel
theorem dX4_way_107 : decode cX4_way 107 = .ok (.aload_n 0, 1) := by decide +kernel
theorem dX4_way_108 : decode cX4_way 108 = .ok (.getfield 10, 3) := by decide +kernel
theorem dX4_way_111 : decode cX4_way 111 = .ok (.iload_n 1, 1) := by decide +kernel
theorem dX4_way_112 : decode cX4_way 112 = .ok (.invokevirtual 69, 3) := by decide +kernel
theorem dX4_way_115 : decode cX4_way 115 = .ok (.iload_n 3, 1) := by decide +kernel
theorem dX4_way_116 : decode cX4_way 116 = .ok (.isub, 1) := by decide +kernel
theorem dX4_way_117 : decode cX4_way 117 = .ok (.invokevirtual 124, 3) := by decide +kernel
theorem dX4_way_120 : decode cX4_way 120 = .ok (.goto 18, 3) := by decide +kernel
theorem dX4_way_123 : decode cX4_way 123 = .ok (.aload_n 0, 1) := by decide +kernel
theorem dX4_way_124 : decode cX4_way 124 = .ok (.getfield 10, 3) := by decide +kernel
theorem dX4_way_127 : decode cX4_way 127 = .ok (.iload_n 2, 1) := by decide +kernel
theorem dX4_way_128 : decode cX4_way 128 = .ok (.iload 4, 2) := by decide +kernel
theorem dX4_way_130 : decode cX4_way 130 = .ok (.iload_n 3, 1) := by decide +kernel
theorem dX4_way_131 : decode cX4_way 131 = .ok (.iadd, 1) := by decide +kernel
theorem dX4_way_132 : decode cX4_way 132 = .ok (.iload 5, 2) := by decide +kernel
theorem dX4_way_134 : decode cX4_way 134 = .ok (.isub, 1) := by decide +kernel
theorem dX4_way_135 : decode cX4_way 135 = .ok (.invokevirtual 124, 3) := by decide +kernel
theorem dX4_way_138 : decode cX4_way 138 = .ok (.ireturn, 1) := by decide +kernel
set_option maxRecDepth 20000 in
theorem ggX4_level_X3_countAtDepth : GoodIn wsX4_level wsX3_countAtDepth := goodIn_r _ [6, 7, 8, 9, 10, 5, 11, 12, 13, 14, 15, 16, 17, 18, 19, 28, 29, 30, 31, 32] (by decide +kernel) (by decide +kernel)
set_option maxRecDepth 20000 in
theorem gX4_level_X3_countAtDepth : GoodIn wsX4_level (wsV RX4 130 RX3 yX3_countAtDepth wsX3_countAtDepth) := goodIn_app (goodIn_of _ (by decide +kernel)) ggX4_level_X3_countAtDepth
set_option maxRecDepth 20000 in
theorem ggX4_level_X3_findAtDepth : GoodIn wsX4_level wsX3_findAtDepth := goodIn_r _ [23, 7, 8, 9, 10, 5, 11, 12, 13, 14, 15, 16, 17, 18, 19, 28, 29, 30, 31, 32] (by decide +kernel) (by decide +kernel)
set_option maxRecDepth 20000 in
theorem gX4_level_X3_findAtDepth : GoodIn wsX4_level (wsV RX4 133 RX3 yX3_findAtDepth wsX3_findAtDepth) := goodIn_app (goodIn_of _ (by decide +kernel)) ggX4_level_X3_findAtDepth
theorem dX4_level_0 : decode cX4_level 0 = .ok (.iload_n 1, 1) := by decide +kernel
theorem dX4_level_1 : decode cX4_level 1 = .ok (.ifCond .lt 8, 3) := by decide +kernel
theorem dX4_level_4 : decode cX4_level 4 = .ok (.iload_n 2, 1) := by decide +kernel
theorem dX4_level_5 : decode cX4_level 5 = .ok (.iconst (-1), 1) := by decide +kernel
theorem dX4_level_6 : decode cX4_level 6 = .ok (.if_icmp .ge 6, 3) := by decide +kernel
theorem dX4_level_9 : decode cX4_level 9 = .ok (.bipush (-2), 2) := by decide +kernel
theorem dX4_level_11 : decode cX4_level 11 = .ok (.ireturn, 1) := by decide +kernel
theorem dX4_level_12 : decode cX4_level 12 = .ok (.iload_n 2, 1) := by decide +kernel
theorem dX4_level_13 : decode cX4_level 13 = .ok (.iconst (-1), 1) := by decide +kernel
theorem dX4_level_14 : decode cX4_level 14 = .ok (.if_icmp .ne 14, 3) := by decide +kernel
theorem dX4_level_17 : decode cX4_level 17 = .ok (.aload_n 0, 1) := by decide +kernel
theorem dX4_level_18 : decode cX4_level 18 = .ok (.getfield 10, 3) := by decide +kernel
theorem dX4_level_21 : decode cX4_level 21 = .ok (.iload_n 1, 1) := by decide +kernel
theorem dX4_level_22 : decode cX4_level 22 = .ok (.invokevirtual 130, 3) := by decide +kernel
theorem dX4_level_25 : decode cX4_level 25 = .ok (.goto 12, 3) := by decide +kernel
theorem dX4_level_28 : decode cX4_level 28 = .ok (.aload_n 0, 1) := by decide +kernel
theorem dX4_level_29 : decode cX4_level 29 = .ok (.getfield 10, 3) := by decide +kernel
theorem dX4_level_32 : decode cX4_level 32 = .ok (.iload_n 1, 1) := by decide +kernel
theorem dX4_level_33 : decode cX4_level 33 = .ok (.iload_n 2, 1) := by decide +kernel
theorem dX4_level_34 : decode cX4_level 34 = .ok (.invokevirtual 133, 3) := by decide +kernel
theorem dX4_level_37 : decode cX4_level 37 = .ok (.ireturn, 1) := by decide +kernel
set_option maxRecDepth 20000 in
theorem ggX4_byPostorder_X3_count : GoodIn wsX4_byPostorder wsX3_count := goodIn_r _ [6, 7, 36, 37, 38, 39, 40] (by decide +kernel) (by decide +kernel)
set_option maxRecDepth 20000 in
theorem gX4_byPostorder_X3_count : GoodIn wsX4_byPostorder (wsV RX4 55 RX3 yX3_count wsX3_count) := goodIn_app (goodIn_of _ (by decide +kernel)) ggX4_byPostorder_X3_count
set_option maxRecDepth 20000 in
theorem ggX4_byPostorder_X3_findByPostorder : GoodIn wsX4_byPostorder wsX3_findByPostorder := goodIn_r _ [11, 7, 12, 13, 14, 5, 15, 16, 17, 18, 19, 20, 21, 22, 23, 24, 25, 26, 27, 28, 29, 30, 31, 36, 37, 38, 39, 40] (by decide +kernel) (by decide +kernel)
set_option maxRecDepth 20000 in
theorem gX4_byPostorder_X3_findByPostorder : GoodIn wsX4_byPostorder (wsV RX4 136 RX3 yX3_findByPostorder wsX3_findByPostorder) := goodIn_app (goodIn_of _ (by decide +kernel)) ggX4_byPostorder_X3_findByPostorder
theorem dX4_byPostorder_0 : decode cX4_byPostorder 0 = .ok (.iload_n 1, 1) := by decide +kernel
theorem dX4_byPostorder_1 : decode cX4_byPostorder 1 = .ok (.ifCond .lt 14, 3) := by decide +kernel
theorem dX4_byPostorder_4 : decode cX4_byPostorder 4 = .ok (.iload_n 1, 1) := by decide +kernel
theorem dX4_byPostorder_5 : decode cX4_byPostorder 5 = .ok (.aload_n 0, 1) := by decide +kernel
theorem dX4_byPostorder_6 : decode cX4_byPostorder 6 = .ok (.getfield 10, 3) := by decide +kernel
theorem dX4_byPostorder_9 : decode cX4_byPostorder 9 = .ok (.invokevirtual 55, 3) := by decide +kernel
theorem dX4_byPostorder_12 : decode cX4_byPostorder 12 = .ok (.if_icmp .lt 6, 3) := by decide +kernel
theorem dX4_byPostorder_15 : decode cX4_byPostorder 15 = .ok (.bipush (-2), 2) := by decide +kernel
theorem dX4_byPostorder_17 : decode cX4_byPostorder 17 = .ok (.ireturn, 1) := by decide +kernel
theorem dX4_byPostorder_18 : decode cX4_byPostorder 18 = .ok (.aload_n 0, 1) := by decide +kernel
theorem dX4_byPostorder_19 : decode cX4_byPostorder 19 = .ok (.getfield 10, 3) := by decide +kernel
theorem dX4_byPostorder_22 : decode cX4_byPostorder 22 = .ok (.iload_n 1, 1) := by decide +kernel
theorem dX4_byPostorder_23 : decode cX4_byPostorder 23 = .ok (.invokevirtual 136, 3) := by decide +kernel
theorem dX4_byPostorder_26 : decode cX4_byPostorder 26 = .ok (.ireturn, 1) := by decide +kernel
set_option maxRecDepth 20000 in
theorem ggX4_deepest_X3_has : GoodIn wsX4_deepest wsX3_has := goodIn_r _ [6, 7, 29, 30, 31, 32, 33] (by decide +kernel) (by decide +kernel)
set_option maxRecDepth 20000 in
theorem gX4_deepest_X3_has : GoodIn wsX4_deepest (wsV RX4 65 RX3 yX3_has wsX3_has) := goodIn_app (goodIn_of _ (by decide +kernel)) ggX4_deepest_X3_has
set_option maxRecDepth 20000 in
theorem ggX4_deepest_X3_deepestOf : GoodIn wsX4_deepest wsX3_deepestOf := goodIn_r _ [11, 12, 13, 14, 5, 15, 7, 16, 17, 18, 19, 20, 21, 3, 4, 6, 22, 23, 24, 29, 30, 31, 32, 33] (by decide +kernel) (by decide +kernel)
set_option maxRecDepth 20000 in
theorem gX4_deepest_X3_deepestOf : GoodIn wsX4_deepest (wsV RX4 81 RX3 yX3_deepestOf wsX3_deepestOf) := goodIn_app (goodIn_of _ (by decide +kernel)) ggX4_deepest_X3_deepestOf
theorem dX4_deepest_0 : decode cX4_deepest 0 = .ok (.aload_n 0, 1) := by decide +kernel
theorem dX4_deepest_1 : decode cX4_deepest 1 = .ok (.getfield 10, 3) := by decide +kernel
theorem dX4_deepest_4 : decode cX4_deepest 4 = .ok (.iload_n 1, 1) := by decide +kernel
theorem dX4_deepest_5 : decode cX4_deepest 5 = .ok (.invokevirtual 65, 3) := by decide +kernel
theorem dX4_deepest_8 : decode cX4_deepest 8 = .ok (.ifCond .eq 14, 3) := by decide +kernel
theorem dX4_deepest_11 : decode cX4_deepest 11 = .ok (.aload_n 0, 1) := by decide +kernel
theorem dX4_deepest_12 : decode cX4_deepest 12 = .ok (.getfield 10, 3) := by decide +kernel
theorem dX4_deepest_15 : decode cX4_deepest 15 = .ok (.iload_n 1, 1) := by decide +kernel
theorem dX4_deepest_16 : decode cX4_deepest 16 = .ok (.invokevirtual 81, 3) := by decide +kernel
theorem dX4_deepest_19 : decode cX4_deepest 19 = .ok (.goto 4, 3) := by decide +kernel
theorem dX4_deepest_22 : decode cX4_deepest 22 = .ok (.iconst (-1), 1) := by decide +kernel
theorem dX4_deepest_23 : decode cX4_deepest 23 = .ok (.ireturn, 1) := by decide +kernel
set_option maxRecDepth 20000 in
theorem ggX4_bracket_X3_positionCount : GoodIn wsX4_bracket wsX3_positionCount := goodIn_r _ [6, 7, 62, 63, 64, 65, 66] (by decide +kernel) (by decide +kernel)
set_option maxRecDepth 20000 in
theorem gX4_bracket_X3_positionCount : GoodIn wsX4_bracket (wsV RX4 139 RX3 yX3_positionCount wsX3_positionCount) := goodIn_app (goodIn_of _ (by decide +kernel)) ggX4_bracket_X3_positionCount
set_option maxRecDepth 20000 in
theorem ggX4_bracket_X3_nodeOfPosition : GoodIn wsX4_bracket wsX3_nodeOfPosition := goodIn_r _ [11, 12, 13, 14, 5, 15, 7, 16, 17, 18, 19, 20, 21, 22, 23, 24, 25, 26, 27, 28, 29, 30, 31, 32, 33, 34, 35, 36, 37, 38, 39, 62, 63, 64, 65, 66] (by decide +kernel) (by decide +kernel)
set_option maxRecDepth 20000 in
theorem gX4_bracket_X3_nodeOfPosition : GoodIn wsX4_bracket (wsV RX4 142 RX3 yX3_nodeOfPosition wsX3_nodeOfPosition) := goodIn_app (goodIn_of _ (by decide +kernel)) ggX4_bracket_X3_nodeOfPosition
set_option maxRecDepth 20000 in
theorem ggX4_bracket_X3_openingOf : GoodIn wsX4_bracket wsX3_openingOf := goodIn_r _ [19, 20, 21, 22, 5, 23, 24, 25, 26, 27, 28, 7, 29, 30, 31, 62, 63, 64, 65, 66] (by decide +kernel) (by decide +kernel)
set_option maxRecDepth 20000 in
theorem gX4_bracket_X3_openingOf : GoodIn wsX4_bracket (wsV RX4 90 RX3 yX3_openingOf wsX3_openingOf) := goodIn_app (goodIn_of _ (by decide +kernel)) ggX4_bracket_X3_openingOf
set_option maxRecDepth 20000 in
theorem ggX4_bracket_X3_excessBefore : GoodIn wsX4_bracket wsX3_excessBefore := goodIn_r _ [35, 12, 13, 14, 5, 15, 7, 16, 17, 18, 19, 20, 21, 22, 23, 24, 25, 26, 27, 28, 29, 30, 31, 62, 63, 64, 65, 66] (by decide +kernel) (by decide +kernel)
set_option maxRecDepth 20000 in
theorem gX4_bracket_X3_excessBefore : GoodIn wsX4_bracket (wsV RX4 145 RX3 yX3_excessBefore wsX3_excessBefore) := goodIn_app (goodIn_of _ (by decide +kernel)) ggX4_bracket_X3_excessBefore
set_option maxRecDepth 20000 in
theorem ggX4_bracket_X3_closingOf : GoodIn wsX4_bracket wsX3_closingOf := goodIn_r _ [45, 16, 17, 18, 5, 19, 20, 21, 22, 23, 24, 25, 26, 27, 28, 7, 29, 30, 31, 46, 47, 48, 49, 50, 51, 52, 53, 62, 63, 64, 65, 66] (by decide +kernel) (by decide +kernel)
set_option maxRecDepth 20000 in
theorem gX4_bracket_X3_closingOf : GoodIn wsX4_bracket (wsV RX4 93 RX3 yX3_closingOf wsX3_closingOf) := goodIn_app (goodIn_of _ (by decide +kernel)) ggX4_bracket_X3_closingOf
set_option maxRecDepth 20000 in
theorem ggX4_bracket_X3_parentOf : GoodIn wsX4_bracket wsX3_parentOf := goodIn_r _ [57, 20, 21, 22, 5, 23, 24, 25, 26, 27, 28, 7, 29, 30, 31, 36, 37, 38, 39, 62, 63, 64, 65, 66] (by decide +kernel) (by decide +kernel)
set_option maxRecDepth 20000 in
theorem gX4_bracket_X3_parentOf : GoodIn wsX4_bracket (wsV RX4 72 RX3 yX3_parentOf wsX3_parentOf) := goodIn_app (goodIn_of _ (by decide +kernel)) ggX4_bracket_X3_parentOf
theorem dX4_bracket_0 : decode cX4_bracket 0 = .ok (.iload_n 1, 1) := by decide +kernel
theorem dX4_bracket_1 : decode cX4_bracket 1 = .ok (.ifCond .lt 14, 3) := by decide +kernel
theorem dX4_bracket_4 : decode cX4_bracket 4 = .ok (.iload_n 1, 1) := by decide +kernel
theorem dX4_bracket_5 : decode cX4_bracket 5 = .ok (.aload_n 0, 1) := by decide +kernel
theorem dX4_bracket_6 : decode cX4_bracket 6 = .ok (.getfield 10, 3) := by decide +kernel
theorem dX4_bracket_9 : decode cX4_bracket 9 = .ok (.invokevirtual 139, 3) := by decide +kernel
theorem dX4_bracket_12 : decode cX4_bracket 12 = .ok (.if_icmp .lt 5, 3) := by decide +kernel
theorem dX4_bracket_15 : decode cX4_bracket 15 = .ok (.iconst (-1), 1) := by decide +kernel
theorem dX4_bracket_16 : decode cX4_bracket 16 = .ok (.ireturn, 1) := by decide +kernel
theorem dX4_bracket_17 : decode cX4_bracket 17 = .ok (.aload_n 0, 1) := by decide +kernel
theorem dX4_bracket_18 : decode cX4_bracket 18 = .ok (.getfield 10, 3) := by decide +kernel
theorem dX4_bracket_21 : decode cX4_bracket 21 = .ok (.iload_n 1, 1) := by decide +kernel
theorem dX4_bracket_22 : decode cX4_bracket 22 = .ok (.invokevirtual 142, 3) := by decide +kernel
theorem dX4_bracket_25 : decode cX4_bracket 25 = .ok (.istore_n 3, 1) := by decide +kernel
theorem dX4_bracket_26 : decode cX4_bracket 26 = .ok (.aload_n 0, 1) := by decide +kernel
theorem dX4_bracket_27 : decode cX4_bracket 27 = .ok (.getfield 10, 3) := by decide +kernel
theorem dX4_bracket_30 : decode cX4_bracket 30 = .ok (.iload_n 3, 1) := by decide +kernel
theorem dX4_bracket_31 : decode cX4_bracket 31 = .ok (.invokevirtual 90, 3) := by decide +kernel
theorem dX4_bracket_34 : decode cX4_bracket 34 = .ok (.iload_n 1, 1) := by decide +kernel
theorem dX4_bracket_35 : decode cX4_bracket 35 = .ok (.if_icmp .ne 7, 3) := by decide +kernel
theorem dX4_bracket_38 : decode cX4_bracket 38 = .ok (.iconst 1, 1) := by decide +kernel
theorem dX4_bracket_39 : decode cX4_bracket 39 = .ok (.goto 4, 3) := by decide +kernel
theorem dX4_bracket_42 : decode cX4_bracket 42 = .ok (.iconst 0, 1) := by decide +kernel
theorem dX4_bracket_43 : decode cX4_bracket 43 = .ok (.istore 4, 2) := by decide +kernel
theorem dX4_bracket_45 : decode cX4_bracket 45 = .ok (.iload_n 2, 1) := by decide +kernel
theorem dX4_bracket_46 : decode cX4_bracket 46 = .ok (.tableswitch 108 0 4 #[34, 45, 56, 81, 106], 34) := by decide +kernel
theorem dX4_bracket_80 : decode cX4_bracket 80 = .ok (.iload 4, 2) := by decide +kernel
theorem dX4_bracket_82 : decode cX4_bracket 82 = .ok (.ifCond .eq 7, 3) := by decide +kernel
theorem dX4_bracket_85 : decode cX4_bracket 85 = .ok (.iconst 1, 1) := by decide +kernel
theorem dX4_bracket_86 : decode cX4_bracket 86 = .ok (.goto 4, 3) := by decide +kernel
theorem dX4_bracket_89 : decode cX4_bracket 89 = .ok (.iconst 0, 1) := by decide +kernel
theorem dX4_bracket_90 : decode cX4_bracket 90 = .ok (.ireturn, 1) := by decide +kernel
theorem dX4_bracket_91 : decode cX4_bracket 91 = .ok (.aload_n 0, 1) := by decide +kernel
theorem dX4_bracket_92 : decode cX4_bracket 92 = .ok (.getfield 10, 3) := by decide +kernel
theorem dX4_bracket_95 : decode cX4_bracket 95 = .ok (.iload_n 1, 1) := by decide +kernel
theorem dX4_bracket_96 : decode cX4_bracket 96 = .ok (.iconst 1, 1) := by decide +kernel
theorem dX4_bracket_97 : decode cX4_bracket 97 = .ok (.iadd, 1) := by decide +kernel
theorem dX4_bracket_98 : decode cX4_bracket 98 = .ok (.invokevirtual 145, 3) := by decide +kernel
theorem dX4_bracket_101 : decode cX4_bracket 101 = .ok (.ireturn, 1) := by decide +kernel
theorem dX4_bracket_102 : decode cX4_bracket 102 = .ok (.iload 4, 2) := by decide +kernel
theorem dX4_bracket_104 : decode cX4_bracket 104 = .ok (.ifCond .eq 14, 3) := by decide +kernel
theorem dX4_bracket_107 : decode cX4_bracket 107 = .ok (.aload_n 0, 1) := by decide +kernel
theorem dX4_bracket_108 : decode cX4_bracket 108 = .ok (.getfield 10, 3) := by decide +kernel
theorem dX4_bracket_111 : decode cX4_bracket 111 = .ok (.iload_n 3, 1) := by decide +kernel
theorem dX4_bracket_112 : decode cX4_bracket 112 = .ok (.invokevirtual 93, 3) := by decide +kernel
theorem dX4_bracket_115 : decode cX4_bracket 115 = .ok (.goto 11, 3) := by decide +kernel
theorem dX4_bracket_118 : decode cX4_bracket 118 = .ok (.aload_n 0, 1) := by decide +kernel
theorem dX4_bracket_119 : decode cX4_bracket 119 = .ok (.getfield 10, 3) := by decide +kernel
theorem dX4_bracket_122 : decode cX4_bracket 122 = .ok (.iload_n 3, 1) := by decide +kernel
theorem dX4_bracket_123 : decode cX4_bracket 123 = .ok (.invokevirtual 90, 3) := by decide +kernel
theorem dX4_bracket_126 : decode cX4_bracket 126 = .ok (.ireturn, 1) := by decide +kernel
theorem dX4_bracket_127 : decode cX4_bracket 127 = .ok (.iload_n 3, 1) := by decide +kernel
theorem dX4_bracket_128 : decode cX4_bracket 128 = .ok (.ifCond .ne 8, 3) := by decide +kernel
theorem dX4_bracket_131 : decode cX4_bracket 131 = .ok (.bipush (-5), 2) := by decide +kernel
theorem dX4_bracket_133 : decode cX4_bracket 133 = .ok (.goto 18, 3) := by decide +kernel
theorem dX4_bracket_136 : decode cX4_bracket 136 = .ok (.aload_n 0, 1) := by decide +kernel
theorem dX4_bracket_137 : decode cX4_bracket 137 = .ok (.getfield 10, 3) := by decide +kernel
theorem dX4_bracket_140 : decode cX4_bracket 140 = .ok (.aload_n 0, 1) := by decide +kernel
theorem dX4_bracket_141 : decode cX4_bracket 141 = .ok (.getfield 10, 3) := by decide +kernel
theorem dX4_bracket_144 : decode cX4_bracket 144 = .ok (.iload_n 3, 1) := by decide +kernel
theorem dX4_bracket_145 : decode cX4_bracket 145 = .ok (.invokevirtual 72, 3) := by decide +kernel
theorem dX4_bracket_148 : decode cX4_bracket 148 = .ok (.invokevirtual 90, 3) := by decide +kernel
theorem dX4_bracket_151 : decode cX4_bracket 151 = .ok (.ireturn, 1) := by decide +kernel
theorem dX4_bracket_152 : decode cX4_bracket 152 = .ok (.iload_n 3, 1) := by decide +kernel
theorem dX4_bracket_153 : decode cX4_bracket 153 = .ok (.ireturn, 1) := by decide +kernel
theorem dX4_bracket_154 : decode cX4_bracket 154 = .ok (.bipush (-2), 2) := by decide +kernel
theorem dX4_bracket_156 : decode cX4_bracket 156 = .ok (.ireturn, 1) := by decide +kernel
set_option maxRecDepth 20000 in
theorem ggX4_setWidth_X0_changeWidth : GoodIn wsX4_setWidth wsX0_changeWidth := goodIn_r _ [6, 7, 12] (by decide +kernel) (by decide +kernel)
set_option maxRecDepth 20000 in
theorem gX4_setWidth_X0_changeWidth : GoodIn wsX4_setWidth (wsV RX4 148 RX0 yX0_changeWidth wsX0_changeWidth) := goodIn_app (goodIn_of _ (by decide +kernel)) ggX4_setWidth_X0_changeWidth
theorem dX4_setWidth_0 : decode cX4_setWidth 0 = .ok (.iload_n 1, 1) := by decide +kernel
theorem dX4_setWidth_1 : decode cX4_setWidth 1 = .ok (.iconst 4, 1) := by decide +kernel
theorem dX4_setWidth_2 : decode cX4_setWidth 2 = .ok (.if_icmp .lt 9, 3) := by decide +kernel
theorem dX4_setWidth_5 : decode cX4_setWidth 5 = .ok (.iload_n 1, 1) := by decide +kernel
theorem dX4_setWidth_6 : decode cX4_setWidth 6 = .ok (.bipush 32, 2) := by decide +kernel
theorem dX4_setWidth_8 : decode cX4_setWidth 8 = .ok (.if_icmp .le 6, 3) := by decide +kernel
theorem dX4_setWidth_11 : decode cX4_setWidth 11 = .ok (.bipush (-2), 2) := by decide +kernel
theorem dX4_setWidth_13 : decode cX4_setWidth 13 = .ok (.ireturn, 1) := by decide +kernel
theorem dX4_setWidth_14 : decode cX4_setWidth 14 = .ok (.aload_n 0, 1) := by decide +kernel
theorem dX4_setWidth_15 : decode cX4_setWidth 15 = .ok (.getfield 19, 3) := by decide +kernel
theorem dX4_setWidth_18 : decode cX4_setWidth 18 = .ok (.iload_n 1, 1) := by decide +kernel
theorem dX4_setWidth_19 : decode cX4_setWidth 19 = .ok (.invokevirtual 148, 3) := by decide +kernel
theorem dX4_setWidth_22 : decode cX4_setWidth 22 = .ok (.ireturn, 1) := by decide +kernel
set_option maxRecDepth 20000 in
theorem ggX4_block_X0_countFor : GoodIn wsX4_block wsX0_countFor := goodIn_r _ [7, 8, 9, 10, 11, 12, 13, 14, 15, 16, 17, 18, 76, 77, 78, 79, 80, 81] (by decide +kernel) (by decide +kernel)
set_option maxRecDepth 20000 in
theorem gX4_block_X0_countFor : GoodIn wsX4_block (wsV RX4 151 RX0 yX0_countFor wsX0_countFor) := goodIn_app (goodIn_of _ (by decide +kernel)) ggX4_block_X0_countFor
set_option maxRecDepth 20000 in
theorem ggX4_block_X0_startOf : GoodIn wsX4_block wsX0_startOf := goodIn_r _ [22, 8, 76] (by decide +kernel) (by decide +kernel)
set_option maxRecDepth 20000 in
theorem gX4_block_X0_startOf : GoodIn wsX4_block (wsV RX4 155 RX0 yX0_startOf wsX0_startOf) := goodIn_app (goodIn_of _ (by decide +kernel)) ggX4_block_X0_startOf
set_option maxRecDepth 20000 in
theorem ggX4_block_X3_excessBefore : GoodIn wsX4_block wsX3_excessBefore := goodIn_r _ [26, 27, 28, 29, 16, 30, 18, 31, 32, 33, 34, 35, 36, 37, 38, 39, 40, 41, 42, 43, 44, 45, 46, 77, 78, 79, 80, 81] (by decide +kernel) (by decide +kernel)
set_option maxRecDepth 20000 in
theorem gX4_block_X3_excessBefore : GoodIn wsX4_block (wsV RX4 145 RX3 yX3_excessBefore wsX3_excessBefore) := goodIn_app (goodIn_of _ (by decide +kernel)) ggX4_block_X3_excessBefore
set_option maxRecDepth 20000 in
theorem ggX4_block_X0_leastExcess : GoodIn wsX4_block wsX0_leastExcess := goodIn_r _ [50, 51, 52, 11, 53, 54, 55, 56, 6, 57, 8, 58, 20, 21, 22, 13, 14, 15, 16, 17, 18, 59, 28, 29, 30, 31, 32, 33, 34, 35, 36, 37, 38, 39, 40, 41, 42, 43, 44, 45, 46, 60, 61, 62, 63, 76, 77, 78, 79, 80, 81] (by decide +kernel) (by decide +kernel)
set_option maxRecDepth 20000 in
theorem gX4_block_X0_leastExcess : GoodIn wsX4_block (wsV RX4 158 RX0 yX0_leastExcess wsX0_leastExcess) := goodIn_app (goodIn_of _ (by decide +kernel)) ggX4_block_X0_leastExcess
set_option maxRecDepth 20000 in
theorem ggX4_block_X0_greatestExcess : GoodIn wsX4_block wsX0_greatestExcess := goodIn_r _ [67, 9, 10, 11, 12, 54, 55, 56, 6, 57, 8, 51, 52, 53, 58, 20, 21, 22, 13, 14, 15, 16, 17, 18, 59, 28, 29, 30, 31, 32, 33, 34, 35, 36, 37, 38, 39, 40, 41, 42, 43, 44, 45, 46, 60, 61, 62, 63, 76, 77, 78, 79, 80, 81] (by decide +kernel) (by decide +kernel)
set_option maxRecDepth 20000 in
theorem gX4_block_X0_greatestExcess : GoodIn wsX4_block (wsV RX4 162 RX0 yX0_greatestExcess wsX0_greatestExcess) := goodIn_app (goodIn_of _ (by decide +kernel)) ggX4_block_X0_greatestExcess
set_option maxRecDepth 20000 in
theorem ggX4_block_X0_positionsOf : GoodIn wsX4_block wsX0_positionsOf := goodIn_r _ [71, 54, 55, 56, 6, 57, 8, 51, 52, 11, 53, 58, 20, 21, 22, 13, 14, 15, 16, 17, 18, 76, 77, 78, 79, 80, 81] (by decide +kernel) (by decide +kernel)
set_option maxRecDepth 20000 in
theorem gX4_block_X0_positionsOf : GoodIn wsX4_block (wsV RX4 165 RX0 yX0_positionsOf wsX0_positionsOf) := goodIn_app (goodIn_of _ (by decide +kernel)) ggX4_block_X0_positionsOf
theorem dX4_block_0 : decode cX4_block 0 = .ok (.iload_n 1, 1) := by decide +kernel
theorem dX4_block_1 : decode cX4_block 1 = .ok (.ifCond .lt 18, 3) := by decide +kernel
theorem dX4_block_4 : decode cX4_block 4 = .ok (.iload_n 1, 1) := by decide +kernel
theorem dX4_block_5 : decode cX4_block 5 = .ok (.aload_n 0, 1) := by decide +kernel
theorem dX4_block_6 : decode cX4_block 6 = .ok (.getfield 19, 3) := by decide +kernel
theorem dX4_block_9 : decode cX4_block 9 = .ok (.aload_n 0, 1) := by decide +kernel
theorem dX4_block_10 : decode cX4_block 10 = .ok (.getfield 10, 3) := by decide +kernel
theorem dX4_block_13 : decode cX4_block 13 = .ok (.invokevirtual 151, 3) := by decide +kernel
theorem dX4_block_16 : decode cX4_block 16 = .ok (.if_icmp .lt 5, 3) := by decide +kernel
theorem dX4_block_19 : decode cX4_block 19 = .ok (.iconst (-1), 1) := by decide +kernel
theorem dX4_block_20 : decode cX4_block 20 = .ok (.ireturn, 1) := by decide +kernel
theorem dX4_block_21 : decode cX4_block 21 = .ok (.iload_n 2, 1) := by decide +kernel
theorem dX4_block_22 : decode cX4_block 22 = .ok (.tableswitch 85 0 3 #[30, 46, 59, 72], 30) := by decide +kernel
theorem dX4_block_52 : decode cX4_block 52 = .ok (.aload_n 0, 1) := by decide +kernel
theorem dX4_block_53 : decode cX4_block 53 = .ok (.getfield 10, 3) := by decide +kernel
theorem dX4_block_56 : decode cX4_block 56 = .ok (.aload_n 0, 1) := by decide +kernel
theorem dX4_block_57 : decode cX4_block 57 = .ok (.getfield 19, 3) := by decide +kernel
theorem dX4_block_60 : decode cX4_block 60 = .ok (.iload_n 1, 1) := by decide +kernel
theorem dX4_block_61 : decode cX4_block 61 = .ok (.invokevirtual 155, 3) := by decide +kernel
theorem dX4_block_64 : decode cX4_block 64 = .ok (.invokevirtual 145, 3) := by decide +kernel
theorem dX4_block_67 : decode cX4_block 67 = .ok (.ireturn, 1) := by decide +kernel
theorem dX4_block_68 : decode cX4_block 68 = .ok (.aload_n 0, 1) := by decide +kernel
theorem dX4_block_69 : decode cX4_block 69 = .ok (.getfield 19, 3) := by decide +kernel
theorem dX4_block_72 : decode cX4_block 72 = .ok (.aload_n 0, 1) := by decide +kernel
theorem dX4_block_73 : decode cX4_block 73 = .ok (.getfield 10, 3) := by decide +kernel
theorem dX4_block_76 : decode cX4_block 76 = .ok (.iload_n 1, 1) := by decide +kernel
theorem dX4_block_77 : decode cX4_block 77 = .ok (.invokevirtual 158, 3) := by decide +kernel
theorem dX4_block_80 : decode cX4_block 80 = .ok (.ireturn, 1) := by decide +kernel
theorem dX4_block_81 : decode cX4_block 81 = .ok (.aload_n 0, 1) := by decide +kernel
theorem dX4_block_82 : decode cX4_block 82 = .ok (.getfield 19, 3) := by decide +kernel
theorem dX4_block_85 : decode cX4_block 85 = .ok (.aload_n 0, 1) := by decide +kernel
theorem dX4_block_86 : decode cX4_block 86 = .ok (.getfield 10, 3) := by decide +kernel
theorem dX4_block_89 : decode cX4_block 89 = .ok (.iload_n 1, 1) := by decide +kernel
theorem dX4_block_90 : decode cX4_block 90 = .ok (.invokevirtual 162, 3) := by decide +kernel
theorem dX4_block_93 : decode cX4_block 93 = .ok (.ireturn, 1) := by decide +kernel
theorem dX4_block_94 : decode cX4_block 94 = .ok (.aload_n 0, 1) := by decide +kernel
theorem dX4_block_95 : decode cX4_block 95 = .ok (.getfield 19, 3) := by decide +kernel
theorem dX4_block_98 : decode cX4_block 98 = .ok (.aload_n 0, 1) := by decide +kernel
theorem dX4_block_99 : decode cX4_block 99 = .ok (.getfield 10, 3) := by decide +kernel
theorem dX4_block_102 : decode cX4_block 102 = .ok (.iload_n 1, 1) := by decide +kernel
theorem dX4_block_103 : decode cX4_block 103 = .ok (.invokevirtual 165, 3) := by decide +kernel
theorem dX4_block_106 : decode cX4_block 106 = .ok (.ireturn, 1) := by decide +kernel
theorem dX4_block_107 : decode cX4_block 107 = .ok (.bipush (-2), 2) := by decide +kernel
theorem dX4_block_109 : decode cX4_block 109 = .ok (.ireturn, 1) := by decide +kernel
set_option maxRecDepth 20000 in
theorem ggX4_space_X3_count : GoodIn wsX4_space wsX3_count := goodIn_r _ [7, 8, 31, 32, 33, 34, 35] (by decide +kernel) (by decide +kernel)
set_option maxRecDepth 20000 in
theorem gX4_space_X3_count : GoodIn wsX4_space (wsV RX4 55 RX3 yX3_count wsX3_count) := goodIn_app (goodIn_of _ (by decide +kernel)) ggX4_space_X3_count
set_option maxRecDepth 20000 in
theorem ggX4_space_X4_binaryDigits : GoodIn wsX4_space wsX4_binaryDigits := goodIn_r _ [12] (by decide +kernel) (by decide +kernel)
set_option maxRecDepth 20000 in
theorem gX4_space_X4_binaryDigits : GoodIn wsX4_space (va_wsS RX4 168 yX4_binaryDigits wsX4_binaryDigits) := goodIn_app (goodIn_of _ (by decide +kernel)) ggX4_space_X4_binaryDigits
set_option maxRecDepth 20000 in
theorem ggX4_space_X0_countFor : GoodIn wsX4_space wsX0_countFor := goodIn_r _ [17, 18, 19, 20, 21, 22, 23, 24, 25, 6, 26, 8, 36, 31, 32, 33, 34, 35] (by decide +kernel) (by decide +kernel)
set_option maxRecDepth 20000 in
theorem gX4_space_X0_countFor : GoodIn wsX4_space (wsV RX4 151 RX0 yX0_countFor wsX0_countFor) := goodIn_app (goodIn_of _ (by decide +kernel)) ggX4_space_X0_countFor
theorem dX4_space_0 : decode cX4_space 0 = .ok (.iconst 2, 1) := by decide +kernel
theorem dX4_space_1 : decode cX4_space 1 = .ok (.aload_n 0, 1) := by decide +kernel
theorem dX4_space_2 : decode cX4_space 2 = .ok (.getfield 10, 3) := by decide +kernel
theorem dX4_space_5 : decode cX4_space 5 = .ok (.invokevirtual 55, 3) := by decide +kernel
theorem dX4_space_8 : decode cX4_space 8 = .ok (.imul, 1) := by decide +kernel
theorem dX4_space_9 : decode cX4_space 9 = .ok (.istore_n 2, 1) := by decide +kernel
theorem dX4_space_10 : decode cX4_space 10 = .ok (.iconst 5, 1) := by decide +kernel
theorem dX4_space_11 : decode cX4_space 11 = .ok (.aload_n 0, 1) := by decide +kernel
theorem dX4_space_12 : decode cX4_space 12 = .ok (.getfield 10, 3) := by decide +kernel
theorem dX4_space_15 : decode cX4_space 15 = .ok (.invokevirtual 55, 3) := by decide +kernel
theorem dX4_space_18 : decode cX4_space 18 = .ok (.imul, 1) := by decide +kernel
theorem dX4_space_19 : decode cX4_space 19 = .ok (.istore_n 3, 1) := by decide +kernel
theorem dX4_space_20 : decode cX4_space 20 = .ok (.iconst 3, 1) := by decide +kernel
theorem dX4_space_21 : decode cX4_space 21 = .ok (.aload_n 0, 1) := by decide +kernel
theorem dX4_space_22 : decode cX4_space 22 = .ok (.getfield 10, 3) := by decide +kernel
theorem dX4_space_25 : decode cX4_space 25 = .ok (.invokevirtual 55, 3) := by decide +kernel
theorem dX4_space_28 : decode cX4_space 28 = .ok (.invokestatic 168, 3) := by decide +kernel
theorem dX4_space_31 : decode cX4_space 31 = .ok (.imul, 1) := by decide +kernel
theorem dX4_space_32 : decode cX4_space 32 = .ok (.aload_n 0, 1) := by decide +kernel
theorem dX4_space_33 : decode cX4_space 33 = .ok (.getfield 19, 3) := by decide +kernel
theorem dX4_space_36 : decode cX4_space 36 = .ok (.aload_n 0, 1) := by decide +kernel
theorem dX4_space_37 : decode cX4_space 37 = .ok (.getfield 10, 3) := by decide +kernel
theorem dX4_space_40 : decode cX4_space 40 = .ok (.invokevirtual 151, 3) := by decide +kernel
theorem dX4_space_43 : decode cX4_space 43 = .ok (.imul, 1) := by decide +kernel
theorem dX4_space_44 : decode cX4_space 44 = .ok (.istore 4, 2) := by decide +kernel
theorem dX4_space_46 : decode cX4_space 46 = .ok (.iload_n 1, 1) := by decide +kernel
theorem dX4_space_47 : decode cX4_space 47 = .ok (.tableswitch 59 0 4 #[33, 35, 37, 40, 47], 33) := by decide +kernel
theorem dX4_space_80 : decode cX4_space 80 = .ok (.iload_n 2, 1) := by decide +kernel
theorem dX4_space_81 : decode cX4_space 81 = .ok (.ireturn, 1) := by decide +kernel
theorem dX4_space_82 : decode cX4_space 82 = .ok (.iload_n 3, 1) := by decide +kernel
theorem dX4_space_83 : decode cX4_space 83 = .ok (.ireturn, 1) := by decide +kernel
theorem dX4_space_84 : decode cX4_space 84 = .ok (.iload 4, 2) := by decide +kernel
theorem dX4_space_86 : decode cX4_space 86 = .ok (.ireturn, 1) := by decide +kernel
theorem dX4_space_87 : decode cX4_space 87 = .ok (.iload_n 2, 1) := by decide +kernel
theorem dX4_space_88 : decode cX4_space 88 = .ok (.iload_n 3, 1) := by decide +kernel
theorem dX4_space_89 : decode cX4_space 89 = .ok (.iadd, 1) := by decide +kernel
theorem dX4_space_90 : decode cX4_space 90 = .ok (.iload 4, 2) := by decide +kernel
theorem dX4_space_92 : decode cX4_space 92 = .ok (.iadd, 1) := by decide +kernel
theorem dX4_space_93 : decode cX4_space 93 = .ok (.ireturn, 1) := by decide +kernel
theorem dX4_space_94 : decode cX4_space 94 = .ok (.aload_n 0, 1) := by decide +kernel
theorem dX4_space_95 : decode cX4_space 95 = .ok (.getfield 19, 3) := by decide +kernel
theorem dX4_space_98 : decode cX4_space 98 = .ok (.aload_n 0, 1) := by decide +kernel
theorem dX4_space_99 : decode cX4_space 99 = .ok (.getfield 10, 3) := by decide +kernel
theorem dX4_space_102 : decode cX4_space 102 = .ok (.invokevirtual 151, 3) := by decide +kernel
theorem dX4_space_105 : decode cX4_space 105 = .ok (.ireturn, 1) := by decide +kernel
theorem dX4_space_106 : decode cX4_space 106 = .ok (.bipush (-2), 2) := by decide +kernel
theorem dX4_space_108 : decode cX4_space 108 = .ok (.ireturn, 1) := by decide +kernel
set_option maxRecDepth 20000 in
theorem ggX4_setLabel_X3_has : GoodIn wsX4_setLabel wsX3_has := goodIn_r _ [7, 8, 56, 57, 58, 59, 60] (by decide +kernel) (by decide +kernel)
set_option maxRecDepth 20000 in
theorem gX4_setLabel_X3_has : GoodIn wsX4_setLabel (wsV RX4 65 RX3 yX3_has wsX3_has) := goodIn_app (goodIn_of _ (by decide +kernel)) ggX4_setLabel_X3_has
set_option maxRecDepth 20000 in
theorem ggX4_setLabel_X4_isLetter : GoodIn wsX4_setLabel wsX4_isLetter := goodIn_r _ [12] (by decide +kernel) (by decide +kernel)
set_option maxRecDepth 20000 in
theorem gX4_setLabel_X4_isLetter : GoodIn wsX4_setLabel (va_wsS RX4 171 yX4_isLetter wsX4_isLetter) := goodIn_app (goodIn_of _ (by decide +kernel)) ggX4_setLabel_X4_isLetter
set_option maxRecDepth 20000 in
theorem ggX4_setLabel_X3_labelOf : GoodIn wsX4_setLabel wsX3_labelOf := goodIn_r _ [16, 17, 18, 11, 19, 56, 57, 58, 59, 60] (by decide +kernel) (by decide +kernel)
set_option maxRecDepth 20000 in
theorem gX4_setLabel_X3_labelOf : GoodIn wsX4_setLabel (wsV RX4 99 RX3 yX3_labelOf wsX3_labelOf) := goodIn_app (goodIn_of _ (by decide +kernel)) ggX4_setLabel_X3_labelOf
set_option maxRecDepth 20000 in
theorem ggX4_setLabel_X1_record : GoodIn wsX4_setLabel wsX1_record := goodIn_r _ [24, 25, 26, 27, 28, 29, 30, 31, 32, 33, 34, 35, 36, 6, 37, 8, 38, 11, 39, 40, 41, 42, 43, 44, 45, 4, 5, 7, 18, 19, 46, 14, 15, 16, 17, 61, 62, 63, 64, 65, 56, 57, 58, 59, 60] (by decide +kernel) (by decide +kernel)
set_option maxRecDepth 20000 in
theorem gX4_setLabel_X1_record : GoodIn wsX4_setLabel (wsV RX4 48 RX1 yX1_record wsX1_record) := goodIn_app (goodIn_of _ (by decide +kernel)) ggX4_setLabel_X1_record
set_option maxRecDepth 20000 in
theorem ggX4_setLabel_X3_depthOf : GoodIn wsX4_setLabel wsX3_depthOf := goodIn_r _ [43, 44, 45, 4, 5, 6, 7, 8, 18, 11, 19, 56, 57, 58, 59, 60] (by decide +kernel) (by decide +kernel)
set_option maxRecDepth 20000 in
theorem gX4_setLabel_X3_depthOf : GoodIn wsX4_setLabel (wsV RX4 69 RX3 yX3_depthOf wsX3_depthOf) := goodIn_app (goodIn_of _ (by decide +kernel)) ggX4_setLabel_X3_depthOf
set_option maxRecDepth 20000 in
theorem ggX4_setLabel_X3_putNode : GoodIn wsX4_setLabel wsX3_putNode := goodIn_r _ [51, 44, 17, 38, 11, 39, 56, 57, 58, 59, 60] (by decide +kernel) (by decide +kernel)
set_option maxRecDepth 20000 in
theorem gX4_setLabel_X3_putNode : GoodIn wsX4_setLabel (wsV RX4 174 RX3 yX3_putNode wsX3_putNode) := goodIn_app (goodIn_of _ (by decide +kernel)) ggX4_setLabel_X3_putNode
theorem dX4_setLabel_0 : decode cX4_setLabel 0 = .ok (.aload_n 0, 1) := by decide +kernel
theorem dX4_setLabel_1 : decode cX4_setLabel 1 = .ok (.getfield 10, 3) := by decide +kernel
theorem dX4_setLabel_4 : decode cX4_setLabel 4 = .ok (.iload_n 1, 1) := by decide +kernel
theorem dX4_setLabel_5 : decode cX4_setLabel 5 = .ok (.invokevirtual 65, 3) := by decide +kernel
theorem dX4_setLabel_8 : decode cX4_setLabel 8 = .ok (.ifCond .ne 5, 3) := by decide +kernel
theorem dX4_setLabel_11 : decode cX4_setLabel 11 = .ok (.iconst (-1), 1) := by decide +kernel
theorem dX4_setLabel_12 : decode cX4_setLabel 12 = .ok (.ireturn, 1) := by decide +kernel
theorem dX4_setLabel_13 : decode cX4_setLabel 13 = .ok (.iload_n 2, 1) := by decide +kernel
theorem dX4_setLabel_14 : decode cX4_setLabel 14 = .ok (.invokestatic 171, 3) := by decide +kernel
theorem dX4_setLabel_17 : decode cX4_setLabel 17 = .ok (.ifCond .ne 6, 3) := by decide +kernel
theorem dX4_setLabel_20 : decode cX4_setLabel 20 = .ok (.bipush (-2), 2) := by decide +kernel
theorem dX4_setLabel_22 : decode cX4_setLabel 22 = .ok (.ireturn, 1) := by decide +kernel
theorem dX4_setLabel_23 : decode cX4_setLabel 23 = .ok (.aload_n 0, 1) := by decide +kernel
theorem dX4_setLabel_24 : decode cX4_setLabel 24 = .ok (.getfield 10, 3) := by decide +kernel
theorem dX4_setLabel_27 : decode cX4_setLabel 27 = .ok (.iload_n 1, 1) := by decide +kernel
theorem dX4_setLabel_28 : decode cX4_setLabel 28 = .ok (.invokevirtual 99, 3) := by decide +kernel
theorem dX4_setLabel_31 : decode cX4_setLabel 31 = .ok (.istore_n 3, 1) := by decide +kernel
theorem dX4_setLabel_32 : decode cX4_setLabel 32 = .ok (.aload_n 0, 1) := by decide +kernel
theorem dX4_setLabel_33 : decode cX4_setLabel 33 = .ok (.getfield 26, 3) := by decide +kernel
theorem dX4_setLabel_36 : decode cX4_setLabel 36 = .ok (.aload_n 0, 1) := by decide +kernel
theorem dX4_setLabel_37 : decode cX4_setLabel 37 = .ok (.getfield 10, 3) := by decide +kernel
theorem dX4_setLabel_40 : decode cX4_setLabel 40 = .ok (.invokevirtual 48, 3) := by decide +kernel
theorem dX4_setLabel_43 : decode cX4_setLabel 43 = .ok (.aload_n 0, 1) := by decide +kernel
theorem dX4_setLabel_44 : decode cX4_setLabel 44 = .ok (.getfield 10, 3) := by decide +kernel
theorem dX4_setLabel_47 : decode cX4_setLabel 47 = .ok (.iload_n 1, 1) := by decide +kernel
theorem dX4_setLabel_48 : decode cX4_setLabel 48 = .ok (.aload_n 0, 1) := by decide +kernel
theorem dX4_setLabel_49 : decode cX4_setLabel 49 = .ok (.getfield 10, 3) := by decide +kernel
theorem dX4_setLabel_52 : decode cX4_setLabel 52 = .ok (.iload_n 1, 1) := by decide +kernel
theorem dX4_setLabel_53 : decode cX4_setLabel 53 = .ok (.invokevirtual 69, 3) := by decide +kernel
theorem dX4_setLabel_56 : decode cX4_setLabel 56 = .ok (.iload_n 2, 1) := by decide +kernel
theorem dX4_setLabel_57 : decode cX4_setLabel 57 = .ok (.invokevirtual 174, 3) := by decide +kernel
theorem dX4_setLabel_60 : decode cX4_setLabel 60 = .ok (.iload_n 3, 1) := by decide +kernel
theorem dX4_setLabel_61 : decode cX4_setLabel 61 = .ok (.ireturn, 1) := by decide +kernel
set_option maxRecDepth 20000 in
theorem ggX4_labelled_X3_has : GoodIn wsX4_labelled wsX3_has := goodIn_r _ [6, 7, 37, 38, 39, 40, 41] (by decide +kernel) (by decide +kernel)
set_option maxRecDepth 20000 in
theorem gX4_labelled_X3_has : GoodIn wsX4_labelled (wsV RX4 65 RX3 yX3_has wsX3_has) := goodIn_app (goodIn_of _ (by decide +kernel)) ggX4_labelled_X3_has
set_option maxRecDepth 20000 in
theorem ggX4_labelled_X4_isLetter : GoodIn wsX4_labelled wsX4_isLetter := goodIn_r _ [11] (by decide +kernel) (by decide +kernel)
set_option maxRecDepth 20000 in
theorem gX4_labelled_X4_isLetter : GoodIn wsX4_labelled (va_wsS RX4 171 yX4_isLetter wsX4_isLetter) := goodIn_app (goodIn_of _ (by decide +kernel)) ggX4_labelled_X4_isLetter
set_option maxRecDepth 20000 in
theorem ggX4_labelled_X3_countLabel : GoodIn wsX4_labelled wsX3_countLabel := goodIn_r _ [15, 16, 17, 18, 5, 19, 7, 20, 21, 22, 23, 24, 25, 3, 4, 6, 26, 10, 27, 28, 29, 30, 31, 32, 37, 38, 39, 40, 41] (by decide +kernel) (by decide +kernel)
set_option maxRecDepth 20000 in
theorem gX4_labelled_X3_countLabel : GoodIn wsX4_labelled (wsV RX4 178 RX3 yX3_countLabel wsX3_countLabel) := goodIn_app (goodIn_of _ (by decide +kernel)) ggX4_labelled_X3_countLabel
theorem dX4_labelled_0 : decode cX4_labelled 0 = .ok (.aload_n 0, 1) := by decide +kernel
theorem dX4_labelled_1 : decode cX4_labelled 1 = .ok (.getfield 10, 3) := by decide +kernel
theorem dX4_labelled_4 : decode cX4_labelled 4 = .ok (.iload_n 1, 1) := by decide +kernel
theorem dX4_labelled_5 : decode cX4_labelled 5 = .ok (.invokevirtual 65, 3) := by decide +kernel
theorem dX4_labelled_8 : decode cX4_labelled 8 = .ok (.ifCond .ne 5, 3) := by decide +kernel
theorem dX4_labelled_11 : decode cX4_labelled 11 = .ok (.iconst (-1), 1) := by decide +kernel
theorem dX4_labelled_12 : decode cX4_labelled 12 = .ok (.ireturn, 1) := by decide +kernel
theorem dX4_labelled_13 : decode cX4_labelled 13 = .ok (.iload_n 2, 1) := by decide +kernel
theorem dX4_labelled_14 : decode cX4_labelled 14 = .ok (.invokestatic 171, 3) := by decide +kernel
theorem dX4_labelled_17 : decode cX4_labelled 17 = .ok (.ifCond .eq 15, 3) := by decide +kernel
theorem dX4_labelled_20 : decode cX4_labelled 20 = .ok (.aload_n 0, 1) := by decide +kernel
theorem dX4_labelled_21 : decode cX4_labelled 21 = .ok (.getfield 10, 3) := by decide +kernel
theorem dX4_labelled_24 : decode cX4_labelled 24 = .ok (.iload_n 1, 1) := by decide +kernel
theorem dX4_labelled_25 : decode cX4_labelled 25 = .ok (.iload_n 2, 1) := by decide +kernel
theorem dX4_labelled_26 : decode cX4_labelled 26 = .ok (.invokevirtual 178, 3) := by decide +kernel
theorem dX4_labelled_29 : decode cX4_labelled 29 = .ok (.goto 5, 3) := by decide +kernel
theorem dX4_labelled_32 : decode cX4_labelled 32 = .ok (.bipush (-2), 2) := by decide +kernel
theorem dX4_labelled_34 : decode cX4_labelled 34 = .ok (.ireturn, 1) := by decide +kernel
set_option maxRecDepth 20000 in
theorem ggX4_select_X3_has : GoodIn wsX4_select wsX3_has := goodIn_r _ [6, 7, 37, 38, 39, 40, 41] (by decide +kernel) (by decide +kernel)
set_option maxRecDepth 20000 in
theorem gX4_select_X3_has : GoodIn wsX4_select (wsV RX4 65 RX3 yX3_has wsX3_has) := goodIn_app (goodIn_of _ (by decide +kernel)) ggX4_select_X3_has
set_option maxRecDepth 20000 in
theorem ggX4_select_X4_isLetter : GoodIn wsX4_select wsX4_isLetter := goodIn_r _ [11] (by decide +kernel) (by decide +kernel)
set_option maxRecDepth 20000 in
theorem gX4_select_X4_isLetter : GoodIn wsX4_select (va_wsS RX4 171 yX4_isLetter wsX4_isLetter) := goodIn_app (goodIn_of _ (by decide +kernel)) ggX4_select_X4_isLetter
set_option maxRecDepth 20000 in
theorem ggX4_select_X3_findLabel : GoodIn wsX4_select wsX3_findLabel := goodIn_r _ [15, 16, 17, 18, 5, 19, 7, 20, 21, 22, 23, 24, 25, 3, 4, 6, 26, 10, 27, 28, 29, 30, 31, 32, 37, 38, 39, 40, 41] (by decide +kernel) (by decide +kernel)
set_option maxRecDepth 20000 in
theorem gX4_select_X3_findLabel : GoodIn wsX4_select (wsV RX4 181 RX3 yX3_findLabel wsX3_findLabel) := goodIn_app (goodIn_of _ (by decide +kernel)) ggX4_select_X3_findLabel
theorem dX4_select_0 : decode cX4_select 0 = .ok (.aload_n 0, 1) := by decide +kernel
theorem dX4_select_1 : decode cX4_select 1 = .ok (.getfield 10, 3) := by decide +kernel
theorem dX4_select_4 : decode cX4_select 4 = .ok (.iload_n 1, 1) := by decide +kernel
theorem dX4_select_5 : decode cX4_select 5 = .ok (.invokevirtual 65, 3) := by decide +kernel
theorem dX4_select_8 : decode cX4_select 8 = .ok (.ifCond .ne 5, 3) := by decide +kernel
theorem dX4_select_11 : decode cX4_select 11 = .ok (.iconst (-1), 1) := by decide +kernel
theorem dX4_select_12 : decode cX4_select 12 = .ok (.ireturn, 1) := by decide +kernel
theorem dX4_select_13 : decode cX4_select 13 = .ok (.iload_n 2, 1) := by decide +kernel
theorem dX4_select_14 : decode cX4_select 14 = .ok (.invokestatic 171, 3) := by decide +kernel
theorem dX4_select_17 : decode cX4_select 17 = .ok (.ifCond .eq 7, 3) := by decide +kernel
theorem dX4_select_20 : decode cX4_select 20 = .ok (.iload_n 3, 1) := by decide +kernel
theorem dX4_select_21 : decode cX4_select 21 = .ok (.ifCond .ge 6, 3) := by decide +kernel
theorem dX4_select_24 : decode cX4_select 24 = .ok (.bipush (-2), 2) := by decide +kernel
theorem dX4_select_26 : decode cX4_select 26 = .ok (.ireturn, 1) := by decide +kernel
theorem dX4_select_27 : decode cX4_select 27 = .ok (.aload_n 0, 1) := by decide +kernel
theorem dX4_select_28 : decode cX4_select 28 = .ok (.getfield 10, 3) := by decide +kernel
theorem dX4_select_31 : decode cX4_select 31 = .ok (.iload_n 1, 1) := by decide +kernel
theorem dX4_select_32 : decode cX4_select 32 = .ok (.iload_n 2, 1) := by decide +kernel
theorem dX4_select_33 : decode cX4_select 33 = .ok (.iload_n 3, 1) := by decide +kernel
theorem dX4_select_34 : decode cX4_select 34 = .ok (.invokevirtual 181, 3) := by decide +kernel
theorem dX4_select_37 : decode cX4_select 37 = .ok (.ireturn, 1) := by decide +kernel
set_option maxRecDepth 20000 in
theorem ggX4_ancestorWith_X3_has : GoodIn wsX4_ancestorWith wsX3_has := goodIn_r _ [6, 7, 33, 34, 35, 36, 37] (by decide +kernel) (by decide +kernel)
set_option maxRecDepth 20000 in
theorem gX4_ancestorWith_X3_has : GoodIn wsX4_ancestorWith (wsV RX4 65 RX3 yX3_has wsX3_has) := goodIn_app (goodIn_of _ (by decide +kernel)) ggX4_ancestorWith_X3_has
set_option maxRecDepth 20000 in
theorem ggX4_ancestorWith_X4_isLetter : GoodIn wsX4_ancestorWith wsX4_isLetter := goodIn_r _ [11] (by decide +kernel) (by decide +kernel)
set_option maxRecDepth 20000 in
theorem gX4_ancestorWith_X4_isLetter : GoodIn wsX4_ancestorWith (va_wsS RX4 171 yX4_isLetter wsX4_isLetter) := goodIn_app (goodIn_of _ (by decide +kernel)) ggX4_ancestorWith_X4_isLetter
set_option maxRecDepth 20000 in
theorem ggX4_ancestorWith_X3_findAncestor : GoodIn wsX4_ancestorWith wsX3_findAncestor := goodIn_r _ [15, 16, 17, 18, 5, 19, 20, 21, 3, 4, 6, 7, 22, 10, 23, 24, 25, 26, 27, 28, 33, 34, 35, 36, 37] (by decide +kernel) (by decide +kernel)
set_option maxRecDepth 20000 in
theorem gX4_ancestorWith_X3_findAncestor : GoodIn wsX4_ancestorWith (wsV RX4 185 RX3 yX3_findAncestor wsX3_findAncestor) := goodIn_app (goodIn_of _ (by decide +kernel)) ggX4_ancestorWith_X3_findAncestor
theorem dX4_ancestorWith_0 : decode cX4_ancestorWith 0 = .ok (.aload_n 0, 1) := by decide +kernel
theorem dX4_ancestorWith_1 : decode cX4_ancestorWith 1 = .ok (.getfield 10, 3) := by decide +kernel
theorem dX4_ancestorWith_4 : decode cX4_ancestorWith 4 = .ok (.iload_n 1, 1) := by decide +kernel
theorem dX4_ancestorWith_5 : decode cX4_ancestorWith 5 = .ok (.invokevirtual 65, 3) := by decide +kernel
theorem dX4_ancestorWith_8 : decode cX4_ancestorWith 8 = .ok (.ifCond .ne 5, 3) := by decide +kernel
theorem dX4_ancestorWith_11 : decode cX4_ancestorWith 11 = .ok (.iconst (-1), 1) := by decide +kernel
theorem dX4_ancestorWith_12 : decode cX4_ancestorWith 12 = .ok (.ireturn, 1) := by decide +kernel
theorem dX4_ancestorWith_13 : decode cX4_ancestorWith 13 = .ok (.iload_n 2, 1) := by decide +kernel
theorem dX4_ancestorWith_14 : decode cX4_ancestorWith 14 = .ok (.invokestatic 171, 3) := by decide +kernel
theorem dX4_ancestorWith_17 : decode cX4_ancestorWith 17 = .ok (.ifCond .eq 15, 3) := by decide +kernel
theorem dX4_ancestorWith_20 : decode cX4_ancestorWith 20 = .ok (.aload_n 0, 1) := by decide +kernel
theorem dX4_ancestorWith_21 : decode cX4_ancestorWith 21 = .ok (.getfield 10, 3) := by decide +kernel
theorem dX4_ancestorWith_24 : decode cX4_ancestorWith 24 = .ok (.iload_n 1, 1) := by decide +kernel
theorem dX4_ancestorWith_25 : decode cX4_ancestorWith 25 = .ok (.iload_n 2, 1) := by decide +kernel
theorem dX4_ancestorWith_26 : decode cX4_ancestorWith 26 = .ok (.invokevirtual 185, 3) := by decide +kernel
theorem dX4_ancestorWith_29 : decode cX4_ancestorWith 29 = .ok (.goto 5, 3) := by decide +kernel
theorem dX4_ancestorWith_32 : decode cX4_ancestorWith 32 = .ok (.bipush (-2), 2) := by decide +kernel
theorem dX4_ancestorWith_34 : decode cX4_ancestorWith 34 = .ok (.ireturn, 1) := by decide +kernel
set_option maxRecDepth 20000 in
theorem ggX4_areEqual_X3_has : GoodIn wsX4_areEqual wsX3_has := goodIn_r _ [6, 7, 38, 39, 40, 41, 42] (by decide +kernel) (by decide +kernel)
set_option maxRecDepth 20000 in
theorem gX4_areEqual_X3_has : GoodIn wsX4_areEqual (wsV RX4 65 RX3 yX3_has wsX3_has) := goodIn_app (goodIn_of _ (by decide +kernel)) ggX4_areEqual_X3_has
set_option maxRecDepth 20000 in
theorem ggX4_areEqual_X3_sameSubtrees : GoodIn wsX4_areEqual wsX3_sameSubtrees := goodIn_r _ [11, 12, 13, 14, 5, 15, 16, 17, 18, 19, 7, 20, 21, 22, 23, 24, 25, 3, 4, 6, 26, 27, 28, 29, 30, 31, 32, 33, 38, 39, 40, 41, 42] (by decide +kernel) (by decide +kernel)
set_option maxRecDepth 20000 in
theorem gX4_areEqual_X3_sameSubtrees : GoodIn wsX4_areEqual (wsV RX4 188 RX3 yX3_sameSubtrees wsX3_sameSubtrees) := goodIn_app (goodIn_of _ (by decide +kernel)) ggX4_areEqual_X3_sameSubtrees
theorem dX4_areEqual_0 : decode cX4_areEqual 0 = .ok (.aload_n 0, 1) := by decide +kernel
theorem dX4_areEqual_1 : decode cX4_areEqual 1 = .ok (.getfield 10, 3) := by decide +kernel
theorem dX4_areEqual_4 : decode cX4_areEqual 4 = .ok (.iload_n 1, 1) := by decide +kernel
theorem dX4_areEqual_5 : decode cX4_areEqual 5 = .ok (.invokevirtual 65, 3) := by decide +kernel
theorem dX4_areEqual_8 : decode cX4_areEqual 8 = .ok (.ifCond .eq 14, 3) := by decide +kernel
theorem dX4_areEqual_11 : decode cX4_areEqual 11 = .ok (.aload_n 0, 1) := by decide +kernel
theorem dX4_areEqual_12 : decode cX4_areEqual 12 = .ok (.getfield 10, 3) := by decide +kernel
theorem dX4_areEqual_15 : decode cX4_areEqual 15 = .ok (.iload_n 2, 1) := by decide +kernel
theorem dX4_areEqual_16 : decode cX4_areEqual 16 = .ok (.invokevirtual 65, 3) := by decide +kernel
theorem dX4_areEqual_19 : decode cX4_areEqual 19 = .ok (.ifCond .ne 5, 3) := by decide +kernel
theorem dX4_areEqual_22 : decode cX4_areEqual 22 = .ok (.iconst (-1), 1) := by decide +kernel
theorem dX4_areEqual_23 : decode cX4_areEqual 23 = .ok (.ireturn, 1) := by decide +kernel
theorem dX4_areEqual_24 : decode cX4_areEqual 24 = .ok (.aload_n 0, 1) := by decide +kernel
theorem dX4_areEqual_25 : decode cX4_areEqual 25 = .ok (.getfield 10, 3) := by decide +kernel
theorem dX4_areEqual_28 : decode cX4_areEqual 28 = .ok (.iload_n 1, 1) := by decide +kernel
theorem dX4_areEqual_29 : decode cX4_areEqual 29 = .ok (.iload_n 2, 1) := by decide +kernel
theorem dX4_areEqual_30 : decode cX4_areEqual 30 = .ok (.invokevirtual 188, 3) := by decide +kernel
theorem dX4_areEqual_33 : decode cX4_areEqual 33 = .ok (.ifCond .eq 7, 3) := by decide +kernel
theorem dX4_areEqual_36 : decode cX4_areEqual 36 = .ok (.iconst 1, 1) := by decide +kernel
theorem dX4_areEqual_37 : decode cX4_areEqual 37 = .ok (.goto 4, 3) := by decide +kernel
theorem dX4_areEqual_40 : decode cX4_areEqual 40 = .ok (.iconst 0, 1) := by decide +kernel
theorem dX4_areEqual_41 : decode cX4_areEqual 41 = .ok (.ireturn, 1) := by decide +kernel
set_option maxRecDepth 20000 in
theorem ggX4_copies_X3_has : GoodIn wsX4_copies wsX3_has := goodIn_r _ [6, 7, 42, 43, 44, 45, 46] (by decide +kernel) (by decide +kernel)
set_option maxRecDepth 20000 in
theorem gX4_copies_X3_has : GoodIn wsX4_copies (wsV RX4 65 RX3 yX3_has wsX3_has) := goodIn_app (goodIn_of _ (by decide +kernel)) ggX4_copies_X3_has
set_option maxRecDepth 20000 in
theorem ggX4_copies_X3_countEqual : GoodIn wsX4_copies wsX3_countEqual := goodIn_r _ [11, 7, 12, 13, 14, 5, 15, 16, 17, 18, 19, 20, 21, 22, 23, 24, 25, 26, 27, 28, 29, 3, 4, 6, 30, 31, 32, 33, 34, 35, 36, 37, 42, 43, 44, 45, 46] (by decide +kernel) (by decide +kernel)
set_option maxRecDepth 20000 in
theorem gX4_copies_X3_countEqual : GoodIn wsX4_copies (wsV RX4 192 RX3 yX3_countEqual wsX3_countEqual) := goodIn_app (goodIn_of _ (by decide +kernel)) ggX4_copies_X3_countEqual
theorem dX4_copies_0 : decode cX4_copies 0 = .ok (.aload_n 0, 1) := by decide +kernel
theorem dX4_copies_1 : decode cX4_copies 1 = .ok (.getfield 10, 3) := by decide +kernel
theorem dX4_copies_4 : decode cX4_copies 4 = .ok (.iload_n 1, 1) := by decide +kernel
theorem dX4_copies_5 : decode cX4_copies 5 = .ok (.invokevirtual 65, 3) := by decide +kernel
theorem dX4_copies_8 : decode cX4_copies 8 = .ok (.ifCond .eq 14, 3) := by decide +kernel
theorem dX4_copies_11 : decode cX4_copies 11 = .ok (.aload_n 0, 1) := by decide +kernel
theorem dX4_copies_12 : decode cX4_copies 12 = .ok (.getfield 10, 3) := by decide +kernel
theorem dX4_copies_15 : decode cX4_copies 15 = .ok (.iload_n 1, 1) := by decide +kernel
theorem dX4_copies_16 : decode cX4_copies 16 = .ok (.invokevirtual 192, 3) := by decide +kernel
theorem dX4_copies_19 : decode cX4_copies 19 = .ok (.goto 4, 3) := by decide +kernel
theorem dX4_copies_22 : decode cX4_copies 22 = .ok (.iconst (-1), 1) := by decide +kernel
theorem dX4_copies_23 : decode cX4_copies 23 = .ok (.ireturn, 1) := by decide +kernel
set_option maxRecDepth 20000 in
theorem ggX4_insert_X4_wrap : GoodIn wsX4_insert wsX4_wrap := goodIn_r _ [5, 6, 7, 8, 9, 10, 11, 12, 13, 14, 15, 16, 17, 18, 19, 20, 21, 22, 23, 24, 25, 26, 27, 28, 4, 29, 30, 31, 32, 33, 34, 35, 36, 37, 38, 39, 40, 41, 42, 43, 44, 45, 46, 47, 48, 49, 50, 51, 52, 53, 54, 55, 56, 57, 58, 59, 60, 61, 62, 63, 64, 65, 66, 67, 68, 69, 70, 71, 72, 73, 74, 75, 76, 77, 78, 79, 80, 81, 82, 83, 84, 85, 86, 87, 88, 89, 90, 91, 92, 93, 94, 95] (by decide +kernel) (by decide +kernel)
set_option maxRecDepth 20000 in
theorem gX4_insert_X4_wrap : GoodIn wsX4_insert (wsV RX4 195 RX4 yX4_wrap wsX4_wrap) := goodIn_app (goodIn_of _ (by decide +kernel)) ggX4_insert_X4_wrap
theorem dX4_insert_0 : decode cX4_insert 0 = .ok (.aload_n 0, 1) := by decide +kernel
theorem dX4_insert_1 : decode cX4_insert 1 = .ok (.iload_n 1, 1) := by decide +kernel
theorem dX4_insert_2 : decode cX4_insert 2 = .ok (.iload_n 2, 1) := by decide +kernel
theorem dX4_insert_3 : decode cX4_insert 3 = .ok (.iconst 0, 1) := by decide +kernel
theorem dX4_insert_4 : decode cX4_insert 4 = .ok (.iload_n 3, 1) := by decide +kernel
theorem dX4_insert_5 : decode cX4_insert 5 = .ok (.invokevirtual 195, 3) := by decide +kernel
theorem dX4_insert_8 : decode cX4_insert 8 = .ok (.ireturn, 1) := by decide +kernel
set_option maxRecDepth 20000 in
theorem ggX4_wrap_X3_has : GoodIn wsX4_wrap wsX3_has := goodIn_r _ [7, 8, 82, 83, 84, 85, 86] (by decide +kernel) (by decide +kernel)
set_option maxRecDepth 20000 in
theorem gX4_wrap_X3_has : GoodIn wsX4_wrap (wsV RX4 65 RX3 yX3_has wsX3_has) := goodIn_app (goodIn_of _ (by decide +kernel)) ggX4_wrap_X3_has
set_option maxRecDepth 20000 in
theorem ggX4_wrap_X3_childCount : GoodIn wsX4_wrap wsX3_childCount := goodIn_r _ [12, 13, 14, 15, 6, 16, 8, 17, 18, 19, 20, 21, 22, 4, 5, 7, 23, 24, 25, 82, 83, 84, 85, 86] (by decide +kernel) (by decide +kernel)
set_option maxRecDepth 20000 in
theorem gX4_wrap_X3_childCount : GoodIn wsX4_wrap (wsV RX4 75 RX3 yX3_childCount wsX3_childCount) := goodIn_app (goodIn_of _ (by decide +kernel)) ggX4_wrap_X3_childCount
set_option maxRecDepth 20000 in
theorem ggX4_wrap_X4_isLetter : GoodIn wsX4_wrap wsX4_isLetter := goodIn_r _ [28] (by decide +kernel) (by decide +kernel)
set_option maxRecDepth 20000 in
theorem gX4_wrap_X4_isLetter : GoodIn wsX4_wrap (va_wsS RX4 171 yX4_isLetter wsX4_isLetter) := goodIn_app (goodIn_of _ (by decide +kernel)) ggX4_wrap_X4_isLetter
set_option maxRecDepth 20000 in
theorem ggX4_wrap_X3_count : GoodIn wsX4_wrap wsX3_count := goodIn_r _ [32, 8, 82, 83, 84, 85, 86] (by decide +kernel) (by decide +kernel)
set_option maxRecDepth 20000 in
theorem gX4_wrap_X3_count : GoodIn wsX4_wrap (wsV RX4 55 RX3 yX3_count wsX3_count) := goodIn_app (goodIn_of _ (by decide +kernel)) ggX4_wrap_X3_count
set_option maxRecDepth 20000 in
theorem ggX4_wrap_X1_record : GoodIn wsX4_wrap wsX1_record := goodIn_r _ [37, 38, 39, 40, 41, 42, 43, 44, 45, 46, 47, 30, 31, 6, 32, 8, 48, 24, 49, 50, 18, 19, 20, 21, 22, 4, 5, 7, 23, 25, 51, 52, 53, 54, 55, 87, 88, 89, 90, 91, 82, 83, 84, 85, 86] (by decide +kernel) (by decide +kernel)
set_option maxRecDepth 20000 in
theorem gX4_wrap_X1_record : GoodIn wsX4_wrap (wsV RX4 48 RX1 yX1_record wsX1_record) := goodIn_app (goodIn_of _ (by decide +kernel)) ggX4_wrap_X1_record
set_option maxRecDepth 20000 in
theorem ggX4_wrap_X3_wrapChildren : GoodIn wsX4_wrap wsX3_wrapChildren := goodIn_r _ [59, 60, 61, 62, 6, 63, 13, 14, 15, 16, 8, 17, 18, 19, 20, 21, 22, 4, 5, 7, 23, 24, 25, 64, 65, 66, 67, 68, 52, 53, 54, 55, 69, 70, 71, 72, 48, 49, 73, 74, 75, 76, 77, 44, 45, 46, 82, 83, 84, 85, 86] (by decide +kernel) (by decide +kernel)
set_option maxRecDepth 20000 in
theorem gX4_wrap_X3_wrapChildren : GoodIn wsX4_wrap (wsV RX4 199 RX3 yX3_wrapChildren wsX3_wrapChildren) := goodIn_app (goodIn_of _ (by decide +kernel)) ggX4_wrap_X3_wrapChildren
theorem dX4_wrap_0 : decode cX4_wrap 0 = .ok (.aload_n 0, 1) := by decide +kernel
theorem dX4_wrap_1 : decode cX4_wrap 1 = .ok (.getfield 10, 3) := by decide +kernel
theorem dX4_wrap_4 : decode cX4_wrap 4 = .ok (.iload_n 1, 1) := by decide +kernel
theorem dX4_wrap_5 : decode cX4_wrap 5 = .ok (.invokevirtual 65, 3) := by decide +kernel
theorem dX4_wrap_8 : decode cX4_wrap 8 = .ok (.ifCond .ne 5, 3) := by decide +kernel
theorem dX4_wrap_11 : decode cX4_wrap 11 = .ok (.iconst (-1), 1) := by decide +kernel
theorem dX4_wrap_12 : decode cX4_wrap 12 = .ok (.ireturn, 1) := by decide +kernel
theorem dX4_wrap_13 : decode cX4_wrap 13 = .ok (.aload_n 0, 1) := by decide +kernel
theorem dX4_wrap_14 : decode cX4_wrap 14 = .ok (.getfield 10, 3) := by decide +kernel
theorem dX4_wrap_17 : decode cX4_wrap 17 = .ok (.iload_n 1, 1) := by decide +kernel
theorem dX4_wrap_18 : decode cX4_wrap 18 = .ok (.invokevirtual 75, 3) := by decide +kernel
theorem dX4_wrap_21 : decode cX4_wrap 21 = .ok (.istore 5, 2) := by decide +kernel
theorem dX4_wrap_23 : decode cX4_wrap 23 = .ok (.iload_n 2, 1) := by decide +kernel
theorem dX4_wrap_24 : decode cX4_wrap 24 = .ok (.ifCond .lt 29, 3) := by decide +kernel
theorem dX4_wrap_27 : decode cX4_wrap 27 = .ok (.iload_n 2, 1) := by decide +kernel
theorem dX4_wrap_28 : decode cX4_wrap 28 = .ok (.iload 5, 2) := by decide +kernel
theorem dX4_wrap_30 : decode cX4_wrap 30 = .ok (.if_icmp .gt 23, 3) := by decide +kernel
theorem dX4_wrap_33 : decode cX4_wrap 33 = .ok (.iload_n 3, 1) := by decide +kernel
theorem dX4_wrap_34 : decode cX4_wrap 34 = .ok (.ifCond .lt 19, 3) := by decide +kernel
theorem dX4_wrap_37 : decode cX4_wrap 37 = .ok (.iload_n 3, 1) := by decide +kernel
theorem dX4_wrap_38 : decode cX4_wrap 38 = .ok (.iload 5, 2) := by decide +kernel
theorem dX4_wrap_40 : decode cX4_wrap 40 = .ok (.iload_n 2, 1) := by decide +kernel
theorem dX4_wrap_41 : decode cX4_wrap 41 = .ok (.isub, 1) := by decide +kernel
theorem dX4_wrap_42 : decode cX4_wrap 42 = .ok (.if_icmp .gt 11, 3) := by decide +kernel
theorem dX4_wrap_45 : decode cX4_wrap 45 = .ok (.iload 4, 2) := by decide +kernel
theorem dX4_wrap_47 : decode cX4_wrap 47 = .ok (.invokestatic 171, 3) := by decide +kernel
theorem dX4_wrap_50 : decode cX4_wrap 50 = .ok (.ifCond .ne 6, 3) := by decide +kernel
theorem dX4_wrap_53 : decode cX4_wrap 53 = .ok (.bipush (-2), 2) := by decide +kernel
theorem dX4_wrap_55 : decode cX4_wrap 55 = .ok (.ireturn, 1) := by decide +kernel
theorem dX4_wrap_56 : decode cX4_wrap 56 = .ok (.aload_n 0, 1) := by decide +kernel
theorem dX4_wrap_57 : decode cX4_wrap 57 = .ok (.getfield 10, 3) := by decide +kernel
theorem dX4_wrap_60 : decode cX4_wrap 60 = .ok (.invokevirtual 55, 3) := by decide +kernel
theorem dX4_wrap_63 : decode cX4_wrap 63 = .ok (.bipush 100, 2) := by decide +kernel
theorem dX4_wrap_65 : decode cX4_wrap 65 = .ok (.if_icmp .lt 6, 3) := by decide +kernel
theorem dX4_wrap_68 : decode cX4_wrap 68 = .ok (.bipush (-4), 2) := by decide +kernel
theorem dX4_wrap_70 : decode cX4_wrap 70 = .ok (.ireturn, 1) := by decide +kernel
theorem dX4_wrap_71 : decode cX4_wrap 71 = .ok (.aload_n 0, 1) := by decide +kernel
theorem dX4_wrap_72 : decode cX4_wrap 72 = .ok (.getfield 26, 3) := by decide +kernel
theorem dX4_wrap_75 : decode cX4_wrap 75 = .ok (.aload_n 0, 1) := by decide +kernel
theorem dX4_wrap_76 : decode cX4_wrap 76 = .ok (.getfield 10, 3) := by decide +kernel
theorem dX4_wrap_79 : decode cX4_wrap 79 = .ok (.invokevirtual 48, 3) := by decide +kernel
theorem dX4_wrap_82 : decode cX4_wrap 82 = .ok (.aload_n 0, 1) := by decide +kernel
theorem dX4_wrap_83 : decode cX4_wrap 83 = .ok (.getfield 10, 3) := by decide +kernel
theorem dX4_wrap_86 : decode cX4_wrap 86 = .ok (.iload_n 1, 1) := by decide +kernel
theorem dX4_wrap_87 : decode cX4_wrap 87 = .ok (.iload_n 2, 1) := by decide +kernel
theorem dX4_wrap_88 : decode cX4_wrap 88 = .ok (.iload_n 3, 1) := by decide +kernel
theorem dX4_wrap_89 : decode cX4_wrap 89 = .ok (.iload 4, 2) := by decide +kernel
theorem dX4_wrap_91 : decode cX4_wrap 91 = .ok (.invokevirtual 199, 3) := by decide +kernel
theorem dX4_wrap_94 : decode cX4_wrap 94 = .ok (.ireturn, 1) := by decide +kernel
set_option maxRecDepth 20000 in
theorem ggX4_remove_X3_has : GoodIn wsX4_remove wsX3_has := goodIn_r _ [7, 8, 73, 74, 75, 76, 77] (by decide +kernel) (by decide +kernel)
set_option maxRecDepth 20000 in
theorem gX4_remove_X3_has : GoodIn wsX4_remove (wsV RX4 65 RX3 yX3_has wsX3_has) := goodIn_app (goodIn_of _ (by decide +kernel)) ggX4_remove_X3_has
set_option maxRecDepth 20000 in
theorem ggX4_remove_X1_record : GoodIn wsX4_remove wsX1_record := goodIn_r _ [13, 14, 15, 16, 17, 18, 19, 20, 21, 22, 23, 24, 25, 6, 26, 8, 27, 28, 29, 30, 31, 32, 33, 34, 35, 4, 5, 7, 36, 37, 38, 39, 40, 41, 42, 78, 79, 80, 81, 82, 73, 74, 75, 76, 77] (by decide +kernel) (by decide +kernel)
set_option maxRecDepth 20000 in
theorem gX4_remove_X1_record : GoodIn wsX4_remove (wsV RX4 48 RX1 yX1_record wsX1_record) := goodIn_app (goodIn_of _ (by decide +kernel)) ggX4_remove_X1_record
set_option maxRecDepth 20000 in
theorem ggX4_remove_X3_dissolve : GoodIn wsX4_remove wsX3_dissolve := goodIn_r _ [46, 47, 48, 49, 6, 50, 8, 51, 31, 32, 33, 34, 35, 4, 5, 7, 36, 28, 37, 52, 53, 54, 55, 56, 39, 40, 41, 42, 57, 58, 59, 60, 27, 29, 61, 62, 63, 64, 65, 66, 21, 67, 73, 74, 75, 76, 77] (by decide +kernel) (by decide +kernel)
set_option maxRecDepth 20000 in
theorem gX4_remove_X3_dissolve : GoodIn wsX4_remove (wsV RX4 203 RX3 yX3_dissolve wsX3_dissolve) := goodIn_app (goodIn_of _ (by decide +kernel)) ggX4_remove_X3_dissolve
set_option maxRecDepth 20000 in
theorem ggX4_remove_X3_count : GoodIn wsX4_remove wsX3_count := goodIn_r _ [26, 8, 73, 74, 75, 76, 77] (by decide +kernel) (by decide +kernel)
set_option maxRecDepth 20000 in
theorem gX4_remove_X3_count : GoodIn wsX4_remove (wsV RX4 55 RX3 yX3_count wsX3_count) := goodIn_app (goodIn_of _ (by decide +kernel)) ggX4_remove_X3_count
theorem dX4_remove_0 : decode cX4_remove 0 = .ok (.aload_n 0, 1) := by decide +kernel
theorem dX4_remove_1 : decode cX4_remove 1 = .ok (.getfield 10, 3) := by decide +kernel
theorem dX4_remove_4 : decode cX4_remove 4 = .ok (.iload_n 1, 1) := by decide +kernel
theorem dX4_remove_5 : decode cX4_remove 5 = .ok (.invokevirtual 65, 3) := by decide +kernel
theorem dX4_remove_8 : decode cX4_remove 8 = .ok (.ifCond .ne 5, 3) := by decide +kernel
theorem dX4_remove_11 : decode cX4_remove 11 = .ok (.iconst (-1), 1) := by decide +kernel
theorem dX4_remove_12 : decode cX4_remove 12 = .ok (.ireturn, 1) := by decide +kernel
theorem dX4_remove_13 : decode cX4_remove 13 = .ok (.iload_n 1, 1) := by decide +kernel
theorem dX4_remove_14 : decode cX4_remove 14 = .ok (.ifCond .ne 6, 3) := by decide +kernel
theorem dX4_remove_17 : decode cX4_remove 17 = .ok (.bipush (-3), 2) := by decide +kernel
theorem dX4_remove_19 : decode cX4_remove 19 = .ok (.ireturn, 1) := by decide +kernel
theorem dX4_remove_20 : decode cX4_remove 20 = .ok (.aload_n 0, 1) := by decide +kernel
theorem dX4_remove_21 : decode cX4_remove 21 = .ok (.getfield 26, 3) := by decide +kernel
theorem dX4_remove_24 : decode cX4_remove 24 = .ok (.aload_n 0, 1) := by decide +kernel
theorem dX4_remove_25 : decode cX4_remove 25 = .ok (.getfield 10, 3) := by decide +kernel
theorem dX4_remove_28 : decode cX4_remove 28 = .ok (.invokevirtual 48, 3) := by decide +kernel
theorem dX4_remove_31 : decode cX4_remove 31 = .ok (.aload_n 0, 1) := by decide +kernel
theorem dX4_remove_32 : decode cX4_remove 32 = .ok (.getfield 10, 3) := by decide +kernel
theorem dX4_remove_35 : decode cX4_remove 35 = .ok (.iload_n 1, 1) := by decide +kernel
theorem dX4_remove_36 : decode cX4_remove 36 = .ok (.invokevirtual 203, 3) := by decide +kernel
theorem dX4_remove_39 : decode cX4_remove 39 = .ok (.aload_n 0, 1) := by decide +kernel
theorem dX4_remove_40 : decode cX4_remove 40 = .ok (.getfield 10, 3) := by decide +kernel
theorem dX4_remove_43 : decode cX4_remove 43 = .ok (.invokevirtual 55, 3) := by decide +kernel
theorem dX4_remove_46 : decode cX4_remove 46 = .ok (.ireturn, 1) := by decide +kernel
set_option maxRecDepth 20000 in
theorem ggX4_cut_X3_has : GoodIn wsX4_cut wsX3_has := goodIn_r _ [7, 8, 69, 70, 71, 72, 73] (by decide +kernel) (by decide +kernel)
set_option maxRecDepth 20000 in
theorem gX4_cut_X3_has : GoodIn wsX4_cut (wsV RX4 65 RX3 yX3_has wsX3_has) := goodIn_app (goodIn_of _ (by decide +kernel)) ggX4_cut_X3_has
set_option maxRecDepth 20000 in
theorem ggX4_cut_X1_record : GoodIn wsX4_cut wsX1_record := goodIn_r _ [13, 14, 15, 16, 17, 18, 19, 20, 21, 22, 23, 24, 25, 6, 26, 8, 27, 28, 29, 30, 31, 32, 33, 34, 35, 4, 5, 7, 36, 37, 38, 39, 40, 41, 42, 74, 75, 76, 77, 78, 69, 70, 71, 72, 73] (by decide +kernel) (by decide +kernel)
set_option maxRecDepth 20000 in
theorem gX4_cut_X1_record : GoodIn wsX4_cut (wsV RX4 48 RX1 yX1_record wsX1_record) := goodIn_app (goodIn_of _ (by decide +kernel)) ggX4_cut_X1_record
set_option maxRecDepth 20000 in
theorem ggX4_cut_X3_sizeOf : GoodIn wsX4_cut wsX3_sizeOf := goodIn_r _ [46, 47, 48, 49, 6, 50, 8, 51, 31, 32, 33, 34, 35, 4, 5, 7, 36, 28, 37, 69, 70, 71, 72, 73] (by decide +kernel) (by decide +kernel)
set_option maxRecDepth 20000 in
theorem gX4_cut_X3_sizeOf : GoodIn wsX4_cut (wsV RX4 78 RX3 yX3_sizeOf wsX3_sizeOf) := goodIn_app (goodIn_of _ (by decide +kernel)) ggX4_cut_X3_sizeOf
set_option maxRecDepth 20000 in
theorem ggX4_cut_X3_closeGap : GoodIn wsX4_cut wsX3_closeGap := goodIn_r _ [55, 8, 56, 57, 21, 58, 51, 31, 32, 6, 33, 34, 35, 4, 5, 7, 36, 28, 37, 59, 39, 40, 41, 42, 60, 61, 62, 63, 27, 29, 69, 70, 71, 72, 73] (by decide +kernel) (by decide +kernel)
set_option maxRecDepth 20000 in
theorem gX4_cut_X3_closeGap : GoodIn wsX4_cut (wsV RX4 207 RX3 yX3_closeGap wsX3_closeGap) := goodIn_app (goodIn_of _ (by decide +kernel)) ggX4_cut_X3_closeGap
set_option maxRecDepth 20000 in
theorem ggX4_cut_X3_count : GoodIn wsX4_cut wsX3_count := goodIn_r _ [26, 8, 69, 70, 71, 72, 73] (by decide +kernel) (by decide +kernel)
set_option maxRecDepth 20000 in
theorem gX4_cut_X3_count : GoodIn wsX4_cut (wsV RX4 55 RX3 yX3_count wsX3_count) := goodIn_app (goodIn_of _ (by decide +kernel)) ggX4_cut_X3_count
theorem dX4_cut_0 : decode cX4_cut 0 = .ok (.aload_n 0, 1) := by decide +kernel
theorem dX4_cut_1 : decode cX4_cut 1 = .ok (.getfield 10, 3) := by decide +kernel
theorem dX4_cut_4 : decode cX4_cut 4 = .ok (.iload_n 1, 1) := by decide +kernel
theorem dX4_cut_5 : decode cX4_cut 5 = .ok (.invokevirtual 65, 3) := by decide +kernel
theorem dX4_cut_8 : decode cX4_cut 8 = .ok (.ifCond .ne 5, 3) := by decide +kernel
theorem dX4_cut_11 : decode cX4_cut 11 = .ok (.iconst (-1), 1) := by decide +kernel
theorem dX4_cut_12 : decode cX4_cut 12 = .ok (.ireturn, 1) := by decide +kernel
theorem dX4_cut_13 : decode cX4_cut 13 = .ok (.iload_n 1, 1) := by decide +kernel
theorem dX4_cut_14 : decode cX4_cut 14 = .ok (.ifCond .ne 6, 3) := by decide +kernel
theorem dX4_cut_17 : decode cX4_cut 17 = .ok (.bipush (-3), 2) := by decide +kernel
theorem dX4_cut_19 : decode cX4_cut 19 = .ok (.ireturn, 1) := by decide +kernel
theorem dX4_cut_20 : decode cX4_cut 20 = .ok (.aload_n 0, 1) := by decide +kernel
theorem dX4_cut_21 : decode cX4_cut 21 = .ok (.getfield 26, 3) := by decide +kernel
theorem dX4_cut_24 : decode cX4_cut 24 = .ok (.aload_n 0, 1) := by decide +kernel
theorem dX4_cut_25 : decode cX4_cut 25 = .ok (.getfield 10, 3) := by decide +kernel
theorem dX4_cut_28 : decode cX4_cut 28 = .ok (.invokevirtual 48, 3) := by decide +kernel
theorem dX4_cut_31 : decode cX4_cut 31 = .ok (.aload_n 0, 1) := by decide +kernel
theorem dX4_cut_32 : decode cX4_cut 32 = .ok (.getfield 10, 3) := by decide +kernel
theorem dX4_cut_35 : decode cX4_cut 35 = .ok (.iload_n 1, 1) := by decide +kernel
theorem dX4_cut_36 : decode cX4_cut 36 = .ok (.aload_n 0, 1) := by decide +kernel
theorem dX4_cut_37 : decode cX4_cut 37 = .ok (.getfield 10, 3) := by decide +kernel
theorem dX4_cut_40 : decode cX4_cut 40 = .ok (.iload_n 1, 1) := by decide +kernel
theorem dX4_cut_41 : decode cX4_cut 41 = .ok (.invokevirtual 78, 3) := by decide +kernel
theorem dX4_cut_44 : decode cX4_cut 44 = .ok (.invokevirtual 207, 3) := by decide +kernel
theorem dX4_cut_47 : decode cX4_cut 47 = .ok (.aload_n 0, 1) := by decide +kernel
theorem dX4_cut_48 : decode cX4_cut 48 = .ok (.getfield 10, 3) := by decide +kernel
theorem dX4_cut_51 : decode cX4_cut 51 = .ok (.invokevirtual 55, 3) := by decide +kernel
theorem dX4_cut_54 : decode cX4_cut 54 = .ok (.ireturn, 1) := by decide +kernel
set_option maxRecDepth 20000 in
theorem ggX4_move_X3_has : GoodIn wsX4_move wsX3_has := goodIn_r _ [7, 8, 104, 105, 106, 107, 108] (by decide +kernel) (by decide +kernel)
set_option maxRecDepth 20000 in
theorem gX4_move_X3_has : GoodIn wsX4_move (wsV RX4 65 RX3 yX3_has wsX3_has) := goodIn_app (goodIn_of _ (by decide +kernel)) ggX4_move_X3_has
set_option maxRecDepth 20000 in
theorem ggX4_move_X3_endOf : GoodIn wsX4_move wsX3_endOf := goodIn_r _ [12, 8, 13, 14, 15, 6, 16, 17, 18, 4, 5, 7, 19, 20, 21, 104, 105, 106, 107, 108] (by decide +kernel) (by decide +kernel)
set_option maxRecDepth 20000 in
theorem gX4_move_X3_endOf : GoodIn wsX4_move (wsV RX4 211 RX3 yX3_endOf wsX3_endOf) := goodIn_app (goodIn_of _ (by decide +kernel)) ggX4_move_X3_endOf
set_option maxRecDepth 20000 in
theorem ggX4_move_X3_childCount : GoodIn wsX4_move wsX3_childCount := goodIn_r _ [25, 26, 10, 11, 6, 12, 8, 13, 14, 15, 16, 17, 18, 4, 5, 7, 19, 20, 21, 104, 105, 106, 107, 108] (by decide +kernel) (by decide +kernel)
set_option maxRecDepth 20000 in
theorem gX4_move_X3_childCount : GoodIn wsX4_move (wsV RX4 75 RX3 yX3_childCount wsX3_childCount) := goodIn_app (goodIn_of _ (by decide +kernel)) ggX4_move_X3_childCount
set_option maxRecDepth 20000 in
theorem ggX4_move_X3_parentOf : GoodIn wsX4_move wsX3_parentOf := goodIn_r _ [30, 13, 14, 15, 6, 16, 17, 18, 4, 5, 7, 8, 19, 20, 21, 31, 32, 33, 34, 104, 105, 106, 107, 108] (by decide +kernel) (by decide +kernel)
set_option maxRecDepth 20000 in
theorem gX4_move_X3_parentOf : GoodIn wsX4_move (wsV RX4 72 RX3 yX3_parentOf wsX3_parentOf) := goodIn_app (goodIn_of _ (by decide +kernel)) ggX4_move_X3_parentOf
set_option maxRecDepth 20000 in
theorem ggX4_move_X1_record : GoodIn wsX4_move wsX1_record := goodIn_r _ [39, 40, 41, 42, 43, 44, 45, 46, 47, 48, 49, 50, 51, 6, 52, 8, 53, 20, 54, 55, 14, 15, 16, 17, 18, 4, 5, 7, 19, 21, 56, 57, 58, 59, 60, 109, 110, 111, 112, 113, 104, 105, 106, 107, 108] (by decide +kernel) (by decide +kernel)
set_option maxRecDepth 20000 in
theorem gX4_move_X1_record : GoodIn wsX4_move (wsV RX4 48 RX1 yX1_record wsX1_record) := goodIn_app (goodIn_of _ (by decide +kernel)) ggX4_move_X1_record
set_option maxRecDepth 20000 in
theorem ggX4_move_X3_transplant : GoodIn wsX4_move wsX3_transplant := goodIn_r _ [64, 65, 66, 67, 6, 68, 26, 10, 11, 12, 8, 13, 14, 15, 16, 17, 18, 4, 5, 7, 19, 20, 21, 69, 70, 71, 72, 73, 74, 53, 54, 75, 57, 58, 59, 60, 76, 77, 78, 79, 80, 81, 47, 82, 83, 84, 85, 86, 87, 88, 89, 90, 91, 92, 93, 94, 95, 46, 48, 96, 97, 98, 99, 104, 105, 106, 107, 108] (by decide +kernel) (by decide +kernel)
set_option maxRecDepth 20000 in
theorem gX4_move_X3_transplant : GoodIn wsX4_move (wsV RX4 214 RX3 yX3_transplant wsX3_transplant) := goodIn_app (goodIn_of _ (by decide +kernel)) ggX4_move_X3_transplant
theorem dX4_move_0 : decode cX4_move 0 = .ok (.aload_n 0, 1) := by decide +kernel
theorem dX4_move_1 : decode cX4_move 1 = .ok (.getfield 10, 3) := by decide +kernel
theorem dX4_move_4 : decode cX4_move 4 = .ok (.iload_n 1, 1) := by decide +kernel
theorem dX4_move_5 : decode cX4_move 5 = .ok (.invokevirtual 65, 3) := by decide +kernel
theorem dX4_move_8 : decode cX4_move 8 = .ok (.ifCond .eq 14, 3) := by decide +kernel
theorem dX4_move_11 : decode cX4_move 11 = .ok (.aload_n 0, 1) := by decide +kernel
theorem dX4_move_12 : decode cX4_move 12 = .ok (.getfield 10, 3) := by decide +kernel
theorem dX4_move_15 : decode cX4_move 15 = .ok (.iload_n 2, 1) := by decide +kernel
theorem dX4_move_16 : decode cX4_move 16 = .ok (.invokevirtual 65, 3) := by decide +kernel
theorem dX4_move_19 : decode cX4_move 19 = .ok (.ifCond .ne 5, 3) := by decide +kernel
theorem dX4_move_22 : decode cX4_move 22 = .ok (.iconst (-1), 1) := by decide +kernel
theorem dX4_move_23 : decode cX4_move 23 = .ok (.ireturn, 1) := by decide +kernel
theorem dX4_move_24 : decode cX4_move 24 = .ok (.iload_n 2, 1) := by decide +kernel
theorem dX4_move_25 : decode cX4_move 25 = .ok (.iload_n 1, 1) := by decide +kernel
theorem dX4_move_26 : decode cX4_move 26 = .ok (.if_icmp .lt 18, 3) := by decide +kernel
theorem dX4_move_29 : decode cX4_move 29 = .ok (.iload_n 2, 1) := by decide +kernel
theorem dX4_move_30 : decode cX4_move 30 = .ok (.aload_n 0, 1) := by decide +kernel
theorem dX4_move_31 : decode cX4_move 31 = .ok (.getfield 10, 3) := by decide +kernel
theorem dX4_move_34 : decode cX4_move 34 = .ok (.iload_n 1, 1) := by decide +kernel
theorem dX4_move_35 : decode cX4_move 35 = .ok (.invokevirtual 211, 3) := by decide +kernel
theorem dX4_move_38 : decode cX4_move 38 = .ok (.if_icmp .ge 6, 3) := by decide +kernel
theorem dX4_move_41 : decode cX4_move 41 = .ok (.bipush (-3), 2) := by decide +kernel
theorem dX4_move_43 : decode cX4_move 43 = .ok (.ireturn, 1) := by decide +kernel
theorem dX4_move_44 : decode cX4_move 44 = .ok (.aload_n 0, 1) := by decide +kernel
theorem dX4_move_45 : decode cX4_move 45 = .ok (.getfield 10, 3) := by decide +kernel
theorem dX4_move_48 : decode cX4_move 48 = .ok (.iload_n 2, 1) := by decide +kernel
theorem dX4_move_49 : decode cX4_move 49 = .ok (.invokevirtual 75, 3) := by decide +kernel
theorem dX4_move_52 : decode cX4_move 52 = .ok (.aload_n 0, 1) := by decide +kernel
theorem dX4_move_53 : decode cX4_move 53 = .ok (.getfield 10, 3) := by decide +kernel
theorem dX4_move_56 : decode cX4_move 56 = .ok (.iload_n 1, 1) := by decide +kernel
theorem dX4_move_57 : decode cX4_move 57 = .ok (.invokevirtual 72, 3) := by decide +kernel
theorem dX4_move_60 : decode cX4_move 60 = .ok (.iload_n 2, 1) := by decide +kernel
theorem dX4_move_61 : decode cX4_move 61 = .ok (.if_icmp .ne 7, 3) := by decide +kernel
theorem dX4_move_64 : decode cX4_move 64 = .ok (.iconst 1, 1) := by decide +kernel
theorem dX4_move_65 : decode cX4_move 65 = .ok (.goto 4, 3) := by decide +kernel
theorem dX4_move_68 : decode cX4_move 68 = .ok (.iconst 0, 1) := by decide +kernel
theorem dX4_move_69 : decode cX4_move 69 = .ok (.isub, 1) := by decide +kernel
theorem dX4_move_70 : decode cX4_move 70 = .ok (.istore 4, 2) := by decide +kernel
theorem dX4_move_72 : decode cX4_move 72 = .ok (.iload_n 3, 1) := by decide +kernel
theorem dX4_move_73 : decode cX4_move 73 = .ok (.ifCond .lt 9, 3) := by decide +kernel
theorem dX4_move_76 : decode cX4_move 76 = .ok (.iload_n 3, 1) := by decide +kernel
theorem dX4_move_77 : decode cX4_move 77 = .ok (.iload 4, 2) := by decide +kernel
theorem dX4_move_79 : decode cX4_move 79 = .ok (.if_icmp .le 6, 3) := by decide +kernel
theorem dX4_move_82 : decode cX4_move 82 = .ok (.bipush (-2), 2) := by decide +kernel
theorem dX4_move_84 : decode cX4_move 84 = .ok (.ireturn, 1) := by decide +kernel
theorem dX4_move_85 : decode cX4_move 85 = .ok (.aload_n 0, 1) := by decide +kernel
theorem dX4_move_86 : decode cX4_move 86 = .ok (.getfield 26, 3) := by decide +kernel
theorem dX4_move_89 : decode cX4_move 89 = .ok (.aload_n 0, 1) := by decide +kernel
theorem dX4_move_90 : decode cX4_move 90 = .ok (.getfield 10, 3) := by decide +kernel
theorem dX4_move_93 : decode cX4_move 93 = .ok (.invokevirtual 48, 3) := by decide +kernel
theorem dX4_move_96 : decode cX4_move 96 = .ok (.aload_n 0, 1) := by decide +kernel
theorem dX4_move_97 : decode cX4_move 97 = .ok (.getfield 10, 3) := by decide +kernel
theorem dX4_move_100 : decode cX4_move 100 = .ok (.iload_n 1, 1) := by decide +kernel
theorem dX4_move_101 : decode cX4_move 101 = .ok (.iload_n 2, 1) := by decide +kernel
theorem dX4_move_102 : decode cX4_move 102 = .ok (.iload_n 3, 1) := by decide +kernel
theorem dX4_move_103 : decode cX4_move 103 = .ok (.invokevirtual 214, 3) := by decide +kernel
theorem dX4_move_106 : decode cX4_move 106 = .ok (.ireturn, 1) := by decide +kernel
set_option maxRecDepth 20000 in
theorem ggX4_undo_X1_isBlank : GoodIn wsX4_undo wsX1_isBlank := goodIn_r _ [7, 8, 46, 47, 48, 49, 50] (by decide +kernel) (by decide +kernel)
set_option maxRecDepth 20000 in
theorem gX4_undo_X1_isBlank : GoodIn wsX4_undo (wsV RX4 217 RX1 yX1_isBlank wsX1_isBlank) := goodIn_app (goodIn_of _ (by decide +kernel)) ggX4_undo_X1_isBlank
set_option maxRecDepth 20000 in
theorem ggX4_undo_X1_recall : GoodIn wsX4_undo wsX1_recall := goodIn_r _ [12, 13, 8, 14, 15, 16, 17, 18, 19, 20, 21, 22, 23, 24, 25, 26, 27, 28, 29, 30, 31, 32, 33, 34, 35, 36, 37, 38, 39, 40, 41, 46, 47, 48, 49, 50, 51, 52, 53, 54, 55] (by decide +kernel) (by decide +kernel)
set_option maxRecDepth 20000 in
theorem gX4_undo_X1_recall : GoodIn wsX4_undo (wsV RX4 221 RX1 yX1_recall wsX1_recall) := goodIn_app (goodIn_of _ (by decide +kernel)) ggX4_undo_X1_recall
theorem dX4_undo_0 : decode cX4_undo 0 = .ok (.aload_n 0, 1) := by decide +kernel
theorem dX4_undo_1 : decode cX4_undo 1 = .ok (.getfield 26, 3) := by decide +kernel
theorem dX4_undo_4 : decode cX4_undo 4 = .ok (.invokevirtual 217, 3) := by decide +kernel
theorem dX4_undo_7 : decode cX4_undo 7 = .ok (.ifCond .eq 8, 3) := by decide +kernel
theorem dX4_undo_10 : decode cX4_undo 10 = .ok (.bipush (-5), 2) := by decide +kernel
theorem dX4_undo_12 : decode cX4_undo 12 = .ok (.goto 14, 3) := by decide +kernel
theorem dX4_undo_15 : decode cX4_undo 15 = .ok (.aload_n 0, 1) := by decide +kernel
theorem dX4_undo_16 : decode cX4_undo 16 = .ok (.getfield 26, 3) := by decide +kernel
theorem dX4_undo_19 : decode cX4_undo 19 = .ok (.aload_n 0, 1) := by decide +kernel
theorem dX4_undo_20 : decode cX4_undo 20 = .ok (.getfield 10, 3) := by decide +kernel
theorem dX4_undo_23 : decode cX4_undo 23 = .ok (.invokevirtual 221, 3) := by decide +kernel
theorem dX4_undo_26 : decode cX4_undo 26 = .ok (.ireturn, 1) := by decide +kernel
theorem dX4_isLetter_0 : decode cX4_isLetter 0 = .ok (.iload_n 0, 1) := by decide +kernel
theorem dX4_isLetter_1 : decode cX4_isLetter 1 = .ok (.bipush 97, 2) := by decide +kernel
theorem dX4_isLetter_3 : decode cX4_isLetter 3 = .ok (.if_icmp .lt 13, 3) := by decide +kernel
theorem dX4_isLetter_6 : decode cX4_isLetter 6 = .ok (.iload_n 0, 1) := by decide +kernel
theorem dX4_isLetter_7 : decode cX4_isLetter 7 = .ok (.bipush 122, 2) := by decide +kernel
theorem dX4_isLetter_9 : decode cX4_isLetter 9 = .ok (.if_icmp .gt 7, 3) := by decide +kernel
theorem dX4_isLetter_12 : decode cX4_isLetter 12 = .ok (.iconst 1, 1) := by decide +kernel
theorem dX4_isLetter_13 : decode cX4_isLetter 13 = .ok (.goto 4, 3) := by decide +kernel
theorem dX4_isLetter_16 : decode cX4_isLetter 16 = .ok (.iconst 0, 1) := by decide +kernel
theorem dX4_isLetter_17 : decode cX4_isLetter 17 = .ok (.ireturn, 1) := by decide +kernel
theorem dX4_binaryDigits_0 : decode cX4_binaryDigits 0 = .ok (.iconst 1, 1) := by decide +kernel
theorem dX4_binaryDigits_1 : decode cX4_binaryDigits 1 = .ok (.istore_n 1, 1) := by decide +kernel
theorem dX4_binaryDigits_2 : decode cX4_binaryDigits 2 = .ok (.iload_n 1, 1) := by decide +kernel
theorem dX4_binaryDigits_3 : decode cX4_binaryDigits 3 = .ok (.bipush 31, 2) := by decide +kernel
theorem dX4_binaryDigits_5 : decode cX4_binaryDigits 5 = .ok (.if_icmp .ge 16, 3) := by decide +kernel
theorem dX4_binaryDigits_8 : decode cX4_binaryDigits 8 = .ok (.iload_n 0, 1) := by decide +kernel
theorem dX4_binaryDigits_9 : decode cX4_binaryDigits 9 = .ok (.iconst 1, 1) := by decide +kernel
theorem dX4_binaryDigits_10 : decode cX4_binaryDigits 10 = .ok (.iload_n 1, 1) := by decide +kernel
theorem dX4_binaryDigits_11 : decode cX4_binaryDigits 11 = .ok (.ishl, 1) := by decide +kernel
theorem dX4_binaryDigits_12 : decode cX4_binaryDigits 12 = .ok (.if_icmp .lt 9, 3) := by decide +kernel
theorem dX4_binaryDigits_15 : decode cX4_binaryDigits 15 = .ok (.iinc 1 1, 3) := by decide +kernel
theorem dX4_binaryDigits_18 : decode cX4_binaryDigits 18 = .ok (.goto (-16), 3) := by decide +kernel
theorem dX4_binaryDigits_21 : decode cX4_binaryDigits 21 = .ok (.iload_n 1, 1) := by decide +kernel
theorem dX4_binaryDigits_22 : decode cX4_binaryDigits 22 = .ok (.ireturn, 1) := by decide +kernel
theorem dX4_get_0 : decode cX4_get 0 = .ok (.iload_n 1, 1) := by decide +kernel
theorem dX4_get_1 : decode cX4_get 1 = .ok (.ifCond .lt 15, 3) := by decide +kernel
theorem dX4_get_4 : decode cX4_get 4 = .ok (.iload_n 1, 1) := by decide +kernel
theorem dX4_get_5 : decode cX4_get 5 = .ok (.aload_n 0, 1) := by decide +kernel
theorem dX4_get_6 : decode cX4_get 6 = .ok (.arraylength, 1) := by decide +kernel
theorem dX4_get_7 : decode cX4_get 7 = .ok (.if_icmp .ge 9, 3) := by decide +kernel
theorem dX4_get_10 : decode cX4_get 10 = .ok (.aload_n 0, 1) := by decide +kernel
theorem dX4_get_11 : decode cX4_get 11 = .ok (.iload_n 1, 1) := by decide +kernel
theorem dX4_get_12 : decode cX4_get 12 = .ok (.iaload, 1) := by decide +kernel
theorem dX4_get_13 : decode cX4_get 13 = .ok (.goto 4, 3) := by decide +kernel
theorem dX4_get_16 : decode cX4_get 16 = .ok (.iconst 0, 1) := by decide +kernel
theorem dX4_get_17 : decode cX4_get 17 = .ok (.ireturn, 1) := by decide +kernel
theorem dX4_put_0 : decode cX4_put 0 = .ok (.iload_n 1, 1) := by decide +kernel
theorem dX4_put_1 : decode cX4_put 1 = .ok (.ifCond .lt 13, 3) := by decide +kernel
theorem dX4_put_4 : decode cX4_put 4 = .ok (.iload_n 1, 1) := by decide +kernel
theorem dX4_put_5 : decode cX4_put 5 = .ok (.aload_n 0, 1) := by decide +kernel
theorem dX4_put_6 : decode cX4_put 6 = .ok (.arraylength, 1) := by decide +kernel
theorem dX4_put_7 : decode cX4_put 7 = .ok (.if_icmp .ge 7, 3) := by decide +kernel
theorem dX4_put_10 : decode cX4_put 10 = .ok (.aload_n 0, 1) := by decide +kernel
theorem dX4_put_11 : decode cX4_put 11 = .ok (.iload_n 1, 1) := by decide +kernel
theorem dX4_put_12 : decode cX4_put 12 = .ok (.iload_n 2, 1) := by decide +kernel
theorem dX4_put_13 : decode cX4_put 13 = .ok (.iastore, 1) := by decide +kernel
theorem dX4_put_14 : decode cX4_put 14 = .ok (.return_, 1) := by decide +kernel
theorem dJ9_max_7cf53_0 : decode cJ9_max_7cf53 0 = .ok (.iload_n 0, 1) := by decide +kernel
theorem dJ9_max_7cf53_1 : decode cJ9_max_7cf53 1 = .ok (.iload_n 1, 1) := by decide +kernel
theorem dJ9_max_7cf53_2 : decode cJ9_max_7cf53 2 = .ok (.if_icmp .lt 7, 3) := by decide +kernel
theorem dJ9_max_7cf53_5 : decode cJ9_max_7cf53 5 = .ok (.iload_n 0, 1) := by decide +kernel
theorem dJ9_max_7cf53_6 : decode cJ9_max_7cf53 6 = .ok (.goto 4, 3) := by decide +kernel
theorem dJ9_max_7cf53_9 : decode cJ9_max_7cf53 9 = .ok (.iload_n 1, 1) := by decide +kernel
theorem dJ9_max_7cf53_10 : decode cJ9_max_7cf53 10 = .ok (.ireturn, 1) := by decide +kernel
theorem dJ9_min_7cf53_0 : decode cJ9_min_7cf53 0 = .ok (.iload_n 0, 1) := by decide +kernel
theorem dJ9_min_7cf53_1 : decode cJ9_min_7cf53 1 = .ok (.iload_n 1, 1) := by decide +kernel
theorem dJ9_min_7cf53_2 : decode cJ9_min_7cf53 2 = .ok (.if_icmp .gt 7, 3) := by decide +kernel
theorem dJ9_min_7cf53_5 : decode cJ9_min_7cf53 5 = .ok (.iload_n 0, 1) := by decide +kernel
theorem dJ9_min_7cf53_6 : decode cJ9_min_7cf53 6 = .ok (.goto 4, 3) := by decide +kernel
theorem dJ9_min_7cf53_9 : decode cJ9_min_7cf53 9 = .ok (.iload_n 1, 1) := by decide +kernel
theorem dJ9_min_7cf53_10 : decode cJ9_min_7cf53 10 = .ok (.ireturn, 1) := by decide +kernel
end
section
theorem dL_cell_0 : decode cL_cell 0 = .ok (.iload_n 1, 1) := by decide +kernel
theorem dL_cell_1 : decode cL_cell 1 = .ok (.aload_n 0, 1) := by decide +kernel
theorem dL_cell_2 : decode cL_cell 2 = .ok (.arraylength, 1) := by decide +kernel
theorem dL_cell_3 : decode cL_cell 3 = .ok (.if_icmp .ge 9, 3) := by decide +kernel
theorem dL_cell_6 : decode cL_cell 6 = .ok (.aload_n 0, 1) := by decide +kernel
theorem dL_cell_7 : decode cL_cell 7 = .ok (.iload_n 1, 1) := by decide +kernel
theorem dL_cell_8 : decode cL_cell 8 = .ok (.iaload, 1) := by decide +kernel
theorem dL_cell_9 : decode cL_cell 9 = .ok (.goto 11, 3) := by decide +kernel
theorem dL_cell_12 : decode cL_cell 12 = .ok (.ldc 7, 2) := by decide +kernel
theorem dL_cell_14 : decode cL_cell 14 = .ok (.iload_n 1, 1) := by decide +kernel
theorem dL_cell_15 : decode cL_cell 15 = .ok (.imul, 1) := by decide +kernel
theorem dL_cell_16 : decode cL_cell 16 = .ok (.sipush 347, 3) := by decide +kernel
theorem dL_cell_19 : decode cL_cell 19 = .ok (.iadd, 1) := by decide +kernel
theorem dL_cell_20 : decode cL_cell 20 = .ok (.ireturn, 1) := by decide +kernel
theorem dL_low_0 : decode cL_low 0 = .ok (.iload_n 0, 1) := by decide +kernel
theorem dL_low_1 : decode cL_low 1 = .ok (.ldc 8, 2) := by decide +kernel
theorem dL_low_3 : decode cL_low 3 = .ok (.iand, 1) := by decide +kernel
theorem dL_low_4 : decode cL_low 4 = .ok (.iload_n 1, 1) := by decide +kernel
theorem dL_low_5 : decode cL_low 5 = .ok (.irem, 1) := by decide +kernel
theorem dL_low_6 : decode cL_low 6 = .ok (.ireturn, 1) := by decide +kernel
set_option maxRecDepth 20000 in
theorem ggL_node_X4_size : GoodIn wsL_node wsX4_size := goodIn_r _ [5, 6, 7, 8, 9, 10, 11, 12, 157, 158, 159, 160, 161, 162, 163, 164, 165] (by decide +kernel) (by decide +kernel)
set_option maxRecDepth 20000 in
theorem gL_node_X4_size : GoodIn wsL_node (wsV RL 9 RX4 yX4_size wsX4_size) := goodIn_app (goodIn_of _ (by decide +kernel)) ggL_node_X4_size
set_option maxRecDepth 20000 in
theorem ggL_node_X4_node : GoodIn wsL_node wsX4_node := goodIn_r _ [16, 6, 17, 18, 19, 10, 20, 12, 21, 22, 23, 24, 25, 26, 27, 4, 28, 29, 30, 31, 32, 33, 34, 35, 36, 37, 38, 39, 40, 41, 42, 43, 44, 45, 46, 47, 48, 49, 50, 51, 52, 53, 54, 55, 56, 57, 58, 59, 60, 61, 62, 63, 64, 65, 66, 67, 68, 69, 70, 71, 72, 73, 74, 75, 76, 77, 78, 79, 80, 81, 82, 83, 84, 157, 158, 159, 160, 161, 162, 163, 164, 165] (by decide +kernel) (by decide +kernel)
set_option maxRecDepth 20000 in
theorem gL_node_X4_node : GoodIn wsL_node (wsV RL 15 RX4 yX4_node wsX4_node) := goodIn_app (goodIn_of _ (by decide +kernel)) ggL_node_X4_node
set_option maxRecDepth 20000 in
theorem ggL_node_X4_child : GoodIn wsL_node wsX4_child := goodIn_r _ [88, 6, 17, 18, 19, 10, 20, 12, 38, 39, 40, 41, 42, 43, 44, 45, 33, 22, 23, 24, 25, 26, 27, 4, 28, 89, 90, 91, 92, 157, 158, 159, 160, 161, 162, 163, 164, 165] (by decide +kernel) (by decide +kernel)
set_option maxRecDepth 20000 in
theorem gL_node_X4_child : GoodIn wsL_node (wsV RL 19 RX4 yX4_child wsX4_child) := goodIn_app (goodIn_of _ (by decide +kernel)) ggL_node_X4_child
set_option maxRecDepth 20000 in
theorem ggL_node_X4_neighbour : GoodIn wsL_node wsX4_neighbour := goodIn_r _ [96, 6, 17, 18, 19, 10, 20, 12, 97, 98, 99, 100, 42, 43, 44, 45, 33, 22, 23, 24, 25, 26, 27, 4, 28, 101, 102, 103, 104, 105, 55, 56, 57, 106, 107, 108, 109, 34, 35, 36, 37, 110, 111, 112, 113, 114, 115, 116, 117, 118, 62, 63, 64, 65, 119, 120, 121, 122, 75, 47, 48, 49, 157, 158, 159, 160, 161, 162, 163, 164, 165] (by decide +kernel) (by decide +kernel)
set_option maxRecDepth 20000 in
theorem gL_node_X4_neighbour : GoodIn wsL_node (wsV RL 22 RX4 yX4_neighbour wsX4_neighbour) := goodIn_app (goodIn_of _ (by decide +kernel)) ggL_node_X4_neighbour
set_option maxRecDepth 20000 in
theorem ggL_node_X4_bracket : GoodIn wsL_node wsX4_bracket := goodIn_r _ [126, 6, 127, 128, 129, 10, 130, 12, 131, 132, 133, 134, 135, 136, 137, 138, 74, 67, 68, 69, 33, 22, 23, 24, 25, 26, 18, 19, 20, 27, 4, 28, 139, 140, 141, 142, 34, 35, 36, 37, 66, 143, 70, 71, 72, 73, 75, 47, 48, 49, 42, 43, 44, 45, 29, 30, 31, 32, 157, 158, 159, 160, 161, 162, 163, 164, 165] (by decide +kernel) (by decide +kernel)
set_option maxRecDepth 20000 in
theorem gL_node_X4_bracket : GoodIn wsL_node (wsV RL 25 RX4 yX4_bracket wsX4_bracket) := goodIn_app (goodIn_of _ (by decide +kernel)) ggL_node_X4_bracket
set_option maxRecDepth 20000 in
theorem ggL_node_X4_deepest : GoodIn wsL_node wsX4_deepest := goodIn_r _ [147, 6, 17, 18, 19, 10, 20, 12, 50, 51, 52, 53, 42, 43, 44, 45, 33, 22, 23, 24, 25, 26, 27, 4, 28, 157, 158, 159, 160, 161, 162, 163, 164, 165] (by decide +kernel) (by decide +kernel)
set_option maxRecDepth 20000 in
theorem gL_node_X4_deepest : GoodIn wsL_node (wsV RL 28 RX4 yX4_deepest wsX4_deepest) := goodIn_app (goodIn_of _ (by decide +kernel)) ggL_node_X4_deepest
set_option maxRecDepth 20000 in
theorem ggL_node_X4_byPostorder : GoodIn wsL_node wsX4_byPostorder := goodIn_r _ [151, 6, 7, 8, 9, 10, 11, 12, 152, 153, 154, 155, 156, 77, 78, 79, 42, 43, 44, 45, 33, 22, 23, 24, 25, 26, 18, 19, 20, 27, 4, 28, 157, 158, 159, 160, 161, 162, 163, 164, 165] (by decide +kernel) (by decide +kernel)
set_option maxRecDepth 20000 in
theorem gL_node_X4_byPostorder : GoodIn wsL_node (wsV RL 32 RX4 yX4_byPostorder wsX4_byPostorder) := goodIn_app (goodIn_of _ (by decide +kernel)) ggL_node_X4_byPostorder
theorem dL_node_0 : decode cL_node 0 = .ok (.aload_n 0, 1) := by decide +kernel
theorem dL_node_1 : decode cL_node 1 = .ok (.invokevirtual 9, 3) := by decide +kernel
theorem dL_node_4 : decode cL_node 4 = .ok (.istore_n 2, 1) := by decide +kernel
theorem dL_node_5 : decode cL_node 5 = .ok (.aload_n 0, 1) := by decide +kernel
theorem dL_node_6 : decode cL_node 6 = .ok (.iload_n 1, 1) := by decide +kernel
theorem dL_node_7 : decode cL_node 7 = .ok (.iconst 0, 1) := by decide +kernel
theorem dL_node_8 : decode cL_node 8 = .ok (.invokevirtual 15, 3) := by decide +kernel
theorem dL_node_11 : decode cL_node 11 = .ok (.istore_n 3, 1) := by decide +kernel
theorem dL_node_12 : decode cL_node 12 = .ok (.aload_n 0, 1) := by decide +kernel
theorem dL_node_13 : decode cL_node 13 = .ok (.iload_n 1, 1) := by decide +kernel
theorem dL_node_14 : decode cL_node 14 = .ok (.iconst 1, 1) := by decide +kernel
theorem dL_node_15 : decode cL_node 15 = .ok (.invokevirtual 15, 3) := by decide +kernel
theorem dL_node_18 : decode cL_node 18 = .ok (.istore 4, 2) := by decide +kernel
theorem dL_node_20 : decode cL_node 20 = .ok (.aload_n 0, 1) := by decide +kernel
theorem dL_node_21 : decode cL_node 21 = .ok (.iload_n 1, 1) := by decide +kernel
theorem dL_node_22 : decode cL_node 22 = .ok (.iconst 2, 1) := by decide +kernel
theorem dL_node_23 : decode cL_node 23 = .ok (.invokevirtual 15, 3) := by decide +kernel
theorem dL_node_26 : decode cL_node 26 = .ok (.istore 5, 2) := by decide +kernel
theorem dL_node_28 : decode cL_node 28 = .ok (.aload_n 0, 1) := by decide +kernel
theorem dL_node_29 : decode cL_node 29 = .ok (.iload_n 1, 1) := by decide +kernel
theorem dL_node_30 : decode cL_node 30 = .ok (.iconst 3, 1) := by decide +kernel
theorem dL_node_31 : decode cL_node 31 = .ok (.invokevirtual 15, 3) := by decide +kernel
theorem dL_node_34 : decode cL_node 34 = .ok (.istore 6, 2) := by decide +kernel
theorem dL_node_36 : decode cL_node 36 = .ok (.aload_n 0, 1) := by decide +kernel
theorem dL_node_37 : decode cL_node 37 = .ok (.iload_n 1, 1) := by decide +kernel
theorem dL_node_38 : decode cL_node 38 = .ok (.iconst 4, 1) := by decide +kernel
theorem dL_node_39 : decode cL_node 39 = .ok (.invokevirtual 15, 3) := by decide +kernel
theorem dL_node_42 : decode cL_node 42 = .ok (.istore 7, 2) := by decide +kernel
theorem dL_node_44 : decode cL_node 44 = .ok (.aload_n 0, 1) := by decide +kernel
theorem dL_node_45 : decode cL_node 45 = .ok (.iload_n 1, 1) := by decide +kernel
theorem dL_node_46 : decode cL_node 46 = .ok (.bipush 7, 2) := by decide +kernel
theorem dL_node_48 : decode cL_node 48 = .ok (.invokevirtual 15, 3) := by decide +kernel
theorem dL_node_51 : decode cL_node 51 = .ok (.istore 8, 2) := by decide +kernel
theorem dL_node_53 : decode cL_node 53 = .ok (.aload_n 0, 1) := by decide +kernel
theorem dL_node_54 : decode cL_node 54 = .ok (.iload_n 1, 1) := by decide +kernel
theorem dL_node_55 : decode cL_node 55 = .ok (.bipush 8, 2) := by decide +kernel
theorem dL_node_57 : decode cL_node 57 = .ok (.invokevirtual 15, 3) := by decide +kernel
theorem dL_node_60 : decode cL_node 60 = .ok (.istore 9, 2) := by decide +kernel
theorem dL_node_62 : decode cL_node 62 = .ok (.iconst 1, 1) := by decide +kernel
theorem dL_node_63 : decode cL_node 63 = .ok (.istore 10, 2) := by decide +kernel
theorem dL_node_65 : decode cL_node 65 = .ok (.iload 5, 2) := by decide +kernel
theorem dL_node_67 : decode cL_node 67 = .ok (.ifCond .ne 7, 3) := by decide +kernel
theorem dL_node_70 : decode cL_node 70 = .ok (.iconst 1, 1) := by decide +kernel
theorem dL_node_71 : decode cL_node 71 = .ok (.goto 4, 3) := by decide +kernel
theorem dL_node_74 : decode cL_node 74 = .ok (.iconst 0, 1) := by decide +kernel
theorem dL_node_75 : decode cL_node 75 = .ok (.istore 11, 2) := by decide +kernel
theorem dL_node_77 : decode cL_node 77 = .ok (.iconst 0, 1) := by decide +kernel
theorem dL_node_78 : decode cL_node 78 = .ok (.istore 12, 2) := by decide +kernel
theorem dL_node_80 : decode cL_node 80 = .ok (.iload_n 1, 1) := by decide +kernel
theorem dL_node_81 : decode cL_node 81 = .ok (.iconst 1, 1) := by decide +kernel
theorem dL_node_82 : decode cL_node 82 = .ok (.iadd, 1) := by decide +kernel
theorem dL_node_83 : decode cL_node 83 = .ok (.istore 13, 2) := by decide +kernel
theorem dL_node_85 : decode cL_node 85 = .ok (.bipush (-5), 2) := by decide +kernel
theorem dL_node_87 : decode cL_node 87 = .ok (.istore 14, 2) := by decide +kernel
theorem dL_node_89 : decode cL_node 89 = .ok (.iconst 0, 1) := by decide +kernel
theorem dL_node_90 : decode cL_node 90 = .ok (.istore 15, 2) := by decide +kernel
theorem dL_node_92 : decode cL_node 92 = .ok (.iconst 0, 1) := by decide +kernel
theorem dL_node_93 : decode cL_node 93 = .ok (.istore 16, 2) := by decide +kernel
theorem dL_node_95 : decode cL_node 95 = .ok (.iload 16, 2) := by decide +kernel
theorem dL_node_97 : decode cL_node 97 = .ok (.iload 5, 2) := by decide +kernel
theorem dL_node_99 : decode cL_node 99 = .ok (.if_icmp .ge 223, 3) := by decide +kernel
theorem dL_node_102 : decode cL_node 102 = .ok (.aload_n 0, 1) := by decide +kernel
theorem dL_node_103 : decode cL_node 103 = .ok (.iload_n 1, 1) := by decide +kernel
theorem dL_node_104 : decode cL_node 104 = .ok (.iload 16, 2) := by decide +kernel
theorem dL_node_106 : decode cL_node 106 = .ok (.invokevirtual 19, 3) := by decide +kernel
theorem dL_node_109 : decode cL_node 109 = .ok (.istore 17, 2) := by decide +kernel
theorem dL_node_111 : decode cL_node 111 = .ok (.iload 17, 2) := by decide +kernel
theorem dL_node_113 : decode cL_node 113 = .ok (.iload 13, 2) := by decide +kernel
theorem dL_node_115 : decode cL_node 115 = .ok (.if_icmp .ne 101, 3) := by decide +kernel
theorem dL_node_118 : decode cL_node 118 = .ok (.aload_n 0, 1) := by decide +kernel
theorem dL_node_119 : decode cL_node 119 = .ok (.iload 17, 2) := by decide +kernel
theorem dL_node_121 : decode cL_node 121 = .ok (.iconst 1, 1) := by decide +kernel
theorem dL_node_122 : decode cL_node 122 = .ok (.invokevirtual 15, 3) := by decide +kernel
theorem dL_node_125 : decode cL_node 125 = .ok (.iload_n 1, 1) := by decide +kernel
theorem dL_node_126 : decode cL_node 126 = .ok (.if_icmp .ne 90, 3) := by decide +kernel
theorem dL_node_129 : decode cL_node 129 = .ok (.aload_n 0, 1) := by decide +kernel
theorem dL_node_130 : decode cL_node 130 = .ok (.iload 17, 2) := by decide +kernel
theorem dL_node_132 : decode cL_node 132 = .ok (.iconst 0, 1) := by decide +kernel
theorem dL_node_133 : decode cL_node 133 = .ok (.invokevirtual 15, 3) := by decide +kernel
theorem dL_node_136 : decode cL_node 136 = .ok (.iload_n 3, 1) := by decide +kernel
theorem dL_node_137 : decode cL_node 137 = .ok (.iconst 1, 1) := by decide +kernel
theorem dL_node_138 : decode cL_node 138 = .ok (.iadd, 1) := by decide +kernel
theorem dL_node_139 : decode cL_node 139 = .ok (.if_icmp .ne 77, 3) := by decide +kernel
theorem dL_node_142 : decode cL_node 142 = .ok (.aload_n 0, 1) := by decide +kernel
theorem dL_node_143 : decode cL_node 143 = .ok (.iload 17, 2) := by decide +kernel
theorem dL_node_145 : decode cL_node 145 = .ok (.iconst 5, 1) := by decide +kernel
theorem dL_node_146 : decode cL_node 146 = .ok (.invokevirtual 15, 3) := by decide +kernel
theorem dL_node_149 : decode cL_node 149 = .ok (.iload 16, 2) := by decide +kernel
theorem dL_node_151 : decode cL_node 151 = .ok (.if_icmp .ne 65, 3) := by decide +kernel
theorem dL_node_154 : decode cL_node 154 = .ok (.aload_n 0, 1) := by decide +kernel
theorem dL_node_155 : decode cL_node 155 = .ok (.iload 17, 2) := by decide +kernel
theorem dL_node_157 : decode cL_node 157 = .ok (.iconst 1, 1) := by decide +kernel
theorem dL_node_158 : decode cL_node 158 = .ok (.invokevirtual 22, 3) := by decide +kernel
theorem dL_node_161 : decode cL_node 161 = .ok (.iload 16, 2) := by decide +kernel
theorem dL_node_163 : decode cL_node 163 = .ok (.ifCond .ne 8, 3) := by decide +kernel
theorem dL_node_166 : decode cL_node 166 = .ok (.bipush (-5), 2) := by decide +kernel
theorem dL_node_168 : decode cL_node 168 = .ok (.goto 12, 3) := by decide +kernel
theorem dL_node_171 : decode cL_node 171 = .ok (.aload_n 0, 1) := by decide +kernel
theorem dL_node_172 : decode cL_node 172 = .ok (.iload_n 1, 1) := by decide +kernel
theorem dL_node_173 : decode cL_node 173 = .ok (.iload 16, 2) := by decide +kernel
theorem dL_node_175 : decode cL_node 175 = .ok (.iconst 1, 1) := by decide +kernel
theorem dL_node_176 : decode cL_node 176 = .ok (.isub, 1) := by decide +kernel
theorem dL_node_177 : decode cL_node 177 = .ok (.invokevirtual 19, 3) := by decide +kernel
theorem dL_node_180 : decode cL_node 180 = .ok (.if_icmp .ne 36, 3) := by decide +kernel
theorem dL_node_183 : decode cL_node 183 = .ok (.aload_n 0, 1) := by decide +kernel
theorem dL_node_184 : decode cL_node 184 = .ok (.iload 17, 2) := by decide +kernel
theorem dL_node_186 : decode cL_node 186 = .ok (.iconst 0, 1) := by decide +kernel
theorem dL_node_187 : decode cL_node 187 = .ok (.invokevirtual 22, 3) := by decide +kernel
theorem dL_node_190 : decode cL_node 190 = .ok (.iload 16, 2) := by decide +kernel
theorem dL_node_192 : decode cL_node 192 = .ok (.iconst 1, 1) := by decide +kernel
theorem dL_node_193 : decode cL_node 193 = .ok (.iadd, 1) := by decide +kernel
theorem dL_node_194 : decode cL_node 194 = .ok (.iload 5, 2) := by decide +kernel
theorem dL_node_196 : decode cL_node 196 = .ok (.if_icmp .ne 8, 3) := by decide +kernel
theorem dL_node_199 : decode cL_node 199 = .ok (.bipush (-5), 2) := by decide +kernel
theorem dL_node_201 : decode cL_node 201 = .ok (.goto 12, 3) := by decide +kernel
theorem dL_node_204 : decode cL_node 204 = .ok (.aload_n 0, 1) := by decide +kernel
theorem dL_node_205 : decode cL_node 205 = .ok (.iload_n 1, 1) := by decide +kernel
theorem dL_node_206 : decode cL_node 206 = .ok (.iload 16, 2) := by decide +kernel
theorem dL_node_208 : decode cL_node 208 = .ok (.iconst 1, 1) := by decide +kernel
theorem dL_node_209 : decode cL_node 209 = .ok (.iadd, 1) := by decide +kernel
theorem dL_node_210 : decode cL_node 210 = .ok (.invokevirtual 19, 3) := by decide +kernel
theorem dL_node_213 : decode cL_node 213 = .ok (.if_icmp .eq 5, 3) := by decide +kernel
theorem dL_node_216 : decode cL_node 216 = .ok (.iconst 0, 1) := by decide +kernel
theorem dL_node_217 : decode cL_node 217 = .ok (.ireturn, 1) := by decide +kernel
theorem dL_node_218 : decode cL_node 218 = .ok (.aload_n 0, 1) := by decide +kernel
theorem dL_node_219 : decode cL_node 219 = .ok (.iload 17, 2) := by decide +kernel
theorem dL_node_221 : decode cL_node 221 = .ok (.iconst 3, 1) := by decide +kernel
theorem dL_node_222 : decode cL_node 222 = .ok (.invokevirtual 15, 3) := by decide +kernel
theorem dL_node_225 : decode cL_node 225 = .ok (.istore 18, 2) := by decide +kernel
theorem dL_node_227 : decode cL_node 227 = .ok (.iload 18, 2) := by decide +kernel
theorem dL_node_229 : decode cL_node 229 = .ok (.iload 15, 2) := by decide +kernel
theorem dL_node_231 : decode cL_node 231 = .ok (.if_icmp .le 8, 3) := by decide +kernel
theorem dL_node_234 : decode cL_node 234 = .ok (.iload 17, 2) := by decide +kernel
theorem dL_node_236 : decode cL_node 236 = .ok (.goto 5, 3) := by decide +kernel
theorem dL_node_239 : decode cL_node 239 = .ok (.iload 14, 2) := by decide +kernel
theorem dL_node_241 : decode cL_node 241 = .ok (.istore 14, 2) := by decide +kernel
theorem dL_node_243 : decode cL_node 243 = .ok (.iload 18, 2) := by decide +kernel
theorem dL_node_245 : decode cL_node 245 = .ok (.iload 15, 2) := by decide +kernel
theorem dL_node_247 : decode cL_node 247 = .ok (.if_icmp .le 8, 3) := by decide +kernel
theorem dL_node_250 : decode cL_node 250 = .ok (.iload 18, 2) := by decide +kernel
theorem dL_node_252 : decode cL_node 252 = .ok (.goto 5, 3) := by decide +kernel
theorem dL_node_255 : decode cL_node 255 = .ok (.iload 15, 2) := by decide +kernel
theorem dL_node_257 : decode cL_node 257 = .ok (.istore 15, 2) := by decide +kernel
theorem dL_node_259 : decode cL_node 259 = .ok (.aload_n 0, 1) := by decide +kernel
theorem dL_node_260 : decode cL_node 260 = .ok (.iload 17, 2) := by decide +kernel
theorem dL_node_262 : decode cL_node 262 = .ok (.iconst 4, 1) := by decide +kernel
theorem dL_node_263 : decode cL_node 263 = .ok (.invokevirtual 15, 3) := by decide +kernel
theorem dL_node_266 : decode cL_node 266 = .ok (.iconst 1, 1) := by decide +kernel
theorem dL_node_267 : decode cL_node 267 = .ok (.iadd, 1) := by decide +kernel
theorem dL_node_268 : decode cL_node 268 = .ok (.iload 12, 2) := by decide +kernel
theorem dL_node_270 : decode cL_node 270 = .ok (.if_icmp .le 15, 3) := by decide +kernel
theorem dL_node_273 : decode cL_node 273 = .ok (.aload_n 0, 1) := by decide +kernel
theorem dL_node_274 : decode cL_node 274 = .ok (.iload 17, 2) := by decide +kernel
theorem dL_node_276 : decode cL_node 276 = .ok (.iconst 4, 1) := by decide +kernel
theorem dL_node_277 : decode cL_node 277 = .ok (.invokevirtual 15, 3) := by decide +kernel
theorem dL_node_280 : decode cL_node 280 = .ok (.iconst 1, 1) := by decide +kernel
theorem dL_node_281 : decode cL_node 281 = .ok (.iadd, 1) := by decide +kernel
theorem dL_node_282 : decode cL_node 282 = .ok (.goto 5, 3) := by decide +kernel
theorem dL_node_285 : decode cL_node 285 = .ok (.iload 12, 2) := by decide +kernel
theorem dL_node_287 : decode cL_node 287 = .ok (.istore 12, 2) := by decide +kernel
theorem dL_node_289 : decode cL_node 289 = .ok (.iload 11, 2) := by decide +kernel
theorem dL_node_291 : decode cL_node 291 = .ok (.aload_n 0, 1) := by decide +kernel
theorem dL_node_292 : decode cL_node 292 = .ok (.iload 17, 2) := by decide +kernel
theorem dL_node_294 : decode cL_node 294 = .ok (.bipush 6, 2) := by decide +kernel
theorem dL_node_296 : decode cL_node 296 = .ok (.invokevirtual 15, 3) := by decide +kernel
theorem dL_node_299 : decode cL_node 299 = .ok (.iadd, 1) := by decide +kernel
theorem dL_node_300 : decode cL_node 300 = .ok (.istore 11, 2) := by decide +kernel
theorem dL_node_302 : decode cL_node 302 = .ok (.iload 10, 2) := by decide +kernel
theorem dL_node_304 : decode cL_node 304 = .ok (.iload 18, 2) := by decide +kernel
theorem dL_node_306 : decode cL_node 306 = .ok (.iadd, 1) := by decide +kernel
theorem dL_node_307 : decode cL_node 307 = .ok (.istore 10, 2) := by decide +kernel
theorem dL_node_309 : decode cL_node 309 = .ok (.iload 13, 2) := by decide +kernel
theorem dL_node_311 : decode cL_node 311 = .ok (.iload 18, 2) := by decide +kernel
theorem dL_node_313 : decode cL_node 313 = .ok (.iadd, 1) := by decide +kernel
theorem dL_node_314 : decode cL_node 314 = .ok (.istore 13, 2) := by decide +kernel
theorem dL_node_316 : decode cL_node 316 = .ok (.iinc 16 1, 3) := by decide +kernel
theorem dL_node_319 : decode cL_node 319 = .ok (.goto (-224), 3) := by decide +kernel
theorem dL_node_322 : decode cL_node 322 = .ok (.iload 10, 2) := by decide +kernel
theorem dL_node_324 : decode cL_node 324 = .ok (.iload 6, 2) := by decide +kernel
theorem dL_node_326 : decode cL_node 326 = .ok (.if_icmp .ne 60, 3) := by decide +kernel
theorem dL_node_329 : decode cL_node 329 = .ok (.iload 11, 2) := by decide +kernel
theorem dL_node_331 : decode cL_node 331 = .ok (.aload_n 0, 1) := by decide +kernel
theorem dL_node_332 : decode cL_node 332 = .ok (.iload_n 1, 1) := by decide +kernel
theorem dL_node_333 : decode cL_node 333 = .ok (.bipush 6, 2) := by decide +kernel
theorem dL_node_335 : decode cL_node 335 = .ok (.invokevirtual 15, 3) := by decide +kernel
theorem dL_node_338 : decode cL_node 338 = .ok (.if_icmp .ne 48, 3) := by decide +kernel
theorem dL_node_341 : decode cL_node 341 = .ok (.iload 12, 2) := by decide +kernel
theorem dL_node_343 : decode cL_node 343 = .ok (.iload 7, 2) := by decide +kernel
theorem dL_node_345 : decode cL_node 345 = .ok (.if_icmp .ne 41, 3) := by decide +kernel
theorem dL_node_348 : decode cL_node 348 = .ok (.iload 14, 2) := by decide +kernel
theorem dL_node_350 : decode cL_node 350 = .ok (.aload_n 0, 1) := by decide +kernel
theorem dL_node_351 : decode cL_node 351 = .ok (.iload_n 1, 1) := by decide +kernel
theorem dL_node_352 : decode cL_node 352 = .ok (.iconst 5, 1) := by decide +kernel
theorem dL_node_353 : decode cL_node 353 = .ok (.invokevirtual 22, 3) := by decide +kernel
theorem dL_node_356 : decode cL_node 356 = .ok (.if_icmp .ne 30, 3) := by decide +kernel
theorem dL_node_359 : decode cL_node 359 = .ok (.aload_n 0, 1) := by decide +kernel
theorem dL_node_360 : decode cL_node 360 = .ok (.iload_n 1, 1) := by decide +kernel
theorem dL_node_361 : decode cL_node 361 = .ok (.iload 5, 2) := by decide +kernel
theorem dL_node_363 : decode cL_node 363 = .ok (.invokevirtual 19, 3) := by decide +kernel
theorem dL_node_366 : decode cL_node 366 = .ok (.bipush (-5), 2) := by decide +kernel
theorem dL_node_368 : decode cL_node 368 = .ok (.if_icmp .ne 18, 3) := by decide +kernel
theorem dL_node_371 : decode cL_node 371 = .ok (.aload_n 0, 1) := by decide +kernel
theorem dL_node_372 : decode cL_node 372 = .ok (.iload_n 1, 1) := by decide +kernel
theorem dL_node_373 : decode cL_node 373 = .ok (.iconst (-1), 1) := by decide +kernel
theorem dL_node_374 : decode cL_node 374 = .ok (.invokevirtual 19, 3) := by decide +kernel
theorem dL_node_377 : decode cL_node 377 = .ok (.bipush (-2), 2) := by decide +kernel
theorem dL_node_379 : decode cL_node 379 = .ok (.if_icmp .ne 7, 3) := by decide +kernel
theorem dL_node_382 : decode cL_node 382 = .ok (.iconst 1, 1) := by decide +kernel
theorem dL_node_383 : decode cL_node 383 = .ok (.goto 4, 3) := by decide +kernel
theorem dL_node_386 : decode cL_node 386 = .ok (.iconst 0, 1) := by decide +kernel
theorem dL_node_387 : decode cL_node 387 = .ok (.istore 16, 2) := by decide +kernel
theorem dL_node_389 : decode cL_node 389 = .ok (.iload_n 1, 1) := by decide +kernel
theorem dL_node_390 : decode cL_node 390 = .ok (.ifCond .ne 59, 3) := by decide +kernel
theorem dL_node_393 : decode cL_node 393 = .ok (.iload 4, 2) := by decide +kernel
theorem dL_node_395 : decode cL_node 395 = .ok (.bipush (-5), 2) := by decide +kernel
theorem dL_node_397 : decode cL_node 397 = .ok (.if_icmp .ne 48, 3) := by decide +kernel
theorem dL_node_400 : decode cL_node 400 = .ok (.iload_n 3, 1) := by decide +kernel
theorem dL_node_401 : decode cL_node 401 = .ok (.ifCond .ne 44, 3) := by decide +kernel
theorem dL_node_404 : decode cL_node 404 = .ok (.iload 6, 2) := by decide +kernel
theorem dL_node_406 : decode cL_node 406 = .ok (.iload_n 2, 1) := by decide +kernel
theorem dL_node_407 : decode cL_node 407 = .ok (.if_icmp .ne 38, 3) := by decide +kernel
theorem dL_node_410 : decode cL_node 410 = .ok (.aload_n 0, 1) := by decide +kernel
theorem dL_node_411 : decode cL_node 411 = .ok (.iload_n 1, 1) := by decide +kernel
theorem dL_node_412 : decode cL_node 412 = .ok (.iconst 5, 1) := by decide +kernel
theorem dL_node_413 : decode cL_node 413 = .ok (.invokevirtual 15, 3) := by decide +kernel
theorem dL_node_416 : decode cL_node 416 = .ok (.ifCond .ne 29, 3) := by decide +kernel
theorem dL_node_419 : decode cL_node 419 = .ok (.aload_n 0, 1) := by decide +kernel
theorem dL_node_420 : decode cL_node 420 = .ok (.iload_n 1, 1) := by decide +kernel
theorem dL_node_421 : decode cL_node 421 = .ok (.iconst 0, 1) := by decide +kernel
theorem dL_node_422 : decode cL_node 422 = .ok (.invokevirtual 22, 3) := by decide +kernel
theorem dL_node_425 : decode cL_node 425 = .ok (.bipush (-5), 2) := by decide +kernel
theorem dL_node_427 : decode cL_node 427 = .ok (.if_icmp .ne 18, 3) := by decide +kernel
theorem dL_node_430 : decode cL_node 430 = .ok (.aload_n 0, 1) := by decide +kernel
theorem dL_node_431 : decode cL_node 431 = .ok (.iload_n 1, 1) := by decide +kernel
theorem dL_node_432 : decode cL_node 432 = .ok (.iconst 1, 1) := by decide +kernel
theorem dL_node_433 : decode cL_node 433 = .ok (.invokevirtual 22, 3) := by decide +kernel
theorem dL_node_436 : decode cL_node 436 = .ok (.bipush (-5), 2) := by decide +kernel
theorem dL_node_438 : decode cL_node 438 = .ok (.if_icmp .ne 7, 3) := by decide +kernel
theorem dL_node_441 : decode cL_node 441 = .ok (.iconst 1, 1) := by decide +kernel
theorem dL_node_442 : decode cL_node 442 = .ok (.goto 23, 3) := by decide +kernel
theorem dL_node_445 : decode cL_node 445 = .ok (.iconst 0, 1) := by decide +kernel
theorem dL_node_446 : decode cL_node 446 = .ok (.goto 19, 3) := by decide +kernel
theorem dL_node_449 : decode cL_node 449 = .ok (.iload 4, 2) := by decide +kernel
theorem dL_node_451 : decode cL_node 451 = .ok (.ifCond .lt 13, 3) := by decide +kernel
theorem dL_node_454 : decode cL_node 454 = .ok (.iload 4, 2) := by decide +kernel
theorem dL_node_456 : decode cL_node 456 = .ok (.iload_n 1, 1) := by decide +kernel
theorem dL_node_457 : decode cL_node 457 = .ok (.if_icmp .ge 7, 3) := by decide +kernel
theorem dL_node_460 : decode cL_node 460 = .ok (.iconst 1, 1) := by decide +kernel
theorem dL_node_461 : decode cL_node 461 = .ok (.goto 4, 3) := by decide +kernel
theorem dL_node_464 : decode cL_node 464 = .ok (.iconst 0, 1) := by decide +kernel
theorem dL_node_465 : decode cL_node 465 = .ok (.istore 17, 2) := by decide +kernel
theorem dL_node_467 : decode cL_node 467 = .ok (.iload 9, 2) := by decide +kernel
theorem dL_node_469 : decode cL_node 469 = .ok (.iload 8, 2) := by decide +kernel
theorem dL_node_471 : decode cL_node 471 = .ok (.isub, 1) := by decide +kernel
theorem dL_node_472 : decode cL_node 472 = .ok (.iconst 2, 1) := by decide +kernel
theorem dL_node_473 : decode cL_node 473 = .ok (.iload 6, 2) := by decide +kernel
theorem dL_node_475 : decode cL_node 475 = .ok (.imul, 1) := by decide +kernel
theorem dL_node_476 : decode cL_node 476 = .ok (.iconst 1, 1) := by decide +kernel
theorem dL_node_477 : decode cL_node 477 = .ok (.isub, 1) := by decide +kernel
theorem dL_node_478 : decode cL_node 478 = .ok (.if_icmp .ne 135, 3) := by decide +kernel
theorem dL_node_481 : decode cL_node 481 = .ok (.iload 8, 2) := by decide +kernel
theorem dL_node_483 : decode cL_node 483 = .ok (.iconst 2, 1) := by decide +kernel
theorem dL_node_484 : decode cL_node 484 = .ok (.iload_n 1, 1) := by decide +kernel
theorem dL_node_485 : decode cL_node 485 = .ok (.imul, 1) := by decide +kernel
theorem dL_node_486 : decode cL_node 486 = .ok (.iload_n 3, 1) := by decide +kernel
theorem dL_node_487 : decode cL_node 487 = .ok (.isub, 1) := by decide +kernel
theorem dL_node_488 : decode cL_node 488 = .ok (.if_icmp .ne 125, 3) := by decide +kernel
theorem dL_node_491 : decode cL_node 491 = .ok (.aload_n 0, 1) := by decide +kernel
theorem dL_node_492 : decode cL_node 492 = .ok (.iload 8, 2) := by decide +kernel
theorem dL_node_494 : decode cL_node 494 = .ok (.iconst 0, 1) := by decide +kernel
theorem dL_node_495 : decode cL_node 495 = .ok (.invokevirtual 25, 3) := by decide +kernel
theorem dL_node_498 : decode cL_node 498 = .ok (.iconst 1, 1) := by decide +kernel
theorem dL_node_499 : decode cL_node 499 = .ok (.if_icmp .ne 114, 3) := by decide +kernel
theorem dL_node_502 : decode cL_node 502 = .ok (.aload_n 0, 1) := by decide +kernel
theorem dL_node_503 : decode cL_node 503 = .ok (.iload 9, 2) := by decide +kernel
theorem dL_node_505 : decode cL_node 505 = .ok (.iconst 0, 1) := by decide +kernel
theorem dL_node_506 : decode cL_node 506 = .ok (.invokevirtual 25, 3) := by decide +kernel
theorem dL_node_509 : decode cL_node 509 = .ok (.ifCond .ne 104, 3) := by decide +kernel
theorem dL_node_512 : decode cL_node 512 = .ok (.aload_n 0, 1) := by decide +kernel
theorem dL_node_513 : decode cL_node 513 = .ok (.iload 8, 2) := by decide +kernel
theorem dL_node_515 : decode cL_node 515 = .ok (.iconst 2, 1) := by decide +kernel
theorem dL_node_516 : decode cL_node 516 = .ok (.invokevirtual 25, 3) := by decide +kernel
theorem dL_node_519 : decode cL_node 519 = .ok (.iload 9, 2) := by decide +kernel
theorem dL_node_521 : decode cL_node 521 = .ok (.if_icmp .ne 92, 3) := by decide +kernel
theorem dL_node_524 : decode cL_node 524 = .ok (.aload_n 0, 1) := by decide +kernel
theorem dL_node_525 : decode cL_node 525 = .ok (.iload 9, 2) := by decide +kernel
theorem dL_node_527 : decode cL_node 527 = .ok (.iconst 2, 1) := by decide +kernel
theorem dL_node_528 : decode cL_node 528 = .ok (.invokevirtual 25, 3) := by decide +kernel
theorem dL_node_531 : decode cL_node 531 = .ok (.iload 8, 2) := by decide +kernel
theorem dL_node_533 : decode cL_node 533 = .ok (.if_icmp .ne 80, 3) := by decide +kernel
theorem dL_node_536 : decode cL_node 536 = .ok (.aload_n 0, 1) := by decide +kernel
theorem dL_node_537 : decode cL_node 537 = .ok (.iload 8, 2) := by decide +kernel
theorem dL_node_539 : decode cL_node 539 = .ok (.iconst 4, 1) := by decide +kernel
theorem dL_node_540 : decode cL_node 540 = .ok (.invokevirtual 25, 3) := by decide +kernel
theorem dL_node_543 : decode cL_node 543 = .ok (.iload_n 1, 1) := by decide +kernel
theorem dL_node_544 : decode cL_node 544 = .ok (.if_icmp .ne 69, 3) := by decide +kernel
theorem dL_node_547 : decode cL_node 547 = .ok (.aload_n 0, 1) := by decide +kernel
theorem dL_node_548 : decode cL_node 548 = .ok (.iload 9, 2) := by decide +kernel
theorem dL_node_550 : decode cL_node 550 = .ok (.iconst 4, 1) := by decide +kernel
theorem dL_node_551 : decode cL_node 551 = .ok (.invokevirtual 25, 3) := by decide +kernel
theorem dL_node_554 : decode cL_node 554 = .ok (.iload_n 1, 1) := by decide +kernel
theorem dL_node_555 : decode cL_node 555 = .ok (.if_icmp .ne 58, 3) := by decide +kernel
theorem dL_node_558 : decode cL_node 558 = .ok (.aload_n 0, 1) := by decide +kernel
theorem dL_node_559 : decode cL_node 559 = .ok (.iload 8, 2) := by decide +kernel
theorem dL_node_561 : decode cL_node 561 = .ok (.iconst 1, 1) := by decide +kernel
theorem dL_node_562 : decode cL_node 562 = .ok (.invokevirtual 25, 3) := by decide +kernel
theorem dL_node_565 : decode cL_node 565 = .ok (.iload_n 3, 1) := by decide +kernel
theorem dL_node_566 : decode cL_node 566 = .ok (.iconst 1, 1) := by decide +kernel
theorem dL_node_567 : decode cL_node 567 = .ok (.iadd, 1) := by decide +kernel
theorem dL_node_568 : decode cL_node 568 = .ok (.if_icmp .ne 45, 3) := by decide +kernel
theorem dL_node_571 : decode cL_node 571 = .ok (.aload_n 0, 1) := by decide +kernel
theorem dL_node_572 : decode cL_node 572 = .ok (.iload 9, 2) := by decide +kernel
theorem dL_node_574 : decode cL_node 574 = .ok (.iconst 1, 1) := by decide +kernel
theorem dL_node_575 : decode cL_node 575 = .ok (.invokevirtual 25, 3) := by decide +kernel
theorem dL_node_578 : decode cL_node 578 = .ok (.iload_n 3, 1) := by decide +kernel
theorem dL_node_579 : decode cL_node 579 = .ok (.if_icmp .ne 34, 3) := by decide +kernel
theorem dL_node_582 : decode cL_node 582 = .ok (.aload_n 0, 1) := by decide +kernel
theorem dL_node_583 : decode cL_node 583 = .ok (.iload 9, 2) := by decide +kernel
theorem dL_node_585 : decode cL_node 585 = .ok (.iconst 3, 1) := by decide +kernel
theorem dL_node_586 : decode cL_node 586 = .ok (.invokevirtual 25, 3) := by decide +kernel
theorem dL_node_589 : decode cL_node 589 = .ok (.iload_n 1, 1) := by decide +kernel
theorem dL_node_590 : decode cL_node 590 = .ok (.ifCond .ne 8, 3) := by decide +kernel
theorem dL_node_593 : decode cL_node 593 = .ok (.bipush (-5), 2) := by decide +kernel
theorem dL_node_595 : decode cL_node 595 = .ok (.goto 11, 3) := by decide +kernel
theorem dL_node_598 : decode cL_node 598 = .ok (.aload_n 0, 1) := by decide +kernel
theorem dL_node_599 : decode cL_node 599 = .ok (.iload 4, 2) := by decide +kernel
theorem dL_node_601 : decode cL_node 601 = .ok (.bipush 7, 2) := by decide +kernel
theorem dL_node_603 : decode cL_node 603 = .ok (.invokevirtual 15, 3) := by decide +kernel
theorem dL_node_606 : decode cL_node 606 = .ok (.if_icmp .ne 7, 3) := by decide +kernel
theorem dL_node_609 : decode cL_node 609 = .ok (.iconst 1, 1) := by decide +kernel
theorem dL_node_610 : decode cL_node 610 = .ok (.goto 4, 3) := by decide +kernel
theorem dL_node_613 : decode cL_node 613 = .ok (.iconst 0, 1) := by decide +kernel
theorem dL_node_614 : decode cL_node 614 = .ok (.istore 18, 2) := by decide +kernel
theorem dL_node_616 : decode cL_node 616 = .ok (.aload_n 0, 1) := by decide +kernel
theorem dL_node_617 : decode cL_node 617 = .ok (.iload_n 1, 1) := by decide +kernel
theorem dL_node_618 : decode cL_node 618 = .ok (.bipush 9, 2) := by decide +kernel
theorem dL_node_620 : decode cL_node 620 = .ok (.invokevirtual 15, 3) := by decide +kernel
theorem dL_node_623 : decode cL_node 623 = .ok (.istore 19, 2) := by decide +kernel
theorem dL_node_625 : decode cL_node 625 = .ok (.aload_n 0, 1) := by decide +kernel
theorem dL_node_626 : decode cL_node 626 = .ok (.iload_n 1, 1) := by decide +kernel
theorem dL_node_627 : decode cL_node 627 = .ok (.invokevirtual 28, 3) := by decide +kernel
theorem dL_node_630 : decode cL_node 630 = .ok (.istore 20, 2) := by decide +kernel
theorem dL_node_632 : decode cL_node 632 = .ok (.iload 20, 2) := by decide +kernel
theorem dL_node_634 : decode cL_node 634 = .ok (.iload_n 1, 1) := by decide +kernel
theorem dL_node_635 : decode cL_node 635 = .ok (.if_icmp .lt 53, 3) := by decide +kernel
theorem dL_node_638 : decode cL_node 638 = .ok (.iload 20, 2) := by decide +kernel
theorem dL_node_640 : decode cL_node 640 = .ok (.iload_n 1, 1) := by decide +kernel
theorem dL_node_641 : decode cL_node 641 = .ok (.iload 6, 2) := by decide +kernel
theorem dL_node_643 : decode cL_node 643 = .ok (.iadd, 1) := by decide +kernel
theorem dL_node_644 : decode cL_node 644 = .ok (.if_icmp .ge 44, 3) := by decide +kernel
theorem dL_node_647 : decode cL_node 647 = .ok (.aload_n 0, 1) := by decide +kernel
theorem dL_node_648 : decode cL_node 648 = .ok (.iload 20, 2) := by decide +kernel
theorem dL_node_650 : decode cL_node 650 = .ok (.iconst 0, 1) := by decide +kernel
theorem dL_node_651 : decode cL_node 651 = .ok (.invokevirtual 15, 3) := by decide +kernel
theorem dL_node_654 : decode cL_node 654 = .ok (.iload_n 3, 1) := by decide +kernel
theorem dL_node_655 : decode cL_node 655 = .ok (.iload 7, 2) := by decide +kernel
theorem dL_node_657 : decode cL_node 657 = .ok (.iadd, 1) := by decide +kernel
theorem dL_node_658 : decode cL_node 658 = .ok (.if_icmp .ne 30, 3) := by decide +kernel
theorem dL_node_661 : decode cL_node 661 = .ok (.iload 19, 2) := by decide +kernel
theorem dL_node_663 : decode cL_node 663 = .ok (.iload_n 1, 1) := by decide +kernel
theorem dL_node_664 : decode cL_node 664 = .ok (.iload 6, 2) := by decide +kernel
theorem dL_node_666 : decode cL_node 666 = .ok (.iadd, 1) := by decide +kernel
theorem dL_node_667 : decode cL_node 667 = .ok (.iconst 1, 1) := by decide +kernel
theorem dL_node_668 : decode cL_node 668 = .ok (.isub, 1) := by decide +kernel
theorem dL_node_669 : decode cL_node 669 = .ok (.iload_n 3, 1) := by decide +kernel
theorem dL_node_670 : decode cL_node 670 = .ok (.isub, 1) := by decide +kernel
theorem dL_node_671 : decode cL_node 671 = .ok (.if_icmp .ne 17, 3) := by decide +kernel
theorem dL_node_674 : decode cL_node 674 = .ok (.aload_n 0, 1) := by decide +kernel
theorem dL_node_675 : decode cL_node 675 = .ok (.iload 19, 2) := by decide +kernel
theorem dL_node_677 : decode cL_node 677 = .ok (.invokevirtual 32, 3) := by decide +kernel
theorem dL_node_680 : decode cL_node 680 = .ok (.iload_n 1, 1) := by decide +kernel
theorem dL_node_681 : decode cL_node 681 = .ok (.if_icmp .ne 7, 3) := by decide +kernel
theorem dL_node_684 : decode cL_node 684 = .ok (.iconst 1, 1) := by decide +kernel
theorem dL_node_685 : decode cL_node 685 = .ok (.goto 4, 3) := by decide +kernel
theorem dL_node_688 : decode cL_node 688 = .ok (.iconst 0, 1) := by decide +kernel
theorem dL_node_689 : decode cL_node 689 = .ok (.istore 21, 2) := by decide +kernel
theorem dL_node_691 : decode cL_node 691 = .ok (.iload 16, 2) := by decide +kernel
theorem dL_node_693 : decode cL_node 693 = .ok (.ifCond .eq 22, 3) := by decide +kernel
theorem dL_node_696 : decode cL_node 696 = .ok (.iload 17, 2) := by decide +kernel
theorem dL_node_698 : decode cL_node 698 = .ok (.ifCond .eq 17, 3) := by decide +kernel
theorem dL_node_701 : decode cL_node 701 = .ok (.iload 18, 2) := by decide +kernel
theorem dL_node_703 : decode cL_node 703 = .ok (.ifCond .eq 12, 3) := by decide +kernel
theorem dL_node_706 : decode cL_node 706 = .ok (.iload 21, 2) := by decide +kernel
theorem dL_node_708 : decode cL_node 708 = .ok (.ifCond .eq 7, 3) := by decide +kernel
theorem dL_node_711 : decode cL_node 711 = .ok (.iconst 1, 1) := by decide +kernel
theorem dL_node_712 : decode cL_node 712 = .ok (.goto 4, 3) := by decide +kernel
theorem dL_node_715 : decode cL_node 715 = .ok (.iconst 0, 1) := by decide +kernel
theorem dL_node_716 : decode cL_node 716 = .ok (.ireturn, 1) := by decide +kernel
set_option maxRecDepth 20000 in
theorem ggL_two_X4_size : GoodIn wsL_two wsX4_size := goodIn_r _ [5, 6, 7, 8, 9, 10, 11, 12, 151, 152, 153, 154, 155, 156, 157, 158, 159] (by decide +kernel) (by decide +kernel)
set_option maxRecDepth 20000 in
theorem gL_two_X4_size : GoodIn wsL_two (wsV RL 9 RX4 yX4_size wsX4_size) := goodIn_app (goodIn_of _ (by decide +kernel)) ggL_two_X4_size
set_option maxRecDepth 20000 in
theorem ggL_two_X4_common : GoodIn wsL_two wsX4_common := goodIn_r _ [16, 6, 17, 18, 19, 10, 20, 12, 21, 22, 23, 24, 25, 26, 27, 28, 29, 30, 31, 32, 33, 34, 35, 36, 37, 38, 4, 39, 40, 41, 42, 43, 151, 152, 153, 154, 155, 156, 157, 158, 159] (by decide +kernel) (by decide +kernel)
set_option maxRecDepth 20000 in
theorem gL_two_X4_common : GoodIn wsL_two (wsV RL 35 RX4 yX4_common wsX4_common) := goodIn_app (goodIn_of _ (by decide +kernel)) ggL_two_X4_common
set_option maxRecDepth 20000 in
theorem ggL_two_X4_node : GoodIn wsL_two wsX4_node := goodIn_r _ [47, 6, 17, 18, 19, 10, 20, 12, 48, 33, 34, 35, 36, 37, 38, 4, 39, 49, 50, 51, 52, 32, 40, 41, 42, 43, 53, 54, 55, 56, 57, 58, 59, 60, 61, 62, 63, 64, 65, 66, 67, 68, 69, 70, 71, 72, 73, 74, 75, 76, 77, 78, 79, 80, 81, 82, 83, 84, 85, 86, 87, 88, 89, 90, 91, 92, 93, 94, 95, 96, 97, 98, 99, 151, 152, 153, 154, 155, 156, 157, 158, 159] (by decide +kernel) (by decide +kernel)
set_option maxRecDepth 20000 in
theorem gL_two_X4_node : GoodIn wsL_two (wsV RL 15 RX4 yX4_node wsX4_node) := goodIn_app (goodIn_of _ (by decide +kernel)) ggL_two_X4_node
set_option maxRecDepth 20000 in
theorem ggL_two_X4_ancestorAt : GoodIn wsL_two wsX4_ancestorAt := goodIn_r _ [103, 6, 17, 18, 19, 10, 20, 12, 48, 33, 34, 35, 36, 37, 38, 4, 39, 104, 41, 42, 43, 32, 151, 152, 153, 154, 155, 156, 157, 158, 159] (by decide +kernel) (by decide +kernel)
set_option maxRecDepth 20000 in
theorem gL_two_X4_ancestorAt : GoodIn wsL_two (wsV RL 38 RX4 yX4_ancestorAt wsX4_ancestorAt) := goodIn_app (goodIn_of _ (by decide +kernel)) ggL_two_X4_ancestorAt
set_option maxRecDepth 20000 in
theorem ggL_two_X4_way : GoodIn wsL_two wsX4_way := goodIn_r _ [108, 6, 17, 18, 19, 10, 20, 12, 21, 22, 23, 24, 25, 26, 27, 28, 29, 30, 31, 32, 33, 34, 35, 36, 37, 38, 4, 39, 40, 41, 42, 43, 48, 104, 151, 152, 153, 154, 155, 156, 157, 158, 159] (by decide +kernel) (by decide +kernel)
set_option maxRecDepth 20000 in
theorem gL_two_X4_way : GoodIn wsL_two (wsV RL 41 RX4 yX4_way wsX4_way) := goodIn_app (goodIn_of _ (by decide +kernel)) ggL_two_X4_way
set_option maxRecDepth 20000 in
theorem ggL_two_X4_level : GoodIn wsL_two wsX4_level := goodIn_r _ [112, 6, 113, 114, 115, 10, 116, 12, 32, 33, 34, 35, 36, 37, 18, 19, 20, 38, 4, 39, 117, 118, 119, 120, 151, 152, 153, 154, 155, 156, 157, 158, 159] (by decide +kernel) (by decide +kernel)
set_option maxRecDepth 20000 in
theorem gL_two_X4_level : GoodIn wsL_two (wsV RL 45 RX4 yX4_level wsX4_level) := goodIn_app (goodIn_of _ (by decide +kernel)) ggL_two_X4_level
set_option maxRecDepth 20000 in
theorem ggL_two_X4_neighbour : GoodIn wsL_two wsX4_neighbour := goodIn_r _ [124, 6, 17, 18, 19, 10, 20, 12, 125, 126, 127, 128, 57, 58, 59, 60, 32, 33, 34, 35, 36, 37, 38, 4, 39, 129, 130, 131, 132, 133, 70, 71, 72, 134, 135, 136, 137, 40, 41, 42, 43, 138, 139, 140, 141, 142, 143, 144, 145, 146, 77, 78, 79, 80, 147, 148, 149, 150, 90, 62, 63, 64, 151, 152, 153, 154, 155, 156, 157, 158, 159] (by decide +kernel) (by decide +kernel)
set_option maxRecDepth 20000 in
theorem gL_two_X4_neighbour : GoodIn wsL_two (wsV RL 22 RX4 yX4_neighbour wsX4_neighbour) := goodIn_app (goodIn_of _ (by decide +kernel)) ggL_two_X4_neighbour
theorem dL_two_0 : decode cL_two 0 = .ok (.aload_n 0, 1) := by decide +kernel
theorem dL_two_1 : decode cL_two 1 = .ok (.invokevirtual 9, 3) := by decide +kernel
theorem dL_two_4 : decode cL_two 4 = .ok (.istore_n 3, 1) := by decide +kernel
theorem dL_two_5 : decode cL_two 5 = .ok (.aload_n 0, 1) := by decide +kernel
theorem dL_two_6 : decode cL_two 6 = .ok (.iload_n 1, 1) := by decide +kernel
theorem dL_two_7 : decode cL_two 7 = .ok (.iload_n 2, 1) := by decide +kernel
theorem dL_two_8 : decode cL_two 8 = .ok (.invokevirtual 35, 3) := by decide +kernel
theorem dL_two_11 : decode cL_two 11 = .ok (.istore 4, 2) := by decide +kernel
theorem dL_two_13 : decode cL_two 13 = .ok (.aload_n 0, 1) := by decide +kernel
theorem dL_two_14 : decode cL_two 14 = .ok (.iload_n 1, 1) := by decide +kernel
theorem dL_two_15 : decode cL_two 15 = .ok (.iconst 0, 1) := by decide +kernel
theorem dL_two_16 : decode cL_two 16 = .ok (.invokevirtual 15, 3) := by decide +kernel
theorem dL_two_19 : decode cL_two 19 = .ok (.aload_n 0, 1) := by decide +kernel
theorem dL_two_20 : decode cL_two 20 = .ok (.iload 4, 2) := by decide +kernel
theorem dL_two_22 : decode cL_two 22 = .ok (.iconst 0, 1) := by decide +kernel
theorem dL_two_23 : decode cL_two 23 = .ok (.invokevirtual 15, 3) := by decide +kernel
theorem dL_two_26 : decode cL_two 26 = .ok (.isub, 1) := by decide +kernel
theorem dL_two_27 : decode cL_two 27 = .ok (.istore 5, 2) := by decide +kernel
theorem dL_two_29 : decode cL_two 29 = .ok (.aload_n 0, 1) := by decide +kernel
theorem dL_two_30 : decode cL_two 30 = .ok (.iload_n 2, 1) := by decide +kernel
theorem dL_two_31 : decode cL_two 31 = .ok (.iconst 0, 1) := by decide +kernel
theorem dL_two_32 : decode cL_two 32 = .ok (.invokevirtual 15, 3) := by decide +kernel
theorem dL_two_35 : decode cL_two 35 = .ok (.aload_n 0, 1) := by decide +kernel
theorem dL_two_36 : decode cL_two 36 = .ok (.iload 4, 2) := by decide +kernel
theorem dL_two_38 : decode cL_two 38 = .ok (.iconst 0, 1) := by decide +kernel
theorem dL_two_39 : decode cL_two 39 = .ok (.invokevirtual 15, 3) := by decide +kernel
theorem dL_two_42 : decode cL_two 42 = .ok (.isub, 1) := by decide +kernel
theorem dL_two_43 : decode cL_two 43 = .ok (.istore 6, 2) := by decide +kernel
theorem dL_two_45 : decode cL_two 45 = .ok (.aload_n 0, 1) := by decide +kernel
theorem dL_two_46 : decode cL_two 46 = .ok (.iload_n 2, 1) := by decide +kernel
theorem dL_two_47 : decode cL_two 47 = .ok (.iload_n 1, 1) := by decide +kernel
theorem dL_two_48 : decode cL_two 48 = .ok (.invokevirtual 35, 3) := by decide +kernel
theorem dL_two_51 : decode cL_two 51 = .ok (.iload 4, 2) := by decide +kernel
theorem dL_two_53 : decode cL_two 53 = .ok (.if_icmp .ne 122, 3) := by decide +kernel
theorem dL_two_56 : decode cL_two 56 = .ok (.aload_n 0, 1) := by decide +kernel
theorem dL_two_57 : decode cL_two 57 = .ok (.iload_n 1, 1) := by decide +kernel
theorem dL_two_58 : decode cL_two 58 = .ok (.aload_n 0, 1) := by decide +kernel
theorem dL_two_59 : decode cL_two 59 = .ok (.iload 4, 2) := by decide +kernel
theorem dL_two_61 : decode cL_two 61 = .ok (.iconst 0, 1) := by decide +kernel
theorem dL_two_62 : decode cL_two 62 = .ok (.invokevirtual 15, 3) := by decide +kernel
theorem dL_two_65 : decode cL_two 65 = .ok (.invokevirtual 38, 3) := by decide +kernel
theorem dL_two_68 : decode cL_two 68 = .ok (.iload 4, 2) := by decide +kernel
theorem dL_two_70 : decode cL_two 70 = .ok (.if_icmp .ne 105, 3) := by decide +kernel
theorem dL_two_73 : decode cL_two 73 = .ok (.aload_n 0, 1) := by decide +kernel
theorem dL_two_74 : decode cL_two 74 = .ok (.iload_n 2, 1) := by decide +kernel
theorem dL_two_75 : decode cL_two 75 = .ok (.aload_n 0, 1) := by decide +kernel
theorem dL_two_76 : decode cL_two 76 = .ok (.iload 4, 2) := by decide +kernel
theorem dL_two_78 : decode cL_two 78 = .ok (.iconst 0, 1) := by decide +kernel
theorem dL_two_79 : decode cL_two 79 = .ok (.invokevirtual 15, 3) := by decide +kernel
theorem dL_two_82 : decode cL_two 82 = .ok (.invokevirtual 38, 3) := by decide +kernel
theorem dL_two_85 : decode cL_two 85 = .ok (.iload 4, 2) := by decide +kernel
theorem dL_two_87 : decode cL_two 87 = .ok (.if_icmp .ne 88, 3) := by decide +kernel
theorem dL_two_90 : decode cL_two 90 = .ok (.aload_n 0, 1) := by decide +kernel
theorem dL_two_91 : decode cL_two 91 = .ok (.iload_n 1, 1) := by decide +kernel
theorem dL_two_92 : decode cL_two 92 = .ok (.iload_n 2, 1) := by decide +kernel
theorem dL_two_93 : decode cL_two 93 = .ok (.iconst (-1), 1) := by decide +kernel
theorem dL_two_94 : decode cL_two 94 = .ok (.invokevirtual 41, 3) := by decide +kernel
theorem dL_two_97 : decode cL_two 97 = .ok (.iload 5, 2) := by decide +kernel
theorem dL_two_99 : decode cL_two 99 = .ok (.iload 6, 2) := by decide +kernel
theorem dL_two_101 : decode cL_two 101 = .ok (.iadd, 1) := by decide +kernel
theorem dL_two_102 : decode cL_two 102 = .ok (.if_icmp .ne 73, 3) := by decide +kernel
theorem dL_two_105 : decode cL_two 105 = .ok (.aload_n 0, 1) := by decide +kernel
theorem dL_two_106 : decode cL_two 106 = .ok (.iload_n 1, 1) := by decide +kernel
theorem dL_two_107 : decode cL_two 107 = .ok (.iload_n 2, 1) := by decide +kernel
theorem dL_two_108 : decode cL_two 108 = .ok (.iload 5, 2) := by decide +kernel
theorem dL_two_110 : decode cL_two 110 = .ok (.invokevirtual 41, 3) := by decide +kernel
theorem dL_two_113 : decode cL_two 113 = .ok (.iload 4, 2) := by decide +kernel
theorem dL_two_115 : decode cL_two 115 = .ok (.if_icmp .ne 60, 3) := by decide +kernel
theorem dL_two_118 : decode cL_two 118 = .ok (.aload_n 0, 1) := by decide +kernel
theorem dL_two_119 : decode cL_two 119 = .ok (.iload_n 1, 1) := by decide +kernel
theorem dL_two_120 : decode cL_two 120 = .ok (.iload_n 2, 1) := by decide +kernel
theorem dL_two_121 : decode cL_two 121 = .ok (.iconst 0, 1) := by decide +kernel
theorem dL_two_122 : decode cL_two 122 = .ok (.invokevirtual 41, 3) := by decide +kernel
theorem dL_two_125 : decode cL_two 125 = .ok (.iload_n 1, 1) := by decide +kernel
theorem dL_two_126 : decode cL_two 126 = .ok (.if_icmp .ne 49, 3) := by decide +kernel
theorem dL_two_129 : decode cL_two 129 = .ok (.aload_n 0, 1) := by decide +kernel
theorem dL_two_130 : decode cL_two 130 = .ok (.iload_n 1, 1) := by decide +kernel
theorem dL_two_131 : decode cL_two 131 = .ok (.iload_n 2, 1) := by decide +kernel
theorem dL_two_132 : decode cL_two 132 = .ok (.iload 5, 2) := by decide +kernel
theorem dL_two_134 : decode cL_two 134 = .ok (.iload 6, 2) := by decide +kernel
theorem dL_two_136 : decode cL_two 136 = .ok (.iadd, 1) := by decide +kernel
theorem dL_two_137 : decode cL_two 137 = .ok (.invokevirtual 41, 3) := by decide +kernel
theorem dL_two_140 : decode cL_two 140 = .ok (.iload_n 2, 1) := by decide +kernel
theorem dL_two_141 : decode cL_two 141 = .ok (.if_icmp .ne 34, 3) := by decide +kernel
theorem dL_two_144 : decode cL_two 144 = .ok (.aload_n 0, 1) := by decide +kernel
theorem dL_two_145 : decode cL_two 145 = .ok (.iload_n 1, 1) := by decide +kernel
theorem dL_two_146 : decode cL_two 146 = .ok (.iload_n 2, 1) := by decide +kernel
theorem dL_two_147 : decode cL_two 147 = .ok (.iload 5, 2) := by decide +kernel
theorem dL_two_149 : decode cL_two 149 = .ok (.iload 6, 2) := by decide +kernel
theorem dL_two_151 : decode cL_two 151 = .ok (.iadd, 1) := by decide +kernel
theorem dL_two_152 : decode cL_two 152 = .ok (.iconst 1, 1) := by decide +kernel
theorem dL_two_153 : decode cL_two 153 = .ok (.iadd, 1) := by decide +kernel
theorem dL_two_154 : decode cL_two 154 = .ok (.invokevirtual 41, 3) := by decide +kernel
theorem dL_two_157 : decode cL_two 157 = .ok (.bipush (-5), 2) := by decide +kernel
theorem dL_two_159 : decode cL_two 159 = .ok (.if_icmp .ne 16, 3) := by decide +kernel
theorem dL_two_162 : decode cL_two 162 = .ok (.aload_n 0, 1) := by decide +kernel
theorem dL_two_163 : decode cL_two 163 = .ok (.iload_n 1, 1) := by decide +kernel
theorem dL_two_164 : decode cL_two 164 = .ok (.iload_n 2, 1) := by decide +kernel
theorem dL_two_165 : decode cL_two 165 = .ok (.bipush (-2), 2) := by decide +kernel
theorem dL_two_167 : decode cL_two 167 = .ok (.invokevirtual 41, 3) := by decide +kernel
theorem dL_two_170 : decode cL_two 170 = .ok (.bipush (-2), 2) := by decide +kernel
theorem dL_two_172 : decode cL_two 172 = .ok (.if_icmp .eq 5, 3) := by decide +kernel
theorem dL_two_175 : decode cL_two 175 = .ok (.iconst 0, 1) := by decide +kernel
theorem dL_two_176 : decode cL_two 176 = .ok (.ireturn, 1) := by decide +kernel
theorem dL_two_177 : decode cL_two 177 = .ok (.iload 5, 2) := by decide +kernel
theorem dL_two_179 : decode cL_two 179 = .ok (.ifCond .le 33, 3) := by decide +kernel
theorem dL_two_182 : decode cL_two 182 = .ok (.iload 6, 2) := by decide +kernel
theorem dL_two_184 : decode cL_two 184 = .ok (.ifCond .le 28, 3) := by decide +kernel
theorem dL_two_187 : decode cL_two 187 = .ok (.aload_n 0, 1) := by decide +kernel
theorem dL_two_188 : decode cL_two 188 = .ok (.iload_n 1, 1) := by decide +kernel
theorem dL_two_189 : decode cL_two 189 = .ok (.iload_n 2, 1) := by decide +kernel
theorem dL_two_190 : decode cL_two 190 = .ok (.iload 5, 2) := by decide +kernel
theorem dL_two_192 : decode cL_two 192 = .ok (.iconst 1, 1) := by decide +kernel
theorem dL_two_193 : decode cL_two 193 = .ok (.isub, 1) := by decide +kernel
theorem dL_two_194 : decode cL_two 194 = .ok (.invokevirtual 41, 3) := by decide +kernel
theorem dL_two_197 : decode cL_two 197 = .ok (.aload_n 0, 1) := by decide +kernel
theorem dL_two_198 : decode cL_two 198 = .ok (.iload_n 1, 1) := by decide +kernel
theorem dL_two_199 : decode cL_two 199 = .ok (.iload_n 2, 1) := by decide +kernel
theorem dL_two_200 : decode cL_two 200 = .ok (.iload 5, 2) := by decide +kernel
theorem dL_two_202 : decode cL_two 202 = .ok (.iconst 1, 1) := by decide +kernel
theorem dL_two_203 : decode cL_two 203 = .ok (.iadd, 1) := by decide +kernel
theorem dL_two_204 : decode cL_two 204 = .ok (.invokevirtual 41, 3) := by decide +kernel
theorem dL_two_207 : decode cL_two 207 = .ok (.if_icmp .ne 5, 3) := by decide +kernel
theorem dL_two_210 : decode cL_two 210 = .ok (.iconst 0, 1) := by decide +kernel
theorem dL_two_211 : decode cL_two 211 = .ok (.ireturn, 1) := by decide +kernel
theorem dL_two_212 : decode cL_two 212 = .ok (.iconst 1, 1) := by decide +kernel
theorem dL_two_213 : decode cL_two 213 = .ok (.istore 7, 2) := by decide +kernel
theorem dL_two_215 : decode cL_two 215 = .ok (.iload 7, 2) := by decide +kernel
theorem dL_two_217 : decode cL_two 217 = .ok (.iload 5, 2) := by decide +kernel
theorem dL_two_219 : decode cL_two 219 = .ok (.iload 6, 2) := by decide +kernel
theorem dL_two_221 : decode cL_two 221 = .ok (.iadd, 1) := by decide +kernel
theorem dL_two_222 : decode cL_two 222 = .ok (.if_icmp .gt 76, 3) := by decide +kernel
theorem dL_two_225 : decode cL_two 225 = .ok (.aload_n 0, 1) := by decide +kernel
theorem dL_two_226 : decode cL_two 226 = .ok (.iload_n 1, 1) := by decide +kernel
theorem dL_two_227 : decode cL_two 227 = .ok (.iload_n 2, 1) := by decide +kernel
theorem dL_two_228 : decode cL_two 228 = .ok (.iload 7, 2) := by decide +kernel
theorem dL_two_230 : decode cL_two 230 = .ok (.iconst 1, 1) := by decide +kernel
theorem dL_two_231 : decode cL_two 231 = .ok (.isub, 1) := by decide +kernel
theorem dL_two_232 : decode cL_two 232 = .ok (.invokevirtual 41, 3) := by decide +kernel
theorem dL_two_235 : decode cL_two 235 = .ok (.istore 8, 2) := by decide +kernel
theorem dL_two_237 : decode cL_two 237 = .ok (.aload_n 0, 1) := by decide +kernel
theorem dL_two_238 : decode cL_two 238 = .ok (.iload_n 1, 1) := by decide +kernel
theorem dL_two_239 : decode cL_two 239 = .ok (.iload_n 2, 1) := by decide +kernel
theorem dL_two_240 : decode cL_two 240 = .ok (.iload 7, 2) := by decide +kernel
theorem dL_two_242 : decode cL_two 242 = .ok (.invokevirtual 41, 3) := by decide +kernel
theorem dL_two_245 : decode cL_two 245 = .ok (.istore 9, 2) := by decide +kernel
theorem dL_two_247 : decode cL_two 247 = .ok (.aload_n 0, 1) := by decide +kernel
theorem dL_two_248 : decode cL_two 248 = .ok (.iload 8, 2) := by decide +kernel
theorem dL_two_250 : decode cL_two 250 = .ok (.iconst 1, 1) := by decide +kernel
theorem dL_two_251 : decode cL_two 251 = .ok (.invokevirtual 15, 3) := by decide +kernel
theorem dL_two_254 : decode cL_two 254 = .ok (.iload 9, 2) := by decide +kernel
theorem dL_two_256 : decode cL_two 256 = .ok (.if_icmp .eq 15, 3) := by decide +kernel
theorem dL_two_259 : decode cL_two 259 = .ok (.aload_n 0, 1) := by decide +kernel
theorem dL_two_260 : decode cL_two 260 = .ok (.iload 9, 2) := by decide +kernel
theorem dL_two_262 : decode cL_two 262 = .ok (.iconst 1, 1) := by decide +kernel
theorem dL_two_263 : decode cL_two 263 = .ok (.invokevirtual 15, 3) := by decide +kernel
theorem dL_two_266 : decode cL_two 266 = .ok (.iload 8, 2) := by decide +kernel
theorem dL_two_268 : decode cL_two 268 = .ok (.if_icmp .ne 22, 3) := by decide +kernel
theorem dL_two_271 : decode cL_two 271 = .ok (.aload_n 0, 1) := by decide +kernel
theorem dL_two_272 : decode cL_two 272 = .ok (.iload_n 2, 1) := by decide +kernel
theorem dL_two_273 : decode cL_two 273 = .ok (.iload_n 1, 1) := by decide +kernel
theorem dL_two_274 : decode cL_two 274 = .ok (.iload 5, 2) := by decide +kernel
theorem dL_two_276 : decode cL_two 276 = .ok (.iload 6, 2) := by decide +kernel
theorem dL_two_278 : decode cL_two 278 = .ok (.iadd, 1) := by decide +kernel
theorem dL_two_279 : decode cL_two 279 = .ok (.iload 7, 2) := by decide +kernel
theorem dL_two_281 : decode cL_two 281 = .ok (.isub, 1) := by decide +kernel
theorem dL_two_282 : decode cL_two 282 = .ok (.invokevirtual 41, 3) := by decide +kernel
theorem dL_two_285 : decode cL_two 285 = .ok (.iload 9, 2) := by decide +kernel
theorem dL_two_287 : decode cL_two 287 = .ok (.if_icmp .eq 5, 3) := by decide +kernel
theorem dL_two_290 : decode cL_two 290 = .ok (.iconst 0, 1) := by decide +kernel
theorem dL_two_291 : decode cL_two 291 = .ok (.ireturn, 1) := by decide +kernel
theorem dL_two_292 : decode cL_two 292 = .ok (.iinc 7 1, 3) := by decide +kernel
theorem dL_two_295 : decode cL_two 295 = .ok (.goto (-80), 3) := by decide +kernel
theorem dL_two_298 : decode cL_two 298 = .ok (.iload_n 1, 1) := by decide +kernel
theorem dL_two_299 : decode cL_two 299 = .ok (.istore 7, 2) := by decide +kernel
theorem dL_two_301 : decode cL_two 301 = .ok (.aload_n 0, 1) := by decide +kernel
theorem dL_two_302 : decode cL_two 302 = .ok (.iload_n 1, 1) := by decide +kernel
theorem dL_two_303 : decode cL_two 303 = .ok (.iconst 0, 1) := by decide +kernel
theorem dL_two_304 : decode cL_two 304 = .ok (.invokevirtual 15, 3) := by decide +kernel
theorem dL_two_307 : decode cL_two 307 = .ok (.istore 8, 2) := by decide +kernel
theorem dL_two_309 : decode cL_two 309 = .ok (.iload 8, 2) := by decide +kernel
theorem dL_two_311 : decode cL_two 311 = .ok (.ifCond .lt 32, 3) := by decide +kernel
theorem dL_two_314 : decode cL_two 314 = .ok (.aload_n 0, 1) := by decide +kernel
theorem dL_two_315 : decode cL_two 315 = .ok (.iload_n 1, 1) := by decide +kernel
theorem dL_two_316 : decode cL_two 316 = .ok (.iload 8, 2) := by decide +kernel
theorem dL_two_318 : decode cL_two 318 = .ok (.invokevirtual 38, 3) := by decide +kernel
theorem dL_two_321 : decode cL_two 321 = .ok (.iload 7, 2) := by decide +kernel
theorem dL_two_323 : decode cL_two 323 = .ok (.if_icmp .eq 5, 3) := by decide +kernel
theorem dL_two_326 : decode cL_two 326 = .ok (.iconst 0, 1) := by decide +kernel
theorem dL_two_327 : decode cL_two 327 = .ok (.ireturn, 1) := by decide +kernel
theorem dL_two_328 : decode cL_two 328 = .ok (.aload_n 0, 1) := by decide +kernel
theorem dL_two_329 : decode cL_two 329 = .ok (.iload 7, 2) := by decide +kernel
theorem dL_two_331 : decode cL_two 331 = .ok (.iconst 1, 1) := by decide +kernel
theorem dL_two_332 : decode cL_two 332 = .ok (.invokevirtual 15, 3) := by decide +kernel
theorem dL_two_335 : decode cL_two 335 = .ok (.istore 7, 2) := by decide +kernel
theorem dL_two_337 : decode cL_two 337 = .ok (.iinc 8 (-1), 3) := by decide +kernel
theorem dL_two_340 : decode cL_two 340 = .ok (.goto (-31), 3) := by decide +kernel
theorem dL_two_343 : decode cL_two 343 = .ok (.aload_n 0, 1) := by decide +kernel
theorem dL_two_344 : decode cL_two 344 = .ok (.iload_n 1, 1) := by decide +kernel
theorem dL_two_345 : decode cL_two 345 = .ok (.iconst 0, 1) := by decide +kernel
theorem dL_two_346 : decode cL_two 346 = .ok (.invokevirtual 15, 3) := by decide +kernel
theorem dL_two_349 : decode cL_two 349 = .ok (.istore 8, 2) := by decide +kernel
theorem dL_two_351 : decode cL_two 351 = .ok (.aload_n 0, 1) := by decide +kernel
theorem dL_two_352 : decode cL_two 352 = .ok (.iload 8, 2) := by decide +kernel
theorem dL_two_354 : decode cL_two 354 = .ok (.iconst (-1), 1) := by decide +kernel
theorem dL_two_355 : decode cL_two 355 = .ok (.invokevirtual 45, 3) := by decide +kernel
theorem dL_two_358 : decode cL_two 358 = .ok (.istore 9, 2) := by decide +kernel
theorem dL_two_360 : decode cL_two 360 = .ok (.iconst 0, 1) := by decide +kernel
theorem dL_two_361 : decode cL_two 361 = .ok (.istore 10, 2) := by decide +kernel
theorem dL_two_363 : decode cL_two 363 = .ok (.aload_n 0, 1) := by decide +kernel
theorem dL_two_364 : decode cL_two 364 = .ok (.iload 8, 2) := by decide +kernel
theorem dL_two_366 : decode cL_two 366 = .ok (.iload 10, 2) := by decide +kernel
theorem dL_two_368 : decode cL_two 368 = .ok (.invokevirtual 45, 3) := by decide +kernel
theorem dL_two_371 : decode cL_two 371 = .ok (.iload_n 1, 1) := by decide +kernel
theorem dL_two_372 : decode cL_two 372 = .ok (.if_icmp .eq 15, 3) := by decide +kernel
theorem dL_two_375 : decode cL_two 375 = .ok (.iload 10, 2) := by decide +kernel
theorem dL_two_377 : decode cL_two 377 = .ok (.iload_n 3, 1) := by decide +kernel
theorem dL_two_378 : decode cL_two 378 = .ok (.if_icmp .ge 9, 3) := by decide +kernel
theorem dL_two_381 : decode cL_two 381 = .ok (.iinc 10 1, 3) := by decide +kernel
theorem dL_two_384 : decode cL_two 384 = .ok (.goto (-21), 3) := by decide +kernel
theorem dL_two_387 : decode cL_two 387 = .ok (.aload_n 0, 1) := by decide +kernel
theorem dL_two_388 : decode cL_two 388 = .ok (.iload_n 1, 1) := by decide +kernel
theorem dL_two_389 : decode cL_two 389 = .ok (.iconst 4, 1) := by decide +kernel
theorem dL_two_390 : decode cL_two 390 = .ok (.invokevirtual 22, 3) := by decide +kernel
theorem dL_two_393 : decode cL_two 393 = .ok (.istore 11, 2) := by decide +kernel
theorem dL_two_395 : decode cL_two 395 = .ok (.iload 11, 2) := by decide +kernel
theorem dL_two_397 : decode cL_two 397 = .ok (.bipush (-5), 2) := by decide +kernel
theorem dL_two_399 : decode cL_two 399 = .ok (.if_icmp .ne 32, 3) := by decide +kernel
theorem dL_two_402 : decode cL_two 402 = .ok (.aload_n 0, 1) := by decide +kernel
theorem dL_two_403 : decode cL_two 403 = .ok (.iload_n 1, 1) := by decide +kernel
theorem dL_two_404 : decode cL_two 404 = .ok (.iconst 3, 1) := by decide +kernel
theorem dL_two_405 : decode cL_two 405 = .ok (.invokevirtual 15, 3) := by decide +kernel
theorem dL_two_408 : decode cL_two 408 = .ok (.iload_n 3, 1) := by decide +kernel
theorem dL_two_409 : decode cL_two 409 = .ok (.iload_n 1, 1) := by decide +kernel
theorem dL_two_410 : decode cL_two 410 = .ok (.isub, 1) := by decide +kernel
theorem dL_two_411 : decode cL_two 411 = .ok (.if_icmp .ne 16, 3) := by decide +kernel
theorem dL_two_414 : decode cL_two 414 = .ok (.aload_n 0, 1) := by decide +kernel
theorem dL_two_415 : decode cL_two 415 = .ok (.iload_n 1, 1) := by decide +kernel
theorem dL_two_416 : decode cL_two 416 = .ok (.iconst 2, 1) := by decide +kernel
theorem dL_two_417 : decode cL_two 417 = .ok (.invokevirtual 15, 3) := by decide +kernel
theorem dL_two_420 : decode cL_two 420 = .ok (.ifCond .ne 7, 3) := by decide +kernel
theorem dL_two_423 : decode cL_two 423 = .ok (.iconst 1, 1) := by decide +kernel
theorem dL_two_424 : decode cL_two 424 = .ok (.goto 50, 3) := by decide +kernel
theorem dL_two_427 : decode cL_two 427 = .ok (.iconst 0, 1) := by decide +kernel
theorem dL_two_428 : decode cL_two 428 = .ok (.goto 46, 3) := by decide +kernel
theorem dL_two_431 : decode cL_two 431 = .ok (.iload 11, 2) := by decide +kernel
theorem dL_two_433 : decode cL_two 433 = .ok (.iload_n 1, 1) := by decide +kernel
theorem dL_two_434 : decode cL_two 434 = .ok (.if_icmp .le 39, 3) := by decide +kernel
theorem dL_two_437 : decode cL_two 437 = .ok (.aload_n 0, 1) := by decide +kernel
theorem dL_two_438 : decode cL_two 438 = .ok (.iload 11, 2) := by decide +kernel
theorem dL_two_440 : decode cL_two 440 = .ok (.iconst 2, 1) := by decide +kernel
theorem dL_two_441 : decode cL_two 441 = .ok (.invokevirtual 15, 3) := by decide +kernel
theorem dL_two_444 : decode cL_two 444 = .ok (.ifCond .ne 29, 3) := by decide +kernel
theorem dL_two_447 : decode cL_two 447 = .ok (.aload_n 0, 1) := by decide +kernel
theorem dL_two_448 : decode cL_two 448 = .ok (.iload_n 1, 1) := by decide +kernel
theorem dL_two_449 : decode cL_two 449 = .ok (.iconst 2, 1) := by decide +kernel
theorem dL_two_450 : decode cL_two 450 = .ok (.invokevirtual 15, 3) := by decide +kernel
theorem dL_two_453 : decode cL_two 453 = .ok (.ifCond .eq 16, 3) := by decide +kernel
theorem dL_two_456 : decode cL_two 456 = .ok (.iload 11, 2) := by decide +kernel
theorem dL_two_458 : decode cL_two 458 = .ok (.iload_n 1, 1) := by decide +kernel
theorem dL_two_459 : decode cL_two 459 = .ok (.aload_n 0, 1) := by decide +kernel
theorem dL_two_460 : decode cL_two 460 = .ok (.iload_n 1, 1) := by decide +kernel
theorem dL_two_461 : decode cL_two 461 = .ok (.iconst 3, 1) := by decide +kernel
theorem dL_two_462 : decode cL_two 462 = .ok (.invokevirtual 15, 3) := by decide +kernel
theorem dL_two_465 : decode cL_two 465 = .ok (.iadd, 1) := by decide +kernel
theorem dL_two_466 : decode cL_two 466 = .ok (.if_icmp .ge 7, 3) := by decide +kernel
theorem dL_two_469 : decode cL_two 469 = .ok (.iconst 1, 1) := by decide +kernel
theorem dL_two_470 : decode cL_two 470 = .ok (.goto 4, 3) := by decide +kernel
theorem dL_two_473 : decode cL_two 473 = .ok (.iconst 0, 1) := by decide +kernel
theorem dL_two_474 : decode cL_two 474 = .ok (.istore 12, 2) := by decide +kernel
theorem dL_two_476 : decode cL_two 476 = .ok (.iload_n 1, 1) := by decide +kernel
theorem dL_two_477 : decode cL_two 477 = .ok (.iconst 1, 1) := by decide +kernel
theorem dL_two_478 : decode cL_two 478 = .ok (.iadd, 1) := by decide +kernel
theorem dL_two_479 : decode cL_two 479 = .ok (.istore 13, 2) := by decide +kernel
theorem dL_two_481 : decode cL_two 481 = .ok (.iload 13, 2) := by decide +kernel
theorem dL_two_483 : decode cL_two 483 = .ok (.iload 11, 2) := by decide +kernel
theorem dL_two_485 : decode cL_two 485 = .ok (.if_icmp .ge 31, 3) := by decide +kernel
theorem dL_two_488 : decode cL_two 488 = .ok (.iload 12, 2) := by decide +kernel
theorem dL_two_490 : decode cL_two 490 = .ok (.ifCond .eq 17, 3) := by decide +kernel
theorem dL_two_493 : decode cL_two 493 = .ok (.aload_n 0, 1) := by decide +kernel
theorem dL_two_494 : decode cL_two 494 = .ok (.iload 13, 2) := by decide +kernel
theorem dL_two_496 : decode cL_two 496 = .ok (.iconst 2, 1) := by decide +kernel
theorem dL_two_497 : decode cL_two 497 = .ok (.invokevirtual 15, 3) := by decide +kernel
theorem dL_two_500 : decode cL_two 500 = .ok (.ifCond .le 7, 3) := by decide +kernel
theorem dL_two_503 : decode cL_two 503 = .ok (.iconst 1, 1) := by decide +kernel
theorem dL_two_504 : decode cL_two 504 = .ok (.goto 4, 3) := by decide +kernel
theorem dL_two_507 : decode cL_two 507 = .ok (.iconst 0, 1) := by decide +kernel
theorem dL_two_508 : decode cL_two 508 = .ok (.istore 12, 2) := by decide +kernel
theorem dL_two_510 : decode cL_two 510 = .ok (.iinc 13 1, 3) := by decide +kernel
theorem dL_two_513 : decode cL_two 513 = .ok (.goto (-32), 3) := by decide +kernel
theorem dL_two_516 : decode cL_two 516 = .ok (.iload 12, 2) := by decide +kernel
theorem dL_two_518 : decode cL_two 518 = .ok (.ifCond .eq 135, 3) := by decide +kernel
theorem dL_two_521 : decode cL_two 521 = .ok (.iload 10, 2) := by decide +kernel
theorem dL_two_523 : decode cL_two 523 = .ok (.iload 9, 2) := by decide +kernel
theorem dL_two_525 : decode cL_two 525 = .ok (.if_icmp .ge 128, 3) := by decide +kernel
theorem dL_two_528 : decode cL_two 528 = .ok (.aload_n 0, 1) := by decide +kernel
theorem dL_two_529 : decode cL_two 529 = .ok (.iload 8, 2) := by decide +kernel
theorem dL_two_531 : decode cL_two 531 = .ok (.iload 9, 2) := by decide +kernel
theorem dL_two_533 : decode cL_two 533 = .ok (.invokevirtual 45, 3) := by decide +kernel
theorem dL_two_536 : decode cL_two 536 = .ok (.bipush (-5), 2) := by decide +kernel
theorem dL_two_538 : decode cL_two 538 = .ok (.if_icmp .ne 115, 3) := by decide +kernel
theorem dL_two_541 : decode cL_two 541 = .ok (.aload_n 0, 1) := by decide +kernel
theorem dL_two_542 : decode cL_two 542 = .ok (.iload_n 1, 1) := by decide +kernel
theorem dL_two_543 : decode cL_two 543 = .ok (.iconst 2, 1) := by decide +kernel
theorem dL_two_544 : decode cL_two 544 = .ok (.invokevirtual 22, 3) := by decide +kernel
theorem dL_two_547 : decode cL_two 547 = .ok (.iload 10, 2) := by decide +kernel
theorem dL_two_549 : decode cL_two 549 = .ok (.iconst 1, 1) := by decide +kernel
theorem dL_two_550 : decode cL_two 550 = .ok (.iadd, 1) := by decide +kernel
theorem dL_two_551 : decode cL_two 551 = .ok (.iload 9, 2) := by decide +kernel
theorem dL_two_553 : decode cL_two 553 = .ok (.if_icmp .ge 16, 3) := by decide +kernel
theorem dL_two_556 : decode cL_two 556 = .ok (.aload_n 0, 1) := by decide +kernel
theorem dL_two_557 : decode cL_two 557 = .ok (.iload 8, 2) := by decide +kernel
theorem dL_two_559 : decode cL_two 559 = .ok (.iload 10, 2) := by decide +kernel
theorem dL_two_561 : decode cL_two 561 = .ok (.iconst 1, 1) := by decide +kernel
theorem dL_two_562 : decode cL_two 562 = .ok (.iadd, 1) := by decide +kernel
theorem dL_two_563 : decode cL_two 563 = .ok (.invokevirtual 45, 3) := by decide +kernel
theorem dL_two_566 : decode cL_two 566 = .ok (.goto 5, 3) := by decide +kernel
theorem dL_two_569 : decode cL_two 569 = .ok (.bipush (-5), 2) := by decide +kernel
theorem dL_two_571 : decode cL_two 571 = .ok (.if_icmp .ne 82, 3) := by decide +kernel
theorem dL_two_574 : decode cL_two 574 = .ok (.aload_n 0, 1) := by decide +kernel
theorem dL_two_575 : decode cL_two 575 = .ok (.iload_n 1, 1) := by decide +kernel
theorem dL_two_576 : decode cL_two 576 = .ok (.iconst 3, 1) := by decide +kernel
theorem dL_two_577 : decode cL_two 577 = .ok (.invokevirtual 22, 3) := by decide +kernel
theorem dL_two_580 : decode cL_two 580 = .ok (.iload 10, 2) := by decide +kernel
theorem dL_two_582 : decode cL_two 582 = .ok (.ifCond .le 16, 3) := by decide +kernel
theorem dL_two_585 : decode cL_two 585 = .ok (.aload_n 0, 1) := by decide +kernel
theorem dL_two_586 : decode cL_two 586 = .ok (.iload 8, 2) := by decide +kernel
theorem dL_two_588 : decode cL_two 588 = .ok (.iload 10, 2) := by decide +kernel
theorem dL_two_590 : decode cL_two 590 = .ok (.iconst 1, 1) := by decide +kernel
theorem dL_two_591 : decode cL_two 591 = .ok (.isub, 1) := by decide +kernel
theorem dL_two_592 : decode cL_two 592 = .ok (.invokevirtual 45, 3) := by decide +kernel
theorem dL_two_595 : decode cL_two 595 = .ok (.goto 5, 3) := by decide +kernel
theorem dL_two_598 : decode cL_two 598 = .ok (.bipush (-5), 2) := by decide +kernel
theorem dL_two_600 : decode cL_two 600 = .ok (.if_icmp .ne 53, 3) := by decide +kernel
theorem dL_two_603 : decode cL_two 603 = .ok (.aload_n 0, 1) := by decide +kernel
theorem dL_two_604 : decode cL_two 604 = .ok (.iload_n 1, 1) := by decide +kernel
theorem dL_two_605 : decode cL_two 605 = .ok (.iload 8, 2) := by decide +kernel
theorem dL_two_607 : decode cL_two 607 = .ok (.iconst 1, 1) := by decide +kernel
theorem dL_two_608 : decode cL_two 608 = .ok (.iadd, 1) := by decide +kernel
theorem dL_two_609 : decode cL_two 609 = .ok (.invokevirtual 38, 3) := by decide +kernel
theorem dL_two_612 : decode cL_two 612 = .ok (.bipush (-2), 2) := by decide +kernel
theorem dL_two_614 : decode cL_two 614 = .ok (.if_icmp .ne 39, 3) := by decide +kernel
theorem dL_two_617 : decode cL_two 617 = .ok (.aload_n 0, 1) := by decide +kernel
theorem dL_two_618 : decode cL_two 618 = .ok (.iconst (-1), 1) := by decide +kernel
theorem dL_two_619 : decode cL_two 619 = .ok (.iconst 0, 1) := by decide +kernel
theorem dL_two_620 : decode cL_two 620 = .ok (.invokevirtual 45, 3) := by decide +kernel
theorem dL_two_623 : decode cL_two 623 = .ok (.bipush (-2), 2) := by decide +kernel
theorem dL_two_625 : decode cL_two 625 = .ok (.if_icmp .ne 28, 3) := by decide +kernel
theorem dL_two_628 : decode cL_two 628 = .ok (.aload_n 0, 1) := by decide +kernel
theorem dL_two_629 : decode cL_two 629 = .ok (.iconst 0, 1) := by decide +kernel
theorem dL_two_630 : decode cL_two 630 = .ok (.bipush (-2), 2) := by decide +kernel
theorem dL_two_632 : decode cL_two 632 = .ok (.invokevirtual 45, 3) := by decide +kernel
theorem dL_two_635 : decode cL_two 635 = .ok (.bipush (-2), 2) := by decide +kernel
theorem dL_two_637 : decode cL_two 637 = .ok (.if_icmp .ne 16, 3) := by decide +kernel
theorem dL_two_640 : decode cL_two 640 = .ok (.aload_n 0, 1) := by decide +kernel
theorem dL_two_641 : decode cL_two 641 = .ok (.iload_n 3, 1) := by decide +kernel
theorem dL_two_642 : decode cL_two 642 = .ok (.iconst (-1), 1) := by decide +kernel
theorem dL_two_643 : decode cL_two 643 = .ok (.invokevirtual 45, 3) := by decide +kernel
theorem dL_two_646 : decode cL_two 646 = .ok (.ifCond .ne 7, 3) := by decide +kernel
theorem dL_two_649 : decode cL_two 649 = .ok (.iconst 1, 1) := by decide +kernel
theorem dL_two_650 : decode cL_two 650 = .ok (.goto 4, 3) := by decide +kernel
theorem dL_two_653 : decode cL_two 653 = .ok (.iconst 0, 1) := by decide +kernel
theorem dL_two_654 : decode cL_two 654 = .ok (.ireturn, 1) := by decide +kernel
set_option maxRecDepth 20000 in
theorem ggL_labels_X4_node : GoodIn wsL_labels wsX4_node := goodIn_r _ [5, 6, 7, 8, 9, 10, 11, 12, 13, 14, 15, 16, 17, 18, 19, 4, 20, 21, 22, 23, 24, 25, 26, 27, 28, 29, 30, 31, 32, 33, 34, 35, 36, 37, 38, 39, 40, 41, 42, 43, 44, 45, 46, 47, 48, 49, 50, 51, 52, 53, 54, 55, 56, 57, 58, 59, 60, 61, 62, 63, 64, 65, 66, 67, 68, 69, 70, 71, 72, 73, 74, 75, 76, 138, 139, 140, 141, 142, 143, 144, 145, 146] (by decide +kernel) (by decide +kernel)
set_option maxRecDepth 20000 in
theorem gL_labels_X4_node : GoodIn wsL_labels (wsV RL 15 RX4 yX4_node wsX4_node) := goodIn_app (goodIn_of _ (by decide +kernel)) ggL_labels_X4_node
set_option maxRecDepth 20000 in
theorem ggL_labels_X4_labelled : GoodIn wsL_labels wsX4_labelled := goodIn_r _ [80, 6, 7, 8, 9, 10, 11, 12, 81, 82, 4, 83, 84, 85, 86, 87, 34, 35, 36, 37, 25, 14, 15, 16, 17, 18, 19, 20, 88, 73, 74, 75, 76, 138, 139, 140, 141, 142, 143, 144, 145, 146] (by decide +kernel) (by decide +kernel)
set_option maxRecDepth 20000 in
theorem gL_labels_X4_labelled : GoodIn wsL_labels (wsV RL 48 RX4 yX4_labelled wsX4_labelled) := goodIn_app (goodIn_of _ (by decide +kernel)) ggL_labels_X4_labelled
set_option maxRecDepth 20000 in
theorem ggL_labels_X4_select : GoodIn wsL_labels wsX4_select := goodIn_r _ [92, 6, 7, 8, 9, 10, 11, 12, 81, 82, 4, 83, 93, 94, 95, 96, 34, 35, 36, 37, 25, 14, 15, 16, 17, 18, 19, 20, 88, 73, 74, 75, 76, 138, 139, 140, 141, 142, 143, 144, 145, 146] (by decide +kernel) (by decide +kernel)
set_option maxRecDepth 20000 in
theorem gL_labels_X4_select : GoodIn wsL_labels (wsV RL 52 RX4 yX4_select wsX4_select) := goodIn_app (goodIn_of _ (by decide +kernel)) ggL_labels_X4_select
set_option maxRecDepth 20000 in
theorem ggL_labels_X4_size : GoodIn wsL_labels wsX4_size := goodIn_r _ [100, 6, 101, 102, 103, 10, 104, 12, 138, 139, 140, 141, 142, 143, 144, 145, 146] (by decide +kernel) (by decide +kernel)
set_option maxRecDepth 20000 in
theorem gL_labels_X4_size : GoodIn wsL_labels (wsV RL 9 RX4 yX4_size wsX4_size) := goodIn_app (goodIn_of _ (by decide +kernel)) ggL_labels_X4_size
set_option maxRecDepth 20000 in
theorem ggL_labels_X4_areEqual : GoodIn wsL_labels wsX4_areEqual := goodIn_r _ [108, 6, 7, 8, 9, 10, 11, 12, 109, 110, 111, 112, 67, 39, 40, 41, 34, 35, 36, 37, 25, 14, 15, 16, 17, 18, 19, 4, 20, 88, 73, 74, 75, 76, 138, 139, 140, 141, 142, 143, 144, 145, 146] (by decide +kernel) (by decide +kernel)
set_option maxRecDepth 20000 in
theorem gL_labels_X4_areEqual : GoodIn wsL_labels (wsV RL 56 RX4 yX4_areEqual wsX4_areEqual) := goodIn_app (goodIn_of _ (by decide +kernel)) ggL_labels_X4_areEqual
set_option maxRecDepth 20000 in
theorem ggL_labels_X4_child : GoodIn wsL_labels wsX4_child := goodIn_r _ [116, 6, 7, 8, 9, 10, 11, 12, 30, 31, 32, 33, 34, 35, 36, 37, 25, 14, 15, 16, 17, 18, 19, 4, 20, 117, 118, 119, 120, 138, 139, 140, 141, 142, 143, 144, 145, 146] (by decide +kernel) (by decide +kernel)
set_option maxRecDepth 20000 in
theorem gL_labels_X4_child : GoodIn wsL_labels (wsV RL 19 RX4 yX4_child wsX4_child) := goodIn_app (goodIn_of _ (by decide +kernel)) ggL_labels_X4_child
set_option maxRecDepth 20000 in
theorem ggL_labels_X4_copies : GoodIn wsL_labels wsX4_copies := goodIn_r _ [124, 6, 7, 8, 9, 10, 11, 12, 125, 126, 127, 128, 129, 110, 111, 112, 67, 39, 40, 41, 34, 35, 36, 37, 25, 14, 15, 16, 17, 18, 19, 4, 20, 88, 73, 74, 75, 76, 138, 139, 140, 141, 142, 143, 144, 145, 146] (by decide +kernel) (by decide +kernel)
set_option maxRecDepth 20000 in
theorem gL_labels_X4_copies : GoodIn wsL_labels (wsV RL 59 RX4 yX4_copies wsX4_copies) := goodIn_app (goodIn_of _ (by decide +kernel)) ggL_labels_X4_copies
set_option maxRecDepth 20000 in
theorem ggL_labels_X4_ancestorWith : GoodIn wsL_labels wsX4_ancestorWith := goodIn_r _ [133, 6, 7, 8, 9, 10, 11, 12, 81, 82, 4, 83, 134, 135, 136, 137, 25, 14, 15, 16, 17, 18, 19, 20, 88, 73, 74, 75, 76, 138, 139, 140, 141, 142, 143, 144, 145, 146] (by decide +kernel) (by decide +kernel)
set_option maxRecDepth 20000 in
theorem gL_labels_X4_ancestorWith : GoodIn wsL_labels (wsV RL 62 RX4 yX4_ancestorWith wsX4_ancestorWith) := goodIn_app (goodIn_of _ (by decide +kernel)) ggL_labels_X4_ancestorWith
theorem dL_labels_0 : decode cL_labels 0 = .ok (.aload_n 0, 1) := by decide +kernel
theorem dL_labels_1 : decode cL_labels 1 = .ok (.iload_n 2, 1) := by decide +kernel
theorem dL_labels_2 : decode cL_labels 2 = .ok (.bipush 10, 2) := by decide +kernel
theorem dL_labels_4 : decode cL_labels 4 = .ok (.invokevirtual 15, 3) := by decide +kernel
theorem dL_labels_7 : decode cL_labels 7 = .ok (.i2c, 1) := by decide +kernel
theorem dL_labels_8 : decode cL_labels 8 = .ok (.istore_n 3, 1) := by decide +kernel
theorem dL_labels_9 : decode cL_labels 9 = .ok (.aload_n 0, 1) := by decide +kernel
theorem dL_labels_10 : decode cL_labels 10 = .ok (.iload_n 1, 1) := by decide +kernel
theorem dL_labels_11 : decode cL_labels 11 = .ok (.iload_n 3, 1) := by decide +kernel
theorem dL_labels_12 : decode cL_labels 12 = .ok (.invokevirtual 48, 3) := by decide +kernel
theorem dL_labels_15 : decode cL_labels 15 = .ok (.istore 4, 2) := by decide +kernel
theorem dL_labels_17 : decode cL_labels 17 = .ok (.iload_n 1, 1) := by decide +kernel
theorem dL_labels_18 : decode cL_labels 18 = .ok (.iconst 1, 1) := by decide +kernel
theorem dL_labels_19 : decode cL_labels 19 = .ok (.isub, 1) := by decide +kernel
theorem dL_labels_20 : decode cL_labels 20 = .ok (.istore 5, 2) := by decide +kernel
theorem dL_labels_22 : decode cL_labels 22 = .ok (.iconst 0, 1) := by decide +kernel
theorem dL_labels_23 : decode cL_labels 23 = .ok (.istore 6, 2) := by decide +kernel
theorem dL_labels_25 : decode cL_labels 25 = .ok (.iload 6, 2) := by decide +kernel
theorem dL_labels_27 : decode cL_labels 27 = .ok (.iload 4, 2) := by decide +kernel
theorem dL_labels_29 : decode cL_labels 29 = .ok (.if_icmp .ge 57, 3) := by decide +kernel
theorem dL_labels_32 : decode cL_labels 32 = .ok (.aload_n 0, 1) := by decide +kernel
theorem dL_labels_33 : decode cL_labels 33 = .ok (.iload_n 1, 1) := by decide +kernel
theorem dL_labels_34 : decode cL_labels 34 = .ok (.iload_n 3, 1) := by decide +kernel
theorem dL_labels_35 : decode cL_labels 35 = .ok (.iload 6, 2) := by decide +kernel
theorem dL_labels_37 : decode cL_labels 37 = .ok (.invokevirtual 52, 3) := by decide +kernel
theorem dL_labels_40 : decode cL_labels 40 = .ok (.istore 7, 2) := by decide +kernel
theorem dL_labels_42 : decode cL_labels 42 = .ok (.iload 7, 2) := by decide +kernel
theorem dL_labels_44 : decode cL_labels 44 = .ok (.iload 5, 2) := by decide +kernel
theorem dL_labels_46 : decode cL_labels 46 = .ok (.if_icmp .le 28, 3) := by decide +kernel
theorem dL_labels_49 : decode cL_labels 49 = .ok (.iload 7, 2) := by decide +kernel
theorem dL_labels_51 : decode cL_labels 51 = .ok (.iload_n 1, 1) := by decide +kernel
theorem dL_labels_52 : decode cL_labels 52 = .ok (.aload_n 0, 1) := by decide +kernel
theorem dL_labels_53 : decode cL_labels 53 = .ok (.iload_n 1, 1) := by decide +kernel
theorem dL_labels_54 : decode cL_labels 54 = .ok (.iconst 3, 1) := by decide +kernel
theorem dL_labels_55 : decode cL_labels 55 = .ok (.invokevirtual 15, 3) := by decide +kernel
theorem dL_labels_58 : decode cL_labels 58 = .ok (.iadd, 1) := by decide +kernel
theorem dL_labels_59 : decode cL_labels 59 = .ok (.if_icmp .ge 15, 3) := by decide +kernel
theorem dL_labels_62 : decode cL_labels 62 = .ok (.aload_n 0, 1) := by decide +kernel
theorem dL_labels_63 : decode cL_labels 63 = .ok (.iload 7, 2) := by decide +kernel
theorem dL_labels_65 : decode cL_labels 65 = .ok (.bipush 10, 2) := by decide +kernel
theorem dL_labels_67 : decode cL_labels 67 = .ok (.invokevirtual 15, 3) := by decide +kernel
theorem dL_labels_70 : decode cL_labels 70 = .ok (.iload_n 3, 1) := by decide +kernel
theorem dL_labels_71 : decode cL_labels 71 = .ok (.if_icmp .eq 5, 3) := by decide +kernel
theorem dL_labels_74 : decode cL_labels 74 = .ok (.iconst 0, 1) := by decide +kernel
theorem dL_labels_75 : decode cL_labels 75 = .ok (.ireturn, 1) := by decide +kernel
theorem dL_labels_76 : decode cL_labels 76 = .ok (.iload 7, 2) := by decide +kernel
theorem dL_labels_78 : decode cL_labels 78 = .ok (.istore 5, 2) := by decide +kernel
theorem dL_labels_80 : decode cL_labels 80 = .ok (.iinc 6 1, 3) := by decide +kernel
theorem dL_labels_83 : decode cL_labels 83 = .ok (.goto (-58), 3) := by decide +kernel
theorem dL_labels_86 : decode cL_labels 86 = .ok (.iconst 0, 1) := by decide +kernel
theorem dL_labels_87 : decode cL_labels 87 = .ok (.istore 6, 2) := by decide +kernel
theorem dL_labels_89 : decode cL_labels 89 = .ok (.iconst 0, 1) := by decide +kernel
theorem dL_labels_90 : decode cL_labels 90 = .ok (.istore 7, 2) := by decide +kernel
theorem dL_labels_92 : decode cL_labels 92 = .ok (.iconst 0, 1) := by decide +kernel
theorem dL_labels_93 : decode cL_labels 93 = .ok (.istore 8, 2) := by decide +kernel
theorem dL_labels_95 : decode cL_labels 95 = .ok (.iload 8, 2) := by decide +kernel
theorem dL_labels_97 : decode cL_labels 97 = .ok (.aload_n 0, 1) := by decide +kernel
theorem dL_labels_98 : decode cL_labels 98 = .ok (.invokevirtual 9, 3) := by decide +kernel
theorem dL_labels_101 : decode cL_labels 101 = .ok (.if_icmp .ge 62, 3) := by decide +kernel
theorem dL_labels_104 : decode cL_labels 104 = .ok (.iload 6, 2) := by decide +kernel
theorem dL_labels_106 : decode cL_labels 106 = .ok (.iload 8, 2) := by decide +kernel
theorem dL_labels_108 : decode cL_labels 108 = .ok (.iload_n 1, 1) := by decide +kernel
theorem dL_labels_109 : decode cL_labels 109 = .ok (.if_icmp .lt 32, 3) := by decide +kernel
theorem dL_labels_112 : decode cL_labels 112 = .ok (.iload 8, 2) := by decide +kernel
theorem dL_labels_114 : decode cL_labels 114 = .ok (.iload_n 1, 1) := by decide +kernel
theorem dL_labels_115 : decode cL_labels 115 = .ok (.aload_n 0, 1) := by decide +kernel
theorem dL_labels_116 : decode cL_labels 116 = .ok (.iload_n 1, 1) := by decide +kernel
theorem dL_labels_117 : decode cL_labels 117 = .ok (.iconst 3, 1) := by decide +kernel
theorem dL_labels_118 : decode cL_labels 118 = .ok (.invokevirtual 15, 3) := by decide +kernel
theorem dL_labels_121 : decode cL_labels 121 = .ok (.iadd, 1) := by decide +kernel
theorem dL_labels_122 : decode cL_labels 122 = .ok (.if_icmp .ge 19, 3) := by decide +kernel
theorem dL_labels_125 : decode cL_labels 125 = .ok (.aload_n 0, 1) := by decide +kernel
theorem dL_labels_126 : decode cL_labels 126 = .ok (.iload 8, 2) := by decide +kernel
theorem dL_labels_128 : decode cL_labels 128 = .ok (.bipush 10, 2) := by decide +kernel
theorem dL_labels_130 : decode cL_labels 130 = .ok (.invokevirtual 15, 3) := by decide +kernel
theorem dL_labels_133 : decode cL_labels 133 = .ok (.iload_n 3, 1) := by decide +kernel
theorem dL_labels_134 : decode cL_labels 134 = .ok (.if_icmp .ne 7, 3) := by decide +kernel
theorem dL_labels_137 : decode cL_labels 137 = .ok (.iconst 1, 1) := by decide +kernel
theorem dL_labels_138 : decode cL_labels 138 = .ok (.goto 4, 3) := by decide +kernel
theorem dL_labels_141 : decode cL_labels 141 = .ok (.iconst 0, 1) := by decide +kernel
theorem dL_labels_142 : decode cL_labels 142 = .ok (.iadd, 1) := by decide +kernel
theorem dL_labels_143 : decode cL_labels 143 = .ok (.istore 6, 2) := by decide +kernel
theorem dL_labels_145 : decode cL_labels 145 = .ok (.iload 7, 2) := by decide +kernel
theorem dL_labels_147 : decode cL_labels 147 = .ok (.aload_n 0, 1) := by decide +kernel
theorem dL_labels_148 : decode cL_labels 148 = .ok (.iload_n 1, 1) := by decide +kernel
theorem dL_labels_149 : decode cL_labels 149 = .ok (.iload 8, 2) := by decide +kernel
theorem dL_labels_151 : decode cL_labels 151 = .ok (.invokevirtual 56, 3) := by decide +kernel
theorem dL_labels_154 : decode cL_labels 154 = .ok (.iadd, 1) := by decide +kernel
theorem dL_labels_155 : decode cL_labels 155 = .ok (.istore 7, 2) := by decide +kernel
theorem dL_labels_157 : decode cL_labels 157 = .ok (.iinc 8 1, 3) := by decide +kernel
theorem dL_labels_160 : decode cL_labels 160 = .ok (.goto (-65), 3) := by decide +kernel
theorem dL_labels_163 : decode cL_labels 163 = .ok (.aload_n 0, 1) := by decide +kernel
theorem dL_labels_164 : decode cL_labels 164 = .ok (.iload_n 1, 1) := by decide +kernel
theorem dL_labels_165 : decode cL_labels 165 = .ok (.iconst 1, 1) := by decide +kernel
theorem dL_labels_166 : decode cL_labels 166 = .ok (.invokevirtual 15, 3) := by decide +kernel
theorem dL_labels_169 : decode cL_labels 169 = .ok (.istore 8, 2) := by decide +kernel
theorem dL_labels_171 : decode cL_labels 171 = .ok (.iload 8, 2) := by decide +kernel
theorem dL_labels_173 : decode cL_labels 173 = .ok (.ifCond .lt 27, 3) := by decide +kernel
theorem dL_labels_176 : decode cL_labels 176 = .ok (.aload_n 0, 1) := by decide +kernel
theorem dL_labels_177 : decode cL_labels 177 = .ok (.iload 8, 2) := by decide +kernel
theorem dL_labels_179 : decode cL_labels 179 = .ok (.bipush 10, 2) := by decide +kernel
theorem dL_labels_181 : decode cL_labels 181 = .ok (.invokevirtual 15, 3) := by decide +kernel
theorem dL_labels_184 : decode cL_labels 184 = .ok (.iload_n 3, 1) := by decide +kernel
theorem dL_labels_185 : decode cL_labels 185 = .ok (.if_icmp .eq 15, 3) := by decide +kernel
theorem dL_labels_188 : decode cL_labels 188 = .ok (.aload_n 0, 1) := by decide +kernel
theorem dL_labels_189 : decode cL_labels 189 = .ok (.iload 8, 2) := by decide +kernel
theorem dL_labels_191 : decode cL_labels 191 = .ok (.iconst 1, 1) := by decide +kernel
theorem dL_labels_192 : decode cL_labels 192 = .ok (.invokevirtual 15, 3) := by decide +kernel
theorem dL_labels_195 : decode cL_labels 195 = .ok (.istore 8, 2) := by decide +kernel
theorem dL_labels_197 : decode cL_labels 197 = .ok (.goto (-26), 3) := by decide +kernel
theorem dL_labels_200 : decode cL_labels 200 = .ok (.aload_n 0, 1) := by decide +kernel
theorem dL_labels_201 : decode cL_labels 201 = .ok (.iload_n 1, 1) := by decide +kernel
theorem dL_labels_202 : decode cL_labels 202 = .ok (.bipush 10, 2) := by decide +kernel
theorem dL_labels_204 : decode cL_labels 204 = .ok (.invokevirtual 15, 3) := by decide +kernel
theorem dL_labels_207 : decode cL_labels 207 = .ok (.aload_n 0, 1) := by decide +kernel
theorem dL_labels_208 : decode cL_labels 208 = .ok (.iload_n 2, 1) := by decide +kernel
theorem dL_labels_209 : decode cL_labels 209 = .ok (.bipush 10, 2) := by decide +kernel
theorem dL_labels_211 : decode cL_labels 211 = .ok (.invokevirtual 15, 3) := by decide +kernel
theorem dL_labels_214 : decode cL_labels 214 = .ok (.if_icmp .ne 22, 3) := by decide +kernel
theorem dL_labels_217 : decode cL_labels 217 = .ok (.aload_n 0, 1) := by decide +kernel
theorem dL_labels_218 : decode cL_labels 218 = .ok (.iload_n 1, 1) := by decide +kernel
theorem dL_labels_219 : decode cL_labels 219 = .ok (.iconst 2, 1) := by decide +kernel
theorem dL_labels_220 : decode cL_labels 220 = .ok (.invokevirtual 15, 3) := by decide +kernel
theorem dL_labels_223 : decode cL_labels 223 = .ok (.aload_n 0, 1) := by decide +kernel
theorem dL_labels_224 : decode cL_labels 224 = .ok (.iload_n 2, 1) := by decide +kernel
theorem dL_labels_225 : decode cL_labels 225 = .ok (.iconst 2, 1) := by decide +kernel
theorem dL_labels_226 : decode cL_labels 226 = .ok (.invokevirtual 15, 3) := by decide +kernel
theorem dL_labels_229 : decode cL_labels 229 = .ok (.if_icmp .ne 7, 3) := by decide +kernel
theorem dL_labels_232 : decode cL_labels 232 = .ok (.iconst 1, 1) := by decide +kernel
theorem dL_labels_233 : decode cL_labels 233 = .ok (.goto 4, 3) := by decide +kernel
theorem dL_labels_236 : decode cL_labels 236 = .ok (.iconst 0, 1) := by decide +kernel
theorem dL_labels_237 : decode cL_labels 237 = .ok (.istore 9, 2) := by decide +kernel
theorem dL_labels_239 : decode cL_labels 239 = .ok (.iconst 0, 1) := by decide +kernel
theorem dL_labels_240 : decode cL_labels 240 = .ok (.istore 10, 2) := by decide +kernel
theorem dL_labels_242 : decode cL_labels 242 = .ok (.iload 10, 2) := by decide +kernel
theorem dL_labels_244 : decode cL_labels 244 = .ok (.aload_n 0, 1) := by decide +kernel
theorem dL_labels_245 : decode cL_labels 245 = .ok (.iload_n 1, 1) := by decide +kernel
theorem dL_labels_246 : decode cL_labels 246 = .ok (.iconst 2, 1) := by decide +kernel
theorem dL_labels_247 : decode cL_labels 247 = .ok (.invokevirtual 15, 3) := by decide +kernel
theorem dL_labels_250 : decode cL_labels 250 = .ok (.if_icmp .ge 43, 3) := by decide +kernel
theorem dL_labels_253 : decode cL_labels 253 = .ok (.iload 9, 2) := by decide +kernel
theorem dL_labels_255 : decode cL_labels 255 = .ok (.ifCond .eq 38, 3) := by decide +kernel
theorem dL_labels_258 : decode cL_labels 258 = .ok (.aload_n 0, 1) := by decide +kernel
theorem dL_labels_259 : decode cL_labels 259 = .ok (.aload_n 0, 1) := by decide +kernel
theorem dL_labels_260 : decode cL_labels 260 = .ok (.iload_n 1, 1) := by decide +kernel
theorem dL_labels_261 : decode cL_labels 261 = .ok (.iload 10, 2) := by decide +kernel
theorem dL_labels_263 : decode cL_labels 263 = .ok (.invokevirtual 19, 3) := by decide +kernel
theorem dL_labels_266 : decode cL_labels 266 = .ok (.aload_n 0, 1) := by decide +kernel
theorem dL_labels_267 : decode cL_labels 267 = .ok (.iload_n 2, 1) := by decide +kernel
theorem dL_labels_268 : decode cL_labels 268 = .ok (.iload 10, 2) := by decide +kernel
theorem dL_labels_270 : decode cL_labels 270 = .ok (.invokevirtual 19, 3) := by decide +kernel
theorem dL_labels_273 : decode cL_labels 273 = .ok (.invokevirtual 56, 3) := by decide +kernel
theorem dL_labels_276 : decode cL_labels 276 = .ok (.iconst 1, 1) := by decide +kernel
theorem dL_labels_277 : decode cL_labels 277 = .ok (.if_icmp .ne 7, 3) := by decide +kernel
theorem dL_labels_280 : decode cL_labels 280 = .ok (.iconst 1, 1) := by decide +kernel
theorem dL_labels_281 : decode cL_labels 281 = .ok (.goto 4, 3) := by decide +kernel
theorem dL_labels_284 : decode cL_labels 284 = .ok (.iconst 0, 1) := by decide +kernel
theorem dL_labels_285 : decode cL_labels 285 = .ok (.istore 9, 2) := by decide +kernel
theorem dL_labels_287 : decode cL_labels 287 = .ok (.iinc 10 1, 3) := by decide +kernel
theorem dL_labels_290 : decode cL_labels 290 = .ok (.goto (-48), 3) := by decide +kernel
theorem dL_labels_293 : decode cL_labels 293 = .ok (.iload 6, 2) := by decide +kernel
theorem dL_labels_295 : decode cL_labels 295 = .ok (.iload 4, 2) := by decide +kernel
theorem dL_labels_297 : decode cL_labels 297 = .ok (.if_icmp .ne 95, 3) := by decide +kernel
theorem dL_labels_300 : decode cL_labels 300 = .ok (.aload_n 0, 1) := by decide +kernel
theorem dL_labels_301 : decode cL_labels 301 = .ok (.iload_n 1, 1) := by decide +kernel
theorem dL_labels_302 : decode cL_labels 302 = .ok (.iload_n 3, 1) := by decide +kernel
theorem dL_labels_303 : decode cL_labels 303 = .ok (.iload 4, 2) := by decide +kernel
theorem dL_labels_305 : decode cL_labels 305 = .ok (.invokevirtual 52, 3) := by decide +kernel
theorem dL_labels_308 : decode cL_labels 308 = .ok (.bipush (-5), 2) := by decide +kernel
theorem dL_labels_310 : decode cL_labels 310 = .ok (.if_icmp .ne 82, 3) := by decide +kernel
theorem dL_labels_313 : decode cL_labels 313 = .ok (.aload_n 0, 1) := by decide +kernel
theorem dL_labels_314 : decode cL_labels 314 = .ok (.iload_n 1, 1) := by decide +kernel
theorem dL_labels_315 : decode cL_labels 315 = .ok (.iload_n 3, 1) := by decide +kernel
theorem dL_labels_316 : decode cL_labels 316 = .ok (.iconst (-1), 1) := by decide +kernel
theorem dL_labels_317 : decode cL_labels 317 = .ok (.invokevirtual 52, 3) := by decide +kernel
theorem dL_labels_320 : decode cL_labels 320 = .ok (.bipush (-2), 2) := by decide +kernel
theorem dL_labels_322 : decode cL_labels 322 = .ok (.if_icmp .ne 70, 3) := by decide +kernel
theorem dL_labels_325 : decode cL_labels 325 = .ok (.aload_n 0, 1) := by decide +kernel
theorem dL_labels_326 : decode cL_labels 326 = .ok (.iload_n 1, 1) := by decide +kernel
theorem dL_labels_327 : decode cL_labels 327 = .ok (.bipush 65, 2) := by decide +kernel
theorem dL_labels_329 : decode cL_labels 329 = .ok (.iconst 0, 1) := by decide +kernel
theorem dL_labels_330 : decode cL_labels 330 = .ok (.invokevirtual 52, 3) := by decide +kernel
theorem dL_labels_333 : decode cL_labels 333 = .ok (.bipush (-2), 2) := by decide +kernel
theorem dL_labels_335 : decode cL_labels 335 = .ok (.if_icmp .ne 57, 3) := by decide +kernel
theorem dL_labels_338 : decode cL_labels 338 = .ok (.aload_n 0, 1) := by decide +kernel
theorem dL_labels_339 : decode cL_labels 339 = .ok (.iload_n 1, 1) := by decide +kernel
theorem dL_labels_340 : decode cL_labels 340 = .ok (.invokevirtual 59, 3) := by decide +kernel
theorem dL_labels_343 : decode cL_labels 343 = .ok (.iload 7, 2) := by decide +kernel
theorem dL_labels_345 : decode cL_labels 345 = .ok (.if_icmp .ne 47, 3) := by decide +kernel
theorem dL_labels_348 : decode cL_labels 348 = .ok (.aload_n 0, 1) := by decide +kernel
theorem dL_labels_349 : decode cL_labels 349 = .ok (.iload_n 1, 1) := by decide +kernel
theorem dL_labels_350 : decode cL_labels 350 = .ok (.iload_n 1, 1) := by decide +kernel
theorem dL_labels_351 : decode cL_labels 351 = .ok (.invokevirtual 56, 3) := by decide +kernel
theorem dL_labels_354 : decode cL_labels 354 = .ok (.iconst 1, 1) := by decide +kernel
theorem dL_labels_355 : decode cL_labels 355 = .ok (.if_icmp .ne 37, 3) := by decide +kernel
theorem dL_labels_358 : decode cL_labels 358 = .ok (.aload_n 0, 1) := by decide +kernel
theorem dL_labels_359 : decode cL_labels 359 = .ok (.iload_n 1, 1) := by decide +kernel
theorem dL_labels_360 : decode cL_labels 360 = .ok (.iload_n 3, 1) := by decide +kernel
theorem dL_labels_361 : decode cL_labels 361 = .ok (.invokevirtual 62, 3) := by decide +kernel
theorem dL_labels_364 : decode cL_labels 364 = .ok (.iload 8, 2) := by decide +kernel
theorem dL_labels_366 : decode cL_labels 366 = .ok (.if_icmp .ne 26, 3) := by decide +kernel
theorem dL_labels_369 : decode cL_labels 369 = .ok (.aload_n 0, 1) := by decide +kernel
theorem dL_labels_370 : decode cL_labels 370 = .ok (.iload_n 1, 1) := by decide +kernel
theorem dL_labels_371 : decode cL_labels 371 = .ok (.iload_n 2, 1) := by decide +kernel
theorem dL_labels_372 : decode cL_labels 372 = .ok (.invokevirtual 56, 3) := by decide +kernel
theorem dL_labels_375 : decode cL_labels 375 = .ok (.iload 9, 2) := by decide +kernel
theorem dL_labels_377 : decode cL_labels 377 = .ok (.ifCond .eq 7, 3) := by decide +kernel
theorem dL_labels_380 : decode cL_labels 380 = .ok (.iconst 1, 1) := by decide +kernel
theorem dL_labels_381 : decode cL_labels 381 = .ok (.goto 4, 3) := by decide +kernel
theorem dL_labels_384 : decode cL_labels 384 = .ok (.iconst 0, 1) := by decide +kernel
theorem dL_labels_385 : decode cL_labels 385 = .ok (.if_icmp .ne 7, 3) := by decide +kernel
theorem dL_labels_388 : decode cL_labels 388 = .ok (.iconst 1, 1) := by decide +kernel
theorem dL_labels_389 : decode cL_labels 389 = .ok (.goto 4, 3) := by decide +kernel
theorem dL_labels_392 : decode cL_labels 392 = .ok (.iconst 0, 1) := by decide +kernel
theorem dL_labels_393 : decode cL_labels 393 = .ok (.ireturn, 1) := by decide +kernel
set_option maxRecDepth 20000 in
theorem ggL_blocks_X4_size : GoodIn wsL_blocks wsX4_size := goodIn_r _ [5, 6, 7, 8, 9, 10, 11, 12, 122, 123, 124, 125, 126, 127, 128, 129, 130] (by decide +kernel) (by decide +kernel)
set_option maxRecDepth 20000 in
theorem gL_blocks_X4_size : GoodIn wsL_blocks (wsV RL 9 RX4 yX4_size wsX4_size) := goodIn_app (goodIn_of _ (by decide +kernel)) ggL_blocks_X4_size
set_option maxRecDepth 20000 in
theorem ggL_blocks_X4_space : GoodIn wsL_blocks wsX4_space := goodIn_r _ [16, 6, 17, 7, 8, 9, 10, 11, 12, 18, 19, 4, 20, 21, 22, 23, 24, 25, 26, 27, 28, 29, 30, 31, 32, 33, 34, 122, 123, 124, 125, 126, 127, 128, 129, 130, 131] (by decide +kernel) (by decide +kernel)
set_option maxRecDepth 20000 in
theorem gL_blocks_X4_space : GoodIn wsL_blocks (wsV RL 65 RX4 yX4_space wsX4_space) := goodIn_app (goodIn_of _ (by decide +kernel)) ggL_blocks_X4_space
set_option maxRecDepth 20000 in
theorem ggL_blocks_X4_block : GoodIn wsL_blocks wsX4_block := goodIn_r _ [38, 17, 6, 21, 22, 23, 24, 25, 26, 27, 28, 29, 30, 31, 32, 33, 10, 34, 12, 39, 40, 41, 42, 43, 44, 45, 46, 47, 48, 49, 50, 51, 52, 53, 54, 55, 56, 57, 58, 59, 60, 61, 62, 63, 64, 4, 65, 66, 67, 68, 69, 70, 71, 72, 73, 74, 75, 76, 77, 78, 79, 80, 81, 82, 83, 84, 85, 86, 87, 88, 89, 90, 122, 123, 124, 125, 131, 126, 127, 128, 129, 130] (by decide +kernel) (by decide +kernel)
set_option maxRecDepth 20000 in
theorem gL_blocks_X4_block : GoodIn wsL_blocks (wsV RL 68 RX4 yX4_block wsX4_block) := goodIn_app (goodIn_of _ (by decide +kernel)) ggL_blocks_X4_block
set_option maxRecDepth 20000 in
theorem ggL_blocks_X4_bracket : GoodIn wsL_blocks wsX4_bracket := goodIn_r _ [94, 6, 95, 32, 33, 10, 34, 12, 96, 97, 98, 99, 47, 48, 49, 50, 51, 52, 53, 54, 55, 56, 57, 58, 59, 60, 61, 62, 63, 64, 4, 65, 100, 44, 45, 46, 101, 102, 103, 104, 105, 43, 106, 107, 108, 109, 110, 111, 112, 113, 114, 115, 116, 117, 118, 119, 120, 121, 122, 123, 124, 125, 126, 127, 128, 129, 130] (by decide +kernel) (by decide +kernel)
set_option maxRecDepth 20000 in
theorem gL_blocks_X4_bracket : GoodIn wsL_blocks (wsV RL 25 RX4 yX4_bracket wsX4_bracket) := goodIn_app (goodIn_of _ (by decide +kernel)) ggL_blocks_X4_bracket
theorem dL_blocks_0 : decode cL_blocks 0 = .ok (.aload_n 0, 1) := by decide +kernel
theorem dL_blocks_1 : decode cL_blocks 1 = .ok (.invokevirtual 9, 3) := by decide +kernel
theorem dL_blocks_4 : decode cL_blocks 4 = .ok (.istore_n 2, 1) := by decide +kernel
theorem dL_blocks_5 : decode cL_blocks 5 = .ok (.aload_n 0, 1) := by decide +kernel
theorem dL_blocks_6 : decode cL_blocks 6 = .ok (.iconst 4, 1) := by decide +kernel
theorem dL_blocks_7 : decode cL_blocks 7 = .ok (.invokevirtual 65, 3) := by decide +kernel
theorem dL_blocks_10 : decode cL_blocks 10 = .ok (.istore_n 3, 1) := by decide +kernel
theorem dL_blocks_11 : decode cL_blocks 11 = .ok (.iconst 0, 1) := by decide +kernel
theorem dL_blocks_12 : decode cL_blocks 12 = .ok (.istore 4, 2) := by decide +kernel
theorem dL_blocks_14 : decode cL_blocks 14 = .ok (.iconst 0, 1) := by decide +kernel
theorem dL_blocks_15 : decode cL_blocks 15 = .ok (.istore 5, 2) := by decide +kernel
theorem dL_blocks_17 : decode cL_blocks 17 = .ok (.iconst 0, 1) := by decide +kernel
theorem dL_blocks_18 : decode cL_blocks 18 = .ok (.istore 6, 2) := by decide +kernel
theorem dL_blocks_20 : decode cL_blocks 20 = .ok (.iload 6, 2) := by decide +kernel
theorem dL_blocks_22 : decode cL_blocks 22 = .ok (.iload_n 3, 1) := by decide +kernel
theorem dL_blocks_23 : decode cL_blocks 23 = .ok (.if_icmp .ge 189, 3) := by decide +kernel
theorem dL_blocks_26 : decode cL_blocks 26 = .ok (.sipush 1000, 3) := by decide +kernel
theorem dL_blocks_29 : decode cL_blocks 29 = .ok (.istore 7, 2) := by decide +kernel
theorem dL_blocks_31 : decode cL_blocks 31 = .ok (.sipush (-1000), 3) := by decide +kernel
theorem dL_blocks_34 : decode cL_blocks 34 = .ok (.istore 8, 2) := by decide +kernel
theorem dL_blocks_36 : decode cL_blocks 36 = .ok (.aload_n 0, 1) := by decide +kernel
theorem dL_blocks_37 : decode cL_blocks 37 = .ok (.iload 6, 2) := by decide +kernel
theorem dL_blocks_39 : decode cL_blocks 39 = .ok (.iconst 3, 1) := by decide +kernel
theorem dL_blocks_40 : decode cL_blocks 40 = .ok (.invokevirtual 68, 3) := by decide +kernel
theorem dL_blocks_43 : decode cL_blocks 43 = .ok (.istore 9, 2) := by decide +kernel
theorem dL_blocks_45 : decode cL_blocks 45 = .ok (.aload_n 0, 1) := by decide +kernel
theorem dL_blocks_46 : decode cL_blocks 46 = .ok (.iload 6, 2) := by decide +kernel
theorem dL_blocks_48 : decode cL_blocks 48 = .ok (.iconst 0, 1) := by decide +kernel
theorem dL_blocks_49 : decode cL_blocks 49 = .ok (.invokevirtual 68, 3) := by decide +kernel
theorem dL_blocks_52 : decode cL_blocks 52 = .ok (.iload 5, 2) := by decide +kernel
theorem dL_blocks_54 : decode cL_blocks 54 = .ok (.if_icmp .ne 26, 3) := by decide +kernel
theorem dL_blocks_57 : decode cL_blocks 57 = .ok (.iload 9, 2) := by decide +kernel
theorem dL_blocks_59 : decode cL_blocks 59 = .ok (.iload 6, 2) := by decide +kernel
theorem dL_blocks_61 : decode cL_blocks 61 = .ok (.iconst 1, 1) := by decide +kernel
theorem dL_blocks_62 : decode cL_blocks 62 = .ok (.iadd, 1) := by decide +kernel
theorem dL_blocks_63 : decode cL_blocks 63 = .ok (.iload_n 3, 1) := by decide +kernel
theorem dL_blocks_64 : decode cL_blocks 64 = .ok (.if_icmp .ge 7, 3) := by decide +kernel
theorem dL_blocks_67 : decode cL_blocks 67 = .ok (.iload_n 1, 1) := by decide +kernel
theorem dL_blocks_68 : decode cL_blocks 68 = .ok (.goto 9, 3) := by decide +kernel
theorem dL_blocks_71 : decode cL_blocks 71 = .ok (.iconst 2, 1) := by decide +kernel
theorem dL_blocks_72 : decode cL_blocks 72 = .ok (.iload_n 2, 1) := by decide +kernel
theorem dL_blocks_73 : decode cL_blocks 73 = .ok (.imul, 1) := by decide +kernel
theorem dL_blocks_74 : decode cL_blocks 74 = .ok (.iload 4, 2) := by decide +kernel
theorem dL_blocks_76 : decode cL_blocks 76 = .ok (.isub, 1) := by decide +kernel
theorem dL_blocks_77 : decode cL_blocks 77 = .ok (.if_icmp .eq 5, 3) := by decide +kernel
theorem dL_blocks_80 : decode cL_blocks 80 = .ok (.iconst 0, 1) := by decide +kernel
theorem dL_blocks_81 : decode cL_blocks 81 = .ok (.ireturn, 1) := by decide +kernel
theorem dL_blocks_82 : decode cL_blocks 82 = .ok (.iconst 0, 1) := by decide +kernel
theorem dL_blocks_83 : decode cL_blocks 83 = .ok (.istore 10, 2) := by decide +kernel
theorem dL_blocks_85 : decode cL_blocks 85 = .ok (.iload 10, 2) := by decide +kernel
theorem dL_blocks_87 : decode cL_blocks 87 = .ok (.iload 9, 2) := by decide +kernel
theorem dL_blocks_89 : decode cL_blocks 89 = .ok (.if_icmp .ge 79, 3) := by decide +kernel
theorem dL_blocks_92 : decode cL_blocks 92 = .ok (.iload 5, 2) := by decide +kernel
theorem dL_blocks_94 : decode cL_blocks 94 = .ok (.aload_n 0, 1) := by decide +kernel
theorem dL_blocks_95 : decode cL_blocks 95 = .ok (.iload 4, 2) := by decide +kernel
theorem dL_blocks_97 : decode cL_blocks 97 = .ok (.iconst 0, 1) := by decide +kernel
theorem dL_blocks_98 : decode cL_blocks 98 = .ok (.invokevirtual 25, 3) := by decide +kernel
theorem dL_blocks_101 : decode cL_blocks 101 = .ok (.iconst 1, 1) := by decide +kernel
theorem dL_blocks_102 : decode cL_blocks 102 = .ok (.if_icmp .ne 7, 3) := by decide +kernel
theorem dL_blocks_105 : decode cL_blocks 105 = .ok (.iconst 1, 1) := by decide +kernel
theorem dL_blocks_106 : decode cL_blocks 106 = .ok (.goto 4, 3) := by decide +kernel
theorem dL_blocks_109 : decode cL_blocks 109 = .ok (.iconst (-1), 1) := by decide +kernel
theorem dL_blocks_110 : decode cL_blocks 110 = .ok (.iadd, 1) := by decide +kernel
theorem dL_blocks_111 : decode cL_blocks 111 = .ok (.istore 5, 2) := by decide +kernel
theorem dL_blocks_113 : decode cL_blocks 113 = .ok (.aload_n 0, 1) := by decide +kernel
theorem dL_blocks_114 : decode cL_blocks 114 = .ok (.iload 4, 2) := by decide +kernel
theorem dL_blocks_116 : decode cL_blocks 116 = .ok (.iconst 1, 1) := by decide +kernel
theorem dL_blocks_117 : decode cL_blocks 117 = .ok (.invokevirtual 25, 3) := by decide +kernel
theorem dL_blocks_120 : decode cL_blocks 120 = .ok (.iload 5, 2) := by decide +kernel
theorem dL_blocks_122 : decode cL_blocks 122 = .ok (.if_icmp .eq 5, 3) := by decide +kernel
theorem dL_blocks_125 : decode cL_blocks 125 = .ok (.iconst 0, 1) := by decide +kernel
theorem dL_blocks_126 : decode cL_blocks 126 = .ok (.ireturn, 1) := by decide +kernel
theorem dL_blocks_127 : decode cL_blocks 127 = .ok (.iload 5, 2) := by decide +kernel
theorem dL_blocks_129 : decode cL_blocks 129 = .ok (.iload 7, 2) := by decide +kernel
theorem dL_blocks_131 : decode cL_blocks 131 = .ok (.if_icmp .ge 8, 3) := by decide +kernel
theorem dL_blocks_134 : decode cL_blocks 134 = .ok (.iload 5, 2) := by decide +kernel
theorem dL_blocks_136 : decode cL_blocks 136 = .ok (.goto 5, 3) := by decide +kernel
theorem dL_blocks_139 : decode cL_blocks 139 = .ok (.iload 7, 2) := by decide +kernel
theorem dL_blocks_141 : decode cL_blocks 141 = .ok (.istore 7, 2) := by decide +kernel
theorem dL_blocks_143 : decode cL_blocks 143 = .ok (.iload 5, 2) := by decide +kernel
theorem dL_blocks_145 : decode cL_blocks 145 = .ok (.iload 8, 2) := by decide +kernel
theorem dL_blocks_147 : decode cL_blocks 147 = .ok (.if_icmp .le 8, 3) := by decide +kernel
theorem dL_blocks_150 : decode cL_blocks 150 = .ok (.iload 5, 2) := by decide +kernel
theorem dL_blocks_152 : decode cL_blocks 152 = .ok (.goto 5, 3) := by decide +kernel
theorem dL_blocks_155 : decode cL_blocks 155 = .ok (.iload 8, 2) := by decide +kernel
theorem dL_blocks_157 : decode cL_blocks 157 = .ok (.istore 8, 2) := by decide +kernel
theorem dL_blocks_159 : decode cL_blocks 159 = .ok (.iinc 4 1, 3) := by decide +kernel
theorem dL_blocks_162 : decode cL_blocks 162 = .ok (.iinc 10 1, 3) := by decide +kernel
theorem dL_blocks_165 : decode cL_blocks 165 = .ok (.goto (-80), 3) := by decide +kernel
theorem dL_blocks_168 : decode cL_blocks 168 = .ok (.aload_n 0, 1) := by decide +kernel
theorem dL_blocks_169 : decode cL_blocks 169 = .ok (.iload 6, 2) := by decide +kernel
theorem dL_blocks_171 : decode cL_blocks 171 = .ok (.iconst 1, 1) := by decide +kernel
theorem dL_blocks_172 : decode cL_blocks 172 = .ok (.invokevirtual 68, 3) := by decide +kernel
theorem dL_blocks_175 : decode cL_blocks 175 = .ok (.iload 7, 2) := by decide +kernel
theorem dL_blocks_177 : decode cL_blocks 177 = .ok (.if_icmp .ne 27, 3) := by decide +kernel
theorem dL_blocks_180 : decode cL_blocks 180 = .ok (.aload_n 0, 1) := by decide +kernel
theorem dL_blocks_181 : decode cL_blocks 181 = .ok (.iload 6, 2) := by decide +kernel
theorem dL_blocks_183 : decode cL_blocks 183 = .ok (.iconst 2, 1) := by decide +kernel
theorem dL_blocks_184 : decode cL_blocks 184 = .ok (.invokevirtual 68, 3) := by decide +kernel
theorem dL_blocks_187 : decode cL_blocks 187 = .ok (.iload 8, 2) := by decide +kernel
theorem dL_blocks_189 : decode cL_blocks 189 = .ok (.if_icmp .ne 15, 3) := by decide +kernel
theorem dL_blocks_192 : decode cL_blocks 192 = .ok (.aload_n 0, 1) := by decide +kernel
theorem dL_blocks_193 : decode cL_blocks 193 = .ok (.iload 6, 2) := by decide +kernel
theorem dL_blocks_195 : decode cL_blocks 195 = .ok (.iconst 4, 1) := by decide +kernel
theorem dL_blocks_196 : decode cL_blocks 196 = .ok (.invokevirtual 68, 3) := by decide +kernel
theorem dL_blocks_199 : decode cL_blocks 199 = .ok (.bipush (-2), 2) := by decide +kernel
theorem dL_blocks_201 : decode cL_blocks 201 = .ok (.if_icmp .eq 5, 3) := by decide +kernel
theorem dL_blocks_204 : decode cL_blocks 204 = .ok (.iconst 0, 1) := by decide +kernel
theorem dL_blocks_205 : decode cL_blocks 205 = .ok (.ireturn, 1) := by decide +kernel
theorem dL_blocks_206 : decode cL_blocks 206 = .ok (.iinc 6 1, 3) := by decide +kernel
theorem dL_blocks_209 : decode cL_blocks 209 = .ok (.goto (-189), 3) := by decide +kernel
theorem dL_blocks_212 : decode cL_blocks 212 = .ok (.iconst 1, 1) := by decide +kernel
theorem dL_blocks_213 : decode cL_blocks 213 = .ok (.istore 6, 2) := by decide +kernel
theorem dL_blocks_215 : decode cL_blocks 215 = .ok (.iload_n 2, 1) := by decide +kernel
theorem dL_blocks_216 : decode cL_blocks 216 = .ok (.iload 6, 2) := by decide +kernel
theorem dL_blocks_218 : decode cL_blocks 218 = .ok (.ishr, 1) := by decide +kernel
theorem dL_blocks_219 : decode cL_blocks 219 = .ok (.ifCond .le 9, 3) := by decide +kernel
theorem dL_blocks_222 : decode cL_blocks 222 = .ok (.iinc 6 1, 3) := by decide +kernel
theorem dL_blocks_225 : decode cL_blocks 225 = .ok (.goto (-10), 3) := by decide +kernel
theorem dL_blocks_228 : decode cL_blocks 228 = .ok (.iload 5, 2) := by decide +kernel
theorem dL_blocks_230 : decode cL_blocks 230 = .ok (.ifCond .ne 89, 3) := by decide +kernel
theorem dL_blocks_233 : decode cL_blocks 233 = .ok (.iload 4, 2) := by decide +kernel
theorem dL_blocks_235 : decode cL_blocks 235 = .ok (.iconst 2, 1) := by decide +kernel
theorem dL_blocks_236 : decode cL_blocks 236 = .ok (.iload_n 2, 1) := by decide +kernel
theorem dL_blocks_237 : decode cL_blocks 237 = .ok (.imul, 1) := by decide +kernel
theorem dL_blocks_238 : decode cL_blocks 238 = .ok (.if_icmp .ne 81, 3) := by decide +kernel
theorem dL_blocks_241 : decode cL_blocks 241 = .ok (.aload_n 0, 1) := by decide +kernel
theorem dL_blocks_242 : decode cL_blocks 242 = .ok (.iload_n 3, 1) := by decide +kernel
theorem dL_blocks_243 : decode cL_blocks 243 = .ok (.iconst 0, 1) := by decide +kernel
theorem dL_blocks_244 : decode cL_blocks 244 = .ok (.invokevirtual 68, 3) := by decide +kernel
theorem dL_blocks_247 : decode cL_blocks 247 = .ok (.iconst (-1), 1) := by decide +kernel
theorem dL_blocks_248 : decode cL_blocks 248 = .ok (.if_icmp .ne 71, 3) := by decide +kernel
theorem dL_blocks_251 : decode cL_blocks 251 = .ok (.aload_n 0, 1) := by decide +kernel
theorem dL_blocks_252 : decode cL_blocks 252 = .ok (.iconst 0, 1) := by decide +kernel
theorem dL_blocks_253 : decode cL_blocks 253 = .ok (.invokevirtual 65, 3) := by decide +kernel
theorem dL_blocks_256 : decode cL_blocks 256 = .ok (.iconst 2, 1) := by decide +kernel
theorem dL_blocks_257 : decode cL_blocks 257 = .ok (.iload_n 2, 1) := by decide +kernel
theorem dL_blocks_258 : decode cL_blocks 258 = .ok (.imul, 1) := by decide +kernel
theorem dL_blocks_259 : decode cL_blocks 259 = .ok (.if_icmp .ne 60, 3) := by decide +kernel
theorem dL_blocks_262 : decode cL_blocks 262 = .ok (.aload_n 0, 1) := by decide +kernel
theorem dL_blocks_263 : decode cL_blocks 263 = .ok (.iconst 1, 1) := by decide +kernel
theorem dL_blocks_264 : decode cL_blocks 264 = .ok (.invokevirtual 65, 3) := by decide +kernel
theorem dL_blocks_267 : decode cL_blocks 267 = .ok (.iconst 5, 1) := by decide +kernel
theorem dL_blocks_268 : decode cL_blocks 268 = .ok (.iload_n 2, 1) := by decide +kernel
theorem dL_blocks_269 : decode cL_blocks 269 = .ok (.imul, 1) := by decide +kernel
theorem dL_blocks_270 : decode cL_blocks 270 = .ok (.if_icmp .ne 49, 3) := by decide +kernel
theorem dL_blocks_273 : decode cL_blocks 273 = .ok (.aload_n 0, 1) := by decide +kernel
theorem dL_blocks_274 : decode cL_blocks 274 = .ok (.iconst 2, 1) := by decide +kernel
theorem dL_blocks_275 : decode cL_blocks 275 = .ok (.invokevirtual 65, 3) := by decide +kernel
theorem dL_blocks_278 : decode cL_blocks 278 = .ok (.iconst 3, 1) := by decide +kernel
theorem dL_blocks_279 : decode cL_blocks 279 = .ok (.iload 6, 2) := by decide +kernel
theorem dL_blocks_281 : decode cL_blocks 281 = .ok (.imul, 1) := by decide +kernel
theorem dL_blocks_282 : decode cL_blocks 282 = .ok (.iload_n 3, 1) := by decide +kernel
theorem dL_blocks_283 : decode cL_blocks 283 = .ok (.imul, 1) := by decide +kernel
theorem dL_blocks_284 : decode cL_blocks 284 = .ok (.if_icmp .ne 35, 3) := by decide +kernel
theorem dL_blocks_287 : decode cL_blocks 287 = .ok (.aload_n 0, 1) := by decide +kernel
theorem dL_blocks_288 : decode cL_blocks 288 = .ok (.iconst 3, 1) := by decide +kernel
theorem dL_blocks_289 : decode cL_blocks 289 = .ok (.invokevirtual 65, 3) := by decide +kernel
theorem dL_blocks_292 : decode cL_blocks 292 = .ok (.bipush 7, 2) := by decide +kernel
theorem dL_blocks_294 : decode cL_blocks 294 = .ok (.iload_n 2, 1) := by decide +kernel
theorem dL_blocks_295 : decode cL_blocks 295 = .ok (.imul, 1) := by decide +kernel
theorem dL_blocks_296 : decode cL_blocks 296 = .ok (.aload_n 0, 1) := by decide +kernel
theorem dL_blocks_297 : decode cL_blocks 297 = .ok (.iconst 2, 1) := by decide +kernel
theorem dL_blocks_298 : decode cL_blocks 298 = .ok (.invokevirtual 65, 3) := by decide +kernel
theorem dL_blocks_301 : decode cL_blocks 301 = .ok (.iadd, 1) := by decide +kernel
theorem dL_blocks_302 : decode cL_blocks 302 = .ok (.if_icmp .ne 17, 3) := by decide +kernel
theorem dL_blocks_305 : decode cL_blocks 305 = .ok (.aload_n 0, 1) := by decide +kernel
theorem dL_blocks_306 : decode cL_blocks 306 = .ok (.iconst 5, 1) := by decide +kernel
theorem dL_blocks_307 : decode cL_blocks 307 = .ok (.invokevirtual 65, 3) := by decide +kernel
theorem dL_blocks_310 : decode cL_blocks 310 = .ok (.bipush (-2), 2) := by decide +kernel
theorem dL_blocks_312 : decode cL_blocks 312 = .ok (.if_icmp .ne 7, 3) := by decide +kernel
theorem dL_blocks_315 : decode cL_blocks 315 = .ok (.iconst 1, 1) := by decide +kernel
theorem dL_blocks_316 : decode cL_blocks 316 = .ok (.goto 4, 3) := by decide +kernel
theorem dL_blocks_319 : decode cL_blocks 319 = .ok (.iconst 0, 1) := by decide +kernel
theorem dL_blocks_320 : decode cL_blocks 320 = .ok (.ireturn, 1) := by decide +kernel
set_option maxRecDepth 20000 in
theorem ggL_print_X4_size : GoodIn wsL_print wsX4_size := goodIn_r _ [7, 8, 9, 10, 11, 12, 13, 14, 87, 88, 89, 90, 91, 92, 93, 94, 95] (by decide +kernel) (by decide +kernel)
set_option maxRecDepth 20000 in
theorem gL_print_X4_size : GoodIn wsL_print (wsV RL 9 RX4 yX4_size wsX4_size) := goodIn_app (goodIn_of _ (by decide +kernel)) ggL_print_X4_size
set_option maxRecDepth 20000 in
theorem ggL_print_X4_node : GoodIn wsL_print wsX4_node := goodIn_r _ [18, 8, 19, 20, 21, 12, 22, 14, 23, 24, 25, 26, 27, 28, 29, 6, 30, 31, 32, 33, 34, 35, 36, 37, 38, 39, 40, 41, 42, 43, 44, 45, 46, 47, 48, 49, 50, 51, 52, 53, 54, 55, 56, 57, 58, 59, 60, 61, 62, 63, 64, 65, 66, 67, 68, 69, 70, 71, 72, 73, 74, 75, 76, 77, 78, 79, 80, 81, 82, 83, 84, 85, 86, 87, 88, 89, 90, 91, 92, 93, 94, 95] (by decide +kernel) (by decide +kernel)
set_option maxRecDepth 20000 in
theorem gL_print_X4_node : GoodIn wsL_print (wsV RL 15 RX4 yX4_node wsX4_node) := goodIn_app (goodIn_of _ (by decide +kernel)) ggL_print_X4_node
theorem dL_print_0 : decode cL_print 0 = .ok (.aload_n 0, 1) := by decide +kernel
theorem dL_print_1 : decode cL_print 1 = .ok (.invokevirtual 9, 3) := by decide +kernel
theorem dL_print_4 : decode cL_print 4 = .ok (.i2l, 1) := by decide +kernel
theorem dL_print_5 : decode cL_print 5 = .ok (.lstore_n 1, 1) := by decide +kernel
theorem dL_print_6 : decode cL_print 6 = .ok (.iconst 0, 1) := by decide +kernel
theorem dL_print_7 : decode cL_print 7 = .ok (.istore_n 3, 1) := by decide +kernel
theorem dL_print_8 : decode cL_print 8 = .ok (.iload_n 3, 1) := by decide +kernel
theorem dL_print_9 : decode cL_print 9 = .ok (.aload_n 0, 1) := by decide +kernel
theorem dL_print_10 : decode cL_print 10 = .ok (.invokevirtual 9, 3) := by decide +kernel
theorem dL_print_13 : decode cL_print 13 = .ok (.if_icmp .ge 36, 3) := by decide +kernel
theorem dL_print_16 : decode cL_print 16 = .ok (.ldc2_w 71, 3) := by decide +kernel
theorem dL_print_19 : decode cL_print 19 = .ok (.lload_n 1, 1) := by decide +kernel
theorem dL_print_20 : decode cL_print 20 = .ok (.lmul, 1) := by decide +kernel
theorem dL_print_21 : decode cL_print 21 = .ok (.ldc2_w 73, 3) := by decide +kernel
theorem dL_print_24 : decode cL_print 24 = .ok (.aload_n 0, 1) := by decide +kernel
theorem dL_print_25 : decode cL_print 25 = .ok (.iload_n 3, 1) := by decide +kernel
theorem dL_print_26 : decode cL_print 26 = .ok (.iconst 0, 1) := by decide +kernel
theorem dL_print_27 : decode cL_print 27 = .ok (.invokevirtual 15, 3) := by decide +kernel
theorem dL_print_30 : decode cL_print 30 = .ok (.i2l, 1) := by decide +kernel
theorem dL_print_31 : decode cL_print 31 = .ok (.lmul, 1) := by decide +kernel
theorem dL_print_32 : decode cL_print 32 = .ok (.ladd, 1) := by decide +kernel
theorem dL_print_33 : decode cL_print 33 = .ok (.aload_n 0, 1) := by decide +kernel
theorem dL_print_34 : decode cL_print 34 = .ok (.iload_n 3, 1) := by decide +kernel
theorem dL_print_35 : decode cL_print 35 = .ok (.bipush 10, 2) := by decide +kernel
theorem dL_print_37 : decode cL_print 37 = .ok (.invokevirtual 15, 3) := by decide +kernel
theorem dL_print_40 : decode cL_print 40 = .ok (.i2l, 1) := by decide +kernel
theorem dL_print_41 : decode cL_print 41 = .ok (.ladd, 1) := by decide +kernel
theorem dL_print_42 : decode cL_print 42 = .ok (.lstore_n 1, 1) := by decide +kernel
theorem dL_print_43 : decode cL_print 43 = .ok (.iinc 3 1, 3) := by decide +kernel
theorem dL_print_46 : decode cL_print 46 = .ok (.goto (-38), 3) := by decide +kernel
theorem dL_print_49 : decode cL_print 49 = .ok (.lload_n 1, 1) := by decide +kernel
theorem dL_print_50 : decode cL_print 50 = .ok (.lreturn, 1) := by decide +kernel
set_option maxRecDepth 20000 in
theorem ggL_texts_X4_written : GoodIn wsL_texts wsX4_written := goodIn_r _ [5, 6, 7, 8, 9, 10, 11, 12, 13, 14, 15, 16, 17, 18, 19, 20, 21, 22, 23, 24, 25, 26, 27, 28, 29, 30, 4, 31, 32, 33, 34, 35, 36, 37, 38, 39, 40, 199, 200, 201, 202, 203, 204, 205, 206, 207] (by decide +kernel) (by decide +kernel)
set_option maxRecDepth 20000 in
theorem gL_texts_X4_written : GoodIn wsL_texts (wsV RL 75 RX4 yX4_written wsX4_written) := goodIn_app (goodIn_of _ (by decide +kernel)) ggL_texts_X4_written
set_option maxRecDepth 20000 in
theorem ggL_texts_L_print : GoodIn wsL_texts wsL_print := goodIn_r _ [44, 45, 46, 47, 48, 49, 4, 50, 6, 51, 52, 53, 10, 54, 12, 55, 56, 57, 58, 59, 27, 28, 29, 60, 22, 23, 24, 25, 26, 30, 31, 61, 62, 63, 64, 21, 65, 66, 67, 68, 69, 70, 71, 72, 73, 74, 75, 76, 77, 78, 79, 80, 81, 82, 83, 84, 85, 86, 87, 88, 89, 90, 91, 92, 17, 18, 19, 20, 93, 94, 95, 96, 97, 98, 99, 100, 101, 102, 103, 104, 105, 106, 107, 37, 38, 39, 40, 199, 200, 201, 202, 203, 204, 205, 206, 207] (by decide +kernel) (by decide +kernel)
set_option maxRecDepth 20000 in
theorem gL_texts_L_print : GoodIn wsL_texts (va_wsS RL 78 yL_print wsL_print) := goodIn_app (goodIn_of _ (by decide +kernel)) ggL_texts_L_print
set_option maxRecDepth 20000 in
theorem ggL_texts_X4_size : GoodIn wsL_texts wsX4_size := goodIn_r _ [50, 6, 51, 52, 53, 10, 54, 12, 199, 200, 201, 202, 203, 204, 205, 206, 207] (by decide +kernel) (by decide +kernel)
set_option maxRecDepth 20000 in
theorem gL_texts_X4_size : GoodIn wsL_texts (wsV RL 9 RX4 yX4_size wsX4_size) := goodIn_app (goodIn_of _ (by decide +kernel)) ggL_texts_X4_size
set_option maxRecDepth 20000 in
theorem ggL_texts_X4_clearText : GoodIn wsL_texts wsX4_clearText := goodIn_r _ [111, 112, 113, 114, 115, 116, 117, 118, 199, 200, 201, 202, 208, 209] (by decide +kernel) (by decide +kernel)
set_option maxRecDepth 20000 in
theorem gL_texts_X4_clearText : GoodIn wsL_texts (wsV RL 84 RX4 yX4_clearText wsX4_clearText) := goodIn_app (goodIn_of _ (by decide +kernel)) ggL_texts_X4_clearText
set_option maxRecDepth 20000 in
theorem ggL_texts_X4_type : GoodIn wsL_texts wsX4_type := goodIn_r _ [122, 112, 123, 124, 125, 116, 126, 118, 127, 128, 4, 129, 199, 200, 201, 202, 208, 209] (by decide +kernel) (by decide +kernel)
set_option maxRecDepth 20000 in
theorem gL_texts_X4_type : GoodIn wsL_texts (wsV RL 87 RX4 yX4_type wsX4_type) := goodIn_app (goodIn_of _ (by decide +kernel)) ggL_texts_X4_type
set_option maxRecDepth 20000 in
theorem ggL_texts_X4_read : GoodIn wsL_texts wsX4_read := goodIn_r _ [133, 112, 134, 6, 135, 136, 137, 116, 138, 118, 127, 139, 140, 141, 142, 30, 4, 31, 143, 144, 145, 146, 147, 148, 149, 150, 151, 152, 153, 154, 155, 156, 157, 158, 159, 160, 161, 162, 163, 52, 53, 10, 54, 12, 128, 129, 164, 22, 23, 24, 25, 26, 27, 28, 29, 165, 37, 38, 39, 40, 166, 167, 168, 169, 170, 171, 172, 173, 174, 175, 176, 177, 178, 179, 180, 181, 51, 199, 200, 201, 202, 208, 209, 210, 211, 212, 213, 214, 203, 204, 205, 206, 207] (by decide +kernel) (by decide +kernel)
set_option maxRecDepth 20000 in
theorem gL_texts_X4_read : GoodIn wsL_texts (wsV RL 91 RX4 yX4_read wsX4_read) := goodIn_app (goodIn_of _ (by decide +kernel)) ggL_texts_X4_read
set_option maxRecDepth 20000 in
theorem ggL_texts_X4_undo : GoodIn wsL_texts wsX4_undo := goodIn_r _ [185, 134, 6, 186, 187, 188, 152, 189, 158, 190, 191, 192, 193, 154, 194, 195, 161, 196, 155, 156, 157, 30, 4, 31, 197, 171, 172, 10, 173, 12, 198, 175, 176, 177, 178, 179, 180, 181, 25, 40, 128, 129, 199, 200, 201, 202, 210, 211, 212, 213, 214, 203, 204, 205, 206, 207] (by decide +kernel) (by decide +kernel)
set_option maxRecDepth 20000 in
theorem gL_texts_X4_undo : GoodIn wsL_texts (wsV RL 94 RX4 yX4_undo wsX4_undo) := goodIn_app (goodIn_of _ (by decide +kernel)) ggL_texts_X4_undo
theorem dL_texts_0 : decode cL_texts 0 = .ok (.aload_n 0, 1) := by decide +kernel
theorem dL_texts_1 : decode cL_texts 1 = .ok (.iconst (-1), 1) := by decide +kernel
theorem dL_texts_2 : decode cL_texts 2 = .ok (.invokevirtual 75, 3) := by decide +kernel
theorem dL_texts_5 : decode cL_texts 5 = .ok (.istore_n 2, 1) := by decide +kernel
theorem dL_texts_6 : decode cL_texts 6 = .ok (.aload_n 0, 1) := by decide +kernel
theorem dL_texts_7 : decode cL_texts 7 = .ok (.invokestatic 78, 3) := by decide +kernel
theorem dL_texts_10 : decode cL_texts 10 = .ok (.lstore_n 3, 1) := by decide +kernel
theorem dL_texts_11 : decode cL_texts 11 = .ok (.aload_n 0, 1) := by decide +kernel
theorem dL_texts_12 : decode cL_texts 12 = .ok (.invokevirtual 9, 3) := by decide +kernel
theorem dL_texts_15 : decode cL_texts 15 = .ok (.istore 5, 2) := by decide +kernel
theorem dL_texts_17 : decode cL_texts 17 = .ok (.aload_n 0, 1) := by decide +kernel
theorem dL_texts_18 : decode cL_texts 18 = .ok (.iload_n 2, 1) := by decide +kernel
theorem dL_texts_19 : decode cL_texts 19 = .ok (.invokevirtual 75, 3) := by decide +kernel
theorem dL_texts_22 : decode cL_texts 22 = .ok (.bipush (-5), 2) := by decide +kernel
theorem dL_texts_24 : decode cL_texts 24 = .ok (.if_icmp .ne 14, 3) := by decide +kernel
theorem dL_texts_27 : decode cL_texts 27 = .ok (.aload_n 0, 1) := by decide +kernel
theorem dL_texts_28 : decode cL_texts 28 = .ok (.bipush (-2), 2) := by decide +kernel
theorem dL_texts_30 : decode cL_texts 30 = .ok (.invokevirtual 75, 3) := by decide +kernel
theorem dL_texts_33 : decode cL_texts 33 = .ok (.bipush (-2), 2) := by decide +kernel
theorem dL_texts_35 : decode cL_texts 35 = .ok (.if_icmp .eq 5, 3) := by decide +kernel
theorem dL_texts_38 : decode cL_texts 38 = .ok (.iconst 0, 1) := by decide +kernel
theorem dL_texts_39 : decode cL_texts 39 = .ok (.ireturn, 1) := by decide +kernel
theorem dL_texts_40 : decode cL_texts 40 = .ok (.iload_n 2, 1) := by decide +kernel
theorem dL_texts_41 : decode cL_texts 41 = .ok (.sipush 299, 3) := by decide +kernel
theorem dL_texts_44 : decode cL_texts 44 = .ok (.if_icmp .le 5, 3) := by decide +kernel
theorem dL_texts_47 : decode cL_texts 47 = .ok (.iconst 1, 1) := by decide +kernel
theorem dL_texts_48 : decode cL_texts 48 = .ok (.ireturn, 1) := by decide +kernel
theorem dL_texts_49 : decode cL_texts 49 = .ok (.aload_n 0, 1) := by decide +kernel
theorem dL_texts_50 : decode cL_texts 50 = .ok (.invokevirtual 84, 3) := by decide +kernel
theorem dL_texts_53 : decode cL_texts 53 = .ok (.pop, 1) := by decide +kernel
theorem dL_texts_54 : decode cL_texts 54 = .ok (.iconst 0, 1) := by decide +kernel
theorem dL_texts_55 : decode cL_texts 55 = .ok (.istore 6, 2) := by decide +kernel
theorem dL_texts_57 : decode cL_texts 57 = .ok (.iload 6, 2) := by decide +kernel
theorem dL_texts_59 : decode cL_texts 59 = .ok (.iload_n 2, 1) := by decide +kernel
theorem dL_texts_60 : decode cL_texts 60 = .ok (.if_icmp .ge 21, 3) := by decide +kernel
theorem dL_texts_63 : decode cL_texts 63 = .ok (.aload_n 0, 1) := by decide +kernel
theorem dL_texts_64 : decode cL_texts 64 = .ok (.aload_n 0, 1) := by decide +kernel
theorem dL_texts_65 : decode cL_texts 65 = .ok (.iload 6, 2) := by decide +kernel
theorem dL_texts_67 : decode cL_texts 67 = .ok (.invokevirtual 75, 3) := by decide +kernel
theorem dL_texts_70 : decode cL_texts 70 = .ok (.i2c, 1) := by decide +kernel
theorem dL_texts_71 : decode cL_texts 71 = .ok (.invokevirtual 87, 3) := by decide +kernel
theorem dL_texts_74 : decode cL_texts 74 = .ok (.pop, 1) := by decide +kernel
theorem dL_texts_75 : decode cL_texts 75 = .ok (.iinc 6 1, 3) := by decide +kernel
theorem dL_texts_78 : decode cL_texts 78 = .ok (.goto (-21), 3) := by decide +kernel
theorem dL_texts_81 : decode cL_texts 81 = .ok (.aload_n 0, 1) := by decide +kernel
theorem dL_texts_82 : decode cL_texts 82 = .ok (.invokevirtual 91, 3) := by decide +kernel
theorem dL_texts_85 : decode cL_texts 85 = .ok (.iload 5, 2) := by decide +kernel
theorem dL_texts_87 : decode cL_texts 87 = .ok (.if_icmp .ne 40, 3) := by decide +kernel
theorem dL_texts_90 : decode cL_texts 90 = .ok (.aload_n 0, 1) := by decide +kernel
theorem dL_texts_91 : decode cL_texts 91 = .ok (.invokestatic 78, 3) := by decide +kernel
theorem dL_texts_94 : decode cL_texts 94 = .ok (.lload_n 3, 1) := by decide +kernel
theorem dL_texts_95 : decode cL_texts 95 = .ok (.lcmp, 1) := by decide +kernel
theorem dL_texts_96 : decode cL_texts 96 = .ok (.ifCond .ne 31, 3) := by decide +kernel
theorem dL_texts_99 : decode cL_texts 99 = .ok (.aload_n 0, 1) := by decide +kernel
theorem dL_texts_100 : decode cL_texts 100 = .ok (.invokevirtual 94, 3) := by decide +kernel
theorem dL_texts_103 : decode cL_texts 103 = .ok (.iload_n 1, 1) := by decide +kernel
theorem dL_texts_104 : decode cL_texts 104 = .ok (.bipush 15, 2) := by decide +kernel
theorem dL_texts_106 : decode cL_texts 106 = .ok (.if_icmp .ge 7, 3) := by decide +kernel
theorem dL_texts_109 : decode cL_texts 109 = .ok (.iload_n 1, 1) := by decide +kernel
theorem dL_texts_110 : decode cL_texts 110 = .ok (.goto 5, 3) := by decide +kernel
theorem dL_texts_113 : decode cL_texts 113 = .ok (.bipush 14, 2) := by decide +kernel
theorem dL_texts_115 : decode cL_texts 115 = .ok (.if_icmp .ne 12, 3) := by decide +kernel
theorem dL_texts_118 : decode cL_texts 118 = .ok (.aload_n 0, 1) := by decide +kernel
theorem dL_texts_119 : decode cL_texts 119 = .ok (.invokestatic 78, 3) := by decide +kernel
theorem dL_texts_122 : decode cL_texts 122 = .ok (.lload_n 3, 1) := by decide +kernel
theorem dL_texts_123 : decode cL_texts 123 = .ok (.lcmp, 1) := by decide +kernel
theorem dL_texts_124 : decode cL_texts 124 = .ok (.ifCond .eq 5, 3) := by decide +kernel
theorem dL_texts_127 : decode cL_texts 127 = .ok (.iconst 0, 1) := by decide +kernel
theorem dL_texts_128 : decode cL_texts 128 = .ok (.ireturn, 1) := by decide +kernel
theorem dL_texts_129 : decode cL_texts 129 = .ok (.aload_n 0, 1) := by decide +kernel
theorem dL_texts_130 : decode cL_texts 130 = .ok (.bipush 98, 2) := by decide +kernel
theorem dL_texts_132 : decode cL_texts 132 = .ok (.invokevirtual 87, 3) := by decide +kernel
theorem dL_texts_135 : decode cL_texts 135 = .ok (.pop, 1) := by decide +kernel
theorem dL_texts_136 : decode cL_texts 136 = .ok (.aload_n 0, 1) := by decide +kernel
theorem dL_texts_137 : decode cL_texts 137 = .ok (.invokevirtual 91, 3) := by decide +kernel
theorem dL_texts_140 : decode cL_texts 140 = .ok (.bipush (-100), 2) := by decide +kernel
theorem dL_texts_142 : decode cL_texts 142 = .ok (.iload_n 2, 1) := by decide +kernel
theorem dL_texts_143 : decode cL_texts 143 = .ok (.isub, 1) := by decide +kernel
theorem dL_texts_144 : decode cL_texts 144 = .ok (.if_icmp .ne 7, 3) := by decide +kernel
theorem dL_texts_147 : decode cL_texts 147 = .ok (.iconst 1, 1) := by decide +kernel
theorem dL_texts_148 : decode cL_texts 148 = .ok (.goto 4, 3) := by decide +kernel
theorem dL_texts_151 : decode cL_texts 151 = .ok (.iconst 0, 1) := by decide +kernel
theorem dL_texts_152 : decode cL_texts 152 = .ok (.istore 6, 2) := by decide +kernel
theorem dL_texts_154 : decode cL_texts 154 = .ok (.aload_n 0, 1) := by decide +kernel
theorem dL_texts_155 : decode cL_texts 155 = .ok (.invokevirtual 84, 3) := by decide +kernel
theorem dL_texts_158 : decode cL_texts 158 = .ok (.pop, 1) := by decide +kernel
theorem dL_texts_159 : decode cL_texts 159 = .ok (.aload_n 0, 1) := by decide +kernel
theorem dL_texts_160 : decode cL_texts 160 = .ok (.invokevirtual 91, 3) := by decide +kernel
theorem dL_texts_163 : decode cL_texts 163 = .ok (.bipush (-100), 2) := by decide +kernel
theorem dL_texts_165 : decode cL_texts 165 = .ok (.if_icmp .ne 7, 3) := by decide +kernel
theorem dL_texts_168 : decode cL_texts 168 = .ok (.iconst 1, 1) := by decide +kernel
theorem dL_texts_169 : decode cL_texts 169 = .ok (.goto 4, 3) := by decide +kernel
theorem dL_texts_172 : decode cL_texts 172 = .ok (.iconst 0, 1) := by decide +kernel
theorem dL_texts_173 : decode cL_texts 173 = .ok (.istore 7, 2) := by decide +kernel
theorem dL_texts_175 : decode cL_texts 175 = .ok (.aload_n 0, 1) := by decide +kernel
theorem dL_texts_176 : decode cL_texts 176 = .ok (.bipush 113, 2) := by decide +kernel
theorem dL_texts_178 : decode cL_texts 178 = .ok (.invokevirtual 87, 3) := by decide +kernel
theorem dL_texts_181 : decode cL_texts 181 = .ok (.pop, 1) := by decide +kernel
theorem dL_texts_182 : decode cL_texts 182 = .ok (.aload_n 0, 1) := by decide +kernel
theorem dL_texts_183 : decode cL_texts 183 = .ok (.bipush 40, 2) := by decide +kernel
theorem dL_texts_185 : decode cL_texts 185 = .ok (.invokevirtual 87, 3) := by decide +kernel
theorem dL_texts_188 : decode cL_texts 188 = .ok (.pop, 1) := by decide +kernel
theorem dL_texts_189 : decode cL_texts 189 = .ok (.aload_n 0, 1) := by decide +kernel
theorem dL_texts_190 : decode cL_texts 190 = .ok (.invokevirtual 91, 3) := by decide +kernel
theorem dL_texts_193 : decode cL_texts 193 = .ok (.bipush (-102), 2) := by decide +kernel
theorem dL_texts_195 : decode cL_texts 195 = .ok (.if_icmp .ne 7, 3) := by decide +kernel
theorem dL_texts_198 : decode cL_texts 198 = .ok (.iconst 1, 1) := by decide +kernel
theorem dL_texts_199 : decode cL_texts 199 = .ok (.goto 4, 3) := by decide +kernel
theorem dL_texts_202 : decode cL_texts 202 = .ok (.iconst 0, 1) := by decide +kernel
theorem dL_texts_203 : decode cL_texts 203 = .ok (.istore 8, 2) := by decide +kernel
theorem dL_texts_205 : decode cL_texts 205 = .ok (.aload_n 0, 1) := by decide +kernel
theorem dL_texts_206 : decode cL_texts 206 = .ok (.bipush 41, 2) := by decide +kernel
theorem dL_texts_208 : decode cL_texts 208 = .ok (.invokevirtual 87, 3) := by decide +kernel
theorem dL_texts_211 : decode cL_texts 211 = .ok (.pop, 1) := by decide +kernel
theorem dL_texts_212 : decode cL_texts 212 = .ok (.iload 6, 2) := by decide +kernel
theorem dL_texts_214 : decode cL_texts 214 = .ok (.ifCond .eq 35, 3) := by decide +kernel
theorem dL_texts_217 : decode cL_texts 217 = .ok (.iload 7, 2) := by decide +kernel
theorem dL_texts_219 : decode cL_texts 219 = .ok (.ifCond .eq 30, 3) := by decide +kernel
theorem dL_texts_222 : decode cL_texts 222 = .ok (.iload 8, 2) := by decide +kernel
theorem dL_texts_224 : decode cL_texts 224 = .ok (.ifCond .eq 25, 3) := by decide +kernel
theorem dL_texts_227 : decode cL_texts 227 = .ok (.aload_n 0, 1) := by decide +kernel
theorem dL_texts_228 : decode cL_texts 228 = .ok (.invokevirtual 91, 3) := by decide +kernel
theorem dL_texts_231 : decode cL_texts 231 = .ok (.bipush (-102), 2) := by decide +kernel
theorem dL_texts_233 : decode cL_texts 233 = .ok (.if_icmp .ne 16, 3) := by decide +kernel
theorem dL_texts_236 : decode cL_texts 236 = .ok (.aload_n 0, 1) := by decide +kernel
theorem dL_texts_237 : decode cL_texts 237 = .ok (.invokestatic 78, 3) := by decide +kernel
theorem dL_texts_240 : decode cL_texts 240 = .ok (.lload_n 3, 1) := by decide +kernel
theorem dL_texts_241 : decode cL_texts 241 = .ok (.lcmp, 1) := by decide +kernel
theorem dL_texts_242 : decode cL_texts 242 = .ok (.ifCond .ne 7, 3) := by decide +kernel
theorem dL_texts_245 : decode cL_texts 245 = .ok (.iconst 1, 1) := by decide +kernel
theorem dL_texts_246 : decode cL_texts 246 = .ok (.goto 4, 3) := by decide +kernel
theorem dL_texts_249 : decode cL_texts 249 = .ok (.iconst 0, 1) := by decide +kernel
theorem dL_texts_250 : decode cL_texts 250 = .ok (.ireturn, 1) := by decide +kernel
end
section
set_option maxRecDepth 20000 in
theorem ggL_edits_X4_size : GoodIn wsL_edits wsX4_size := goodIn_r _ [5, 6, 7, 8, 9, 10, 11, 12, 214, 215, 216, 217, 218, 219, 220, 221, 222] (by decide +kernel) (by decide +kernel)
set_option maxRecDepth 20000 in
theorem gL_edits_X4_size : GoodIn wsL_edits (wsV RL 9 RX4 yX4_size wsX4_size) := goodIn_app (goodIn_of _ (by decide +kernel)) ggL_edits_X4_size
set_option maxRecDepth 20000 in
theorem ggL_edits_L_low : GoodIn wsL_edits wsL_low := goodIn_r _ [16, 17] (by decide +kernel) (by decide +kernel)
set_option maxRecDepth 20000 in
theorem gL_edits_L_low : GoodIn wsL_edits (va_wsS RL 97 yL_low wsL_low) := goodIn_app (goodIn_of _ (by decide +kernel)) ggL_edits_L_low
set_option maxRecDepth 20000 in
theorem ggL_edits_X4_node : GoodIn wsL_edits wsX4_node := goodIn_r _ [21, 6, 22, 23, 24, 10, 25, 12, 26, 27, 28, 29, 30, 31, 32, 4, 33, 34, 35, 36, 37, 38, 39, 40, 41, 42, 43, 44, 45, 46, 47, 48, 49, 50, 51, 52, 53, 54, 55, 56, 57, 58, 59, 60, 61, 62, 63, 64, 65, 66, 67, 68, 69, 70, 71, 72, 73, 74, 75, 76, 77, 78, 79, 80, 81, 82, 83, 84, 85, 86, 87, 88, 89, 214, 215, 216, 217, 218, 219, 220, 221, 222] (by decide +kernel) (by decide +kernel)
set_option maxRecDepth 20000 in
theorem gL_edits_X4_node : GoodIn wsL_edits (wsV RL 15 RX4 yX4_node wsX4_node) := goodIn_app (goodIn_of _ (by decide +kernel)) ggL_edits_X4_node
set_option maxRecDepth 20000 in
theorem ggL_edits_L_print : GoodIn wsL_edits wsL_print := goodIn_r _ [92, 93, 94, 1, 2, 3, 4, 5, 6, 7, 8, 9, 10, 11, 12, 18, 19, 20, 21, 22, 23, 24, 25, 26, 27, 28, 29, 30, 31, 32, 33, 34, 35, 36, 37, 38, 39, 40, 41, 42, 43, 44, 45, 46, 47, 48, 49, 50, 51, 52, 53, 54, 55, 56, 57, 58, 59, 60, 61, 62, 63, 64, 65, 66, 67, 68, 69, 70, 71, 72, 73, 74, 75, 76, 77, 78, 79, 80, 81, 82, 83, 84, 85, 86, 87, 88, 89, 214, 215, 216, 217, 218, 219, 220, 221, 222] (by decide +kernel) (by decide +kernel)
set_option maxRecDepth 20000 in
theorem gL_edits_L_print : GoodIn wsL_edits (va_wsS RL 78 yL_print wsL_print) := goodIn_app (goodIn_of _ (by decide +kernel)) ggL_edits_L_print
set_option maxRecDepth 20000 in
theorem ggL_edits_X4_insert : GoodIn wsL_edits wsX4_insert := goodIn_r _ [98, 99, 100, 101, 4, 102, 6, 103, 22, 23, 24, 10, 25, 12, 43, 44, 45, 46, 47, 48, 49, 50, 38, 27, 28, 29, 30, 31, 32, 33, 104, 105, 106, 7, 8, 9, 11, 107, 108, 109, 110, 111, 112, 113, 114, 115, 116, 117, 118, 119, 120, 121, 122, 123, 124, 125, 86, 87, 88, 89, 126, 127, 128, 129, 130, 131, 132, 133, 134, 135, 136, 137, 138, 139, 140, 141, 142, 143, 144, 145, 146, 147, 214, 215, 216, 217, 218, 219, 220, 221, 222, 223, 224, 225, 226, 227] (by decide +kernel) (by decide +kernel)
set_option maxRecDepth 20000 in
theorem gL_edits_X4_insert : GoodIn wsL_edits (wsV RL 100 RX4 yX4_insert wsX4_insert) := goodIn_app (goodIn_of _ (by decide +kernel)) ggL_edits_X4_insert
set_option maxRecDepth 20000 in
theorem ggL_edits_X4_wrap : GoodIn wsL_edits wsX4_wrap := goodIn_r _ [102, 6, 103, 22, 23, 24, 10, 25, 12, 43, 44, 45, 46, 47, 48, 49, 50, 38, 27, 28, 29, 30, 31, 32, 4, 33, 104, 105, 106, 7, 8, 9, 11, 107, 108, 109, 110, 111, 112, 113, 114, 115, 116, 117, 118, 119, 120, 121, 122, 123, 124, 125, 86, 87, 88, 89, 126, 127, 128, 129, 130, 131, 132, 133, 134, 135, 136, 137, 138, 139, 140, 141, 142, 143, 144, 145, 146, 147, 214, 215, 216, 217, 218, 219, 220, 221, 222, 223, 224, 225, 226, 227] (by decide +kernel) (by decide +kernel)
set_option maxRecDepth 20000 in
theorem gL_edits_X4_wrap : GoodIn wsL_edits (wsV RL 104 RX4 yX4_wrap wsX4_wrap) := goodIn_app (goodIn_of _ (by decide +kernel)) ggL_edits_X4_wrap
set_option maxRecDepth 20000 in
theorem ggL_edits_X4_remove : GoodIn wsL_edits wsX4_remove := goodIn_r _ [152, 6, 103, 22, 23, 24, 10, 25, 12, 107, 108, 109, 110, 111, 112, 113, 114, 115, 116, 117, 118, 119, 120, 121, 8, 9, 11, 122, 4, 123, 124, 27, 28, 29, 30, 31, 32, 33, 125, 86, 87, 88, 89, 153, 154, 155, 156, 47, 48, 49, 50, 38, 134, 135, 136, 137, 138, 139, 140, 141, 142, 157, 158, 159, 160, 161, 162, 163, 7, 214, 215, 216, 217, 218, 219, 220, 221, 222, 223, 224, 225, 226, 227] (by decide +kernel) (by decide +kernel)
set_option maxRecDepth 20000 in
theorem gL_edits_X4_remove : GoodIn wsL_edits (wsV RL 108 RX4 yX4_remove wsX4_remove) := goodIn_app (goodIn_of _ (by decide +kernel)) ggL_edits_X4_remove
set_option maxRecDepth 20000 in
theorem ggL_edits_X4_cut : GoodIn wsL_edits wsX4_cut := goodIn_r _ [167, 6, 103, 22, 23, 24, 10, 25, 12, 107, 108, 109, 110, 111, 112, 113, 114, 115, 116, 117, 118, 119, 120, 121, 8, 9, 11, 122, 4, 123, 124, 27, 28, 29, 30, 31, 32, 33, 125, 86, 87, 88, 89, 51, 52, 53, 54, 47, 48, 49, 50, 38, 168, 158, 159, 160, 161, 162, 163, 138, 139, 140, 141, 142, 7, 214, 215, 216, 217, 218, 219, 220, 221, 222, 223, 224, 225, 226, 227] (by decide +kernel) (by decide +kernel)
set_option maxRecDepth 20000 in
theorem gL_edits_X4_cut : GoodIn wsL_edits (wsV RL 111 RX4 yX4_cut wsX4_cut) := goodIn_app (goodIn_of _ (by decide +kernel)) ggL_edits_X4_cut
set_option maxRecDepth 20000 in
theorem ggL_edits_X4_move : GoodIn wsL_edits wsX4_move := goodIn_r _ [172, 6, 103, 22, 23, 24, 10, 25, 12, 173, 48, 49, 50, 38, 27, 28, 29, 30, 31, 32, 4, 33, 43, 44, 45, 46, 47, 34, 35, 36, 37, 39, 40, 41, 42, 107, 108, 109, 110, 111, 112, 113, 114, 115, 116, 117, 118, 119, 120, 121, 8, 9, 11, 122, 123, 124, 125, 86, 87, 88, 89, 174, 175, 176, 177, 80, 52, 53, 54, 178, 179, 180, 181, 182, 183, 138, 157, 158, 159, 160, 161, 162, 163, 139, 140, 141, 142, 130, 131, 132, 133, 143, 144, 145, 146, 147, 184, 185, 186, 187, 214, 215, 216, 217, 218, 219, 220, 221, 222, 223, 224, 225, 226, 227] (by decide +kernel) (by decide +kernel)
set_option maxRecDepth 20000 in
theorem gL_edits_X4_move : GoodIn wsL_edits (wsV RL 114 RX4 yX4_move wsX4_move) := goodIn_app (goodIn_of _ (by decide +kernel)) ggL_edits_X4_move
set_option maxRecDepth 20000 in
theorem ggL_edits_X4_setLabel : GoodIn wsL_edits wsX4_setLabel := goodIn_r _ [191, 6, 103, 22, 23, 24, 10, 25, 12, 104, 105, 4, 106, 85, 86, 87, 88, 89, 32, 33, 107, 108, 109, 110, 111, 112, 113, 114, 115, 116, 117, 118, 119, 120, 121, 8, 9, 11, 122, 123, 124, 27, 28, 29, 30, 31, 125, 26, 192, 140, 141, 142, 214, 215, 216, 217, 218, 219, 220, 221, 222, 223, 224, 225, 226, 227] (by decide +kernel) (by decide +kernel)
set_option maxRecDepth 20000 in
theorem gL_edits_X4_setLabel : GoodIn wsL_edits (wsV RL 117 RX4 yX4_setLabel wsX4_setLabel) := goodIn_app (goodIn_of _ (by decide +kernel)) ggL_edits_X4_setLabel
set_option maxRecDepth 20000 in
theorem ggL_edits_X4_undo : GoodIn wsL_edits wsX4_undo := goodIn_r _ [196, 103, 6, 197, 198, 199, 110, 200, 116, 201, 202, 203, 204, 112, 205, 162, 119, 163, 113, 114, 115, 32, 4, 33, 206, 207, 208, 10, 209, 12, 210, 211, 212, 213, 139, 140, 141, 142, 30, 89, 122, 123, 214, 215, 216, 217, 223, 224, 225, 226, 227, 218, 219, 220, 221, 222] (by decide +kernel) (by decide +kernel)
set_option maxRecDepth 20000 in
theorem gL_edits_X4_undo : GoodIn wsL_edits (wsV RL 94 RX4 yX4_undo wsX4_undo) := goodIn_app (goodIn_of _ (by decide +kernel)) ggL_edits_X4_undo
theorem dL_edits_0 : decode cL_edits 0 = .ok (.aload_n 0, 1) := by decide +kernel
theorem dL_edits_1 : decode cL_edits 1 = .ok (.invokevirtual 9, 3) := by decide +kernel
theorem dL_edits_4 : decode cL_edits 4 = .ok (.istore 5, 2) := by decide +kernel
theorem dL_edits_6 : decode cL_edits 6 = .ok (.iload_n 2, 1) := by decide +kernel
theorem dL_edits_7 : decode cL_edits 7 = .ok (.iconst 4, 1) := by decide +kernel
theorem dL_edits_8 : decode cL_edits 8 = .ok (.ishr, 1) := by decide +kernel
theorem dL_edits_9 : decode cL_edits 9 = .ok (.iload 5, 2) := by decide +kernel
theorem dL_edits_11 : decode cL_edits 11 = .ok (.invokestatic 97, 3) := by decide +kernel
theorem dL_edits_14 : decode cL_edits 14 = .ok (.istore 6, 2) := by decide +kernel
theorem dL_edits_16 : decode cL_edits 16 = .ok (.iload_n 2, 1) := by decide +kernel
theorem dL_edits_17 : decode cL_edits 17 = .ok (.bipush 11, 2) := by decide +kernel
theorem dL_edits_19 : decode cL_edits 19 = .ok (.ishr, 1) := by decide +kernel
theorem dL_edits_20 : decode cL_edits 20 = .ok (.iload 5, 2) := by decide +kernel
theorem dL_edits_22 : decode cL_edits 22 = .ok (.invokestatic 97, 3) := by decide +kernel
theorem dL_edits_25 : decode cL_edits 25 = .ok (.istore 7, 2) := by decide +kernel
theorem dL_edits_27 : decode cL_edits 27 = .ok (.bipush 97, 2) := by decide +kernel
theorem dL_edits_29 : decode cL_edits 29 = .ok (.iload_n 3, 1) := by decide +kernel
theorem dL_edits_30 : decode cL_edits 30 = .ok (.iconst 5, 1) := by decide +kernel
theorem dL_edits_31 : decode cL_edits 31 = .ok (.invokestatic 97, 3) := by decide +kernel
theorem dL_edits_34 : decode cL_edits 34 = .ok (.iadd, 1) := by decide +kernel
theorem dL_edits_35 : decode cL_edits 35 = .ok (.i2c, 1) := by decide +kernel
theorem dL_edits_36 : decode cL_edits 36 = .ok (.istore 8, 2) := by decide +kernel
theorem dL_edits_38 : decode cL_edits 38 = .ok (.aload_n 0, 1) := by decide +kernel
theorem dL_edits_39 : decode cL_edits 39 = .ok (.iload 6, 2) := by decide +kernel
theorem dL_edits_41 : decode cL_edits 41 = .ok (.iconst 2, 1) := by decide +kernel
theorem dL_edits_42 : decode cL_edits 42 = .ok (.invokevirtual 15, 3) := by decide +kernel
theorem dL_edits_45 : decode cL_edits 45 = .ok (.istore 9, 2) := by decide +kernel
theorem dL_edits_47 : decode cL_edits 47 = .ok (.aload_n 0, 1) := by decide +kernel
theorem dL_edits_48 : decode cL_edits 48 = .ok (.invokestatic 78, 3) := by decide +kernel
theorem dL_edits_51 : decode cL_edits 51 = .ok (.lstore 10, 2) := by decide +kernel
theorem dL_edits_53 : decode cL_edits 53 = .ok (.iload_n 1, 1) := by decide +kernel
theorem dL_edits_54 : decode cL_edits 54 = .ok (.iconst 2, 1) := by decide +kernel
theorem dL_edits_55 : decode cL_edits 55 = .ok (.if_icmp .ge 135, 3) := by decide +kernel
theorem dL_edits_58 : decode cL_edits 58 = .ok (.iload_n 3, 1) := by decide +kernel
theorem dL_edits_59 : decode cL_edits 59 = .ok (.iconst 4, 1) := by decide +kernel
theorem dL_edits_60 : decode cL_edits 60 = .ok (.ishr, 1) := by decide +kernel
theorem dL_edits_61 : decode cL_edits 61 = .ok (.iload 9, 2) := by decide +kernel
theorem dL_edits_63 : decode cL_edits 63 = .ok (.iconst 1, 1) := by decide +kernel
theorem dL_edits_64 : decode cL_edits 64 = .ok (.iadd, 1) := by decide +kernel
theorem dL_edits_65 : decode cL_edits 65 = .ok (.invokestatic 97, 3) := by decide +kernel
theorem dL_edits_68 : decode cL_edits 68 = .ok (.istore 13, 2) := by decide +kernel
theorem dL_edits_70 : decode cL_edits 70 = .ok (.aload_n 0, 1) := by decide +kernel
theorem dL_edits_71 : decode cL_edits 71 = .ok (.iload 6, 2) := by decide +kernel
theorem dL_edits_73 : decode cL_edits 73 = .ok (.iload 13, 2) := by decide +kernel
theorem dL_edits_75 : decode cL_edits 75 = .ok (.iload 8, 2) := by decide +kernel
theorem dL_edits_77 : decode cL_edits 77 = .ok (.invokevirtual 100, 3) := by decide +kernel
theorem dL_edits_80 : decode cL_edits 80 = .ok (.istore 12, 2) := by decide +kernel
theorem dL_edits_82 : decode cL_edits 82 = .ok (.iload 5, 2) := by decide +kernel
theorem dL_edits_84 : decode cL_edits 84 = .ok (.bipush 100, 2) := by decide +kernel
theorem dL_edits_86 : decode cL_edits 86 = .ok (.if_icmp .ne 13, 3) := by decide +kernel
theorem dL_edits_89 : decode cL_edits 89 = .ok (.iload 12, 2) := by decide +kernel
theorem dL_edits_91 : decode cL_edits 91 = .ok (.bipush (-4), 2) := by decide +kernel
theorem dL_edits_93 : decode cL_edits 93 = .ok (.if_icmp .eq 94, 3) := by decide +kernel
theorem dL_edits_96 : decode cL_edits 96 = .ok (.goto 89, 3) := by decide +kernel
theorem dL_edits_99 : decode cL_edits 99 = .ok (.aload_n 0, 1) := by decide +kernel
theorem dL_edits_100 : decode cL_edits 100 = .ok (.invokevirtual 9, 3) := by decide +kernel
theorem dL_edits_103 : decode cL_edits 103 = .ok (.iload 5, 2) := by decide +kernel
theorem dL_edits_105 : decode cL_edits 105 = .ok (.iconst 1, 1) := by decide +kernel
theorem dL_edits_106 : decode cL_edits 106 = .ok (.iadd, 1) := by decide +kernel
theorem dL_edits_107 : decode cL_edits 107 = .ok (.if_icmp .ne 78, 3) := by decide +kernel
theorem dL_edits_110 : decode cL_edits 110 = .ok (.aload_n 0, 1) := by decide +kernel
theorem dL_edits_111 : decode cL_edits 111 = .ok (.iload 12, 2) := by decide +kernel
theorem dL_edits_113 : decode cL_edits 113 = .ok (.iconst 1, 1) := by decide +kernel
theorem dL_edits_114 : decode cL_edits 114 = .ok (.invokevirtual 15, 3) := by decide +kernel
theorem dL_edits_117 : decode cL_edits 117 = .ok (.iload 6, 2) := by decide +kernel
theorem dL_edits_119 : decode cL_edits 119 = .ok (.if_icmp .ne 66, 3) := by decide +kernel
theorem dL_edits_122 : decode cL_edits 122 = .ok (.aload_n 0, 1) := by decide +kernel
theorem dL_edits_123 : decode cL_edits 123 = .ok (.iload 12, 2) := by decide +kernel
theorem dL_edits_125 : decode cL_edits 125 = .ok (.iconst 5, 1) := by decide +kernel
theorem dL_edits_126 : decode cL_edits 126 = .ok (.invokevirtual 15, 3) := by decide +kernel
theorem dL_edits_129 : decode cL_edits 129 = .ok (.iload 13, 2) := by decide +kernel
theorem dL_edits_131 : decode cL_edits 131 = .ok (.if_icmp .ne 54, 3) := by decide +kernel
theorem dL_edits_134 : decode cL_edits 134 = .ok (.aload_n 0, 1) := by decide +kernel
theorem dL_edits_135 : decode cL_edits 135 = .ok (.iload 12, 2) := by decide +kernel
theorem dL_edits_137 : decode cL_edits 137 = .ok (.iconst 2, 1) := by decide +kernel
theorem dL_edits_138 : decode cL_edits 138 = .ok (.invokevirtual 15, 3) := by decide +kernel
theorem dL_edits_141 : decode cL_edits 141 = .ok (.ifCond .ne 44, 3) := by decide +kernel
theorem dL_edits_144 : decode cL_edits 144 = .ok (.aload_n 0, 1) := by decide +kernel
theorem dL_edits_145 : decode cL_edits 145 = .ok (.iload 12, 2) := by decide +kernel
theorem dL_edits_147 : decode cL_edits 147 = .ok (.bipush 10, 2) := by decide +kernel
theorem dL_edits_149 : decode cL_edits 149 = .ok (.invokevirtual 15, 3) := by decide +kernel
theorem dL_edits_152 : decode cL_edits 152 = .ok (.iload 8, 2) := by decide +kernel
theorem dL_edits_154 : decode cL_edits 154 = .ok (.if_icmp .ne 31, 3) := by decide +kernel
theorem dL_edits_157 : decode cL_edits 157 = .ok (.aload_n 0, 1) := by decide +kernel
theorem dL_edits_158 : decode cL_edits 158 = .ok (.iload 6, 2) := by decide +kernel
theorem dL_edits_160 : decode cL_edits 160 = .ok (.iconst (-1), 1) := by decide +kernel
theorem dL_edits_161 : decode cL_edits 161 = .ok (.iload 8, 2) := by decide +kernel
theorem dL_edits_163 : decode cL_edits 163 = .ok (.invokevirtual 100, 3) := by decide +kernel
theorem dL_edits_166 : decode cL_edits 166 = .ok (.bipush (-2), 2) := by decide +kernel
theorem dL_edits_168 : decode cL_edits 168 = .ok (.if_icmp .ne 17, 3) := by decide +kernel
theorem dL_edits_171 : decode cL_edits 171 = .ok (.aload_n 0, 1) := by decide +kernel
theorem dL_edits_172 : decode cL_edits 172 = .ok (.iload 6, 2) := by decide +kernel
theorem dL_edits_174 : decode cL_edits 174 = .ok (.iconst 0, 1) := by decide +kernel
theorem dL_edits_175 : decode cL_edits 175 = .ok (.bipush 123, 2) := by decide +kernel
theorem dL_edits_177 : decode cL_edits 177 = .ok (.invokevirtual 100, 3) := by decide +kernel
theorem dL_edits_180 : decode cL_edits 180 = .ok (.bipush (-2), 2) := by decide +kernel
theorem dL_edits_182 : decode cL_edits 182 = .ok (.if_icmp .eq 5, 3) := by decide +kernel
theorem dL_edits_185 : decode cL_edits 185 = .ok (.iconst (-1), 1) := by decide +kernel
theorem dL_edits_186 : decode cL_edits 186 = .ok (.ireturn, 1) := by decide +kernel
theorem dL_edits_187 : decode cL_edits 187 = .ok (.goto 582, 3) := by decide +kernel
theorem dL_edits_190 : decode cL_edits 190 = .ok (.iload_n 1, 1) := by decide +kernel
theorem dL_edits_191 : decode cL_edits 191 = .ok (.iconst 2, 1) := by decide +kernel
theorem dL_edits_192 : decode cL_edits 192 = .ok (.if_icmp .ne 147, 3) := by decide +kernel
theorem dL_edits_195 : decode cL_edits 195 = .ok (.iload_n 3, 1) := by decide +kernel
theorem dL_edits_196 : decode cL_edits 196 = .ok (.iconst 4, 1) := by decide +kernel
theorem dL_edits_197 : decode cL_edits 197 = .ok (.ishr, 1) := by decide +kernel
theorem dL_edits_198 : decode cL_edits 198 = .ok (.iload 9, 2) := by decide +kernel
theorem dL_edits_200 : decode cL_edits 200 = .ok (.iconst 1, 1) := by decide +kernel
theorem dL_edits_201 : decode cL_edits 201 = .ok (.iadd, 1) := by decide +kernel
theorem dL_edits_202 : decode cL_edits 202 = .ok (.invokestatic 97, 3) := by decide +kernel
theorem dL_edits_205 : decode cL_edits 205 = .ok (.istore 13, 2) := by decide +kernel
theorem dL_edits_207 : decode cL_edits 207 = .ok (.iload_n 3, 1) := by decide +kernel
theorem dL_edits_208 : decode cL_edits 208 = .ok (.bipush 9, 2) := by decide +kernel
theorem dL_edits_210 : decode cL_edits 210 = .ok (.ishr, 1) := by decide +kernel
theorem dL_edits_211 : decode cL_edits 211 = .ok (.iload 9, 2) := by decide +kernel
theorem dL_edits_213 : decode cL_edits 213 = .ok (.iload 13, 2) := by decide +kernel
theorem dL_edits_215 : decode cL_edits 215 = .ok (.isub, 1) := by decide +kernel
theorem dL_edits_216 : decode cL_edits 216 = .ok (.iconst 1, 1) := by decide +kernel
theorem dL_edits_217 : decode cL_edits 217 = .ok (.iadd, 1) := by decide +kernel
theorem dL_edits_218 : decode cL_edits 218 = .ok (.invokestatic 97, 3) := by decide +kernel
theorem dL_edits_221 : decode cL_edits 221 = .ok (.istore 14, 2) := by decide +kernel
theorem dL_edits_223 : decode cL_edits 223 = .ok (.aload_n 0, 1) := by decide +kernel
theorem dL_edits_224 : decode cL_edits 224 = .ok (.iload 6, 2) := by decide +kernel
theorem dL_edits_226 : decode cL_edits 226 = .ok (.iload 13, 2) := by decide +kernel
theorem dL_edits_228 : decode cL_edits 228 = .ok (.iload 14, 2) := by decide +kernel
theorem dL_edits_230 : decode cL_edits 230 = .ok (.iload 8, 2) := by decide +kernel
theorem dL_edits_232 : decode cL_edits 232 = .ok (.invokevirtual 104, 3) := by decide +kernel
theorem dL_edits_235 : decode cL_edits 235 = .ok (.istore 12, 2) := by decide +kernel
theorem dL_edits_237 : decode cL_edits 237 = .ok (.iload 5, 2) := by decide +kernel
theorem dL_edits_239 : decode cL_edits 239 = .ok (.bipush 100, 2) := by decide +kernel
theorem dL_edits_241 : decode cL_edits 241 = .ok (.if_icmp .ne 13, 3) := by decide +kernel
theorem dL_edits_244 : decode cL_edits 244 = .ok (.iload 12, 2) := by decide +kernel
theorem dL_edits_246 : decode cL_edits 246 = .ok (.bipush (-4), 2) := by decide +kernel
theorem dL_edits_248 : decode cL_edits 248 = .ok (.if_icmp .eq 88, 3) := by decide +kernel
theorem dL_edits_251 : decode cL_edits 251 = .ok (.goto 83, 3) := by decide +kernel
theorem dL_edits_254 : decode cL_edits 254 = .ok (.aload_n 0, 1) := by decide +kernel
theorem dL_edits_255 : decode cL_edits 255 = .ok (.invokevirtual 9, 3) := by decide +kernel
theorem dL_edits_258 : decode cL_edits 258 = .ok (.iload 5, 2) := by decide +kernel
theorem dL_edits_260 : decode cL_edits 260 = .ok (.iconst 1, 1) := by decide +kernel
theorem dL_edits_261 : decode cL_edits 261 = .ok (.iadd, 1) := by decide +kernel
theorem dL_edits_262 : decode cL_edits 262 = .ok (.if_icmp .ne 72, 3) := by decide +kernel
theorem dL_edits_265 : decode cL_edits 265 = .ok (.aload_n 0, 1) := by decide +kernel
theorem dL_edits_266 : decode cL_edits 266 = .ok (.iload 12, 2) := by decide +kernel
theorem dL_edits_268 : decode cL_edits 268 = .ok (.iconst 1, 1) := by decide +kernel
theorem dL_edits_269 : decode cL_edits 269 = .ok (.invokevirtual 15, 3) := by decide +kernel
theorem dL_edits_272 : decode cL_edits 272 = .ok (.iload 6, 2) := by decide +kernel
theorem dL_edits_274 : decode cL_edits 274 = .ok (.if_icmp .ne 60, 3) := by decide +kernel
theorem dL_edits_277 : decode cL_edits 277 = .ok (.aload_n 0, 1) := by decide +kernel
theorem dL_edits_278 : decode cL_edits 278 = .ok (.iload 12, 2) := by decide +kernel
theorem dL_edits_280 : decode cL_edits 280 = .ok (.iconst 2, 1) := by decide +kernel
theorem dL_edits_281 : decode cL_edits 281 = .ok (.invokevirtual 15, 3) := by decide +kernel
theorem dL_edits_284 : decode cL_edits 284 = .ok (.iload 14, 2) := by decide +kernel
theorem dL_edits_286 : decode cL_edits 286 = .ok (.if_icmp .ne 48, 3) := by decide +kernel
theorem dL_edits_289 : decode cL_edits 289 = .ok (.aload_n 0, 1) := by decide +kernel
theorem dL_edits_290 : decode cL_edits 290 = .ok (.iload 12, 2) := by decide +kernel
theorem dL_edits_292 : decode cL_edits 292 = .ok (.iconst 5, 1) := by decide +kernel
theorem dL_edits_293 : decode cL_edits 293 = .ok (.invokevirtual 15, 3) := by decide +kernel
theorem dL_edits_296 : decode cL_edits 296 = .ok (.iload 13, 2) := by decide +kernel
theorem dL_edits_298 : decode cL_edits 298 = .ok (.if_icmp .ne 36, 3) := by decide +kernel
theorem dL_edits_301 : decode cL_edits 301 = .ok (.aload_n 0, 1) := by decide +kernel
theorem dL_edits_302 : decode cL_edits 302 = .ok (.iload 6, 2) := by decide +kernel
theorem dL_edits_304 : decode cL_edits 304 = .ok (.iconst 2, 1) := by decide +kernel
theorem dL_edits_305 : decode cL_edits 305 = .ok (.invokevirtual 15, 3) := by decide +kernel
theorem dL_edits_308 : decode cL_edits 308 = .ok (.iload 9, 2) := by decide +kernel
theorem dL_edits_310 : decode cL_edits 310 = .ok (.iload 14, 2) := by decide +kernel
theorem dL_edits_312 : decode cL_edits 312 = .ok (.isub, 1) := by decide +kernel
theorem dL_edits_313 : decode cL_edits 313 = .ok (.iconst 1, 1) := by decide +kernel
theorem dL_edits_314 : decode cL_edits 314 = .ok (.iadd, 1) := by decide +kernel
theorem dL_edits_315 : decode cL_edits 315 = .ok (.if_icmp .ne 19, 3) := by decide +kernel
theorem dL_edits_318 : decode cL_edits 318 = .ok (.aload_n 0, 1) := by decide +kernel
theorem dL_edits_319 : decode cL_edits 319 = .ok (.iload 6, 2) := by decide +kernel
theorem dL_edits_321 : decode cL_edits 321 = .ok (.iconst 0, 1) := by decide +kernel
theorem dL_edits_322 : decode cL_edits 322 = .ok (.bipush 101, 2) := by decide +kernel
theorem dL_edits_324 : decode cL_edits 324 = .ok (.iload 8, 2) := by decide +kernel
theorem dL_edits_326 : decode cL_edits 326 = .ok (.invokevirtual 104, 3) := by decide +kernel
theorem dL_edits_329 : decode cL_edits 329 = .ok (.bipush (-2), 2) := by decide +kernel
theorem dL_edits_331 : decode cL_edits 331 = .ok (.if_icmp .eq 5, 3) := by decide +kernel
theorem dL_edits_334 : decode cL_edits 334 = .ok (.iconst (-1), 1) := by decide +kernel
theorem dL_edits_335 : decode cL_edits 335 = .ok (.ireturn, 1) := by decide +kernel
theorem dL_edits_336 : decode cL_edits 336 = .ok (.goto 433, 3) := by decide +kernel
theorem dL_edits_339 : decode cL_edits 339 = .ok (.iload_n 1, 1) := by decide +kernel
theorem dL_edits_340 : decode cL_edits 340 = .ok (.iconst 3, 1) := by decide +kernel
theorem dL_edits_341 : decode cL_edits 341 = .ok (.if_icmp .ne 95, 3) := by decide +kernel
theorem dL_edits_344 : decode cL_edits 344 = .ok (.aload_n 0, 1) := by decide +kernel
theorem dL_edits_345 : decode cL_edits 345 = .ok (.iload 6, 2) := by decide +kernel
theorem dL_edits_347 : decode cL_edits 347 = .ok (.iconst 1, 1) := by decide +kernel
theorem dL_edits_348 : decode cL_edits 348 = .ok (.invokevirtual 15, 3) := by decide +kernel
theorem dL_edits_351 : decode cL_edits 351 = .ok (.istore 13, 2) := by decide +kernel
theorem dL_edits_353 : decode cL_edits 353 = .ok (.iload 6, 2) := by decide +kernel
theorem dL_edits_355 : decode cL_edits 355 = .ok (.ifCond .ne 7, 3) := by decide +kernel
theorem dL_edits_358 : decode cL_edits 358 = .ok (.iconst 0, 1) := by decide +kernel
theorem dL_edits_359 : decode cL_edits 359 = .ok (.goto 10, 3) := by decide +kernel
theorem dL_edits_362 : decode cL_edits 362 = .ok (.aload_n 0, 1) := by decide +kernel
theorem dL_edits_363 : decode cL_edits 363 = .ok (.iload 13, 2) := by decide +kernel
theorem dL_edits_365 : decode cL_edits 365 = .ok (.iconst 2, 1) := by decide +kernel
theorem dL_edits_366 : decode cL_edits 366 = .ok (.invokevirtual 15, 3) := by decide +kernel
theorem dL_edits_369 : decode cL_edits 369 = .ok (.istore 14, 2) := by decide +kernel
theorem dL_edits_371 : decode cL_edits 371 = .ok (.aload_n 0, 1) := by decide +kernel
theorem dL_edits_372 : decode cL_edits 372 = .ok (.iload 6, 2) := by decide +kernel
theorem dL_edits_374 : decode cL_edits 374 = .ok (.invokevirtual 108, 3) := by decide +kernel
theorem dL_edits_377 : decode cL_edits 377 = .ok (.istore 12, 2) := by decide +kernel
theorem dL_edits_379 : decode cL_edits 379 = .ok (.iload 6, 2) := by decide +kernel
theorem dL_edits_381 : decode cL_edits 381 = .ok (.ifCond .ne 13, 3) := by decide +kernel
theorem dL_edits_384 : decode cL_edits 384 = .ok (.iload 12, 2) := by decide +kernel
theorem dL_edits_386 : decode cL_edits 386 = .ok (.bipush (-3), 2) := by decide +kernel
theorem dL_edits_388 : decode cL_edits 388 = .ok (.if_icmp .eq 45, 3) := by decide +kernel
theorem dL_edits_391 : decode cL_edits 391 = .ok (.goto 40, 3) := by decide +kernel
theorem dL_edits_394 : decode cL_edits 394 = .ok (.iload 12, 2) := by decide +kernel
theorem dL_edits_396 : decode cL_edits 396 = .ok (.iload 5, 2) := by decide +kernel
theorem dL_edits_398 : decode cL_edits 398 = .ok (.iconst 1, 1) := by decide +kernel
theorem dL_edits_399 : decode cL_edits 399 = .ok (.isub, 1) := by decide +kernel
theorem dL_edits_400 : decode cL_edits 400 = .ok (.if_icmp .ne 31, 3) := by decide +kernel
theorem dL_edits_403 : decode cL_edits 403 = .ok (.aload_n 0, 1) := by decide +kernel
theorem dL_edits_404 : decode cL_edits 404 = .ok (.invokevirtual 9, 3) := by decide +kernel
theorem dL_edits_407 : decode cL_edits 407 = .ok (.iload 5, 2) := by decide +kernel
theorem dL_edits_409 : decode cL_edits 409 = .ok (.iconst 1, 1) := by decide +kernel
theorem dL_edits_410 : decode cL_edits 410 = .ok (.isub, 1) := by decide +kernel
theorem dL_edits_411 : decode cL_edits 411 = .ok (.if_icmp .ne 20, 3) := by decide +kernel
theorem dL_edits_414 : decode cL_edits 414 = .ok (.aload_n 0, 1) := by decide +kernel
theorem dL_edits_415 : decode cL_edits 415 = .ok (.iload 13, 2) := by decide +kernel
theorem dL_edits_417 : decode cL_edits 417 = .ok (.iconst 2, 1) := by decide +kernel
theorem dL_edits_418 : decode cL_edits 418 = .ok (.invokevirtual 15, 3) := by decide +kernel
theorem dL_edits_421 : decode cL_edits 421 = .ok (.iload 14, 2) := by decide +kernel
theorem dL_edits_423 : decode cL_edits 423 = .ok (.iconst 1, 1) := by decide +kernel
theorem dL_edits_424 : decode cL_edits 424 = .ok (.isub, 1) := by decide +kernel
theorem dL_edits_425 : decode cL_edits 425 = .ok (.iload 9, 2) := by decide +kernel
theorem dL_edits_427 : decode cL_edits 427 = .ok (.iadd, 1) := by decide +kernel
theorem dL_edits_428 : decode cL_edits 428 = .ok (.if_icmp .eq 5, 3) := by decide +kernel
theorem dL_edits_431 : decode cL_edits 431 = .ok (.iconst (-1), 1) := by decide +kernel
theorem dL_edits_432 : decode cL_edits 432 = .ok (.ireturn, 1) := by decide +kernel
theorem dL_edits_433 : decode cL_edits 433 = .ok (.goto 336, 3) := by decide +kernel
theorem dL_edits_436 : decode cL_edits 436 = .ok (.iload_n 1, 1) := by decide +kernel
theorem dL_edits_437 : decode cL_edits 437 = .ok (.iconst 4, 1) := by decide +kernel
theorem dL_edits_438 : decode cL_edits 438 = .ok (.if_icmp .ne 59, 3) := by decide +kernel
theorem dL_edits_441 : decode cL_edits 441 = .ok (.aload_n 0, 1) := by decide +kernel
theorem dL_edits_442 : decode cL_edits 442 = .ok (.iload 6, 2) := by decide +kernel
theorem dL_edits_444 : decode cL_edits 444 = .ok (.iconst 3, 1) := by decide +kernel
theorem dL_edits_445 : decode cL_edits 445 = .ok (.invokevirtual 15, 3) := by decide +kernel
theorem dL_edits_448 : decode cL_edits 448 = .ok (.istore 13, 2) := by decide +kernel
theorem dL_edits_450 : decode cL_edits 450 = .ok (.aload_n 0, 1) := by decide +kernel
theorem dL_edits_451 : decode cL_edits 451 = .ok (.iload 6, 2) := by decide +kernel
theorem dL_edits_453 : decode cL_edits 453 = .ok (.invokevirtual 111, 3) := by decide +kernel
theorem dL_edits_456 : decode cL_edits 456 = .ok (.istore 12, 2) := by decide +kernel
theorem dL_edits_458 : decode cL_edits 458 = .ok (.iload 6, 2) := by decide +kernel
theorem dL_edits_460 : decode cL_edits 460 = .ok (.ifCond .ne 13, 3) := by decide +kernel
theorem dL_edits_463 : decode cL_edits 463 = .ok (.iload 12, 2) := by decide +kernel
theorem dL_edits_465 : decode cL_edits 465 = .ok (.bipush (-3), 2) := by decide +kernel
theorem dL_edits_467 : decode cL_edits 467 = .ok (.if_icmp .eq 27, 3) := by decide +kernel
theorem dL_edits_470 : decode cL_edits 470 = .ok (.goto 22, 3) := by decide +kernel
theorem dL_edits_473 : decode cL_edits 473 = .ok (.iload 12, 2) := by decide +kernel
theorem dL_edits_475 : decode cL_edits 475 = .ok (.iload 5, 2) := by decide +kernel
theorem dL_edits_477 : decode cL_edits 477 = .ok (.iload 13, 2) := by decide +kernel
theorem dL_edits_479 : decode cL_edits 479 = .ok (.isub, 1) := by decide +kernel
theorem dL_edits_480 : decode cL_edits 480 = .ok (.if_icmp .ne 12, 3) := by decide +kernel
theorem dL_edits_483 : decode cL_edits 483 = .ok (.aload_n 0, 1) := by decide +kernel
theorem dL_edits_484 : decode cL_edits 484 = .ok (.invokevirtual 9, 3) := by decide +kernel
theorem dL_edits_487 : decode cL_edits 487 = .ok (.iload 12, 2) := by decide +kernel
theorem dL_edits_489 : decode cL_edits 489 = .ok (.if_icmp .eq 5, 3) := by decide +kernel
theorem dL_edits_492 : decode cL_edits 492 = .ok (.iconst (-1), 1) := by decide +kernel
theorem dL_edits_493 : decode cL_edits 493 = .ok (.ireturn, 1) := by decide +kernel
theorem dL_edits_494 : decode cL_edits 494 = .ok (.goto 275, 3) := by decide +kernel
theorem dL_edits_497 : decode cL_edits 497 = .ok (.iload_n 1, 1) := by decide +kernel
theorem dL_edits_498 : decode cL_edits 498 = .ok (.iconst 5, 1) := by decide +kernel
theorem dL_edits_499 : decode cL_edits 499 = .ok (.if_icmp .ne 207, 3) := by decide +kernel
theorem dL_edits_502 : decode cL_edits 502 = .ok (.iload 7, 2) := by decide +kernel
theorem dL_edits_504 : decode cL_edits 504 = .ok (.iload 6, 2) := by decide +kernel
theorem dL_edits_506 : decode cL_edits 506 = .ok (.if_icmp .lt 22, 3) := by decide +kernel
theorem dL_edits_509 : decode cL_edits 509 = .ok (.iload 7, 2) := by decide +kernel
theorem dL_edits_511 : decode cL_edits 511 = .ok (.iload 6, 2) := by decide +kernel
theorem dL_edits_513 : decode cL_edits 513 = .ok (.aload_n 0, 1) := by decide +kernel
theorem dL_edits_514 : decode cL_edits 514 = .ok (.iload 6, 2) := by decide +kernel
theorem dL_edits_516 : decode cL_edits 516 = .ok (.iconst 3, 1) := by decide +kernel
theorem dL_edits_517 : decode cL_edits 517 = .ok (.invokevirtual 15, 3) := by decide +kernel
theorem dL_edits_520 : decode cL_edits 520 = .ok (.iadd, 1) := by decide +kernel
theorem dL_edits_521 : decode cL_edits 521 = .ok (.if_icmp .ge 7, 3) := by decide +kernel
theorem dL_edits_524 : decode cL_edits 524 = .ok (.iconst 1, 1) := by decide +kernel
theorem dL_edits_525 : decode cL_edits 525 = .ok (.goto 4, 3) := by decide +kernel
theorem dL_edits_528 : decode cL_edits 528 = .ok (.iconst 0, 1) := by decide +kernel
theorem dL_edits_529 : decode cL_edits 529 = .ok (.istore 13, 2) := by decide +kernel
theorem dL_edits_531 : decode cL_edits 531 = .ok (.aload_n 0, 1) := by decide +kernel
theorem dL_edits_532 : decode cL_edits 532 = .ok (.iload 6, 2) := by decide +kernel
theorem dL_edits_534 : decode cL_edits 534 = .ok (.iconst 3, 1) := by decide +kernel
theorem dL_edits_535 : decode cL_edits 535 = .ok (.invokevirtual 15, 3) := by decide +kernel
theorem dL_edits_538 : decode cL_edits 538 = .ok (.istore 14, 2) := by decide +kernel
theorem dL_edits_540 : decode cL_edits 540 = .ok (.aload_n 0, 1) := by decide +kernel
theorem dL_edits_541 : decode cL_edits 541 = .ok (.iload 6, 2) := by decide +kernel
theorem dL_edits_543 : decode cL_edits 543 = .ok (.iconst 4, 1) := by decide +kernel
theorem dL_edits_544 : decode cL_edits 544 = .ok (.invokevirtual 15, 3) := by decide +kernel
theorem dL_edits_547 : decode cL_edits 547 = .ok (.istore 15, 2) := by decide +kernel
theorem dL_edits_549 : decode cL_edits 549 = .ok (.aload_n 0, 1) := by decide +kernel
theorem dL_edits_550 : decode cL_edits 550 = .ok (.iload 7, 2) := by decide +kernel
theorem dL_edits_552 : decode cL_edits 552 = .ok (.iconst 2, 1) := by decide +kernel
theorem dL_edits_553 : decode cL_edits 553 = .ok (.invokevirtual 15, 3) := by decide +kernel
theorem dL_edits_556 : decode cL_edits 556 = .ok (.aload_n 0, 1) := by decide +kernel
theorem dL_edits_557 : decode cL_edits 557 = .ok (.iload 6, 2) := by decide +kernel
theorem dL_edits_559 : decode cL_edits 559 = .ok (.iconst 1, 1) := by decide +kernel
theorem dL_edits_560 : decode cL_edits 560 = .ok (.invokevirtual 15, 3) := by decide +kernel
theorem dL_edits_563 : decode cL_edits 563 = .ok (.iload 7, 2) := by decide +kernel
theorem dL_edits_565 : decode cL_edits 565 = .ok (.if_icmp .ne 7, 3) := by decide +kernel
theorem dL_edits_568 : decode cL_edits 568 = .ok (.iconst 1, 1) := by decide +kernel
theorem dL_edits_569 : decode cL_edits 569 = .ok (.goto 4, 3) := by decide +kernel
theorem dL_edits_572 : decode cL_edits 572 = .ok (.iconst 0, 1) := by decide +kernel
theorem dL_edits_573 : decode cL_edits 573 = .ok (.isub, 1) := by decide +kernel
theorem dL_edits_574 : decode cL_edits 574 = .ok (.istore 16, 2) := by decide +kernel
theorem dL_edits_576 : decode cL_edits 576 = .ok (.iload_n 3, 1) := by decide +kernel
theorem dL_edits_577 : decode cL_edits 577 = .ok (.iload 16, 2) := by decide +kernel
theorem dL_edits_579 : decode cL_edits 579 = .ok (.iconst 1, 1) := by decide +kernel
theorem dL_edits_580 : decode cL_edits 580 = .ok (.iadd, 1) := by decide +kernel
theorem dL_edits_581 : decode cL_edits 581 = .ok (.invokestatic 97, 3) := by decide +kernel
theorem dL_edits_584 : decode cL_edits 584 = .ok (.istore 17, 2) := by decide +kernel
theorem dL_edits_586 : decode cL_edits 586 = .ok (.iload 13, 2) := by decide +kernel
theorem dL_edits_588 : decode cL_edits 588 = .ok (.ifCond .ne 22, 3) := by decide +kernel
theorem dL_edits_591 : decode cL_edits 591 = .ok (.aload_n 0, 1) := by decide +kernel
theorem dL_edits_592 : decode cL_edits 592 = .ok (.iload 6, 2) := by decide +kernel
theorem dL_edits_594 : decode cL_edits 594 = .ok (.iload 7, 2) := by decide +kernel
theorem dL_edits_596 : decode cL_edits 596 = .ok (.iload 16, 2) := by decide +kernel
theorem dL_edits_598 : decode cL_edits 598 = .ok (.iconst 1, 1) := by decide +kernel
theorem dL_edits_599 : decode cL_edits 599 = .ok (.iadd, 1) := by decide +kernel
theorem dL_edits_600 : decode cL_edits 600 = .ok (.invokevirtual 114, 3) := by decide +kernel
theorem dL_edits_603 : decode cL_edits 603 = .ok (.bipush (-2), 2) := by decide +kernel
theorem dL_edits_605 : decode cL_edits 605 = .ok (.if_icmp .eq 5, 3) := by decide +kernel
theorem dL_edits_608 : decode cL_edits 608 = .ok (.iconst (-1), 1) := by decide +kernel
theorem dL_edits_609 : decode cL_edits 609 = .ok (.ireturn, 1) := by decide +kernel
theorem dL_edits_610 : decode cL_edits 610 = .ok (.aload_n 0, 1) := by decide +kernel
theorem dL_edits_611 : decode cL_edits 611 = .ok (.iload 6, 2) := by decide +kernel
theorem dL_edits_613 : decode cL_edits 613 = .ok (.iload 7, 2) := by decide +kernel
theorem dL_edits_615 : decode cL_edits 615 = .ok (.iload 17, 2) := by decide +kernel
theorem dL_edits_617 : decode cL_edits 617 = .ok (.invokevirtual 114, 3) := by decide +kernel
theorem dL_edits_620 : decode cL_edits 620 = .ok (.istore 12, 2) := by decide +kernel
theorem dL_edits_622 : decode cL_edits 622 = .ok (.iload 13, 2) := by decide +kernel
theorem dL_edits_624 : decode cL_edits 624 = .ok (.ifCond .eq 13, 3) := by decide +kernel
theorem dL_edits_627 : decode cL_edits 627 = .ok (.iload 12, 2) := by decide +kernel
theorem dL_edits_629 : decode cL_edits 629 = .ok (.bipush (-3), 2) := by decide +kernel
theorem dL_edits_631 : decode cL_edits 631 = .ok (.if_icmp .eq 72, 3) := by decide +kernel
theorem dL_edits_634 : decode cL_edits 634 = .ok (.goto 67, 3) := by decide +kernel
theorem dL_edits_637 : decode cL_edits 637 = .ok (.aload_n 0, 1) := by decide +kernel
theorem dL_edits_638 : decode cL_edits 638 = .ok (.invokevirtual 9, 3) := by decide +kernel
theorem dL_edits_641 : decode cL_edits 641 = .ok (.iload 5, 2) := by decide +kernel
theorem dL_edits_643 : decode cL_edits 643 = .ok (.if_icmp .ne 58, 3) := by decide +kernel
theorem dL_edits_646 : decode cL_edits 646 = .ok (.aload_n 0, 1) := by decide +kernel
theorem dL_edits_647 : decode cL_edits 647 = .ok (.iload 12, 2) := by decide +kernel
theorem dL_edits_649 : decode cL_edits 649 = .ok (.iconst 3, 1) := by decide +kernel
theorem dL_edits_650 : decode cL_edits 650 = .ok (.invokevirtual 15, 3) := by decide +kernel
theorem dL_edits_653 : decode cL_edits 653 = .ok (.iload 14, 2) := by decide +kernel
theorem dL_edits_655 : decode cL_edits 655 = .ok (.if_icmp .ne 46, 3) := by decide +kernel
theorem dL_edits_658 : decode cL_edits 658 = .ok (.aload_n 0, 1) := by decide +kernel
theorem dL_edits_659 : decode cL_edits 659 = .ok (.iload 12, 2) := by decide +kernel
theorem dL_edits_661 : decode cL_edits 661 = .ok (.iconst 4, 1) := by decide +kernel
theorem dL_edits_662 : decode cL_edits 662 = .ok (.invokevirtual 15, 3) := by decide +kernel
theorem dL_edits_665 : decode cL_edits 665 = .ok (.iload 15, 2) := by decide +kernel
theorem dL_edits_667 : decode cL_edits 667 = .ok (.if_icmp .ne 34, 3) := by decide +kernel
theorem dL_edits_670 : decode cL_edits 670 = .ok (.aload_n 0, 1) := by decide +kernel
theorem dL_edits_671 : decode cL_edits 671 = .ok (.iload 12, 2) := by decide +kernel
theorem dL_edits_673 : decode cL_edits 673 = .ok (.iconst 5, 1) := by decide +kernel
theorem dL_edits_674 : decode cL_edits 674 = .ok (.invokevirtual 15, 3) := by decide +kernel
theorem dL_edits_677 : decode cL_edits 677 = .ok (.iload 17, 2) := by decide +kernel
theorem dL_edits_679 : decode cL_edits 679 = .ok (.if_icmp .ne 22, 3) := by decide +kernel
theorem dL_edits_682 : decode cL_edits 682 = .ok (.aload_n 0, 1) := by decide +kernel
theorem dL_edits_683 : decode cL_edits 683 = .ok (.aload_n 0, 1) := by decide +kernel
theorem dL_edits_684 : decode cL_edits 684 = .ok (.iload 12, 2) := by decide +kernel
theorem dL_edits_686 : decode cL_edits 686 = .ok (.iconst 1, 1) := by decide +kernel
theorem dL_edits_687 : decode cL_edits 687 = .ok (.invokevirtual 15, 3) := by decide +kernel
theorem dL_edits_690 : decode cL_edits 690 = .ok (.iconst 2, 1) := by decide +kernel
theorem dL_edits_691 : decode cL_edits 691 = .ok (.invokevirtual 15, 3) := by decide +kernel
theorem dL_edits_694 : decode cL_edits 694 = .ok (.iload 16, 2) := by decide +kernel
theorem dL_edits_696 : decode cL_edits 696 = .ok (.iconst 1, 1) := by decide +kernel
theorem dL_edits_697 : decode cL_edits 697 = .ok (.iadd, 1) := by decide +kernel
theorem dL_edits_698 : decode cL_edits 698 = .ok (.if_icmp .eq 5, 3) := by decide +kernel
theorem dL_edits_701 : decode cL_edits 701 = .ok (.iconst (-1), 1) := by decide +kernel
theorem dL_edits_702 : decode cL_edits 702 = .ok (.ireturn, 1) := by decide +kernel
theorem dL_edits_703 : decode cL_edits 703 = .ok (.goto 66, 3) := by decide +kernel
theorem dL_edits_706 : decode cL_edits 706 = .ok (.aload_n 0, 1) := by decide +kernel
theorem dL_edits_707 : decode cL_edits 707 = .ok (.iload 6, 2) := by decide +kernel
theorem dL_edits_709 : decode cL_edits 709 = .ok (.bipush 10, 2) := by decide +kernel
theorem dL_edits_711 : decode cL_edits 711 = .ok (.invokevirtual 15, 3) := by decide +kernel
theorem dL_edits_714 : decode cL_edits 714 = .ok (.istore 13, 2) := by decide +kernel
theorem dL_edits_716 : decode cL_edits 716 = .ok (.aload_n 0, 1) := by decide +kernel
theorem dL_edits_717 : decode cL_edits 717 = .ok (.iload 6, 2) := by decide +kernel
theorem dL_edits_719 : decode cL_edits 719 = .ok (.iload 8, 2) := by decide +kernel
theorem dL_edits_721 : decode cL_edits 721 = .ok (.invokevirtual 117, 3) := by decide +kernel
theorem dL_edits_724 : decode cL_edits 724 = .ok (.iload 13, 2) := by decide +kernel
theorem dL_edits_726 : decode cL_edits 726 = .ok (.if_icmp .ne 7, 3) := by decide +kernel
theorem dL_edits_729 : decode cL_edits 729 = .ok (.iconst 0, 1) := by decide +kernel
theorem dL_edits_730 : decode cL_edits 730 = .ok (.goto 4, 3) := by decide +kernel
theorem dL_edits_733 : decode cL_edits 733 = .ok (.iconst (-1), 1) := by decide +kernel
theorem dL_edits_734 : decode cL_edits 734 = .ok (.istore 12, 2) := by decide +kernel
theorem dL_edits_736 : decode cL_edits 736 = .ok (.iload 12, 2) := by decide +kernel
theorem dL_edits_738 : decode cL_edits 738 = .ok (.ifCond .lt 29, 3) := by decide +kernel
theorem dL_edits_741 : decode cL_edits 741 = .ok (.aload_n 0, 1) := by decide +kernel
theorem dL_edits_742 : decode cL_edits 742 = .ok (.iload 6, 2) := by decide +kernel
theorem dL_edits_744 : decode cL_edits 744 = .ok (.bipush 10, 2) := by decide +kernel
theorem dL_edits_746 : decode cL_edits 746 = .ok (.invokevirtual 15, 3) := by decide +kernel
theorem dL_edits_749 : decode cL_edits 749 = .ok (.iload 8, 2) := by decide +kernel
theorem dL_edits_751 : decode cL_edits 751 = .ok (.if_icmp .ne 16, 3) := by decide +kernel
theorem dL_edits_754 : decode cL_edits 754 = .ok (.aload_n 0, 1) := by decide +kernel
theorem dL_edits_755 : decode cL_edits 755 = .ok (.iload 6, 2) := by decide +kernel
theorem dL_edits_757 : decode cL_edits 757 = .ok (.bipush 90, 2) := by decide +kernel
theorem dL_edits_759 : decode cL_edits 759 = .ok (.invokevirtual 117, 3) := by decide +kernel
theorem dL_edits_762 : decode cL_edits 762 = .ok (.bipush (-2), 2) := by decide +kernel
theorem dL_edits_764 : decode cL_edits 764 = .ok (.if_icmp .eq 5, 3) := by decide +kernel
theorem dL_edits_767 : decode cL_edits 767 = .ok (.iconst (-1), 1) := by decide +kernel
theorem dL_edits_768 : decode cL_edits 768 = .ok (.ireturn, 1) := by decide +kernel
theorem dL_edits_769 : decode cL_edits 769 = .ok (.iload 12, 2) := by decide +kernel
theorem dL_edits_771 : decode cL_edits 771 = .ok (.ifCond .ge 20, 3) := by decide +kernel
theorem dL_edits_774 : decode cL_edits 774 = .ok (.aload_n 0, 1) := by decide +kernel
theorem dL_edits_775 : decode cL_edits 775 = .ok (.invokestatic 78, 3) := by decide +kernel
theorem dL_edits_778 : decode cL_edits 778 = .ok (.lload 10, 2) := by decide +kernel
theorem dL_edits_780 : decode cL_edits 780 = .ok (.lcmp, 1) := by decide +kernel
theorem dL_edits_781 : decode cL_edits 781 = .ok (.ifCond .ne 8, 3) := by decide +kernel
theorem dL_edits_784 : decode cL_edits 784 = .ok (.iload 4, 2) := by decide +kernel
theorem dL_edits_786 : decode cL_edits 786 = .ok (.goto 4, 3) := by decide +kernel
theorem dL_edits_789 : decode cL_edits 789 = .ok (.iconst (-1), 1) := by decide +kernel
theorem dL_edits_790 : decode cL_edits 790 = .ok (.ireturn, 1) := by decide +kernel
theorem dL_edits_791 : decode cL_edits 791 = .ok (.iload_n 3, 1) := by decide +kernel
theorem dL_edits_792 : decode cL_edits 792 = .ok (.bipush 20, 2) := by decide +kernel
theorem dL_edits_794 : decode cL_edits 794 = .ok (.ishr, 1) := by decide +kernel
theorem dL_edits_795 : decode cL_edits 795 = .ok (.iconst 3, 1) := by decide +kernel
theorem dL_edits_796 : decode cL_edits 796 = .ok (.iand, 1) := by decide +kernel
theorem dL_edits_797 : decode cL_edits 797 = .ok (.ifCond .ne 45, 3) := by decide +kernel
theorem dL_edits_800 : decode cL_edits 800 = .ok (.aload_n 0, 1) := by decide +kernel
theorem dL_edits_801 : decode cL_edits 801 = .ok (.invokevirtual 94, 3) := by decide +kernel
theorem dL_edits_804 : decode cL_edits 804 = .ok (.istore 13, 2) := by decide +kernel
theorem dL_edits_806 : decode cL_edits 806 = .ok (.iload 13, 2) := by decide +kernel
theorem dL_edits_808 : decode cL_edits 808 = .ok (.iload 4, 2) := by decide +kernel
theorem dL_edits_810 : decode cL_edits 810 = .ok (.bipush 15, 2) := by decide +kernel
theorem dL_edits_812 : decode cL_edits 812 = .ok (.if_icmp .ge 8, 3) := by decide +kernel
theorem dL_edits_815 : decode cL_edits 815 = .ok (.iload 4, 2) := by decide +kernel
theorem dL_edits_817 : decode cL_edits 817 = .ok (.goto 5, 3) := by decide +kernel
theorem dL_edits_820 : decode cL_edits 820 = .ok (.bipush 14, 2) := by decide +kernel
theorem dL_edits_822 : decode cL_edits 822 = .ok (.if_icmp .ne 18, 3) := by decide +kernel
theorem dL_edits_825 : decode cL_edits 825 = .ok (.aload_n 0, 1) := by decide +kernel
theorem dL_edits_826 : decode cL_edits 826 = .ok (.invokestatic 78, 3) := by decide +kernel
theorem dL_edits_829 : decode cL_edits 829 = .ok (.lload 10, 2) := by decide +kernel
theorem dL_edits_831 : decode cL_edits 831 = .ok (.lcmp, 1) := by decide +kernel
theorem dL_edits_832 : decode cL_edits 832 = .ok (.ifCond .ne 8, 3) := by decide +kernel
theorem dL_edits_835 : decode cL_edits 835 = .ok (.iload 13, 2) := by decide +kernel
theorem dL_edits_837 : decode cL_edits 837 = .ok (.goto 4, 3) := by decide +kernel
theorem dL_edits_840 : decode cL_edits 840 = .ok (.iconst (-1), 1) := by decide +kernel
theorem dL_edits_841 : decode cL_edits 841 = .ok (.ireturn, 1) := by decide +kernel
theorem dL_edits_842 : decode cL_edits 842 = .ok (.iload 4, 2) := by decide +kernel
theorem dL_edits_844 : decode cL_edits 844 = .ok (.bipush 15, 2) := by decide +kernel
theorem dL_edits_846 : decode cL_edits 846 = .ok (.if_icmp .ge 10, 3) := by decide +kernel
theorem dL_edits_849 : decode cL_edits 849 = .ok (.iload 4, 2) := by decide +kernel
theorem dL_edits_851 : decode cL_edits 851 = .ok (.iconst 1, 1) := by decide +kernel
theorem dL_edits_852 : decode cL_edits 852 = .ok (.iadd, 1) := by decide +kernel
theorem dL_edits_853 : decode cL_edits 853 = .ok (.goto 5, 3) := by decide +kernel
theorem dL_edits_856 : decode cL_edits 856 = .ok (.bipush 15, 2) := by decide +kernel
theorem dL_edits_858 : decode cL_edits 858 = .ok (.ireturn, 1) := by decide +kernel
end
section
set_option maxRecDepth 20000 in
theorem ggL_errors_X4_size : GoodIn wsL_errors wsX4_size := goodIn_r _ [5, 6, 7, 8, 9, 10, 11, 12, 358, 359, 360, 361, 362, 363, 364, 365, 366] (by decide +kernel) (by decide +kernel)
set_option maxRecDepth 20000 in
theorem gL_errors_X4_size : GoodIn wsL_errors (wsV RL 9 RX4 yX4_size wsX4_size) := goodIn_app (goodIn_of _ (by decide +kernel)) ggL_errors_X4_size
set_option maxRecDepth 20000 in
theorem ggL_errors_X4_node : GoodIn wsL_errors wsX4_node := goodIn_r _ [16, 6, 17, 18, 19, 10, 20, 12, 21, 22, 23, 24, 25, 26, 27, 4, 28, 29, 30, 31, 32, 33, 34, 35, 36, 37, 38, 39, 40, 41, 42, 43, 44, 45, 46, 47, 48, 49, 50, 51, 52, 53, 54, 55, 56, 57, 58, 59, 60, 61, 62, 63, 64, 65, 66, 67, 68, 69, 70, 71, 72, 73, 74, 75, 76, 77, 78, 79, 80, 81, 82, 83, 84, 358, 359, 360, 361, 362, 363, 364, 365, 366] (by decide +kernel) (by decide +kernel)
set_option maxRecDepth 20000 in
theorem gL_errors_X4_node : GoodIn wsL_errors (wsV RL 15 RX4 yX4_node wsX4_node) := goodIn_app (goodIn_of _ (by decide +kernel)) ggL_errors_X4_node
set_option maxRecDepth 20000 in
theorem ggL_errors_X4_child : GoodIn wsL_errors wsX4_child := goodIn_r _ [88, 6, 17, 18, 19, 10, 20, 12, 38, 39, 40, 41, 42, 43, 44, 45, 33, 22, 23, 24, 25, 26, 27, 4, 28, 89, 90, 91, 92, 358, 359, 360, 361, 362, 363, 364, 365, 366] (by decide +kernel) (by decide +kernel)
set_option maxRecDepth 20000 in
theorem gL_errors_X4_child : GoodIn wsL_errors (wsV RL 19 RX4 yX4_child wsX4_child) := goodIn_app (goodIn_of _ (by decide +kernel)) ggL_errors_X4_child
set_option maxRecDepth 20000 in
theorem ggL_errors_X4_neighbour : GoodIn wsL_errors wsX4_neighbour := goodIn_r _ [96, 6, 17, 18, 19, 10, 20, 12, 97, 98, 99, 100, 42, 43, 44, 45, 33, 22, 23, 24, 25, 26, 27, 4, 28, 101, 102, 103, 104, 105, 55, 56, 57, 106, 107, 108, 109, 34, 35, 36, 37, 110, 111, 112, 113, 114, 115, 116, 117, 118, 62, 63, 64, 65, 119, 120, 121, 122, 75, 47, 48, 49, 358, 359, 360, 361, 362, 363, 364, 365, 366] (by decide +kernel) (by decide +kernel)
set_option maxRecDepth 20000 in
theorem gL_errors_X4_neighbour : GoodIn wsL_errors (wsV RL 22 RX4 yX4_neighbour wsX4_neighbour) := goodIn_app (goodIn_of _ (by decide +kernel)) ggL_errors_X4_neighbour
set_option maxRecDepth 20000 in
theorem ggL_errors_X4_ancestorAt : GoodIn wsL_errors wsX4_ancestorAt := goodIn_r _ [126, 6, 17, 18, 19, 10, 20, 12, 21, 22, 23, 24, 25, 26, 27, 4, 28, 127, 35, 36, 37, 33, 358, 359, 360, 361, 362, 363, 364, 365, 366] (by decide +kernel) (by decide +kernel)
set_option maxRecDepth 20000 in
theorem gL_errors_X4_ancestorAt : GoodIn wsL_errors (wsV RL 38 RX4 yX4_ancestorAt wsX4_ancestorAt) := goodIn_app (goodIn_of _ (by decide +kernel)) ggL_errors_X4_ancestorAt
set_option maxRecDepth 20000 in
theorem ggL_errors_X4_common : GoodIn wsL_errors wsX4_common := goodIn_r _ [131, 6, 17, 18, 19, 10, 20, 12, 132, 133, 134, 135, 136, 137, 138, 139, 140, 141, 142, 33, 22, 23, 24, 25, 26, 27, 4, 28, 34, 35, 36, 37, 358, 359, 360, 361, 362, 363, 364, 365, 366] (by decide +kernel) (by decide +kernel)
set_option maxRecDepth 20000 in
theorem gL_errors_X4_common : GoodIn wsL_errors (wsV RL 35 RX4 yX4_common wsX4_common) := goodIn_app (goodIn_of _ (by decide +kernel)) ggL_errors_X4_common
set_option maxRecDepth 20000 in
theorem ggL_errors_X4_way : GoodIn wsL_errors wsX4_way := goodIn_r _ [146, 6, 17, 18, 19, 10, 20, 12, 132, 133, 134, 135, 136, 137, 138, 139, 140, 141, 142, 33, 22, 23, 24, 25, 26, 27, 4, 28, 34, 35, 36, 37, 21, 127, 358, 359, 360, 361, 362, 363, 364, 365, 366] (by decide +kernel) (by decide +kernel)
set_option maxRecDepth 20000 in
theorem gL_errors_X4_way : GoodIn wsL_errors (wsV RL 41 RX4 yX4_way wsX4_way) := goodIn_app (goodIn_of _ (by decide +kernel)) ggL_errors_X4_way
set_option maxRecDepth 20000 in
theorem ggL_errors_X4_byPostorder : GoodIn wsL_errors wsX4_byPostorder := goodIn_r _ [150, 6, 7, 8, 9, 10, 11, 12, 151, 152, 153, 154, 155, 77, 78, 79, 42, 43, 44, 45, 33, 22, 23, 24, 25, 26, 18, 19, 20, 27, 4, 28, 358, 359, 360, 361, 362, 363, 364, 365, 366] (by decide +kernel) (by decide +kernel)
set_option maxRecDepth 20000 in
theorem gL_errors_X4_byPostorder : GoodIn wsL_errors (wsV RL 32 RX4 yX4_byPostorder wsX4_byPostorder) := goodIn_app (goodIn_of _ (by decide +kernel)) ggL_errors_X4_byPostorder
set_option maxRecDepth 20000 in
theorem ggL_errors_X4_deepest : GoodIn wsL_errors wsX4_deepest := goodIn_r _ [159, 6, 17, 18, 19, 10, 20, 12, 50, 51, 52, 53, 42, 43, 44, 45, 33, 22, 23, 24, 25, 26, 27, 4, 28, 358, 359, 360, 361, 362, 363, 364, 365, 366] (by decide +kernel) (by decide +kernel)
set_option maxRecDepth 20000 in
theorem gL_errors_X4_deepest : GoodIn wsL_errors (wsV RL 28 RX4 yX4_deepest wsX4_deepest) := goodIn_app (goodIn_of _ (by decide +kernel)) ggL_errors_X4_deepest
set_option maxRecDepth 20000 in
theorem ggL_errors_X4_bracket : GoodIn wsL_errors wsX4_bracket := goodIn_r _ [163, 6, 164, 165, 166, 10, 167, 12, 168, 169, 170, 171, 172, 173, 174, 175, 74, 67, 68, 69, 33, 22, 23, 24, 25, 26, 18, 19, 20, 27, 4, 28, 176, 177, 178, 179, 34, 35, 36, 37, 66, 180, 70, 71, 72, 73, 75, 47, 48, 49, 42, 43, 44, 45, 29, 30, 31, 32, 358, 359, 360, 361, 362, 363, 364, 365, 366] (by decide +kernel) (by decide +kernel)
set_option maxRecDepth 20000 in
theorem gL_errors_X4_bracket : GoodIn wsL_errors (wsV RL 25 RX4 yX4_bracket wsX4_bracket) := goodIn_app (goodIn_of _ (by decide +kernel)) ggL_errors_X4_bracket
set_option maxRecDepth 20000 in
theorem ggL_errors_X4_setWidth : GoodIn wsL_errors wsX4_setWidth := goodIn_r _ [184, 185, 186, 187, 188, 189, 190, 191, 358, 359, 360, 361, 367] (by decide +kernel) (by decide +kernel)
set_option maxRecDepth 20000 in
theorem gL_errors_X4_setWidth : GoodIn wsL_errors (wsV RL 120 RX4 yX4_setWidth wsX4_setWidth) := goodIn_app (goodIn_of _ (by decide +kernel)) ggL_errors_X4_setWidth
set_option maxRecDepth 20000 in
theorem ggL_errors_X4_block : GoodIn wsL_errors wsX4_block := goodIn_r _ [195, 185, 6, 196, 197, 198, 189, 199, 191, 200, 141, 138, 142, 201, 165, 166, 10, 167, 12, 202, 203, 204, 205, 180, 177, 178, 179, 172, 173, 174, 175, 74, 67, 68, 69, 33, 22, 23, 24, 25, 26, 18, 19, 20, 27, 4, 28, 206, 207, 208, 209, 210, 137, 139, 211, 212, 213, 214, 215, 216, 217, 218, 219, 220, 221, 222, 223, 224, 225, 226, 227, 228, 358, 359, 360, 361, 367, 362, 363, 364, 365, 366] (by decide +kernel) (by decide +kernel)
set_option maxRecDepth 20000 in
theorem gL_errors_X4_block : GoodIn wsL_errors (wsV RL 68 RX4 yX4_block wsX4_block) := goodIn_app (goodIn_of _ (by decide +kernel)) ggL_errors_X4_block
set_option maxRecDepth 20000 in
theorem ggL_errors_X4_setLabel : GoodIn wsL_errors wsX4_setLabel := goodIn_r _ [232, 6, 233, 17, 18, 19, 10, 20, 12, 234, 235, 4, 236, 80, 81, 82, 83, 84, 27, 28, 237, 238, 239, 240, 241, 242, 243, 244, 245, 246, 247, 137, 138, 139, 248, 8, 9, 11, 249, 250, 251, 22, 23, 24, 25, 26, 252, 21, 253, 254, 255, 256, 358, 359, 360, 361, 362, 363, 364, 365, 366, 368, 369, 370, 371, 372] (by decide +kernel) (by decide +kernel)
set_option maxRecDepth 20000 in
theorem gL_errors_X4_setLabel : GoodIn wsL_errors (wsV RL 117 RX4 yX4_setLabel wsX4_setLabel) := goodIn_app (goodIn_of _ (by decide +kernel)) ggL_errors_X4_setLabel
set_option maxRecDepth 20000 in
theorem ggL_errors_X4_labelled : GoodIn wsL_errors wsX4_labelled := goodIn_r _ [260, 6, 17, 18, 19, 10, 20, 12, 234, 235, 4, 236, 261, 262, 263, 264, 42, 43, 44, 45, 33, 22, 23, 24, 25, 26, 27, 28, 265, 81, 82, 83, 84, 358, 359, 360, 361, 362, 363, 364, 365, 366] (by decide +kernel) (by decide +kernel)
set_option maxRecDepth 20000 in
theorem gL_errors_X4_labelled : GoodIn wsL_errors (wsV RL 48 RX4 yX4_labelled wsX4_labelled) := goodIn_app (goodIn_of _ (by decide +kernel)) ggL_errors_X4_labelled
set_option maxRecDepth 20000 in
theorem ggL_errors_X4_select : GoodIn wsL_errors wsX4_select := goodIn_r _ [269, 6, 17, 18, 19, 10, 20, 12, 234, 235, 4, 236, 270, 271, 272, 273, 42, 43, 44, 45, 33, 22, 23, 24, 25, 26, 27, 28, 265, 81, 82, 83, 84, 358, 359, 360, 361, 362, 363, 364, 365, 366] (by decide +kernel) (by decide +kernel)
set_option maxRecDepth 20000 in
theorem gL_errors_X4_select : GoodIn wsL_errors (wsV RL 52 RX4 yX4_select wsX4_select) := goodIn_app (goodIn_of _ (by decide +kernel)) ggL_errors_X4_select
set_option maxRecDepth 20000 in
theorem ggL_errors_X4_ancestorWith : GoodIn wsL_errors wsX4_ancestorWith := goodIn_r _ [277, 6, 17, 18, 19, 10, 20, 12, 234, 235, 4, 236, 278, 279, 280, 281, 33, 22, 23, 24, 25, 26, 27, 28, 265, 81, 82, 83, 84, 358, 359, 360, 361, 362, 363, 364, 365, 366] (by decide +kernel) (by decide +kernel)
set_option maxRecDepth 20000 in
theorem gL_errors_X4_ancestorWith : GoodIn wsL_errors (wsV RL 62 RX4 yX4_ancestorWith wsX4_ancestorWith) := goodIn_app (goodIn_of _ (by decide +kernel)) ggL_errors_X4_ancestorWith
set_option maxRecDepth 20000 in
theorem ggL_errors_X4_areEqual : GoodIn wsL_errors wsX4_areEqual := goodIn_r _ [285, 6, 17, 18, 19, 10, 20, 12, 286, 287, 288, 289, 75, 47, 48, 49, 42, 43, 44, 45, 33, 22, 23, 24, 25, 26, 27, 4, 28, 265, 81, 82, 83, 84, 358, 359, 360, 361, 362, 363, 364, 365, 366] (by decide +kernel) (by decide +kernel)
set_option maxRecDepth 20000 in
theorem gL_errors_X4_areEqual : GoodIn wsL_errors (wsV RL 56 RX4 yX4_areEqual wsX4_areEqual) := goodIn_app (goodIn_of _ (by decide +kernel)) ggL_errors_X4_areEqual
set_option maxRecDepth 20000 in
theorem ggL_errors_X4_copies : GoodIn wsL_errors wsX4_copies := goodIn_r _ [293, 6, 17, 18, 19, 10, 20, 12, 294, 295, 296, 297, 298, 287, 288, 289, 75, 47, 48, 49, 42, 43, 44, 45, 33, 22, 23, 24, 25, 26, 27, 4, 28, 265, 81, 82, 83, 84, 358, 359, 360, 361, 362, 363, 364, 365, 366] (by decide +kernel) (by decide +kernel)
set_option maxRecDepth 20000 in
theorem gL_errors_X4_copies : GoodIn wsL_errors (wsV RL 59 RX4 yX4_copies wsX4_copies) := goodIn_app (goodIn_of _ (by decide +kernel)) ggL_errors_X4_copies
set_option maxRecDepth 20000 in
theorem ggL_errors_X4_insert : GoodIn wsL_errors wsX4_insert := goodIn_r _ [302, 303, 304, 305, 4, 306, 6, 233, 17, 18, 19, 10, 20, 12, 38, 39, 40, 41, 42, 43, 44, 45, 33, 22, 23, 24, 25, 26, 27, 28, 234, 235, 236, 7, 8, 9, 11, 237, 238, 239, 240, 241, 242, 243, 244, 245, 246, 247, 137, 138, 139, 248, 249, 250, 251, 252, 81, 82, 83, 84, 307, 308, 309, 310, 311, 90, 91, 92, 312, 313, 314, 315, 265, 316, 254, 255, 256, 317, 318, 319, 320, 136, 358, 359, 360, 361, 362, 363, 364, 365, 366, 368, 369, 370, 371, 372] (by decide +kernel) (by decide +kernel)
set_option maxRecDepth 20000 in
theorem gL_errors_X4_insert : GoodIn wsL_errors (wsV RL 100 RX4 yX4_insert wsX4_insert) := goodIn_app (goodIn_of _ (by decide +kernel)) ggL_errors_X4_insert
set_option maxRecDepth 20000 in
theorem ggL_errors_X4_wrap : GoodIn wsL_errors wsX4_wrap := goodIn_r _ [306, 6, 233, 17, 18, 19, 10, 20, 12, 38, 39, 40, 41, 42, 43, 44, 45, 33, 22, 23, 24, 25, 26, 27, 4, 28, 234, 235, 236, 7, 8, 9, 11, 237, 238, 239, 240, 241, 242, 243, 244, 245, 246, 247, 137, 138, 139, 248, 249, 250, 251, 252, 81, 82, 83, 84, 307, 308, 309, 310, 311, 90, 91, 92, 312, 313, 314, 315, 265, 316, 254, 255, 256, 317, 318, 319, 320, 136, 358, 359, 360, 361, 362, 363, 364, 365, 366, 368, 369, 370, 371, 372] (by decide +kernel) (by decide +kernel)
set_option maxRecDepth 20000 in
theorem gL_errors_X4_wrap : GoodIn wsL_errors (wsV RL 104 RX4 yX4_wrap wsX4_wrap) := goodIn_app (goodIn_of _ (by decide +kernel)) ggL_errors_X4_wrap
set_option maxRecDepth 20000 in
theorem ggL_errors_X4_remove : GoodIn wsL_errors wsX4_remove := goodIn_r _ [325, 6, 233, 17, 18, 19, 10, 20, 12, 237, 238, 239, 240, 241, 242, 243, 244, 245, 246, 247, 137, 138, 139, 248, 8, 9, 11, 249, 4, 250, 251, 22, 23, 24, 25, 26, 27, 28, 252, 81, 82, 83, 84, 326, 327, 328, 329, 42, 43, 44, 45, 33, 312, 313, 314, 315, 265, 316, 254, 255, 256, 330, 331, 332, 333, 140, 141, 142, 7, 358, 359, 360, 361, 362, 363, 364, 365, 366, 368, 369, 370, 371, 372] (by decide +kernel) (by decide +kernel)
set_option maxRecDepth 20000 in
theorem gL_errors_X4_remove : GoodIn wsL_errors (wsV RL 108 RX4 yX4_remove wsX4_remove) := goodIn_app (goodIn_of _ (by decide +kernel)) ggL_errors_X4_remove
set_option maxRecDepth 20000 in
theorem ggL_errors_X4_cut : GoodIn wsL_errors wsX4_cut := goodIn_r _ [337, 6, 233, 17, 18, 19, 10, 20, 12, 237, 238, 239, 240, 241, 242, 243, 244, 245, 246, 247, 137, 138, 139, 248, 8, 9, 11, 249, 4, 250, 251, 22, 23, 24, 25, 26, 27, 28, 252, 81, 82, 83, 84, 46, 47, 48, 49, 42, 43, 44, 45, 33, 338, 331, 332, 333, 140, 141, 142, 265, 316, 254, 255, 256, 7, 358, 359, 360, 361, 362, 363, 364, 365, 366, 368, 369, 370, 371, 372] (by decide +kernel) (by decide +kernel)
set_option maxRecDepth 20000 in
theorem gL_errors_X4_cut : GoodIn wsL_errors (wsV RL 111 RX4 yX4_cut wsX4_cut) := goodIn_app (goodIn_of _ (by decide +kernel)) ggL_errors_X4_cut
set_option maxRecDepth 20000 in
theorem ggL_errors_X4_move : GoodIn wsL_errors wsX4_move := goodIn_r _ [342, 6, 233, 17, 18, 19, 10, 20, 12, 343, 43, 44, 45, 33, 22, 23, 24, 25, 26, 27, 4, 28, 38, 39, 40, 41, 42, 29, 30, 31, 32, 34, 35, 36, 37, 237, 238, 239, 240, 241, 242, 243, 244, 245, 246, 247, 137, 138, 139, 248, 8, 9, 11, 249, 250, 251, 252, 81, 82, 83, 84, 344, 345, 346, 347, 75, 47, 48, 49, 348, 349, 350, 351, 352, 353, 265, 330, 331, 332, 333, 140, 141, 142, 316, 254, 255, 256, 311, 90, 91, 92, 317, 318, 319, 320, 136, 354, 355, 356, 357, 358, 359, 360, 361, 362, 363, 364, 365, 366, 368, 369, 370, 371, 372] (by decide +kernel) (by decide +kernel)
set_option maxRecDepth 20000 in
theorem gL_errors_X4_move : GoodIn wsL_errors (wsV RL 114 RX4 yX4_move wsX4_move) := goodIn_app (goodIn_of _ (by decide +kernel)) ggL_errors_X4_move
theorem dL_errors_0 : decode cL_errors 0 = .ok (.aload_n 0, 1) := by decide +kernel
theorem dL_errors_1 : decode cL_errors 1 = .ok (.invokevirtual 9, 3) := by decide +kernel
theorem dL_errors_4 : decode cL_errors 4 = .ok (.istore_n 1, 1) := by decide +kernel
theorem dL_errors_5 : decode cL_errors 5 = .ok (.iconst (-1), 1) := by decide +kernel
theorem dL_errors_6 : decode cL_errors 6 = .ok (.istore_n 2, 1) := by decide +kernel
theorem dL_errors_7 : decode cL_errors 7 = .ok (.bipush (-2), 2) := by decide +kernel
theorem dL_errors_9 : decode cL_errors 9 = .ok (.istore_n 3, 1) := by decide +kernel
theorem dL_errors_10 : decode cL_errors 10 = .ok (.aload_n 0, 1) := by decide +kernel
theorem dL_errors_11 : decode cL_errors 11 = .ok (.iload_n 1, 1) := by decide +kernel
theorem dL_errors_12 : decode cL_errors 12 = .ok (.bipush 99, 2) := by decide +kernel
theorem dL_errors_14 : decode cL_errors 14 = .ok (.invokevirtual 15, 3) := by decide +kernel
theorem dL_errors_17 : decode cL_errors 17 = .ok (.iload_n 2, 1) := by decide +kernel
theorem dL_errors_18 : decode cL_errors 18 = .ok (.if_icmp .ne 172, 3) := by decide +kernel
theorem dL_errors_21 : decode cL_errors 21 = .ok (.aload_n 0, 1) := by decide +kernel
theorem dL_errors_22 : decode cL_errors 22 = .ok (.iconst 0, 1) := by decide +kernel
theorem dL_errors_23 : decode cL_errors 23 = .ok (.bipush 11, 2) := by decide +kernel
theorem dL_errors_25 : decode cL_errors 25 = .ok (.invokevirtual 15, 3) := by decide +kernel
theorem dL_errors_28 : decode cL_errors 28 = .ok (.iload_n 3, 1) := by decide +kernel
theorem dL_errors_29 : decode cL_errors 29 = .ok (.if_icmp .ne 161, 3) := by decide +kernel
theorem dL_errors_32 : decode cL_errors 32 = .ok (.aload_n 0, 1) := by decide +kernel
theorem dL_errors_33 : decode cL_errors 33 = .ok (.iload_n 1, 1) := by decide +kernel
theorem dL_errors_34 : decode cL_errors 34 = .ok (.iconst (-1), 1) := by decide +kernel
theorem dL_errors_35 : decode cL_errors 35 = .ok (.invokevirtual 19, 3) := by decide +kernel
theorem dL_errors_38 : decode cL_errors 38 = .ok (.iload_n 2, 1) := by decide +kernel
theorem dL_errors_39 : decode cL_errors 39 = .ok (.if_icmp .ne 151, 3) := by decide +kernel
theorem dL_errors_42 : decode cL_errors 42 = .ok (.aload_n 0, 1) := by decide +kernel
theorem dL_errors_43 : decode cL_errors 43 = .ok (.iconst (-1), 1) := by decide +kernel
theorem dL_errors_44 : decode cL_errors 44 = .ok (.bipush 9, 2) := by decide +kernel
theorem dL_errors_46 : decode cL_errors 46 = .ok (.invokevirtual 22, 3) := by decide +kernel
theorem dL_errors_49 : decode cL_errors 49 = .ok (.iload_n 2, 1) := by decide +kernel
theorem dL_errors_50 : decode cL_errors 50 = .ok (.if_icmp .ne 140, 3) := by decide +kernel
theorem dL_errors_53 : decode cL_errors 53 = .ok (.aload_n 0, 1) := by decide +kernel
theorem dL_errors_54 : decode cL_errors 54 = .ok (.iconst 0, 1) := by decide +kernel
theorem dL_errors_55 : decode cL_errors 55 = .ok (.bipush 6, 2) := by decide +kernel
theorem dL_errors_57 : decode cL_errors 57 = .ok (.invokevirtual 22, 3) := by decide +kernel
theorem dL_errors_60 : decode cL_errors 60 = .ok (.iload_n 3, 1) := by decide +kernel
theorem dL_errors_61 : decode cL_errors 61 = .ok (.if_icmp .ne 129, 3) := by decide +kernel
theorem dL_errors_64 : decode cL_errors 64 = .ok (.aload_n 0, 1) := by decide +kernel
theorem dL_errors_65 : decode cL_errors 65 = .ok (.iload_n 1, 1) := by decide +kernel
theorem dL_errors_66 : decode cL_errors 66 = .ok (.iconst 0, 1) := by decide +kernel
theorem dL_errors_67 : decode cL_errors 67 = .ok (.invokevirtual 38, 3) := by decide +kernel
theorem dL_errors_70 : decode cL_errors 70 = .ok (.iload_n 2, 1) := by decide +kernel
theorem dL_errors_71 : decode cL_errors 71 = .ok (.if_icmp .ne 119, 3) := by decide +kernel
theorem dL_errors_74 : decode cL_errors 74 = .ok (.aload_n 0, 1) := by decide +kernel
theorem dL_errors_75 : decode cL_errors 75 = .ok (.iconst 0, 1) := by decide +kernel
theorem dL_errors_76 : decode cL_errors 76 = .ok (.iconst 1, 1) := by decide +kernel
theorem dL_errors_77 : decode cL_errors 77 = .ok (.invokevirtual 38, 3) := by decide +kernel
theorem dL_errors_80 : decode cL_errors 80 = .ok (.iload_n 3, 1) := by decide +kernel
theorem dL_errors_81 : decode cL_errors 81 = .ok (.if_icmp .ne 109, 3) := by decide +kernel
theorem dL_errors_84 : decode cL_errors 84 = .ok (.aload_n 0, 1) := by decide +kernel
theorem dL_errors_85 : decode cL_errors 85 = .ok (.iconst 0, 1) := by decide +kernel
theorem dL_errors_86 : decode cL_errors 86 = .ok (.iload_n 1, 1) := by decide +kernel
theorem dL_errors_87 : decode cL_errors 87 = .ok (.invokevirtual 35, 3) := by decide +kernel
theorem dL_errors_90 : decode cL_errors 90 = .ok (.iload_n 2, 1) := by decide +kernel
theorem dL_errors_91 : decode cL_errors 91 = .ok (.if_icmp .ne 99, 3) := by decide +kernel
theorem dL_errors_94 : decode cL_errors 94 = .ok (.aload_n 0, 1) := by decide +kernel
theorem dL_errors_95 : decode cL_errors 95 = .ok (.iload_n 1, 1) := by decide +kernel
theorem dL_errors_96 : decode cL_errors 96 = .ok (.iconst 0, 1) := by decide +kernel
theorem dL_errors_97 : decode cL_errors 97 = .ok (.bipush (-5), 2) := by decide +kernel
theorem dL_errors_99 : decode cL_errors 99 = .ok (.invokevirtual 41, 3) := by decide +kernel
theorem dL_errors_102 : decode cL_errors 102 = .ok (.iload_n 2, 1) := by decide +kernel
theorem dL_errors_103 : decode cL_errors 103 = .ok (.if_icmp .ne 87, 3) := by decide +kernel
theorem dL_errors_106 : decode cL_errors 106 = .ok (.aload_n 0, 1) := by decide +kernel
theorem dL_errors_107 : decode cL_errors 107 = .ok (.iload_n 1, 1) := by decide +kernel
theorem dL_errors_108 : decode cL_errors 108 = .ok (.invokevirtual 32, 3) := by decide +kernel
theorem dL_errors_111 : decode cL_errors 111 = .ok (.iload_n 3, 1) := by decide +kernel
theorem dL_errors_112 : decode cL_errors 112 = .ok (.if_icmp .ne 78, 3) := by decide +kernel
theorem dL_errors_115 : decode cL_errors 115 = .ok (.aload_n 0, 1) := by decide +kernel
theorem dL_errors_116 : decode cL_errors 116 = .ok (.iconst (-1), 1) := by decide +kernel
theorem dL_errors_117 : decode cL_errors 117 = .ok (.invokevirtual 32, 3) := by decide +kernel
theorem dL_errors_120 : decode cL_errors 120 = .ok (.iload_n 3, 1) := by decide +kernel
theorem dL_errors_121 : decode cL_errors 121 = .ok (.if_icmp .ne 69, 3) := by decide +kernel
theorem dL_errors_124 : decode cL_errors 124 = .ok (.aload_n 0, 1) := by decide +kernel
theorem dL_errors_125 : decode cL_errors 125 = .ok (.iload_n 1, 1) := by decide +kernel
theorem dL_errors_126 : decode cL_errors 126 = .ok (.invokevirtual 28, 3) := by decide +kernel
theorem dL_errors_129 : decode cL_errors 129 = .ok (.iload_n 2, 1) := by decide +kernel
theorem dL_errors_130 : decode cL_errors 130 = .ok (.if_icmp .ne 60, 3) := by decide +kernel
theorem dL_errors_133 : decode cL_errors 133 = .ok (.aload_n 0, 1) := by decide +kernel
theorem dL_errors_134 : decode cL_errors 134 = .ok (.iconst 2, 1) := by decide +kernel
theorem dL_errors_135 : decode cL_errors 135 = .ok (.iload_n 1, 1) := by decide +kernel
theorem dL_errors_136 : decode cL_errors 136 = .ok (.imul, 1) := by decide +kernel
theorem dL_errors_137 : decode cL_errors 137 = .ok (.bipush 9, 2) := by decide +kernel
theorem dL_errors_139 : decode cL_errors 139 = .ok (.invokevirtual 25, 3) := by decide +kernel
theorem dL_errors_142 : decode cL_errors 142 = .ok (.iload_n 2, 1) := by decide +kernel
theorem dL_errors_143 : decode cL_errors 143 = .ok (.if_icmp .ne 47, 3) := by decide +kernel
theorem dL_errors_146 : decode cL_errors 146 = .ok (.aload_n 0, 1) := by decide +kernel
theorem dL_errors_147 : decode cL_errors 147 = .ok (.iconst 0, 1) := by decide +kernel
theorem dL_errors_148 : decode cL_errors 148 = .ok (.iconst 5, 1) := by decide +kernel
theorem dL_errors_149 : decode cL_errors 149 = .ok (.invokevirtual 25, 3) := by decide +kernel
theorem dL_errors_152 : decode cL_errors 152 = .ok (.iload_n 3, 1) := by decide +kernel
theorem dL_errors_153 : decode cL_errors 153 = .ok (.if_icmp .ne 37, 3) := by decide +kernel
theorem dL_errors_156 : decode cL_errors 156 = .ok (.aload_n 0, 1) := by decide +kernel
theorem dL_errors_157 : decode cL_errors 157 = .ok (.iconst 3, 1) := by decide +kernel
theorem dL_errors_158 : decode cL_errors 158 = .ok (.invokevirtual 120, 3) := by decide +kernel
theorem dL_errors_161 : decode cL_errors 161 = .ok (.iload_n 3, 1) := by decide +kernel
theorem dL_errors_162 : decode cL_errors 162 = .ok (.if_icmp .ne 28, 3) := by decide +kernel
theorem dL_errors_165 : decode cL_errors 165 = .ok (.aload_n 0, 1) := by decide +kernel
theorem dL_errors_166 : decode cL_errors 166 = .ok (.bipush 33, 2) := by decide +kernel
theorem dL_errors_168 : decode cL_errors 168 = .ok (.invokevirtual 120, 3) := by decide +kernel
theorem dL_errors_171 : decode cL_errors 171 = .ok (.iload_n 3, 1) := by decide +kernel
theorem dL_errors_172 : decode cL_errors 172 = .ok (.if_icmp .ne 18, 3) := by decide +kernel
theorem dL_errors_175 : decode cL_errors 175 = .ok (.aload_n 0, 1) := by decide +kernel
theorem dL_errors_176 : decode cL_errors 176 = .ok (.iconst (-1), 1) := by decide +kernel
theorem dL_errors_177 : decode cL_errors 177 = .ok (.bipush 9, 2) := by decide +kernel
theorem dL_errors_179 : decode cL_errors 179 = .ok (.invokevirtual 68, 3) := by decide +kernel
theorem dL_errors_182 : decode cL_errors 182 = .ok (.iload_n 2, 1) := by decide +kernel
theorem dL_errors_183 : decode cL_errors 183 = .ok (.if_icmp .ne 7, 3) := by decide +kernel
theorem dL_errors_186 : decode cL_errors 186 = .ok (.iconst 1, 1) := by decide +kernel
theorem dL_errors_187 : decode cL_errors 187 = .ok (.goto 4, 3) := by decide +kernel
theorem dL_errors_190 : decode cL_errors 190 = .ok (.iconst 0, 1) := by decide +kernel
theorem dL_errors_191 : decode cL_errors 191 = .ok (.istore 4, 2) := by decide +kernel
theorem dL_errors_193 : decode cL_errors 193 = .ok (.iload 4, 2) := by decide +kernel
theorem dL_errors_195 : decode cL_errors 195 = .ok (.ifCond .eq 172, 3) := by decide +kernel
theorem dL_errors_198 : decode cL_errors 198 = .ok (.aload_n 0, 1) := by decide +kernel
theorem dL_errors_199 : decode cL_errors 199 = .ok (.iload_n 1, 1) := by decide +kernel
theorem dL_errors_200 : decode cL_errors 200 = .ok (.bipush 33, 2) := by decide +kernel
theorem dL_errors_202 : decode cL_errors 202 = .ok (.invokevirtual 117, 3) := by decide +kernel
theorem dL_errors_205 : decode cL_errors 205 = .ok (.iload_n 2, 1) := by decide +kernel
theorem dL_errors_206 : decode cL_errors 206 = .ok (.if_icmp .ne 161, 3) := by decide +kernel
theorem dL_errors_209 : decode cL_errors 209 = .ok (.aload_n 0, 1) := by decide +kernel
theorem dL_errors_210 : decode cL_errors 210 = .ok (.iload_n 1, 1) := by decide +kernel
theorem dL_errors_211 : decode cL_errors 211 = .ok (.bipush 33, 2) := by decide +kernel
theorem dL_errors_213 : decode cL_errors 213 = .ok (.invokevirtual 48, 3) := by decide +kernel
theorem dL_errors_216 : decode cL_errors 216 = .ok (.iload_n 2, 1) := by decide +kernel
theorem dL_errors_217 : decode cL_errors 217 = .ok (.if_icmp .ne 150, 3) := by decide +kernel
theorem dL_errors_220 : decode cL_errors 220 = .ok (.aload_n 0, 1) := by decide +kernel
theorem dL_errors_221 : decode cL_errors 221 = .ok (.iconst 0, 1) := by decide +kernel
theorem dL_errors_222 : decode cL_errors 222 = .ok (.bipush 33, 2) := by decide +kernel
theorem dL_errors_224 : decode cL_errors 224 = .ok (.invokevirtual 48, 3) := by decide +kernel
theorem dL_errors_227 : decode cL_errors 227 = .ok (.iload_n 3, 1) := by decide +kernel
theorem dL_errors_228 : decode cL_errors 228 = .ok (.if_icmp .ne 139, 3) := by decide +kernel
theorem dL_errors_231 : decode cL_errors 231 = .ok (.aload_n 0, 1) := by decide +kernel
theorem dL_errors_232 : decode cL_errors 232 = .ok (.iload_n 1, 1) := by decide +kernel
theorem dL_errors_233 : decode cL_errors 233 = .ok (.bipush 33, 2) := by decide +kernel
theorem dL_errors_235 : decode cL_errors 235 = .ok (.iconst (-1), 1) := by decide +kernel
theorem dL_errors_236 : decode cL_errors 236 = .ok (.invokevirtual 52, 3) := by decide +kernel
theorem dL_errors_239 : decode cL_errors 239 = .ok (.iload_n 2, 1) := by decide +kernel
theorem dL_errors_240 : decode cL_errors 240 = .ok (.if_icmp .ne 127, 3) := by decide +kernel
theorem dL_errors_243 : decode cL_errors 243 = .ok (.aload_n 0, 1) := by decide +kernel
theorem dL_errors_244 : decode cL_errors 244 = .ok (.iload_n 1, 1) := by decide +kernel
theorem dL_errors_245 : decode cL_errors 245 = .ok (.bipush 33, 2) := by decide +kernel
theorem dL_errors_247 : decode cL_errors 247 = .ok (.invokevirtual 62, 3) := by decide +kernel
theorem dL_errors_250 : decode cL_errors 250 = .ok (.iload_n 2, 1) := by decide +kernel
theorem dL_errors_251 : decode cL_errors 251 = .ok (.if_icmp .ne 116, 3) := by decide +kernel
theorem dL_errors_254 : decode cL_errors 254 = .ok (.aload_n 0, 1) := by decide +kernel
theorem dL_errors_255 : decode cL_errors 255 = .ok (.iconst 0, 1) := by decide +kernel
theorem dL_errors_256 : decode cL_errors 256 = .ok (.bipush 33, 2) := by decide +kernel
theorem dL_errors_258 : decode cL_errors 258 = .ok (.invokevirtual 62, 3) := by decide +kernel
theorem dL_errors_261 : decode cL_errors 261 = .ok (.iload_n 3, 1) := by decide +kernel
theorem dL_errors_262 : decode cL_errors 262 = .ok (.if_icmp .ne 105, 3) := by decide +kernel
theorem dL_errors_265 : decode cL_errors 265 = .ok (.aload_n 0, 1) := by decide +kernel
theorem dL_errors_266 : decode cL_errors 266 = .ok (.iload_n 1, 1) := by decide +kernel
theorem dL_errors_267 : decode cL_errors 267 = .ok (.iconst 0, 1) := by decide +kernel
theorem dL_errors_268 : decode cL_errors 268 = .ok (.invokevirtual 56, 3) := by decide +kernel
theorem dL_errors_271 : decode cL_errors 271 = .ok (.iload_n 2, 1) := by decide +kernel
theorem dL_errors_272 : decode cL_errors 272 = .ok (.if_icmp .ne 95, 3) := by decide +kernel
theorem dL_errors_275 : decode cL_errors 275 = .ok (.aload_n 0, 1) := by decide +kernel
theorem dL_errors_276 : decode cL_errors 276 = .ok (.iconst (-1), 1) := by decide +kernel
theorem dL_errors_277 : decode cL_errors 277 = .ok (.invokevirtual 59, 3) := by decide +kernel
theorem dL_errors_280 : decode cL_errors 280 = .ok (.iload_n 2, 1) := by decide +kernel
theorem dL_errors_281 : decode cL_errors 281 = .ok (.if_icmp .ne 86, 3) := by decide +kernel
theorem dL_errors_284 : decode cL_errors 284 = .ok (.aload_n 0, 1) := by decide +kernel
theorem dL_errors_285 : decode cL_errors 285 = .ok (.iload_n 1, 1) := by decide +kernel
theorem dL_errors_286 : decode cL_errors 286 = .ok (.iconst (-1), 1) := by decide +kernel
theorem dL_errors_287 : decode cL_errors 287 = .ok (.bipush 33, 2) := by decide +kernel
theorem dL_errors_289 : decode cL_errors 289 = .ok (.invokevirtual 100, 3) := by decide +kernel
theorem dL_errors_292 : decode cL_errors 292 = .ok (.iload_n 2, 1) := by decide +kernel
theorem dL_errors_293 : decode cL_errors 293 = .ok (.if_icmp .ne 74, 3) := by decide +kernel
theorem dL_errors_296 : decode cL_errors 296 = .ok (.aload_n 0, 1) := by decide +kernel
theorem dL_errors_297 : decode cL_errors 297 = .ok (.iload_n 1, 1) := by decide +kernel
theorem dL_errors_298 : decode cL_errors 298 = .ok (.iconst (-1), 1) := by decide +kernel
theorem dL_errors_299 : decode cL_errors 299 = .ok (.iconst 0, 1) := by decide +kernel
theorem dL_errors_300 : decode cL_errors 300 = .ok (.bipush 97, 2) := by decide +kernel
theorem dL_errors_302 : decode cL_errors 302 = .ok (.invokevirtual 104, 3) := by decide +kernel
theorem dL_errors_305 : decode cL_errors 305 = .ok (.iload_n 2, 1) := by decide +kernel
theorem dL_errors_306 : decode cL_errors 306 = .ok (.if_icmp .ne 61, 3) := by decide +kernel
theorem dL_errors_309 : decode cL_errors 309 = .ok (.aload_n 0, 1) := by decide +kernel
theorem dL_errors_310 : decode cL_errors 310 = .ok (.iconst 0, 1) := by decide +kernel
theorem dL_errors_311 : decode cL_errors 311 = .ok (.iconst (-1), 1) := by decide +kernel
theorem dL_errors_312 : decode cL_errors 312 = .ok (.iconst 0, 1) := by decide +kernel
theorem dL_errors_313 : decode cL_errors 313 = .ok (.bipush 97, 2) := by decide +kernel
theorem dL_errors_315 : decode cL_errors 315 = .ok (.invokevirtual 104, 3) := by decide +kernel
theorem dL_errors_318 : decode cL_errors 318 = .ok (.iload_n 3, 1) := by decide +kernel
theorem dL_errors_319 : decode cL_errors 319 = .ok (.if_icmp .ne 48, 3) := by decide +kernel
theorem dL_errors_322 : decode cL_errors 322 = .ok (.aload_n 0, 1) := by decide +kernel
theorem dL_errors_323 : decode cL_errors 323 = .ok (.iload_n 1, 1) := by decide +kernel
theorem dL_errors_324 : decode cL_errors 324 = .ok (.invokevirtual 108, 3) := by decide +kernel
theorem dL_errors_327 : decode cL_errors 327 = .ok (.iload_n 2, 1) := by decide +kernel
theorem dL_errors_328 : decode cL_errors 328 = .ok (.if_icmp .ne 39, 3) := by decide +kernel
theorem dL_errors_331 : decode cL_errors 331 = .ok (.aload_n 0, 1) := by decide +kernel
theorem dL_errors_332 : decode cL_errors 332 = .ok (.iconst (-1), 1) := by decide +kernel
theorem dL_errors_333 : decode cL_errors 333 = .ok (.invokevirtual 111, 3) := by decide +kernel
theorem dL_errors_336 : decode cL_errors 336 = .ok (.iload_n 2, 1) := by decide +kernel
theorem dL_errors_337 : decode cL_errors 337 = .ok (.if_icmp .ne 30, 3) := by decide +kernel
theorem dL_errors_340 : decode cL_errors 340 = .ok (.aload_n 0, 1) := by decide +kernel
theorem dL_errors_341 : decode cL_errors 341 = .ok (.iconst 0, 1) := by decide +kernel
theorem dL_errors_342 : decode cL_errors 342 = .ok (.iload_n 1, 1) := by decide +kernel
theorem dL_errors_343 : decode cL_errors 343 = .ok (.iconst 0, 1) := by decide +kernel
theorem dL_errors_344 : decode cL_errors 344 = .ok (.invokevirtual 114, 3) := by decide +kernel
theorem dL_errors_347 : decode cL_errors 347 = .ok (.iload_n 2, 1) := by decide +kernel
theorem dL_errors_348 : decode cL_errors 348 = .ok (.if_icmp .ne 19, 3) := by decide +kernel
theorem dL_errors_351 : decode cL_errors 351 = .ok (.aload_n 0, 1) := by decide +kernel
theorem dL_errors_352 : decode cL_errors 352 = .ok (.iconst 0, 1) := by decide +kernel
theorem dL_errors_353 : decode cL_errors 353 = .ok (.iconst 0, 1) := by decide +kernel
theorem dL_errors_354 : decode cL_errors 354 = .ok (.iconst (-1), 1) := by decide +kernel
theorem dL_errors_355 : decode cL_errors 355 = .ok (.invokevirtual 114, 3) := by decide +kernel
theorem dL_errors_358 : decode cL_errors 358 = .ok (.bipush (-3), 2) := by decide +kernel
theorem dL_errors_360 : decode cL_errors 360 = .ok (.if_icmp .ne 7, 3) := by decide +kernel
theorem dL_errors_363 : decode cL_errors 363 = .ok (.iconst 1, 1) := by decide +kernel
theorem dL_errors_364 : decode cL_errors 364 = .ok (.goto 4, 3) := by decide +kernel
theorem dL_errors_367 : decode cL_errors 367 = .ok (.iconst 0, 1) := by decide +kernel
theorem dL_errors_368 : decode cL_errors 368 = .ok (.ireturn, 1) := by decide +kernel
set_option maxRecDepth 20000 in
theorem ggL_law_X4_init : GoodIn wsL_law wsX4_init := goodIn_r _ [5, 6, 7, 8, 9, 10, 11, 12, 13, 14, 15, 16, 17, 18, 19, 20, 21, 22, 23, 24, 25, 26, 27, 28, 29, 30, 31, 32, 33, 34, 35, 2, 36, 37, 38, 39, 40, 41, 42, 43, 44, 45, 46, 47, 48, 49, 50, 524, 525, 526, 527, 528, 520, 521, 522, 523, 529, 530, 531, 532, 533, 534, 535, 536] (by decide +kernel) (by decide +kernel)
set_option maxRecDepth 20000 in
theorem gL_law_X4_init : GoodIn wsL_law (wsX4_init) := ggL_law_X4_init
set_option maxRecDepth 20000 in
theorem ggL_law_X4_size : GoodIn wsL_law wsX4_size := goodIn_r _ [54, 12, 55, 56, 57, 11, 58, 34, 520, 521, 522, 523, 524, 525, 526, 527, 528] (by decide +kernel) (by decide +kernel)
set_option maxRecDepth 20000 in
theorem gL_law_X4_size : GoodIn wsL_law (wsV RL 9 RX4 yX4_size wsX4_size) := goodIn_app (goodIn_of _ (by decide +kernel)) ggL_law_X4_size
set_option maxRecDepth 20000 in
theorem ggL_law_X4_node : GoodIn wsL_law wsX4_node := goodIn_r _ [62, 12, 63, 64, 65, 11, 66, 34, 67, 68, 69, 70, 30, 71, 72, 2, 73, 74, 75, 76, 77, 78, 79, 80, 81, 82, 83, 84, 85, 86, 87, 88, 89, 90, 91, 92, 93, 94, 95, 96, 97, 98, 99, 100, 101, 102, 103, 104, 105, 106, 107, 108, 109, 110, 111, 112, 113, 114, 115, 116, 117, 118, 119, 120, 121, 122, 123, 124, 125, 126, 127, 128, 31, 520, 521, 522, 523, 524, 525, 526, 527, 528] (by decide +kernel) (by decide +kernel)
set_option maxRecDepth 20000 in
theorem gL_law_X4_node : GoodIn wsL_law (wsV RL 15 RX4 yX4_node wsX4_node) := goodIn_app (goodIn_of _ (by decide +kernel)) ggL_law_X4_node
set_option maxRecDepth 20000 in
theorem ggL_law_X4_undo : GoodIn wsL_law wsX4_undo := goodIn_r _ [132, 20, 12, 133, 134, 135, 19, 136, 137, 138, 139, 140, 141, 142, 143, 144, 145, 146, 44, 45, 46, 72, 2, 73, 147, 148, 149, 11, 150, 34, 151, 152, 153, 154, 155, 156, 157, 158, 30, 31, 35, 36, 520, 521, 522, 523, 530, 531, 532, 533, 534, 524, 525, 526, 527, 528] (by decide +kernel) (by decide +kernel)
set_option maxRecDepth 20000 in
theorem gL_law_X4_undo : GoodIn wsL_law (wsV RL 94 RX4 yX4_undo wsX4_undo) := goodIn_app (goodIn_of _ (by decide +kernel)) ggL_law_X4_undo
set_option maxRecDepth 20000 in
theorem ggL_law_X4_written : GoodIn wsL_law wsX4_written := goodIn_r _ [162, 12, 163, 164, 165, 11, 166, 34, 167, 168, 169, 170, 107, 108, 109, 110, 78, 68, 69, 70, 30, 71, 64, 65, 66, 72, 2, 73, 171, 172, 173, 174, 175, 126, 127, 128, 31, 520, 521, 522, 523, 524, 525, 526, 527, 528] (by decide +kernel) (by decide +kernel)
set_option maxRecDepth 20000 in
theorem gL_law_X4_written : GoodIn wsL_law (wsV RL 75 RX4 yX4_written wsX4_written) := goodIn_app (goodIn_of _ (by decide +kernel)) ggL_law_X4_written
set_option maxRecDepth 20000 in
theorem ggL_law_X4_remove : GoodIn wsL_law wsX4_remove := goodIn_r _ [179, 12, 20, 63, 64, 65, 11, 66, 34, 180, 181, 182, 19, 183, 142, 44, 45, 46, 137, 184, 185, 145, 186, 187, 56, 57, 58, 35, 2, 36, 188, 68, 69, 70, 30, 71, 72, 73, 189, 126, 127, 128, 31, 190, 191, 192, 193, 87, 88, 89, 90, 78, 194, 195, 196, 197, 175, 155, 156, 157, 158, 198, 199, 200, 201, 202, 144, 146, 55, 520, 521, 522, 523, 524, 525, 526, 527, 528, 530, 531, 532, 533, 534] (by decide +kernel) (by decide +kernel)
set_option maxRecDepth 20000 in
theorem gL_law_X4_remove : GoodIn wsL_law (wsV RL 108 RX4 yX4_remove wsX4_remove) := goodIn_app (goodIn_of _ (by decide +kernel)) ggL_law_X4_remove
set_option maxRecDepth 20000 in
theorem ggL_law_L_cell : GoodIn wsL_law wsL_cell := goodIn_r _ [206, 207] rfl (by decide +kernel)
set_option maxRecDepth 20000 in
theorem gL_law_L_cell : GoodIn wsL_law (va_wsS RL 124 yL_cell wsL_cell) := goodIn_app (goodIn_of _ (by decide +kernel)) ggL_law_L_cell
set_option maxRecDepth 20000 in
theorem ggL_law_L_low : GoodIn wsL_law wsL_low := goodIn_r _ [210, 211] rfl (by decide +kernel)
set_option maxRecDepth 20000 in
theorem gL_law_L_low : GoodIn wsL_law (va_wsS RL 97 yL_low wsL_low) := goodIn_app (goodIn_of _ (by decide +kernel)) ggL_law_L_low
set_option maxRecDepth 20000 in
theorem ggL_law_L_edits : GoodIn wsL_law wsL_edits := goodIn_r _ [214, 51, 52, 53, 2, 54, 12, 55, 56, 57, 11, 58, 34, 208, 209, 205, 210, 211, 59, 60, 61, 62, 63, 64, 65, 66, 67, 68, 69, 70, 30, 71, 72, 73, 74, 75, 76, 77, 78, 79, 80, 81, 82, 83, 84, 85, 86, 87, 88, 89, 90, 91, 92, 93, 94, 95, 96, 97, 98, 99, 100, 101, 102, 103, 104, 105, 106, 107, 108, 109, 110, 111, 112, 113, 114, 115, 116, 117, 118, 119, 120, 121, 122, 123, 124, 125, 126, 127, 128, 31, 215, 216, 217, 218, 219, 220, 221, 222, 223, 224, 225, 226, 227, 20, 228, 229, 230, 180, 181, 182, 19, 183, 142, 44, 45, 46, 137, 184, 185, 145, 186, 187, 35, 36, 188, 189, 231, 232, 233, 234, 235, 236, 237, 238, 194, 195, 196, 197, 175, 155, 156, 157, 158, 239, 240, 241, 242, 243, 244, 176, 177, 178, 179, 190, 191, 192, 193, 198, 199, 200, 201, 202, 144, 146, 245, 246, 247, 248, 249, 250, 251, 252, 253, 254, 255, 256, 257, 258, 259, 260, 261, 262, 32, 33, 263, 264, 265, 266, 267, 268, 269, 270, 271, 129, 130, 131, 132, 133, 134, 135, 136, 138, 139, 140, 141, 143, 147, 148, 149, 150, 151, 152, 153, 154, 520, 521, 522, 523, 524, 525, 526, 527, 528, 530, 531, 532, 533, 534] rfl (by decide +kernel)
set_option maxRecDepth 20000 in
theorem gL_law_L_edits : GoodIn wsL_law (va_wsS RL 128 yL_edits wsL_edits) := goodIn_app (goodIn_of _ (by decide +kernel)) ggL_law_L_edits
set_option maxRecDepth 20000 in
theorem ggL_law_L_node : GoodIn wsL_law wsL_node := goodIn_r _ [274, 51, 52, 53, 2, 54, 12, 55, 56, 57, 11, 58, 34, 59, 60, 61, 62, 63, 64, 65, 66, 67, 68, 69, 70, 30, 71, 72, 73, 74, 75, 76, 77, 78, 79, 80, 81, 82, 83, 84, 85, 86, 87, 88, 89, 90, 91, 92, 93, 94, 95, 96, 97, 98, 99, 100, 101, 102, 103, 104, 105, 106, 107, 108, 109, 110, 111, 112, 113, 114, 115, 116, 117, 118, 119, 120, 121, 122, 123, 124, 125, 126, 127, 128, 31, 275, 276, 277, 278, 279, 236, 237, 238, 280, 281, 282, 283, 284, 285, 286, 287, 288, 289, 290, 291, 292, 293, 294, 295, 296, 297, 298, 299, 300, 301, 302, 303, 304, 305, 306, 307, 308, 309, 310, 311, 312, 313, 314, 315, 316, 317, 318, 319, 320, 321, 322, 323, 324, 325, 326, 327, 328, 329, 330, 331, 332, 333, 334, 335, 336, 337, 338, 339, 340, 341, 342, 343, 520, 521, 522, 523, 524, 525, 526, 527, 528] rfl (by decide +kernel)
set_option maxRecDepth 20000 in
theorem gL_law_L_node : GoodIn wsL_law (va_wsS RL 132 yL_node wsL_node) := goodIn_app (goodIn_of _ (by decide +kernel)) ggL_law_L_node
set_option maxRecDepth 20000 in
theorem ggL_law_L_two : GoodIn wsL_law wsL_two := goodIn_r _ [346, 51, 52, 53, 2, 54, 12, 55, 56, 57, 11, 58, 34, 347, 348, 349, 350, 63, 64, 65, 66, 351, 352, 353, 354, 243, 185, 145, 186, 202, 144, 146, 78, 68, 69, 70, 30, 71, 72, 73, 79, 80, 81, 82, 59, 60, 61, 62, 67, 74, 75, 76, 77, 83, 84, 85, 86, 87, 88, 89, 90, 91, 92, 93, 94, 95, 96, 97, 98, 99, 100, 101, 102, 103, 104, 105, 106, 107, 108, 109, 110, 111, 112, 113, 114, 115, 116, 117, 118, 119, 120, 121, 122, 123, 124, 125, 126, 127, 128, 31, 355, 356, 357, 358, 359, 360, 361, 362, 363, 364, 365, 366, 367, 368, 369, 370, 371, 372, 373, 374, 375, 280, 281, 282, 283, 284, 285, 286, 287, 288, 289, 290, 291, 292, 293, 294, 295, 296, 297, 298, 299, 300, 301, 302, 303, 304, 305, 306, 307, 308, 309, 520, 521, 522, 523, 524, 525, 526, 527, 528] rfl (by decide +kernel)
set_option maxRecDepth 20000 in
theorem gL_law_L_two : GoodIn wsL_law (va_wsS RL 135 yL_two wsL_two) := goodIn_app (goodIn_of _ (by decide +kernel)) ggL_law_L_two
set_option maxRecDepth 20000 in
theorem ggL_law_L_labels : GoodIn wsL_law wsL_labels := goodIn_r _ [378, 59, 60, 61, 2, 62, 12, 63, 64, 65, 11, 66, 34, 67, 68, 69, 70, 30, 71, 72, 73, 74, 75, 76, 77, 78, 79, 80, 81, 82, 83, 84, 85, 86, 87, 88, 89, 90, 91, 92, 93, 94, 95, 96, 97, 98, 99, 100, 101, 102, 103, 104, 105, 106, 107, 108, 109, 110, 111, 112, 113, 114, 115, 116, 117, 118, 119, 120, 121, 122, 123, 124, 125, 126, 127, 128, 31, 379, 380, 381, 382, 228, 229, 230, 383, 384, 385, 386, 175, 387, 388, 389, 390, 391, 392, 393, 394, 51, 52, 53, 54, 55, 56, 57, 58, 395, 396, 397, 398, 399, 400, 401, 402, 275, 276, 277, 278, 279, 236, 237, 238, 403, 404, 405, 406, 407, 408, 409, 410, 411, 412, 413, 414, 415, 416, 417, 418, 419, 520, 521, 522, 523, 524, 525, 526, 527, 528] rfl (by decide +kernel)
set_option maxRecDepth 20000 in
theorem gL_law_L_labels : GoodIn wsL_law (va_wsS RL 139 yL_labels wsL_labels) := goodIn_app (goodIn_of _ (by decide +kernel)) ggL_law_L_labels
set_option maxRecDepth 20000 in
theorem ggL_law_X4_setWidth : GoodIn wsL_law wsX4_setWidth := goodIn_r _ [423, 16, 424, 425, 426, 15, 427, 40, 520, 521, 522, 523, 529] (by decide +kernel) (by decide +kernel)
set_option maxRecDepth 20000 in
theorem gL_law_X4_setWidth : GoodIn wsL_law (wsV RL 120 RX4 yX4_setWidth wsX4_setWidth) := goodIn_app (goodIn_of _ (by decide +kernel)) ggL_law_X4_setWidth
set_option maxRecDepth 20000 in
theorem ggL_law_L_blocks : GoodIn wsL_law wsL_blocks := goodIn_r _ [430, 51, 52, 53, 2, 54, 12, 55, 56, 57, 11, 58, 34, 431, 432, 433, 434, 16, 435, 436, 437, 438, 439, 440, 15, 441, 40, 442, 144, 145, 146, 443, 315, 316, 317, 444, 445, 446, 447, 448, 449, 450, 451, 330, 327, 328, 329, 322, 323, 324, 325, 119, 112, 113, 114, 78, 68, 69, 70, 30, 71, 64, 65, 66, 72, 73, 452, 453, 454, 455, 456, 185, 186, 457, 458, 459, 460, 461, 462, 463, 464, 465, 466, 467, 468, 469, 470, 471, 472, 473, 474, 310, 311, 312, 313, 314, 318, 319, 320, 321, 326, 79, 80, 81, 82, 111, 115, 116, 117, 118, 120, 92, 93, 94, 87, 88, 89, 90, 74, 75, 76, 77, 520, 521, 522, 523, 524, 525, 526, 527, 528, 529] rfl (by decide +kernel)
set_option maxRecDepth 20000 in
theorem gL_law_L_blocks : GoodIn wsL_law (va_wsS RL 142 yL_blocks wsL_blocks) := goodIn_app (goodIn_of _ (by decide +kernel)) ggL_law_L_blocks
set_option maxRecDepth 20000 in
theorem ggL_law_L_texts : GoodIn wsL_law wsL_texts := goodIn_r _ [477, 159, 160, 161, 2, 162, 12, 163, 164, 165, 11, 166, 34, 167, 168, 169, 170, 107, 108, 109, 110, 78, 68, 69, 70, 30, 71, 64, 65, 66, 72, 73, 171, 172, 173, 174, 175, 126, 127, 128, 31, 215, 216, 205, 217, 218, 219, 51, 52, 53, 54, 55, 56, 57, 58, 59, 60, 61, 62, 63, 67, 74, 75, 76, 77, 79, 80, 81, 82, 83, 84, 85, 86, 87, 88, 89, 90, 91, 92, 93, 94, 95, 96, 97, 98, 99, 100, 101, 102, 103, 104, 105, 106, 111, 112, 113, 114, 115, 116, 117, 118, 119, 120, 121, 122, 123, 124, 125, 478, 479, 480, 481, 24, 482, 483, 484, 23, 485, 486, 487, 488, 489, 490, 491, 492, 493, 494, 50, 35, 36, 495, 496, 497, 498, 20, 499, 500, 501, 502, 503, 504, 505, 506, 229, 230, 507, 508, 509, 510, 180, 181, 182, 19, 183, 142, 44, 45, 46, 137, 184, 185, 145, 186, 187, 188, 189, 511, 512, 513, 514, 515, 148, 149, 150, 516, 152, 153, 154, 155, 156, 157, 158, 129, 130, 131, 132, 133, 134, 135, 136, 138, 139, 140, 141, 143, 144, 146, 147, 151, 520, 521, 522, 523, 524, 525, 526, 527, 528, 535, 536, 530, 531, 532, 533, 534] rfl (by decide +kernel)
set_option maxRecDepth 20000 in
theorem gL_law_L_texts : GoodIn wsL_law (va_wsS RL 145 yL_texts wsL_texts) := goodIn_app (goodIn_of _ (by decide +kernel)) ggL_law_L_texts
set_option maxRecDepth 20000 in
theorem ggL_law_L_errors : GoodIn wsL_law wsL_errors := goodIn_r _ [519, 51, 52, 53, 2, 54, 12, 55, 56, 57, 11, 58, 34, 59, 60, 61, 62, 63, 64, 65, 66, 67, 68, 69, 70, 30, 71, 72, 73, 74, 75, 76, 77, 78, 79, 80, 81, 82, 83, 84, 85, 86, 87, 88, 89, 90, 91, 92, 93, 94, 95, 96, 97, 98, 99, 100, 101, 102, 103, 104, 105, 106, 107, 108, 109, 110, 111, 112, 113, 114, 115, 116, 117, 118, 119, 120, 121, 122, 123, 124, 125, 126, 127, 128, 31, 275, 276, 277, 278, 279, 236, 237, 238, 280, 281, 282, 283, 284, 285, 286, 287, 288, 289, 290, 291, 292, 293, 294, 295, 296, 297, 298, 299, 300, 301, 302, 303, 304, 305, 306, 307, 308, 309, 355, 356, 357, 358, 359, 347, 348, 349, 350, 351, 352, 353, 354, 243, 185, 145, 186, 202, 144, 146, 360, 361, 362, 363, 335, 336, 337, 338, 339, 340, 341, 342, 343, 331, 332, 333, 334, 310, 311, 312, 313, 314, 315, 316, 317, 318, 319, 320, 321, 322, 323, 324, 325, 326, 327, 328, 329, 330, 420, 421, 422, 423, 16, 424, 425, 426, 15, 427, 40, 444, 445, 446, 447, 438, 439, 440, 441, 442, 443, 448, 449, 450, 451, 452, 453, 454, 455, 456, 457, 458, 459, 460, 461, 462, 463, 464, 465, 466, 467, 468, 469, 470, 471, 472, 473, 474, 267, 268, 269, 270, 20, 228, 229, 230, 180, 181, 182, 19, 183, 142, 44, 45, 46, 137, 184, 187, 35, 36, 188, 189, 271, 156, 157, 158, 379, 380, 381, 382, 383, 384, 385, 386, 175, 387, 388, 389, 390, 391, 392, 393, 394, 412, 413, 414, 415, 416, 417, 418, 419, 395, 396, 397, 398, 399, 400, 401, 402, 403, 404, 405, 406, 407, 408, 409, 410, 411, 220, 221, 222, 223, 224, 225, 226, 227, 231, 232, 233, 234, 235, 194, 195, 196, 197, 155, 239, 240, 241, 242, 244, 176, 177, 178, 179, 190, 191, 192, 193, 198, 199, 200, 201, 245, 246, 247, 248, 249, 250, 251, 252, 253, 254, 255, 256, 257, 258, 259, 260, 261, 262, 32, 33, 263, 264, 265, 266, 520, 521, 522, 523, 524, 525, 526, 527, 528, 529, 530, 531, 532, 533, 534] rfl (by decide +kernel)
set_option maxRecDepth 20000 in
theorem gL_law_L_errors : GoodIn wsL_law (va_wsS RL 148 yL_errors wsL_errors) := goodIn_app (goodIn_of _ (by decide +kernel)) ggL_law_L_errors
theorem dL_law_0 : decode cL_law 0 = .ok (.new 10, 3) := by decide +kernel
theorem dL_law_3 : decode cL_law 3 = .ok (.dup, 1) := by decide +kernel
theorem dL_law_4 : decode cL_law 4 = .ok (.invokespecial 123, 3) := by decide +kernel
theorem dL_law_7 : decode cL_law 7 = .ok (.astore_n 1, 1) := by decide +kernel
theorem dL_law_8 : decode cL_law 8 = .ok (.bipush 8, 2) := by decide +kernel
theorem dL_law_10 : decode cL_law 10 = .ok (.istore_n 2, 1) := by decide +kernel
theorem dL_law_11 : decode cL_law 11 = .ok (.iconst 0, 1) := by decide +kernel
theorem dL_law_12 : decode cL_law 12 = .ok (.istore_n 3, 1) := by decide +kernel
theorem dL_law_13 : decode cL_law 13 = .ok (.aload_n 1, 1) := by decide +kernel
theorem dL_law_14 : decode cL_law 14 = .ok (.invokevirtual 9, 3) := by decide +kernel
theorem dL_law_17 : decode cL_law 17 = .ok (.iconst 1, 1) := by decide +kernel
theorem dL_law_18 : decode cL_law 18 = .ok (.if_icmp .ne 43, 3) := by decide +kernel
theorem dL_law_21 : decode cL_law 21 = .ok (.aload_n 1, 1) := by decide +kernel
theorem dL_law_22 : decode cL_law 22 = .ok (.iconst 0, 1) := by decide +kernel
theorem dL_law_23 : decode cL_law 23 = .ok (.bipush 10, 2) := by decide +kernel
theorem dL_law_25 : decode cL_law 25 = .ok (.invokevirtual 15, 3) := by decide +kernel
theorem dL_law_28 : decode cL_law 28 = .ok (.bipush 97, 2) := by decide +kernel
theorem dL_law_30 : decode cL_law 30 = .ok (.if_icmp .ne 31, 3) := by decide +kernel
theorem dL_law_33 : decode cL_law 33 = .ok (.aload_n 1, 1) := by decide +kernel
theorem dL_law_34 : decode cL_law 34 = .ok (.invokevirtual 94, 3) := by decide +kernel
theorem dL_law_37 : decode cL_law 37 = .ok (.bipush (-5), 2) := by decide +kernel
theorem dL_law_39 : decode cL_law 39 = .ok (.if_icmp .ne 22, 3) := by decide +kernel
theorem dL_law_42 : decode cL_law 42 = .ok (.aload_n 1, 1) := by decide +kernel
theorem dL_law_43 : decode cL_law 43 = .ok (.iconst (-1), 1) := by decide +kernel
theorem dL_law_44 : decode cL_law 44 = .ok (.invokevirtual 75, 3) := by decide +kernel
theorem dL_law_47 : decode cL_law 47 = .ok (.iconst 1, 1) := by decide +kernel
theorem dL_law_48 : decode cL_law 48 = .ok (.if_icmp .ne 13, 3) := by decide +kernel
theorem dL_law_51 : decode cL_law 51 = .ok (.aload_n 1, 1) := by decide +kernel
theorem dL_law_52 : decode cL_law 52 = .ok (.iconst 0, 1) := by decide +kernel
theorem dL_law_53 : decode cL_law 53 = .ok (.invokevirtual 108, 3) := by decide +kernel
theorem dL_law_56 : decode cL_law 56 = .ok (.bipush (-3), 2) := by decide +kernel
theorem dL_law_58 : decode cL_law 58 = .ok (.if_icmp .eq 5, 3) := by decide +kernel
theorem dL_law_61 : decode cL_law 61 = .ok (.iconst 0, 1) := by decide +kernel
theorem dL_law_62 : decode cL_law 62 = .ok (.ireturn, 1) := by decide +kernel
theorem dL_law_63 : decode cL_law 63 = .ok (.iconst 0, 1) := by decide +kernel
theorem dL_law_64 : decode cL_law 64 = .ok (.istore 4, 2) := by decide +kernel
theorem dL_law_66 : decode cL_law 66 = .ok (.iload 4, 2) := by decide +kernel
theorem dL_law_68 : decode cL_law 68 = .ok (.bipush 40, 2) := by decide +kernel
theorem dL_law_70 : decode cL_law 70 = .ok (.if_icmp .ge 216, 3) := by decide +kernel
theorem dL_law_73 : decode cL_law 73 = .ok (.aload_n 0, 1) := by decide +kernel
theorem dL_law_74 : decode cL_law 74 = .ok (.iconst 2, 1) := by decide +kernel
theorem dL_law_75 : decode cL_law 75 = .ok (.iload 4, 2) := by decide +kernel
theorem dL_law_77 : decode cL_law 77 = .ok (.imul, 1) := by decide +kernel
theorem dL_law_78 : decode cL_law 78 = .ok (.invokestatic 124, 3) := by decide +kernel
theorem dL_law_81 : decode cL_law 81 = .ok (.istore 5, 2) := by decide +kernel
theorem dL_law_83 : decode cL_law 83 = .ok (.aload_n 0, 1) := by decide +kernel
theorem dL_law_84 : decode cL_law 84 = .ok (.iconst 2, 1) := by decide +kernel
theorem dL_law_85 : decode cL_law 85 = .ok (.iload 4, 2) := by decide +kernel
theorem dL_law_87 : decode cL_law 87 = .ok (.imul, 1) := by decide +kernel
theorem dL_law_88 : decode cL_law 88 = .ok (.iconst 1, 1) := by decide +kernel
theorem dL_law_89 : decode cL_law 89 = .ok (.iadd, 1) := by decide +kernel
theorem dL_law_90 : decode cL_law 90 = .ok (.invokestatic 124, 3) := by decide +kernel
theorem dL_law_93 : decode cL_law 93 = .ok (.istore 6, 2) := by decide +kernel
theorem dL_law_95 : decode cL_law 95 = .ok (.aload_n 1, 1) := by decide +kernel
theorem dL_law_96 : decode cL_law 96 = .ok (.iload 4, 2) := by decide +kernel
theorem dL_law_98 : decode cL_law 98 = .ok (.bipush 14, 2) := by decide +kernel
theorem dL_law_100 : decode cL_law 100 = .ok (.if_icmp .ge 12, 3) := by decide +kernel
theorem dL_law_103 : decode cL_law 103 = .ok (.iload 5, 2) := by decide +kernel
theorem dL_law_105 : decode cL_law 105 = .ok (.iconst 3, 1) := by decide +kernel
theorem dL_law_106 : decode cL_law 106 = .ok (.invokestatic 97, 3) := by decide +kernel
theorem dL_law_109 : decode cL_law 109 = .ok (.goto 10, 3) := by decide +kernel
theorem dL_law_112 : decode cL_law 112 = .ok (.iload 5, 2) := by decide +kernel
theorem dL_law_114 : decode cL_law 114 = .ok (.bipush 7, 2) := by decide +kernel
theorem dL_law_116 : decode cL_law 116 = .ok (.invokestatic 97, 3) := by decide +kernel
theorem dL_law_119 : decode cL_law 119 = .ok (.iload 5, 2) := by decide +kernel
theorem dL_law_121 : decode cL_law 121 = .ok (.iload 6, 2) := by decide +kernel
theorem dL_law_123 : decode cL_law 123 = .ok (.iload_n 3, 1) := by decide +kernel
theorem dL_law_124 : decode cL_law 124 = .ok (.invokestatic 128, 3) := by decide +kernel
theorem dL_law_127 : decode cL_law 127 = .ok (.istore_n 3, 1) := by decide +kernel
theorem dL_law_128 : decode cL_law 128 = .ok (.iload_n 3, 1) := by decide +kernel
theorem dL_law_129 : decode cL_law 129 = .ok (.ifCond .ge 5, 3) := by decide +kernel
theorem dL_law_132 : decode cL_law 132 = .ok (.iconst 0, 1) := by decide +kernel
theorem dL_law_133 : decode cL_law 133 = .ok (.ireturn, 1) := by decide +kernel
theorem dL_law_134 : decode cL_law 134 = .ok (.aload_n 1, 1) := by decide +kernel
theorem dL_law_135 : decode cL_law 135 = .ok (.invokevirtual 9, 3) := by decide +kernel
theorem dL_law_138 : decode cL_law 138 = .ok (.istore 7, 2) := by decide +kernel
theorem dL_law_140 : decode cL_law 140 = .ok (.iload 6, 2) := by decide +kernel
theorem dL_law_142 : decode cL_law 142 = .ok (.bipush 6, 2) := by decide +kernel
theorem dL_law_144 : decode cL_law 144 = .ok (.ishr, 1) := by decide +kernel
theorem dL_law_145 : decode cL_law 145 = .ok (.iload 7, 2) := by decide +kernel
theorem dL_law_147 : decode cL_law 147 = .ok (.invokestatic 97, 3) := by decide +kernel
theorem dL_law_150 : decode cL_law 150 = .ok (.istore 8, 2) := by decide +kernel
theorem dL_law_152 : decode cL_law 152 = .ok (.iload 6, 2) := by decide +kernel
theorem dL_law_154 : decode cL_law 154 = .ok (.bipush 13, 2) := by decide +kernel
theorem dL_law_156 : decode cL_law 156 = .ok (.ishr, 1) := by decide +kernel
theorem dL_law_157 : decode cL_law 157 = .ok (.iload 7, 2) := by decide +kernel
theorem dL_law_159 : decode cL_law 159 = .ok (.invokestatic 97, 3) := by decide +kernel
theorem dL_law_162 : decode cL_law 162 = .ok (.istore 9, 2) := by decide +kernel
theorem dL_law_164 : decode cL_law 164 = .ok (.aload_n 1, 1) := by decide +kernel
theorem dL_law_165 : decode cL_law 165 = .ok (.iload 8, 2) := by decide +kernel
theorem dL_law_167 : decode cL_law 167 = .ok (.invokestatic 132, 3) := by decide +kernel
theorem dL_law_170 : decode cL_law 170 = .ok (.ifCond .eq 34, 3) := by decide +kernel
theorem dL_law_173 : decode cL_law 173 = .ok (.aload_n 1, 1) := by decide +kernel
theorem dL_law_174 : decode cL_law 174 = .ok (.iload 9, 2) := by decide +kernel
theorem dL_law_176 : decode cL_law 176 = .ok (.invokestatic 132, 3) := by decide +kernel
theorem dL_law_179 : decode cL_law 179 = .ok (.ifCond .eq 25, 3) := by decide +kernel
theorem dL_law_182 : decode cL_law 182 = .ok (.aload_n 1, 1) := by decide +kernel
theorem dL_law_183 : decode cL_law 183 = .ok (.iload 8, 2) := by decide +kernel
theorem dL_law_185 : decode cL_law 185 = .ok (.iload 9, 2) := by decide +kernel
theorem dL_law_187 : decode cL_law 187 = .ok (.invokestatic 135, 3) := by decide +kernel
theorem dL_law_190 : decode cL_law 190 = .ok (.ifCond .eq 14, 3) := by decide +kernel
theorem dL_law_193 : decode cL_law 193 = .ok (.aload_n 1, 1) := by decide +kernel
theorem dL_law_194 : decode cL_law 194 = .ok (.iload 8, 2) := by decide +kernel
theorem dL_law_196 : decode cL_law 196 = .ok (.iload 9, 2) := by decide +kernel
theorem dL_law_198 : decode cL_law 198 = .ok (.invokestatic 139, 3) := by decide +kernel
theorem dL_law_201 : decode cL_law 201 = .ok (.ifCond .ne 5, 3) := by decide +kernel
theorem dL_law_204 : decode cL_law 204 = .ok (.iconst 0, 1) := by decide +kernel
theorem dL_law_205 : decode cL_law 205 = .ok (.ireturn, 1) := by decide +kernel
theorem dL_law_206 : decode cL_law 206 = .ok (.iload 4, 2) := by decide +kernel
theorem dL_law_208 : decode cL_law 208 = .ok (.iconst 4, 1) := by decide +kernel
theorem dL_law_209 : decode cL_law 209 = .ok (.irem, 1) := by decide +kernel
theorem dL_law_210 : decode cL_law 210 = .ok (.iconst 3, 1) := by decide +kernel
theorem dL_law_211 : decode cL_law 211 = .ok (.if_icmp .ne 69, 3) := by decide +kernel
theorem dL_law_214 : decode cL_law 214 = .ok (.aload_n 1, 1) := by decide +kernel
theorem dL_law_215 : decode cL_law 215 = .ok (.iconst 4, 1) := by decide +kernel
theorem dL_law_216 : decode cL_law 216 = .ok (.iload 5, 2) := by decide +kernel
theorem dL_law_218 : decode cL_law 218 = .ok (.bipush 9, 2) := by decide +kernel
theorem dL_law_220 : decode cL_law 220 = .ok (.ishr, 1) := by decide +kernel
theorem dL_law_221 : decode cL_law 221 = .ok (.bipush 29, 2) := by decide +kernel
theorem dL_law_223 : decode cL_law 223 = .ok (.invokestatic 97, 3) := by decide +kernel
theorem dL_law_226 : decode cL_law 226 = .ok (.iadd, 1) := by decide +kernel
theorem dL_law_227 : decode cL_law 227 = .ok (.invokevirtual 120, 3) := by decide +kernel
theorem dL_law_230 : decode cL_law 230 = .ok (.iload_n 2, 1) := by decide +kernel
theorem dL_law_231 : decode cL_law 231 = .ok (.if_icmp .eq 5, 3) := by decide +kernel
theorem dL_law_234 : decode cL_law 234 = .ok (.iconst 0, 1) := by decide +kernel
theorem dL_law_235 : decode cL_law 235 = .ok (.ireturn, 1) := by decide +kernel
theorem dL_law_236 : decode cL_law 236 = .ok (.iconst 4, 1) := by decide +kernel
theorem dL_law_237 : decode cL_law 237 = .ok (.iload 5, 2) := by decide +kernel
theorem dL_law_239 : decode cL_law 239 = .ok (.bipush 9, 2) := by decide +kernel
theorem dL_law_241 : decode cL_law 241 = .ok (.ishr, 1) := by decide +kernel
theorem dL_law_242 : decode cL_law 242 = .ok (.bipush 29, 2) := by decide +kernel
theorem dL_law_244 : decode cL_law 244 = .ok (.invokestatic 97, 3) := by decide +kernel
theorem dL_law_247 : decode cL_law 247 = .ok (.iadd, 1) := by decide +kernel
theorem dL_law_248 : decode cL_law 248 = .ok (.istore_n 2, 1) := by decide +kernel
theorem dL_law_249 : decode cL_law 249 = .ok (.aload_n 1, 1) := by decide +kernel
theorem dL_law_250 : decode cL_law 250 = .ok (.iload_n 2, 1) := by decide +kernel
theorem dL_law_251 : decode cL_law 251 = .ok (.invokestatic 142, 3) := by decide +kernel
theorem dL_law_254 : decode cL_law 254 = .ok (.ifCond .eq 11, 3) := by decide +kernel
theorem dL_law_257 : decode cL_law 257 = .ok (.aload_n 1, 1) := by decide +kernel
theorem dL_law_258 : decode cL_law 258 = .ok (.iload_n 3, 1) := by decide +kernel
theorem dL_law_259 : decode cL_law 259 = .ok (.invokestatic 145, 3) := by decide +kernel
theorem dL_law_262 : decode cL_law 262 = .ok (.ifCond .ne 5, 3) := by decide +kernel
theorem dL_law_265 : decode cL_law 265 = .ok (.iconst 0, 1) := by decide +kernel
theorem dL_law_266 : decode cL_law 266 = .ok (.ireturn, 1) := by decide +kernel
theorem dL_law_267 : decode cL_law 267 = .ok (.iload_n 3, 1) := by decide +kernel
theorem dL_law_268 : decode cL_law 268 = .ok (.bipush 15, 2) := by decide +kernel
theorem dL_law_270 : decode cL_law 270 = .ok (.if_icmp .ge 7, 3) := by decide +kernel
theorem dL_law_273 : decode cL_law 273 = .ok (.iload_n 3, 1) := by decide +kernel
theorem dL_law_274 : decode cL_law 274 = .ok (.goto 5, 3) := by decide +kernel
theorem dL_law_277 : decode cL_law 277 = .ok (.bipush 14, 2) := by decide +kernel
theorem dL_law_279 : decode cL_law 279 = .ok (.istore_n 3, 1) := by decide +kernel
theorem dL_law_280 : decode cL_law 280 = .ok (.iinc 4 1, 3) := by decide +kernel
theorem dL_law_283 : decode cL_law 283 = .ok (.goto (-217), 3) := by decide +kernel
theorem dL_law_286 : decode cL_law 286 = .ok (.iload_n 3, 1) := by decide +kernel
theorem dL_law_287 : decode cL_law 287 = .ok (.ifCond .le 16, 3) := by decide +kernel
theorem dL_law_290 : decode cL_law 290 = .ok (.iinc 3 (-1), 3) := by decide +kernel
theorem dL_law_293 : decode cL_law 293 = .ok (.aload_n 1, 1) := by decide +kernel
theorem dL_law_294 : decode cL_law 294 = .ok (.invokevirtual 94, 3) := by decide +kernel
theorem dL_law_297 : decode cL_law 297 = .ok (.iload_n 3, 1) := by decide +kernel
theorem dL_law_298 : decode cL_law 298 = .ok (.if_icmp .eq (-12), 3) := by decide +kernel
theorem dL_law_301 : decode cL_law 301 = .ok (.iconst 0, 1) := by decide +kernel
theorem dL_law_302 : decode cL_law 302 = .ok (.ireturn, 1) := by decide +kernel
theorem dL_law_303 : decode cL_law 303 = .ok (.aload_n 1, 1) := by decide +kernel
theorem dL_law_304 : decode cL_law 304 = .ok (.invokevirtual 94, 3) := by decide +kernel
theorem dL_law_307 : decode cL_law 307 = .ok (.bipush (-5), 2) := by decide +kernel
theorem dL_law_309 : decode cL_law 309 = .ok (.if_icmp .ne 14, 3) := by decide +kernel
theorem dL_law_312 : decode cL_law 312 = .ok (.aload_n 1, 1) := by decide +kernel
theorem dL_law_313 : decode cL_law 313 = .ok (.invokestatic 148, 3) := by decide +kernel
theorem dL_law_316 : decode cL_law 316 = .ok (.ifCond .eq 7, 3) := by decide +kernel
theorem dL_law_319 : decode cL_law 319 = .ok (.iconst 1, 1) := by decide +kernel
theorem dL_law_320 : decode cL_law 320 = .ok (.goto 4, 3) := by decide +kernel
theorem dL_law_323 : decode cL_law 323 = .ok (.iconst 0, 1) := by decide +kernel
theorem dL_law_324 : decode cL_law 324 = .ok (.ireturn, 1) := by decide +kernel
abbrev vwCl : List vw_C := [(RX0, TX0, 1), (RX1, TX1, 5), (RX2, TX2, 2), (RX3, TX3, 5), (RX4, TX4, 4)]
end
