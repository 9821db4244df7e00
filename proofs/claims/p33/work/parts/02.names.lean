/-! ===== BEGIN words of one list among another's, by their places ===== -/
theorem goodIn_r {big : List Cond} (ws : List Cond) (ps : List Nat) (hp : ws = ps.filterMap (fun i => big[i]?)) (h : ws.all goodWord = true) : GoodIn big ws := by
  intro w hw
  have h1 := List.all_eq_true.mp h w hw
  rw [hp] at hw
  obtain ⟨i, -, hi⟩ := List.mem_filterMap.mp hw
  have hm : w ∈ big := by first | exact List.mem_of_getElem? hi | exact List.getElem?_mem hi
  exact ⟨hm, good_of_word h1⟩
theorem goodIn_app {big a b : List Cond} (ha : GoodIn big a) (hb : GoodIn big b) : GoodIn big (a ++ b) := fun w h => (List.mem_append.mp h).elim (ha w) (hb w)
theorem goodIn_ca {big a b : List Cond} {c : Cond} (ha : GoodIn big (c :: a)) (hb : GoodIn big b) : GoodIn big (c :: (a ++ b)) := fun w h => (List.mem_cons.mp h).elim (fun e => ha w (List.mem_cons.mpr (Or.inl e))) (fun h => (List.mem_append.mp h).elim (fun h => ha w (List.mem_cons.mpr (Or.inr h))) (hb w))
theorem goodIn_sub {big ws : List Cond} (hm : ∀ w ∈ ws, w ∈ big) (h : ws.all goodWord = true) : GoodIn big ws := fun w hw => ⟨hm w hw, good_of_word (List.all_eq_true.mp h w hw)⟩
/-! ===== END ===== -/

/-! ===== BEGIN printed: names, fields, word lists, decode rows ===== -/
def RX0 : String := "RectangleTree$Changes"
def TX0 : u_T := fun k => match k with
  | 0 => ("RectangleTree$Changes", "tree", "LRectangleTree$Tree;", true)
  | 1 => ("RectangleTree$Changes", "kept", "[I", true)
  | 2 => ("RectangleTree$Changes", "keptCount", "I", false)
  | 3 => ("RectangleTree$Changes", "pool", "[I", true)
  | 4 => ("RectangleTree$Changes", "left", "I", false)
  | 5 => ("RectangleTree$Changes", "treatedLevels", "J", false)
  | 6 => ("RectangleTree$Changes", "looseBoxes", "LRectangleTree$Walk;", true)
  | _ => ("RectangleTree$Changes", "looseNodes", "LRectangleTree$Walk;", true)
def tyX0 : Nat → FieldType := fun k => match k with
  | 0 => .object "RectangleTree$Tree"
  | 1 => .array .int
  | 2 => .int
  | 3 => .array .int
  | 4 => .int
  | 5 => .long
  | 6 => .object "RectangleTree$Walk"
  | _ => .object "RectangleTree$Walk"
abbrev wsX00 : List Cond := u_ws RX0 TX0 8
theorem nmX0 : ∀ a, a < 8 → ∀ b, b < 8 → a ≠ b → (TX0 a).2.1 ≠ (TX0 b).2.1 := by decide +kernel
theorem tyX0_ok : ∀ k, k < 8 → parseFieldDescriptor (TX0 k).2.2.1 = some (tyX0 k) := by decide +kernel
abbrev cX0_init : ByteArray := prog_2_method_1_code
def yX0_init : MethodName := ⟨RX0, "<init>", "(LRectangleTree$Tree;)V"⟩
abbrev cX0_insertOwn : ByteArray := prog_2_method_2_code
def yX0_insertOwn : MethodName := ⟨RX0, "insertOwn", "(I)V"⟩
abbrev cX0_targetFor : ByteArray := prog_2_method_3_code
def yX0_targetFor : MethodName := ⟨RX0, "targetFor", "(I)I"⟩
abbrev cX0_bestEntry : ByteArray := prog_2_method_4_code
def yX0_bestEntry : MethodName := ⟨RX0, "bestEntry", "(II)I"⟩
abbrev cX0_mayReinsert : ByteArray := prog_2_method_5_code
def yX0_mayReinsert : MethodName := ⟨RX0, "mayReinsert", "(I)Z"⟩
abbrev cX0_reinsertFarthest : ByteArray := prog_2_method_6_code
def yX0_reinsertFarthest : MethodName := ⟨RX0, "reinsertFarthest", "(I)I"⟩
abbrev cX0_farthestEntry : ByteArray := prog_2_method_7_code
def yX0_farthestEntry : MethodName := ⟨RX0, "farthestEntry", "(I)I"⟩
abbrev cX0_splitNode : ByteArray := prog_2_method_8_code
def yX0_splitNode : MethodName := ⟨RX0, "splitNode", "(I)I"⟩
abbrev cX0_fillPool : ByteArray := prog_2_method_9_code
def yX0_fillPool : MethodName := ⟨RX0, "fillPool", "(I)V"⟩
abbrev cX0_findSeeds : ByteArray := prog_2_method_10_code
def yX0_findSeeds : MethodName := ⟨RX0, "findSeeds", "()I"⟩
abbrev cX0_mostDecided : ByteArray := prog_2_method_11_code
def yX0_mostDecided : MethodName := ⟨RX0, "mostDecided", "(II)I"⟩
abbrev cX0_betterGroup : ByteArray := prog_2_method_12_code
def yX0_betterGroup : MethodName := ⟨RX0, "betterGroup", "(III)I"⟩
abbrev cX0_giveTo : ByteArray := prog_2_method_13_code
def yX0_giveTo : MethodName := ⟨RX0, "giveTo", "(II)V"⟩
abbrev cX0_giveAllTo : ByteArray := prog_2_method_14_code
def yX0_giveAllTo : MethodName := ⟨RX0, "giveAllTo", "(I)V"⟩
abbrev cX0_takeOutBox : ByteArray := prog_2_method_15_code
def yX0_takeOutBox : MethodName := ⟨RX0, "takeOutBox", "(I)V"⟩
abbrev cX0_keepEntriesOf : ByteArray := prog_2_method_16_code
def yX0_keepEntriesOf : MethodName := ⟨RX0, "keepEntriesOf", "(I)V"⟩
abbrev cX0_putBackKept : ByteArray := prog_2_method_17_code
def yX0_putBackKept : MethodName := ⟨RX0, "putBackKept", "()V"⟩
abbrev cX0_dissolve : ByteArray := prog_2_method_18_code
def yX0_dissolve : MethodName := ⟨RX0, "dissolve", "(I)V"⟩
def RX1 : String := "RectangleTree$History"
def TX1 : u_T := fun k => match k with
  | 0 => ("RectangleTree$History", "states", "[LRectangleTree$Tree;", true)
  | _ => ("RectangleTree$History", "count", "I", false)
def tyX1 : Nat → FieldType := fun k => match k with
  | 0 => .array (.object "RectangleTree$Tree")
  | _ => .int
abbrev wsX10 : List Cond := u_ws RX1 TX1 2
theorem nmX1 : ∀ a, a < 2 → ∀ b, b < 2 → a ≠ b → (TX1 a).2.1 ≠ (TX1 b).2.1 := by decide +kernel
theorem tyX1_ok : ∀ k, k < 2 → parseFieldDescriptor (TX1 k).2.2.1 = some (tyX1 k) := by decide +kernel
abbrev cX1_init : ByteArray := prog_3_method_1_code
def yX1_init : MethodName := ⟨RX1, "<init>", "()V"⟩
abbrev cX1_record : ByteArray := prog_3_method_2_code
def yX1_record : MethodName := ⟨RX1, "record", "(LRectangleTree$Tree;)V"⟩
abbrev cX1_dropOldest : ByteArray := prog_3_method_3_code
def yX1_dropOldest : MethodName := ⟨RX1, "dropOldest", "()V"⟩
def RX2 : String := "RectangleTree$Packing"
def TX2 : u_T := fun k => match k with
  | 0 => ("RectangleTree$Packing", "tree", "LRectangleTree$Tree;", true)
  | _ => ("RectangleTree$Packing", "row", "[I", true)
def tyX2 : Nat → FieldType := fun k => match k with
  | 0 => .object "RectangleTree$Tree"
  | _ => .array .int
abbrev wsX20 : List Cond := u_ws RX2 TX2 2
theorem nmX2 : ∀ a, a < 2 → ∀ b, b < 2 → a ≠ b → (TX2 a).2.1 ≠ (TX2 b).2.1 := by decide +kernel
theorem tyX2_ok : ∀ k, k < 2 → parseFieldDescriptor (TX2 k).2.2.1 = some (tyX2 k) := by decide +kernel
abbrev cX2_init : ByteArray := prog_4_method_1_code
def yX2_init : MethodName := ⟨RX2, "<init>", "(LRectangleTree$Tree;)V"⟩
abbrev cX2_rebuild : ByteArray := prog_4_method_2_code
def yX2_rebuild : MethodName := ⟨RX2, "rebuild", "()V"⟩
abbrev cX2_listBoxes : ByteArray := prog_4_method_3_code
def yX2_listBoxes : MethodName := ⟨RX2, "listBoxes", "()I"⟩
abbrev cX2_leastRoot : ByteArray := prog_4_method_4_code
def yX2_leastRoot : MethodName := ⟨RX2, "leastRoot", "(I)I"⟩
abbrev cX2_sortPart : ByteArray := prog_4_method_5_code
def yX2_sortPart : MethodName := ⟨RX2, "sortPart", "(III)V"⟩
abbrev cX2_comesAhead : ByteArray := prog_4_method_6_code
def yX2_comesAhead : MethodName := ⟨RX2, "comesAhead", "(III)Z"⟩
abbrev cX2_groupRow : ByteArray := prog_4_method_7_code
def yX2_groupRow : MethodName := ⟨RX2, "groupRow", "(II)I"⟩
def RX3 : String := "RectangleTree$RectangleText"
def TX3 : u_T := fun k => match k with
  | 0 => ("RectangleTree$RectangleText", "characters", "[I", true)
  | 1 => ("RectangleTree$RectangleText", "length", "I", false)
  | 2 => ("RectangleTree$RectangleText", "parts", "[I", true)
  | 3 => ("RectangleTree$RectangleText", "rectangles", "I", false)
  | 4 => ("RectangleTree$RectangleText", "part", "I", false)
  | 5 => ("RectangleTree$RectangleText", "digits", "I", false)
  | _ => ("RectangleTree$RectangleText", "value", "I", false)
def tyX3 : Nat → FieldType := fun k => match k with
  | 0 => .array .int
  | 1 => .int
  | 2 => .array .int
  | 3 => .int
  | 4 => .int
  | 5 => .int
  | _ => .int
abbrev wsX30 : List Cond := u_ws RX3 TX3 7
theorem nmX3 : ∀ a, a < 7 → ∀ b, b < 7 → a ≠ b → (TX3 a).2.1 ≠ (TX3 b).2.1 := by decide +kernel
theorem tyX3_ok : ∀ k, k < 7 → parseFieldDescriptor (TX3 k).2.2.1 = some (tyX3 k) := by decide +kernel
abbrev cX3_init : ByteArray := prog_5_method_1_code
def yX3_init : MethodName := ⟨RX3, "<init>", "()V"⟩
abbrev cX3_isFull : ByteArray := prog_5_method_2_code
def yX3_isFull : MethodName := ⟨RX3, "isFull", "()Z"⟩
abbrev cX3_addLast : ByteArray := prog_5_method_3_code
def yX3_addLast : MethodName := ⟨RX3, "addLast", "(I)I"⟩
abbrev cX3_makeEmpty : ByteArray := prog_5_method_4_code
def yX3_makeEmpty : MethodName := ⟨RX3, "makeEmpty", "()I"⟩
abbrev cX3_partOf : ByteArray := prog_5_method_5_code
def yX3_partOf : MethodName := ⟨RX3, "partOf", "(II)I"⟩
abbrev cX3_findFault : ByteArray := prog_5_method_6_code
def yX3_findFault : MethodName := ⟨RX3, "findFault", "()I"⟩
abbrev cX3_takeDigit : ByteArray := prog_5_method_7_code
def yX3_takeDigit : MethodName := ⟨RX3, "takeDigit", "(I)Z"⟩
abbrev cX3_takeSign : ByteArray := prog_5_method_8_code
def yX3_takeSign : MethodName := ⟨RX3, "takeSign", "(I)Z"⟩
abbrev cX3_leastNumber : ByteArray := prog_5_method_9_code
def yX3_leastNumber : MethodName := ⟨RX3, "leastNumber", "()I"⟩
def RX4 : String := "RectangleTree$Tree"
def TX4 : u_T := fun k => match k with
  | 0 => ("RectangleTree$Tree", "levels", "[I", true)
  | 1 => ("RectangleTree$Tree", "holders", "[I", true)
  | 2 => ("RectangleTree$Tree", "sizes", "[I", true)
  | 3 => ("RectangleTree$Tree", "corners", "[I", true)
  | 4 => ("RectangleTree$Tree", "lists", "[I", true)
  | 5 => ("RectangleTree$Tree", "root", "I", false)
  | 6 => ("RectangleTree$Tree", "capacity", "I", false)
  | 7 => ("RectangleTree$Tree", "reinsert", "I", false)
  | 8 => ("RectangleTree$Tree", "splitCount", "I", false)
  | _ => ("RectangleTree$Tree", "reinsertionCount", "I", false)
def tyX4 : Nat → FieldType := fun k => match k with
  | 0 => .array .int
  | 1 => .array .int
  | 2 => .array .int
  | 3 => .array .int
  | 4 => .array .int
  | 5 => .int
  | 6 => .int
  | 7 => .int
  | 8 => .int
  | _ => .int
abbrev wsX40 : List Cond := u_ws RX4 TX4 10
theorem nmX4 : ∀ a, a < 10 → ∀ b, b < 10 → a ≠ b → (TX4 a).2.1 ≠ (TX4 b).2.1 := by decide +kernel
theorem tyX4_ok : ∀ k, k < 10 → parseFieldDescriptor (TX4 k).2.2.1 = some (tyX4 k) := by decide +kernel
abbrev cX4_init : ByteArray := prog_6_method_1_code
def yX4_init : MethodName := ⟨RX4, "<init>", "()V"⟩
abbrev cX4_copyFrom : ByteArray := prog_6_method_2_code
def yX4_copyFrom : MethodName := ⟨RX4, "copyFrom", "(LRectangleTree$Tree;)V"⟩
abbrev cX4_copyRow : ByteArray := prog_6_method_3_code
def yX4_copyRow : MethodName := ⟨RX4, "copyRow", "([I[I)V"⟩
abbrev cX4_levelOf : ByteArray := prog_6_method_4_code
def yX4_levelOf : MethodName := ⟨RX4, "levelOf", "(I)I"⟩
abbrev cX4_holderOf : ByteArray := prog_6_method_5_code
def yX4_holderOf : MethodName := ⟨RX4, "holderOf", "(I)I"⟩
abbrev cX4_sizeOf : ByteArray := prog_6_method_6_code
def yX4_sizeOf : MethodName := ⟨RX4, "sizeOf", "(I)I"⟩
abbrev cX4_entryAt : ByteArray := prog_6_method_7_code
def yX4_entryAt : MethodName := ⟨RX4, "entryAt", "(II)I"⟩
abbrev cX4_corner : ByteArray := prog_6_method_8_code
def yX4_corner : MethodName := ⟨RX4, "corner", "(II)I"⟩
abbrev cX4_least : ByteArray := prog_6_method_9_code
def yX4_least : MethodName := ⟨RX4, "least", "()I"⟩
abbrev cX4_isNode : ByteArray := prog_6_method_10_code
def yX4_isNode : MethodName := ⟨RX4, "isNode", "(I)Z"⟩
abbrev cX4_hasBox : ByteArray := prog_6_method_11_code
def yX4_hasBox : MethodName := ⟨RX4, "hasBox", "(I)Z"⟩
abbrev cX4_countBoxes : ByteArray := prog_6_method_12_code
def yX4_countBoxes : MethodName := ⟨RX4, "countBoxes", "()I"⟩
abbrev cX4_newBox : ByteArray := prog_6_method_13_code
def yX4_newBox : MethodName := ⟨RX4, "newBox", "(IIII)I"⟩
abbrev cX4_newNode : ByteArray := prog_6_method_14_code
def yX4_newNode : MethodName := ⟨RX4, "newNode", "(I)I"⟩
abbrev cX4_firstFree : ByteArray := prog_6_method_15_code
def yX4_firstFree : MethodName := ⟨RX4, "firstFree", "(II)I"⟩
abbrev cX4_take : ByteArray := prog_6_method_16_code
def yX4_take : MethodName := ⟨RX4, "take", "(II)V"⟩
abbrev cX4_release : ByteArray := prog_6_method_17_code
def yX4_release : MethodName := ⟨RX4, "release", "(I)V"⟩
abbrev cX4_setLoose : ByteArray := prog_6_method_18_code
def yX4_setLoose : MethodName := ⟨RX4, "setLoose", "(I)V"⟩
abbrev cX4_makeListEmpty : ByteArray := prog_6_method_19_code
def yX4_makeListEmpty : MethodName := ⟨RX4, "makeListEmpty", "(I)V"⟩
abbrev cX4_releaseNodes : ByteArray := prog_6_method_20_code
def yX4_releaseNodes : MethodName := ⟨RX4, "releaseNodes", "()V"⟩
abbrev cX4_addBehind : ByteArray := prog_6_method_21_code
def yX4_addBehind : MethodName := ⟨RX4, "addBehind", "(III)V"⟩
abbrev cX4_addAt : ByteArray := prog_6_method_22_code
def yX4_addAt : MethodName := ⟨RX4, "addAt", "(III)V"⟩
abbrev cX4_placeOf : ByteArray := prog_6_method_23_code
def yX4_placeOf : MethodName := ⟨RX4, "placeOf", "(II)I"⟩
abbrev cX4_takeOut : ByteArray := prog_6_method_24_code
def yX4_takeOut : MethodName := ⟨RX4, "takeOut", "(I)V"⟩
abbrev cX4_refreshUp : ByteArray := prog_6_method_25_code
def yX4_refreshUp : MethodName := ⟨RX4, "refreshUp", "(I)V"⟩
abbrev cX4_setCorners : ByteArray := prog_6_method_26_code
def yX4_setCorners : MethodName := ⟨RX4, "setCorners", "(IIIII)V"⟩
abbrev cX4_raiseRoot : ByteArray := prog_6_method_27_code
def yX4_raiseRoot : MethodName := ⟨RX4, "raiseRoot", "()I"⟩
abbrev cX4_lowerRoot : ByteArray := prog_6_method_28_code
def yX4_lowerRoot : MethodName := ⟨RX4, "lowerRoot", "()V"⟩
abbrev cX4_areaOf : ByteArray := prog_6_method_29_code
def yX4_areaOf : MethodName := ⟨RX4, "areaOf", "(I)I"⟩
abbrev cX4_unionArea : ByteArray := prog_6_method_30_code
def yX4_unionArea : MethodName := ⟨RX4, "unionArea", "(II)I"⟩
abbrev cX4_commonArea : ByteArray := prog_6_method_31_code
def yX4_commonArea : MethodName := ⟨RX4, "commonArea", "(II)I"⟩
abbrev cX4_enlargement : ByteArray := prog_6_method_32_code
def yX4_enlargement : MethodName := ⟨RX4, "enlargement", "(II)I"⟩
abbrev cX4_doubleCenter : ByteArray := prog_6_method_33_code
def yX4_doubleCenter : MethodName := ⟨RX4, "doubleCenter", "(II)I"⟩
abbrev cX4_centerDistance : ByteArray := prog_6_method_34_code
def yX4_centerDistance : MethodName := ⟨RX4, "centerDistance", "(II)I"⟩
abbrev cX4_meetsWindow : ByteArray := prog_6_method_35_code
def yX4_meetsWindow : MethodName := ⟨RX4, "meetsWindow", "(IIIII)Z"⟩
abbrev cX4_liesInWindow : ByteArray := prog_6_method_36_code
def yX4_liesInWindow : MethodName := ⟨RX4, "liesInWindow", "(IIIII)Z"⟩
abbrev cX4_squareDistance : ByteArray := prog_6_method_37_code
def yX4_squareDistance : MethodName := ⟨RX4, "squareDistance", "(III)I"⟩
def RX5 : String := "RectangleTree$Walk"
def TX5 : u_T := fun k => match k with
  | 0 => ("RectangleTree$Walk", "items", "[I", true)
  | 1 => ("RectangleTree$Walk", "count", "I", false)
  | _ => ("RectangleTree$Walk", "pending", "[I", true)
def tyX5 : Nat → FieldType := fun k => match k with
  | 0 => .array .int
  | 1 => .int
  | _ => .array .int
abbrev wsX50 : List Cond := u_ws RX5 TX5 3
theorem nmX5 : ∀ a, a < 3 → ∀ b, b < 3 → a ≠ b → (TX5 a).2.1 ≠ (TX5 b).2.1 := by decide +kernel
theorem tyX5_ok : ∀ k, k < 3 → parseFieldDescriptor (TX5 k).2.2.1 = some (tyX5 k) := by decide +kernel
abbrev cX5_init : ByteArray := prog_7_method_1_code
def yX5_init : MethodName := ⟨RX5, "<init>", "()V"⟩
abbrev cX5_gather : ByteArray := prog_7_method_2_code
def yX5_gather : MethodName := ⟨RX5, "gather", "(LRectangleTree$Tree;IZ)V"⟩
abbrev cX5_placeOf : ByteArray := prog_7_method_3_code
def yX5_placeOf : MethodName := ⟨RX5, "placeOf", "(I)I"⟩
def RX6 : String := "RectangleTree"
def TX6 : u_T := fun k => match k with
  | 0 => ("RectangleTree", "tree", "LRectangleTree$Tree;", true)
  | 1 => ("RectangleTree", "changes", "LRectangleTree$Changes;", true)
  | 2 => ("RectangleTree", "packing", "LRectangleTree$Packing;", true)
  | 3 => ("RectangleTree", "numbering", "LRectangleTree$Walk;", true)
  | 4 => ("RectangleTree", "text", "LRectangleTree$RectangleText;", true)
  | 5 => ("RectangleTree", "history", "LRectangleTree$History;", true)
  | 6 => ("RectangleTree", "snapshot", "LRectangleTree$Tree;", true)
  | _ => ("RectangleTree", "hasSnapshot", "Z", false)
def tyX6 : Nat → FieldType := fun k => match k with
  | 0 => .object "RectangleTree$Tree"
  | 1 => .object "RectangleTree$Changes"
  | 2 => .object "RectangleTree$Packing"
  | 3 => .object "RectangleTree$Walk"
  | 4 => .object "RectangleTree$RectangleText"
  | 5 => .object "RectangleTree$History"
  | 6 => .object "RectangleTree$Tree"
  | _ => .boolean
abbrev wsX60 : List Cond := u_ws RX6 TX6 8
theorem nmX6 : ∀ a, a < 8 → ∀ b, b < 8 → a ≠ b → (TX6 a).2.1 ≠ (TX6 b).2.1 := by decide +kernel
theorem tyX6_ok : ∀ k, k < 8 → parseFieldDescriptor (TX6 k).2.2.1 = some (tyX6 k) := by decide +kernel
abbrev cX6_init : ByteArray := prog_1_method_1_code
def yX6_init : MethodName := ⟨RX6, "<init>", "()V"⟩
abbrev cX6_insert : ByteArray := prog_1_method_2_code
def yX6_insert : MethodName := ⟨RX6, "insert", "(IIII)I"⟩
abbrev cX6_remove : ByteArray := prog_1_method_3_code
def yX6_remove : MethodName := ⟨RX6, "remove", "(I)I"⟩
abbrev cX6_pack : ByteArray := prog_1_method_4_code
def yX6_pack : MethodName := ⟨RX6, "pack", "()I"⟩
abbrev cX6_setSetting : ByteArray := prog_1_method_5_code
def yX6_setSetting : MethodName := ⟨RX6, "setSetting", "(II)I"⟩
abbrev cX6_append : ByteArray := prog_1_method_6_code
def yX6_append : MethodName := ⟨RX6, "append", "(I)I"⟩
abbrev cX6_clearText : ByteArray := prog_1_method_7_code
def yX6_clearText : MethodName := ⟨RX6, "clearText", "()I"⟩
abbrev cX6_fault : ByteArray := prog_1_method_8_code
def yX6_fault : MethodName := ⟨RX6, "fault", "()I"⟩
abbrev cX6_read : ByteArray := prog_1_method_9_code
def yX6_read : MethodName := ⟨RX6, "read", "()I"⟩
abbrev cX6_boxes : ByteArray := prog_1_method_13_code
def yX6_boxes : MethodName := ⟨RX6, "boxes", "()I"⟩
abbrev cX6_side : ByteArray := prog_1_method_14_code
def yX6_side : MethodName := ⟨RX6, "side", "(II)I"⟩
abbrev cX6_nodes : ByteArray := prog_1_method_15_code
def yX6_nodes : MethodName := ⟨RX6, "nodes", "()I"⟩
abbrev cX6_height : ByteArray := prog_1_method_16_code
def yX6_height : MethodName := ⟨RX6, "height", "()I"⟩
abbrev cX6_level : ByteArray := prog_1_method_17_code
def yX6_level : MethodName := ⟨RX6, "level", "(I)I"⟩
abbrev cX6_entries : ByteArray := prog_1_method_18_code
def yX6_entries : MethodName := ⟨RX6, "entries", "(I)I"⟩
abbrev cX6_entry : ByteArray := prog_1_method_19_code
def yX6_entry : MethodName := ⟨RX6, "entry", "(II)I"⟩
abbrev cX6_bound : ByteArray := prog_1_method_20_code
def yX6_bound : MethodName := ⟨RX6, "bound", "(II)I"⟩
abbrev cX6_leafOf : ByteArray := prog_1_method_21_code
def yX6_leafOf : MethodName := ⟨RX6, "leafOf", "(I)I"⟩
abbrev cX6_setting : ByteArray := prog_1_method_22_code
def yX6_setting : MethodName := ⟨RX6, "setting", "(I)I"⟩
abbrev cX6_splits : ByteArray := prog_1_method_23_code
def yX6_splits : MethodName := ⟨RX6, "splits", "()I"⟩
abbrev cX6_reinsertions : ByteArray := prog_1_method_24_code
def yX6_reinsertions : MethodName := ⟨RX6, "reinsertions", "()I"⟩
abbrev cX6_meeting : ByteArray := prog_1_method_25_code
def yX6_meeting : MethodName := ⟨RX6, "meeting", "(IIII)I"⟩
abbrev cX6_inside : ByteArray := prog_1_method_26_code
def yX6_inside : MethodName := ⟨RX6, "inside", "(IIII)I"⟩
abbrev cX6_visits : ByteArray := prog_1_method_27_code
def yX6_visits : MethodName := ⟨RX6, "visits", "(IIII)I"⟩
abbrev cX6_nearest : ByteArray := prog_1_method_28_code
def yX6_nearest : MethodName := ⟨RX6, "nearest", "(II)I"⟩
abbrev cX6_area : ByteArray := prog_1_method_29_code
def yX6_area : MethodName := ⟨RX6, "area", "(I)I"⟩
abbrev cX6_overlap : ByteArray := prog_1_method_30_code
def yX6_overlap : MethodName := ⟨RX6, "overlap", "(I)I"⟩
abbrev cX6_fill : ByteArray := prog_1_method_31_code
def yX6_fill : MethodName := ⟨RX6, "fill", "()F"⟩
abbrev cX6_overlapWithEarlier : ByteArray := prog_1_method_32_code
def yX6_overlapWithEarlier : MethodName := ⟨RX6, "overlapWithEarlier", "(II)I"⟩
abbrev cX6_numberNodes : ByteArray := prog_1_method_33_code
def yX6_numberNodes : MethodName := ⟨RX6, "numberNodes", "()V"⟩
abbrev cX6_hasNode : ByteArray := prog_1_method_34_code
def yX6_hasNode : MethodName := ⟨RX6, "hasNode", "(I)Z"⟩
abbrev cX6_nodeAt : ByteArray := prog_1_method_35_code
def yX6_nodeAt : MethodName := ⟨RX6, "nodeAt", "(I)I"⟩
abbrev cX6_isRectangle : ByteArray := prog_1_method_36_code
def yX6_isRectangle : MethodName := ⟨RX6, "isRectangle", "(IIII)Z"⟩
abbrev cX6_isSpan : ByteArray := prog_1_method_37_code
def yX6_isSpan : MethodName := ⟨RX6, "isSpan", "(II)Z"⟩
abbrev cX6_at : ByteArray := prog_1_method_38_code
def yX6_at : MethodName := ⟨RX6, "at", "([II)I"⟩
abbrev cX6_put : ByteArray := prog_1_method_39_code
def yX6_put : MethodName := ⟨RX6, "put", "([III)V"⟩
def RX7 : String := "RectangleTreeModel"
def TX7 : u_T := fun k => match k with
  | _ => ("", "", "", false)
def tyX7 : Nat → FieldType := fun k => match k with
  | _ => .int
abbrev wsX70 : List Cond := u_ws RX7 TX7 0
theorem nmX7 : ∀ a, a < 0 → ∀ b, b < 0 → a ≠ b → (TX7 a).2.1 ≠ (TX7 b).2.1 := by decide +kernel
theorem tyX7_ok : ∀ k, k < 0 → parseFieldDescriptor (TX7 k).2.2.1 = some (tyX7 k) := by decide +kernel
def RJ9 : String := "java/lang/Math"
def TJ9 : u_T := fun k => match k with
  | _ => ("", "", "", false)
def tyJ9 : Nat → FieldType := fun k => match k with
  | _ => .int
abbrev wsJ90 : List Cond := u_ws RJ9 TJ9 0
theorem nmJ9 : ∀ a, a < 0 → ∀ b, b < 0 → a ≠ b → (TJ9 a).2.1 ≠ (TJ9 b).2.1 := by decide +kernel
theorem tyJ9_ok : ∀ k, k < 0 → parseFieldDescriptor (TJ9 k).2.2.1 = some (tyJ9 k) := by decide +kernel
abbrev cJ9_abs_0f7a4 : ByteArray := prog_10_method_59_code
def yJ9_abs_0f7a4 : MethodName := ⟨RJ9, "abs", "(I)I"⟩
abbrev cJ9_max_7cf53 : ByteArray := prog_10_method_65_code
def yJ9_max_7cf53 : MethodName := ⟨RJ9, "max", "(II)I"⟩
abbrev cJ9_min_7cf53 : ByteArray := prog_10_method_69_code
def yJ9_min_7cf53 : MethodName := ⟨RJ9, "min", "(II)I"⟩
def RJ10 : String := "java/lang/System"
def TJ10 : u_T := fun k => match k with
  | _ => ("", "", "", false)
def tyJ10 : Nat → FieldType := fun k => match k with
  | _ => .int
abbrev wsJ100 : List Cond := u_ws RJ10 TJ10 0
theorem nmJ10 : ∀ a, a < 0 → ∀ b, b < 0 → a ≠ b → (TJ10 a).2.1 ≠ (TJ10 b).2.1 := by decide +kernel
theorem tyJ10_ok : ∀ k, k < 0 → parseFieldDescriptor (TJ10 k).2.2.1 = some (tyJ10 k) := by decide +kernel
def RJ7 : String := "java/util/Arrays"
def TJ7 : u_T := fun k => match k with
  | _ => ("", "", "", false)
def tyJ7 : Nat → FieldType := fun k => match k with
  | _ => .int
abbrev wsJ70 : List Cond := u_ws RJ7 TJ7 0
theorem nmJ7 : ∀ a, a < 0 → ∀ b, b < 0 → a ≠ b → (TJ7 a).2.1 ≠ (TJ7 b).2.1 := by decide +kernel
theorem tyJ7_ok : ∀ k, k < 0 → parseFieldDescriptor (TJ7 k).2.2.1 = some (tyJ7 k) := by decide +kernel
abbrev cJ7_fill_53178 : ByteArray := prog_12_method_103_code
def yJ7_fill_53178 : MethodName := ⟨RJ7, "fill", "([II)V"⟩
def RL : String := "RectangleTreeLaw"
abbrev cL_cell : ByteArray := method_2_code
def yL_cell : MethodName := ⟨RL, "cell", "([II)I"⟩
abbrev cL_corner : ByteArray := method_4_code
def yL_corner : MethodName := ⟨RL, "corner", "(II)I"⟩
abbrev cL_many : ByteArray := method_5_code
def yL_many : MethodName := ⟨RL, "many", "([I)I"⟩
abbrev cL_behind : ByteArray := method_6_code
def yL_behind : MethodName := ⟨RL, "behind", "(LRectangleTree;III)I"⟩
abbrev cL_leaf : ByteArray := method_7_code
def yL_leaf : MethodName := ⟨RL, "leaf", "(LRectangleTree;[III)I"⟩
abbrev cL_isNode : ByteArray := method_8_code
def yL_isNode : MethodName := ⟨RL, "isNode", "(LRectangleTree;III)Z"⟩
abbrev cL_isTree : ByteArray := method_9_code
def yL_isTree : MethodName := ⟨RL, "isTree", "(LRectangleTree;[I)Z"⟩
abbrev cL_common : ByteArray := method_10_code
def yL_common : MethodName := ⟨RL, "common", "(LRectangleTree;II)I"⟩
abbrev cL_areMeasures : ByteArray := method_11_code
def yL_areMeasures : MethodName := ⟨RL, "areMeasures", "(LRectangleTree;)Z"⟩
abbrev cL_areFound : ByteArray := method_12_code
def yL_areFound : MethodName := ⟨RL, "areFound", "(LRectangleTree;[II)Z"⟩
abbrev cL_corners : ByteArray := method_13_code
def yL_corners : MethodName := ⟨RL, "corners", "(I)I"⟩
abbrev cL_isInserted : ByteArray := method_14_code
def yL_isInserted : MethodName := ⟨RL, "isInserted", "(LRectangleTree;[II)Z"⟩
abbrev cL_isTyped : ByteArray := method_15_code
def yL_isTyped : MethodName := ⟨RL, "isTyped", "(LRectangleTree;I)Z"⟩
abbrev cL_isRead : ByteArray := method_16_code
def yL_isRead : MethodName := ⟨RL, "isRead", "(LRectangleTree;[III)Z"⟩
abbrev cL_isActed : ByteArray := method_17_code
def yL_isActed : MethodName := ⟨RL, "isActed", "(LRectangleTree;[III)Z"⟩
abbrev cL_law : ByteArray := code
def yL_law : MethodName := ⟨RL, "law", "([I)Z"⟩
abbrev vwCl : List vw_C := [(RX0, TX0, 8), (RX1, TX1, 2), (RX2, TX2, 2), (RX3, TX3, 7), (RX4, TX4, 10), (RX5, TX5, 3), (RX6, TX6, 8)]
