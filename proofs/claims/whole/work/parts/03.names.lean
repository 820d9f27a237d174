def RX0 : String := "GlobRows$Answer"
def TX0 : u_T := fun k => match k with
  | 0 => ("GlobRows$Answer", "count", "I", false)
  | 1 => ("GlobRows$Answer", "counted", "I", false)
  | 2 => ("GlobRows$Answer", "letters", "[C", true)
  | _ => ("GlobRows$Answer", "lengths", "[I", true)
def tyX0 : Nat → FieldType := fun k => match k with
  | 0 => .int
  | 1 => .int
  | 2 => .array .char
  | _ => .array .int
abbrev wsX00 : List Cond := u_ws RX0 TX0 4
theorem nmX0 : ∀ a, a < 4 → ∀ b, b < 4 → a ≠ b → (TX0 a).2.1 ≠ (TX0 b).2.1 := by decide +kernel
theorem tyX0_ok : ∀ k, k < 4 → parseFieldDescriptor (TX0 k).2.2.1 = some (tyX0 k) := by decide +kernel
abbrev cX0_init : ByteArray := prog_2_method_1_code
def yX0_init : MethodName := ⟨RX0, "<init>", "()V"⟩
abbrev cX0_clear : ByteArray := prog_2_method_2_code
def yX0_clear : MethodName := ⟨RX0, "clear", "()V"⟩
abbrev cX0_add : ByteArray := prog_2_method_3_code
def yX0_add : MethodName := ⟨RX0, "add", "(Ljava/lang/StringBuilder;)V"⟩
abbrev cX0_letter : ByteArray := prog_2_method_4_code
def yX0_letter : MethodName := ⟨RX0, "letter", "(II)I"⟩
def RX1 : String := "GlobRows$Node"
def TX1 : u_T := fun k => match k with
  | 0 => ("GlobRows$Node", "name", "Ljava/lang/String;", true)
  | 1 => ("GlobRows$Node", "parent", "LGlobRows$Node;", true)
  | 2 => ("GlobRows$Node", "isFolder", "Z", true)
  | 3 => ("GlobRows$Node", "children", "Ljava/util/ArrayList;", true)
  | 4 => ("GlobRows$Node", "seen", "[I", true)
  | _ => ("GlobRows$Node", "isPackage", "Z", false)
def tyX1 : Nat → FieldType := fun k => match k with
  | 0 => .object "java/lang/String"
  | 1 => .object "GlobRows$Node"
  | 2 => .boolean
  | 3 => .object "java/util/ArrayList"
  | 4 => .array .int
  | _ => .boolean
abbrev wsX10 : List Cond := u_ws RX1 TX1 6
theorem nmX1 : ∀ a, a < 6 → ∀ b, b < 6 → a ≠ b → (TX1 a).2.1 ≠ (TX1 b).2.1 := by decide +kernel
theorem tyX1_ok : ∀ k, k < 6 → parseFieldDescriptor (TX1 k).2.2.1 = some (tyX1 k) := by decide +kernel
abbrev cX1_init : ByteArray := prog_3_method_1_code
def yX1_init : MethodName := ⟨RX1, "<init>", "(Ljava/lang/String;LGlobRows$Node;Z)V"⟩
abbrev cX1_child : ByteArray := prog_3_method_2_code
def yX1_child : MethodName := ⟨RX1, "child", "(Ljava/lang/String;)LGlobRows$Node;"⟩
abbrev cX1_insert : ByteArray := prog_3_method_3_code
def yX1_insert : MethodName := ⟨RX1, "insert", "(LGlobRows$Node;)V"⟩
abbrev cX1_drop : ByteArray := prog_3_method_4_code
def yX1_drop : MethodName := ⟨RX1, "drop", "(LGlobRows$Node;)V"⟩
abbrev cX1_touch : ByteArray := prog_3_method_5_code
def yX1_touch : MethodName := ⟨RX1, "touch", "()V"⟩
abbrev cX1_comesBefore : ByteArray := prog_3_method_6_code
def yX1_comesBefore : MethodName := ⟨RX1, "comesBefore", "(Ljava/lang/String;Ljava/lang/String;)Z"⟩
def RX2 : String := "GlobRows$Part"
def TX2 : u_T := fun k => match k with
  | _ => ("GlobRows$Part", "letters", "Ljava/lang/String;", true)
def tyX2 : Nat → FieldType := fun k => match k with
  | _ => .object "java/lang/String"
abbrev wsX20 : List Cond := u_ws RX2 TX2 1
theorem nmX2 : ∀ a, a < 1 → ∀ b, b < 1 → a ≠ b → (TX2 a).2.1 ≠ (TX2 b).2.1 := by decide +kernel
theorem tyX2_ok : ∀ k, k < 1 → parseFieldDescriptor (TX2 k).2.2.1 = some (tyX2 k) := by decide +kernel
abbrev cX2_init : ByteArray := prog_4_method_1_code
def yX2_init : MethodName := ⟨RX2, "<init>", "(Ljava/lang/String;)V"⟩
def RX3 : String := "GlobRows$Path"
def TX3 : u_T := fun k => match k with
  | 0 => ("GlobRows$Path", "text", "Ljava/lang/String;", true)
  | 1 => ("GlobRows$Path", "starts", "[I", true)
  | 2 => ("GlobRows$Path", "ends", "[I", true)
  | _ => ("GlobRows$Path", "count", "I", false)
def tyX3 : Nat → FieldType := fun k => match k with
  | 0 => .object "java/lang/String"
  | 1 => .array .int
  | 2 => .array .int
  | _ => .int
abbrev wsX30 : List Cond := u_ws RX3 TX3 4
theorem nmX3 : ∀ a, a < 4 → ∀ b, b < 4 → a ≠ b → (TX3 a).2.1 ≠ (TX3 b).2.1 := by decide +kernel
theorem tyX3_ok : ∀ k, k < 4 → parseFieldDescriptor (TX3 k).2.2.1 = some (tyX3 k) := by decide +kernel
abbrev cX3_init : ByteArray := prog_5_method_1_code
def yX3_init : MethodName := ⟨RX3, "<init>", "(Ljava/lang/String;)V"⟩
abbrev cX3_read : ByteArray := prog_5_method_2_code
def yX3_read : MethodName := ⟨RX3, "read", "(Ljava/lang/String;)LGlobRows$Path;"⟩
abbrev cX3_add : ByteArray := prog_5_method_3_code
def yX3_add : MethodName := ⟨RX3, "add", "(II)Z"⟩
abbrev cX3_isName : ByteArray := prog_5_method_4_code
def yX3_isName : MethodName := ⟨RX3, "isName", "(Ljava/lang/String;)Z"⟩
abbrev cX3_name : ByteArray := prog_5_method_5_code
def yX3_name : MethodName := ⟨RX3, "name", "(I)Ljava/lang/String;"⟩
def RX4 : String := "GlobRows$Pattern"
def TX4 : u_T := fun k => match k with
  | 0 => ("GlobRows$Pattern", "leavesOut", "Z", true)
  | 1 => ("GlobRows$Pattern", "wantsFolders", "Z", false)
  | 2 => ("GlobRows$Pattern", "pieces", "Ljava/util/ArrayList;", true)
  | 3 => ("GlobRows$Pattern", "states", "[I", true)
  | _ => ("GlobRows$Pattern", "deeps", "I", false)
def tyX4 : Nat → FieldType := fun k => match k with
  | 0 => .boolean
  | 1 => .boolean
  | 2 => .object "java/util/ArrayList"
  | 3 => .array .int
  | _ => .int
abbrev wsX40 : List Cond := u_ws RX4 TX4 5
theorem nmX4 : ∀ a, a < 5 → ∀ b, b < 5 → a ≠ b → (TX4 a).2.1 ≠ (TX4 b).2.1 := by decide +kernel
theorem tyX4_ok : ∀ k, k < 5 → parseFieldDescriptor (TX4 k).2.2.1 = some (tyX4 k) := by decide +kernel
abbrev cX4_init : ByteArray := prog_6_method_1_code
def yX4_init : MethodName := ⟨RX4, "<init>", "(Z)V"⟩
abbrev cX4_isFull : ByteArray := prog_6_method_2_code
def yX4_isFull : MethodName := ⟨RX4, "isFull", "()Z"⟩
abbrev cX4_endsDeep : ByteArray := prog_6_method_3_code
def yX4_endsDeep : MethodName := ⟨RX4, "endsDeep", "()Z"⟩
abbrev cX4_add : ByteArray := prog_6_method_4_code
def yX4_add : MethodName := ⟨RX4, "add", "(LGlobRows$Piece;)V"⟩
abbrev cX4_begin : ByteArray := prog_6_method_5_code
def yX4_begin : MethodName := ⟨RX4, "begin", "()V"⟩
abbrev cX4_pass : ByteArray := prog_6_method_6_code
def yX4_pass : MethodName := ⟨RX4, "pass", "(Ljava/lang/String;I)V"⟩
abbrev cX4_fits : ByteArray := prog_6_method_7_code
def yX4_fits : MethodName := ⟨RX4, "fits", "(ZI)Z"⟩
abbrev cX4_goesOn : ByteArray := prog_6_method_8_code
def yX4_goesOn : MethodName := ⟨RX4, "goesOn", "(I)Z"⟩
abbrev cX4_statesAt : ByteArray := prog_6_method_9_code
def yX4_statesAt : MethodName := ⟨RX4, "statesAt", "(I)I"⟩
def RX5 : String := "GlobRows$PatternReader"
def TX5 : u_T := fun k => match k with
  | 0 => ("GlobRows$PatternReader", "pattern", "LGlobRows$Pattern;", true)
  | 1 => ("GlobRows$PatternReader", "illAt", "I", false)
  | 2 => ("GlobRows$PatternReader", "text", "Ljava/lang/String;", true)
  | _ => ("GlobRows$PatternReader", "at", "I", false)
def tyX5 : Nat → FieldType := fun k => match k with
  | 0 => .object "GlobRows$Pattern"
  | 1 => .int
  | 2 => .object "java/lang/String"
  | _ => .int
abbrev wsX50 : List Cond := u_ws RX5 TX5 4
theorem nmX5 : ∀ a, a < 4 → ∀ b, b < 4 → a ≠ b → (TX5 a).2.1 ≠ (TX5 b).2.1 := by decide +kernel
theorem tyX5_ok : ∀ k, k < 4 → parseFieldDescriptor (TX5 k).2.2.1 = some (tyX5 k) := by decide +kernel
abbrev cX5_init : ByteArray := prog_7_method_1_code
def yX5_init : MethodName := ⟨RX5, "<init>", "(Ljava/lang/String;Z)V"⟩
abbrev cX5_read : ByteArray := prog_7_method_2_code
def yX5_read : MethodName := ⟨RX5, "read", "()V"⟩
abbrev cX5_passSlash : ByteArray := prog_7_method_3_code
def yX5_passSlash : MethodName := ⟨RX5, "passSlash", "()Z"⟩
abbrev cX5_readPiece : ByteArray := prog_7_method_4_code
def yX5_readPiece : MethodName := ⟨RX5, "readPiece", "()V"⟩
abbrev cX5_readDeepPiece : ByteArray := prog_7_method_5_code
def yX5_readDeepPiece : MethodName := ⟨RX5, "readDeepPiece", "()V"⟩
abbrev cX5_readPlainPiece : ByteArray := prog_7_method_6_code
def yX5_readPlainPiece : MethodName := ⟨RX5, "readPlainPiece", "()V"⟩
abbrev cX5_isInPiece : ByteArray := prog_7_method_7_code
def yX5_isInPiece : MethodName := ⟨RX5, "isInPiece", "()Z"⟩
abbrev cX5_readPart : ByteArray := prog_7_method_8_code
def yX5_readPart : MethodName := ⟨RX5, "readPart", "(LGlobRows$Piece;)V"⟩
abbrev cX5_readSet : ByteArray := prog_7_method_9_code
def yX5_readSet : MethodName := ⟨RX5, "readSet", "(LGlobRows$Piece;)V"⟩
def RX6 : String := "GlobRows$Piece"
def TX6 : u_T := fun k => match k with
  | 0 => ("GlobRows$Piece", "isDeep", "Z", true)
  | 1 => ("GlobRows$Piece", "parts", "Ljava/util/ArrayList;", true)
  | _ => ("GlobRows$Piece", "stars", "I", false)
def tyX6 : Nat → FieldType := fun k => match k with
  | 0 => .boolean
  | 1 => .object "java/util/ArrayList"
  | _ => .int
abbrev wsX60 : List Cond := u_ws RX6 TX6 3
theorem nmX6 : ∀ a, a < 3 → ∀ b, b < 3 → a ≠ b → (TX6 a).2.1 ≠ (TX6 b).2.1 := by decide +kernel
theorem tyX6_ok : ∀ k, k < 3 → parseFieldDescriptor (TX6 k).2.2.1 = some (tyX6 k) := by decide +kernel
abbrev cX6_init : ByteArray := prog_8_method_1_code
def yX6_init : MethodName := ⟨RX6, "<init>", "(Z)V"⟩
abbrev cX6_isFull : ByteArray := prog_8_method_2_code
def yX6_isFull : MethodName := ⟨RX6, "isFull", "()Z"⟩
abbrev cX6_addStar : ByteArray := prog_8_method_3_code
def yX6_addStar : MethodName := ⟨RX6, "addStar", "()V"⟩
abbrev cX6_addLetters : ByteArray := prog_8_method_4_code
def yX6_addLetters : MethodName := ⟨RX6, "addLetters", "(Ljava/lang/String;)V"⟩
abbrev cX6_fits : ByteArray := prog_8_method_5_code
def yX6_fits : MethodName := ⟨RX6, "fits", "(Ljava/lang/String;)Z"⟩
abbrev cX6_behind : ByteArray := prog_8_method_6_code
def yX6_behind : MethodName := ⟨RX6, "behind", "(IC)I"⟩
def RX7 : String := "GlobRows$Query"
def TX7 : u_T := fun k => match k with
  | 0 => ("GlobRows$Query", "path", "LGlobRows$Path;", true)
  | 1 => ("GlobRows$Query", "number", "I", true)
  | 2 => ("GlobRows$Query", "patterns", "Ljava/util/ArrayList;", true)
  | _ => ("GlobRows$Query", "round", "I", false)
def tyX7 : Nat → FieldType := fun k => match k with
  | 0 => .object "GlobRows$Path"
  | 1 => .int
  | 2 => .object "java/util/ArrayList"
  | _ => .int
abbrev wsX70 : List Cond := u_ws RX7 TX7 4
theorem nmX7 : ∀ a, a < 4 → ∀ b, b < 4 → a ≠ b → (TX7 a).2.1 ≠ (TX7 b).2.1 := by decide +kernel
theorem tyX7_ok : ∀ k, k < 4 → parseFieldDescriptor (TX7 k).2.2.1 = some (tyX7 k) := by decide +kernel
abbrev cX7_init : ByteArray := prog_9_method_1_code
def yX7_init : MethodName := ⟨RX7, "<init>", "(LGlobRows$Path;I)V"⟩
abbrev cX7_hasRoomFor : ByteArray := prog_9_method_2_code
def yX7_hasRoomFor : MethodName := ⟨RX7, "hasRoomFor", "(Z)Z"⟩
abbrev cX7_add : ByteArray := prog_9_method_3_code
def yX7_add : MethodName := ⟨RX7, "add", "(LGlobRows$Pattern;)V"⟩
abbrev cX7_beginRound : ByteArray := prog_9_method_4_code
def yX7_beginRound : MethodName := ⟨RX7, "beginRound", "()V"⟩
abbrev cX7_looksAnewAt : ByteArray := prog_9_method_5_code
def yX7_looksAnewAt : MethodName := ⟨RX7, "looksAnewAt", "(LGlobRows$Node;)Z"⟩
abbrev cX7_pass : ByteArray := prog_9_method_6_code
def yX7_pass : MethodName := ⟨RX7, "pass", "(Ljava/lang/String;I)V"⟩
abbrev cX7_takes : ByteArray := prog_9_method_7_code
def yX7_takes : MethodName := ⟨RX7, "takes", "(ZI)Z"⟩
abbrev cX7_fitsOne : ByteArray := prog_9_method_8_code
def yX7_fitsOne : MethodName := ⟨RX7, "fitsOne", "(ZZI)Z"⟩
abbrev cX7_goesOn : ByteArray := prog_9_method_9_code
def yX7_goesOn : MethodName := ⟨RX7, "goesOn", "(I)Z"⟩
def RX8 : String := "GlobRows$Tree"
def TX8 : u_T := fun k => match k with
  | 0 => ("GlobRows$Tree", "root", "LGlobRows$Node;", true)
  | _ => ("GlobRows$Tree", "nodes", "I", false)
def tyX8 : Nat → FieldType := fun k => match k with
  | 0 => .object "GlobRows$Node"
  | _ => .int
abbrev wsX80 : List Cond := u_ws RX8 TX8 2
theorem nmX8 : ∀ a, a < 2 → ∀ b, b < 2 → a ≠ b → (TX8 a).2.1 ≠ (TX8 b).2.1 := by decide +kernel
theorem tyX8_ok : ∀ k, k < 2 → parseFieldDescriptor (TX8 k).2.2.1 = some (tyX8 k) := by decide +kernel
abbrev cX8_init : ByteArray := prog_10_method_1_code
def yX8_init : MethodName := ⟨RX8, "<init>", "()V"⟩
abbrev cX8_at : ByteArray := prog_10_method_2_code
def yX8_at : MethodName := ⟨RX8, "at", "(LGlobRows$Path;)LGlobRows$Node;"⟩
abbrev cX8_make : ByteArray := prog_10_method_3_code
def yX8_make : MethodName := ⟨RX8, "make", "(LGlobRows$Path;Z)I"⟩
abbrev cX8_cut : ByteArray := prog_10_method_4_code
def yX8_cut : MethodName := ⟨RX8, "cut", "(LGlobRows$Node;)I"⟩
abbrev cX8_size : ByteArray := prog_10_method_5_code
def yX8_size : MethodName := ⟨RX8, "size", "(LGlobRows$Node;I)I"⟩
def RX9 : String := "GlobRows$Walk"
def TX9 : u_T := fun k => match k with
  | 0 => ("GlobRows$Walk", "answer", "LGlobRows$Answer;", true)
  | _ => ("GlobRows$Walk", "path", "Ljava/lang/StringBuilder;", true)
def tyX9 : Nat → FieldType := fun k => match k with
  | 0 => .object "GlobRows$Answer"
  | _ => .object "java/lang/StringBuilder"
abbrev wsX90 : List Cond := u_ws RX9 TX9 2
theorem nmX9 : ∀ a, a < 2 → ∀ b, b < 2 → a ≠ b → (TX9 a).2.1 ≠ (TX9 b).2.1 := by decide +kernel
theorem tyX9_ok : ∀ k, k < 2 → parseFieldDescriptor (TX9 k).2.2.1 = some (tyX9 k) := by decide +kernel
abbrev cX9_init : ByteArray := prog_11_method_1_code
def yX9_init : MethodName := ⟨RX9, "<init>", "()V"⟩
abbrev cX9_lookInto : ByteArray := prog_11_method_2_code
def yX9_lookInto : MethodName := ⟨RX9, "lookInto", "(LGlobRows$Query;LGlobRows$Node;I)V"⟩
abbrev cX9_passBy : ByteArray := prog_11_method_3_code
def yX9_passBy : MethodName := ⟨RX9, "passBy", "(LGlobRows$Query;LGlobRows$Node;I)V"⟩
def RX10 : String := "GlobRows"
def TX10 : u_T := fun k => match k with
  | 0 => ("GlobRows", "text", "Ljava/lang/StringBuilder;", true)
  | 1 => ("GlobRows", "tree", "LGlobRows$Tree;", true)
  | 2 => ("GlobRows", "queries", "Ljava/util/ArrayList;", true)
  | 3 => ("GlobRows", "walk", "LGlobRows$Walk;", true)
  | _ => ("GlobRows", "illAt", "I", false)
def tyX10 : Nat → FieldType := fun k => match k with
  | 0 => .object "java/lang/StringBuilder"
  | 1 => .object "GlobRows$Tree"
  | 2 => .object "java/util/ArrayList"
  | 3 => .object "GlobRows$Walk"
  | _ => .int
abbrev wsX100 : List Cond := u_ws RX10 TX10 5
theorem nmX10 : ∀ a, a < 5 → ∀ b, b < 5 → a ≠ b → (TX10 a).2.1 ≠ (TX10 b).2.1 := by decide +kernel
theorem tyX10_ok : ∀ k, k < 5 → parseFieldDescriptor (TX10 k).2.2.1 = some (tyX10 k) := by decide +kernel
abbrev cX10_init : ByteArray := prog_1_method_1_code
def yX10_init : MethodName := ⟨RX10, "<init>", "()V"⟩
abbrev cX10_type : ByteArray := prog_1_method_2_code
def yX10_type : MethodName := ⟨RX10, "type", "(C)Z"⟩
abbrev cX10_file : ByteArray := prog_1_method_3_code
def yX10_file : MethodName := ⟨RX10, "file", "()I"⟩
abbrev cX10_folder : ByteArray := prog_1_method_4_code
def yX10_folder : MethodName := ⟨RX10, "folder", "()I"⟩
abbrev cX10_remove : ByteArray := prog_1_method_5_code
def yX10_remove : MethodName := ⟨RX10, "remove", "()I"⟩
abbrev cX10_pack : ByteArray := prog_1_method_6_code
def yX10_pack : MethodName := ⟨RX10, "pack", "(Z)V"⟩
abbrev cX10_query : ByteArray := prog_1_method_7_code
def yX10_query : MethodName := ⟨RX10, "query", "()I"⟩
abbrev cX10_pattern : ByteArray := prog_1_method_8_code
def yX10_pattern : MethodName := ⟨RX10, "pattern", "(IZ)V"⟩
abbrev cX10_place : ByteArray := prog_1_method_9_code
def yX10_place : MethodName := ⟨RX10, "place", "()I"⟩
abbrev cX10_ask : ByteArray := prog_1_method_10_code
def yX10_ask : MethodName := ⟨RX10, "ask", "(I)I"⟩
abbrev cX10_looked : ByteArray := prog_1_method_11_code
def yX10_looked : MethodName := ⟨RX10, "looked", "()I"⟩
abbrev cX10_answer : ByteArray := prog_1_method_12_code
def yX10_answer : MethodName := ⟨RX10, "answer", "(II)I"⟩
abbrev cX10_takeText : ByteArray := prog_1_method_13_code
def yX10_takeText : MethodName := ⟨RX10, "takeText", "()Ljava/lang/String;"⟩
abbrev cX10_takePath : ByteArray := prog_1_method_14_code
def yX10_takePath : MethodName := ⟨RX10, "takePath", "()LGlobRows$Path;"⟩
abbrev cX10_queryAt : ByteArray := prog_1_method_15_code
def yX10_queryAt : MethodName := ⟨RX10, "queryAt", "(I)LGlobRows$Query;"⟩
abbrev cX10_isLetter : ByteArray := prog_1_method_16_code
def yX10_isLetter : MethodName := ⟨RX10, "isLetter", "(C)Z"⟩
abbrev cX10_isDots : ByteArray := prog_1_method_17_code
def yX10_isDots : MethodName := ⟨RX10, "isDots", "(Ljava/lang/String;)Z"⟩
abbrev cX10_withSkipped : ByteArray := prog_1_method_18_code
def yX10_withSkipped : MethodName := ⟨RX10, "withSkipped", "(II)I"⟩
def RX11 : String := "GlobRowsModel"
def TX11 : u_T := fun k => match k with
  | 0 => ("GlobRowsModel", "thrown", "I", false)
  | 1 => ("GlobRowsModel", "text", "[B", true)
  | 2 => ("GlobRowsModel", "textSize", "I", false)
  | 3 => ("GlobRowsModel", "names", "I", false)
  | 4 => ("GlobRowsModel", "wordAt", "[I", true)
  | 5 => ("GlobRowsModel", "wordSize", "[I", true)
  | 6 => ("GlobRowsModel", "kind", "[I", true)
  | 7 => ("GlobRowsModel", "around", "[I", true)
  | 8 => ("GlobRowsModel", "nameSize", "[I", true)
  | 9 => ("GlobRowsModel", "touched", "[I", true)
  | 10 => ("GlobRowsModel", "own", "[I", true)
  | 11 => ("GlobRowsModel", "packed", "[Z", true)
  | 12 => ("GlobRowsModel", "name", "[B", true)
  | 13 => ("GlobRowsModel", "made", "I", false)
  | 14 => ("GlobRowsModel", "changes", "I", false)
  | 15 => ("GlobRowsModel", "queries", "I", false)
  | 16 => ("GlobRowsModel", "packageSize", "[I", true)
  | 17 => ("GlobRowsModel", "takesIn", "[I", true)
  | 18 => ("GlobRowsModel", "leavesOut", "[I", true)
  | 19 => ("GlobRowsModel", "askedAt", "[I", true)
  | 20 => ("GlobRowsModel", "patternSize", "[I", true)
  | 21 => ("GlobRowsModel", "packagePath", "[B", true)
  | 22 => ("GlobRowsModel", "patterns", "[B", true)
  | 23 => ("GlobRowsModel", "anew", "[Z", true)
  | 24 => ("GlobRowsModel", "seen", "[I", true)
  | 25 => ("GlobRowsModel", "place", "I", false)
  | 26 => ("GlobRowsModel", "lookedMany", "I", false)
  | 27 => ("GlobRowsModel", "answers", "I", false)
  | 28 => ("GlobRowsModel", "answerSize", "[I", true)
  | 29 => ("GlobRowsModel", "answerPath", "[B", true)
  | 30 => ("GlobRowsModel", "level", "I", false)
  | 31 => ("GlobRowsModel", "folder", "[I", true)
  | 32 => ("GlobRowsModel", "last", "[I", true)
  | 33 => ("GlobRowsModel", "pathEnd", "[I", true)
  | 34 => ("GlobRowsModel", "trail", "[I", true)
  | 35 => ("GlobRowsModel", "path", "[B", true)
  | 36 => ("GlobRowsModel", "gone", "I", false)
  | 37 => ("GlobRowsModel", "typed", "[B", true)
  | _ => ("GlobRowsModel", "now", "[I", true)
def tyX11 : Nat → FieldType := fun k => match k with
  | 0 => .int
  | 1 => .array .byte
  | 2 => .int
  | 3 => .int
  | 4 => .array .int
  | 5 => .array .int
  | 6 => .array .int
  | 7 => .array .int
  | 8 => .array .int
  | 9 => .array .int
  | 10 => .array .int
  | 11 => .array .boolean
  | 12 => .array .byte
  | 13 => .int
  | 14 => .int
  | 15 => .int
  | 16 => .array .int
  | 17 => .array .int
  | 18 => .array .int
  | 19 => .array .int
  | 20 => .array .int
  | 21 => .array .byte
  | 22 => .array .byte
  | 23 => .array .boolean
  | 24 => .array .int
  | 25 => .int
  | 26 => .int
  | 27 => .int
  | 28 => .array .int
  | 29 => .array .byte
  | 30 => .int
  | 31 => .array .int
  | 32 => .array .int
  | 33 => .array .int
  | 34 => .array .int
  | 35 => .array .byte
  | 36 => .int
  | 37 => .array .byte
  | _ => .array .int
abbrev wsX110 : List Cond := u_ws RX11 TX11 39
theorem nmX11 : ∀ a, a < 39 → ∀ b, b < 39 → a ≠ b → (TX11 a).2.1 ≠ (TX11 b).2.1 := by decide +kernel
theorem tyX11_ok : ∀ k, k < 39 → parseFieldDescriptor (TX11 k).2.2.1 = some (tyX11 k) := by decide +kernel
abbrev cX11_init : ByteArray := prog_13_method_1_code
def yX11_init : MethodName := ⟨RX11, "<init>", "()V"⟩
abbrev cX11_thrown : ByteArray := prog_13_method_2_code
def yX11_thrown : MethodName := ⟨RX11, "thrown", "()I"⟩
abbrev cX11_type : ByteArray := prog_13_method_3_code
def yX11_type : MethodName := ⟨RX11, "type", "(C)Z"⟩
abbrev cX11_isSign : ByteArray := prog_13_method_4_code
def yX11_isSign : MethodName := ⟨RX11, "isSign", "(I)Z"⟩
abbrev cX11_isPath : ByteArray := prog_13_method_5_code
def yX11_isPath : MethodName := ⟨RX11, "isPath", "()Z"⟩
abbrev cX11_isNamed : ByteArray := prog_13_method_6_code
def yX11_isNamed : MethodName := ⟨RX11, "isNamed", "(II)Z"⟩
abbrev cX11_child : ByteArray := prog_13_method_7_code
def yX11_child : MethodName := ⟨RX11, "child", "(II)I"⟩
abbrev cX11_go : ByteArray := prog_13_method_8_code
def yX11_go : MethodName := ⟨RX11, "go", "()I"⟩
abbrev cX11_many : ByteArray := prog_13_method_9_code
def yX11_many : MethodName := ⟨RX11, "many", "()I"⟩
abbrev cX11_touch : ByteArray := prog_13_method_10_code
def yX11_touch : MethodName := ⟨RX11, "touch", "(I)V"⟩
abbrev cX11_add : ByteArray := prog_13_method_11_code
def yX11_add : MethodName := ⟨RX11, "add", "(III)I"⟩
abbrev cX11_takes : ByteArray := prog_13_method_12_code
def yX11_takes : MethodName := ⟨RX11, "takes", "()Z"⟩
abbrev cX11_put : ByteArray := prog_13_method_13_code
def yX11_put : MethodName := ⟨RX11, "put", "(I)I"⟩
abbrev cX11_file : ByteArray := prog_13_method_14_code
def yX11_file : MethodName := ⟨RX11, "file", "()I"⟩
abbrev cX11_folder : ByteArray := prog_13_method_15_code
def yX11_folder : MethodName := ⟨RX11, "folder", "()I"⟩
abbrev cX11_remove : ByteArray := prog_13_method_16_code
def yX11_remove : MethodName := ⟨RX11, "remove", "()I"⟩
abbrev cX11_orphans : ByteArray := prog_13_method_17_code
def yX11_orphans : MethodName := ⟨RX11, "orphans", "()I"⟩
abbrev cX11_pack : ByteArray := prog_13_method_18_code
def yX11_pack : MethodName := ⟨RX11, "pack", "(Z)V"⟩
abbrev cX11_query : ByteArray := prog_13_method_19_code
def yX11_query : MethodName := ⟨RX11, "query", "()I"⟩
abbrev cX11_at : ByteArray := prog_13_method_20_code
def yX11_at : MethodName := ⟨RX11, "at", "(I)I"⟩
abbrev cX11_part : ByteArray := prog_13_method_21_code
def yX11_part : MethodName := ⟨RX11, "part", "(I)I"⟩
abbrev cX11_piece : ByteArray := prog_13_method_22_code
def yX11_piece : MethodName := ⟨RX11, "piece", "(IZ)I"⟩
abbrev cX11_ill : ByteArray := prog_13_method_23_code
def yX11_ill : MethodName := ⟨RX11, "ill", "()I"⟩
abbrev cX11_pattern : ByteArray := prog_13_method_24_code
def yX11_pattern : MethodName := ⟨RX11, "pattern", "(IZ)V"⟩
abbrev cX11_place : ByteArray := prog_13_method_25_code
def yX11_place : MethodName := ⟨RX11, "place", "()I"⟩
abbrev cX11_byteOf : ByteArray := prog_13_method_26_code
def yX11_byteOf : MethodName := ⟨RX11, "byteOf", "(II)I"⟩
abbrev cX11_fitsName : ByteArray := prog_13_method_27_code
def yX11_fitsName : MethodName := ⟨RX11, "fitsName", "(IIII)Z"⟩
abbrev cX11_isOne : ByteArray := prog_13_method_28_code
def yX11_isOne : MethodName := ⟨RX11, "isOne", "(IIII)Z"⟩
abbrev cX11_pieceEnd : ByteArray := prog_13_method_29_code
def yX11_pieceEnd : MethodName := ⟨RX11, "pieceEnd", "(II)I"⟩
abbrev cX11_isStars : ByteArray := prog_13_method_30_code
def yX11_isStars : MethodName := ⟨RX11, "isStars", "(III)Z"⟩
abbrev cX11_pieces : ByteArray := prog_13_method_31_code
def yX11_pieces : MethodName := ⟨RX11, "pieces", "(I)I"⟩
abbrev cX11_isForFolders : ByteArray := prog_13_method_32_code
def yX11_isForFolders : MethodName := ⟨RX11, "isForFolders", "(I)Z"⟩
abbrev cX11_closed : ByteArray := prog_13_method_33_code
def yX11_closed : MethodName := ⟨RX11, "closed", "(II)I"⟩
abbrev cX11_on : ByteArray := prog_13_method_34_code
def yX11_on : MethodName := ⟨RX11, "on", "(III)I"⟩
abbrev cX11_bitsOf : ByteArray := prog_13_method_35_code
def yX11_bitsOf : MethodName := ⟨RX11, "bitsOf", "(II)I"⟩
abbrev cX11_fits : ByteArray := prog_13_method_36_code
def yX11_fits : MethodName := ⟨RX11, "fits", "(II)Z"⟩
abbrev cX11_isAnswer : ByteArray := prog_13_method_37_code
def yX11_isAnswer : MethodName := ⟨RX11, "isAnswer", "(II)Z"⟩
abbrev cX11_isLooked : ByteArray := prog_13_method_38_code
def yX11_isLooked : MethodName := ⟨RX11, "isLooked", "(I)Z"⟩
abbrev cX11_compare : ByteArray := prog_13_method_39_code
def yX11_compare : MethodName := ⟨RX11, "compare", "(II)I"⟩
abbrev cX11_following : ByteArray := prog_13_method_40_code
def yX11_following : MethodName := ⟨RX11, "following", "()I"⟩
abbrev cX11_spell : ByteArray := prog_13_method_41_code
def yX11_spell : MethodName := ⟨RX11, "spell", "(I)I"⟩
abbrev cX11_enter : ByteArray := prog_13_method_42_code
def yX11_enter : MethodName := ⟨RX11, "enter", "(II)V"⟩
abbrev cX11_packageOf : ByteArray := prog_13_method_43_code
def yX11_packageOf : MethodName := ⟨RX11, "packageOf", "(I)I"⟩
abbrev cX11_counts : ByteArray := prog_13_method_44_code
def yX11_counts : MethodName := ⟨RX11, "counts", "(II)Z"⟩
abbrev cX11_tell : ByteArray := prog_13_method_45_code
def yX11_tell : MethodName := ⟨RX11, "tell", "(I)V"⟩
abbrev cX11_ask : ByteArray := prog_13_method_46_code
def yX11_ask : MethodName := ⟨RX11, "ask", "(I)I"⟩
abbrev cX11_look : ByteArray := prog_13_method_47_code
def yX11_look : MethodName := ⟨RX11, "look", "(I)V"⟩
abbrev cX11_walk : ByteArray := prog_13_method_48_code
def yX11_walk : MethodName := ⟨RX11, "walk", "(II)V"⟩
abbrev cX11_looked : ByteArray := prog_13_method_49_code
def yX11_looked : MethodName := ⟨RX11, "looked", "()I"⟩
abbrev cX11_answer : ByteArray := prog_13_method_50_code
def yX11_answer : MethodName := ⟨RX11, "answer", "(II)I"⟩
def RJx145de : String := "java/io/Serializable"
def TJx145de : u_T := fun k => match k with
  | _ => ("", "", "", false)
def tyJx145de : Nat → FieldType := fun k => match k with
  | _ => .int
abbrev wsJx145de0 : List Cond := u_ws RJx145de TJx145de 0
theorem nmJx145de : ∀ a, a < 0 → ∀ b, b < 0 → a ≠ b → (TJx145de a).2.1 ≠ (TJx145de b).2.1 := by decide +kernel
theorem tyJx145de_ok : ∀ k, k < 0 → parseFieldDescriptor (TJx145de k).2.2.1 = some (tyJx145de k) := by decide +kernel
def RJ5 : String := "java/lang/AbstractStringBuilder"
def TJ5 : u_T := fun k => match k with
  | _ => ("", "", "", false)
def tyJ5 : Nat → FieldType := fun k => match k with
  | _ => .int
abbrev wsJ50 : List Cond := u_ws RJ5 TJ5 0
theorem nmJ5 : ∀ a, a < 0 → ∀ b, b < 0 → a ≠ b → (TJ5 a).2.1 ≠ (TJ5 b).2.1 := by decide +kernel
theorem tyJ5_ok : ∀ k, k < 0 → parseFieldDescriptor (TJ5 k).2.2.1 = some (tyJ5 k) := by decide +kernel
abbrev cJ5_init_d00df : ByteArray := prog_15_method_2_code
def yJ5_init_d00df : MethodName := ⟨RJ5, "<init>", "(I)V"⟩
abbrev cJ5_length_8abf5 : ByteArray := prog_15_method_6_code
def yJ5_length_8abf5 : MethodName := ⟨RJ5, "length", "()I"⟩
abbrev cJ5_ensureCapacityInternal_d00df : ByteArray := prog_15_method_9_code
def yJ5_ensureCapacityInternal_d00df : MethodName := ⟨RJ5, "ensureCapacityInternal", "(I)V"⟩
abbrev cJ5_newCapacity_0f7a4 : ByteArray := prog_15_method_10_code
def yJ5_newCapacity_0f7a4 : MethodName := ⟨RJ5, "newCapacity", "(I)I"⟩
abbrev cJ5_inflate_da8c8 : ByteArray := prog_15_method_11_code
def yJ5_inflate_da8c8 : MethodName := ⟨RJ5, "inflate", "()V"⟩
abbrev cJ5_setLength_d00df : ByteArray := prog_15_method_13_code
def yJ5_setLength_d00df : MethodName := ⟨RJ5, "setLength", "(I)V"⟩
abbrev cJ5_charAt_5068e : ByteArray := prog_15_method_14_code
def yJ5_charAt_5068e : MethodName := ⟨RJ5, "charAt", "(I)C"⟩
abbrev cJ5_append_cf1ce : ByteArray := prog_15_method_22_code
def yJ5_append_cf1ce : MethodName := ⟨RJ5, "append", "(Ljava/lang/String;)Ljava/lang/AbstractStringBuilder;"⟩
abbrev cJ5_appendNull_278bc : ByteArray := prog_15_method_26_code
def yJ5_appendNull_278bc : MethodName := ⟨RJ5, "appendNull", "()Ljava/lang/AbstractStringBuilder;"⟩
abbrev cJ5_append_3fe6f : ByteArray := prog_15_method_31_code
def yJ5_append_3fe6f : MethodName := ⟨RJ5, "append", "(C)Ljava/lang/AbstractStringBuilder;"⟩
abbrev cJ5_append_c97b9 : ByteArray := prog_15_method_32_code
def yJ5_append_c97b9 : MethodName := ⟨RJ5, "append", "(I)Ljava/lang/AbstractStringBuilder;"⟩
abbrev cJ5_getValue_6d5f1 : ByteArray := prog_15_method_64_code
def yJ5_getValue_6d5f1 : MethodName := ⟨RJ5, "getValue", "()[B"⟩
abbrev cJ5_isLatin1_aae02 : ByteArray := prog_15_method_68_code
def yJ5_isLatin1_aae02 : MethodName := ⟨RJ5, "isLatin1", "()Z"⟩
abbrev cJ5_inflateIfNeededFor_a7421 : ByteArray := prog_15_method_71_code
def yJ5_inflateIfNeededFor_a7421 : MethodName := ⟨RJ5, "inflateIfNeededFor", "(Ljava/lang/String;)V"⟩
abbrev cJ5_putStringAt_47b60 : ByteArray := prog_15_method_73_code
def yJ5_putStringAt_47b60 : MethodName := ⟨RJ5, "putStringAt", "(ILjava/lang/String;)V"⟩
def RJ11 : String := "java/lang/Character"
def TJ11 : u_T := fun k => match k with
  | _ => ("", "", "", false)
def tyJ11 : Nat → FieldType := fun k => match k with
  | _ => .int
abbrev wsJ110 : List Cond := u_ws RJ11 TJ11 0
theorem nmJ11 : ∀ a, a < 0 → ∀ b, b < 0 → a ≠ b → (TJ11 a).2.1 ≠ (TJ11 b).2.1 := by decide +kernel
theorem tyJ11_ok : ∀ k, k < 0 → parseFieldDescriptor (TJ11 k).2.2.1 = some (tyJ11 k) := by decide +kernel
abbrev cJ11_isValidCodePoint_9a6ad : ByteArray := prog_16_method_11_code
def yJ11_isValidCodePoint_9a6ad : MethodName := ⟨RJ11, "isValidCodePoint", "(I)Z"⟩
abbrev cJ11_highSurrogate_5068e : ByteArray := prog_16_method_28_code
def yJ11_highSurrogate_5068e : MethodName := ⟨RJ11, "highSurrogate", "(I)C"⟩
abbrev cJ11_lowSurrogate_5068e : ByteArray := prog_16_method_29_code
def yJ11_lowSurrogate_5068e : MethodName := ⟨RJ11, "lowSurrogate", "(I)C"⟩
def RJx8e188 : String := "java/lang/Cloneable"
def TJx8e188 : u_T := fun k => match k with
  | _ => ("", "", "", false)
def tyJx8e188 : Nat → FieldType := fun k => match k with
  | _ => .int
abbrev wsJx8e1880 : List Cond := u_ws RJx8e188 TJx8e188 0
theorem nmJx8e188 : ∀ a, a < 0 → ∀ b, b < 0 → a ≠ b → (TJx8e188 a).2.1 ≠ (TJx8e188 b).2.1 := by decide +kernel
theorem tyJx8e188_ok : ∀ k, k < 0 → parseFieldDescriptor (TJx8e188 k).2.2.1 = some (tyJx8e188 k) := by decide +kernel
def RJ6 : String := "java/lang/Integer"
def TJ6 : u_T := fun k => match k with
  | _ => ("", "", "", false)
def tyJ6 : Nat → FieldType := fun k => match k with
  | _ => .int
abbrev wsJ60 : List Cond := u_ws RJ6 TJ6 0
theorem nmJ6 : ∀ a, a < 0 → ∀ b, b < 0 → a ≠ b → (TJ6 a).2.1 ≠ (TJ6 b).2.1 := by decide +kernel
theorem tyJ6_ok : ∀ k, k < 0 → parseFieldDescriptor (TJ6 k).2.2.1 = some (tyJ6 k) := by decide +kernel
abbrev cJ6_getChars_ba4f3 : ByteArray := prog_21_method_12_code
def yJ6_getChars_ba4f3 : MethodName := ⟨RJ6, "getChars", "(II[B)I"⟩
abbrev cJ6_stringSize_0f7a4 : ByteArray := prog_21_method_13_code
def yJ6_stringSize_0f7a4 : MethodName := ⟨RJ6, "stringSize", "(I)I"⟩
def RJxab1ab : String := "java/lang/Iterable"
def TJxab1ab : u_T := fun k => match k with
  | _ => ("", "", "", false)
def tyJxab1ab : Nat → FieldType := fun k => match k with
  | _ => .int
abbrev wsJxab1ab0 : List Cond := u_ws RJxab1ab TJxab1ab 0
theorem nmJxab1ab : ∀ a, a < 0 → ∀ b, b < 0 → a ≠ b → (TJxab1ab a).2.1 ≠ (TJxab1ab b).2.1 := by decide +kernel
theorem tyJxab1ab_ok : ∀ k, k < 0 → parseFieldDescriptor (TJxab1ab k).2.2.1 = some (tyJxab1ab k) := by decide +kernel
def RJ9 : String := "java/lang/Math"
def TJ9 : u_T := fun k => match k with
  | _ => ("", "", "", false)
def tyJ9 : Nat → FieldType := fun k => match k with
  | _ => .int
abbrev wsJ90 : List Cond := u_ws RJ9 TJ9 0
theorem nmJ9 : ∀ a, a < 0 → ∀ b, b < 0 → a ≠ b → (TJ9 a).2.1 ≠ (TJ9 b).2.1 := by decide +kernel
theorem tyJ9_ok : ∀ k, k < 0 → parseFieldDescriptor (TJ9 k).2.2.1 = some (tyJ9 k) := by decide +kernel
abbrev cJ9_max_7cf53 : ByteArray := prog_23_method_65_code
def yJ9_max_7cf53 : MethodName := ⟨RJ9, "max", "(II)I"⟩
abbrev cJ9_min_7cf53 : ByteArray := prog_23_method_69_code
def yJ9_min_7cf53 : MethodName := ⟨RJ9, "min", "(II)I"⟩
def RJ0 : String := "java/lang/String"
def TJ0 : u_T := fun k => match k with
  | 0 => ("java/lang/String", "value", "[B", true)
  | 1 => ("java/lang/String", "coder", "B", true)
  | 2 => ("java/lang/String", "hash", "I", false)
  | _ => ("java/lang/String", "hashIsZero", "Z", false)
def tyJ0 : Nat → FieldType := fun k => match k with
  | 0 => .array .byte
  | 1 => .byte
  | 2 => .int
  | _ => .boolean
abbrev wsJ00 : List Cond := u_ws RJ0 TJ0 4
theorem nmJ0 : ∀ a, a < 4 → ∀ b, b < 4 → a ≠ b → (TJ0 a).2.1 ≠ (TJ0 b).2.1 := by decide +kernel
theorem tyJ0_ok : ∀ k, k < 4 → parseFieldDescriptor (TJ0 k).2.2.1 = some (tyJ0 k) := by decide +kernel
abbrev cJ0_init_81219 : ByteArray := prog_25_method_53_code
def yJ0_init_81219 : MethodName := ⟨RJ0, "<init>", "(Ljava/lang/StringBuilder;)V"⟩
abbrev cJ0_length_8abf5 : ByteArray := prog_25_method_54_code
def yJ0_length_8abf5 : MethodName := ⟨RJ0, "length", "()I"⟩
abbrev cJ0_isEmpty_aae02 : ByteArray := prog_25_method_55_code
def yJ0_isEmpty_aae02 : MethodName := ⟨RJ0, "isEmpty", "()Z"⟩
abbrev cJ0_charAt_5068e : ByteArray := prog_25_method_56_code
def yJ0_charAt_5068e : MethodName := ⟨RJ0, "charAt", "(I)C"⟩
abbrev cJ0_equals_9ea2d : ByteArray := prog_25_method_66_code
def yJ0_equals_9ea2d : MethodName := ⟨RJ0, "equals", "(Ljava/lang/Object;)Z"⟩
abbrev cJ0_indexOf_0f7a4 : ByteArray := prog_25_method_79_code
def yJ0_indexOf_0f7a4 : MethodName := ⟨RJ0, "indexOf", "(I)I"⟩
abbrev cJ0_indexOf_7cf53 : ByteArray := prog_25_method_80_code
def yJ0_indexOf_7cf53 : MethodName := ⟨RJ0, "indexOf", "(II)I"⟩
abbrev cJ0_substring_37a41 : ByteArray := prog_25_method_92_code
def yJ0_substring_37a41 : MethodName := ⟨RJ0, "substring", "(II)Ljava/lang/String;"⟩
abbrev cJ0_getBytes_840e7 : ByteArray := prog_25_method_147_code
def yJ0_getBytes_840e7 : MethodName := ⟨RJ0, "getBytes", "([BIB)V"⟩
abbrev cJ0_init_db425 : ByteArray := prog_25_method_150_code
def yJ0_init_db425 : MethodName := ⟨RJ0, "<init>", "(Ljava/lang/AbstractStringBuilder;Ljava/lang/Void;)V"⟩
abbrev cJ0_init_031fb : ByteArray := prog_25_method_151_code
def yJ0_init_031fb : MethodName := ⟨RJ0, "<init>", "([BB)V"⟩
abbrev cJ0_coder_7d493 : ByteArray := prog_25_method_152_code
def yJ0_coder_7d493 : MethodName := ⟨RJ0, "coder", "()B"⟩
abbrev cJ0_isLatin1_aae02 : ByteArray := prog_25_method_154_code
def yJ0_isLatin1_aae02 : MethodName := ⟨RJ0, "isLatin1", "()Z"⟩
abbrev cJ0_checkIndex_df160 : ByteArray := prog_25_method_155_code
def yJ0_checkIndex_df160 : MethodName := ⟨RJ0, "checkIndex", "(II)V"⟩
abbrev cJ0_checkBoundsOffCount_cabcc : ByteArray := prog_25_method_157_code
def yJ0_checkBoundsOffCount_cabcc : MethodName := ⟨RJ0, "checkBoundsOffCount", "(III)I"⟩
abbrev cJ0_checkBoundsBeginEnd_23922 : ByteArray := prog_25_method_158_code
def yJ0_checkBoundsBeginEnd_23922 : MethodName := ⟨RJ0, "checkBoundsBeginEnd", "(III)V"⟩
def RJ4 : String := "java/lang/StringBuilder"
def TJ4 : u_T := fun k => match k with
  | 0 => ("java/lang/AbstractStringBuilder", "value", "[B", false)
  | 1 => ("java/lang/AbstractStringBuilder", "coder", "B", false)
  | 2 => ("java/lang/AbstractStringBuilder", "maybeLatin1", "Z", false)
  | _ => ("java/lang/AbstractStringBuilder", "count", "I", false)
def tyJ4 : Nat → FieldType := fun k => match k with
  | 0 => .array .byte
  | 1 => .byte
  | 2 => .boolean
  | _ => .int
abbrev wsJ40 : List Cond := u_ws RJ4 TJ4 4
theorem nmJ4 : ∀ a, a < 4 → ∀ b, b < 4 → a ≠ b → (TJ4 a).2.1 ≠ (TJ4 b).2.1 := by decide +kernel
theorem tyJ4_ok : ∀ k, k < 4 → parseFieldDescriptor (TJ4 k).2.2.1 = some (tyJ4 k) := by decide +kernel
abbrev cJ4_init_da8c8 : ByteArray := prog_26_method_1_code
def yJ4_init_da8c8 : MethodName := ⟨RJ4, "<init>", "()V"⟩
abbrev cJ4_append_15ec4 : ByteArray := prog_26_method_7_code
def yJ4_append_15ec4 : MethodName := ⟨RJ4, "append", "(Ljava/lang/String;)Ljava/lang/StringBuilder;"⟩
abbrev cJ4_append_cf468 : ByteArray := prog_26_method_14_code
def yJ4_append_cf468 : MethodName := ⟨RJ4, "append", "(C)Ljava/lang/StringBuilder;"⟩
abbrev cJ4_append_bf812 : ByteArray := prog_26_method_15_code
def yJ4_append_bf812 : MethodName := ⟨RJ4, "append", "(I)Ljava/lang/StringBuilder;"⟩
abbrev cJ4_toString_0e30d : ByteArray := prog_26_method_42_code
def yJ4_toString_0e30d : MethodName := ⟨RJ4, "toString", "()Ljava/lang/String;"⟩
abbrev cJ4_charAt_5068e : ByteArray := prog_26_method_88_code
def yJ4_charAt_5068e : MethodName := ⟨RJ4, "charAt", "(I)C"⟩
abbrev cJ4_setLength_d00df : ByteArray := prog_26_method_89_code
def yJ4_setLength_d00df : MethodName := ⟨RJ4, "setLength", "(I)V"⟩
abbrev cJ4_length_8abf5 : ByteArray := prog_26_method_93_code
def yJ4_length_8abf5 : MethodName := ⟨RJ4, "length", "()I"⟩
def RJ1 : String := "java/lang/StringLatin1"
def TJ1 : u_T := fun k => match k with
  | _ => ("", "", "", false)
def tyJ1 : Nat → FieldType := fun k => match k with
  | _ => .int
abbrev wsJ10 : List Cond := u_ws RJ1 TJ1 0
theorem nmJ1 : ∀ a, a < 0 → ∀ b, b < 0 → a ≠ b → (TJ1 a).2.1 ≠ (TJ1 b).2.1 := by decide +kernel
theorem tyJ1_ok : ∀ k, k < 0 → parseFieldDescriptor (TJ1 k).2.2.1 = some (tyJ1 k) := by decide +kernel
abbrev cJ1_charAt_3b067 : ByteArray := prog_27_method_2_code
def yJ1_charAt_3b067 : MethodName := ⟨RJ1, "charAt", "([BI)C"⟩
abbrev cJ1_canEncode_fc78d : ByteArray := prog_27_method_3_code
def yJ1_canEncode_fc78d : MethodName := ⟨RJ1, "canEncode", "(C)Z"⟩
abbrev cJ1_canEncode_9a6ad : ByteArray := prog_27_method_4_code
def yJ1_canEncode_9a6ad : MethodName := ⟨RJ1, "canEncode", "(I)Z"⟩
abbrev cJ1_equals_b5fdf : ByteArray := prog_27_method_13_code
def yJ1_equals_b5fdf : MethodName := ⟨RJ1, "equals", "([B[B)Z"⟩
abbrev cJ1_indexOf_4cfef : ByteArray := prog_27_method_22_code
def yJ1_indexOf_4cfef : MethodName := ⟨RJ1, "indexOf", "([BIII)I"⟩
abbrev cJ1_indexOfChar_4cfef : ByteArray := prog_27_method_23_code
def yJ1_indexOfChar_4cfef : MethodName := ⟨RJ1, "indexOfChar", "([BIII)I"⟩
abbrev cJ1_newString_b4f7a : ByteArray := prog_27_method_47_code
def yJ1_newString_b4f7a : MethodName := ⟨RJ1, "newString", "([BII)Ljava/lang/String;"⟩
abbrev cJ1_fillNull_b72d1 : ByteArray := prog_27_method_48_code
def yJ1_fillNull_b72d1 : MethodName := ⟨RJ1, "fillNull", "([BII)V"⟩
abbrev cJ1_inflate_0e8fd : ByteArray := prog_27_method_50_code
def yJ1_inflate_0e8fd : MethodName := ⟨RJ1, "inflate", "([BI[BII)V"⟩
def RJ2 : String := "java/lang/StringUTF16"
def TJ2 : u_T := fun k => match k with
  | _ => ("", "", "", false)
def tyJ2 : Nat → FieldType := fun k => match k with
  | _ => .int
abbrev wsJ20 : List Cond := u_ws RJ2 TJ2 0
theorem nmJ2 : ∀ a, a < 0 → ∀ b, b < 0 → a ≠ b → (TJ2 a).2.1 ≠ (TJ2 b).2.1 := by decide +kernel
theorem tyJ2_ok : ∀ k, k < 0 → parseFieldDescriptor (TJ2 k).2.2.1 = some (tyJ2 k) := by decide +kernel
abbrev cJ2_newBytesFor_77867 : ByteArray := prog_28_method_2_code
def yJ2_newBytesFor_77867 : MethodName := ⟨RJ2, "newBytesFor", "(I)[B"⟩
abbrev cJ2_newBytesLength_0f7a4 : ByteArray := prog_28_method_3_code
def yJ2_newBytesLength_0f7a4 : MethodName := ⟨RJ2, "newBytesLength", "(I)I"⟩
abbrev cJ2_putChar_b72d1 : ByteArray := prog_28_method_4_code
def yJ2_putChar_b72d1 : MethodName := ⟨RJ2, "putChar", "([BII)V"⟩
abbrev cJ2_getChar_3b067 : ByteArray := prog_28_method_5_code
def yJ2_getChar_3b067 : MethodName := ⟨RJ2, "getChar", "([BI)C"⟩
abbrev cJ2_length_9d52b : ByteArray := prog_28_method_6_code
def yJ2_length_9d52b : MethodName := ⟨RJ2, "length", "([B)I"⟩
abbrev cJ2_coderFromArrayLen_85cad : ByteArray := prog_28_method_15_code
def yJ2_coderFromArrayLen_85cad : MethodName := ⟨RJ2, "coderFromArrayLen", "([BI)B"⟩
abbrev cJ2_compress_39247 : ByteArray := prog_28_method_17_code
def yJ2_compress_39247 : MethodName := ⟨RJ2, "compress", "([BII)[B"⟩
abbrev cJ2_compress_5af95 : ByteArray := prog_28_method_22_code
def yJ2_compress_5af95 : MethodName := ⟨RJ2, "compress", "([BI[BII)I"⟩
abbrev cJ2_indexOf_4cfef : ByteArray := prog_28_method_40_code
def yJ2_indexOf_4cfef : MethodName := ⟨RJ2, "indexOf", "([BIII)I"⟩
abbrev cJ2_indexOfChar_4cfef : ByteArray := prog_28_method_47_code
def yJ2_indexOfChar_4cfef : MethodName := ⟨RJ2, "indexOfChar", "([BIII)I"⟩
abbrev cJ2_indexOfCharUnsafe_4cfef : ByteArray := prog_28_method_48_code
def yJ2_indexOfCharUnsafe_4cfef : MethodName := ⟨RJ2, "indexOfCharUnsafe", "([BIII)I"⟩
abbrev cJ2_indexOfSupplementary_4cfef : ByteArray := prog_28_method_49_code
def yJ2_indexOfSupplementary_4cfef : MethodName := ⟨RJ2, "indexOfSupplementary", "([BIII)I"⟩
abbrev cJ2_newString_b4f7a : ByteArray := prog_28_method_69_code
def yJ2_newString_b4f7a : MethodName := ⟨RJ2, "newString", "([BII)Ljava/lang/String;"⟩
abbrev cJ2_fillNull_b72d1 : ByteArray := prog_28_method_70_code
def yJ2_fillNull_b72d1 : MethodName := ⟨RJ2, "fillNull", "([BII)V"⟩
abbrev cJ2_putCharSB_b72d1 : ByteArray := prog_28_method_71_code
def yJ2_putCharSB_b72d1 : MethodName := ⟨RJ2, "putCharSB", "([BII)V"⟩
abbrev cJ2_getChars_46870 : ByteArray := prog_28_method_77_code
def yJ2_getChars_46870 : MethodName := ⟨RJ2, "getChars", "(III[B)I"⟩
abbrev cJ2_putCharsAt_cd4e5 : ByteArray := prog_28_method_81_code
def yJ2_putCharsAt_cd4e5 : MethodName := ⟨RJ2, "putCharsAt", "([BICCCC)I"⟩
abbrev cJ2_charAt_3b067 : ByteArray := prog_28_method_83_code
def yJ2_charAt_3b067 : MethodName := ⟨RJ2, "charAt", "([BI)C"⟩
abbrev cJ2_inflate_0e8fd : ByteArray := prog_28_method_86_code
def yJ2_inflate_0e8fd : MethodName := ⟨RJ2, "inflate", "([BI[BII)V"⟩
abbrev cJ2_getChars_ba4f3 : ByteArray := prog_28_method_89_code
def yJ2_getChars_ba4f3 : MethodName := ⟨RJ2, "getChars", "(II[B)I"⟩
abbrev cJ2_checkIndex_2214a : ByteArray := prog_28_method_91_code
def yJ2_checkIndex_2214a : MethodName := ⟨RJ2, "checkIndex", "(I[B)V"⟩
abbrev cJ2_checkBoundsBeginEnd_d044e : ByteArray := prog_28_method_93_code
def yJ2_checkBoundsBeginEnd_d044e : MethodName := ⟨RJ2, "checkBoundsBeginEnd", "(II[B)V"⟩
abbrev cJ2_checkBoundsOffCount_d044e : ByteArray := prog_28_method_94_code
def yJ2_checkBoundsOffCount_d044e : MethodName := ⟨RJ2, "checkBoundsOffCount", "(II[B)V"⟩
def RJ10 : String := "java/lang/System"
def TJ10 : u_T := fun k => match k with
  | _ => ("", "", "", false)
def tyJ10 : Nat → FieldType := fun k => match k with
  | _ => .int
abbrev wsJ100 : List Cond := u_ws RJ10 TJ10 0
theorem nmJ10 : ∀ a, a < 0 → ∀ b, b < 0 → a ≠ b → (TJ10 a).2.1 ≠ (TJ10 b).2.1 := by decide +kernel
theorem tyJ10_ok : ∀ k, k < 0 → parseFieldDescriptor (TJ10 k).2.2.1 = some (tyJ10 k) := by decide +kernel
def RJxa1e45 : String := "java/util/AbstractCollection"
def TJxa1e45 : u_T := fun k => match k with
  | _ => ("", "", "", false)
def tyJxa1e45 : Nat → FieldType := fun k => match k with
  | _ => .int
abbrev wsJxa1e450 : List Cond := u_ws RJxa1e45 TJxa1e45 0
theorem nmJxa1e45 : ∀ a, a < 0 → ∀ b, b < 0 → a ≠ b → (TJxa1e45 a).2.1 ≠ (TJxa1e45 b).2.1 := by decide +kernel
theorem tyJxa1e45_ok : ∀ k, k < 0 → parseFieldDescriptor (TJxa1e45 k).2.2.1 = some (tyJxa1e45 k) := by decide +kernel
abbrev cJxa1e45_init_da8c8 : ByteArray := prog_31_method_1_code
def yJxa1e45_init_da8c8 : MethodName := ⟨RJxa1e45, "<init>", "()V"⟩
def RJxc12de : String := "java/util/AbstractList"
def TJxc12de : u_T := fun k => match k with
  | _ => ("", "", "", false)
def tyJxc12de : Nat → FieldType := fun k => match k with
  | _ => .int
abbrev wsJxc12de0 : List Cond := u_ws RJxc12de TJxc12de 0
theorem nmJxc12de : ∀ a, a < 0 → ∀ b, b < 0 → a ≠ b → (TJxc12de a).2.1 ≠ (TJxc12de b).2.1 := by decide +kernel
theorem tyJxc12de_ok : ∀ k, k < 0 → parseFieldDescriptor (TJxc12de k).2.2.1 = some (tyJxc12de k) := by decide +kernel
abbrev cJxc12de_init_da8c8 : ByteArray := prog_32_method_1_code
def yJxc12de_init_da8c8 : MethodName := ⟨RJxc12de, "<init>", "()V"⟩
def RJx4a65c : String := "java/util/ArrayList"
def TJx4a65c : u_T := fun k => match k with
  | 0 => ("java/util/AbstractList", "modCount", "I", false)
  | 1 => ("java/util/ArrayList", "elementData", "[Ljava/lang/Object;", false)
  | _ => ("java/util/ArrayList", "size", "I", false)
def tyJx4a65c : Nat → FieldType := fun k => match k with
  | 0 => .int
  | 1 => .array (.object "java/lang/Object")
  | _ => .int
abbrev wsJx4a65c0 : List Cond := u_ws RJx4a65c TJx4a65c 3
theorem nmJx4a65c : ∀ a, a < 3 → ∀ b, b < 3 → a ≠ b → (TJx4a65c a).2.1 ≠ (TJx4a65c b).2.1 := by decide +kernel
theorem tyJx4a65c_ok : ∀ k, k < 3 → parseFieldDescriptor (TJx4a65c k).2.2.1 = some (tyJx4a65c k) := by decide +kernel
abbrev cJx4a65c_init_da8c8 : ByteArray := prog_33_method_2_code
def yJx4a65c_init_da8c8 : MethodName := ⟨RJx4a65c, "<init>", "()V"⟩
abbrev cJx4a65c_grow_92f84 : ByteArray := prog_33_method_6_code
def yJx4a65c_grow_92f84 : MethodName := ⟨RJx4a65c, "grow", "(I)[Ljava/lang/Object;"⟩
abbrev cJx4a65c_grow_d5877 : ByteArray := prog_33_method_7_code
def yJx4a65c_grow_d5877 : MethodName := ⟨RJx4a65c, "grow", "()[Ljava/lang/Object;"⟩
abbrev cJx4a65c_size_8abf5 : ByteArray := prog_33_method_8_code
def yJx4a65c_size_8abf5 : MethodName := ⟨RJx4a65c, "size", "()I"⟩
abbrev cJx4a65c_isEmpty_aae02 : ByteArray := prog_33_method_9_code
def yJx4a65c_isEmpty_aae02 : MethodName := ⟨RJx4a65c, "isEmpty", "()Z"⟩
abbrev cJx4a65c_elementData_915e3 : ByteArray := prog_33_method_18_code
def yJx4a65c_elementData_915e3 : MethodName := ⟨RJx4a65c, "elementData", "(I)Ljava/lang/Object;"⟩
abbrev cJx4a65c_get_915e3 : ByteArray := prog_33_method_20_code
def yJx4a65c_get_915e3 : MethodName := ⟨RJx4a65c, "get", "(I)Ljava/lang/Object;"⟩
abbrev cJx4a65c_add_72be8 : ByteArray := prog_33_method_24_code
def yJx4a65c_add_72be8 : MethodName := ⟨RJx4a65c, "add", "(Ljava/lang/Object;[Ljava/lang/Object;I)V"⟩
abbrev cJx4a65c_add_9ea2d : ByteArray := prog_33_method_25_code
def yJx4a65c_add_9ea2d : MethodName := ⟨RJx4a65c, "add", "(Ljava/lang/Object;)Z"⟩
abbrev cJx4a65c_add_7a177 : ByteArray := prog_33_method_26_code
def yJx4a65c_add_7a177 : MethodName := ⟨RJx4a65c, "add", "(ILjava/lang/Object;)V"⟩
abbrev cJx4a65c_remove_915e3 : ByteArray := prog_33_method_29_code
def yJx4a65c_remove_915e3 : MethodName := ⟨RJx4a65c, "remove", "(I)Ljava/lang/Object;"⟩
abbrev cJx4a65c_fastRemove_b59b0 : ByteArray := prog_33_method_39_code
def yJx4a65c_fastRemove_b59b0 : MethodName := ⟨RJx4a65c, "fastRemove", "([Ljava/lang/Object;I)V"⟩
abbrev cJx4a65c_rangeCheckForAdd_d00df : ByteArray := prog_33_method_45_code
def yJx4a65c_rangeCheckForAdd_d00df : MethodName := ⟨RJx4a65c, "rangeCheckForAdd", "(I)V"⟩
def RJ7 : String := "java/util/Arrays"
def TJ7 : u_T := fun k => match k with
  | _ => ("", "", "", false)
def tyJ7 : Nat → FieldType := fun k => match k with
  | _ => .int
abbrev wsJ70 : List Cond := u_ws RJ7 TJ7 0
theorem nmJ7 : ∀ a, a < 0 → ∀ b, b < 0 → a ≠ b → (TJ7 a).2.1 ≠ (TJ7 b).2.1 := by decide +kernel
theorem tyJ7_ok : ∀ k, k < 0 → parseFieldDescriptor (TJ7 k).2.2.1 = some (tyJ7 k) := by decide +kernel
abbrev cJ7_rangeCheck_23922 : ByteArray := prog_34_method_30_code
def yJ7_rangeCheck_23922 : MethodName := ⟨RJ7, "rangeCheck", "(III)V"⟩
abbrev cJ7_fill_53178 : ByteArray := prog_34_method_103_code
def yJ7_fill_53178 : MethodName := ⟨RJ7, "fill", "([II)V"⟩
abbrev cJ7_fill_eb02e : ByteArray := prog_34_method_110_code
def yJ7_fill_eb02e : MethodName := ⟨RJ7, "fill", "([BIIB)V"⟩
abbrev cJ7_copyOf_1904c : ByteArray := prog_34_method_119_code
def yJ7_copyOf_1904c : MethodName := ⟨RJ7, "copyOf", "([Ljava/lang/Object;I)[Ljava/lang/Object;"⟩
abbrev cJ7_copyOf_6403c : ByteArray := prog_34_method_120_code
def yJ7_copyOf_6403c : MethodName := ⟨RJ7, "copyOf", "([Ljava/lang/Object;ILjava/lang/Class;)[Ljava/lang/Object;"⟩
abbrev cJ7_copyOf_9075b : ByteArray := prog_34_method_121_code
def yJ7_copyOf_9075b : MethodName := ⟨RJ7, "copyOf", "([BI)[B"⟩
abbrev cJ7_checkLength_df160 : ByteArray := prog_34_method_131_code
def yJ7_checkLength_df160 : MethodName := ⟨RJ7, "checkLength", "(II)V"⟩
abbrev cJ7_copyOfRange_39247 : ByteArray := prog_34_method_132_code
def yJ7_copyOfRange_39247 : MethodName := ⟨RJ7, "copyOfRange", "([BII)[B"⟩
abbrev cJ7_copyOfRangeByte_39247 : ByteArray := prog_34_method_133_code
def yJ7_copyOfRangeByte_39247 : MethodName := ⟨RJ7, "copyOfRangeByte", "([BII)[B"⟩
def RJx5ef63 : String := "java/util/Collection"
def TJx5ef63 : u_T := fun k => match k with
  | _ => ("", "", "", false)
def tyJx5ef63 : Nat → FieldType := fun k => match k with
  | _ => .int
abbrev wsJx5ef630 : List Cond := u_ws RJx5ef63 TJx5ef63 0
theorem nmJx5ef63 : ∀ a, a < 0 → ∀ b, b < 0 → a ≠ b → (TJx5ef63 a).2.1 ≠ (TJx5ef63 b).2.1 := by decide +kernel
theorem tyJx5ef63_ok : ∀ k, k < 0 → parseFieldDescriptor (TJx5ef63 k).2.2.1 = some (tyJx5ef63 k) := by decide +kernel
def RJxbd725 : String := "java/util/List"
def TJxbd725 : u_T := fun k => match k with
  | _ => ("", "", "", false)
def tyJxbd725 : Nat → FieldType := fun k => match k with
  | _ => .int
abbrev wsJxbd7250 : List Cond := u_ws RJxbd725 TJxbd725 0
theorem nmJxbd725 : ∀ a, a < 0 → ∀ b, b < 0 → a ≠ b → (TJxbd725 a).2.1 ≠ (TJxbd725 b).2.1 := by decide +kernel
theorem tyJxbd725_ok : ∀ k, k < 0 → parseFieldDescriptor (TJxbd725 k).2.2.1 = some (tyJxbd725 k) := by decide +kernel
def RJ15 : String := "java/util/Objects"
def TJ15 : u_T := fun k => match k with
  | _ => ("", "", "", false)
def tyJ15 : Nat → FieldType := fun k => match k with
  | _ => .int
abbrev wsJ150 : List Cond := u_ws RJ15 TJ15 0
theorem nmJ15 : ∀ a, a < 0 → ∀ b, b < 0 → a ≠ b → (TJ15 a).2.1 ≠ (TJ15 b).2.1 := by decide +kernel
theorem tyJ15_ok : ∀ k, k < 0 → parseFieldDescriptor (TJ15 k).2.2.1 = some (tyJ15 k) := by decide +kernel
abbrev cJ15_checkIndex_7cf53 : ByteArray := prog_37_method_17_code
def yJ15_checkIndex_7cf53 : MethodName := ⟨RJ15, "checkIndex", "(II)I"⟩
def RJxf0a74 : String := "java/util/RandomAccess"
def TJxf0a74 : u_T := fun k => match k with
  | _ => ("", "", "", false)
def tyJxf0a74 : Nat → FieldType := fun k => match k with
  | _ => .int
abbrev wsJxf0a740 : List Cond := u_ws RJxf0a74 TJxf0a74 0
theorem nmJxf0a74 : ∀ a, a < 0 → ∀ b, b < 0 → a ≠ b → (TJxf0a74 a).2.1 ≠ (TJxf0a74 b).2.1 := by decide +kernel
theorem tyJxf0a74_ok : ∀ k, k < 0 → parseFieldDescriptor (TJxf0a74 k).2.2.1 = some (tyJxf0a74 k) := by decide +kernel
def RJxa66e6 : String := "java/util/SequencedCollection"
def TJxa66e6 : u_T := fun k => match k with
  | _ => ("", "", "", false)
def tyJxa66e6 : Nat → FieldType := fun k => match k with
  | _ => .int
abbrev wsJxa66e60 : List Cond := u_ws RJxa66e6 TJxa66e6 0
theorem nmJxa66e6 : ∀ a, a < 0 → ∀ b, b < 0 → a ≠ b → (TJxa66e6 a).2.1 ≠ (TJxa66e6 b).2.1 := by decide +kernel
theorem tyJxa66e6_ok : ∀ k, k < 0 → parseFieldDescriptor (TJxa66e6 k).2.2.1 = some (tyJxa66e6 k) := by decide +kernel
def RJ8 : String := "jdk/internal/util/ArraysSupport"
def TJ8 : u_T := fun k => match k with
  | _ => ("", "", "", false)
def tyJ8 : Nat → FieldType := fun k => match k with
  | _ => .int
abbrev wsJ80 : List Cond := u_ws RJ8 TJ8 0
theorem nmJ8 : ∀ a, a < 0 → ∀ b, b < 0 → a ≠ b → (TJ8 a).2.1 ≠ (TJ8 b).2.1 := by decide +kernel
theorem tyJ8_ok : ∀ k, k < 0 → parseFieldDescriptor (TJ8 k).2.2.1 = some (tyJ8 k) := by decide +kernel
abbrev cJ8_newLength_cabcc : ByteArray := prog_40_method_27_code
def yJ8_newLength_cabcc : MethodName := ⟨RJ8, "newLength", "(III)I"⟩
abbrev cJ8_hugeLength_7cf53 : ByteArray := prog_40_method_28_code
def yJ8_hugeLength_7cf53 : MethodName := ⟨RJ8, "hugeLength", "(II)I"⟩
def RJ3 : String := "jdk/internal/util/Preconditions"
def TJ3 : u_T := fun k => match k with
  | _ => ("", "", "", false)
def tyJ3 : Nat → FieldType := fun k => match k with
  | _ => .int
abbrev wsJ30 : List Cond := u_ws RJ3 TJ3 0
theorem nmJ3 : ∀ a, a < 0 → ∀ b, b < 0 → a ≠ b → (TJ3 a).2.1 ≠ (TJ3 b).2.1 := by decide +kernel
theorem tyJ3_ok : ∀ k, k < 0 → parseFieldDescriptor (TJ3 k).2.2.1 = some (tyJ3 k) := by decide +kernel
abbrev cJ3_checkIndex_8e157 : ByteArray := prog_41_method_11_code
def yJ3_checkIndex_8e157 : MethodName := ⟨RJ3, "checkIndex", "(IILjava/util/function/BiFunction;)I"⟩
abbrev cJ3_checkFromToIndex_8c36e : ByteArray := prog_41_method_12_code
def yJ3_checkFromToIndex_8c36e : MethodName := ⟨RJ3, "checkFromToIndex", "(IIILjava/util/function/BiFunction;)I"⟩
abbrev cJ3_checkFromIndexSize_8c36e : ByteArray := prog_41_method_13_code
def yJ3_checkFromIndexSize_8c36e : MethodName := ⟨RJ3, "checkFromIndexSize", "(IIILjava/util/function/BiFunction;)I"⟩
def RL : String := "GlobRowsLaw"
abbrev cL_file : ByteArray := method_3_code
def yL_file : MethodName := ⟨RL, "file", "(LGlobRows;[J)I"⟩
abbrev cL_folder : ByteArray := method_4_code
def yL_folder : MethodName := ⟨RL, "folder", "(LGlobRows;[J)I"⟩
abbrev cL_remove : ByteArray := method_5_code
def yL_remove : MethodName := ⟨RL, "remove", "(LGlobRows;[J)I"⟩
abbrev cL_pack : ByteArray := method_6_code
def yL_pack : MethodName := ⟨RL, "pack", "(LGlobRows;Z)I"⟩
abbrev cL_query : ByteArray := method_7_code
def yL_query : MethodName := ⟨RL, "query", "(LGlobRows;[J)I"⟩
abbrev cL_pattern : ByteArray := method_8_code
def yL_pattern : MethodName := ⟨RL, "pattern", "(LGlobRows;IZ)I"⟩
abbrev cL_law : ByteArray := code
def yL_law : MethodName := ⟨RL, "law", "([I)Z"⟩
abbrev vwCl : List vw_C := [(RJ0, TJ0, 4), (RJ4, TJ4, 4), (RJx4a65c, TJx4a65c, 3), (RX0, TX0, 4), (RX1, TX1, 6), (RX2, TX2, 1), (RX3, TX3, 4), (RX4, TX4, 5), (RX5, TX5, 4), (RX6, TX6, 3), (RX7, TX7, 4), (RX8, TX8, 2), (RX9, TX9, 2), (RX10, TX10, 5), (RX11, TX11, 39)]
