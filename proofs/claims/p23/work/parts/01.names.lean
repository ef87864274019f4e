/-- a private method of a class that the tables say can be made, by its rows of tables_1 -/
def lw_okq (q : MethodName × Nat) : Prop := (q.1.cls ≠ "java/lang/invoke/MethodHandle" ∧ q.1.cls ≠ "java/lang/invoke/VarHandle") ∧ Cond.instantiable q.1.cls q.2 ∈ tables_1 ∧ Cond.privateMethod q.1 ∈ tables_1 ∧ Cond.instanceMethod q.1 ∈ tables_1
theorem lw_p0 : lw_okq (⟨"FlippedBlinds", "kept", "(I)I"⟩, 8) := ⟨⟨by decide +kernel, by decide +kernel⟩, List.mem_of_getElem? (i := 13) (by decide +kernel), List.mem_of_getElem? (i := 312) (by decide +kernel), List.mem_of_getElem? (i := 313) (by decide +kernel)⟩
theorem lw_p1 : lw_okq (⟨"FlippedBlinds", "readOf", "(LFlippedBlinds$Blind;I)I"⟩, 8) := ⟨⟨by decide +kernel, by decide +kernel⟩, List.mem_of_getElem? (i := 13) (by decide +kernel), List.mem_of_getElem? (i := 540) (by decide +kernel), List.mem_of_getElem? (i := 541) (by decide +kernel)⟩
def lw_privs_1 : List (MethodName × Nat) := [(⟨"FlippedBlinds", "kept", "(I)I"⟩, 8), (⟨"FlippedBlinds", "readOf", "(LFlippedBlinds$Blind;I)I"⟩, 8)]
theorem lw_r1 : ∀ q ∈ lw_privs_1, lw_okq q := List.forall_mem_cons.mpr ⟨lw_p0, List.forall_mem_cons.mpr ⟨lw_p1, fun _ h => absurd h List.not_mem_nil⟩⟩
def lw_privs : List (MethodName × Nat) := lw_privs_1
def lw_tbl : List Cond := k2_sels lw_privs ++ tables_1
theorem lw_privs_ok : ∀ q ∈ lw_privs, lw_okq q := lw_r1
def RX0 : String := "FlippedBlinds$Blind"
def TX0 : u_T := fun k => match k with
  | 0 => ("FlippedBlinds$Blind", "columns", "I", true)
  | 1 => ("FlippedBlinds$Blind", "bright", "LFlippedBlinds$Dots;", true)
  | 2 => ("FlippedBlinds$Blind", "stuck", "LFlippedBlinds$Dots;", true)
  | 3 => ("FlippedBlinds$Blind", "wanted", "LFlippedBlinds$Dots;", true)
  | 4 => ("FlippedBlinds$Blind", "toFlip", "LFlippedBlinds$Dots;", true)
  | 5 => ("FlippedBlinds$Blind", "wear", "[I", true)
  | _ => ("FlippedBlinds$Blind", "flips", "I", false)
def tyX0 : Nat → FieldType := fun k => match k with
  | 0 => .int
  | 1 => .object "FlippedBlinds$Dots"
  | 2 => .object "FlippedBlinds$Dots"
  | 3 => .object "FlippedBlinds$Dots"
  | 4 => .object "FlippedBlinds$Dots"
  | 5 => .array .int
  | _ => .int
theorem nmX0 : ∀ a, a < 7 → ∀ b, b < 7 → a ≠ b → (TX0 a).2.1 ≠ (TX0 b).2.1 := by decide +kernel
theorem tyX0_ok : ∀ k, k < 7 → parseFieldDescriptor (TX0 k).2.2.1 = some (tyX0 k) := by decide +kernel
abbrev cX0_init : ByteArray := prog_2_method_1_code
def yX0_init : MethodName := ⟨RX0, "<init>", "(I)V"⟩
abbrev cX0_copyFrom : ByteArray := prog_2_method_2_code
def yX0_copyFrom : MethodName := ⟨RX0, "copyFrom", "(LFlippedBlinds$Blind;)V"⟩
abbrev cX0_hasColumn : ByteArray := prog_2_method_3_code
def yX0_hasColumn : MethodName := ⟨RX0, "hasColumn", "(I)Z"⟩
abbrev cX0_hasDisc : ByteArray := prog_2_method_4_code
def yX0_hasDisc : MethodName := ⟨RX0, "hasDisc", "(II)Z"⟩
abbrev cX0_wearAt : ByteArray := prog_2_method_5_code
def yX0_wearAt : MethodName := ⟨RX0, "wearAt", "(II)I"⟩
abbrev cX0_markFlips : ByteArray := prog_2_method_6_code
def yX0_markFlips : MethodName := ⟨RX0, "markFlips", "(JJ)V"⟩
abbrev cX0_want : ByteArray := prog_2_method_7_code
def yX0_want : MethodName := ⟨RX0, "want", "(JJI)I"⟩
abbrev cX0_mend : ByteArray := prog_2_method_11_code
def yX0_mend : MethodName := ⟨RX0, "mend", "(I)I"⟩
def RX1 : String := "FlippedBlinds$Dots"
def TX1 : u_T := fun k => match k with
  | 0 => ("FlippedBlinds$Dots", "left", "J", false)
  | _ => ("FlippedBlinds$Dots", "right", "J", false)
def tyX1 : Nat → FieldType := fun k => match k with
  | 0 => .long
  | _ => .long
theorem nmX1 : ∀ a, a < 2 → ∀ b, b < 2 → a ≠ b → (TX1 a).2.1 ≠ (TX1 b).2.1 := by decide +kernel
theorem tyX1_ok : ∀ k, k < 2 → parseFieldDescriptor (TX1 k).2.2.1 = some (tyX1 k) := by decide +kernel
abbrev cX1_init : ByteArray := prog_3_method_1_code
def yX1_init : MethodName := ⟨RX1, "<init>", "()V"⟩
abbrev cX1_at : ByteArray := prog_3_method_2_code
def yX1_at : MethodName := ⟨RX1, "at", "(II)I"⟩
abbrev cX1_put : ByteArray := prog_3_method_3_code
def yX1_put : MethodName := ⟨RX1, "put", "(IIZ)V"⟩
abbrev cX1_size : ByteArray := prog_3_method_4_code
def yX1_size : MethodName := ⟨RX1, "size", "()I"⟩
abbrev cX1_far : ByteArray := prog_3_method_5_code
def yX1_far : MethodName := ⟨RX1, "far", "(JJ)I"⟩
abbrev cX1_copyFrom : ByteArray := prog_3_method_6_code
def yX1_copyFrom : MethodName := ⟨RX1, "copyFrom", "(LFlippedBlinds$Dots;)V"⟩
def RX2 : String := "FlippedBlinds$History"
def TX2 : u_T := fun k => match k with
  | 0 => ("FlippedBlinds$History", "states", "[LFlippedBlinds$State;", true)
  | _ => ("FlippedBlinds$History", "size", "I", false)
def tyX2 : Nat → FieldType := fun k => match k with
  | 0 => .array (.object "FlippedBlinds$State")
  | _ => .int
theorem nmX2 : ∀ a, a < 2 → ∀ b, b < 2 → a ≠ b → (TX2 a).2.1 ≠ (TX2 b).2.1 := by decide +kernel
theorem tyX2_ok : ∀ k, k < 2 → parseFieldDescriptor (TX2 k).2.2.1 = some (tyX2 k) := by decide +kernel
abbrev cX2_init : ByteArray := prog_4_method_1_code
def yX2_init : MethodName := ⟨RX2, "<init>", "()V"⟩
abbrev cX2_prepare : ByteArray := prog_4_method_2_code
def yX2_prepare : MethodName := ⟨RX2, "prepare", "(LFlippedBlinds$State;)V"⟩
abbrev cX2_keep : ByteArray := prog_4_method_3_code
def yX2_keep : MethodName := ⟨RX2, "keep", "()V"⟩
abbrev cX2_dropOldest : ByteArray := prog_4_method_4_code
def yX2_dropOldest : MethodName := ⟨RX2, "dropOldest", "()V"⟩
def RX3 : String := "FlippedBlinds$Order"
def TX3 : u_T := fun k => match k with
  | 0 => ("FlippedBlinds$Order", "kind", "I", false)
  | 1 => ("FlippedBlinds$Order", "letters", "I", false)
  | 2 => ("FlippedBlinds$Order", "numbers", "[I", true)
  | 3 => ("FlippedBlinds$Order", "length", "I", false)
  | _ => ("FlippedBlinds$Order", "whole", "Z", false)
def tyX3 : Nat → FieldType := fun k => match k with
  | 0 => .int
  | 1 => .int
  | 2 => .array .int
  | 3 => .int
  | _ => .boolean
theorem nmX3 : ∀ a, a < 5 → ∀ b, b < 5 → a ≠ b → (TX3 a).2.1 ≠ (TX3 b).2.1 := by decide +kernel
theorem tyX3_ok : ∀ k, k < 5 → parseFieldDescriptor (TX3 k).2.2.1 = some (tyX3 k) := by decide +kernel
abbrev cX3_init : ByteArray := prog_5_method_1_code
def yX3_init : MethodName := ⟨RX3, "<init>", "()V"⟩
def RX4 : String := "FlippedBlinds$State"
def TX4 : u_T := fun k => match k with
  | 0 => ("FlippedBlinds$State", "words", "LFlippedBlinds$Words;", true)
  | 1 => ("FlippedBlinds$State", "wide", "LFlippedBlinds$Blind;", true)
  | 2 => ("FlippedBlinds$State", "narrow", "LFlippedBlinds$Blind;", true)
  | 3 => ("FlippedBlinds$State", "needed", "I", false)
  | 4 => ("FlippedBlinds$State", "life", "I", false)
  | 5 => ("FlippedBlinds$State", "wornOut", "I", false)
  | 6 => ("FlippedBlinds$State", "repairs", "I", false)
  | _ => ("FlippedBlinds$State", "shows", "I", false)
def tyX4 : Nat → FieldType := fun k => match k with
  | 0 => .object "FlippedBlinds$Words"
  | 1 => .object "FlippedBlinds$Blind"
  | 2 => .object "FlippedBlinds$Blind"
  | 3 => .int
  | 4 => .int
  | 5 => .int
  | 6 => .int
  | _ => .int
theorem nmX4 : ∀ a, a < 8 → ∀ b, b < 8 → a ≠ b → (TX4 a).2.1 ≠ (TX4 b).2.1 := by decide +kernel
theorem tyX4_ok : ∀ k, k < 8 → parseFieldDescriptor (TX4 k).2.2.1 = some (tyX4 k) := by decide +kernel
abbrev cX4_init : ByteArray := prog_6_method_1_code
def yX4_init : MethodName := ⟨RX4, "<init>", "()V"⟩
abbrev cX4_copyFrom : ByteArray := prog_6_method_2_code
def yX4_copyFrom : MethodName := ⟨RX4, "copyFrom", "(LFlippedBlinds$State;)V"⟩
abbrev cX4_blindAt : ByteArray := prog_6_method_3_code
def yX4_blindAt : MethodName := ⟨RX4, "blindAt", "(I)LFlippedBlinds$Blind;"⟩
abbrev cX4_addWord : ByteArray := prog_6_method_4_code
def yX4_addWord : MethodName := ⟨RX4, "addWord", "(I)I"⟩
abbrev cX4_takeWord : ByteArray := prog_6_method_5_code
def yX4_takeWord : MethodName := ⟨RX4, "takeWord", "(I)I"⟩
abbrev cX4_wordsToShow : ByteArray := prog_6_method_6_code
def yX4_wordsToShow : MethodName := ⟨RX4, "wordsToShow", "(LFlippedBlinds$Blind;)I"⟩
abbrev cX4_showWord : ByteArray := prog_6_method_7_code
def yX4_showWord : MethodName := ⟨RX4, "showWord", "(II)I"⟩
abbrev cX4_darken : ByteArray := prog_6_method_8_code
def yX4_darken : MethodName := ⟨RX4, "darken", "(I)I"⟩
abbrev cX4_stickDisc : ByteArray := prog_6_method_9_code
def yX4_stickDisc : MethodName := ⟨RX4, "stickDisc", "(IIII)I"⟩
abbrev cX4_repairColumn : ByteArray := prog_6_method_10_code
def yX4_repairColumn : MethodName := ⟨RX4, "repairColumn", "(II)I"⟩
abbrev cX4_change : ByteArray := prog_6_method_11_code
def yX4_change : MethodName := ⟨RX4, "change", "(II)I"⟩
def RX5 : String := "FlippedBlinds$Text"
def TX5 : u_T := fun k => match k with
  | 0 => ("FlippedBlinds$Text", "signs", "[C", true)
  | _ => ("FlippedBlinds$Text", "length", "I", false)
def tyX5 : Nat → FieldType := fun k => match k with
  | 0 => .array .char
  | _ => .int
theorem nmX5 : ∀ a, a < 2 → ∀ b, b < 2 → a ≠ b → (TX5 a).2.1 ≠ (TX5 b).2.1 := by decide +kernel
theorem tyX5_ok : ∀ k, k < 2 → parseFieldDescriptor (TX5 k).2.2.1 = some (tyX5 k) := by decide +kernel
abbrev cX5_init : ByteArray := prog_7_method_1_code
def yX5_init : MethodName := ⟨RX5, "<init>", "()V"⟩
def RX6 : String := "FlippedBlinds$Words"
def TX6 : u_T := fun k => match k with
  | 0 => ("FlippedBlinds$Words", "size", "I", false)
  | 1 => ("FlippedBlinds$Words", "letters", "[I", true)
  | 2 => ("FlippedBlinds$Words", "widths", "[I", true)
  | 3 => ("FlippedBlinds$Words", "times", "[I", true)
  | 4 => ("FlippedBlinds$Words", "left", "[J", true)
  | _ => ("FlippedBlinds$Words", "right", "[J", true)
def tyX6 : Nat → FieldType := fun k => match k with
  | 0 => .int
  | 1 => .array .int
  | 2 => .array .int
  | 3 => .array .int
  | 4 => .array .long
  | _ => .array .long
theorem nmX6 : ∀ a, a < 6 → ∀ b, b < 6 → a ≠ b → (TX6 a).2.1 ≠ (TX6 b).2.1 := by decide +kernel
theorem tyX6_ok : ∀ k, k < 6 → parseFieldDescriptor (TX6 k).2.2.1 = some (tyX6 k) := by decide +kernel
abbrev cX6_init : ByteArray := prog_8_method_1_code
def yX6_init : MethodName := ⟨RX6, "<init>", "()V"⟩
abbrev cX6_copyFrom : ByteArray := prog_8_method_2_code
def yX6_copyFrom : MethodName := ⟨RX6, "copyFrom", "(LFlippedBlinds$Words;)V"⟩
abbrev cX6_has : ByteArray := prog_8_method_3_code
def yX6_has : MethodName := ⟨RX6, "has", "(I)Z"⟩
abbrev cX6_find : ByteArray := prog_8_method_4_code
def yX6_find : MethodName := ⟨RX6, "find", "(I)I"⟩
abbrev cX6_add : ByteArray := prog_8_method_5_code
def yX6_add : MethodName := ⟨RX6, "add", "(I)V"⟩
abbrev cX6_draw : ByteArray := prog_8_method_6_code
def yX6_draw : MethodName := ⟨RX6, "draw", "(IIII)V"⟩
abbrev cX6_remove : ByteArray := prog_8_method_7_code
def yX6_remove : MethodName := ⟨RX6, "remove", "(I)V"⟩
abbrev cX6_dotsOf : ByteArray := prog_8_method_8_code
def yX6_dotsOf : MethodName := ⟨RX6, "dotsOf", "(I)I"⟩
abbrev cX6_shiftsOn : ByteArray := prog_8_method_9_code
def yX6_shiftsOn : MethodName := ⟨RX6, "shiftsOn", "(II)I"⟩
abbrev cX6_marginAt : ByteArray := prog_8_method_11_code
def yX6_marginAt : MethodName := ⟨RX6, "marginAt", "(IILFlippedBlinds$Blind;I)I"⟩
abbrev cX6_bestShift : ByteArray := prog_8_method_12_code
def yX6_bestShift : MethodName := ⟨RX6, "bestShift", "(ILFlippedBlinds$Blind;II)I"⟩
abbrev cX6_readAt : ByteArray := prog_8_method_15_code
def yX6_readAt : MethodName := ⟨RX6, "readAt", "(LFlippedBlinds$Blind;)I"⟩
def RX7 : String := "FlippedBlinds"
def TX7 : u_T := fun k => match k with
  | 0 => ("FlippedBlinds", "now", "LFlippedBlinds$State;", true)
  | 1 => ("FlippedBlinds", "trial", "LFlippedBlinds$State;", true)
  | 2 => ("FlippedBlinds", "history", "LFlippedBlinds$History;", true)
  | 3 => ("FlippedBlinds", "text", "LFlippedBlinds$Text;", true)
  | 4 => ("FlippedBlinds", "order", "LFlippedBlinds$Order;", true)
  | 5 => ("FlippedBlinds", "faultPlace", "I", false)
  | 6 => ("FlippedBlinds", "faultReason", "I", false)
  | _ => ("FlippedBlinds", "faultCause", "I", false)
def tyX7 : Nat → FieldType := fun k => match k with
  | 0 => .object "FlippedBlinds$State"
  | 1 => .object "FlippedBlinds$State"
  | 2 => .object "FlippedBlinds$History"
  | 3 => .object "FlippedBlinds$Text"
  | 4 => .object "FlippedBlinds$Order"
  | 5 => .int
  | 6 => .int
  | _ => .int
theorem nmX7 : ∀ a, a < 8 → ∀ b, b < 8 → a ≠ b → (TX7 a).2.1 ≠ (TX7 b).2.1 := by decide +kernel
theorem tyX7_ok : ∀ k, k < 8 → parseFieldDescriptor (TX7 k).2.2.1 = some (tyX7 k) := by decide +kernel
abbrev cX7_init : ByteArray := prog_1_method_1_code
def yX7_init : MethodName := ⟨RX7, "<init>", "()V"⟩
abbrev cX7_word : ByteArray := prog_1_method_2_code
def yX7_word : MethodName := ⟨RX7, "word", "(I)I"⟩
abbrev cX7_unword : ByteArray := prog_1_method_3_code
def yX7_unword : MethodName := ⟨RX7, "unword", "(I)I"⟩
abbrev cX7_show : ByteArray := prog_1_method_4_code
def yX7_show : MethodName := ⟨RX7, "show", "(II)I"⟩
abbrev cX7_blank : ByteArray := prog_1_method_5_code
def yX7_blank : MethodName := ⟨RX7, "blank", "(I)I"⟩
abbrev cX7_stick : ByteArray := prog_1_method_6_code
def yX7_stick : MethodName := ⟨RX7, "stick", "(IIII)I"⟩
abbrev cX7_repair : ByteArray := prog_1_method_7_code
def yX7_repair : MethodName := ⟨RX7, "repair", "(II)I"⟩
abbrev cX7_set : ByteArray := prog_1_method_8_code
def yX7_set : MethodName := ⟨RX7, "set", "(II)I"⟩
abbrev cX7_disc : ByteArray := prog_1_method_9_code
def yX7_disc : MethodName := ⟨RX7, "disc", "(IIII)I"⟩
abbrev cX7_blindOf : ByteArray := prog_1_method_10_code
def yX7_blindOf : MethodName := ⟨RX7, "blindOf", "(II)I"⟩
abbrev cX7_wordOf : ByteArray := prog_1_method_11_code
def yX7_wordOf : MethodName := ⟨RX7, "wordOf", "(II)I"⟩
abbrev cX7_count : ByteArray := prog_1_method_16_code
def yX7_count : MethodName := ⟨RX7, "count", "(I)I"⟩
abbrev cX7_kept : ByteArray := prog_1_method_22_code
def yX7_kept : MethodName := ⟨RX7, "kept", "(I)I"⟩
abbrev cX7_readOf : ByteArray := prog_1_method_23_code
def yX7_readOf : MethodName := ⟨RX7, "readOf", "(LFlippedBlinds$Blind;I)I"⟩
abbrev cX7_leftBits : ByteArray := prog_1_method_25_code
def yX7_leftBits : MethodName := ⟨RX7, "leftBits", "(IJ)J"⟩
abbrev cX7_rightBits : ByteArray := prog_1_method_26_code
def yX7_rightBits : MethodName := ⟨RX7, "rightBits", "(IJ)J"⟩
abbrev cX7_letterDots : ByteArray := prog_1_method_27_code
def yX7_letterDots : MethodName := ⟨RX7, "letterDots", "(II)J"⟩
abbrev cX7_lettersIn : ByteArray := prog_1_method_28_code
def yX7_lettersIn : MethodName := ⟨RX7, "lettersIn", "(I)I"⟩
abbrev cX7_areLetters : ByteArray := prog_1_method_29_code
def yX7_areLetters : MethodName := ⟨RX7, "areLetters", "(I)Z"⟩
abbrev cX7_placeOf : ByteArray := prog_1_method_30_code
def yX7_placeOf : MethodName := ⟨RX7, "placeOf", "(II)I"⟩
def RX8 : String := "FlippedBlindsModel"
def TX8 : u_T := fun k => match k with
  | _ => ("", "", "", false)
def tyX8 : Nat → FieldType := fun k => match k with
  | _ => .int
theorem nmX8 : ∀ a, a < 0 → ∀ b, b < 0 → a ≠ b → (TX8 a).2.1 ≠ (TX8 b).2.1 := by decide +kernel
theorem tyX8_ok : ∀ k, k < 0 → parseFieldDescriptor (TX8 k).2.2.1 = some (tyX8 k) := by decide +kernel
def RJ13 : String := "java/lang/Long"
abbrev cJ13_bitCount_95d88 : ByteArray := prog_11_method_50_code
def yJ13_bitCount_95d88 : MethodName := ⟨RJ13, "bitCount", "(J)I"⟩
def RJ9 : String := "java/lang/Math"
abbrev cJ9_min_7cf53 : ByteArray := prog_12_method_69_code
def yJ9_min_7cf53 : MethodName := ⟨RJ9, "min", "(II)I"⟩
def RJ10 : String := "java/lang/System"
def RL : String := "FlippedBlindsLaw"
abbrev cL_cell : ByteArray := method_2_code
def yL_cell : MethodName := ⟨RL, "cell", "([II)I"⟩
abbrev cL_low : ByteArray := method_3_code
def yL_low : MethodName := ⟨RL, "low", "(II)I"⟩
abbrev cL_font : ByteArray := method_4_code
def yL_font : MethodName := ⟨RL, "font", "(I)I"⟩
abbrev cL_size : ByteArray := method_5_code
def yL_size : MethodName := ⟨RL, "size", "(I)I"⟩
abbrev cL_picture : ByteArray := method_6_code
def yL_picture : MethodName := ⟨RL, "picture", "(III)I"⟩
abbrev cL_columns : ByteArray := method_7_code
def yL_columns : MethodName := ⟨RL, "columns", "(I)I"⟩
abbrev cL_ones : ByteArray := method_8_code
def yL_ones : MethodName := ⟨RL, "ones", "(I)I"⟩
abbrev cL_sum : ByteArray := method_9_code
def yL_sum : MethodName := ⟨RL, "sum", "([II)I"⟩
abbrev cL_wear : ByteArray := method_10_code
def yL_wear : MethodName := ⟨RL, "wear", "([JIII)I"⟩
abbrev cL_wears : ByteArray := method_11_code
def yL_wears : MethodName := ⟨RL, "wears", "([JIIII)V"⟩
abbrev cL_want : ByteArray := method_12_code
def yL_want : MethodName := ⟨RL, "want", "([I[I[I[I[JIII)V"⟩
abbrev cL_shifts : ByteArray := method_13_code
def yL_shifts : MethodName := ⟨RL, "shifts", "(II)I"⟩
abbrev cL_margin : ByteArray := method_14_code
def yL_margin : MethodName := ⟨RL, "margin", "([I[I[I[IIIII)I"⟩
abbrev cL_best : ByteArray := method_15_code
def yL_best : MethodName := ⟨RL, "best", "([I[I[I[IIII)I"⟩
abbrev cL_discs : ByteArray := method_16_code
def yL_discs : MethodName := ⟨RL, "discs", "(LFlippedBlinds;[I[I[I[I[I[I[JII)Z"⟩
abbrev cL_acts : ByteArray := method_17_code
def yL_acts : MethodName := ⟨RL, "acts", "(LFlippedBlinds;[I[I[I[I[I[I[JI)Z"⟩
abbrev cL_areWords : ByteArray := method_18_code
def yL_areWords : MethodName := ⟨RL, "areWords", "(LFlippedBlinds;[I[I[I)Z"⟩
abbrev cL_isSo : ByteArray := method_19_code
def yL_isSo : MethodName := ⟨RL, "isSo", "(LFlippedBlinds;[I[I[I[I[I[I[J)Z"⟩
abbrev cL_law : ByteArray := code
def yL_law : MethodName := ⟨RL, "law", "([I)Z"⟩
abbrev vwCl : List vw_C := [(RX0, TX0, 7), (RX1, TX1, 2), (RX2, TX2, 2), (RX3, TX3, 5), (RX4, TX4, 8), (RX5, TX5, 2), (RX6, TX6, 6), (RX7, TX7, 8)]
