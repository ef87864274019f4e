section
/-- a private method of a class that the tables say can be made, by its rows of tables_1 -/
def lw_okq (q : MethodName × Nat) : Prop := (q.1.cls ≠ "java/lang/invoke/MethodHandle" ∧ q.1.cls ≠ "java/lang/invoke/VarHandle") ∧ Cond.instantiable q.1.cls q.2 ∈ tables_1 ∧ Cond.privateMethod q.1 ∈ tables_1 ∧ Cond.instanceMethod q.1 ∈ tables_1
theorem lw_p0 : lw_okq (⟨"FlippedBlinds", "kept", "(I)I"⟩, 8) := ⟨⟨by decide +kernel, by decide +kernel⟩, List.mem_of_getElem? (i := 13) (by decide +kernel), List.mem_of_getElem? (i := 312) (by decide +kernel), List.mem_of_getElem? (i := 313) (by decide +kernel)⟩
theorem lw_p1 : lw_okq (⟨"FlippedBlinds", "readOf", "(LFlippedBlinds$Blind;I)I"⟩, 8) := ⟨⟨by decide +kernel, by decide +kernel⟩, List.mem_of_getElem? (i := 13) (by decide +kernel), List.mem_of_getElem? (i := 540) (by decide +kernel), List.mem_of_getElem? (i := 541) (by decide +kernel)⟩
def lw_privs_1 : List (MethodName × Nat) := [(⟨"FlippedBlinds", "kept", "(I)I"⟩, 8), (⟨"FlippedBlinds", "readOf", "(LFlippedBlinds$Blind;I)I"⟩, 8)]
theorem lw_r1 : ∀ q ∈ lw_privs_1, lw_okq q := List.forall_mem_cons.mpr ⟨lw_p0, List.forall_mem_cons.mpr ⟨lw_p1, fun _ h => absurd h List.not_mem_nil⟩⟩
def lw_privs : List (MethodName × Nat) := lw_privs_1
def lw_tbl : List Cond := k2_sels lw_privs ++ tables_1
theorem lw_privs_ok : ∀ q ∈ lw_privs, lw_okq q := lw_r1
def RX0 : String := "FlippedBlinds$Blind"
def TX0 : u_T := fun k => match k with
  | 0 => ("FlippedBlinds$Blind", "columns", "I", true)
  | 1 => ("FlippedBlinds$Blind", "bright", "LFlippedBlinds$Dots;", true)
  | 2 => ("FlippedBlinds$Blind", "stuck", "LFlippedBlinds$Dots;", true)
  | 3 => ("FlippedBlinds$Blind", "wanted", "LFlippedBlinds$Dots;", true)
  | 4 => ("FlippedBlinds$Blind", "toFlip", "LFlippedBlinds$Dots;", true)
  | 5 => ("FlippedBlinds$Blind", "wear", "[I", true)
  | _ => ("FlippedBlinds$Blind", "flips", "I", false)
def tyX0 : Nat → FieldType := fun k => match k with
  | 0 => .int
  | 1 => .object "FlippedBlinds$Dots"
  | 2 => .object "FlippedBlinds$Dots"
  | 3 => .object "FlippedBlinds$Dots"
  | 4 => .object "FlippedBlinds$Dots"
  | 5 => .array .int
  | _ => .int
theorem nmX0 : ∀ a, a < 7 → ∀ b, b < 7 → a ≠ b → (TX0 a).2.1 ≠ (TX0 b).2.1 := by decide +kernel
theorem tyX0_ok : ∀ k, k < 7 → parseFieldDescriptor (TX0 k).2.2.1 = some (tyX0 k) := by decide +kernel
abbrev cX0_init : ByteArray := prog_2_method_1_code
def yX0_init : MethodName := ⟨RX0, "<init>", "(I)V"⟩
abbrev cX0_copyFrom : ByteArray := prog_2_method_2_code
def yX0_copyFrom : MethodName := ⟨RX0, "copyFrom", "(LFlippedBlinds$Blind;)V"⟩
abbrev cX0_hasColumn : ByteArray := prog_2_method_3_code
def yX0_hasColumn : MethodName := ⟨RX0, "hasColumn", "(I)Z"⟩
abbrev cX0_hasDisc : ByteArray := prog_2_method_4_code
def yX0_hasDisc : MethodName := ⟨RX0, "hasDisc", "(II)Z"⟩
abbrev cX0_wearAt : ByteArray := prog_2_method_5_code
def yX0_wearAt : MethodName := ⟨RX0, "wearAt", "(II)I"⟩
abbrev cX0_markFlips : ByteArray := prog_2_method_6_code
def yX0_markFlips : MethodName := ⟨RX0, "markFlips", "(JJ)V"⟩
abbrev cX0_want : ByteArray := prog_2_method_7_code
def yX0_want : MethodName := ⟨RX0, "want", "(JJI)I"⟩
abbrev cX0_mend : ByteArray := prog_2_method_11_code
def yX0_mend : MethodName := ⟨RX0, "mend", "(I)I"⟩
def RX1 : String := "FlippedBlinds$Dots"
def TX1 : u_T := fun k => match k with
  | 0 => ("FlippedBlinds$Dots", "left", "J", false)
  | _ => ("FlippedBlinds$Dots", "right", "J", false)
def tyX1 : Nat → FieldType := fun k => match k with
  | 0 => .long
  | _ => .long
theorem nmX1 : ∀ a, a < 2 → ∀ b, b < 2 → a ≠ b → (TX1 a).2.1 ≠ (TX1 b).2.1 := by decide +kernel
theorem tyX1_ok : ∀ k, k < 2 → parseFieldDescriptor (TX1 k).2.2.1 = some (tyX1 k) := by decide +kernel
abbrev cX1_init : ByteArray := prog_3_method_1_code
def yX1_init : MethodName := ⟨RX1, "<init>", "()V"⟩
abbrev cX1_at : ByteArray := prog_3_method_2_code
def yX1_at : MethodName := ⟨RX1, "at", "(II)I"⟩
abbrev cX1_put : ByteArray := prog_3_method_3_code
def yX1_put : MethodName := ⟨RX1, "put", "(IIZ)V"⟩
abbrev cX1_size : ByteArray := prog_3_method_4_code
def yX1_size : MethodName := ⟨RX1, "size", "()I"⟩
abbrev cX1_far : ByteArray := prog_3_method_5_code
def yX1_far : MethodName := ⟨RX1, "far", "(JJ)I"⟩
abbrev cX1_copyFrom : ByteArray := prog_3_method_6_code
def yX1_copyFrom : MethodName := ⟨RX1, "copyFrom", "(LFlippedBlinds$Dots;)V"⟩
def RX2 : String := "FlippedBlinds$History"
def TX2 : u_T := fun k => match k with
  | 0 => ("FlippedBlinds$History", "states", "[LFlippedBlinds$State;", true)
  | _ => ("FlippedBlinds$History", "size", "I", false)
def tyX2 : Nat → FieldType := fun k => match k with
  | 0 => .array (.object "FlippedBlinds$State")
  | _ => .int
theorem nmX2 : ∀ a, a < 2 → ∀ b, b < 2 → a ≠ b → (TX2 a).2.1 ≠ (TX2 b).2.1 := by decide +kernel
theorem tyX2_ok : ∀ k, k < 2 → parseFieldDescriptor (TX2 k).2.2.1 = some (tyX2 k) := by decide +kernel
abbrev cX2_init : ByteArray := prog_4_method_1_code
def yX2_init : MethodName := ⟨RX2, "<init>", "()V"⟩
abbrev cX2_prepare : ByteArray := prog_4_method_2_code
def yX2_prepare : MethodName := ⟨RX2, "prepare", "(LFlippedBlinds$State;)V"⟩
abbrev cX2_keep : ByteArray := prog_4_method_3_code
def yX2_keep : MethodName := ⟨RX2, "keep", "()V"⟩
abbrev cX2_dropOldest : ByteArray := prog_4_method_4_code
def yX2_dropOldest : MethodName := ⟨RX2, "dropOldest", "()V"⟩
def RX3 : String := "FlippedBlinds$Order"
def TX3 : u_T := fun k => match k with
  | 0 => ("FlippedBlinds$Order", "kind", "I", false)
  | 1 => ("FlippedBlinds$Order", "letters", "I", false)
  | 2 => ("FlippedBlinds$Order", "numbers", "[I", true)
  | 3 => ("FlippedBlinds$Order", "length", "I", false)
  | _ => ("FlippedBlinds$Order", "whole", "Z", false)
def tyX3 : Nat → FieldType := fun k => match k with
  | 0 => .int
  | 1 => .int
  | 2 => .array .int
  | 3 => .int
  | _ => .boolean
theorem nmX3 : ∀ a, a < 5 → ∀ b, b < 5 → a ≠ b → (TX3 a).2.1 ≠ (TX3 b).2.1 := by decide +kernel
theorem tyX3_ok : ∀ k, k < 5 → parseFieldDescriptor (TX3 k).2.2.1 = some (tyX3 k) := by decide +kernel
abbrev cX3_init : ByteArray := prog_5_method_1_code
def yX3_init : MethodName := ⟨RX3, "<init>", "()V"⟩
def RX4 : String := "FlippedBlinds$State"
def TX4 : u_T := fun k => match k with
  | 0 => ("FlippedBlinds$State", "words", "LFlippedBlinds$Words;", true)
  | 1 => ("FlippedBlinds$State", "wide", "LFlippedBlinds$Blind;", true)
  | 2 => ("FlippedBlinds$State", "narrow", "LFlippedBlinds$Blind;", true)
  | 3 => ("FlippedBlinds$State", "needed", "I", false)
  | 4 => ("FlippedBlinds$State", "life", "I", false)
  | 5 => ("FlippedBlinds$State", "wornOut", "I", false)
  | 6 => ("FlippedBlinds$State", "repairs", "I", false)
  | _ => ("FlippedBlinds$State", "shows", "I", false)
def tyX4 : Nat → FieldType := fun k => match k with
  | 0 => .object "FlippedBlinds$Words"
  | 1 => .object "FlippedBlinds$Blind"
  | 2 => .object "FlippedBlinds$Blind"
  | 3 => .int
  | 4 => .int
  | 5 => .int
  | 6 => .int
  | _ => .int
theorem nmX4 : ∀ a, a < 8 → ∀ b, b < 8 → a ≠ b → (TX4 a).2.1 ≠ (TX4 b).2.1 := by decide +kernel
theorem tyX4_ok : ∀ k, k < 8 → parseFieldDescriptor (TX4 k).2.2.1 = some (tyX4 k) := by decide +kernel
abbrev cX4_init : ByteArray := prog_6_method_1_code
def yX4_init : MethodName := ⟨RX4, "<init>", "()V"⟩
abbrev cX4_copyFrom : ByteArray := prog_6_method_2_code
def yX4_copyFrom : MethodName := ⟨RX4, "copyFrom", "(LFlippedBlinds$State;)V"⟩
abbrev cX4_blindAt : ByteArray := prog_6_method_3_code
def yX4_blindAt : MethodName := ⟨RX4, "blindAt", "(I)LFlippedBlinds$Blind;"⟩
abbrev cX4_addWord : ByteArray := prog_6_method_4_code
def yX4_addWord : MethodName := ⟨RX4, "addWord", "(I)I"⟩
abbrev cX4_takeWord : ByteArray := prog_6_method_5_code
def yX4_takeWord : MethodName := ⟨RX4, "takeWord", "(I)I"⟩
abbrev cX4_wordsToShow : ByteArray := prog_6_method_6_code
def yX4_wordsToShow : MethodName := ⟨RX4, "wordsToShow", "(LFlippedBlinds$Blind;)I"⟩
abbrev cX4_showWord : ByteArray := prog_6_method_7_code
def yX4_showWord : MethodName := ⟨RX4, "showWord", "(II)I"⟩
abbrev cX4_darken : ByteArray := prog_6_method_8_code
def yX4_darken : MethodName := ⟨RX4, "darken", "(I)I"⟩
abbrev cX4_stickDisc : ByteArray := prog_6_method_9_code
def yX4_stickDisc : MethodName := ⟨RX4, "stickDisc", "(IIII)I"⟩
abbrev cX4_repairColumn : ByteArray := prog_6_method_10_code
def yX4_repairColumn : MethodName := ⟨RX4, "repairColumn", "(II)I"⟩
abbrev cX4_change : ByteArray := prog_6_method_11_code
def yX4_change : MethodName := ⟨RX4, "change", "(II)I"⟩
def RX5 : String := "FlippedBlinds$Text"
def TX5 : u_T := fun k => match k with
  | 0 => ("FlippedBlinds$Text", "signs", "[C", true)
  | _ => ("FlippedBlinds$Text", "length", "I", false)
def tyX5 : Nat → FieldType := fun k => match k with
  | 0 => .array .char
  | _ => .int
theorem nmX5 : ∀ a, a < 2 → ∀ b, b < 2 → a ≠ b → (TX5 a).2.1 ≠ (TX5 b).2.1 := by decide +kernel
theorem tyX5_ok : ∀ k, k < 2 → parseFieldDescriptor (TX5 k).2.2.1 = some (tyX5 k) := by decide +kernel
abbrev cX5_init : ByteArray := prog_7_method_1_code
def yX5_init : MethodName := ⟨RX5, "<init>", "()V"⟩
def RX6 : String := "FlippedBlinds$Words"
def TX6 : u_T := fun k => match k with
  | 0 => ("FlippedBlinds$Words", "size", "I", false)
  | 1 => ("FlippedBlinds$Words", "letters", "[I", true)
  | 2 => ("FlippedBlinds$Words", "widths", "[I", true)
  | 3 => ("FlippedBlinds$Words", "times", "[I", true)
  | 4 => ("FlippedBlinds$Words", "left", "[J", true)
  | _ => ("FlippedBlinds$Words", "right", "[J", true)
def tyX6 : Nat → FieldType := fun k => match k with
  | 0 => .int
  | 1 => .array .int
  | 2 => .array .int
  | 3 => .array .int
  | 4 => .array .long
  | _ => .array .long
theorem nmX6 : ∀ a, a < 6 → ∀ b, b < 6 → a ≠ b → (TX6 a).2.1 ≠ (TX6 b).2.1 := by decide +kernel
theorem tyX6_ok : ∀ k, k < 6 → parseFieldDescriptor (TX6 k).2.2.1 = some (tyX6 k) := by decide +kernel
abbrev cX6_init : ByteArray := prog_8_method_1_code
def yX6_init : MethodName := ⟨RX6, "<init>", "()V"⟩
abbrev cX6_copyFrom : ByteArray := prog_8_method_2_code
def yX6_copyFrom : MethodName := ⟨RX6, "copyFrom", "(LFlippedBlinds$Words;)V"⟩
abbrev cX6_has : ByteArray := prog_8_method_3_code
def yX6_has : MethodName := ⟨RX6, "has", "(I)Z"⟩
abbrev cX6_find : ByteArray := prog_8_method_4_code
def yX6_find : MethodName := ⟨RX6, "find", "(I)I"⟩
abbrev cX6_add : ByteArray := prog_8_method_5_code
def yX6_add : MethodName := ⟨RX6, "add", "(I)V"⟩
abbrev cX6_draw : ByteArray := prog_8_method_6_code
def yX6_draw : MethodName := ⟨RX6, "draw", "(IIII)V"⟩
abbrev cX6_remove : ByteArray := prog_8_method_7_code
def yX6_remove : MethodName := ⟨RX6, "remove", "(I)V"⟩
abbrev cX6_dotsOf : ByteArray := prog_8_method_8_code
def yX6_dotsOf : MethodName := ⟨RX6, "dotsOf", "(I)I"⟩
abbrev cX6_shiftsOn : ByteArray := prog_8_method_9_code
def yX6_shiftsOn : MethodName := ⟨RX6, "shiftsOn", "(II)I"⟩
abbrev cX6_marginAt : ByteArray := prog_8_method_11_code
def yX6_marginAt : MethodName := ⟨RX6, "marginAt", "(IILFlippedBlinds$Blind;I)I"⟩
abbrev cX6_bestShift : ByteArray := prog_8_method_12_code
def yX6_bestShift : MethodName := ⟨RX6, "bestShift", "(ILFlippedBlinds$Blind;II)I"⟩
abbrev cX6_readAt : ByteArray := prog_8_method_15_code
def yX6_readAt : MethodName := ⟨RX6, "readAt", "(LFlippedBlinds$Blind;)I"⟩
def RX7 : String := "FlippedBlinds"
def TX7 : u_T := fun k => match k with
  | 0 => ("FlippedBlinds", "now", "LFlippedBlinds$State;", true)
  | 1 => ("FlippedBlinds", "trial", "LFlippedBlinds$State;", true)
  | 2 => ("FlippedBlinds", "history", "LFlippedBlinds$History;", true)
  | 3 => ("FlippedBlinds", "text", "LFlippedBlinds$Text;", true)
  | 4 => ("FlippedBlinds", "order", "LFlippedBlinds$Order;", true)
  | 5 => ("FlippedBlinds", "faultPlace", "I", false)
  | 6 => ("FlippedBlinds", "faultReason", "I", false)
  | _ => ("FlippedBlinds", "faultCause", "I", false)
def tyX7 : Nat → FieldType := fun k => match k with
  | 0 => .object "FlippedBlinds$State"
  | 1 => .object "FlippedBlinds$State"
  | 2 => .object "FlippedBlinds$History"
  | 3 => .object "FlippedBlinds$Text"
  | 4 => .object "FlippedBlinds$Order"
  | 5 => .int
  | 6 => .int
  | _ => .int
theorem nmX7 : ∀ a, a < 8 → ∀ b, b < 8 → a ≠ b → (TX7 a).2.1 ≠ (TX7 b).2.1 := by decide +kernel
theorem tyX7_ok : ∀ k, k < 8 → parseFieldDescriptor (TX7 k).2.2.1 = some (tyX7 k) := by decide +kernel
abbrev cX7_init : ByteArray := prog_1_method_1_code
def yX7_init : MethodName := ⟨RX7, "<init>", "()V"⟩
abbrev cX7_word : ByteArray := prog_1_method_2_code
def yX7_word : MethodName := ⟨RX7, "word", "(I)I"⟩
abbrev cX7_unword : ByteArray := prog_1_method_3_code
def yX7_unword : MethodName := ⟨RX7, "unword", "(I)I"⟩
abbrev cX7_show : ByteArray := prog_1_method_4_code
def yX7_show : MethodName := ⟨RX7, "show", "(II)I"⟩
abbrev cX7_blank : ByteArray := prog_1_method_5_code
def yX7_blank : MethodName := ⟨RX7, "blank", "(I)I"⟩
abbrev cX7_stick : ByteArray := prog_1_method_6_code
def yX7_stick : MethodName := ⟨RX7, "stick", "(IIII)I"⟩
abbrev cX7_repair : ByteArray := prog_1_method_7_code
def yX7_repair : MethodName := ⟨RX7, "repair", "(II)I"⟩
abbrev cX7_set : ByteArray := prog_1_method_8_code
def yX7_set : MethodName := ⟨RX7, "set", "(II)I"⟩
abbrev cX7_disc : ByteArray := prog_1_method_9_code
def yX7_disc : MethodName := ⟨RX7, "disc", "(IIII)I"⟩
abbrev cX7_blindOf : ByteArray := prog_1_method_10_code
def yX7_blindOf : MethodName := ⟨RX7, "blindOf", "(II)I"⟩
abbrev cX7_wordOf : ByteArray := prog_1_method_11_code
def yX7_wordOf : MethodName := ⟨RX7, "wordOf", "(II)I"⟩
abbrev cX7_count : ByteArray := prog_1_method_16_code
def yX7_count : MethodName := ⟨RX7, "count", "(I)I"⟩
abbrev cX7_kept : ByteArray := prog_1_method_22_code
def yX7_kept : MethodName := ⟨RX7, "kept", "(I)I"⟩
abbrev cX7_readOf : ByteArray := prog_1_method_23_code
def yX7_readOf : MethodName := ⟨RX7, "readOf", "(LFlippedBlinds$Blind;I)I"⟩
abbrev cX7_leftBits : ByteArray := prog_1_method_25_code
def yX7_leftBits : MethodName := ⟨RX7, "leftBits", "(IJ)J"⟩
abbrev cX7_rightBits : ByteArray := prog_1_method_26_code
def yX7_rightBits : MethodName := ⟨RX7, "rightBits", "(IJ)J"⟩
abbrev cX7_letterDots : ByteArray := prog_1_method_27_code
def yX7_letterDots : MethodName := ⟨RX7, "letterDots", "(II)J"⟩
abbrev cX7_lettersIn : ByteArray := prog_1_method_28_code
def yX7_lettersIn : MethodName := ⟨RX7, "lettersIn", "(I)I"⟩
abbrev cX7_areLetters : ByteArray := prog_1_method_29_code
def yX7_areLetters : MethodName := ⟨RX7, "areLetters", "(I)Z"⟩
abbrev cX7_placeOf : ByteArray := prog_1_method_30_code
def yX7_placeOf : MethodName := ⟨RX7, "placeOf", "(II)I"⟩
def RX8 : String := "FlippedBlindsModel"
def TX8 : u_T := fun k => match k with
  | _ => ("", "", "", false)
def tyX8 : Nat → FieldType := fun k => match k with
  | _ => .int
theorem nmX8 : ∀ a, a < 0 → ∀ b, b < 0 → a ≠ b → (TX8 a).2.1 ≠ (TX8 b).2.1 := by decide +kernel
theorem tyX8_ok : ∀ k, k < 0 → parseFieldDescriptor (TX8 k).2.2.1 = some (tyX8 k) := by decide +kernel
def RJ13 : String := "java/lang/Long"
abbrev cJ13_bitCount_95d88 : ByteArray := prog_11_method_50_code
def yJ13_bitCount_95d88 : MethodName := ⟨RJ13, "bitCount", "(J)I"⟩
def RJ9 : String := "java/lang/Math"
abbrev cJ9_min_7cf53 : ByteArray := prog_12_method_69_code
def yJ9_min_7cf53 : MethodName := ⟨RJ9, "min", "(II)I"⟩
def RJ10 : String := "java/lang/System"
def RL : String := "FlippedBlindsLaw"
abbrev cL_cell : ByteArray := method_2_code
def yL_cell : MethodName := ⟨RL, "cell", "([II)I"⟩
abbrev cL_low : ByteArray := method_3_code
def yL_low : MethodName := ⟨RL, "low", "(II)I"⟩
abbrev cL_font : ByteArray := method_4_code
def yL_font : MethodName := ⟨RL, "font", "(I)I"⟩
abbrev cL_size : ByteArray := method_5_code
def yL_size : MethodName := ⟨RL, "size", "(I)I"⟩
abbrev cL_picture : ByteArray := method_6_code
def yL_picture : MethodName := ⟨RL, "picture", "(III)I"⟩
abbrev cL_columns : ByteArray := method_7_code
def yL_columns : MethodName := ⟨RL, "columns", "(I)I"⟩
abbrev cL_ones : ByteArray := method_8_code
def yL_ones : MethodName := ⟨RL, "ones", "(I)I"⟩
abbrev cL_sum : ByteArray := method_9_code
def yL_sum : MethodName := ⟨RL, "sum", "([II)I"⟩
abbrev cL_wear : ByteArray := method_10_code
def yL_wear : MethodName := ⟨RL, "wear", "([JIII)I"⟩
abbrev cL_wears : ByteArray := method_11_code
def yL_wears : MethodName := ⟨RL, "wears", "([JIIII)V"⟩
abbrev cL_want : ByteArray := method_12_code
def yL_want : MethodName := ⟨RL, "want", "([I[I[I[I[JIII)V"⟩
abbrev cL_shifts : ByteArray := method_13_code
def yL_shifts : MethodName := ⟨RL, "shifts", "(II)I"⟩
abbrev cL_margin : ByteArray := method_14_code
def yL_margin : MethodName := ⟨RL, "margin", "([I[I[I[IIIII)I"⟩
abbrev cL_best : ByteArray := method_15_code
def yL_best : MethodName := ⟨RL, "best", "([I[I[I[IIII)I"⟩
abbrev cL_discs : ByteArray := method_16_code
def yL_discs : MethodName := ⟨RL, "discs", "(LFlippedBlinds;[I[I[I[I[I[I[JII)Z"⟩
abbrev cL_acts : ByteArray := method_17_code
def yL_acts : MethodName := ⟨RL, "acts", "(LFlippedBlinds;[I[I[I[I[I[I[JI)Z"⟩
abbrev cL_areWords : ByteArray := method_18_code
def yL_areWords : MethodName := ⟨RL, "areWords", "(LFlippedBlinds;[I[I[I)Z"⟩
abbrev cL_isSo : ByteArray := method_19_code
def yL_isSo : MethodName := ⟨RL, "isSo", "(LFlippedBlinds;[I[I[I[I[I[I[J)Z"⟩
abbrev cL_law : ByteArray := code
def yL_law : MethodName := ⟨RL, "law", "([I)Z"⟩
abbrev vwCl : List vw_C := [(RX0, TX0, 7), (RX1, TX1, 2), (RX2, TX2, 2), (RX3, TX3, 5), (RX4, TX4, 8), (RX5, TX5, 2), (RX6, TX6, 6), (RX7, TX7, 8)]
end
section
-- ===== a small machine over pictures of the heap, and that the real one follows it =====
def zTs : List Cond := lw_tbl.filter goodWord
theorem zTs_good : ∀ w ∈ zTs, (w.onTables && w.keeps) = true ∨ ∃ ty, w = .arrayClass ty := fun w h => good_of_word (List.mem_filter.mp h).2
theorem zTs_in : ∀ w ∈ zTs, w ∈ lw_tbl := fun w h => (List.mem_filter.mp h).1
theorem zTs_of {w : Cond} (h : w ∈ lw_tbl) (g : goodWord w = true) : w ∈ zTs := List.mem_filter.mpr ⟨h, g⟩
abbrev zV : Type := Int32 ⊕ Int64 ⊕ Option (Nat × Nat)
abbrev zI (x : Int32) : zV := .inl x
abbrev zJ (x : Int64) : zV := .inr (.inl x)
abbrev zR (c n : Nat) : zV := .inr (.inr (some (c, n)))
abbrev zN : zV := .inr (.inr none)
abbrev zM : Type := (Nat → Nat → Nat → Int32) × (Nat → Nat → Nat → Int64) × (Nat → Option Nat)
abbrev zF : Type := List (Option zV) × List zV × zM
abbrev zQ : Type := Option zV × zM
abbrev zT : Type := Option (zQ ⊕ (Nat × zF))
abbrev zX : Type := Nat → zF → zT
def zrun (C : Nat → zX) : Nat → Nat → zF → Option zQ
  | 0, _, _ => none
  | n + 1, pc, f => match C pc pc f with
    | none => none
    | some (.inl r) => some r
    | some (.inr q) => zrun C n q.1 q.2
theorem zrun_s {C : Nat → zX} : ∀ (n pc : Nat) (f : zF) (r : zQ), zrun C n pc f = some r → zrun C (n + 1) pc f = some r := by
  intro n
  induction n with
  | zero => intro pc f r h; cases h
  | succ n ih =>
    intro pc f r h
    rw [zrun] at h ⊢
    cases hc : C pc pc f with
    | none => rw [hc] at h; cases h
    | some t =>
      rw [hc] at h
      cases t with
      | inl q => exact h
      | inr q => exact ih _ _ _ h
theorem zrun_m {C : Nat → zX} {n k pc : Nat} {f : zF} {r : zQ} (h : zrun C n pc f = some r) : zrun C (n + k) pc f = some r := by
  induction k with
  | zero => exact h
  | succ k ih => exact zrun_s _ _ _ _ ih
theorem zrun_u {C : Nat → zX} {n k pc : Nat} {f : zF} {r r' : zQ} (h : zrun C n pc f = some r) (h' : zrun C k pc f = some r') : r = r' := by
  have a := zrun_m (k := k) h
  have b := zrun_m (k := n) h'
  rw [Nat.add_comm] at b
  exact Option.some.inj (a.symm.trans b)
noncomputable def zev (C : Nat → zX) (pc : Nat) (f : zF) : Option zQ := Classical.epsilon (fun o : Option zQ => (∃ n r, zrun C n pc f = some r ∧ o = some r) ∨ ((¬ ∃ n r, zrun C n pc f = some r) ∧ o = none))
theorem zev_spec (C : Nat → zX) (pc : Nat) (f : zF) : (∃ n r, zrun C n pc f = some r ∧ zev C pc f = some r) ∨ ((¬ ∃ n r, zrun C n pc f = some r) ∧ zev C pc f = none) := by
  refine Classical.epsilon_spec (p := fun o : Option zQ => (∃ n r, zrun C n pc f = some r ∧ o = some r) ∨ ((¬ ∃ n r, zrun C n pc f = some r) ∧ o = none)) ?_
  by_cases h : ∃ n r, zrun C n pc f = some r
  · obtain ⟨n, r, h⟩ := h
    exact ⟨some r, Or.inl ⟨n, r, h, rfl⟩⟩
  · exact ⟨none, Or.inr ⟨h, rfl⟩⟩
theorem zev_iff {C : Nat → zX} {pc : Nat} {f : zF} {r : zQ} : zev C pc f = some r ↔ ∃ n, zrun C n pc f = some r := by
  rcases zev_spec C pc f with ⟨n, r', h1, h2⟩ | ⟨h1, h2⟩
  · constructor
    · intro h
      exact ⟨n, by rw [h1, ← h2, h]⟩
    · intro ⟨k, h⟩
      rw [h2, zrun_u h1 h]
  · constructor
    · intro h
      rw [h2] at h; cases h
    · intro ⟨k, h⟩
      exact absurd ⟨k, r, h⟩ h1
theorem zev_eq (C : Nat → zX) (pc : Nat) (f : zF) : zev C pc f = match C pc pc f with
    | none => none
    | some (.inl r) => some r
    | some (.inr q) => zev C q.1 q.2 := by
  refine Option.ext fun r => ?_
  rw [zev_iff]
  constructor
  · intro ⟨n, h⟩
    cases n with
    | zero => cases h
    | succ n =>
      rw [zrun] at h
      cases hc : C pc pc f with
      | none => rw [hc] at h; cases h
      | some t =>
        rw [hc] at h
        cases t with
        | inl q => exact h
        | inr q => exact zev_iff.mpr ⟨n, h⟩
  · intro h
    cases hc : C pc pc f with
    | none => rw [hc] at h; cases h
    | some t =>
      rw [hc] at h
      cases t with
      | inl q => exact ⟨1, by rw [zrun, hc]; exact h⟩
      | inr q =>
        obtain ⟨n, h⟩ := zev_iff.mp h
        exact ⟨n + 1, by rw [zrun, hc]; exact h⟩
/-- k steps on -/
noncomputable def zevk (C : Nat → zX) : Nat → Nat → zF → Option zQ
  | 0, pc, f => zev C pc f
  | k + 1, pc, f => match C pc pc f with
    | none => none
    | some (.inl r) => some r
    | some (.inr q) => zevk C k q.1 q.2
theorem zev_k (C : Nat → zX) (k pc : Nat) (f : zF) : zev C pc f = zevk C k pc f := by
  induction k generalizing pc f with
  | zero => rfl
  | succ k ih =>
    rw [zev_eq, zevk]
    cases C pc pc f with
    | none => rfl
    | some t =>
      cases t with
      | inl q => rfl
      | inr q => exact ih _ _
def zfind : List (Nat × zX) → Nat → zX
  | [], _ => fun _ _ => none
  | (k, x) :: t, pc => match Nat.beq k pc with
    | true => x
    | false => zfind t pc
-- the frame with which a method begins
def zlay : List zV → List (Option zV)
  | [] => []
  | .inr (.inl x) :: t => some (zJ x) :: none :: zlay t
  | v :: t => some v :: zlay t
def zent (nL : Nat) (a : List zV) : List (Option zV) := zlay a ++ List.replicate (nL - (zlay a).length) none
noncomputable def zdn (C : Nat → zX) (nL : Nat) (a : List zV) (M : zM) : Option zQ := match Nat.ble (zlay a).length nL with
  | true => zev C 0 (zent nL a, [], M)
  | false => none
-- locals
def zget : List (Option zV) → Nat → Option zV
  | [], _ => none
  | v :: _, 0 => v
  | _ :: t, i + 1 => zget t i
def zput : List (Option zV) → Nat → Option zV → List (Option zV)
  | [], _, _ => []
  | _ :: t, 0, v => v :: t
  | w :: t, i + 1, v => w :: zput t i v
def zcat : zV → Nat
  | .inr (.inl _) => 2
  | _ => 1
def zcats : List zV → Nat
  | [] => 0
  | v :: t => zcat v + zcats t
/-- the slot before i, if it begins a long, is lost -/
def zkill (L : List (Option zV)) : Nat → List (Option zV)
  | 0 => L
  | i + 1 => match zget L i with
    | some (.inr (.inl _)) => zput L i none
    | _ => L
def zset1 (L : List (Option zV)) (i : Nat) (v : zV) : List (Option zV) := zput (zkill L i) i (some v)
def zset2 (L : List (Option zV)) (i : Nat) (v : zV) : List (Option zV) := zput (zput (zkill L i) i (some v)) (i + 1) none
theorem zget_put : ∀ (L : List (Option zV)) (i j : Nat) (v : Option zV), zget (zput L i v) j = if j = i ∧ i < L.length then v else zget L j
  | [], i, j, v => by simp [zput, zget]
  | w :: t, 0, 0, v => by simp [zput, zget]
  | w :: t, 0, j + 1, v => by simp [zput, zget]
  | w :: t, i + 1, 0, v => by simp [zput, zget]
  | w :: t, i + 1, j + 1, v => by
    simp only [zput, zget, List.length_cons]
    rw [zget_put t i j v]
    simp
theorem zput_len : ∀ (L : List (Option zV)) (i : Nat) (v : Option zV), (zput L i v).length = L.length
  | [], i, v => by simp [zput]
  | w :: t, 0, v => by simp [zput]
  | w :: t, i + 1, v => by simp [zput, zput_len t i v]
theorem zkill_len (L : List (Option zV)) (i : Nat) : (zkill L i).length = L.length := by
  cases i with
  | zero => rfl
  | succ i =>
    rw [zkill]
    cases h : zget L i with
    | none => rfl
    | some v =>
      rcases v with x | x | x
      · rfl
      · exact zput_len _ _ _
      · rfl
theorem zget_lt : ∀ (L : List (Option zV)) (i : Nat) (v : zV), zget L i = some v → i < L.length
  | [], i, v, h => by simp [zget] at h
  | w :: t, 0, v, h => by simp
  | w :: t, i + 1, v, h => by simpa using zget_lt t i v h

-- the instructions
def zst {α : Type} (f : Nat → Nat → α) (c n : Nat) (g : α) : Nat → Nat → α := fun a b => if a = c ∧ b = n then g else f a b
/-- roles of arrays: 20.. ; how long, and of what (0 int, 1 long, 2 char, 3 reference) -/
def zlt : Nat → Nat
  | 20 => 10 | 21 => 10 | 22 => 10 | 23 => 220 | 24 => 220 | 25 => 120 | 26 => 60 | 27 => 4 | 28 => 5
  | 29 => 8 | 30 => 10 | 31 => 10 | 32 => 10 | 33 => 10 | 34 => 10 | 35 => 20 | 36 => 5 | 40 => 17 | _ => 0
/-- what kind of cell: 0 ints, 1 longs, 2 chars, 3 references, 4 the letters, 5 the script, 9 an object -/
def zpr : Nat → Nat
  | 20 => 0 | 21 => 0 | 22 => 0 | 23 => 1 | 24 => 1 | 25 => 0 | 26 => 2 | 27 => 0 | 28 => 3
  | 29 => 0 | 30 => 0 | 31 => 0 | 32 => 0 | 33 => 0 | 34 => 0 | 35 => 1 | 36 => 0 | 40 => 4 | 41 => 5 | _ => 9
def zxc (v : zV) (k : Nat) : zX := fun pc f => some (.inr (pc + k, f.1, v :: f.2.1, f.2.2))
def ziload (i k : Nat) : zX := fun pc f => match zget f.1 i with
  | some (.inl x) => some (.inr (pc + k, f.1, zI x :: f.2.1, f.2.2))
  | _ => none
def zlload (i k : Nat) : zX := fun pc f => match zget f.1 i with
  | some (.inr (.inl x)) => some (.inr (pc + k, f.1, zJ x :: f.2.1, f.2.2))
  | _ => none
def zaload (i k : Nat) : zX := fun pc f => match zget f.1 i with
  | some (.inr (.inr x)) => some (.inr (pc + k, f.1, .inr (.inr x) :: f.2.1, f.2.2))
  | _ => none
def zistore (i k : Nat) : zX := fun pc f => match f.2.1 with
  | .inl x :: st => some (.inr (pc + k, zset1 f.1 i (zI x), st, f.2.2))
  | _ => none
def zlstore (i k : Nat) : zX := fun pc f => match f.2.1 with
  | .inr (.inl x) :: st => some (.inr (pc + k, zset2 f.1 i (zJ x), st, f.2.2))
  | _ => none
def zastore (i k : Nat) : zX := fun pc f => match f.2.1 with
  | .inr (.inr x) :: st => some (.inr (pc + k, zset1 f.1 i (.inr (.inr x)), st, f.2.2))
  | _ => none
def ziinc (i : Nat) (d : Int32) : zX := fun pc f => match zget f.1 i with
  | some (.inl x) => some (.inr (pc + 3, zset1 f.1 i (zI (x + d)), f.2.1, f.2.2))
  | _ => none
def zbin (g : Int32 → Int32 → Int32) : zX := fun pc f => match f.2.1 with
  | .inl y :: .inl x :: st => some (.inr (pc + 1, f.1, zI (g x y) :: st, f.2.2))
  | _ => none
def zdiv (g : Int32 → Int32 → Int32) : zX := fun pc f => match f.2.1 with
  | .inl y :: .inl x :: st => if y = 0 then none else some (.inr (pc + 1, f.1, zI (g x y) :: st, f.2.2))
  | _ => none
def zlbin (g : Int64 → Int64 → Int64) : zX := fun pc f => match f.2.1 with
  | .inr (.inl y) :: .inr (.inl x) :: st => some (.inr (pc + 1, f.1, zJ (g x y) :: st, f.2.2))
  | _ => none
def zlsh (g : Int64 → Int32 → Int64) : zX := fun pc f => match f.2.1 with
  | .inl y :: .inr (.inl x) :: st => some (.inr (pc + 1, f.1, zJ (g x y) :: st, f.2.2))
  | _ => none
def zun (g : Int32 → Int32) : zX := fun pc f => match f.2.1 with
  | .inl x :: st => some (.inr (pc + 1, f.1, zI (g x) :: st, f.2.2))
  | _ => none
def zi2l : zX := fun pc f => match f.2.1 with
  | .inl x :: st => some (.inr (pc + 1, f.1, zJ x.toInt64 :: st, f.2.2))
  | _ => none
def zl2i : zX := fun pc f => match f.2.1 with
  | .inr (.inl x) :: st => some (.inr (pc + 1, f.1, zI x.toInt32 :: st, f.2.2))
  | _ => none
def zi2c : zX := fun pc f => match f.2.1 with
  | .inl x :: st => some (.inr (pc + 1, f.1, zI (x.toUInt32 % 65536).toInt32 :: st, f.2.2))
  | _ => none
def zlcmp : zX := fun pc f => match f.2.1 with
  | .inr (.inl y) :: .inr (.inl x) :: st => some (.inr (pc + 1, f.1, zI (lg_cmp x y) :: st, f.2.2))
  | _ => none
def zdup : zX := fun pc f => match f.2.1 with
  | v :: st => match Nat.beq (zcat v) 1 with
    | true => some (.inr (pc + 1, f.1, v :: v :: st, f.2.2))
    | false => none
  | _ => none
def zdup2 : zX := fun pc f => match f.2.1 with
  | v :: w :: st => match Nat.beq (zcat v) 1 with
    | true => match Nat.beq (zcat w) 1 with
      | true => some (.inr (pc + 1, f.1, v :: w :: v :: w :: st, f.2.2))
      | false => none
    | false => none
  | _ => none
def zpop : zX := fun pc f => match f.2.1 with
  | v :: st => match Nat.beq (zcat v) 1 with
    | true => some (.inr (pc + 1, f.1, st, f.2.2))
    | false => none
  | _ => none
def zgoto (t : Nat) : zX := fun _ f => some (.inr (t, f))
def zifeq (t : Nat) : zX := fun pc f => match f.2.1 with
  | .inl x :: st => some (.inr (if x = 0 then t else pc + 3, f.1, st, f.2.2))
  | _ => none
def zifne (t : Nat) : zX := fun pc f => match f.2.1 with
  | .inl x :: st => some (.inr (if x = 0 then pc + 3 else t, f.1, st, f.2.2))
  | _ => none
def ziflt (t : Nat) : zX := fun pc f => match f.2.1 with
  | .inl x :: st => some (.inr (if x < 0 then t else pc + 3, f.1, st, f.2.2))
  | _ => none
def zifge (t : Nat) : zX := fun pc f => match f.2.1 with
  | .inl x :: st => some (.inr (if 0 ≤ x then t else pc + 3, f.1, st, f.2.2))
  | _ => none
def zifgt (t : Nat) : zX := fun pc f => match f.2.1 with
  | .inl x :: st => some (.inr (if 0 < x then t else pc + 3, f.1, st, f.2.2))
  | _ => none
def zifle (t : Nat) : zX := fun pc f => match f.2.1 with
  | .inl x :: st => some (.inr (if x ≤ 0 then t else pc + 3, f.1, st, f.2.2))
  | _ => none
def zceq (t : Nat) : zX := fun pc f => match f.2.1 with
  | .inl y :: .inl x :: st => some (.inr (if x = y then t else pc + 3, f.1, st, f.2.2))
  | _ => none
def zcne (t : Nat) : zX := fun pc f => match f.2.1 with
  | .inl y :: .inl x :: st => some (.inr (if x = y then pc + 3 else t, f.1, st, f.2.2))
  | _ => none
def zclt (t : Nat) : zX := fun pc f => match f.2.1 with
  | .inl y :: .inl x :: st => some (.inr (if x < y then t else pc + 3, f.1, st, f.2.2))
  | _ => none
def zcge (t : Nat) : zX := fun pc f => match f.2.1 with
  | .inl y :: .inl x :: st => some (.inr (if y ≤ x then t else pc + 3, f.1, st, f.2.2))
  | _ => none
def zcgt (t : Nat) : zX := fun pc f => match f.2.1 with
  | .inl y :: .inl x :: st => some (.inr (if y < x then t else pc + 3, f.1, st, f.2.2))
  | _ => none
def zcle (t : Nat) : zX := fun pc f => match f.2.1 with
  | .inl y :: .inl x :: st => some (.inr (if x ≤ y then t else pc + 3, f.1, st, f.2.2))
  | _ => none
def znull (t : Nat) : zX := fun pc f => match f.2.1 with
  | .inr (.inr none) :: st => some (.inr (t, f.1, st, f.2.2))
  | .inr (.inr (some _)) :: st => some (.inr (pc + 3, f.1, st, f.2.2))
  | _ => none
def znonnull (t : Nat) : zX := fun pc f => match f.2.1 with
  | .inr (.inr none) :: st => some (.inr (pc + 3, f.1, st, f.2.2))
  | .inr (.inr (some _)) :: st => some (.inr (t, f.1, st, f.2.2))
  | _ => none
def zswt : List (Int32 × Nat) → Nat → Int32 → Nat
  | [], d, _ => d
  | (k, t) :: r, d, x => if x = k then t else zswt r d x
def zsw (cs : List (Int32 × Nat)) (d : Nat) : zX := fun _ f => match f.2.1 with
  | .inl x :: st => some (.inr (zswt cs d x, f.1, st, f.2.2))
  | _ => none
def zgetI (c k : Nat) : zX := fun pc f => match f.2.1 with
  | .inr (.inr (some (c', n))) :: st => match Nat.beq c' c with
    | true => some (.inr (pc + 3, f.1, zI (f.2.2.1 c n k) :: st, f.2.2))
    | false => none
  | _ => none
def zgetJ (c k : Nat) : zX := fun pc f => match f.2.1 with
  | .inr (.inr (some (c', n))) :: st => match Nat.beq c' c with
    | true => some (.inr (pc + 3, f.1, zJ (f.2.2.2.1 c n k) :: st, f.2.2))
    | false => none
  | _ => none
def zgetR (c c2 : Nat) (g : Nat → Nat) : zX := fun pc f => match f.2.1 with
  | .inr (.inr (some (c', n))) :: st => match Nat.beq c' c with
    | true => some (.inr (pc + 3, f.1, zR c2 (g n) :: st, f.2.2))
    | false => none
  | _ => none
def zputI (c k : Nat) : zX := fun pc f => match f.2.1 with
  | .inl x :: .inr (.inr (some (c', n))) :: st => match Nat.beq c' c with
    | true => some (.inr (pc + 3, f.1, st, (zst f.2.2.1 c n (upd (f.2.2.1 c n) k x), f.2.2.2)))
    | false => none
  | _ => none
def zputZ (c k : Nat) : zX := fun pc f => match f.2.1 with
  | .inl x :: .inr (.inr (some (c', n))) :: st => match Nat.beq c' c with
    | true => if x = 0 ∨ x = 1 then some (.inr (pc + 3, f.1, st, (zst f.2.2.1 c n (upd (f.2.2.1 c n) k x), f.2.2.2))) else none
    | false => none
  | _ => none
def zputJ (c k : Nat) : zX := fun pc f => match f.2.1 with
  | .inr (.inl x) :: .inr (.inr (some (c', n))) :: st => match Nat.beq c' c with
    | true => some (.inr (pc + 3, f.1, st, (f.2.2.1, zst f.2.2.2.1 c n (vp_updL (f.2.2.2.1 c n) k x), f.2.2.2.2)))
    | false => none
  | _ => none
def ziald : zX := fun pc f => match f.2.1 with
  | .inl i :: .inr (.inr (some (c, n))) :: st => match zpr c with
    | 0 => if i < 0 ∨ zlt c ≤ i.toNatClampNeg then none else some (.inr (pc + 1, f.1, zI (f.2.2.1 c n i.toNatClampNeg) :: st, f.2.2))
    | 4 => if i < 0 ∨ 17 ≤ i.toNatClampNeg then none else some (.inr (pc + 1, f.1, zI (f.2.2.1 c n i.toNatClampNeg) :: st, f.2.2))
    | 5 => if i < 0 ∨ (f.2.2.1 42 0 0).toNatClampNeg ≤ i.toNatClampNeg then none else some (.inr (pc + 1, f.1, zI (f.2.2.1 c n i.toNatClampNeg) :: st, f.2.2))
    | _ => none
  | _ => none
def zcald : zX := fun pc f => match f.2.1 with
  | .inl i :: .inr (.inr (some (c, n))) :: st => match zpr c with
    | 2 => if i < 0 ∨ zlt c ≤ i.toNatClampNeg then none else some (.inr (pc + 1, f.1, zI (f.2.2.1 c n i.toNatClampNeg) :: st, f.2.2))
    | _ => none
  | _ => none
def zlald : zX := fun pc f => match f.2.1 with
  | .inl i :: .inr (.inr (some (c, n))) :: st => match zpr c with
    | 1 => if i < 0 ∨ zlt c ≤ i.toNatClampNeg then none else some (.inr (pc + 1, f.1, zJ (f.2.2.2.1 c n i.toNatClampNeg) :: st, f.2.2))
    | _ => none
  | _ => none
def zaald : zX := fun pc f => match f.2.1 with
  | .inl i :: .inr (.inr (some (c, n))) :: st => match zpr c with
    | 3 => if i < 0 ∨ zlt c ≤ i.toNatClampNeg then none else some (.inr (pc + 1, f.1, .inr (.inr ((f.2.2.2.2 i.toNatClampNeg).map (fun q => (4, q)))) :: st, f.2.2))
    | _ => none
  | _ => none
def ziast : zX := fun pc f => match f.2.1 with
  | .inl x :: .inl i :: .inr (.inr (some (c, n))) :: st => match zpr c with
    | 0 => if i < 0 ∨ zlt c ≤ i.toNatClampNeg then none else some (.inr (pc + 1, f.1, st, (zst f.2.2.1 c n (upd (f.2.2.1 c n) i.toNatClampNeg x), f.2.2.2)))
    | _ => none
  | _ => none
def zcast : zX := fun pc f => match f.2.1 with
  | .inl x :: .inl i :: .inr (.inr (some (c, n))) :: st => match zpr c with
    | 2 => if i < 0 ∨ zlt c ≤ i.toNatClampNeg then none else some (.inr (pc + 1, f.1, st, (zst f.2.2.1 c n (upd (f.2.2.1 c n) i.toNatClampNeg (vp_nar .char x)), f.2.2.2)))
    | _ => none
  | _ => none
def zlast : zX := fun pc f => match f.2.1 with
  | .inr (.inl x) :: .inl i :: .inr (.inr (some (c, n))) :: st => match zpr c with
    | 1 => if i < 0 ∨ zlt c ≤ i.toNatClampNeg then none else some (.inr (pc + 1, f.1, st, (f.2.2.1, zst f.2.2.2.1 c n (vp_updL (f.2.2.2.1 c n) i.toNatClampNeg x), f.2.2.2.2)))
    | _ => none
  | _ => none
def zaast : zX := fun pc f => match f.2.1 with
  | .inr (.inr (some (4, q))) :: .inl i :: .inr (.inr (some (c, n))) :: st => match zpr c with
    | 3 => if i < 0 ∨ zlt c ≤ i.toNatClampNeg then none else some (.inr (pc + 1, f.1, st, (f.2.2.1, f.2.2.2.1, va_up f.2.2.2.2 i.toNatClampNeg (some q))))
    | _ => none
  | _ => none
def zalen : zX := fun pc f => match f.2.1 with
  | .inr (.inr (some (c, n))) :: st => match zpr c with
    | 9 => none
    | 4 => none
    | 5 => some (.inr (pc + 1, f.1, zI (f.2.2.1 42 0 0) :: st, f.2.2))
    | _ => some (.inr (pc + 1, f.1, zI (Int32.ofNat (zlt c)) :: st, f.2.2))
  | _ => none
def zcopy : zX := fun pc f => match f.2.1 with
  | .inl n :: .inl dp :: .inr (.inr (some (c1, n1))) :: .inl sp :: .inr (.inr (some (c0, n0))) :: st => match Nat.ble (zcats st) 8 with
    | true => if n < 0 ∨ dp < 0 ∨ sp < 0 ∨ zlt c0 < sp.toNatClampNeg + n.toNatClampNeg ∨ zlt c1 < dp.toNatClampNeg + n.toNatClampNeg then none else
      match zpr c0, zpr c1 with
      | 0, 0 => some (.inr (pc + 3, f.1, st, (zst f.2.2.1 c1 n1 (va_cpy (f.2.2.1 c0 n0) (f.2.2.1 c1 n1) sp.toNatClampNeg dp.toNatClampNeg n.toNatClampNeg), f.2.2.2)))
      | 1, 1 => some (.inr (pc + 3, f.1, st, (f.2.2.1, zst f.2.2.2.1 c1 n1 (va_cpy (f.2.2.2.1 c0 n0) (f.2.2.2.1 c1 n1) sp.toNatClampNeg dp.toNatClampNeg n.toNatClampNeg), f.2.2.2.2)))
      | _, _ => none
    | false => none
  | _ => none
def zmin : zX := fun pc f => match f.2.1 with
  | .inl y :: .inl x :: st => match Nat.ble (zcats st) 8 with
    | true => some (.inr (pc + 3, f.1, zI (if y < x then y else x) :: st, f.2.2))
    | false => none
  | _ => none
def zpush (r : Option zV) (st : List zV) : List zV := match r with
  | none => st
  | some v => v :: st
/-- a call: k values, the last one on top; the answer comes onto the stack -/
def zcalls (k : Nat) (g : List zV → zM → Option zQ) : zX := fun pc f => match Nat.ble (zcats (f.2.1.drop k)) 8, Nat.ble k f.2.1.length with
  | true, true => (g (f.2.1.take k).reverse f.2.2).bind (fun r => some (.inr (pc + 3, f.1, zpush r.1 (f.2.1.drop k), r.2)))
  | _, _ => none
/-- a call of a method of an object: below the k values stands the object -/
def zcallv (c k : Nat) (g : List zV → zM → Option zQ) : zX := fun pc f => match f.2.1.drop k with
  | .inr (.inr (some (c', n))) :: st => match Nat.beq c' c, Nat.ble (zcats st) 8 with
    | true, true => (g (zR c n :: (f.2.1.take k).reverse) f.2.2).bind (fun r => some (.inr (pc + 3, f.1, zpush r.1 st, r.2)))
    | _, _ => none
  | _ => none
/-- how many charged calls so far -/
def zgh (M : zM) : Nat := (M.1 43 0 0).toNatClampNeg
def zgs (M : zM) (k : Nat) : zM := (zst M.1 43 0 (fun _ => nI k), M.2)
/-- a call that is charged: at most n of them -/
def zcallc (n k : Nat) (g : List zV → zM → Option zQ) : zX := fun pc f => match Nat.ble (zcats (f.2.1.drop k)) 8, Nat.ble k f.2.1.length with
  | true, true => if n ≤ zgh f.2.2 then none else (g (f.2.1.take k).reverse f.2.2).bind (fun r => some (.inr (pc + 3, f.1, zpush r.1 (f.2.1.drop k), zgs r.2 (zgh f.2.2 + 1))))
  | _, _ => none
/-- a new row of five ints: the sight -/
def znew5 : zX := fun pc f => match f.2.1 with
  | .inl x :: st => if x = 5 then some (.inr (pc + 2, f.1, zR 36 0 :: st, (zst f.2.2.1 36 0 (fun _ => 0), f.2.2.2))) else none
  | _ => none
theorem zev_callg {C : Nat → zX} {pc pc' : Nat} {f : zF} {n m : Nat} {o : Option zQ} {F : zQ → zF} (h : C pc pc f = if n ≤ m then none else o.bind (fun r => some (.inr (pc', F r)))) : zev C pc f = if n ≤ m then none else o.bind (fun r => zev C pc' (F r)) := by
  rw [zev_eq, h]
  by_cases c : n ≤ m
  · rw [if_pos c, if_pos c]
  · rw [if_neg c, if_neg c]; cases o <;> rfl
theorem zev_call {C : Nat → zX} {pc pc' : Nat} {f : zF} {o : Option zQ} {F : zQ → zF} (h : C pc pc f = o.bind (fun r => some (.inr (pc', F r)))) : zev C pc f = o.bind (fun r => zev C pc' (F r)) := by
  rw [zev_eq, h]
  cases o <;> rfl
def zvret : zX := fun _ f => match f.2.1 with
  | [] => some (.inl (none, f.2.2))
  | _ => none
def ziret : zX := fun _ f => match f.2.1 with
  | [.inl x] => some (.inl (some (zI x), f.2.2))
  | _ => none
def zzret : zX := fun _ f => match f.2.1 with
  | [.inl x] => if x = 0 ∨ x = 1 then some (.inl (some (zI x), f.2.2)) else none
  | _ => none
def zlret : zX := fun _ f => match f.2.1 with
  | [.inr (.inl x)] => some (.inl (some (zJ x), f.2.2))
  | _ => none
def zaret : zX := fun _ f => match f.2.1 with
  | [.inr (.inr x)] => some (.inl (some (.inr (.inr x)), f.2.2))
  | _ => none
/-- some locals are forgotten ahead of an instruction -/
def zdrs : List (Option zV) → List Bool → List (Option zV)
  | v :: L, b :: m => (match b with | true => none | false => v) :: zdrs L m
  | L, _ => L
def zdr (ks : List Bool) (x : zX) : zX := fun pc f => x pc (zdrs f.1 ks, f.2)
def zus (x y : Int32) : Int32 := (x.toUInt32 >>> (y.toUInt32 &&& Int32.toUInt32 31)).toInt32
def zrm (x y : Int32) : Int32 := x - x / y * y
def zlus (x : Int64) (y : Int32) : Int64 := (x.toUInt64 >>> (y.toInt64.toUInt64 &&& Int64.toUInt64 63)).toInt64
def zlsr (x : Int64) (y : Int32) : Int64 := x >>> (y.toInt64 &&& 63)
def zlsl (x : Int64) (y : Int32) : Int64 := x <<< (y.toInt64 &&& 63)
def zi2cf (x : Int32) : Int32 := (x.toUInt32 % 65536).toInt32
theorem zif_pc (C : Nat → zX) {c : Prop} [Decidable c] (a b : Nat) (f : zF) : zev C (if c then a else b) f = if c then zev C a f else zev C b f := apply_ite (fun pc => zev C pc f) c a b
theorem zev_grd {C : Nat → zX} {pc : Nat} {f : zF} {g : Prop} [Decidable g] {q : Nat × zF} (h : C pc pc f = if g then none else some (.inr q)) : zev C pc f = if g then none else zev C q.1 q.2 := by
  rw [zev_eq, h]
  by_cases hg : g
  · rw [if_pos hg, if_pos hg]
  · rw [if_neg hg, if_neg hg]
theorem zev_rt {C : Nat → zX} {pc : Nat} {f : zF} {g : Prop} [Decidable g] {r : zQ} (h : C pc pc f = if g then some (.inl r) else none) : zev C pc f = if g then some r else none := by
  rw [zev_eq, h]
  by_cases hg : g
  · rw [if_pos hg, if_pos hg]
  · rw [if_neg hg, if_neg hg]
theorem zev_s {C : Nat → zX} {pc pc' : Nat} {x : zX} {f f' : zF} (hc : C pc = x) (h : x pc f = some (.inr (pc', f'))) : zev C pc f = zev C pc' f' := by
  rw [zev_eq, hc, h]
theorem zev_r {C : Nat → zX} {pc : Nat} {x : zX} {f : zF} {r : zQ} (hc : C pc = x) (h : x pc f = some (.inl r)) : zev C pc f = some r := by
  rw [zev_eq, hc, h]
theorem zev_d {C : Nat → zX} {pc : Nat} {ks : List Bool} {x : zX} {L L' : List (Option zV)} {q : List zV × zM} {y : zT} (hc : C pc = zdr ks x) (hd : zdrs L ks = L') (h : x pc (L', q) = y) : C pc pc (L, q) = y := by
  rw [hc]; unfold zdr; rw [hd]; exact h
theorem zev_n {C : Nat → zX} {pc : Nat} {x : zX} {f : zF} {y : zT} (hc : C pc = x) (h : x pc f = y) : C pc pc f = y := by rw [hc]; exact h
theorem zev_s' {C : Nat → zX} {pc pc' : Nat} {f f' : zF} (h : C pc pc f = some (.inr (pc', f'))) : zev C pc f = zev C pc' f' := by
  rw [zev_eq, h]
theorem zev_r' {C : Nat → zX} {pc : Nat} {f : zF} {r : zQ} (h : C pc pc f = some (.inl r)) : zev C pc f = some r := by
  rw [zev_eq, h]

/-- a method that counts its charged calls from 0, and gives the count of before back -/
noncomputable def zdc (C : Nat → zX) (nL : Nat) (a : List zV) (M : zM) : Option zQ := (zdn C nL a (zgs M 0)).map (fun r => (r.1, (zst r.2.1 43 0 (M.1 43 0), r.2.2)))
end
section
-- ===== the heap's picture =====
def zob (c k : Nat) : List (Nat × Nat) := (List.range k).map (fun n => (c, n))
def zcn (b : Bool) : Nat → Nat
  | 0 => 14 | 1 => 56 | 2 => 1 | 3 => 1 | 4 => 7 | 5 => 1 | 6 => 7 | 7 => 1 | 20 => 7 | 21 => 7 | 22 => 7 | 23 => 7 | 24 => 7 | 25 => 14
  | 26 => 1 | 27 => 1 | 28 => 1 | 29 => 1 | 30 => 1 | 31 => 1 | 32 => 1 | 33 => 1 | 34 => 1 | 35 => 1 | 36 => b.toNat | _ => 0
def zcs : List Nat := [0, 1, 2, 3, 4, 5, 6, 7, 20, 21, 22, 23, 24, 25, 26, 27, 28, 29, 30, 31, 32, 33, 34, 35, 36]
def zobjs (b : Bool) : List (Nat × Nat) := zcs.flatMap (fun c => zob c (zcn b c))
theorem zob_mem {c k a n : Nat} : (a, n) ∈ zob c k ↔ a = c ∧ n < k := by
  simp only [zob, List.mem_map, List.mem_range, Prod.mk.injEq]
  constructor
  · rintro ⟨x, h1, h2, h3⟩
    exact ⟨h2.symm, h3 ▸ h1⟩
  · rintro ⟨h1, h2⟩
    exact ⟨n, h2, h1.symm, rfl⟩
theorem zcn_lt {b : Bool} {c : Nat} (h : 0 < zcn b c) : c < 37 := by
  unfold zcn at h
  split at h <;> omega
theorem zcn_in {b : Bool} {c : Nat} (h : 0 < zcn b c) : c ∈ zcs := by
  cases b with
  | true => exact (show ∀ c, c < 37 → 0 < zcn true c → c ∈ zcs by decide +kernel) c (zcn_lt h) h
  | false => exact (show ∀ c, c < 37 → 0 < zcn false c → c ∈ zcs by decide +kernel) c (zcn_lt h) h
theorem zobjs_mem {b : Bool} {c n : Nat} : (c, n) ∈ zobjs b ↔ n < zcn b c := by
  rw [zobjs, List.mem_flatMap]
  constructor
  · rintro ⟨a, -, h⟩
    obtain ⟨rfl, h⟩ := zob_mem.mp h
    exact h
  · intro h
    exact ⟨c, zcn_in (b := b) (by omega), zob_mem.mpr ⟨rfl, h⟩⟩
theorem zobjs_nd (b : Bool) : va_nd ((zobjs b).map (fun q => 100 * q.1 + q.2)) = true := by cases b <;> decide +kernel
theorem zobjs_inj {b : Bool} {i j : Nat} {q : Nat × Nat} (h : (zobjs b)[i]? = some q) (h' : (zobjs b)[j]? = some q) : i = j :=
  va_nd_inj _ (zobjs_nd b) i j (100 * q.1 + q.2) (by rw [List.getElem?_map, h]; rfl) (by rw [List.getElem?_map, h']; rfl)
theorem zobjs_t : zobjs true = zobjs false ++ [(36, 0)] := by decide +kernel
abbrev zG : Type := va_G × (Nat → Nat → Nat) × (ClassId × ClassId × ClassId × ClassId) × Nat × (Nat → Int32) × Bool × Nat
abbrev zsi (G : zG) : Bool := G.2.2.2.2.2.1
abbrev zgt (G : zG) (g : Nat) : zG := (G.1, G.2.1, G.2.2.1, G.2.2.2.1, G.2.2.2.2.1, G.2.2.2.2.2.1, g)
abbrev zad (G : zG) : Nat → Nat → Nat := G.2.1
def zc (G : zG) : zV → Value
  | .inl x => .int x
  | .inr (.inl x) => .long x
  | .inr (.inr none) => .null
  | .inr (.inr (some q)) => .ref (zad G q.1 q.2)
def zfs (ad : Nat → Nat → Nat) (a : Nat → Int32) (b : Nat → Int64) (n : Nat) : Nat → List Value
  | 0 => [.int (a 0), .ref (ad 1 (4 * n)), .ref (ad 1 (4 * n + 1)), .ref (ad 1 (4 * n + 2)), .ref (ad 1 (4 * n + 3)), .ref (ad 25 n), .int (a 6)]
  | 1 => [.long (b 0), .long (b 1)]
  | 2 => [.ref (ad 28 n), .int (a 1)]
  | 3 => [.int (a 0), .int (a 1), .ref (ad 27 n), .int (a 3), .int (a 4)]
  | 4 => [.ref (ad 6 n), .ref (ad 0 (2 * n)), .ref (ad 0 (2 * n + 1)), .int (a 3), .int (a 4), .int (a 5), .int (a 6), .int (a 7)]
  | 5 => [.ref (ad 26 n), .int (a 1)]
  | 6 => [.int (a 0), .ref (ad 20 n), .ref (ad 21 n), .ref (ad 22 n), .ref (ad 23 n), .ref (ad 24 n)]
  | 7 => [.ref (ad 4 0), .ref (ad 4 1), .ref (ad 2 0), .ref (ad 5 0), .ref (ad 3 0), .int (a 5), .int (a 6), .int (a 7)]
  | _ => []
def zce (G : zG) (c n : Nat) (a : Nat → Int32) (b : Nat → Int64) (r : Nat → Option Nat) : va_E := match zpr c with
  | 0 => .inl (G.2.2.1.1, zlt c, .inl a)
  | 1 => .inl (G.2.2.1.2.1, zlt c, .inr (.inl b))
  | 2 => .inl (G.2.2.1.2.2.1, zlt c, .inl a)
  | 3 => .inl (G.2.2.1.2.2.2, zlt c, .inr (.inr (.inr (.inr (fun i => (r i).map (fun q => zad G 4 q))))))
  | _ => .inr (c, zfs (zad G) a b n c)
abbrev zcell (G : zG) (M : zM) (c n : Nat) : va_E := zce G c n (M.1 c n) (M.2.1 c n) M.2.2
def zws (G : zG) (M : zM) : va_W := (zobjs (zsi G)).map (fun q => (zad G q.1 q.2, zcell G M q.1 q.2))
theorem zpr3 {c : Nat} (h : zpr c = 3) : c = 28 := by
  unfold zpr at h
  split at h <;> first | rfl | cases h
theorem zws_at (G : zG) (M : zM) {c n : Nat} (h : (c, n) ∈ zobjs (zsi G)) : ∃ k : Nat, (zws G M)[k]? = some (zad G c n, zcell G M c n) ∧
    ∀ M' : zM, (∀ c' n' : Nat, (c', n') ∈ zobjs (zsi G) → ¬ (c' = c ∧ n' = n) → zcell G M' c' n' = zcell G M c' n') → (zws G M).set k (zad G c n, zcell G M' c n) = zws G M' := by
  obtain ⟨k, hk⟩ := List.getElem?_of_mem h
  refine ⟨k, by rw [zws, List.getElem?_map, hk]; rfl, fun M' hM => ?_⟩
  have hl : k < (zws G M).length := by rw [zws, List.length_map]; exact (List.getElem?_eq_some_iff.mp hk).1
  refine List.ext_getElem? fun j => ?_
  by_cases hj : j = k
  · subst hj
    rw [List.getElem?_set_self hl, zws, List.getElem?_map, hk]
    rfl
  · rw [List.getElem?_set_ne (Ne.symm hj), zws, zws, List.getElem?_map, List.getElem?_map]
    cases hq : (zobjs (zsi G))[j]? with
    | none => rfl
    | some q =>
      have e := hM q.1 q.2 (List.mem_of_getElem? hq) (fun z => hj (zobjs_inj hq (by rw [hk, ← z.1, ← z.2])))
      show some (_, _) = some (_, _)
      rw [e]
theorem zst_self {α : Type} (f : Nat → Nat → α) (c n : Nat) (g : α) : zst f c n g c n = g := by simp [zst]
theorem zst_ne {α : Type} (f : Nat → Nat → α) {c n c' n' : Nat} (g : α) (h : ¬ (c' = c ∧ n' = n)) : zst f c n g c' n' = f c' n' := by simp [zst, h]
/-- one row of ints is another -/
theorem zws_i (G : zG) (M : zM) {c n : Nat} (h : (c, n) ∈ zobjs (zsi G)) (g : Nat → Int32) : ∃ k : Nat, (zws G M)[k]? = some (zad G c n, zcell G M c n) ∧ (zws G M).set k (zad G c n, zce G c n g (M.2.1 c n) M.2.2) = zws G (zst M.1 c n g, M.2) := by
  obtain ⟨k, h1, h2⟩ := zws_at G M h
  refine ⟨k, h1, ?_⟩
  rw [← h2 (zst M.1 c n g, M.2) (fun c' n' _ hn => by show zce G c' n' (zst M.1 c n g c' n') _ _ = _; rw [zst_ne _ _ hn])]
  show _ = (zws G M).set k (zad G c n, zce G c n (zst M.1 c n g c n) _ _)
  rw [zst_self]
theorem zws_j (G : zG) (M : zM) {c n : Nat} (h : (c, n) ∈ zobjs (zsi G)) (g : Nat → Int64) : ∃ k : Nat, (zws G M)[k]? = some (zad G c n, zcell G M c n) ∧ (zws G M).set k (zad G c n, zce G c n (M.1 c n) g M.2.2) = zws G (M.1, zst M.2.1 c n g, M.2.2) := by
  obtain ⟨k, h1, h2⟩ := zws_at G M h
  refine ⟨k, h1, ?_⟩
  rw [← h2 (M.1, zst M.2.1 c n g, M.2.2) (fun c' n' _ hn => by show zce G c' n' _ (zst M.2.1 c n g c' n') _ = _; rw [zst_ne _ _ hn])]
  show _ = (zws G M).set k (zad G c n, zce G c n _ (zst M.2.1 c n g c n) _)
  rw [zst_self]
theorem zws_r (G : zG) (M : zM) (g : Nat → Option Nat) : ∃ k : Nat, (zws G M)[k]? = some (zad G 28 0, zcell G M 28 0) ∧ (zws G M).set k (zad G 28 0, zce G 28 0 (M.1 28 0) (M.2.1 28 0) g) = zws G (M.1, M.2.1, g) := by
  obtain ⟨k, h1, h2⟩ := zws_at G M (c := 28) (n := 0) (zobjs_mem.mpr (show 0 < zcn (zsi G) 28 from Nat.zero_lt_one))
  refine ⟨k, h1, ?_⟩
  rw [← h2 (M.1, M.2.1, g) (fun c' n' hm hn => ?_)]
  show zce G c' n' _ _ _ = zce G c' n' _ _ _
  have h3 : zpr c' ≠ 3 := fun h3 => hn ⟨zpr3 h3, by
    have := zobjs_mem.mp hm
    rw [zpr3 h3] at this
    exact Nat.lt_one_iff.mp (show n' < 1 from this)⟩
  unfold zce
  split <;> first | rfl | (exact absurd (by assumption) h3)
end
section
-- ===== the machine follows the small machine =====
def zlet (i : Nat) : Int32 := ([0, 153429, 415318, 214083, 415062, 476743, 476740, 214355, 350037, 467495, 69970, 349781, 279623, 358229, 415061, 152914, 415300] : List Int32).getD i 0
def zlv (G : zG) : Nat → List (Option zV) → List (Nat × Value)
  | _, [] => []
  | i, none :: t => zlv G (i + 1) t
  | i, some v :: t => (i, zc G v) :: zlv G (i + 1) t
theorem zlv_mem {G : zG} : ∀ (L : List (Option zV)) (i : Nat) (q : Nat × Value), q ∈ zlv G i L ↔ ∃ j v, zget L j = some v ∧ q = (i + j, zc G v)
  | [], i, q => by simp [zlv, zget]
  | none :: t, i, q => by
    rw [zlv, zlv_mem t (i + 1) q]
    constructor
    · rintro ⟨j, v, h, rfl⟩
      exact ⟨j + 1, v, h, by rw [Nat.add_assoc, Nat.add_comm 1 j]⟩
    · rintro ⟨j, v, h, rfl⟩
      cases j with
      | zero => cases h
      | succ j => exact ⟨j, v, h, by rw [Nat.add_assoc, Nat.add_comm 1 j]⟩
  | some w :: t, i, q => by
    rw [zlv, List.mem_cons, zlv_mem t (i + 1) q]
    constructor
    · rintro (rfl | ⟨j, v, h, rfl⟩)
      · exact ⟨0, w, rfl, rfl⟩
      · exact ⟨j + 1, v, h, by rw [Nat.add_assoc, Nat.add_comm 1 j]⟩
    · rintro ⟨j, v, h, rfl⟩
      cases j with
      | zero => cases h; exact Or.inl rfl
      | succ j => exact Or.inr ⟨j, v, h, by rw [Nat.add_assoc, Nat.add_comm 1 j]⟩
theorem zlv_at {G : zG} {ls : Array Slot} {nL i : Nat} {L : List (Option zV)} {v : zV} (h : lv_has ls nL (zlv G 0 L)) (hg : zget L i = some v) : ls[i]? = some (.val (zc G v)) := h.2.2 (i, zc G v) ((zlv_mem L 0 _).mpr ⟨i, v, hg, by rw [Nat.zero_add]⟩)
theorem zc_cat (G : zG) (v : zV) : (zc G v).category = zcat v := by
  rcases v with x | x | _ | x <;> rfl
theorem zc_cats (G : zG) : ∀ st : List zV, ((st.map (zc G)).map fun v => v.category).sum = zcats st
  | [] => rfl
  | v :: t => by
    have := zc_cats G t
    simp only [List.map_cons, List.sum_cons, zcats, zc_cat] at this ⊢
    omega
theorem zget_kill {L : List (Option zV)} {i j : Nat} {w : zV} (h : zget (zkill L i) j = some w) : zget L j = some w ∧ ¬ (j + 1 = i ∧ zcat w = 2) := by
  cases i with
  | zero => exact ⟨h, fun z => by omega⟩
  | succ i =>
    rw [zkill] at h
    cases hg : zget L i with
    | none =>
      rw [hg] at h
      exact ⟨h, fun z => by rw [show j = i by omega, hg] at h; cases h⟩
    | some v =>
      rw [hg] at h
      rcases v with x | x | x
      · exact ⟨h, fun z => by rw [show j = i by omega, hg] at h; cases h; exact absurd z.2 (fun q => by cases q)⟩
      · have h : zget (zput L i none) j = some w := h
        rw [zget_put] at h
        by_cases hj : j = i ∧ i < L.length
        · rw [if_pos hj] at h; cases h
        · rw [if_neg hj] at h
          exact ⟨h, fun z => hj ⟨by omega, zget_lt _ _ _ hg⟩⟩
      · exact ⟨h, fun z => by rw [show j = i by omega, hg] at h; cases h; exact absurd z.2 (fun q => by cases q)⟩
theorem zlv_set1 {G : zG} {ls : Array Slot} {nL i : Nat} {L : List (Option zV)} {v : zV} (hi : i < L.length) (h : lv_has ls nL ((i, zc G v) :: (zlv G 0 L).filter (fun q => !(q.1 == i) && !(q.1 + 1 == i && q.2.category == 2)))) : lv_has ls nL (zlv G 0 (zset1 L i v)) := by
  refine ⟨h.1, h.2.1, fun q hq => ?_⟩
  obtain ⟨j, u, hu, rfl⟩ := (zlv_mem _ _ _).mp hq
  rw [zset1, zget_put, zkill_len] at hu
  by_cases hj : j = i ∧ i < L.length
  · rw [if_pos hj] at hu
    cases hu
    obtain ⟨rfl, -⟩ := hj
    exact h.2.2 (0 + j, zc G v) (by simp)
  · rw [if_neg hj] at hu
    obtain ⟨h1, h2⟩ := zget_kill hu
    have hne : j ≠ i := fun z => hj ⟨z, hi⟩
    refine h.2.2 (0 + j, zc G u) (List.mem_cons_of_mem _ (List.mem_filter.mpr ⟨(zlv_mem _ _ _).mpr ⟨j, u, h1, rfl⟩, ?_⟩))
    simp only [Nat.zero_add, zc_cat]
    simp [hne]
    exact Classical.or_iff_not_imp_left.mpr (fun z z2 => h2 ⟨Classical.not_not.mp z, z2⟩)
theorem zlv_set2 {G : zG} {ls : Array Slot} {nL i : Nat} {L : List (Option zV)} {v : zV} (hi : i + 1 < L.length) (h : lv_has ls nL ((i, zc G v) :: (zlv G 0 L).filter (fun q => !(q.1 == i) && (!(q.1 == i + 1) && !(q.1 + 1 == i && q.2.category == 2))))) : lv_has ls nL (zlv G 0 (zset2 L i v)) := by
  refine ⟨h.1, h.2.1, fun q hq => ?_⟩
  obtain ⟨j, u, hu, rfl⟩ := (zlv_mem _ _ _).mp hq
  rw [zset2, zget_put, zput_len, zkill_len] at hu
  by_cases hj1 : j = i + 1 ∧ i + 1 < L.length
  · rw [if_pos hj1] at hu; cases hu
  rw [if_neg hj1, zget_put, zkill_len] at hu
  by_cases hj : j = i ∧ i < L.length
  · rw [if_pos hj] at hu
    cases hu
    obtain ⟨rfl, -⟩ := hj
    exact h.2.2 (0 + j, zc G v) (by simp)
  · rw [if_neg hj] at hu
    obtain ⟨h1, h2⟩ := zget_kill hu
    have hne : j ≠ i := fun z => hj ⟨z, by omega⟩
    have hne1 : j ≠ i + 1 := fun z => hj1 ⟨z, hi⟩
    refine h.2.2 (0 + j, zc G u) (List.mem_cons_of_mem _ (List.mem_filter.mpr ⟨(zlv_mem _ _ _).mpr ⟨j, u, h1, rfl⟩, ?_⟩))
    simp only [Nat.zero_add, zc_cat]
    simp [hne, hne1]
    exact Classical.or_iff_not_imp_left.mpr (fun z z2 => h2 ⟨Classical.not_not.mp z, z2⟩)
def zvr (G : zG) : zV → Prop
  | .inr (.inr (some q)) => q.2 < zcn (zsi G) q.1 ∨ q = (40, 0) ∨ q = (41, 0)
  | _ => True
def zok (G : zG) (L : List (Option zV)) (st : List zV) : Prop := (∀ i v, zget L i = some v → zvr G v) ∧ ∀ v ∈ st, zvr G v
theorem zok.d {G : zG} {L : List (Option zV)} {v : zV} {st : List zV} (h : zok G L (v :: st)) : zok G L st := ⟨h.1, fun w hw => h.2 w (List.mem_cons_of_mem _ hw)⟩
theorem zok.t {G : zG} {L : List (Option zV)} {v : zV} {st : List zV} (h : zok G L (v :: st)) : zvr G v := h.2 v List.mem_cons_self
theorem zok.p {G : zG} {L : List (Option zV)} {v : zV} {st : List zV} (h : zok G L st) (hv : zvr G v) : zok G L (v :: st) := ⟨h.1, fun w hw => (List.mem_cons.mp hw).elim (fun e => e ▸ hv) (h.2 w)⟩
theorem zok.s1 {G : zG} {L : List (Option zV)} {v : zV} {st : List zV} {i : Nat} (h : zok G L st) (hv : zvr G v) : zok G (zset1 L i v) st := by
  refine ⟨fun j w hw => ?_, h.2⟩
  rw [zset1, zget_put] at hw
  split at hw
  · cases hw; exact hv
  · exact h.1 j w (zget_kill hw).1
theorem zok.s2 {G : zG} {L : List (Option zV)} {v : zV} {st : List zV} {i : Nat} (h : zok G L st) (hv : zvr G v) : zok G (zset2 L i v) st := by
  refine ⟨fun j w hw => ?_, h.2⟩
  rw [zset2, zget_put] at hw
  split at hw
  · cases hw
  · rw [zget_put] at hw
    split at hw
    · cases hw; exact hv
    · exact h.1 j w (zget_kill hw).1
theorem zset1_len (L : List (Option zV)) (i : Nat) (v : zV) : (zset1 L i v).length = L.length := by rw [zset1, zput_len, zkill_len]
theorem zset2_len (L : List (Option zV)) (i : Nat) (v : zV) : (zset2 L i v).length = L.length := by rw [zset2, zput_len, zput_len, zkill_len]
abbrev zLn (G : zG) : Nat := G.2.2.2.1
abbrev zxs (G : zG) : Nat → Int32 := G.2.2.2.2.1
abbrev zgc (G : zG) : Nat := G.2.2.2.2.2.2
def zmo (G : zG) (M : zM) : Prop := (∀ i, i < 17 → M.1 40 0 i = zlet i) ∧ (∀ i, i < zLn G → M.1 41 0 i = zxs G i) ∧ M.1 42 0 0 = Int32.ofNat (zLn G) ∧ zLn G < 2 ^ 31 ∧ (∀ i q, M.2.2 i = some q → q < 7) ∧ M.1 43 0 0 = nI (zgc G)
theorem zmo.i {G : zG} {M : zM} (h : zmo G M) {c n : Nat} {g : Nat → Int32} (hc : c < 40) : zmo G (zst M.1 c n g, M.2) := by
  refine ⟨fun i hi => ?_, fun i hi => ?_, ?_, h.2.2.2.1, h.2.2.2.2.1, ?_⟩
  · show zst M.1 c n g 40 0 i = _
    rw [zst_ne _ _ (by omega)]; exact h.1 i hi
  · show zst M.1 c n g 41 0 i = _
    rw [zst_ne _ _ (by omega)]; exact h.2.1 i hi
  · show zst M.1 c n g 42 0 0 = _
    rw [zst_ne _ _ (by omega)]; exact h.2.2.1
  · show zst M.1 c n g 43 0 0 = _
    rw [zst_ne _ _ (by omega)]; exact h.2.2.2.2.2
def zA (G : zG) : Nat → Prop := fun a => ∃ c n, n < zcn (zsi G) c ∧ a = zad G c n
def zWd (G : zG) (A : Nat → Prop) (H0 : Heap) (M : zM) (H : Heap) (locs : List Loc) : Prop := va_P G.1 vwCl (zws G M) H ∧ va_D A (zws G M) ∧ va_S A H0 H locs ∧ zmo G M
/-- the array of the letters: at least 17 ints, and which -/
def zXl (b : Nat) (U : State) (H : Heap) : Prop := ∃ scr : Cell, H[b]? = some scr ∧ U.isArrayOf scr .int ∧ scr.vm ≠ .unknown ∧ 17 ≤ scr.slots.size ∧ ∀ j : Nat, j < 17 → scr.slots[j]? = some (.int (zlet j))
theorem zXl.kept {b : Nat} {U : State} {H H1 : Heap} (h : zXl b U H) (hq : H1[b]? = H[b]?) : zXl b U H1 := by
  obtain ⟨scr, h1, h2⟩ := h
  exact ⟨scr, by rw [hq]; exact h1, h2⟩
theorem zXl.moved {b : Nat} {u U : State} {H : Heap} (hvm : u.vm.Alike U.vm) (h : zXl b u H) : zXl b U H := by
  obtain ⟨scr, h1, h2, h3⟩ := h
  exact ⟨scr, h1, State.isArrayOf_alike hvm h2, h3⟩
def zro (G : zG) (A : Nat → Prop) (s : State) (H : Heap) : Prop := zXl (zad G 40 0) s H ∧ zad G 40 0 < H.size ∧ ¬ A (zad G 40 0) ∧ va_X (zad G 41 0) (zLn G) (zxs G) s H ∧ zad G 41 0 < H.size ∧ ¬ A (zad G 41 0) ∧ va_Z "FlippedBlinds" "LETTERS" "[I" (.ref (zad G 40 0)) A s H
def ztys (G : zG) : List (ClassId × FieldType) := [(G.2.2.1.1, .int), (G.2.2.1.2.1, .long), (G.2.2.1.2.2.1, .char), (G.2.2.1.2.2.2, .object RX4)]

def zNd : List (String × Nat × MethodName × String) := [("FlippedBlinds$Blind", 17, ⟨"FlippedBlinds$Dots", "<init>", "()V"⟩, "FlippedBlinds"), ("FlippedBlinds$Dots", 13, ⟨"FlippedBlinds", "leftBits", "(IJ)J"⟩, "FlippedBlinds"), ("FlippedBlinds$Dots", 22, ⟨"FlippedBlinds", "rightBits", "(IJ)J"⟩, "FlippedBlinds"), ("FlippedBlinds$State", 53, ⟨"FlippedBlinds", "areLetters", "(I)Z"⟩, "FlippedBlinds"), ("FlippedBlinds$State", 84, ⟨"FlippedBlinds", "placeOf", "(II)I"⟩, "FlippedBlinds"), ("FlippedBlinds$Words", 38, ⟨"FlippedBlinds", "lettersIn", "(I)I"⟩, "FlippedBlinds"), ("FlippedBlinds$Words", 42, ⟨"FlippedBlinds", "placeOf", "(II)I"⟩, "FlippedBlinds"), ("FlippedBlinds$Words", 50, ⟨"FlippedBlinds", "letterDots", "(II)J"⟩, "FlippedBlinds"), ("FlippedBlinds$Words", 54, ⟨"FlippedBlinds", "leftBits", "(IJ)J"⟩, "FlippedBlinds"), ("FlippedBlinds$Words", 58, ⟨"FlippedBlinds", "rightBits", "(IJ)J"⟩, "FlippedBlinds")]
def zne (U : State) : Prop := ∀ q ∈ zNd, va_Nw (.methodLinkNest q.1 q.2.1 q.2.2.1 q.2.2.2) U
def zGa (p : Program) (s : State) (m : MethodId) (args : Array Value) (c : Code) (cc : ByteArray) (nL : Nat) (own : String) (G : zG) (A : Nat → Prop) : Prop :=
  p.tables.exec = Jvm.exec ∧ c.code = cc ∧ c.maxLocals = nL ∧ s.vm.findClass own = some m.cls ∧ (∀ w ∈ zTs, w.before args s = true) ∧ va_K G.1 vwCl (ztys G) s ∧ zro G A s s.heap ∧ (∀ q, zA G q → A q) ∧ zne s
def zHo (s : State) (G : zG) (A : Nat → Prop) (nL : Nat) (f : zF) (H : Heap) (locs : List Loc) (ls : Array Slot) : Prop := lv_has ls nL (zlv G 0 f.1) ∧ f.1.length = nL ∧ zWd G A s.heap f.2.2 H locs ∧ zok G f.1 f.2.1
def zNx (p : Program) (l : Launch) (e : Env) (R : Room) (s : State) (m : MethodId) (args : Array Value) (below : List Frame) (meth : Method) (c : Code) (cells slots : Nat) (G : zG) (A : Nat → Prop) (nL pc : Nat) (x : zX) : Prop :=
  ∀ (f : zF) (pc' : Nat) (f' : zF), x pc f = some (.inr (pc', f')) → ∀ (H : Heap) (locs : List Loc) (ls : Array Slot) (Q : State → Prop), zHo s G A nL f H locs ls →
    (∀ (H' : Heap) (locs' : List Loc) (ls' : Array Slot), zHo s G A nL f' H' locs' ls' → W p l e R s m args below meth c H' locs' cells slots Q (F0 m pc' ls' (f'.2.1.map (zc G)))) → W p l e R s m args below meth c H locs cells slots Q (F0 m pc ls (f.2.1.map (zc G)))
section ZS
variable {p : Program} {l : Launch} {e : Env} {R : Room} {s : State} {m : MethodId} {args : Array Value} {below : List Frame} {meth : Method} {c : Code} {cells slots : Nat} {cc : ByteArray} {nL : Nat} {own : String} {G : zG} {A : Nat → Prop} {pc : Nat}

theorem zs_iconst (Γ : zGa p s m args c cc nL own G A) {n : Int} {v : Int32} (hd : decode cc pc = .ok (.iconst n, 1)) (hv : Int32.ofInt n = v) : zNx p l e R s m args below meth c cells slots G A nL pc (zxc (zI v) 1) := by
  intro f pc' f' hx H locs ls Q hH kk
  obtain ⟨L, st, M⟩ := f
  cases hx
  exact lv_iconst Γ.1 Γ.2.1 hd hv (kk H locs ls ⟨hH.1, hH.2.1, hH.2.2.1, (hH.2.2.2).p trivial⟩)
theorem zs_bipush (Γ : zGa p s m args c cc nL own G A) {n : Int} {v : Int32} (hd : decode cc pc = .ok (.bipush n, 2)) (hv : (Int8.ofInt n).toInt32 = v) : zNx p l e R s m args below meth c cells slots G A nL pc (zxc (zI v) 2) := by
  intro f pc' f' hx H locs ls Q hH kk
  obtain ⟨L, st, M⟩ := f
  cases hx
  exact lv_bipush Γ.1 Γ.2.1 hd hv (kk H locs ls ⟨hH.1, hH.2.1, hH.2.2.1, (hH.2.2.2).p trivial⟩)
theorem zs_sipush (Γ : zGa p s m args c cc nL own G A) {n : Int} {v : Int32} (hd : decode cc pc = .ok (.sipush n, 3)) (hv : (Int16.ofInt n).toInt32 = v) : zNx p l e R s m args below meth c cells slots G A nL pc (zxc (zI v) 3) := by
  intro f pc' f' hx H locs ls Q hH kk
  obtain ⟨L, st, M⟩ := f
  cases hx
  exact lv_sipush Γ.1 Γ.2.1 hd hv (kk H locs ls ⟨hH.1, hH.2.1, hH.2.2.1, (hH.2.2.2).p trivial⟩)
theorem zs_lconst (Γ : zGa p s m args c cc nL own G A) {n : Fin 2} {v : Int64} (hd : decode cc pc = .ok (.lconst n, 1)) (hv : Int64.ofNat (n : Nat) = v) : zNx p l e R s m args below meth c cells slots G A nL pc (zxc (zJ v) 1) := by
  intro f pc' f' hx H locs ls Q hH kk
  obtain ⟨L, st, M⟩ := f
  cases hx
  exact lv_lconst Γ.1 Γ.2.1 hd hv (kk H locs ls ⟨hH.1, hH.2.1, hH.2.2.1, (hH.2.2.2).p trivial⟩)
theorem zs_ldc (Γ : zGa p s m args c cc nL own G A) {i : Nat} {v : Int32} (hd : decode cc pc = .ok (.ldc i, 2)) (hw : Cond.constant own i v ∈ zTs) : zNx p l e R s m args below meth c cells slots G A nL pc (zxc (zI v) 2) := by
  intro f pc' f' hx H locs ls Q hH kk
  obtain ⟨L, st, M⟩ := f
  cases hx
  exact lv_ldc Γ.1 Γ.2.1 Γ.2.2.2.1 (Γ.2.2.2.2.1 _ hw) hd (kk H locs ls ⟨hH.1, hH.2.1, hH.2.2.1, (hH.2.2.2).p trivial⟩)
theorem zs_ldc2 (Γ : zGa p s m args c cc nL own G A) {i : Nat} {v : Int64} (hd : decode cc pc = .ok (.ldc2_w i, 3)) (hw : Cond.constantLong own i v ∈ zTs) : zNx p l e R s m args below meth c cells slots G A nL pc (zxc (zJ v) 3) := by
  intro f pc' f' hx H locs ls Q hH kk
  obtain ⟨L, st, M⟩ := f
  cases hx
  exact lv_ldc2 Γ.1 Γ.2.1 Γ.2.2.2.1 (Γ.2.2.2.2.1 _ hw) hd (kk H locs ls ⟨hH.1, hH.2.1, hH.2.2.1, (hH.2.2.2).p trivial⟩)
theorem zs_null (Γ : zGa p s m args c cc nL own G A) (hd : decode cc pc = .ok (.aconst_null, 1)) : zNx p l e R s m args below meth c cells slots G A nL pc (zxc zN 1) := by
  intro f pc' f' hx H locs ls Q hH kk
  obtain ⟨L, st, M⟩ := f
  cases hx
  exact lv_null Γ.1 Γ.2.1 hd (kk H locs ls ⟨hH.1, hH.2.1, hH.2.2.1, (hH.2.2.2).p trivial⟩)
theorem zs_iload_n (Γ : zGa p s m args c cc nL own G A) {k : Fin 4} (hd : decode cc pc = .ok (.iload_n k, 1)) : zNx p l e R s m args below meth c cells slots G A nL pc (ziload (k : Nat) 1) := by
  intro f pc' f' hx H locs ls Q hH kk
  obtain ⟨L, st, M⟩ := f
  obtain ⟨x, hg, hx⟩ : ∃ x, zget L (k : Nat) = some (.inl x) ∧ some (Sum.inr (pc + 1, L, (.inl x) :: st, M)) = some (Sum.inr (pc', f')) := by
    unfold ziload at hx
    dsimp only at hx
    split at hx
    · rename_i x hg; exact ⟨x, hg, hx⟩
    · cases hx
  cases hx
  exact lv_iload_n Γ.1 Γ.2.1 hd rfl (zlv_at hH.1 hg) (kk H locs ls ⟨hH.1, hH.2.1, hH.2.2.1, (hH.2.2.2).p trivial⟩)
theorem zs_iload (Γ : zGa p s m args c cc nL own G A) {k : Nat} (hd : decode cc pc = .ok (.iload k, 2)) : zNx p l e R s m args below meth c cells slots G A nL pc (ziload k 2) := by
  intro f pc' f' hx H locs ls Q hH kk
  obtain ⟨L, st, M⟩ := f
  obtain ⟨x, hg, hx⟩ : ∃ x, zget L k = some (.inl x) ∧ some (Sum.inr (pc + 2, L, (.inl x) :: st, M)) = some (Sum.inr (pc', f')) := by
    unfold ziload at hx
    dsimp only at hx
    split at hx
    · rename_i x hg; exact ⟨x, hg, hx⟩
    · cases hx
  cases hx
  exact lv_iload Γ.1 Γ.2.1 hd (zlv_at hH.1 hg) (kk H locs ls ⟨hH.1, hH.2.1, hH.2.2.1, (hH.2.2.2).p trivial⟩)
theorem zs_lload_n (Γ : zGa p s m args c cc nL own G A) {k : Fin 4} (hd : decode cc pc = .ok (.lload_n k, 1)) : zNx p l e R s m args below meth c cells slots G A nL pc (zlload (k : Nat) 1) := by
  intro f pc' f' hx H locs ls Q hH kk
  obtain ⟨L, st, M⟩ := f
  obtain ⟨x, hg, hx⟩ : ∃ x, zget L (k : Nat) = some (.inr (.inl x)) ∧ some (Sum.inr (pc + 1, L, (.inr (.inl x)) :: st, M)) = some (Sum.inr (pc', f')) := by
    unfold zlload at hx
    dsimp only at hx
    split at hx
    · rename_i x hg; exact ⟨x, hg, hx⟩
    · cases hx
  cases hx
  exact lv_lload_n Γ.1 Γ.2.1 hd rfl (zlv_at hH.1 hg) (kk H locs ls ⟨hH.1, hH.2.1, hH.2.2.1, (hH.2.2.2).p trivial⟩)
theorem zs_lload (Γ : zGa p s m args c cc nL own G A) {k : Nat} (hd : decode cc pc = .ok (.lload k, 2)) : zNx p l e R s m args below meth c cells slots G A nL pc (zlload k 2) := by
  intro f pc' f' hx H locs ls Q hH kk
  obtain ⟨L, st, M⟩ := f
  obtain ⟨x, hg, hx⟩ : ∃ x, zget L k = some (.inr (.inl x)) ∧ some (Sum.inr (pc + 2, L, (.inr (.inl x)) :: st, M)) = some (Sum.inr (pc', f')) := by
    unfold zlload at hx
    dsimp only at hx
    split at hx
    · rename_i x hg; exact ⟨x, hg, hx⟩
    · cases hx
  cases hx
  exact lv_lload Γ.1 Γ.2.1 hd (zlv_at hH.1 hg) (kk H locs ls ⟨hH.1, hH.2.1, hH.2.2.1, (hH.2.2.2).p trivial⟩)
theorem zs_aload_n (Γ : zGa p s m args c cc nL own G A) {k : Fin 4} (hd : decode cc pc = .ok (.aload_n k, 1)) : zNx p l e R s m args below meth c cells slots G A nL pc (zaload (k : Nat) 1) := by
  intro f pc' f' hx H locs ls Q hH kk
  obtain ⟨L, st, M⟩ := f
  obtain ⟨x, hg, hx⟩ : ∃ x, zget L (k : Nat) = some (.inr (.inr x)) ∧ some (Sum.inr (pc + 1, L, (.inr (.inr x)) :: st, M)) = some (Sum.inr (pc', f')) := by
    unfold zaload at hx
    dsimp only at hx
    split at hx
    · rename_i x hg; exact ⟨x, hg, hx⟩
    · cases hx
  cases hx
  have hv := hH.2.2.2.1 _ _ hg
  have k2 := kk H locs ls ⟨hH.1, hH.2.1, hH.2.2.1, (hH.2.2.2).p hv⟩
  cases x with
  | none => exact lv_aload_nN Γ.1 Γ.2.1 hd rfl (zlv_at hH.1 hg) k2
  | some q => exact lv_aload_n Γ.1 Γ.2.1 hd rfl (zlv_at hH.1 hg) k2
theorem zs_aload (Γ : zGa p s m args c cc nL own G A) {k : Nat} (hd : decode cc pc = .ok (.aload k, 2)) : zNx p l e R s m args below meth c cells slots G A nL pc (zaload k 2) := by
  intro f pc' f' hx H locs ls Q hH kk
  obtain ⟨L, st, M⟩ := f
  obtain ⟨x, hg, hx⟩ : ∃ x, zget L k = some (.inr (.inr x)) ∧ some (Sum.inr (pc + 2, L, (.inr (.inr x)) :: st, M)) = some (Sum.inr (pc', f')) := by
    unfold zaload at hx
    dsimp only at hx
    split at hx
    · rename_i x hg; exact ⟨x, hg, hx⟩
    · cases hx
  cases hx
  have hv := hH.2.2.2.1 _ _ hg
  have k2 := kk H locs ls ⟨hH.1, hH.2.1, hH.2.2.1, (hH.2.2.2).p hv⟩
  cases x with
  | none => exact lv_aloadN Γ.1 Γ.2.1 hd (zlv_at hH.1 hg) k2
  | some q => exact lv_aload Γ.1 Γ.2.1 hd (zlv_at hH.1 hg) k2
theorem zs_istore_n (Γ : zGa p s m args c cc nL own G A) {k : Fin 4} (hd : decode cc pc = .ok (.istore_n k, 1)) (hn : (k : Nat) < nL) : zNx p l e R s m args below meth c cells slots G A nL pc (zistore (k : Nat) 1) := by
  intro f pc' f' hx H locs ls Q hH kk
  obtain ⟨L, st, M⟩ := f
  obtain ⟨x, t, rfl, hx⟩ : ∃ x t, st = (.inl x) :: t ∧ some (Sum.inr (pc + 1, zset1 L (k : Nat) (.inl x), t, M)) = some (Sum.inr (pc', f')) := by
    unfold zistore at hx
    dsimp only at hx
    split at hx
    · rename_i x t; exact ⟨x, t, rfl, hx⟩
    · cases hx
  cases hx
  exact lv_istore_n Γ.1 Γ.2.1 hd rfl hH.1 hn rfl (fun ls' h' => kk H locs ls' ⟨zlv_set1 (by have := hH.2.1; dsimp only at this; omega) h', by rw [← hH.2.1]; exact zset1_len _ _ _, hH.2.2.1, (hH.2.2.2).d.s1 trivial⟩)
theorem zs_istore (Γ : zGa p s m args c cc nL own G A) {k : Nat} (hd : decode cc pc = .ok (.istore k, 2)) (hn : k < nL) : zNx p l e R s m args below meth c cells slots G A nL pc (zistore k 2) := by
  intro f pc' f' hx H locs ls Q hH kk
  obtain ⟨L, st, M⟩ := f
  obtain ⟨x, t, rfl, hx⟩ : ∃ x t, st = (.inl x) :: t ∧ some (Sum.inr (pc + 2, zset1 L k (.inl x), t, M)) = some (Sum.inr (pc', f')) := by
    unfold zistore at hx
    dsimp only at hx
    split at hx
    · rename_i x t; exact ⟨x, t, rfl, hx⟩
    · cases hx
  cases hx
  exact lv_istore Γ.1 Γ.2.1 hd hH.1 hn rfl (fun ls' h' => kk H locs ls' ⟨zlv_set1 (by have := hH.2.1; dsimp only at this; omega) h', by rw [← hH.2.1]; exact zset1_len _ _ _, hH.2.2.1, (hH.2.2.2).d.s1 trivial⟩)
theorem zs_lstore_n (Γ : zGa p s m args c cc nL own G A) {k : Fin 4} (hd : decode cc pc = .ok (.lstore_n k, 1)) (hn : (k : Nat) + 1 < nL) : zNx p l e R s m args below meth c cells slots G A nL pc (zlstore (k : Nat) 1) := by
  intro f pc' f' hx H locs ls Q hH kk
  obtain ⟨L, st, M⟩ := f
  obtain ⟨x, t, rfl, hx⟩ : ∃ x t, st = (.inr (.inl x)) :: t ∧ some (Sum.inr (pc + 1, zset2 L (k : Nat) (.inr (.inl x)), t, M)) = some (Sum.inr (pc', f')) := by
    unfold zlstore at hx
    dsimp only at hx
    split at hx
    · rename_i x t; exact ⟨x, t, rfl, hx⟩
    · cases hx
  cases hx
  exact lv_lstore_n Γ.1 Γ.2.1 hd rfl hH.1 hn rfl (fun ls' h' => kk H locs ls' ⟨zlv_set2 (by have := hH.2.1; dsimp only at this; omega) h', by rw [← hH.2.1]; exact zset2_len _ _ _, hH.2.2.1, (hH.2.2.2).d.s2 trivial⟩)
theorem zs_lstore (Γ : zGa p s m args c cc nL own G A) {k : Nat} (hd : decode cc pc = .ok (.lstore k, 2)) (hn : k + 1 < nL) : zNx p l e R s m args below meth c cells slots G A nL pc (zlstore k 2) := by
  intro f pc' f' hx H locs ls Q hH kk
  obtain ⟨L, st, M⟩ := f
  obtain ⟨x, t, rfl, hx⟩ : ∃ x t, st = (.inr (.inl x)) :: t ∧ some (Sum.inr (pc + 2, zset2 L k (.inr (.inl x)), t, M)) = some (Sum.inr (pc', f')) := by
    unfold zlstore at hx
    dsimp only at hx
    split at hx
    · rename_i x t; exact ⟨x, t, rfl, hx⟩
    · cases hx
  cases hx
  exact lv_lstore Γ.1 Γ.2.1 hd hH.1 hn rfl (fun ls' h' => kk H locs ls' ⟨zlv_set2 (by have := hH.2.1; dsimp only at this; omega) h', by rw [← hH.2.1]; exact zset2_len _ _ _, hH.2.2.1, (hH.2.2.2).d.s2 trivial⟩)
theorem zs_astore_n (Γ : zGa p s m args c cc nL own G A) {k : Fin 4} (hd : decode cc pc = .ok (.astore_n k, 1)) (hn : (k : Nat) < nL) : zNx p l e R s m args below meth c cells slots G A nL pc (zastore (k : Nat) 1) := by
  intro f pc' f' hx H locs ls Q hH kk
  obtain ⟨L, st, M⟩ := f
  obtain ⟨x, t, rfl, hx⟩ : ∃ x t, st = (.inr (.inr x)) :: t ∧ some (Sum.inr (pc + 1, zset1 L (k : Nat) (.inr (.inr x)), t, M)) = some (Sum.inr (pc', f')) := by
    unfold zastore at hx
    dsimp only at hx
    split at hx
    · rename_i x t; exact ⟨x, t, rfl, hx⟩
    · cases hx
  cases hx
  have hv := hH.2.2.2.t
  have k2 := fun ls' h' => kk H locs ls' ⟨zlv_set1 (G := G) (v := .inr (.inr x)) (i := (k : Nat)) (by have := hH.2.1; dsimp only at this; omega) h', by rw [← hH.2.1]; exact zset1_len _ _ _, hH.2.2.1, (hH.2.2.2).d.s1 hv⟩
  cases x with
  | none => exact lv_astore_nN Γ.1 Γ.2.1 hd rfl hH.1 hn rfl k2
  | some q => exact lv_astore_n Γ.1 Γ.2.1 hd rfl hH.1 hn rfl k2
theorem zs_astore (Γ : zGa p s m args c cc nL own G A) {k : Nat} (hd : decode cc pc = .ok (.astore k, 2)) (hn : k < nL) : zNx p l e R s m args below meth c cells slots G A nL pc (zastore k 2) := by
  intro f pc' f' hx H locs ls Q hH kk
  obtain ⟨L, st, M⟩ := f
  obtain ⟨x, t, rfl, hx⟩ : ∃ x t, st = (.inr (.inr x)) :: t ∧ some (Sum.inr (pc + 2, zset1 L k (.inr (.inr x)), t, M)) = some (Sum.inr (pc', f')) := by
    unfold zastore at hx
    dsimp only at hx
    split at hx
    · rename_i x t; exact ⟨x, t, rfl, hx⟩
    · cases hx
  cases hx
  have hv := hH.2.2.2.t
  have k2 := fun ls' h' => kk H locs ls' ⟨zlv_set1 (G := G) (v := .inr (.inr x)) (i := k) (by have := hH.2.1; dsimp only at this; omega) h', by rw [← hH.2.1]; exact zset1_len _ _ _, hH.2.2.1, (hH.2.2.2).d.s1 hv⟩
  cases x with
  | none => exact lv_astoreN Γ.1 Γ.2.1 hd hH.1 hn rfl k2
  | some q => exact lv_astore Γ.1 Γ.2.1 hd hH.1 hn rfl k2
theorem zs_iinc (Γ : zGa p s m args c cc nL own G A) {i : Nat} {n : Int} (hd : decode cc pc = .ok (.iinc i n, 3)) (hn : i < nL) : zNx p l e R s m args below meth c cells slots G A nL pc (ziinc i (Int32.ofInt n)) := by
  intro f pc' f' hx H locs ls Q hH kk
  obtain ⟨L, st, M⟩ := f
  obtain ⟨x, hg, hx⟩ : ∃ x, zget L i = some (.inl x) ∧ some (Sum.inr (pc + 3, zset1 L i (zI (x + Int32.ofInt n)), st, M)) = some (Sum.inr (pc', f')) := by
    unfold ziinc at hx
    dsimp only at hx
    split at hx
    · rename_i x hg; exact ⟨x, hg, hx⟩
    · cases hx
  cases hx
  obtain ⟨k, hk⟩ := List.getElem?_of_mem ((zlv_mem (G := G) L 0 (i, .int x)).mpr ⟨i, zI x, hg, by rw [Nat.zero_add]; rfl⟩)
  exact lv_iinc (v := x + Int32.ofInt n) (k := k) Γ.1 Γ.2.1 hd hH.1 hk rfl hn rfl (fun ls' h' => kk H locs ls' ⟨zlv_set1 (v := zI (x + Int32.ofInt n)) (by have := hH.2.1; dsimp only at this; omega) h', by rw [← hH.2.1]; exact zset1_len _ _ _, hH.2.2.1, (hH.2.2.2).s1 trivial⟩)
theorem zs_iadd (Γ : zGa p s m args c cc nL own G A) (hd : decode cc pc = .ok (.iadd, 1)) : zNx p l e R s m args below meth c cells slots G A nL pc (zbin (fun x y => x + y)) := by
  intro f pc' f' hx H locs ls Q hH kk
  obtain ⟨L, st, M⟩ := f
  obtain ⟨y, x, t, rfl, hx⟩ : ∃ y x t, st = (.inl y) :: (.inl x) :: t ∧ some (Sum.inr (pc + 1, L, (zI (x + y)) :: t, M)) = some (Sum.inr (pc', f')) := by
    unfold zbin at hx
    dsimp only at hx
    split at hx
    · rename_i y x t
      exact ⟨y, x, t, rfl, hx⟩

    · cases hx
  cases hx
  exact lv_iadd Γ.1 Γ.2.1 hd (kk H locs ls ⟨hH.1, hH.2.1, hH.2.2.1, (hH.2.2.2).d.d.p trivial⟩)
theorem zs_isub (Γ : zGa p s m args c cc nL own G A) (hd : decode cc pc = .ok (.isub, 1)) : zNx p l e R s m args below meth c cells slots G A nL pc (zbin (fun x y => x - y)) := by
  intro f pc' f' hx H locs ls Q hH kk
  obtain ⟨L, st, M⟩ := f
  obtain ⟨y, x, t, rfl, hx⟩ : ∃ y x t, st = (.inl y) :: (.inl x) :: t ∧ some (Sum.inr (pc + 1, L, (zI (x - y)) :: t, M)) = some (Sum.inr (pc', f')) := by
    unfold zbin at hx
    dsimp only at hx
    split at hx
    · rename_i y x t
      exact ⟨y, x, t, rfl, hx⟩

    · cases hx
  cases hx
  exact lv_isub Γ.1 Γ.2.1 hd (kk H locs ls ⟨hH.1, hH.2.1, hH.2.2.1, (hH.2.2.2).d.d.p trivial⟩)
theorem zs_imul (Γ : zGa p s m args c cc nL own G A) (hd : decode cc pc = .ok (.imul, 1)) : zNx p l e R s m args below meth c cells slots G A nL pc (zbin (fun x y => x * y)) := by
  intro f pc' f' hx H locs ls Q hH kk
  obtain ⟨L, st, M⟩ := f
  obtain ⟨y, x, t, rfl, hx⟩ : ∃ y x t, st = (.inl y) :: (.inl x) :: t ∧ some (Sum.inr (pc + 1, L, (zI (x * y)) :: t, M)) = some (Sum.inr (pc', f')) := by
    unfold zbin at hx
    dsimp only at hx
    split at hx
    · rename_i y x t
      exact ⟨y, x, t, rfl, hx⟩

    · cases hx
  cases hx
  exact lv_imul Γ.1 Γ.2.1 hd (kk H locs ls ⟨hH.1, hH.2.1, hH.2.2.1, (hH.2.2.2).d.d.p trivial⟩)
theorem zs_iand (Γ : zGa p s m args c cc nL own G A) (hd : decode cc pc = .ok (.iand, 1)) : zNx p l e R s m args below meth c cells slots G A nL pc (zbin (fun x y => x &&& y)) := by
  intro f pc' f' hx H locs ls Q hH kk
  obtain ⟨L, st, M⟩ := f
  obtain ⟨y, x, t, rfl, hx⟩ : ∃ y x t, st = (.inl y) :: (.inl x) :: t ∧ some (Sum.inr (pc + 1, L, (zI (x &&& y)) :: t, M)) = some (Sum.inr (pc', f')) := by
    unfold zbin at hx
    dsimp only at hx
    split at hx
    · rename_i y x t
      exact ⟨y, x, t, rfl, hx⟩

    · cases hx
  cases hx
  exact lv_iand Γ.1 Γ.2.1 hd (kk H locs ls ⟨hH.1, hH.2.1, hH.2.2.1, (hH.2.2.2).d.d.p trivial⟩)
theorem zs_ior (Γ : zGa p s m args c cc nL own G A) (hd : decode cc pc = .ok (.ior, 1)) : zNx p l e R s m args below meth c cells slots G A nL pc (zbin (fun x y => x ||| y)) := by
  intro f pc' f' hx H locs ls Q hH kk
  obtain ⟨L, st, M⟩ := f
  obtain ⟨y, x, t, rfl, hx⟩ : ∃ y x t, st = (.inl y) :: (.inl x) :: t ∧ some (Sum.inr (pc + 1, L, (zI (x ||| y)) :: t, M)) = some (Sum.inr (pc', f')) := by
    unfold zbin at hx
    dsimp only at hx
    split at hx
    · rename_i y x t
      exact ⟨y, x, t, rfl, hx⟩

    · cases hx
  cases hx
  exact lv_ior Γ.1 Γ.2.1 hd (kk H locs ls ⟨hH.1, hH.2.1, hH.2.2.1, (hH.2.2.2).d.d.p trivial⟩)
theorem zs_ixor (Γ : zGa p s m args c cc nL own G A) (hd : decode cc pc = .ok (.ixor, 1)) : zNx p l e R s m args below meth c cells slots G A nL pc (zbin (fun x y => x ^^^ y)) := by
  intro f pc' f' hx H locs ls Q hH kk
  obtain ⟨L, st, M⟩ := f
  obtain ⟨y, x, t, rfl, hx⟩ : ∃ y x t, st = (.inl y) :: (.inl x) :: t ∧ some (Sum.inr (pc + 1, L, (zI (x ^^^ y)) :: t, M)) = some (Sum.inr (pc', f')) := by
    unfold zbin at hx
    dsimp only at hx
    split at hx
    · rename_i y x t
      exact ⟨y, x, t, rfl, hx⟩

    · cases hx
  cases hx
  exact lv_ixor Γ.1 Γ.2.1 hd (kk H locs ls ⟨hH.1, hH.2.1, hH.2.2.1, (hH.2.2.2).d.d.p trivial⟩)
theorem zs_ishl (Γ : zGa p s m args c cc nL own G A) (hd : decode cc pc = .ok (.ishl, 1)) : zNx p l e R s m args below meth c cells slots G A nL pc (zbin (fun x y => x <<< (y &&& 31))) := by
  intro f pc' f' hx H locs ls Q hH kk
  obtain ⟨L, st, M⟩ := f
  obtain ⟨y, x, t, rfl, hx⟩ : ∃ y x t, st = (.inl y) :: (.inl x) :: t ∧ some (Sum.inr (pc + 1, L, (zI (x <<< (y &&& 31))) :: t, M)) = some (Sum.inr (pc', f')) := by
    unfold zbin at hx
    dsimp only at hx
    split at hx
    · rename_i y x t
      exact ⟨y, x, t, rfl, hx⟩

    · cases hx
  cases hx
  exact lv_ishl Γ.1 Γ.2.1 hd (kk H locs ls ⟨hH.1, hH.2.1, hH.2.2.1, (hH.2.2.2).d.d.p trivial⟩)
theorem zs_ishr (Γ : zGa p s m args c cc nL own G A) (hd : decode cc pc = .ok (.ishr, 1)) : zNx p l e R s m args below meth c cells slots G A nL pc (zbin (fun x y => x >>> (y &&& 31))) := by
  intro f pc' f' hx H locs ls Q hH kk
  obtain ⟨L, st, M⟩ := f
  obtain ⟨y, x, t, rfl, hx⟩ : ∃ y x t, st = (.inl y) :: (.inl x) :: t ∧ some (Sum.inr (pc + 1, L, (zI (x >>> (y &&& 31))) :: t, M)) = some (Sum.inr (pc', f')) := by
    unfold zbin at hx
    dsimp only at hx
    split at hx
    · rename_i y x t
      exact ⟨y, x, t, rfl, hx⟩

    · cases hx
  cases hx
  exact lv_ishr Γ.1 Γ.2.1 hd (kk H locs ls ⟨hH.1, hH.2.1, hH.2.2.1, (hH.2.2.2).d.d.p trivial⟩)
theorem zs_iushr (Γ : zGa p s m args c cc nL own G A) (hd : decode cc pc = .ok (.iushr, 1)) : zNx p l e R s m args below meth c cells slots G A nL pc (zbin (fun x y => (x.toUInt32 >>> (y.toUInt32 &&& Int32.toUInt32 31)).toInt32)) := by
  intro f pc' f' hx H locs ls Q hH kk
  obtain ⟨L, st, M⟩ := f
  obtain ⟨y, x, t, rfl, hx⟩ : ∃ y x t, st = (.inl y) :: (.inl x) :: t ∧ some (Sum.inr (pc + 1, L, (zI ((x.toUInt32 >>> (y.toUInt32 &&& Int32.toUInt32 31)).toInt32)) :: t, M)) = some (Sum.inr (pc', f')) := by
    unfold zbin at hx
    dsimp only at hx
    split at hx
    · rename_i y x t
      exact ⟨y, x, t, rfl, hx⟩

    · cases hx
  cases hx
  exact lv_iushr Γ.1 Γ.2.1 hd rfl (kk H locs ls ⟨hH.1, hH.2.1, hH.2.2.1, (hH.2.2.2).d.d.p trivial⟩)
theorem zs_idiv (Γ : zGa p s m args c cc nL own G A) (hd : decode cc pc = .ok (.idiv, 1)) : zNx p l e R s m args below meth c cells slots G A nL pc (zdiv (fun x y => x / y)) := by
  intro f pc' f' hx H locs ls Q hH kk
  obtain ⟨L, st, M⟩ := f
  obtain ⟨y, x, t, rfl, hne, hx⟩ : ∃ y x t, st = (.inl y) :: (.inl x) :: t ∧ ¬ y = 0 ∧ some (Sum.inr (pc + 1, L, (zI (x / y)) :: t, M)) = some (Sum.inr (pc', f')) := by
    unfold zdiv at hx
    dsimp only at hx
    split at hx
    · rename_i y x t
      dsimp only at hx
      by_cases hne : y = 0
      · rw [if_pos hne] at hx; cases hx
      · rw [if_neg hne] at hx; exact ⟨y, x, t, rfl, hne, hx⟩
    · cases hx
  cases hx
  exact lv_idiv Γ.1 Γ.2.1 hd hne (kk H locs ls ⟨hH.1, hH.2.1, hH.2.2.1, (hH.2.2.2).d.d.p trivial⟩)
theorem zs_irem (Γ : zGa p s m args c cc nL own G A) (hd : decode cc pc = .ok (.irem, 1)) : zNx p l e R s m args below meth c cells slots G A nL pc (zdiv (fun x y => x - x / y * y)) := by
  intro f pc' f' hx H locs ls Q hH kk
  obtain ⟨L, st, M⟩ := f
  obtain ⟨y, x, t, rfl, hne, hx⟩ : ∃ y x t, st = (.inl y) :: (.inl x) :: t ∧ ¬ y = 0 ∧ some (Sum.inr (pc + 1, L, (zI (x - x / y * y)) :: t, M)) = some (Sum.inr (pc', f')) := by
    unfold zdiv at hx
    dsimp only at hx
    split at hx
    · rename_i y x t
      dsimp only at hx
      by_cases hne : y = 0
      · rw [if_pos hne] at hx; cases hx
      · rw [if_neg hne] at hx; exact ⟨y, x, t, rfl, hne, hx⟩
    · cases hx
  cases hx
  exact lv_irem Γ.1 Γ.2.1 hd hne (kk H locs ls ⟨hH.1, hH.2.1, hH.2.2.1, (hH.2.2.2).d.d.p trivial⟩)
theorem zs_ladd (Γ : zGa p s m args c cc nL own G A) (hd : decode cc pc = .ok (.ladd, 1)) : zNx p l e R s m args below meth c cells slots G A nL pc (zlbin (fun x y => x + y)) := by
  intro f pc' f' hx H locs ls Q hH kk
  obtain ⟨L, st, M⟩ := f
  obtain ⟨y, x, t, rfl, hx⟩ : ∃ y x t, st = (.inr (.inl y)) :: (.inr (.inl x)) :: t ∧ some (Sum.inr (pc + 1, L, (zJ (x + y)) :: t, M)) = some (Sum.inr (pc', f')) := by
    unfold zlbin at hx
    dsimp only at hx
    split at hx
    · rename_i y x t
      exact ⟨y, x, t, rfl, hx⟩

    · cases hx
  cases hx
  exact lv_ladd Γ.1 Γ.2.1 hd (kk H locs ls ⟨hH.1, hH.2.1, hH.2.2.1, (hH.2.2.2).d.d.p trivial⟩)
theorem zs_lsub (Γ : zGa p s m args c cc nL own G A) (hd : decode cc pc = .ok (.lsub, 1)) : zNx p l e R s m args below meth c cells slots G A nL pc (zlbin (fun x y => x - y)) := by
  intro f pc' f' hx H locs ls Q hH kk
  obtain ⟨L, st, M⟩ := f
  obtain ⟨y, x, t, rfl, hx⟩ : ∃ y x t, st = (.inr (.inl y)) :: (.inr (.inl x)) :: t ∧ some (Sum.inr (pc + 1, L, (zJ (x - y)) :: t, M)) = some (Sum.inr (pc', f')) := by
    unfold zlbin at hx
    dsimp only at hx
    split at hx
    · rename_i y x t
      exact ⟨y, x, t, rfl, hx⟩

    · cases hx
  cases hx
  exact lv_lsub Γ.1 Γ.2.1 hd (kk H locs ls ⟨hH.1, hH.2.1, hH.2.2.1, (hH.2.2.2).d.d.p trivial⟩)
theorem zs_land (Γ : zGa p s m args c cc nL own G A) (hd : decode cc pc = .ok (.land, 1)) : zNx p l e R s m args below meth c cells slots G A nL pc (zlbin (fun x y => x &&& y)) := by
  intro f pc' f' hx H locs ls Q hH kk
  obtain ⟨L, st, M⟩ := f
  obtain ⟨y, x, t, rfl, hx⟩ : ∃ y x t, st = (.inr (.inl y)) :: (.inr (.inl x)) :: t ∧ some (Sum.inr (pc + 1, L, (zJ (x &&& y)) :: t, M)) = some (Sum.inr (pc', f')) := by
    unfold zlbin at hx
    dsimp only at hx
    split at hx
    · rename_i y x t
      exact ⟨y, x, t, rfl, hx⟩

    · cases hx
  cases hx
  exact lv_land Γ.1 Γ.2.1 hd (kk H locs ls ⟨hH.1, hH.2.1, hH.2.2.1, (hH.2.2.2).d.d.p trivial⟩)
theorem zs_lor (Γ : zGa p s m args c cc nL own G A) (hd : decode cc pc = .ok (.lor, 1)) : zNx p l e R s m args below meth c cells slots G A nL pc (zlbin (fun x y => x ||| y)) := by
  intro f pc' f' hx H locs ls Q hH kk
  obtain ⟨L, st, M⟩ := f
  obtain ⟨y, x, t, rfl, hx⟩ : ∃ y x t, st = (.inr (.inl y)) :: (.inr (.inl x)) :: t ∧ some (Sum.inr (pc + 1, L, (zJ (x ||| y)) :: t, M)) = some (Sum.inr (pc', f')) := by
    unfold zlbin at hx
    dsimp only at hx
    split at hx
    · rename_i y x t
      exact ⟨y, x, t, rfl, hx⟩

    · cases hx
  cases hx
  exact lv_lor Γ.1 Γ.2.1 hd (kk H locs ls ⟨hH.1, hH.2.1, hH.2.2.1, (hH.2.2.2).d.d.p trivial⟩)
theorem zs_lxor (Γ : zGa p s m args c cc nL own G A) (hd : decode cc pc = .ok (.lxor, 1)) : zNx p l e R s m args below meth c cells slots G A nL pc (zlbin (fun x y => x ^^^ y)) := by
  intro f pc' f' hx H locs ls Q hH kk
  obtain ⟨L, st, M⟩ := f
  obtain ⟨y, x, t, rfl, hx⟩ : ∃ y x t, st = (.inr (.inl y)) :: (.inr (.inl x)) :: t ∧ some (Sum.inr (pc + 1, L, (zJ (x ^^^ y)) :: t, M)) = some (Sum.inr (pc', f')) := by
    unfold zlbin at hx
    dsimp only at hx
    split at hx
    · rename_i y x t
      exact ⟨y, x, t, rfl, hx⟩

    · cases hx
  cases hx
  exact lv_lxor Γ.1 Γ.2.1 hd (kk H locs ls ⟨hH.1, hH.2.1, hH.2.2.1, (hH.2.2.2).d.d.p trivial⟩)
theorem zs_lushr (Γ : zGa p s m args c cc nL own G A) (hd : decode cc pc = .ok (.lushr, 1)) : zNx p l e R s m args below meth c cells slots G A nL pc (zlsh (fun x y => (x.toUInt64 >>> (y.toInt64.toUInt64 &&& Int64.toUInt64 63)).toInt64)) := by
  intro f pc' f' hx H locs ls Q hH kk
  obtain ⟨L, st, M⟩ := f
  obtain ⟨y, x, t, rfl, hx⟩ : ∃ y x t, st = (.inl y) :: (.inr (.inl x)) :: t ∧ some (Sum.inr (pc + 1, L, (zJ ((x.toUInt64 >>> (y.toInt64.toUInt64 &&& Int64.toUInt64 63)).toInt64)) :: t, M)) = some (Sum.inr (pc', f')) := by
    unfold zlsh at hx
    dsimp only at hx
    split at hx
    · rename_i y x t
      exact ⟨y, x, t, rfl, hx⟩

    · cases hx
  cases hx
  exact lv_lushr Γ.1 Γ.2.1 hd rfl (kk H locs ls ⟨hH.1, hH.2.1, hH.2.2.1, (hH.2.2.2).d.d.p trivial⟩)
theorem zs_lshr (Γ : zGa p s m args c cc nL own G A) (hd : decode cc pc = .ok (.lshr, 1)) : zNx p l e R s m args below meth c cells slots G A nL pc (zlsh (fun x y => x >>> (y.toInt64 &&& 63))) := by
  intro f pc' f' hx H locs ls Q hH kk
  obtain ⟨L, st, M⟩ := f
  obtain ⟨y, x, t, rfl, hx⟩ : ∃ y x t, st = (.inl y) :: (.inr (.inl x)) :: t ∧ some (Sum.inr (pc + 1, L, (zJ (x >>> (y.toInt64 &&& 63))) :: t, M)) = some (Sum.inr (pc', f')) := by
    unfold zlsh at hx
    dsimp only at hx
    split at hx
    · rename_i y x t
      exact ⟨y, x, t, rfl, hx⟩

    · cases hx
  cases hx
  exact lv_lshr Γ.1 Γ.2.1 hd rfl (kk H locs ls ⟨hH.1, hH.2.1, hH.2.2.1, (hH.2.2.2).d.d.p trivial⟩)
theorem zs_ineg (Γ : zGa p s m args c cc nL own G A) (hd : decode cc pc = .ok (.ineg, 1)) : zNx p l e R s m args below meth c cells slots G A nL pc (zun (fun x => -x)) := by
  intro f pc' f' hx H locs ls Q hH kk
  obtain ⟨L, st, M⟩ := f
  obtain ⟨x, t, rfl, hx⟩ : ∃ x t, st = (.inl x) :: t ∧ some (Sum.inr (pc + 1, L, (zI (-x)) :: t, M)) = some (Sum.inr (pc', f')) := by
    unfold zun at hx
    dsimp only at hx
    split at hx
    · rename_i x t
      exact ⟨x, t, rfl, hx⟩
    · cases hx
  cases hx
  exact lv_ineg Γ.1 Γ.2.1 hd (kk H locs ls ⟨hH.1, hH.2.1, hH.2.2.1, (hH.2.2.2).d.p trivial⟩)
theorem zs_lshl (Γ : zGa p s m args c cc nL own G A) (hd : decode cc pc = .ok (.lshl, 1)) : zNx p l e R s m args below meth c cells slots G A nL pc (zlsh (fun x y => x <<< (y.toInt64 &&& 63))) := by
  intro f pc' f' hx H locs ls Q hH kk
  obtain ⟨L, st, M⟩ := f
  obtain ⟨y, x, t, rfl, hx⟩ : ∃ y x t, st = (.inl y) :: (.inr (.inl x)) :: t ∧ some (Sum.inr (pc + 1, L, (zJ (x <<< (y.toInt64 &&& 63))) :: t, M)) = some (Sum.inr (pc', f')) := by
    unfold zlsh at hx
    dsimp only at hx
    split at hx
    · rename_i y x t
      exact ⟨y, x, t, rfl, hx⟩

    · cases hx
  cases hx
  exact lv_lshl Γ.1 Γ.2.1 hd rfl (kk H locs ls ⟨hH.1, hH.2.1, hH.2.2.1, (hH.2.2.2).d.d.p trivial⟩)
theorem zs_i2l (Γ : zGa p s m args c cc nL own G A) (hd : decode cc pc = .ok (.i2l, 1)) : zNx p l e R s m args below meth c cells slots G A nL pc (zi2l) := by
  intro f pc' f' hx H locs ls Q hH kk
  obtain ⟨L, st, M⟩ := f
  obtain ⟨x, t, rfl, hx⟩ : ∃ x t, st = (.inl x) :: t ∧ some (Sum.inr (pc + 1, L, (zJ x.toInt64) :: t, M)) = some (Sum.inr (pc', f')) := by
    unfold zi2l at hx
    dsimp only at hx
    split at hx
    · rename_i x t
      exact ⟨x, t, rfl, hx⟩

    · cases hx
  cases hx
  exact lv_i2l Γ.1 Γ.2.1 hd rfl (kk H locs ls ⟨hH.1, hH.2.1, hH.2.2.1, (hH.2.2.2).d.p trivial⟩)
theorem zs_l2i (Γ : zGa p s m args c cc nL own G A) (hd : decode cc pc = .ok (.l2i, 1)) : zNx p l e R s m args below meth c cells slots G A nL pc (zl2i) := by
  intro f pc' f' hx H locs ls Q hH kk
  obtain ⟨L, st, M⟩ := f
  obtain ⟨x, t, rfl, hx⟩ : ∃ x t, st = (.inr (.inl x)) :: t ∧ some (Sum.inr (pc + 1, L, (zI x.toInt32) :: t, M)) = some (Sum.inr (pc', f')) := by
    unfold zl2i at hx
    dsimp only at hx
    split at hx
    · rename_i x t
      exact ⟨x, t, rfl, hx⟩

    · cases hx
  cases hx
  exact lv_l2i Γ.1 Γ.2.1 hd rfl (kk H locs ls ⟨hH.1, hH.2.1, hH.2.2.1, (hH.2.2.2).d.p trivial⟩)
theorem zs_i2c (Γ : zGa p s m args c cc nL own G A) (hd : decode cc pc = .ok (.i2c, 1)) : zNx p l e R s m args below meth c cells slots G A nL pc (zi2c) := by
  intro f pc' f' hx H locs ls Q hH kk
  obtain ⟨L, st, M⟩ := f
  obtain ⟨x, t, rfl, hx⟩ : ∃ x t, st = (.inl x) :: t ∧ some (Sum.inr (pc + 1, L, (zI (x.toUInt32 % 65536).toInt32) :: t, M)) = some (Sum.inr (pc', f')) := by
    unfold zi2c at hx
    dsimp only at hx
    split at hx
    · rename_i x t
      exact ⟨x, t, rfl, hx⟩

    · cases hx
  cases hx
  exact lv_i2c Γ.1 Γ.2.1 hd rfl (kk H locs ls ⟨hH.1, hH.2.1, hH.2.2.1, (hH.2.2.2).d.p trivial⟩)
theorem zs_lcmp (Γ : zGa p s m args c cc nL own G A) (hd : decode cc pc = .ok (.lcmp, 1)) : zNx p l e R s m args below meth c cells slots G A nL pc (zlcmp) := by
  intro f pc' f' hx H locs ls Q hH kk
  obtain ⟨L, st, M⟩ := f
  obtain ⟨y, x, t, rfl, hx⟩ : ∃ y x t, st = (.inr (.inl y)) :: (.inr (.inl x)) :: t ∧ some (Sum.inr (pc + 1, L, (zI (lg_cmp x y)) :: t, M)) = some (Sum.inr (pc', f')) := by
    unfold zlcmp at hx
    dsimp only at hx
    split at hx
    · rename_i y x t
      exact ⟨y, x, t, rfl, hx⟩

    · cases hx
  cases hx
  exact W.lcmp Γ.1 Γ.2.1 hd (kk H locs ls ⟨hH.1, hH.2.1, hH.2.2.1, (hH.2.2.2).d.d.p trivial⟩)
theorem zs_dup (Γ : zGa p s m args c cc nL own G A) (hd : decode cc pc = .ok (.dup, 1)) : zNx p l e R s m args below meth c cells slots G A nL pc (zdup) := by
  intro f pc' f' hx H locs ls Q hH kk
  obtain ⟨L, st, M⟩ := f
  obtain ⟨v, t, rfl, hv, hx⟩ : ∃ v t, st = v :: t ∧ zcat v = 1 ∧ some (Sum.inr (pc + 1, L, v :: v :: t, M)) = some (Sum.inr (pc', f')) := by
    unfold zdup at hx
    dsimp only at hx
    split at hx
    · rename_i v t
      dsimp only at hx
      split at hx
      · rename_i hb; exact ⟨v, t, rfl, Nat.eq_of_beq_eq_true hb, hx⟩
      · cases hx
    · cases hx
  cases hx
  exact lv_dup Γ.1 Γ.2.1 hd (by rw [zc_cat]; exact hv) (kk H locs ls ⟨hH.1, hH.2.1, hH.2.2.1, (hH.2.2.2).p hH.2.2.2.t⟩)
theorem zs_pop (Γ : zGa p s m args c cc nL own G A) (hd : decode cc pc = .ok (.pop, 1)) : zNx p l e R s m args below meth c cells slots G A nL pc (zpop) := by
  intro f pc' f' hx H locs ls Q hH kk
  obtain ⟨L, st, M⟩ := f
  obtain ⟨v, t, rfl, hv, hx⟩ : ∃ v t, st = v :: t ∧ zcat v = 1 ∧ some (Sum.inr (pc + 1, L, t, M)) = some (Sum.inr (pc', f')) := by
    unfold zpop at hx
    dsimp only at hx
    split at hx
    · rename_i v t
      dsimp only at hx
      split at hx
      · rename_i hb; exact ⟨v, t, rfl, Nat.eq_of_beq_eq_true hb, hx⟩
      · cases hx
    · cases hx
  cases hx
  exact lv_pop Γ.1 Γ.2.1 hd (by rw [zc_cat]; exact hv) (kk H locs ls ⟨hH.1, hH.2.1, hH.2.2.1, (hH.2.2.2).d⟩)
theorem zs_dup2 (Γ : zGa p s m args c cc nL own G A) (hd : decode cc pc = .ok (.dup2, 1)) : zNx p l e R s m args below meth c cells slots G A nL pc (zdup2) := by
  intro f pc' f' hx H locs ls Q hH kk
  obtain ⟨L, st, M⟩ := f
  obtain ⟨v, u, t, rfl, hv, hu, hx⟩ : ∃ v u t, st = v :: u :: t ∧ zcat v = 1 ∧ zcat u = 1 ∧ some (Sum.inr (pc + 1, L, v :: u :: v :: u :: t, M)) = some (Sum.inr (pc', f')) := by
    unfold zdup2 at hx
    dsimp only at hx
    split at hx
    · rename_i v u t
      dsimp only at hx
      split at hx
      · rename_i hb
        split at hx
        · rename_i hc; exact ⟨v, u, t, rfl, Nat.eq_of_beq_eq_true hb, Nat.eq_of_beq_eq_true hc, hx⟩
        · cases hx
      · cases hx
    · cases hx
  cases hx
  exact lv_dup2_11 Γ.1 Γ.2.1 hd (by rw [zc_cat]; exact hv) (by rw [zc_cat]; exact hu) (kk H locs ls ⟨hH.1, hH.2.1, hH.2.2.1, ((hH.2.2.2).p hH.2.2.2.d.t).p hH.2.2.2.t⟩)
theorem zs_goto (Γ : zGa p s m args c cc nL own G A) {off : Int} {tgt : Nat} (hd : decode cc pc = .ok (.goto off, 3)) (ht : (pc : Int) + off = (tgt : Int)) : zNx p l e R s m args below meth c cells slots G A nL pc (zgoto tgt) := by
  intro f pc' f' hx H locs ls Q hH kk
  obtain ⟨L, st, M⟩ := f
  cases hx
  exact lv_goto Γ.1 Γ.2.1 hd ht (kk H locs ls hH)
theorem zs_ifeq (Γ : zGa p s m args c cc nL own G A) {off : Int} {tgt : Nat} (hd : decode cc pc = .ok (.ifCond .eq off, 3)) (ht : (pc : Int) + off = (tgt : Int)) : zNx p l e R s m args below meth c cells slots G A nL pc (zifeq tgt) := by
  intro f pc' f' hx H locs ls Q hH kk
  obtain ⟨L, st, M⟩ := f
  obtain ⟨x, t, rfl, hx⟩ : ∃ x t, st = (.inl x) :: t ∧ some (Sum.inr (if x = 0 then tgt else pc + 3, L, t, M)) = some (Sum.inr (pc', f')) := by
    unfold zifeq at hx
    dsimp only at hx
    split at hx
    · rename_i x t; exact ⟨x, t, rfl, hx⟩
    · cases hx
  cases hx
  have hok := (hH.2.2.2).d
  refine lv_if_eq Γ.1 Γ.2.1 hd ht (fun h => ?_) (fun h => ?_)
  · have k2 := kk H locs ls ⟨hH.1, hH.2.1, hH.2.2.1, hok⟩
    rw [if_pos h] at k2
    exact k2
  · have k2 := kk H locs ls ⟨hH.1, hH.2.1, hH.2.2.1, hok⟩
    rw [if_neg h] at k2
    exact k2
theorem zs_ifne (Γ : zGa p s m args c cc nL own G A) {off : Int} {tgt : Nat} (hd : decode cc pc = .ok (.ifCond .ne off, 3)) (ht : (pc : Int) + off = (tgt : Int)) : zNx p l e R s m args below meth c cells slots G A nL pc (zifne tgt) := by
  intro f pc' f' hx H locs ls Q hH kk
  obtain ⟨L, st, M⟩ := f
  obtain ⟨x, t, rfl, hx⟩ : ∃ x t, st = (.inl x) :: t ∧ some (Sum.inr (if x = 0 then pc + 3 else tgt, L, t, M)) = some (Sum.inr (pc', f')) := by
    unfold zifne at hx
    dsimp only at hx
    split at hx
    · rename_i x t; exact ⟨x, t, rfl, hx⟩
    · cases hx
  cases hx
  have hok := (hH.2.2.2).d
  refine lv_if_ne Γ.1 Γ.2.1 hd ht (fun h => ?_) (fun h => ?_)
  · have k2 := kk H locs ls ⟨hH.1, hH.2.1, hH.2.2.1, hok⟩
    rw [if_neg h] at k2
    exact k2
  · have k2 := kk H locs ls ⟨hH.1, hH.2.1, hH.2.2.1, hok⟩
    rw [if_pos h] at k2
    exact k2
theorem zs_iflt (Γ : zGa p s m args c cc nL own G A) {off : Int} {tgt : Nat} (hd : decode cc pc = .ok (.ifCond .lt off, 3)) (ht : (pc : Int) + off = (tgt : Int)) : zNx p l e R s m args below meth c cells slots G A nL pc (ziflt tgt) := by
  intro f pc' f' hx H locs ls Q hH kk
  obtain ⟨L, st, M⟩ := f
  obtain ⟨x, t, rfl, hx⟩ : ∃ x t, st = (.inl x) :: t ∧ some (Sum.inr (if x < 0 then tgt else pc + 3, L, t, M)) = some (Sum.inr (pc', f')) := by
    unfold ziflt at hx
    dsimp only at hx
    split at hx
    · rename_i x t; exact ⟨x, t, rfl, hx⟩
    · cases hx
  cases hx
  have hok := (hH.2.2.2).d
  refine lv_if_lt Γ.1 Γ.2.1 hd ht (fun h => ?_) (fun h => ?_)
  · have k2 := kk H locs ls ⟨hH.1, hH.2.1, hH.2.2.1, hok⟩
    rw [if_pos h] at k2
    exact k2
  · have k2 := kk H locs ls ⟨hH.1, hH.2.1, hH.2.2.1, hok⟩
    rw [if_neg h] at k2
    exact k2
theorem zs_ifge (Γ : zGa p s m args c cc nL own G A) {off : Int} {tgt : Nat} (hd : decode cc pc = .ok (.ifCond .ge off, 3)) (ht : (pc : Int) + off = (tgt : Int)) : zNx p l e R s m args below meth c cells slots G A nL pc (zifge tgt) := by
  intro f pc' f' hx H locs ls Q hH kk
  obtain ⟨L, st, M⟩ := f
  obtain ⟨x, t, rfl, hx⟩ : ∃ x t, st = (.inl x) :: t ∧ some (Sum.inr (if 0 ≤ x then tgt else pc + 3, L, t, M)) = some (Sum.inr (pc', f')) := by
    unfold zifge at hx
    dsimp only at hx
    split at hx
    · rename_i x t; exact ⟨x, t, rfl, hx⟩
    · cases hx
  cases hx
  have hok := (hH.2.2.2).d
  refine lv_if_ge Γ.1 Γ.2.1 hd ht (fun h => ?_) (fun h => ?_)
  · have k2 := kk H locs ls ⟨hH.1, hH.2.1, hH.2.2.1, hok⟩
    rw [if_pos h] at k2
    exact k2
  · have k2 := kk H locs ls ⟨hH.1, hH.2.1, hH.2.2.1, hok⟩
    rw [if_neg h] at k2
    exact k2
theorem zs_ifgt (Γ : zGa p s m args c cc nL own G A) {off : Int} {tgt : Nat} (hd : decode cc pc = .ok (.ifCond .gt off, 3)) (ht : (pc : Int) + off = (tgt : Int)) : zNx p l e R s m args below meth c cells slots G A nL pc (zifgt tgt) := by
  intro f pc' f' hx H locs ls Q hH kk
  obtain ⟨L, st, M⟩ := f
  obtain ⟨x, t, rfl, hx⟩ : ∃ x t, st = (.inl x) :: t ∧ some (Sum.inr (if 0 < x then tgt else pc + 3, L, t, M)) = some (Sum.inr (pc', f')) := by
    unfold zifgt at hx
    dsimp only at hx
    split at hx
    · rename_i x t; exact ⟨x, t, rfl, hx⟩
    · cases hx
  cases hx
  have hok := (hH.2.2.2).d
  refine lv_if_gt Γ.1 Γ.2.1 hd ht (fun h => ?_) (fun h => ?_)
  · have k2 := kk H locs ls ⟨hH.1, hH.2.1, hH.2.2.1, hok⟩
    rw [if_pos h] at k2
    exact k2
  · have k2 := kk H locs ls ⟨hH.1, hH.2.1, hH.2.2.1, hok⟩
    rw [if_neg h] at k2
    exact k2
theorem zs_ifle (Γ : zGa p s m args c cc nL own G A) {off : Int} {tgt : Nat} (hd : decode cc pc = .ok (.ifCond .le off, 3)) (ht : (pc : Int) + off = (tgt : Int)) : zNx p l e R s m args below meth c cells slots G A nL pc (zifle tgt) := by
  intro f pc' f' hx H locs ls Q hH kk
  obtain ⟨L, st, M⟩ := f
  obtain ⟨x, t, rfl, hx⟩ : ∃ x t, st = (.inl x) :: t ∧ some (Sum.inr (if x ≤ 0 then tgt else pc + 3, L, t, M)) = some (Sum.inr (pc', f')) := by
    unfold zifle at hx
    dsimp only at hx
    split at hx
    · rename_i x t; exact ⟨x, t, rfl, hx⟩
    · cases hx
  cases hx
  have hok := (hH.2.2.2).d
  refine lv_if_le Γ.1 Γ.2.1 hd ht (fun h => ?_) (fun h => ?_)
  · have k2 := kk H locs ls ⟨hH.1, hH.2.1, hH.2.2.1, hok⟩
    rw [if_pos h] at k2
    exact k2
  · have k2 := kk H locs ls ⟨hH.1, hH.2.1, hH.2.2.1, hok⟩
    rw [if_neg h] at k2
    exact k2
theorem zs_ceq (Γ : zGa p s m args c cc nL own G A) {off : Int} {tgt : Nat} (hd : decode cc pc = .ok (.if_icmp .eq off, 3)) (ht : (pc : Int) + off = (tgt : Int)) : zNx p l e R s m args below meth c cells slots G A nL pc (zceq tgt) := by
  intro f pc' f' hx H locs ls Q hH kk
  obtain ⟨L, st, M⟩ := f
  obtain ⟨y, x, t, rfl, hx⟩ : ∃ y x t, st = (.inl y) :: (.inl x) :: t ∧ some (Sum.inr (if x = y then tgt else pc + 3, L, t, M)) = some (Sum.inr (pc', f')) := by
    unfold zceq at hx
    dsimp only at hx
    split at hx
    · rename_i y x t; exact ⟨y, x, t, rfl, hx⟩
    · cases hx
  cases hx
  have hok := (hH.2.2.2).d.d
  refine lv_icmp_eq Γ.1 Γ.2.1 hd ht (fun h => ?_) (fun h => ?_)
  · have k2 := kk H locs ls ⟨hH.1, hH.2.1, hH.2.2.1, hok⟩
    rw [if_pos h] at k2
    exact k2
  · have k2 := kk H locs ls ⟨hH.1, hH.2.1, hH.2.2.1, hok⟩
    rw [if_neg h] at k2
    exact k2
theorem zs_cne (Γ : zGa p s m args c cc nL own G A) {off : Int} {tgt : Nat} (hd : decode cc pc = .ok (.if_icmp .ne off, 3)) (ht : (pc : Int) + off = (tgt : Int)) : zNx p l e R s m args below meth c cells slots G A nL pc (zcne tgt) := by
  intro f pc' f' hx H locs ls Q hH kk
  obtain ⟨L, st, M⟩ := f
  obtain ⟨y, x, t, rfl, hx⟩ : ∃ y x t, st = (.inl y) :: (.inl x) :: t ∧ some (Sum.inr (if x = y then pc + 3 else tgt, L, t, M)) = some (Sum.inr (pc', f')) := by
    unfold zcne at hx
    dsimp only at hx
    split at hx
    · rename_i y x t; exact ⟨y, x, t, rfl, hx⟩
    · cases hx
  cases hx
  have hok := (hH.2.2.2).d.d
  refine lv_icmp_ne Γ.1 Γ.2.1 hd ht (fun h => ?_) (fun h => ?_)
  · have k2 := kk H locs ls ⟨hH.1, hH.2.1, hH.2.2.1, hok⟩
    rw [if_neg h] at k2
    exact k2
  · have k2 := kk H locs ls ⟨hH.1, hH.2.1, hH.2.2.1, hok⟩
    rw [if_pos h] at k2
    exact k2
theorem zs_clt (Γ : zGa p s m args c cc nL own G A) {off : Int} {tgt : Nat} (hd : decode cc pc = .ok (.if_icmp .lt off, 3)) (ht : (pc : Int) + off = (tgt : Int)) : zNx p l e R s m args below meth c cells slots G A nL pc (zclt tgt) := by
  intro f pc' f' hx H locs ls Q hH kk
  obtain ⟨L, st, M⟩ := f
  obtain ⟨y, x, t, rfl, hx⟩ : ∃ y x t, st = (.inl y) :: (.inl x) :: t ∧ some (Sum.inr (if x < y then tgt else pc + 3, L, t, M)) = some (Sum.inr (pc', f')) := by
    unfold zclt at hx
    dsimp only at hx
    split at hx
    · rename_i y x t; exact ⟨y, x, t, rfl, hx⟩
    · cases hx
  cases hx
  have hok := (hH.2.2.2).d.d
  refine lv_icmp_lt Γ.1 Γ.2.1 hd ht (fun h => ?_) (fun h => ?_)
  · have k2 := kk H locs ls ⟨hH.1, hH.2.1, hH.2.2.1, hok⟩
    rw [if_pos h] at k2
    exact k2
  · have k2 := kk H locs ls ⟨hH.1, hH.2.1, hH.2.2.1, hok⟩
    rw [if_neg h] at k2
    exact k2
theorem zs_cge (Γ : zGa p s m args c cc nL own G A) {off : Int} {tgt : Nat} (hd : decode cc pc = .ok (.if_icmp .ge off, 3)) (ht : (pc : Int) + off = (tgt : Int)) : zNx p l e R s m args below meth c cells slots G A nL pc (zcge tgt) := by
  intro f pc' f' hx H locs ls Q hH kk
  obtain ⟨L, st, M⟩ := f
  obtain ⟨y, x, t, rfl, hx⟩ : ∃ y x t, st = (.inl y) :: (.inl x) :: t ∧ some (Sum.inr (if y ≤ x then tgt else pc + 3, L, t, M)) = some (Sum.inr (pc', f')) := by
    unfold zcge at hx
    dsimp only at hx
    split at hx
    · rename_i y x t; exact ⟨y, x, t, rfl, hx⟩
    · cases hx
  cases hx
  have hok := (hH.2.2.2).d.d
  refine lv_icmp_ge Γ.1 Γ.2.1 hd ht (fun h => ?_) (fun h => ?_)
  · have k2 := kk H locs ls ⟨hH.1, hH.2.1, hH.2.2.1, hok⟩
    rw [if_pos h] at k2
    exact k2
  · have k2 := kk H locs ls ⟨hH.1, hH.2.1, hH.2.2.1, hok⟩
    rw [if_neg h] at k2
    exact k2
theorem zs_cgt (Γ : zGa p s m args c cc nL own G A) {off : Int} {tgt : Nat} (hd : decode cc pc = .ok (.if_icmp .gt off, 3)) (ht : (pc : Int) + off = (tgt : Int)) : zNx p l e R s m args below meth c cells slots G A nL pc (zcgt tgt) := by
  intro f pc' f' hx H locs ls Q hH kk
  obtain ⟨L, st, M⟩ := f
  obtain ⟨y, x, t, rfl, hx⟩ : ∃ y x t, st = (.inl y) :: (.inl x) :: t ∧ some (Sum.inr (if y < x then tgt else pc + 3, L, t, M)) = some (Sum.inr (pc', f')) := by
    unfold zcgt at hx
    dsimp only at hx
    split at hx
    · rename_i y x t; exact ⟨y, x, t, rfl, hx⟩
    · cases hx
  cases hx
  have hok := (hH.2.2.2).d.d
  refine lv_icmp_gt Γ.1 Γ.2.1 hd ht (fun h => ?_) (fun h => ?_)
  · have k2 := kk H locs ls ⟨hH.1, hH.2.1, hH.2.2.1, hok⟩
    rw [if_pos h] at k2
    exact k2
  · have k2 := kk H locs ls ⟨hH.1, hH.2.1, hH.2.2.1, hok⟩
    rw [if_neg h] at k2
    exact k2
theorem zs_cle (Γ : zGa p s m args c cc nL own G A) {off : Int} {tgt : Nat} (hd : decode cc pc = .ok (.if_icmp .le off, 3)) (ht : (pc : Int) + off = (tgt : Int)) : zNx p l e R s m args below meth c cells slots G A nL pc (zcle tgt) := by
  intro f pc' f' hx H locs ls Q hH kk
  obtain ⟨L, st, M⟩ := f
  obtain ⟨y, x, t, rfl, hx⟩ : ∃ y x t, st = (.inl y) :: (.inl x) :: t ∧ some (Sum.inr (if x ≤ y then tgt else pc + 3, L, t, M)) = some (Sum.inr (pc', f')) := by
    unfold zcle at hx
    dsimp only at hx
    split at hx
    · rename_i y x t; exact ⟨y, x, t, rfl, hx⟩
    · cases hx
  cases hx
  have hok := (hH.2.2.2).d.d
  refine lv_icmp_le Γ.1 Γ.2.1 hd ht (fun h => ?_) (fun h => ?_)
  · have k2 := kk H locs ls ⟨hH.1, hH.2.1, hH.2.2.1, hok⟩
    rw [if_pos h] at k2
    exact k2
  · have k2 := kk H locs ls ⟨hH.1, hH.2.1, hH.2.2.1, hok⟩
    rw [if_neg h] at k2
    exact k2
theorem zs_nullj (Γ : zGa p s m args c cc nL own G A) {off : Int} {tgt : Nat} (hd : decode cc pc = .ok (.ifnull off, 3)) (ht : (pc : Int) + off = (tgt : Int)) : zNx p l e R s m args below meth c cells slots G A nL pc (znull tgt) := by
  intro f pc' f' hx H locs ls Q hH kk
  obtain ⟨L, st, M⟩ := f
  unfold znull at hx
  dsimp only at hx
  split at hx
  · cases hx
    exact lv_ifnullN Γ.1 Γ.2.1 hd ht (kk H locs ls ⟨hH.1, hH.2.1, hH.2.2.1, (hH.2.2.2).d⟩)
  · cases hx
    exact lv_ifnull Γ.1 Γ.2.1 hd (kk H locs ls ⟨hH.1, hH.2.1, hH.2.2.1, (hH.2.2.2).d⟩)
  · cases hx
theorem zs_nonnullj (Γ : zGa p s m args c cc nL own G A) {off : Int} {tgt : Nat} (hd : decode cc pc = .ok (.ifnonnull off, 3)) (ht : (pc : Int) + off = (tgt : Int)) : zNx p l e R s m args below meth c cells slots G A nL pc (znonnull tgt) := by
  intro f pc' f' hx H locs ls Q hH kk
  obtain ⟨L, st, M⟩ := f
  unfold znonnull at hx
  dsimp only at hx
  split at hx
  · cases hx
    exact lv_ifnonnullN Γ.1 Γ.2.1 hd (kk H locs ls ⟨hH.1, hH.2.1, hH.2.2.1, (hH.2.2.2).d⟩)
  · cases hx
    exact lv_ifnonnull Γ.1 Γ.2.1 hd ht (kk H locs ls ⟨hH.1, hH.2.1, hH.2.2.1, (hH.2.2.2).d⟩)
  · cases hx
end ZS
end
section
-- ===== fields, arrays, calls, answers =====
def zPc (G : zG) (a : List zV) (M : zM) : Array Value → State → Prop := va_Pc (a.map (zc G)) (fun U => va_P G.1 vwCl (zws G M) U.heap ∧ va_D (zA G) (zws G M) ∧ va_K G.1 vwCl (ztys G) U ∧ zro G (zA G) U U.heap ∧ zmo G M ∧ (∀ v ∈ a, zvr G v) ∧ zne U)
def zQc (G : zG) (r : zQ) : Array Value → State → Outcome → State → Prop := fun _ st oc t => oc = .returned (r.1.map (zc G)) ∧ va_P G.1 vwCl (zws G r.2) t.heap ∧ zmo G r.2 ∧ (∀ v, r.1 = some v → zvr G v) ∧ va_F (zA G) st t
def zRt (p : Program) (l : Launch) (e : Env) (R : Room) (s : State) (m : MethodId) (args : Array Value) (below : List Frame) (meth : Method) (c : Code) (cells slots : Nat) (G : zG) (nL pc : Nat) (x : zX) : Prop :=
  ∀ (f : zF) (r : zQ), x pc f = some (.inl r) → ∀ (H : Heap) (locs : List Loc) (ls : Array Slot), zHo s G (zA G) nL f H locs ls → W p l e R s m args below meth c H locs cells slots (MQ below (zQc G r) args s cells slots (zA G)) (F0 m pc ls (f.2.1.map (zc G)))
def zno (x : zX) : Prop := ∀ (pc : Nat) (f : zF) (r : zQ), x pc f ≠ some (.inl r)
theorem zRt.no {p : Program} {l : Launch} {e : Env} {R : Room} {s : State} {m : MethodId} {args : Array Value} {below : List Frame} {meth : Method} {c : Code} {cells slots : Nat} {G : zG} {nL pc : Nat} {x : zX} (h : zno x) : zRt p l e R s m args below meth c cells slots G nL pc x := fun f r hx => absurd hx (h pc f r)
theorem zro.z {G : zG} {A : Nat → Prop} {s : State} {H : Heap} (hA : ∀ q, zA G q → A q) (h : zro G A s H) : zro G (zA G) s H := by
  obtain ⟨h1, h2, h3, h4, h5, h6, cf, kf, fi, f, a, cell, g1, g2, g3, g4, g5, g6, g7, g8⟩ := h
  exact ⟨h1, h2, fun q => h3 (hA _ q), h4, h5, fun q => h6 (hA _ q), cf, kf, fi, f, a, cell, g1, g2, g3, g4, g5, g6, g7, fun q => g8 (hA _ q)⟩
theorem zro.m {G : zG} {A : Nat → Prop} {s U : State} {H H' : Heap} (hvm : s.vm.Alike U.vm) (hq : ∀ q : Nat, q < H.size → ¬ A q → H'[q]? = H[q]?) (hsz : H.size ≤ H'.size) (h : zro G A s H) : zro G A U H' := by
  obtain ⟨h1, h2, h3, h4, h5, h6, h7⟩ := h
  refine ⟨(h1.kept (hq _ h2 h3)).moved hvm, by omega, h3, (h4.kept (hq _ h5 h6)).moved hvm, by omega, h6, ?_⟩
  obtain ⟨cf, kf, fi, f, a, cell, g1, g2, g3, g4, g5, g6, g7, g8⟩ := va_Z.moved hvm h7
  exact ⟨cf, kf, fi, f, a, cell, g1, g2, g3, g4, (hq a (Array.getElem?_eq_some_iff.mp g5).1 g8).trans g5, g6, g7, g8⟩
theorem zvr_in {G : zG} {c n : Nat} (h : zvr G (zR c n)) (hc : c < 40) : (c, n) ∈ zobjs (zsi G) := by
  rcases h with h | h | h
  · exact zobjs_mem.mpr h
  · cases h; omega
  · cases h; omega
theorem zpr_lt {c : Nat} (h : zpr c < 4) : c < 40 := by
  unfold zpr at h
  split at h <;> omega
theorem zce9 {G : zG} {c n : Nat} {a : Nat → Int32} {b : Nat → Int64} {r : Nat → Option Nat} (hz : zpr c = 9) : zce G c n a b r = .inr (c, zfs (zad G) a b n c) := by
  unfold zce; rw [hz]; rfl
theorem zce0 {G : zG} {c n : Nat} {a : Nat → Int32} {b : Nat → Int64} {r : Nat → Option Nat} (hz : zpr c = 0) : zce G c n a b r = .inl (G.2.2.1.1, zlt c, .inl a) := by
  unfold zce; rw [hz]; rfl
theorem zce1 {G : zG} {c n : Nat} {a : Nat → Int32} {b : Nat → Int64} {r : Nat → Option Nat} (hz : zpr c = 1) : zce G c n a b r = .inl (G.2.2.1.2.1, zlt c, .inr (.inl b)) := by
  unfold zce; rw [hz]; rfl
theorem zce2 {G : zG} {c n : Nat} {a : Nat → Int32} {b : Nat → Int64} {r : Nat → Option Nat} (hz : zpr c = 2) : zce G c n a b r = .inl (G.2.2.1.2.2.1, zlt c, .inl a) := by
  unfold zce; rw [hz]; rfl
theorem zce3 {G : zG} {c n : Nat} {a : Nat → Int32} {b : Nat → Int64} {r : Nat → Option Nat} (hz : zpr c = 3) : zce G c n a b r = .inl (G.2.2.1.2.2.2, zlt c, .inr (.inr (.inr (.inr (fun i => (r i).map (fun q => zad G 4 q)))))) := by
  unfold zce; rw [hz]; rfl
section ZS2
variable {p : Program} {l : Launch} {e : Env} {R : Room} {s : State} {m : MethodId} {args : Array Value} {below : List Frame} {meth : Method} {c : Code} {cells slots : Nat} {cc : ByteArray} {nL : Nat} {own : String} {G : zG} {A : Nat → Prop} {pc : Nat}
theorem zs_getI (Γ : zGa p s m args c cc nL own G A) {ci k idx N : Nat} {C : String} {T : u_T} (hd : decode cc pc = .ok (.getfield idx, 3)) (hc : vwCl[ci]? = some (C, T, N)) (hin : ∀ w ∈ u_ws C T N, w ∈ zTs) (hk : k < N) (hl : Cond.fieldLink own idx (T k).1 (T k).2.1 (T k).2.2.1 ∈ zTs) (hz : zpr ci = 9) (hc9 : ci < 9) (hv : ∀ (ad : Nat → Nat → Nat) (a : Nat → Int32) (b : Nat → Int64) (n : Nat), (zfs ad a b n ci)[k]? = some (.int (a k))) : zNx p l e R s m args below meth c cells slots G A nL pc (zgetI ci k) := by
  intro f pc' f' hx H locs ls Q hH kk
  obtain ⟨L, st, M⟩ := f
  obtain ⟨n, t, rfl, hx⟩ : ∃ n t, st = zR ci n :: t ∧ some (Sum.inr (pc + 3, L, zI (M.1 ci n k) :: t, M)) = some (Sum.inr (pc', f')) := by
    unfold zgetI at hx
    dsimp only at hx
    split at hx
    · rename_i c' n t
      dsimp only at hx
      cases hb : Nat.beq c' ci with
      | true => cases Nat.eq_of_beq_eq_true hb; exact ⟨n, t, rfl, by rw [hb] at hx; exact hx⟩
      | false => rw [hb] at hx; cases hx
    · cases hx
  cases hx
  obtain ⟨q0, h1, -⟩ := zws_at G M (zvr_in hH.2.2.2.t (by omega))
  have he : (zws G M)[q0]? = some (zad G ci n, .inr (ci, zfs (zad G) (M.1 ci n) (M.2.1 ci n) n ci)) := by
    rw [h1, zcell, zce9 hz]
  exact va_get (v := .int (M.1 ci n k)) Γ.1 Γ.2.1 Γ.2.2.2.2.1 hin Γ.2.2.2.1 Γ.2.2.2.2.2.1 hH.2.2.1.1 q0 he hc k hk (Γ.2.2.2.2.1 _ hl) (fun _ h9 => h9) (hv _ _ _ _) hd (kk H locs ls ⟨hH.1, hH.2.1, hH.2.2.1, (hH.2.2.2).d.p trivial⟩)
theorem zs_getJ (Γ : zGa p s m args c cc nL own G A) {ci k idx N : Nat} {C : String} {T : u_T} (hd : decode cc pc = .ok (.getfield idx, 3)) (hc : vwCl[ci]? = some (C, T, N)) (hin : ∀ w ∈ u_ws C T N, w ∈ zTs) (hk : k < N) (hl : Cond.fieldLink own idx (T k).1 (T k).2.1 (T k).2.2.1 ∈ zTs) (hz : zpr ci = 9) (hc9 : ci < 9) (hv : ∀ (ad : Nat → Nat → Nat) (a : Nat → Int32) (b : Nat → Int64) (n : Nat), (zfs ad a b n ci)[k]? = some (.long (b k))) : zNx p l e R s m args below meth c cells slots G A nL pc (zgetJ ci k) := by
  intro f pc' f' hx H locs ls Q hH kk
  obtain ⟨L, st, M⟩ := f
  obtain ⟨n, t, rfl, hx⟩ : ∃ n t, st = zR ci n :: t ∧ some (Sum.inr (pc + 3, L, zJ (M.2.1 ci n k) :: t, M)) = some (Sum.inr (pc', f')) := by
    unfold zgetJ at hx
    dsimp only at hx
    split at hx
    · rename_i c' n t
      dsimp only at hx
      cases hb : Nat.beq c' ci with
      | true => cases Nat.eq_of_beq_eq_true hb; exact ⟨n, t, rfl, by rw [hb] at hx; exact hx⟩
      | false => rw [hb] at hx; cases hx
    · cases hx
  cases hx
  obtain ⟨q0, h1, -⟩ := zws_at G M (zvr_in hH.2.2.2.t (by omega))
  have he : (zws G M)[q0]? = some (zad G ci n, .inr (ci, zfs (zad G) (M.1 ci n) (M.2.1 ci n) n ci)) := by
    rw [h1, zcell, zce9 hz]
  exact va_get (v := .long (M.2.1 ci n k)) Γ.1 Γ.2.1 Γ.2.2.2.2.1 hin Γ.2.2.2.1 Γ.2.2.2.2.2.1 hH.2.2.1.1 q0 he hc k hk (Γ.2.2.2.2.1 _ hl) (fun _ h9 => h9) (hv _ _ _ _) hd (kk H locs ls ⟨hH.1, hH.2.1, hH.2.2.1, (hH.2.2.2).d.p trivial⟩)
theorem zs_getR (Γ : zGa p s m args c cc nL own G A) {ci c2 k idx N : Nat} {g : Nat → Nat} {C : String} {T : u_T} (hd : decode cc pc = .ok (.getfield idx, 3)) (hc : vwCl[ci]? = some (C, T, N)) (hin : ∀ w ∈ u_ws C T N, w ∈ zTs) (hk : k < N) (hl : Cond.fieldLink own idx (T k).1 (T k).2.1 (T k).2.2.1 ∈ zTs) (hz : zpr ci = 9) (hc9 : ci < 9) (hv : ∀ (ad : Nat → Nat → Nat) (a : Nat → Int32) (b : Nat → Int64) (n : Nat), n < zcn (zsi G) ci → (zfs ad a b n ci)[k]? = some (.ref (ad c2 (g n)))) (hg : ∀ n, n < zcn (zsi G) ci → g n < zcn (zsi G) c2) : zNx p l e R s m args below meth c cells slots G A nL pc (zgetR ci c2 g) := by
  intro f pc' f' hx H locs ls Q hH kk
  obtain ⟨L, st, M⟩ := f
  obtain ⟨n, t, rfl, hx⟩ : ∃ n t, st = zR ci n :: t ∧ some (Sum.inr (pc + 3, L, zR c2 (g n) :: t, M)) = some (Sum.inr (pc', f')) := by
    unfold zgetR at hx
    dsimp only at hx
    split at hx
    · rename_i c' n t
      dsimp only at hx
      cases hb : Nat.beq c' ci with
      | true => cases Nat.eq_of_beq_eq_true hb; exact ⟨n, t, rfl, by rw [hb] at hx; exact hx⟩
      | false => rw [hb] at hx; cases hx
    · cases hx
  cases hx
  have hm := zvr_in hH.2.2.2.t (by omega)
  obtain ⟨q0, h1, -⟩ := zws_at G M hm
  have he : (zws G M)[q0]? = some (zad G ci n, .inr (ci, zfs (zad G) (M.1 ci n) (M.2.1 ci n) n ci)) := by
    rw [h1, zcell, zce9 hz]
  exact va_get (v := .ref (zad G c2 (g n))) Γ.1 Γ.2.1 Γ.2.2.2.2.1 hin Γ.2.2.2.1 Γ.2.2.2.2.2.1 hH.2.2.1.1 q0 he hc k hk (Γ.2.2.2.2.1 _ hl) (fun _ h9 => h9) (hv _ _ _ _ (zobjs_mem.mp hm)) hd (kk H locs ls ⟨hH.1, hH.2.1, hH.2.2.1, (hH.2.2.2).d.p (Or.inl (hg n (zobjs_mem.mp hm)))⟩)
theorem zs_putI (Γ : zGa p s m args c cc nL own G A) {ci k idx N : Nat} {C : String} {T : u_T} (ty0 : Nat → FieldType) (hd : decode cc pc = .ok (.putfield idx, 3)) (hc : vwCl[ci]? = some (C, T, N)) (hin : ∀ w ∈ u_ws C T N, w ∈ zTs) (hty : ∀ k, k < N → parseFieldDescriptor (T k).2.2.1 = some (ty0 k)) (hnm : ∀ a, a < N → ∀ b, b < N → a ≠ b → (T a).2.1 ≠ (T b).2.1) (hk : k < N) (hl : Cond.fieldLink own idx (T k).1 (T k).2.1 (T k).2.2.1 ∈ zTs) (hfin : (T k).2.2.2 = false) (hpar : parseFieldDescriptor (T k).2.2.1 = some .int) (hz : zpr ci = 9) (hc9 : ci < 9) (hvs : ∀ (ad : Nat → Nat → Nat) (a : Nat → Int32) (b : Nat → Int64) (n : Nat) (x : Int32), k < (zfs ad a b n ci).length ∧ (zfs ad a b n ci).set k (.int x) = zfs ad (upd a k x) b n ci) : zNx p l e R s m args below meth c cells slots G A nL pc (zputI ci k) := by
  intro f pc' f' hx H locs ls Q hH kk
  obtain ⟨L, st, M⟩ := f
  obtain ⟨x, n, t, rfl, hx⟩ : ∃ x n t, st = zI x :: zR ci n :: t ∧ some (Sum.inr (pc + 3, L, t, (zst M.1 ci n (upd (M.1 ci n) k x), M.2))) = some (Sum.inr (pc', f')) := by
    unfold zputI at hx
    dsimp only at hx
    split at hx
    · rename_i x c' n t
      dsimp only at hx
      cases hb : Nat.beq c' ci with
      | true => cases Nat.eq_of_beq_eq_true hb; exact ⟨x, n, t, rfl, by rw [hb] at hx; exact hx⟩
      | false => rw [hb] at hx; cases hx
    · cases hx
  cases hx
  obtain ⟨q0, h1, h2⟩ := zws_i G M (zvr_in hH.2.2.2.d.t (by omega)) (upd (M.1 ci n) k x)
  have he : (zws G M)[q0]? = some (zad G ci n, .inr (ci, zfs (zad G) (M.1 ci n) (M.2.1 ci n) n ci)) := by
    rw [h1, zcell, zce9 hz]
  have h3 : (zws G M).set q0 (zad G ci n, .inr (ci, (zfs (zad G) (M.1 ci n) (M.2.1 ci n) n ci).set k (.int x))) = zws G (zst M.1 ci n (upd (M.1 ci n) k x), M.2) := by
    rw [← h2, (hvs _ _ _ _ x).2, zce9 hz]
  refine va_put (v := .int x) (ty := .int) Γ.1 Γ.2.1 Γ.2.2.2.2.1 hin ty0 hty hnm Γ.2.2.2.1 Γ.2.2.2.2.2.1 hH.2.2.1.1 hH.2.2.1.2.1 hH.2.2.1.2.2.1 q0 he hc k hk (Γ.2.2.2.2.1 _ hl) (fun _ h9 => h9) hfin hpar rfl rfl (hvs _ _ _ _ x).1 hd (fun H1 locs1 hP hD hS => ?_)
  rw [h3] at hP hD
  exact kk H1 locs1 ls ⟨hH.1, hH.2.1, ⟨hP, hD, hS, hH.2.2.1.2.2.2.i (by omega)⟩, (hH.2.2.2).d.d⟩
theorem zs_putZ (Γ : zGa p s m args c cc nL own G A) {ci k idx N : Nat} {C : String} {T : u_T} (ty0 : Nat → FieldType) (hd : decode cc pc = .ok (.putfield idx, 3)) (hc : vwCl[ci]? = some (C, T, N)) (hin : ∀ w ∈ u_ws C T N, w ∈ zTs) (hty : ∀ k, k < N → parseFieldDescriptor (T k).2.2.1 = some (ty0 k)) (hnm : ∀ a, a < N → ∀ b, b < N → a ≠ b → (T a).2.1 ≠ (T b).2.1) (hk : k < N) (hl : Cond.fieldLink own idx (T k).1 (T k).2.1 (T k).2.2.1 ∈ zTs) (hfin : (T k).2.2.2 = false) (hpar : parseFieldDescriptor (T k).2.2.1 = some .boolean) (hz : zpr ci = 9) (hc9 : ci < 9) (hvs : ∀ (ad : Nat → Nat → Nat) (a : Nat → Int32) (b : Nat → Int64) (n : Nat) (x : Int32), k < (zfs ad a b n ci).length ∧ (zfs ad a b n ci).set k (.int x) = zfs ad (upd a k x) b n ci) : zNx p l e R s m args below meth c cells slots G A nL pc (zputZ ci k) := by
  intro f pc' f' hx H locs ls Q hH kk
  obtain ⟨L, st, M⟩ := f
  obtain ⟨x, n, t, rfl, hx0, hx⟩ : ∃ x n t, st = zI x :: zR ci n :: t ∧ (x = 0 ∨ x = 1) ∧ some (Sum.inr (pc + 3, L, t, (zst M.1 ci n (upd (M.1 ci n) k x), M.2))) = some (Sum.inr (pc', f')) := by
    unfold zputZ at hx
    dsimp only at hx
    split at hx
    · rename_i x c' n t
      dsimp only at hx
      cases hb : Nat.beq c' ci with
      | true =>
        cases Nat.eq_of_beq_eq_true hb
        have hx : (if x = 0 ∨ x = 1 then some (Sum.inr (pc + 3, L, t, (zst M.1 ci n (upd (M.1 ci n) k x), M.2))) else none : zT) = some (Sum.inr (pc', f')) := by rw [hb] at hx; exact hx
        by_cases h0 : x = 0 ∨ x = 1
        · rw [if_pos h0] at hx; exact ⟨x, n, t, rfl, h0, hx⟩
        · rw [if_neg h0] at hx; cases hx
      | false => rw [hb] at hx; cases hx
    · cases hx
  cases hx
  have hx1 : narrow .boolean (.int x) = .int x ∧ fits .boolean (.int x) = true := by
    rcases hx0 with rfl | rfl <;> exact ⟨rfl, rfl⟩
  obtain ⟨q0, h1, h2⟩ := zws_i G M (zvr_in hH.2.2.2.d.t (by omega)) (upd (M.1 ci n) k x)
  have he : (zws G M)[q0]? = some (zad G ci n, .inr (ci, zfs (zad G) (M.1 ci n) (M.2.1 ci n) n ci)) := by
    rw [h1, zcell, zce9 hz]
  have h3 : (zws G M).set q0 (zad G ci n, .inr (ci, (zfs (zad G) (M.1 ci n) (M.2.1 ci n) n ci).set k (.int x))) = zws G (zst M.1 ci n (upd (M.1 ci n) k x), M.2) := by
    rw [← h2, (hvs _ _ _ _ x).2, zce9 hz]
  refine va_put (v := .int x) (ty := .boolean) Γ.1 Γ.2.1 Γ.2.2.2.2.1 hin ty0 hty hnm Γ.2.2.2.1 Γ.2.2.2.2.2.1 hH.2.2.1.1 hH.2.2.1.2.1 hH.2.2.1.2.2.1 q0 he hc k hk (Γ.2.2.2.2.1 _ hl) (fun _ h9 => h9) hfin hpar hx1.1 hx1.2 (hvs _ _ _ _ x).1 hd (fun H1 locs1 hP hD hS => ?_)
  rw [h3] at hP hD
  exact kk H1 locs1 ls ⟨hH.1, hH.2.1, ⟨hP, hD, hS, hH.2.2.1.2.2.2.i (by omega)⟩, (hH.2.2.2).d.d⟩
theorem zs_putJ (Γ : zGa p s m args c cc nL own G A) {ci k idx N : Nat} {C : String} {T : u_T} (ty0 : Nat → FieldType) (hd : decode cc pc = .ok (.putfield idx, 3)) (hc : vwCl[ci]? = some (C, T, N)) (hin : ∀ w ∈ u_ws C T N, w ∈ zTs) (hty : ∀ k, k < N → parseFieldDescriptor (T k).2.2.1 = some (ty0 k)) (hnm : ∀ a, a < N → ∀ b, b < N → a ≠ b → (T a).2.1 ≠ (T b).2.1) (hk : k < N) (hl : Cond.fieldLink own idx (T k).1 (T k).2.1 (T k).2.2.1 ∈ zTs) (hfin : (T k).2.2.2 = false) (hpar : parseFieldDescriptor (T k).2.2.1 = some .long) (hz : zpr ci = 9) (hc9 : ci < 9) (hvs : ∀ (ad : Nat → Nat → Nat) (a : Nat → Int32) (b : Nat → Int64) (n : Nat) (x : Int64), k < (zfs ad a b n ci).length ∧ (zfs ad a b n ci).set k (.long x) = zfs ad a (vp_updL b k x) n ci) : zNx p l e R s m args below meth c cells slots G A nL pc (zputJ ci k) := by
  intro f pc' f' hx H locs ls Q hH kk
  obtain ⟨L, st, M⟩ := f
  obtain ⟨x, n, t, rfl, hx⟩ : ∃ x n t, st = zJ x :: zR ci n :: t ∧ some (Sum.inr (pc + 3, L, t, (M.1, zst M.2.1 ci n (vp_updL (M.2.1 ci n) k x), M.2.2))) = some (Sum.inr (pc', f')) := by
    unfold zputJ at hx
    dsimp only at hx
    split at hx
    · rename_i x c' n t
      dsimp only at hx
      cases hb : Nat.beq c' ci with
      | true => cases Nat.eq_of_beq_eq_true hb; exact ⟨x, n, t, rfl, by rw [hb] at hx; exact hx⟩
      | false => rw [hb] at hx; cases hx
    · cases hx
  cases hx
  obtain ⟨q0, h1, h2⟩ := zws_j G M (zvr_in hH.2.2.2.d.t (by omega)) (vp_updL (M.2.1 ci n) k x)
  have he : (zws G M)[q0]? = some (zad G ci n, .inr (ci, zfs (zad G) (M.1 ci n) (M.2.1 ci n) n ci)) := by
    rw [h1, zcell, zce9 hz]
  have h3 : (zws G M).set q0 (zad G ci n, .inr (ci, (zfs (zad G) (M.1 ci n) (M.2.1 ci n) n ci).set k (.long x))) = zws G (M.1, zst M.2.1 ci n (vp_updL (M.2.1 ci n) k x), M.2.2) := by
    rw [← h2, (hvs _ _ _ _ x).2, zce9 hz]
  refine va_put (v := .long x) (ty := .long) Γ.1 Γ.2.1 Γ.2.2.2.2.1 hin ty0 hty hnm Γ.2.2.2.1 Γ.2.2.2.2.2.1 hH.2.2.1.1 hH.2.2.1.2.1 hH.2.2.1.2.2.1 q0 he hc k hk (Γ.2.2.2.2.1 _ hl) (fun _ h9 => h9) hfin hpar rfl rfl (hvs _ _ _ _ x).1 hd (fun H1 locs1 hP hD hS => ?_)
  rw [h3] at hP hD
  exact kk H1 locs1 ls ⟨hH.1, hH.2.1, ⟨hP, hD, hS, hH.2.2.1.2.2.2⟩, (hH.2.2.2).d.d⟩
theorem zs_letters (Γ : zGa p s m args c cc nL own G A) {idx : Nat} (hd : decode cc pc = .ok (.getstatic idx, 3)) (hl : Cond.fieldLink own idx "FlippedBlinds" "LETTERS" "[I" ∈ zTs) : zNx p l e R s m args below meth c cells slots G A nL pc (zxc (zR 40 0) 3) := by
  intro f pc' f' hx H locs ls Q hH kk
  obtain ⟨L, st, M⟩ := f
  cases hx
  exact va_gets Γ.1 Γ.2.1 Γ.2.2.2.2.2.2.1.2.2.2.2.2.2 hH.2.2.1.2.2.1 Γ.2.2.2.1 (Γ.2.2.2.2.1 _ hl) (fun _ h9 => h9) hd (kk H locs ls ⟨hH.1, hH.2.1, hH.2.2.1, (hH.2.2.2).p (Or.inr (Or.inl rfl))⟩)
theorem zs_cald (Γ : zGa p s m args c cc nL own G A) (hd : decode cc pc = .ok (.caload, 1)) : zNx p l e R s m args below meth c cells slots G A nL pc zcald := by
  intro f pc' f' hx H locs ls Q hH kk
  obtain ⟨L, st, M⟩ := f
  obtain ⟨i, c, n, t, rfl, hz, hi, hx⟩ : ∃ i c n t, st = zI i :: zR c n :: t ∧ zpr c = 2 ∧ ¬ (i < 0 ∨ zlt c ≤ i.toNatClampNeg) ∧ (some (Sum.inr (pc + 1, L, zI (M.1 c n i.toNatClampNeg) :: t, M)) : zT) = some (Sum.inr (pc', f')) := by
    unfold zcald at hx
    dsimp only at hx
    split at hx
    · rename_i i c n t
      split at hx
      · rename_i hz
        split at hx
        · cases hx
        · rename_i hi; exact ⟨i, c, n, t, rfl, hz, hi, hx⟩
      · cases hx
    · cases hx
  cases hx
  obtain ⟨q0, h1, -⟩ := zws_at G M (zvr_in hH.2.2.2.d.t (zpr_lt (by omega)))
  rw [zcell, zce2 hz] at h1
  exact va_cald Γ.1 Γ.2.1 Γ.2.2.2.2.2.1 hH.2.2.1.1 q0 2 h1 rfl hi hd (kk H locs ls ⟨hH.1, hH.2.1, hH.2.2.1, (hH.2.2.2).d.d.p trivial⟩)
theorem zs_lald (Γ : zGa p s m args c cc nL own G A) (hd : decode cc pc = .ok (.laload, 1)) : zNx p l e R s m args below meth c cells slots G A nL pc zlald := by
  intro f pc' f' hx H locs ls Q hH kk
  obtain ⟨L, st, M⟩ := f
  obtain ⟨i, c, n, t, rfl, hz, hi, hx⟩ : ∃ i c n t, st = zI i :: zR c n :: t ∧ zpr c = 1 ∧ ¬ (i < 0 ∨ zlt c ≤ i.toNatClampNeg) ∧ (some (Sum.inr (pc + 1, L, zJ (M.2.1 c n i.toNatClampNeg) :: t, M)) : zT) = some (Sum.inr (pc', f')) := by
    unfold zlald at hx
    dsimp only at hx
    split at hx
    · rename_i i c n t
      split at hx
      · rename_i hz
        split at hx
        · cases hx
        · rename_i hi; exact ⟨i, c, n, t, rfl, hz, hi, hx⟩
      · cases hx
    · cases hx
  cases hx
  obtain ⟨q0, h1, -⟩ := zws_at G M (zvr_in hH.2.2.2.d.t (zpr_lt (by omega)))
  rw [zcell, zce1 hz] at h1
  exact va_lald Γ.1 Γ.2.1 Γ.2.2.2.2.2.1 hH.2.2.1.1 q0 1 h1 rfl hi hd (kk H locs ls ⟨hH.1, hH.2.1, hH.2.2.1, (hH.2.2.2).d.d.p trivial⟩)
theorem zs_aald (Γ : zGa p s m args c cc nL own G A) (hd : decode cc pc = .ok (.aaload, 1)) : zNx p l e R s m args below meth c cells slots G A nL pc zaald := by
  intro f pc' f' hx H locs ls Q hH kk
  obtain ⟨L, st, M⟩ := f
  obtain ⟨i, c, n, t, rfl, hz, hi, hx⟩ : ∃ i c n t, st = zI i :: zR c n :: t ∧ zpr c = 3 ∧ ¬ (i < 0 ∨ zlt c ≤ i.toNatClampNeg) ∧ (some (Sum.inr (pc + 1, L, .inr (.inr ((M.2.2 i.toNatClampNeg).map (fun q => (4, q)))) :: t, M)) : zT) = some (Sum.inr (pc', f')) := by
    unfold zaald at hx
    dsimp only at hx
    split at hx
    · rename_i i c n t
      split at hx
      · rename_i hz
        split at hx
        · cases hx
        · rename_i hi; exact ⟨i, c, n, t, rfl, hz, hi, hx⟩
      · cases hx
    · cases hx
  cases hx
  obtain ⟨q0, h1, -⟩ := zws_at G M (zvr_in hH.2.2.2.d.t (zpr_lt (by omega)))
  rw [zcell, zce3 hz] at h1
  have hok : zvr G (.inr (.inr ((M.2.2 i.toNatClampNeg).map (fun q => (4, q))))) := by
    cases hq : M.2.2 i.toNatClampNeg with
    | none => exact trivial
    | some q => exact Or.inl (hH.2.2.1.2.2.2.2.2.2.2.1 _ _ hq)
  have k2 := kk H locs ls ⟨hH.1, hH.2.1, hH.2.2.1, (hH.2.2.2).d.d.p hok⟩
  refine va_aldq Γ.1 Γ.2.1 Γ.2.2.2.2.2.1 hH.2.2.1.1 q0 3 h1 rfl hi hd ?_
  have he : va_rf ((M.2.2 i.toNatClampNeg).map (fun q => zad G 4 q)) = zc G (.inr (.inr ((M.2.2 i.toNatClampNeg).map (fun q => (4, q))))) := by
    cases M.2.2 i.toNatClampNeg <;> rfl
  rw [he]
  exact k2
theorem zs_iald (Γ : zGa p s m args c cc nL own G A) (hd : decode cc pc = .ok (.iaload, 1)) : zNx p l e R s m args below meth c cells slots G A nL pc ziald := by
  intro f pc' f' hx H locs ls Q hH kk
  obtain ⟨L, st, M⟩ := f
  obtain ⟨i, c, n, t, rfl, hz, hx⟩ : ∃ i c n t, st = zI i :: zR c n :: t ∧ ((zpr c = 0 ∧ ¬ (i < 0 ∨ zlt c ≤ i.toNatClampNeg)) ∨ (zpr c = 4 ∧ ¬ (i < 0 ∨ 17 ≤ i.toNatClampNeg)) ∨ (zpr c = 5 ∧ ¬ (i < 0 ∨ (M.1 42 0 0).toNatClampNeg ≤ i.toNatClampNeg))) ∧ (some (Sum.inr (pc + 1, L, zI (M.1 c n i.toNatClampNeg) :: t, M)) : zT) = some (Sum.inr (pc', f')) := by
    unfold ziald at hx
    dsimp only at hx
    split at hx
    · rename_i i c n t
      split at hx
      · rename_i hz
        split at hx
        · cases hx
        · rename_i hi; exact ⟨i, c, n, t, rfl, Or.inl ⟨hz, hi⟩, hx⟩
      · rename_i hz
        split at hx
        · cases hx
        · rename_i hi; exact ⟨i, c, n, t, rfl, Or.inr (Or.inl ⟨hz, hi⟩), hx⟩
      · rename_i hz
        split at hx
        · cases hx
        · rename_i hi; exact ⟨i, c, n, t, rfl, Or.inr (Or.inr ⟨hz, hi⟩), hx⟩
      · cases hx
    · cases hx
  cases hx
  have k2 := kk H locs ls ⟨hH.1, hH.2.1, hH.2.2.1, (hH.2.2.2).d.d.p (v := zI (M.1 c n i.toNatClampNeg)) trivial⟩
  rcases hz with ⟨hz, hi⟩ | ⟨hz, hi⟩ | ⟨hz, hi⟩
  · obtain ⟨q0, h1, -⟩ := zws_at G M (zvr_in hH.2.2.2.d.t (zpr_lt (by omega)))
    rw [zcell, zce0 hz] at h1
    exact va_iald Γ.1 Γ.2.1 Γ.2.2.2.2.2.1 hH.2.2.1.1 q0 0 h1 rfl hi hd k2
  · have hc : c = 40 := by unfold zpr at hz; split at hz <;> first | rfl | cases hz
    subst hc
    have hn : n = 0 := by
      rcases hH.2.2.2.d.t with h | h | h
      · exact absurd h (Nat.not_lt_zero _)
      · cases h; rfl
      · cases h
    subst hn
    have hlt : i.toNatClampNeg < 17 := Nat.not_le.mp fun q => hi (Or.inr q)
    rw [hH.2.2.1.2.2.2.1 _ hlt] at k2
    obtain ⟨scr, h1, h2, h3, h4, h5⟩ := Γ.2.2.2.2.2.2.1.1
    exact W.iald (v := .int (zlet i.toNatClampNeg)) Γ.1 Γ.2.1 (by rw [hH.2.2.1.2.2.1.2.1 _ Γ.2.2.2.2.2.2.1.2.1 Γ.2.2.2.2.2.2.1.2.2.1]; exact h1) h2 h3 (fun q => hi (q.imp id (fun z => Nat.le_trans h4 z))) (h5 _ hlt) rfl rfl hd k2
  · have hc : c = 41 := by unfold zpr at hz; split at hz <;> first | rfl | cases hz
    subst hc
    have hn : n = 0 := by
      rcases hH.2.2.2.d.t with h | h | h
      · exact absurd h (Nat.not_lt_zero _)
      · cases h
      · cases h; rfl
    subst hn
    rw [hH.2.2.1.2.2.2.2.2.1, show (Int32.ofNat (zLn G)).toNatClampNeg = zLn G from nI_clamp hH.2.2.1.2.2.2.2.2.2.1] at hi
    have hlt : i.toNatClampNeg < zLn G := Nat.not_le.mp fun q => hi (Or.inr q)
    rw [hH.2.2.1.2.2.2.2.1 _ hlt] at k2
    exact va_sld Γ.1 Γ.2.1 Γ.2.2.2.2.2.2.1.2.2.2.1 Γ.2.2.2.2.2.2.1.2.2.2.2.1 Γ.2.2.2.2.2.2.1.2.2.2.2.2.1 hH.2.2.1.2.2.1 hi hd k2
theorem zs_iast (Γ : zGa p s m args c cc nL own G A) (hd : decode cc pc = .ok (.iastore, 1)) : zNx p l e R s m args below meth c cells slots G A nL pc ziast := by
  intro f pc' f' hx H locs ls Q hH kk
  obtain ⟨L, st, M⟩ := f
  obtain ⟨x, i, c, n, t, rfl, hz, hi, hx⟩ : ∃ x i c n t, st = zI x :: zI i :: zR c n :: t ∧ zpr c = 0 ∧ ¬ (i < 0 ∨ zlt c ≤ i.toNatClampNeg) ∧ (some (Sum.inr (pc + 1, L, t, (zst M.1 c n (upd (M.1 c n) i.toNatClampNeg x), M.2))) : zT) = some (Sum.inr (pc', f')) := by
    unfold ziast at hx
    dsimp only at hx
    split at hx
    · rename_i x i c n t
      split at hx
      · rename_i hz
        split at hx
        · cases hx
        · rename_i hi; exact ⟨x, i, c, n, t, rfl, hz, hi, hx⟩
      · cases hx
    · cases hx
  cases hx
  have hm := zvr_in hH.2.2.2.d.d.t (zpr_lt (by omega))
  obtain ⟨q0, h1, h2⟩ := zws_i G M hm (upd (M.1 c n) i.toNatClampNeg x)
  rw [zcell, zce0 hz] at h1
  rw [zce0 hz] at h2
  refine va_iast Γ.1 Γ.2.1 Γ.2.2.2.2.2.1 hH.2.2.1.1 hH.2.2.1.2.1 hH.2.2.1.2.2.1 q0 0 h1 rfl hi hd (fun H1 locs1 hP hD hS => ?_)
  rw [h2] at hP hD
  exact kk H1 locs1 ls ⟨hH.1, hH.2.1, ⟨hP, hD, hS, hH.2.2.1.2.2.2.i (zpr_lt (by omega))⟩, (hH.2.2.2).d.d.d⟩
theorem zs_cast (Γ : zGa p s m args c cc nL own G A) (hd : decode cc pc = .ok (.castore, 1)) : zNx p l e R s m args below meth c cells slots G A nL pc zcast := by
  intro f pc' f' hx H locs ls Q hH kk
  obtain ⟨L, st, M⟩ := f
  obtain ⟨x, i, c, n, t, rfl, hz, hi, hx⟩ : ∃ x i c n t, st = zI x :: zI i :: zR c n :: t ∧ zpr c = 2 ∧ ¬ (i < 0 ∨ zlt c ≤ i.toNatClampNeg) ∧ (some (Sum.inr (pc + 1, L, t, (zst M.1 c n (upd (M.1 c n) i.toNatClampNeg (vp_nar .char x)), M.2))) : zT) = some (Sum.inr (pc', f')) := by
    unfold zcast at hx
    dsimp only at hx
    split at hx
    · rename_i x i c n t
      split at hx
      · rename_i hz
        split at hx
        · cases hx
        · rename_i hi; exact ⟨x, i, c, n, t, rfl, hz, hi, hx⟩
      · cases hx
    · cases hx
  cases hx
  have hm := zvr_in hH.2.2.2.d.d.t (zpr_lt (by omega))
  obtain ⟨q0, h1, h2⟩ := zws_i G M hm (upd (M.1 c n) i.toNatClampNeg (vp_nar .char x))
  rw [zcell, zce2 hz] at h1
  rw [zce2 hz] at h2
  refine va_cast Γ.1 Γ.2.1 Γ.2.2.2.2.2.1 hH.2.2.1.1 hH.2.2.1.2.1 hH.2.2.1.2.2.1 q0 2 h1 rfl hi hd (fun H1 locs1 hP hD hS => ?_)
  rw [h2] at hP hD
  exact kk H1 locs1 ls ⟨hH.1, hH.2.1, ⟨hP, hD, hS, hH.2.2.1.2.2.2.i (zpr_lt (by omega))⟩, (hH.2.2.2).d.d.d⟩
theorem zs_last (Γ : zGa p s m args c cc nL own G A) (hd : decode cc pc = .ok (.lastore, 1)) : zNx p l e R s m args below meth c cells slots G A nL pc zlast := by
  intro f pc' f' hx H locs ls Q hH kk
  obtain ⟨L, st, M⟩ := f
  obtain ⟨x, i, c, n, t, rfl, hz, hi, hx⟩ : ∃ x i c n t, st = zJ x :: zI i :: zR c n :: t ∧ zpr c = 1 ∧ ¬ (i < 0 ∨ zlt c ≤ i.toNatClampNeg) ∧ (some (Sum.inr (pc + 1, L, t, (M.1, zst M.2.1 c n (vp_updL (M.2.1 c n) i.toNatClampNeg x), M.2.2))) : zT) = some (Sum.inr (pc', f')) := by
    unfold zlast at hx
    dsimp only at hx
    split at hx
    · rename_i x i c n t
      split at hx
      · rename_i hz
        split at hx
        · cases hx
        · rename_i hi; exact ⟨x, i, c, n, t, rfl, hz, hi, hx⟩
      · cases hx
    · cases hx
  cases hx
  have hm := zvr_in hH.2.2.2.d.d.t (zpr_lt (by omega))
  obtain ⟨q0, h1, h2⟩ := zws_j G M hm (vp_updL (M.2.1 c n) i.toNatClampNeg x)
  rw [zcell, zce1 hz] at h1
  rw [zce1 hz] at h2
  refine va_last Γ.1 Γ.2.1 Γ.2.2.2.2.2.1 hH.2.2.1.1 hH.2.2.1.2.1 hH.2.2.1.2.2.1 q0 1 h1 rfl hi hd (fun H1 locs1 hP hD hS => ?_)
  rw [h2] at hP hD
  exact kk H1 locs1 ls ⟨hH.1, hH.2.1, ⟨hP, hD, hS, hH.2.2.1.2.2.2⟩, (hH.2.2.2).d.d.d⟩
theorem zs_aast (Γ : zGa p s m args c cc nL own G A) (hd : decode cc pc = .ok (.aastore, 1)) : zNx p l e R s m args below meth c cells slots G A nL pc zaast := by
  intro f pc' f' hx H locs ls Q hH kk
  obtain ⟨L, st, M⟩ := f
  obtain ⟨x, i, c, n, t, rfl, hz, hi, hx⟩ : ∃ x i c n t, st = zR 4 x :: zI i :: zR c n :: t ∧ zpr c = 3 ∧ ¬ (i < 0 ∨ zlt c ≤ i.toNatClampNeg) ∧ (some (Sum.inr (pc + 1, L, t, (M.1, M.2.1, va_up M.2.2 i.toNatClampNeg (some x)))) : zT) = some (Sum.inr (pc', f')) := by
    unfold zaast at hx
    dsimp only at hx
    split at hx
    · rename_i x i c n t
      split at hx
      · rename_i hz
        split at hx
        · cases hx
        · rename_i hi; exact ⟨x, i, c, n, t, rfl, hz, hi, hx⟩
      · cases hx
    · cases hx
  cases hx
  have hm := zvr_in hH.2.2.2.d.d.t (zpr_lt (by omega))
  have hc := zpr3 hz
  subst hc
  have hn : n = 0 := Nat.lt_one_iff.mp (zobjs_mem.mp hm)
  subst hn
  have hx4 := zvr_in hH.2.2.2.t (by omega)
  obtain ⟨q0, h1, h2⟩ := zws_r G M (va_up M.2.2 i.toNatClampNeg (some x))
  rw [zcell, zce3 hz] at h1
  rw [zce3 hz] at h2
  obtain ⟨qk, h3, -⟩ := zws_at G M hx4
  rw [zcell, zce9 rfl] at h3
  have hf : (fun j => (va_up M.2.2 i.toNatClampNeg (some x) j).map (fun q => zad G 4 q)) = va_up (fun j => (M.2.2 j).map (fun q => zad G 4 q)) i.toNatClampNeg (some (zad G 4 x)) := by
    funext j
    by_cases hj : j = i.toNatClampNeg
    · subst hj; simp [va_up]
    · simp [va_up, hj]
  rw [hf] at h2
  refine va_astq (r := (RX4, TX4, 8)) Γ.1 Γ.2.1 Γ.2.2.2.2.2.1 hH.2.2.1.1 hH.2.2.1.2.1 hH.2.2.1.2.2.1 q0 3 qk 4 h1 rfl h3 rfl hi hd (fun H1 locs1 hP hD hS => ?_)
  rw [h2] at hP hD
  have hmo := hH.2.2.1.2.2.2
  refine kk H1 locs1 ls ⟨hH.1, hH.2.1, ⟨hP, hD, hS, hmo.1, hmo.2.1, hmo.2.2.1, hmo.2.2.2.1, fun j q hq => ?_, hmo.2.2.2.2.2⟩, (hH.2.2.2).d.d.d⟩
  have hq : va_up M.2.2 i.toNatClampNeg (some x) j = some q := hq
  by_cases hj : j = i.toNatClampNeg
  · subst hj
    rw [va_up_self] at hq
    cases hq
    exact zobjs_mem.mp hx4
  · rw [va_up_ne _ _ hj] at hq
    exact hmo.2.2.2.2.1 j q hq
end ZS2
end
section
-- ===== lengths, copies, calls, answers, and a method whole =====
section ZS3
variable {p : Program} {l : Launch} {e : Env} {R : Room} {s : State} {m : MethodId} {args : Array Value} {below : List Frame} {meth : Method} {c : Code} {cells slots : Nat} {cc : ByteArray} {nL : Nat} {own : String} {G : zG} {A : Nat → Prop} {pc : Nat}
theorem zs_alen (Γ : zGa p s m args c cc nL own G A) (hd : decode cc pc = .ok (.arraylength, 1)) : zNx p l e R s m args below meth c cells slots G A nL pc zalen := by
  intro f pc' f' hx H locs ls Q hH kk
  obtain ⟨L, st, M⟩ := f
  obtain ⟨c, n, t, rfl, hx2⟩ : ∃ c n t, st = zR c n :: t ∧ ((zpr c = 5 ∧ (some (Sum.inr (pc + 1, L, zI (M.1 42 0 0) :: t, M)) : zT) = some (Sum.inr (pc', f'))) ∨ (zpr c ≠ 9 ∧ zpr c ≠ 4 ∧ zpr c ≠ 5 ∧ (some (Sum.inr (pc + 1, L, zI (Int32.ofNat (zlt c)) :: t, M)) : zT) = some (Sum.inr (pc', f')))) := by
    unfold zalen at hx
    dsimp only at hx
    split at hx
    · rename_i c n t
      split at hx
      · cases hx
      · cases hx
      · rename_i h5; exact ⟨c, n, t, rfl, Or.inl ⟨h5, hx⟩⟩
      · rename_i h9 h4 h5; exact ⟨c, n, t, rfl, Or.inr ⟨h9, h4, h5, hx⟩⟩
    · cases hx
  rcases hx2 with ⟨hz, hx⟩ | ⟨h9, h4, h5, hx⟩
  · cases hx
    have k2 := kk H locs ls ⟨hH.1, hH.2.1, hH.2.2.1, (hH.2.2.2).d.p (v := zI (M.1 42 0 0)) trivial⟩
    have hc : c = 41 := by unfold zpr at hz; split at hz <;> first | rfl | cases hz
    subst hc
    have hn : n = 0 := by
      rcases hH.2.2.2.t with h | h | h
      · exact absurd h (Nat.not_lt_zero _)
      · cases h
      · cases h; rfl
    subst hn
    rw [hH.2.2.1.2.2.2.2.2.1] at k2
    exact va_slen Γ.1 Γ.2.1 Γ.2.2.2.2.2.2.1.2.2.2.1 Γ.2.2.2.2.2.2.1.2.2.2.2.1 Γ.2.2.2.2.2.2.1.2.2.2.2.2.1 hH.2.2.1.2.2.1 hd k2
  · cases hx
    have k2 := kk H locs ls ⟨hH.1, hH.2.1, hH.2.2.1, (hH.2.2.2).d.p (v := zI (Int32.ofNat (zlt c))) trivial⟩
    have hlt : zpr c < 4 := by
      unfold zpr at h9 h4 h5 ⊢
      split <;> simp_all
    obtain ⟨q0, h1, -⟩ := zws_at G M (zvr_in hH.2.2.2.t (zpr_lt hlt))
    rw [zcell] at h1
    have h03 : zpr c = 0 ∨ zpr c = 1 ∨ zpr c = 2 ∨ zpr c = 3 := by omega
    rcases h03 with hz | hz | hz | hz
    · rw [zce0 hz] at h1
      exact va_alen Γ.1 Γ.2.1 Γ.2.2.2.2.2.1 hH.2.2.1.1 q0 0 h1 rfl rfl hd k2
    · rw [zce1 hz] at h1
      exact va_alen Γ.1 Γ.2.1 Γ.2.2.2.2.2.1 hH.2.2.1.1 q0 1 h1 rfl rfl hd k2
    · rw [zce2 hz] at h1
      exact va_alen Γ.1 Γ.2.1 Γ.2.2.2.2.2.1 hH.2.2.1.1 q0 2 h1 rfl rfl hd k2
    · rw [zce3 hz] at h1
      exact va_alen Γ.1 Γ.2.1 Γ.2.2.2.2.2.1 hH.2.2.1.1 q0 3 h1 rfl rfl hd k2
theorem zs_min (Γ : zGa p s m args c cc nL own G A) {idx : Nat} (hd : decode cc pc = .ok (.invokestatic idx, 3)) (h1 : Cond.methodLink own idx Lib.Math.min.name ∈ zTs) (h2 : Cond.static Lib.Math.min.name ∈ zTs) (h3 : Cond.initialized "java/lang/Math" ∈ zTs) (h4 : Cond.code Lib.Math.min.name Lib.Math.min.code 2 (some .int) ∈ zTs) (hR : 1 ≤ R.frames ∧ 30 ≤ R.locals) (hc : cells ≤ R.cells ∧ slots ≤ R.slots) : zNx p l e R s m args below meth c cells slots G A nL pc zmin := by
  intro f pc' f' hx H locs ls Q hH kk
  obtain ⟨L, st, M⟩ := f
  obtain ⟨y, x, t, rfl, hb, hx⟩ : ∃ y x t, st = zI y :: zI x :: t ∧ zcats t ≤ 8 ∧ (some (Sum.inr (pc + 3, L, zI (if y < x then y else x) :: t, M)) : zT) = some (Sum.inr (pc', f')) := by
    unfold zmin at hx
    dsimp only at hx
    split at hx
    · rename_i y x t
      split at hx
      · rename_i hb; exact ⟨y, x, t, rfl, Nat.le_of_ble_eq_true hb, hx⟩
      · cases hx
    · cases hx
  cases hx
  have hs := zc_cats G t
  refine va_mmin (ls := ls) Γ.1 Γ.2.1 (by rw [Γ.2.2.1, hH.1.1]) Γ.2.2.2.1 (Γ.2.2.2.2.1 _ h1) (Γ.2.2.2.2.1 _ h2) (Γ.2.2.2.2.1 _ h3) (Γ.2.2.2.2.1 _ h4) hR.1 ?_ hc.1 hc.2 hd (kk H locs ls ⟨hH.1, hH.2.1, hH.2.2.1, (hH.2.2.2).d.d.p trivial⟩)
  show ((t.map (zc G)).map fun v => v.category).sum + 13 ≤ _
  omega
theorem zs_copy (Γ : zGa p s m args c cc nL own G A) {idx : Nat} (hd : decode cc pc = .ok (.invokestatic idx, 3)) (h1 : Cond.methodLink own idx arraycopyName ∈ zTs) (h2 : Cond.native arraycopyName ∈ zTs) (h3 : Cond.static arraycopyName ∈ zTs) (h4 : Cond.initialized "java/lang/System" ∈ zTs) (hR : 1 ≤ R.frames ∧ 8 + (nativeFrameWords "java/lang/System" "arraycopy" 5 + 11) ≤ R.locals) : zNx p l e R s m args below meth c cells slots G A nL pc zcopy := by
  intro f pc' f' hx H locs ls Q hH kk
  obtain ⟨L, st, M⟩ := f
  obtain ⟨n, dp, c1, n1, sp, c0, n0, t, rfl, hb, hi, hx2⟩ : ∃ n dp c1 n1 sp c0 n0 t, st = zI n :: zI dp :: zR c1 n1 :: zI sp :: zR c0 n0 :: t ∧ zcats t ≤ 8 ∧ ¬ (n < 0 ∨ dp < 0 ∨ sp < 0 ∨ zlt c0 < sp.toNatClampNeg + n.toNatClampNeg ∨ zlt c1 < dp.toNatClampNeg + n.toNatClampNeg) ∧
      ((zpr c0 = 0 ∧ zpr c1 = 0 ∧ (some (Sum.inr (pc + 3, L, t, (zst M.1 c1 n1 (va_cpy (M.1 c0 n0) (M.1 c1 n1) sp.toNatClampNeg dp.toNatClampNeg n.toNatClampNeg), M.2))) : zT) = some (Sum.inr (pc', f'))) ∨
      (zpr c0 = 1 ∧ zpr c1 = 1 ∧ (some (Sum.inr (pc + 3, L, t, (M.1, zst M.2.1 c1 n1 (va_cpy (M.2.1 c0 n0) (M.2.1 c1 n1) sp.toNatClampNeg dp.toNatClampNeg n.toNatClampNeg), M.2.2))) : zT) = some (Sum.inr (pc', f')))) := by
    unfold zcopy at hx
    dsimp only at hx
    split at hx
    · rename_i n dp c1 n1 sp c0 n0 t
      split at hx
      · rename_i hb
        split at hx
        · cases hx
        · rename_i hi
          split at hx
          · rename_i ha hb2; exact ⟨n, dp, c1, n1, sp, c0, n0, t, rfl, Nat.le_of_ble_eq_true hb, hi, Or.inl ⟨ha, hb2, hx⟩⟩
          · rename_i ha hb2; exact ⟨n, dp, c1, n1, sp, c0, n0, t, rfl, Nat.le_of_ble_eq_true hb, hi, Or.inr ⟨ha, hb2, hx⟩⟩
          · cases hx
      · cases hx
    · cases hx
  have hs := zc_cats G t
  have hs2 : ((t.map (zc G)).map fun v => v.category).sum + (nativeFrameWords "java/lang/System" "arraycopy" 5 + 11) ≤ R.locals := by omega
  have b1 : ¬ n < 0 := fun q => hi (Or.inl q)
  have b2 : ¬ dp < 0 := fun q => hi (Or.inr (Or.inl q))
  have b3 : ¬ sp < 0 := fun q => hi (Or.inr (Or.inr (Or.inl q)))
  have b4 : sp.toNatClampNeg + n.toNatClampNeg ≤ zlt c0 := Nat.not_lt.mp fun q => hi (Or.inr (Or.inr (Or.inr (Or.inl q))))
  have b5 : dp.toNatClampNeg + n.toNatClampNeg ≤ zlt c1 := Nat.not_lt.mp fun q => hi (Or.inr (Or.inr (Or.inr (Or.inr q))))
  rcases hx2 with ⟨z0, z1, hx⟩ | ⟨z0, z1, hx⟩
  · cases hx
    obtain ⟨q0, g1, -⟩ := zws_at G M (zvr_in hH.2.2.2.d.d.d.d.t (zpr_lt (by omega)))
    obtain ⟨q1, g2, g3⟩ := zws_i G M (zvr_in hH.2.2.2.d.d.t (zpr_lt (by omega))) (va_cpy (M.1 c0 n0) (M.1 c1 n1) sp.toNatClampNeg dp.toNatClampNeg n.toNatClampNeg)
    rw [zcell, zce0 z0] at g1
    rw [zcell, zce0 z1] at g2
    rw [zce0 z1] at g3
    refine va_copyi (ls := ls) Γ.1 Γ.2.1 (by rw [Γ.2.2.1, hH.1.1]) Γ.2.2.2.1 (Γ.2.2.2.2.1 _ h1) (Γ.2.2.2.2.1 _ h2) (Γ.2.2.2.2.1 _ h3) (Γ.2.2.2.2.1 _ h4) Γ.2.2.2.2.2.1 hH.2.2.1.1 hH.2.2.1.2.1 hH.2.2.1.2.2.1 q0 q1 0 0 g1 g2 rfl rfl rfl b3 b2 b1 b4 b5 (fun _ _ => rfl) hR.1 hs2 hd (fun H1 locs1 hP hD hS => ?_)
    rw [g3] at hP hD
    exact kk H1 locs1 ls ⟨hH.1, hH.2.1, ⟨hP, hD, hS, hH.2.2.1.2.2.2.i (zpr_lt (by omega))⟩, (hH.2.2.2).d.d.d.d.d⟩
  · cases hx
    obtain ⟨q0, g1, -⟩ := zws_at G M (zvr_in hH.2.2.2.d.d.d.d.t (zpr_lt (by omega)))
    obtain ⟨q1, g2, g3⟩ := zws_j G M (zvr_in hH.2.2.2.d.d.t (zpr_lt (by omega))) (va_cpy (M.2.1 c0 n0) (M.2.1 c1 n1) sp.toNatClampNeg dp.toNatClampNeg n.toNatClampNeg)
    rw [zcell, zce1 z0] at g1
    rw [zcell, zce1 z1] at g2
    rw [zce1 z1] at g3
    refine va_copyl (ls := ls) Γ.1 Γ.2.1 (by rw [Γ.2.2.1, hH.1.1]) Γ.2.2.2.1 (Γ.2.2.2.2.1 _ h1) (Γ.2.2.2.2.1 _ h2) (Γ.2.2.2.2.1 _ h3) (Γ.2.2.2.2.1 _ h4) Γ.2.2.2.2.2.1 hH.2.2.1.1 hH.2.2.1.2.1 hH.2.2.1.2.2.1 q0 q1 1 1 g1 g2 rfl rfl rfl b3 b2 b1 b4 b5 (fun _ _ => rfl) hR.1 hs2 hd (fun H1 locs1 hP hD hS => ?_)
    rw [g3] at hP hD
    exact kk H1 locs1 ls ⟨hH.1, hH.2.1, ⟨hP, hD, hS, hH.2.2.1.2.2.2⟩, (hH.2.2.2).d.d.d.d.d⟩
/-- behind a call -/
theorem zrun_call {r : zQ} {a : Array Value} {rest st0 : List Value} {ls : Array Slot} {H : Heap} {locs : List Loc} {Q : State → Prop} {mc ms : Nat} (hr : va_Run p l e R s m args below meth c H locs cells slots mc ms (F0 m pc ls st0) rest (zQc G r a) (zA G)) (hS : va_S A s.heap H locs) (hA : ∀ q, zA G q → A q)
    (kk : ∀ (H1 : Heap) (locs1 : List Loc), va_P G.1 vwCl (zws G r.2) H1 → zmo G r.2 → (∀ v, r.1 = some v → zvr G v) → va_S A s.heap H1 locs1 → W p l e R s m args below meth c H1 locs1 (cells + mc) (slots + ms) Q (F0 m (pc + 3) ls ((r.1.map (zc G)).toList ++ rest))) : W p l e R s m args below meth c H locs cells slots Q (F0 m pc ls st0) := by
  intro T hT X
  obtain ⟨v, st₀, t, T', L, h0, X', hL, e1, e2, ⟨hv, hP, hmo, hrv, hz, hk⟩, st⟩ := hr T hT X
  cases hv
  rw [h0] at hz hk
  obtain ⟨t2, a1, b1⟩ := kk T'.heap (locs ++ L) (by rw [e1]; exact hP) hmo hrv
    ⟨Nat.le_trans hS.1 (by rw [e1]; exact hz), fun q h1 h2 => by rw [e1, hk q (Nat.lt_of_lt_of_le h1 hS.1) (fun z => h2 (hA q z))]; exact hS.2.1 q h1 h2, fun q hq => by
      rcases List.mem_append.mp hq with h | h
      · exact hS.2.2 q h
      · exact hA _ (hL q h)⟩ T' rfl X'
  exact ⟨t2, st t2 a1, b1⟩
theorem zPc_blind {G : zG} {a : List zV} {M : zM} : FrameBlind (zPc G a M) := fun av U g mk q => ⟨q.1, q.2.1, q.2.2.1, va_K.moved (u := U) (U := U.calling g mk av) (Vm.Alike.refl U.vm) q.2.2.2.1, zro.m (s := U) (Vm.Alike.refl U.vm) (fun _ _ _ => rfl) (Nat.le_refl _) q.2.2.2.2.1, q.2.2.2.2.2.1, q.2.2.2.2.2.2.1, fun w hw => va_Nw.same (u := U) (U := U.calling g mk av) rfl rfl (q.2.2.2.2.2.2.2 w hw)⟩
theorem zws_D {G : zG} {A B : Nat → Prop} {M M' : zM} (h : va_D A (zws G M)) (hB : ∀ q, zA G q → B q) : va_D B (zws G M') := by
  have at' : ∀ (N : zM) (k : Nat) (q : Nat × va_E), (zws G N)[k]? = some q → ∃ z : Nat × Nat, (zobjs (zsi G))[k]? = some z ∧ q.1 = zad G z.1 z.2 := by
    intro N k q hk
    rw [zws, List.getElem?_map] at hk
    cases hz : (zobjs (zsi G))[k]? with
    | none => rw [hz] at hk; cases hk
    | some z => rw [hz] at hk; cases hk; exact ⟨z, rfl, rfl⟩
  refine ⟨fun i j x y hx hy hxy => ?_, fun k q hq => ?_⟩
  · obtain ⟨z, z1, z2⟩ := at' M' i x hx
    obtain ⟨u, u1, u2⟩ := at' M' j y hy
    refine h.1 i j (zad G z.1 z.2, zcell G M z.1 z.2) (zad G u.1 u.2, zcell G M u.1 u.2) ?_ ?_ (by rw [← z2, ← u2, hxy])
    · rw [zws, List.getElem?_map, z1]; rfl
    · rw [zws, List.getElem?_map, u1]; rfl
  · obtain ⟨z, z1, z2⟩ := at' M' k q hq
    exact hB _ ⟨z.1, z.2, zobjs_mem.mp (List.mem_of_getElem? z1), z2⟩
abbrev zwsy (y : MethodName) (bytes : ByteArray) (maxL : Nat) (ret : Option FieldType) : List Cond := .code y bytes maxL ret :: zTs
/-- what a method promises: its small machine's answer -/
def zMet (l : Launch) (G : zG) (y : MethodName) (bytes : ByteArray) (maxL : Nat) (ret : Option FieldType) (rm : Room) (g : List zV → zM → Option zQ) : Prop :=
  ∀ (a : List zV) (M : zM) (r : zQ), g a M = some r → Met l y (zwsy y bytes maxL ret) rm (zPc G a M) (zQc G r) rm.cells rm.slots (zA G)
theorem zgoodV {own C : String} {idx maxL : Nat} {y : MethodName} {bytes : ByteArray} {ret : Option FieldType} (h1 : Cond.methodLink own idx y ∈ zTs) (h2 : Cond.instanceMethod y ∈ zTs) (h3 : Cond.selects C y y ∈ zTs) (h4 : Cond.initialized C ∈ zTs) (h5 : Cond.code y bytes maxL ret ∈ zTs) : GoodIn zTs (wsV own idx C y (zwsy y bytes maxL ret)) := by
  intro w hw
  have : w ∈ zTs := by
    simp only [wsV, zwsy, List.mem_append, List.mem_cons, List.not_mem_nil, or_false] at hw
    rcases hw with (rfl | rfl | rfl | rfl) | rfl | hw
    · exact h1
    · exact h2
    · exact h3
    · exact h4
    · exact h5
    · exact hw
  exact ⟨this, zTs_good w this⟩
theorem zs_start (Γ : zGa p s m args c cc nL own G A) {f : zF} {H : Heap} {locs : List Loc} {ls : Array Slot} (hH : zHo s G A nL f H locs ls) {U : State} (hU : U.heap = H) (hW : s.WarmedH U.vm) {a : List zV} (ha : ∀ v ∈ a, zvr G v) : zPc G a f.2.2 (a.map (zc G)).toArray U := by
  have hS := hH.2.2.1.2.2.1
  refine ⟨rfl, by rw [hU]; exact hH.2.2.1.1, zws_D hH.2.2.1.2.1 (fun q h => h), va_K.moved hW.alike Γ.2.2.2.2.2.1, ?_, hH.2.2.1.2.2.2, ha, fun w hw => va_Nw.warmM hW (Γ.2.2.2.2.2.2.2.2 w hw)⟩
  rw [hU]
  exact (Γ.2.2.2.2.2.2.1.m (U := U) (H' := H) hW.alike hS.2.1 hS.1).z Γ.2.2.2.2.2.2.2.1
theorem zs_after (Γ : zGa p s m args c cc nL own G A) {f f' : zF} {t : List zV} {r : zQ} {pc' : Nat} {H : Heap} {locs : List Loc} {ls : Array Slot} {Q : State → Prop} (hH : zHo s G A nL f H locs ls) (hx : (some (Sum.inr (pc + 3, f.1, zpush r.1 t, r.2)) : zT) = some (Sum.inr (pc', f'))) (ht : ∀ v ∈ t, v ∈ f.2.1)
    (kk : ∀ (H' : Heap) (locs' : List Loc) (ls' : Array Slot), zHo s G A nL f' H' locs' ls' → W p l e R s m args below meth c H' locs' cells slots Q (F0 m pc' ls' (f'.2.1.map (zc G))))
    {H1 : Heap} {locs1 : List Loc} (hP1 : va_P G.1 vwCl (zws G r.2) H1) (hmo1 : zmo G r.2) (hrv : ∀ v, r.1 = some v → zvr G v) (hS1 : va_S A s.heap H1 locs1) : W p l e R s m args below meth c H1 locs1 cells slots Q (F0 m (pc + 3) ls ((r.1.map (zc G)).toList ++ t.map (zc G))) := by
  cases hx
  have k2 := kk H1 locs1 ls ⟨hH.1, hH.2.1, ⟨hP1, zws_D hH.2.2.1.2.1 (fun q h => Γ.2.2.2.2.2.2.2.1 q h), hS1, hmo1⟩, ?_⟩
  · have e : (zpush r.1 t).map (zc G) = (r.1.map (zc G)).toList ++ t.map (zc G) := by cases r.1 <;> rfl
    rw [← e]
    exact k2
  · refine ⟨hH.2.2.2.1, fun v hv => ?_⟩
    have hv : v ∈ zpush r.1 t := hv
    cases h1 : r.1 with
    | none => rw [h1] at hv; exact hH.2.2.2.2 v (ht v hv)
    | some u =>
      rw [h1] at hv
      rcases List.mem_cons.mp hv with rfl | hv
      · exact hrv _ h1
      · exact hH.2.2.2.2 v (ht v hv)
theorem zs_callV (Γ : zGa p s m args c cc nL own G A) {ci k idx N maxL : Nat} {C : String} {T : u_T} {y : MethodName} {bytes : ByteArray} {ret : Option FieldType} {rm : Room} {g : List zV → zM → Option zQ} (hd : decode cc pc = .ok (.invokevirtual idx, 3)) (hM : zMet l G y bytes maxL ret rm g) (hc : vwCl[ci]? = some (C, T, N)) (hc9 : ci < 9) (hz : zpr ci = 9)
    (h1 : Cond.methodLink own idx y ∈ zTs) (h2 : Cond.instanceMethod y ∈ zTs) (h3 : Cond.selects C y y ∈ zTs) (h4 : Cond.initialized C ∈ zTs) (h5 : Cond.code y bytes maxL ret ∈ zTs)
    (hyd : y.cls = C ∧ y.cls ≠ "java/lang/invoke/MethodHandle" ∧ y.cls ≠ "java/lang/invoke/VarHandle" ∧ (parseMethodDescriptor y.desc).map (fun d => d.parameters.length) = some k) (hrm : rm.cells = 0 ∧ rm.slots = 0) (hR : rm.frames + 1 ≤ R.frames ∧ 8 + (maxL + 11) + rm.locals ≤ R.locals) (hcs : cells ≤ R.cells ∧ slots ≤ R.slots) : zNx p l e R s m args below meth c cells slots G A nL pc (zcallv ci k g) := by
  intro f pc' f' hx H locs ls Q hH kk
  obtain ⟨L, st, M⟩ := f
  obtain ⟨n, t, r, hst, hb, hg, hx⟩ : ∃ n t r, st.drop k = zR ci n :: t ∧ zcats t ≤ 8 ∧ g (zR ci n :: (st.take k).reverse) M = some r ∧ (some (Sum.inr (pc + 3, L, zpush r.1 t, r.2)) : zT) = some (Sum.inr (pc', f')) := by
    unfold zcallv at hx
    dsimp only at hx
    split at hx
    · rename_i c' n t hst
      split at hx
      · rename_i hb hb2
        cases Nat.eq_of_beq_eq_true hb
        cases hg : g (zR ci n :: (st.take k).reverse) M with
        | none => rw [hg] at hx; cases hx
        | some r => rw [hg] at hx; exact ⟨n, t, r, hst, Nat.le_of_ble_eq_true hb2, hg, hx⟩
      · cases hx
    · cases hx
  cases hx
  have hM' := hM _ M r hg
  rw [hrm.1, hrm.2] at hM'
  have hst2 : st = st.take k ++ zR ci n :: t := by rw [← hst]; exact (List.take_append_drop k st).symm
  have hkl : (st.take k).length = k := by
    rw [List.length_take]
    have : (st.drop k).length = t.length + 1 := by rw [hst]; rfl
    rw [List.length_drop] at this
    omega
  have hmem : ∀ v ∈ zR ci n :: t, zvr G v := fun v hv => hH.2.2.2.2 v (by show v ∈ st; rw [hst2]; exact List.mem_append_right _ hv)
  have hmem2 : ∀ v ∈ (st.take k).reverse, zvr G v := fun v hv => hH.2.2.2.2 v (by show v ∈ st; rw [hst2]; exact List.mem_append_left _ (List.mem_reverse.mp hv))
  have hobj := zvr_in (hmem _ List.mem_cons_self) (by omega)
  obtain ⟨q0, he, -⟩ := zws_at G M hobj
  rw [zcell, zce9 hz] at he
  have hs := zc_cats G t
  have hP := hH.2.2.1.1
  have hmo := hH.2.2.1.2.2.2
  have hS := hH.2.2.1.2.2.1
  have hD := hH.2.2.1.2.1
  refine zrun_call (r := r) (rest := t.map (zc G)) (va_runV (As := ((st.take k).reverse).map (zc G)) (b := zad G ci n) ⟨Γ.1, Γ.2.1, Γ.2.2.1, Γ.2.2.2.1, Γ.2.2.2.2.1⟩ hM' (cwV k Γ.2.2.2.2.1 (zgoodV h1 h2 h3 h4 h5) rfl hrm.1 hrm.2 hyd hR)
    ⟨zPc_blind, va_recv Γ.2.2.2.2.2.1 hP hc he, fun U hU hW => ⟨rfl, by rw [hU]; exact hP, zws_D hD (fun q h => h), va_K.moved hW.alike Γ.2.2.2.2.2.1, ?_, hmo, fun v hv => ?_, fun w hw => va_Nw.warmM hW (Γ.2.2.2.2.2.2.2.2 w hw)⟩⟩ rfl (by rw [List.length_map, List.length_reverse, hkl]) hH.1.1 ?_ (lv_room (by rw [hs]; exact hb)) hd ⟨by omega, by omega⟩) hS Γ.2.2.2.2.2.2.2.1 (fun H1 locs1 hP1 hmo1 hrv hS1 => ?_)
  · have hq := Γ.2.2.2.2.2.2.1.z Γ.2.2.2.2.2.2.2.1
    rw [hU]
    have hsz : s.heap.size ≤ H.size := hS.1
    have := (Γ.2.2.2.2.2.2.1.m (U := U) (H' := H) hW.alike hS.2.1 hsz).z Γ.2.2.2.2.2.2.2.1
    exact this
  · rcases List.mem_cons.mp hv with rfl | hv
    · exact hmem _ List.mem_cons_self
    · exact hmem2 v hv
  · show st.map (zc G) = _
    rw [← List.map_reverse, List.reverse_reverse]
    conv => lhs; rw [hst2]
    rw [List.map_append]
    rfl
  · have k2 := kk H1 locs1 ls ⟨hH.1, hH.2.1, ⟨hP1, zws_D hD (fun q h => Γ.2.2.2.2.2.2.2.1 q h), hS1, hmo1⟩, ?_⟩
    · have e : (zpush r.1 t).map (zc G) = (r.1.map (zc G)).toList ++ t.map (zc G) := by cases r.1 <;> rfl
      rw [← e]
      exact k2
    · refine ⟨hH.2.2.2.1, fun v hv => ?_⟩
      have hv : v ∈ zpush r.1 t := hv
      cases h1 : r.1 with
      | none => rw [h1] at hv; exact hmem v (List.mem_cons_of_mem _ hv)
      | some u =>
        rw [h1] at hv
        rcases List.mem_cons.mp hv with rfl | hv
        · exact hrv _ h1
        · exact hmem v (List.mem_cons_of_mem _ hv)
theorem zs_calls_aux {k : Nat} {f : zF} {g : List zV → zM → Option zQ} {pc' : Nat} {f' : zF} (hx : zcalls k g pc f = some (.inr (pc', f'))) : ∃ r, zcats (f.2.1.drop k) ≤ 8 ∧ k ≤ f.2.1.length ∧ g (f.2.1.take k).reverse f.2.2 = some r ∧ (some (Sum.inr (pc + 3, f.1, zpush r.1 (f.2.1.drop k), r.2)) : zT) = some (Sum.inr (pc', f')) := by
  unfold zcalls at hx
  split at hx
  · rename_i hb hb2
    cases hg : g (f.2.1.take k).reverse f.2.2 with
    | none => rw [hg] at hx; cases hx
    | some r => rw [hg] at hx; exact ⟨r, Nat.le_of_ble_eq_true hb, Nat.le_of_ble_eq_true hb2, rfl, hx⟩
  · cases hx
theorem zs_callS (Γ : zGa p s m args c cc nL own G A) {k idx maxL : Nat} {y : MethodName} {bytes : ByteArray} {ret : Option FieldType} {rm : Room} {g : List zV → zM → Option zQ} (hd : decode cc pc = .ok (.invokestatic idx, 3)) (hM : zMet l G y bytes maxL ret rm g)
    (h1 : Cond.methodLink own idx y ∈ zTs) (h2 : Cond.static y ∈ zTs) (h4 : Cond.initialized y.cls ∈ zTs) (h5 : Cond.code y bytes maxL ret ∈ zTs)
    (hyd : y.cls ≠ "java/lang/invoke/MethodHandle" ∧ y.cls ≠ "java/lang/invoke/VarHandle" ∧ (parseMethodDescriptor y.desc).map (fun d => d.parameters.length) = some k) (hrm : rm.cells = 0 ∧ rm.slots = 0) (hR : rm.frames + 1 ≤ R.frames ∧ 8 + (maxL + 11) + rm.locals ≤ R.locals) (hcs : cells ≤ R.cells ∧ slots ≤ R.slots) : zNx p l e R s m args below meth c cells slots G A nL pc (zcalls k g) := by
  intro f pc' f' hx H locs ls Q hH kk
  obtain ⟨r, hb, hk, hg, hx2⟩ := zs_calls_aux hx
  obtain ⟨L, st, M⟩ := f
  have hM' := hM _ M r hg
  rw [hrm.1, hrm.2] at hM'
  have hs := zc_cats G (st.drop k)
  have hS := hH.2.2.1.2.2.1
  have hgood : GoodIn zTs (zwsy y bytes maxL ret) := fun w hw => by
    have : w ∈ zTs := (List.mem_cons.mp hw).elim (fun e => e ▸ h5) (fun h => h)
    exact ⟨this, zTs_good w this⟩
  refine zrun_call (r := r) (rest := (st.drop k).map (zc G)) (va_runS (n := k) (As := ((st.take k).reverse).map (zc G)) ⟨Γ.1, Γ.2.1, Γ.2.2.1, Γ.2.2.2.1, Γ.2.2.2.2.1⟩ hM' ⟨callB_of k Γ.2.2.2.2.1 hgood rfl hrm.1 hrm.2 (Γ.2.2.2.2.1 _ h4) (Γ.2.2.2.2.1 _ h1) hyd hR, Γ.2.2.2.2.1 _ h2⟩
    ⟨zPc_blind, fun U hU hW => zs_start Γ hH hU hW (fun v hv => hH.2.2.2.2 v (List.mem_of_mem_take (List.mem_reverse.mp hv)))⟩ rfl (by rw [List.length_map, List.length_reverse, List.length_take]; exact Nat.min_eq_left hk) hH.1.1 ?_ (lv_room (by rw [hs]; exact hb)) hd ⟨by omega, by omega⟩) hS Γ.2.2.2.2.2.2.2.1 (fun H1 locs1 hP1 hmo1 hrv hS1 => zs_after Γ hH hx2 (fun v hv => List.mem_of_mem_drop hv) kk hP1 hmo1 hrv hS1)
  show st.map (zc G) = _
  rw [← List.map_reverse, List.reverse_reverse, ← List.map_append, List.take_append_drop]
theorem zs_callN (Γ : zGa p s m args c cc nL own G A) {k idx maxL : Nat} {y : MethodName} {host : String} {bytes : ByteArray} {ret : Option FieldType} {rm : Room} {g : List zV → zM → Option zQ} (hd : decode cc pc = .ok (.invokestatic idx, 3)) (hM : zMet l G y bytes maxL ret rm g)
    (h1 : (own, idx, y, host) ∈ zNd) (h2 : Cond.static y ∈ zTs) (h4 : Cond.initialized y.cls ∈ zTs) (h5 : Cond.code y bytes maxL ret ∈ zTs)
    (hyd : y.cls ≠ "java/lang/invoke/MethodHandle" ∧ y.cls ≠ "java/lang/invoke/VarHandle" ∧ (parseMethodDescriptor y.desc).map (fun d => d.parameters.length) = some k) (hrm : rm.cells = 0 ∧ rm.slots = 0) (hR : rm.frames + 1 ≤ R.frames ∧ 8 + (maxL + 11) + rm.locals ≤ R.locals) (hcs : cells ≤ R.cells ∧ slots ≤ R.slots) : zNx p l e R s m args below meth c cells slots G A nL pc (zcalls k g) := by
  intro f pc' f' hx H locs ls Q hH kk
  obtain ⟨r, hb, hk, hg, hx2⟩ := zs_calls_aux hx
  obtain ⟨L, st, M⟩ := f
  have hM' := hM _ M r hg
  rw [hrm.1, hrm.2] at hM'
  have hs := zc_cats G (st.drop k)
  have hS := hH.2.2.1.2.2.1
  have hgood : GoodIn zTs (zwsy y bytes maxL ret) := fun w hw => by
    have : w ∈ zTs := (List.mem_cons.mp hw).elim (fun e => e ▸ h5) (fun h => h)
    exact ⟨this, zTs_good w this⟩
  refine zrun_call (r := r) (rest := (st.drop k).map (zc G)) (va_runSN (host := host) (n := k) (As := ((st.take k).reverse).map (zc G)) ⟨Γ.1, Γ.2.1, Γ.2.2.1, Γ.2.2.2.1, Γ.2.2.2.2.1⟩ hM' ⟨va_cnB k Γ.2.2.2.2.1 hgood rfl hrm.1 hrm.2 (Γ.2.2.2.2.2.2.2.2 _ h1) (Γ.2.2.2.2.1 _ h4) hyd hR, Γ.2.2.2.2.1 _ h2, trivial⟩
    ⟨zPc_blind, fun U hU hW => zs_start Γ hH hU hW (fun v hv => hH.2.2.2.2 v (List.mem_of_mem_take (List.mem_reverse.mp hv)))⟩ rfl (by rw [List.length_map, List.length_reverse, List.length_take]; exact Nat.min_eq_left hk) hH.1.1 ?_ (lv_room (by rw [hs]; exact hb)) hd ⟨by omega, by omega⟩) hS Γ.2.2.2.2.2.2.2.1 (fun H1 locs1 hP1 hmo1 hrv hS1 => zs_after Γ hH hx2 (fun v hv => List.mem_of_mem_drop hv) kk hP1 hmo1 hrv hS1)
  show st.map (zc G) = _
  rw [← List.map_reverse, List.reverse_reverse, ← List.map_append, List.take_append_drop]
end ZS3
end
section
-- ===== answers; no other instruction answers =====
theorem no_zxc (v : zV) (k : Nat) : zno (zxc v k) := by
  intro pc f r h
  cases h
theorem no_ziload (i : Nat) (k : Nat) : zno (ziload i k) := by
  intro pc f r h
  unfold ziload at h
  repeat' split at h
  all_goals cases h
theorem no_zlload (i : Nat) (k : Nat) : zno (zlload i k) := by
  intro pc f r h
  unfold zlload at h
  repeat' split at h
  all_goals cases h
theorem no_zaload (i : Nat) (k : Nat) : zno (zaload i k) := by
  intro pc f r h
  unfold zaload at h
  repeat' split at h
  all_goals cases h
theorem no_zistore (i : Nat) (k : Nat) : zno (zistore i k) := by
  intro pc f r h
  unfold zistore at h
  repeat' split at h
  all_goals cases h
theorem no_zlstore (i : Nat) (k : Nat) : zno (zlstore i k) := by
  intro pc f r h
  unfold zlstore at h
  repeat' split at h
  all_goals cases h
theorem no_zastore (i : Nat) (k : Nat) : zno (zastore i k) := by
  intro pc f r h
  unfold zastore at h
  repeat' split at h
  all_goals cases h
theorem no_ziinc (i : Nat) (d : Int32) : zno (ziinc i d) := by
  intro pc f r h
  unfold ziinc at h
  repeat' split at h
  all_goals cases h
theorem no_zbin (g : Int32 → Int32 → Int32) : zno (zbin g) := by
  intro pc f r h
  unfold zbin at h
  repeat' split at h
  all_goals cases h
theorem no_zdiv (g : Int32 → Int32 → Int32) : zno (zdiv g) := by
  intro pc f r h
  unfold zdiv at h
  repeat' split at h
  all_goals cases h
theorem no_zlbin (g : Int64 → Int64 → Int64) : zno (zlbin g) := by
  intro pc f r h
  unfold zlbin at h
  repeat' split at h
  all_goals cases h
theorem no_zlsh (g : Int64 → Int32 → Int64) : zno (zlsh g) := by
  intro pc f r h
  unfold zlsh at h
  repeat' split at h
  all_goals cases h
theorem no_zi2l  : zno (zi2l) := by
  intro pc f r h
  unfold zi2l at h
  repeat' split at h
  all_goals cases h
theorem no_zl2i  : zno (zl2i) := by
  intro pc f r h
  unfold zl2i at h
  repeat' split at h
  all_goals cases h
theorem no_zi2c  : zno (zi2c) := by
  intro pc f r h
  unfold zi2c at h
  repeat' split at h
  all_goals cases h
theorem no_zun (g : Int32 → Int32) : zno (zun g) := by
  intro pc f r h
  unfold zun at h
  repeat' split at h
  all_goals cases h
theorem no_zlcmp  : zno (zlcmp) := by
  intro pc f r h
  unfold zlcmp at h
  repeat' split at h
  all_goals cases h
theorem no_zdup  : zno (zdup) := by
  intro pc f r h
  unfold zdup at h
  repeat' split at h
  all_goals cases h
theorem no_zdup2  : zno (zdup2) := by
  intro pc f r h
  unfold zdup2 at h
  repeat' split at h
  all_goals cases h
theorem no_zpop  : zno (zpop) := by
  intro pc f r h
  unfold zpop at h
  repeat' split at h
  all_goals cases h
theorem no_zgoto (t : Nat) : zno (zgoto t) := by
  intro pc f r h
  cases h
theorem no_zifeq (t : Nat) : zno (zifeq t) := by
  intro pc f r h
  unfold zifeq at h
  repeat' split at h
  all_goals cases h
theorem no_zifne (t : Nat) : zno (zifne t) := by
  intro pc f r h
  unfold zifne at h
  repeat' split at h
  all_goals cases h
theorem no_ziflt (t : Nat) : zno (ziflt t) := by
  intro pc f r h
  unfold ziflt at h
  repeat' split at h
  all_goals cases h
theorem no_zifge (t : Nat) : zno (zifge t) := by
  intro pc f r h
  unfold zifge at h
  repeat' split at h
  all_goals cases h
theorem no_zifgt (t : Nat) : zno (zifgt t) := by
  intro pc f r h
  unfold zifgt at h
  repeat' split at h
  all_goals cases h
theorem no_zifle (t : Nat) : zno (zifle t) := by
  intro pc f r h
  unfold zifle at h
  repeat' split at h
  all_goals cases h
theorem no_zceq (t : Nat) : zno (zceq t) := by
  intro pc f r h
  unfold zceq at h
  repeat' split at h
  all_goals cases h
theorem no_zcne (t : Nat) : zno (zcne t) := by
  intro pc f r h
  unfold zcne at h
  repeat' split at h
  all_goals cases h
theorem no_zclt (t : Nat) : zno (zclt t) := by
  intro pc f r h
  unfold zclt at h
  repeat' split at h
  all_goals cases h
theorem no_zcge (t : Nat) : zno (zcge t) := by
  intro pc f r h
  unfold zcge at h
  repeat' split at h
  all_goals cases h
theorem no_zcgt (t : Nat) : zno (zcgt t) := by
  intro pc f r h
  unfold zcgt at h
  repeat' split at h
  all_goals cases h
theorem no_zcle (t : Nat) : zno (zcle t) := by
  intro pc f r h
  unfold zcle at h
  repeat' split at h
  all_goals cases h
theorem no_znull (t : Nat) : zno (znull t) := by
  intro pc f r h
  unfold znull at h
  repeat' split at h
  all_goals cases h
theorem no_znonnull (t : Nat) : zno (znonnull t) := by
  intro pc f r h
  unfold znonnull at h
  repeat' split at h
  all_goals cases h
theorem no_zsw (cs : List (Int32 × Nat)) (d : Nat) : zno (zsw cs d) := by
  intro pc f r h
  unfold zsw at h
  repeat' split at h
  all_goals cases h
theorem no_zgetI (c : Nat) (k : Nat) : zno (zgetI c k) := by
  intro pc f r h
  unfold zgetI at h
  repeat' split at h
  all_goals cases h
theorem no_zgetJ (c : Nat) (k : Nat) : zno (zgetJ c k) := by
  intro pc f r h
  unfold zgetJ at h
  repeat' split at h
  all_goals cases h
theorem no_zgetR (c : Nat) (c2 : Nat) (g : Nat → Nat) : zno (zgetR c c2 g) := by
  intro pc f r h
  unfold zgetR at h
  repeat' split at h
  all_goals cases h
theorem no_zputI (c : Nat) (k : Nat) : zno (zputI c k) := by
  intro pc f r h
  unfold zputI at h
  repeat' split at h
  all_goals cases h
theorem no_zputZ (c : Nat) (k : Nat) : zno (zputZ c k) := by
  intro pc f r h
  unfold zputZ at h
  repeat' split at h
  all_goals cases h
theorem no_zputJ (c : Nat) (k : Nat) : zno (zputJ c k) := by
  intro pc f r h
  unfold zputJ at h
  repeat' split at h
  all_goals cases h
theorem no_ziald  : zno (ziald) := by
  intro pc f r h
  unfold ziald at h
  repeat' split at h
  all_goals cases h
theorem no_zcald  : zno (zcald) := by
  intro pc f r h
  unfold zcald at h
  repeat' split at h
  all_goals cases h
theorem no_zlald  : zno (zlald) := by
  intro pc f r h
  unfold zlald at h
  repeat' split at h
  all_goals cases h
theorem no_zaald  : zno (zaald) := by
  intro pc f r h
  unfold zaald at h
  repeat' split at h
  all_goals cases h
theorem no_ziast  : zno (ziast) := by
  intro pc f r h
  unfold ziast at h
  repeat' split at h
  all_goals cases h
theorem no_zcast  : zno (zcast) := by
  intro pc f r h
  unfold zcast at h
  repeat' split at h
  all_goals cases h
theorem no_zlast  : zno (zlast) := by
  intro pc f r h
  unfold zlast at h
  repeat' split at h
  all_goals cases h
theorem no_zaast  : zno (zaast) := by
  intro pc f r h
  unfold zaast at h
  repeat' split at h
  all_goals cases h
theorem no_zalen  : zno (zalen) := by
  intro pc f r h
  unfold zalen at h
  repeat' split at h
  all_goals cases h
theorem no_zcopy  : zno (zcopy) := by
  intro pc f r h
  unfold zcopy at h
  repeat' split at h
  all_goals cases h
theorem no_zmin  : zno (zmin) := by
  intro pc f r h
  unfold zmin at h
  repeat' split at h
  all_goals cases h
theorem no_zcalls (k : Nat) (g : List zV → zM → Option zQ) : zno (zcalls k g) := by
  intro pc f r h
  unfold zcalls at h
  split at h
  · cases hg : g (f.2.1.take k).reverse f.2.2 with
    | none => rw [hg] at h; cases h
    | some q => rw [hg] at h; cases h
  · cases h
theorem no_zcallv (c k : Nat) (g : List zV → zM → Option zQ) : zno (zcallv c k g) := by
  intro pc f r h
  unfold zcallv at h
  split at h
  · rename_i c' n st hst
    split at h
    · cases hg : g (zR c n :: (f.2.1.take k).reverse) f.2.2 with
      | none => rw [hg] at h; cases h
      | some q => rw [hg] at h; cases h
    · cases h
  · cases h
section ZS4
variable {p : Program} {l : Launch} {e : Env} {R : Room} {s : State} {m : MethodId} {args : Array Value} {below : List Frame} {meth : Method} {c : Code} {cells slots : Nat} {cc : ByteArray} {nL : Nat} {own : String} {G : zG} {A : Nat → Prop} {pc : Nat}
theorem zQc_of {M : zM} {H : Heap} {locs : List Loc} {v : Option zV} (hW : zWd G (zA G) s.heap M H locs) (hv : ∀ w, v = some w → zvr G w) (t : State) (ht : t.heap = H) : zQc G (v, M) args s (.returned (v.map (zc G))) t :=
  ⟨rfl, by rw [ht]; exact hW.1, hW.2.2.2, hv, hW.2.2.1.F ht⟩
theorem zr_vret (Γ : zGa p s m args c cc nL own G (zA G)) (hr : meth.sig.returnType = none) (hlocks : meth.locks = false) (hd : decode cc pc = .ok (.return_, 1)) : zRt p l e R s m args below meth c cells slots G nL pc zvret := by
  intro f r hx H locs ls hH
  obtain ⟨L, st, M⟩ := f
  unfold zvret at hx
  dsimp only at hx
  split at hx
  · cases hx
    exact W.vret Γ.1 Γ.2.1 hr (fun t ht hW => zQc_of hH.2.2.1 (fun w h => by cases h) t ht) hH.2.2.1.2.2.1.2.2 hd
  · cases hx
theorem zr_iret (Γ : zGa p s m args c cc nL own G (zA G)) (hr : meth.sig.returnType = some .int) (hlocks : meth.locks = false) (hd : decode cc pc = .ok (.ireturn, 1)) : zRt p l e R s m args below meth c cells slots G nL pc ziret := by
  intro f r hx H locs ls hH
  obtain ⟨L, st, M⟩ := f
  unfold ziret at hx
  dsimp only at hx
  split at hx
  · rename_i x
    cases hx
    exact W.iret (v := x) Γ.1 Γ.2.1 hr (fun t ht hW => zQc_of (v := some (zI x)) hH.2.2.1 (fun w h => by cases h; exact trivial) t ht) hH.2.2.1.2.2.1.2.2 hd
  · cases hx
theorem zr_zret (Γ : zGa p s m args c cc nL own G (zA G)) (hr : meth.sig.returnType = some .boolean) (hlocks : meth.locks = false) (hd : decode cc pc = .ok (.ireturn, 1)) : zRt p l e R s m args below meth c cells slots G nL pc zzret := by
  intro f r hx H locs ls hH
  obtain ⟨L, st, M⟩ := f
  unfold zzret at hx
  dsimp only at hx
  split at hx
  · rename_i x
    by_cases h0 : x = 0 ∨ x = 1
    · have hx : (some (Sum.inl (some (zI x), M)) : zT) = some (.inl r) := by rw [if_pos h0] at hx; exact hx
      cases hx
      have hn : narrow .boolean (.int x) = .int x := by rcases h0 with rfl | rfl <;> rfl
      exact W.zret (v := x) Γ.1 Γ.2.1 hr hn (fun t ht hW => zQc_of (v := some (zI x)) hH.2.2.1 (fun w h => by cases h; exact trivial) t ht) hH.2.2.1.2.2.1.2.2 hd
    · rw [if_neg h0] at hx; cases hx
  · cases hx
theorem zr_lret (Γ : zGa p s m args c cc nL own G (zA G)) (hr : meth.sig.returnType = some .long) (hlocks : meth.locks = false) (hd : decode cc pc = .ok (.lreturn, 1)) : zRt p l e R s m args below meth c cells slots G nL pc zlret := by
  intro f r hx H locs ls hH
  obtain ⟨L, st, M⟩ := f
  unfold zlret at hx
  dsimp only at hx
  split at hx
  · rename_i x
    cases hx
    exact W.lret (v := x) Γ.1 Γ.2.1 hr (fun t ht hW => zQc_of (v := some (zJ x)) hH.2.2.1 (fun w h => by cases h; exact trivial) t ht) hH.2.2.1.2.2.1.2.2 hd
  · cases hx
theorem zr_aret (Γ : zGa p s m args c cc nL own G (zA G)) {rt : FieldType} (hr : meth.sig.returnType = some rt) (hrt : (∃ n, rt = .object n) ∨ ∃ t, rt = .array t) (hlocks : meth.locks = false) (hd : decode cc pc = .ok (.areturn, 1)) : zRt p l e R s m args below meth c cells slots G nL pc zaret := by
  intro f r hx H locs ls hH
  obtain ⟨L, st, M⟩ := f
  unfold zaret at hx
  dsimp only at hx
  split at hx
  · rename_i x
    cases hx
    have hv : zc G (.inr (.inr x)) = .null ∨ ∃ a, zc G (.inr (.inr x)) = .ref a := by
      cases x with
      | none => exact Or.inl rfl
      | some q => exact Or.inr ⟨_, rfl⟩
    exact W.aret (v := zc G (.inr (.inr x))) Γ.1 Γ.2.1 hr hrt hv (fun t ht hW => zQc_of (v := some (.inr (.inr x))) hH.2.2.1 (fun w h => by cases h; exact hH.2.2.2.t) t ht) hH.2.2.1.2.2.1.2.2 hd
  · cases hx
theorem zswt_in (cs : List (Int32 × Nat)) (d : Nat) (x : Int32) : (∃ t, (x, t) ∈ cs ∧ zswt cs d x = t) ∨ ((∀ q ∈ cs, q.1 ≠ x) ∧ zswt cs d x = d) := by
  induction cs with
  | nil => exact Or.inr ⟨fun q h => (List.not_mem_nil h).elim, rfl⟩
  | cons a r ih =>
    obtain ⟨k, t⟩ := a
    by_cases hk : x = k
    · subst hk
      exact Or.inl ⟨t, List.mem_cons_self, by simp [zswt]⟩
    · rcases ih with ⟨t', h1, h2⟩ | ⟨h1, h2⟩
      · exact Or.inl ⟨t', List.mem_cons_of_mem _ h1, by simp [zswt, hk, h2]⟩
      · refine Or.inr ⟨fun q hq => ?_, by simp [zswt, hk, h2]⟩
        rcases List.mem_cons.mp hq with rfl | hq
        · exact fun z => hk z.symm
        · exact h1 q hq
theorem zs_table (Γ : zGa p s m args c cc nL own G A) {dflt lo hi : Int} {offs : Array Int} {len d : Nat} {cs : List (Int32 × Nat)} (hd : decode cc pc = .ok (.tableswitch dflt lo hi offs, len)) (hdf : (pc : Int) + dflt = (d : Int)) (hcs : ∀ q ∈ cs, lo ≤ q.1.toInt ∧ q.1.toInt ≤ hi ∧ offs[(q.1.toInt - lo).toNat]? = some ((q.2 : Int) - (pc : Int))) (hall : ∀ i : Nat, i < offs.size → ∃ q ∈ cs, q.1.toInt = lo + i) (hsz : hi - lo + 1 = offs.size) : zNx p l e R s m args below meth c cells slots G A nL pc (zsw cs d) := by
  intro f pc' f' hx H locs ls Q hH kk
  obtain ⟨L, st, M⟩ := f
  obtain ⟨x, t, rfl, hx2⟩ : ∃ x t, st = zI x :: t ∧ (some (Sum.inr (zswt cs d x, L, t, M)) : zT) = some (Sum.inr (pc', f')) := by
    unfold zsw at hx
    dsimp only at hx
    split at hx
    · rename_i x t; exact ⟨x, t, rfl, hx⟩
    · cases hx
  cases hx2
  have k2 := kk H locs ls ⟨hH.1, hH.2.1, hH.2.2.1, (hH.2.2.2).d⟩
  rcases zswt_in cs d x with ⟨t', h1, h2⟩ | ⟨h1, h2⟩
  · rw [h2] at k2
    obtain ⟨g1, g2, g3⟩ := hcs _ h1
    exact lv_tableIn Γ.1 Γ.2.1 hd (by dsimp only at g1; omega) (by dsimp only at g2; omega) g3 (by dsimp only; omega) k2
  · rw [h2] at k2
    refine lv_tableOut Γ.1 Γ.2.1 hd ?_ hdf k2
    apply Classical.byContradiction
    intro hn
    have hi1 : (x.toInt - lo).toNat < offs.size := by omega
    obtain ⟨q, q1, q2⟩ := hall _ hi1
    exact h1 q q1 (Int32.toInt_inj.mp (by omega))
theorem zs_lookup (Γ : zGa p s m args c cc nL own G A) {dflt : Int} {ps : Array (Int × Int)} {len d : Nat} {cs : List (Int32 × Nat)} (hd : decode cc pc = .ok (.lookupswitch dflt ps, len)) (hp : (ps.toList.zip (ps.toList.drop 1)).all (fun (a, next) => a.1 < next.1) = true) (hdf : (pc : Int) + dflt = (d : Int)) (hcs : ps.toList = cs.map (fun q => (q.1.toInt, (q.2 : Int) - (pc : Int)))) : zNx p l e R s m args below meth c cells slots G A nL pc (zsw cs d) := by
  intro f pc' f' hx H locs ls Q hH kk
  obtain ⟨L, st, M⟩ := f
  obtain ⟨x, t, rfl, hx2⟩ : ∃ x t, st = zI x :: t ∧ (some (Sum.inr (zswt cs d x, L, t, M)) : zT) = some (Sum.inr (pc', f')) := by
    unfold zsw at hx
    dsimp only at hx
    split at hx
    · rename_i x t; exact ⟨x, t, rfl, hx⟩
    · cases hx
  cases hx2
  have k2 := kk H locs ls ⟨hH.1, hH.2.1, hH.2.2.1, (hH.2.2.2).d⟩
  have ho : ∀ cs : List (Int32 × Nat), Op.lookupswitch.offset (cs.map (fun q => (q.1.toInt, (q.2 : Int) - (pc : Int)))) dflt x.toInt = (zswt cs d x : Int) - (pc : Int) := by
    intro cs
    induction cs with
    | nil => show dflt = _; simp only [zswt]; omega
    | cons a r ih =>
      obtain ⟨k, t⟩ := a
      rw [List.map_cons, Op.lookupswitch.offset_cons]
      by_cases hk : x = k
      · subst hk; simp [zswt]
      · have hk2 : ¬ k.toInt = x.toInt := fun z => hk (Int32.toInt_inj.mp z).symm
        have hk3 : ¬ x.toInt = k.toInt := fun z => hk2 z.symm
        simp only [zswt, hk, if_false]
        first
          | rw [if_neg hk2]; exact ih
          | rw [if_neg hk3]; exact ih
          | (simp [hk2, hk3]; exact ih)
  have ho2 : Op.lookupswitch.offset ps.toList dflt x.toInt = (zswt cs d x : Int) - (pc : Int) := by rw [hcs]; exact ho cs
  exact lv_lookup Γ.1 Γ.2.1 hd hp ho2 (by omega) k2
theorem zwalk {C : Nat → zX} (h : ∀ pc, zNx p l e R s m args below meth c cells slots G A nL pc (C pc)) {Q : State → Prop} {r : zQ} (hret : ∀ (pc : Nat) (f : zF), C pc pc f = some (.inl r) → ∀ (H : Heap) (locs : List Loc) (ls : Array Slot), zHo s G A nL f H locs ls → W p l e R s m args below meth c H locs cells slots Q (F0 m pc ls (f.2.1.map (zc G)))) :
    ∀ (n pc : Nat) (f : zF), zrun C n pc f = some r → ∀ (H : Heap) (locs : List Loc) (ls : Array Slot), zHo s G A nL f H locs ls → W p l e R s m args below meth c H locs cells slots Q (F0 m pc ls (f.2.1.map (zc G))) := by
  intro n
  induction n with
  | zero => intro pc f h; cases h
  | succ n ih =>
    intro pc f hr H locs ls hH
    rw [zrun] at hr
    cases hc : C pc pc f with
    | none => rw [hc] at hr; cases hr
    | some t =>
      rw [hc] at hr
      cases t with
      | inl q => cases hr; exact hret pc f hc H locs ls hH
      | inr q => exact h pc f q.1 q.2 hc H locs ls Q hH (fun H' locs' ls' hH' => ih q.1 q.2 hr H' locs' ls' hH')
end ZS4
theorem zlay_sl (G : zG) : ∀ a : List zV, (lg_sl (a.map (zc G))).length = (zlay a).length
  | [] => rfl
  | v :: t => by
    have ih := zlay_sl G t
    rcases v with x | x | _ | x <;> simp [lg_sl, zlay, zc, Value.category] at ih ⊢ <;> omega
theorem zlay_args (G : zG) (k : Nat) : ∀ (a : List zV) (i : Nat) (q : Nat × Value), q ∈ zlv G i (zlay a ++ List.replicate k none) → q ∈ lv_args i (a.map (zc G))
  | [], i, q, h => by
    obtain ⟨j, v, h1, -⟩ := (zlv_mem _ _ _).mp h
    have : ∀ (k j : Nat), zget (List.replicate k none) j = none := by
      intro k
      induction k with
      | zero => intro j; rfl
      | succ k ih =>
        intro j
        cases j with
        | zero => rfl
        | succ j => exact ih j
    have h1 : zget (List.replicate k none) j = some v := h1
    rw [this] at h1; cases h1
  | v :: t, i, q, h => by
    rcases v with x | x | _ | x
    · rcases List.mem_cons.mp (show q ∈ (i, zc G (zI x)) :: zlv G (i + 1) (zlay t ++ List.replicate k none) from h) with rfl | h
      · exact List.mem_cons_self
      · exact List.mem_cons_of_mem _ (zlay_args G k t (i + 1) q h)
    · rcases List.mem_cons.mp (show q ∈ (i, zc G (zJ x)) :: zlv G (i + 1 + 1) (zlay t ++ List.replicate k none) from h) with rfl | h
      · exact List.mem_cons_self
      · exact List.mem_cons_of_mem _ (zlay_args G k t (i + 1 + 1) q h)
    · rcases List.mem_cons.mp (show q ∈ (i, zc G zN) :: zlv G (i + 1) (zlay t ++ List.replicate k none) from h) with rfl | h
      · exact List.mem_cons_self
      · exact List.mem_cons_of_mem _ (zlay_args G k t (i + 1) q h)
    · rcases List.mem_cons.mp (show q ∈ (i, zc G (.inr (.inr (some x)))) :: zlv G (i + 1) (zlay t ++ List.replicate k none) from h) with rfl | h
      · exact List.mem_cons_self
      · exact List.mem_cons_of_mem _ (zlay_args G k t (i + 1) q h)
theorem zent_ok {G : zG} (nL : Nat) (a : List zV) (h : ∀ v ∈ a, zvr G v) : zok G (zent nL a) [] := by
  refine ⟨fun i v hv => ?_, fun v hv => by cases hv⟩
  have key : ∀ (k : Nat) (a : List zV) (i : Nat) (v : zV), zget (zlay a ++ List.replicate k none) i = some v → v ∈ a := by
    intro k a
    induction a with
    | nil =>
      intro i v h
      have : ∀ (k j : Nat), zget (List.replicate k none) j = none := by
        intro k
        induction k with
        | zero => intro j; rfl
        | succ k ih =>
          intro j
          cases j with
          | zero => rfl
          | succ j => exact ih j
      have h1 : zget (List.replicate k none) i = some v := h
      rw [this] at h1; cases h1
    | cons w t ih =>
      intro i v h
      rcases w with x | x | x
      · cases i with
        | zero => cases h; exact List.mem_cons_self
        | succ i => exact List.mem_cons_of_mem _ (ih i v h)
      · cases i with
        | zero => cases h; exact List.mem_cons_self
        | succ i =>
          cases i with
          | zero => cases h
          | succ i => exact List.mem_cons_of_mem _ (ih i v h)
      · cases i with
        | zero => cases h; exact List.mem_cons_self
        | succ i => exact List.mem_cons_of_mem _ (ih i v h)
  exact h v (key _ a i v hv)
/-- a method: what its instructions do, it does -/
theorem zmeth {l : Launch} {G : zG} {C : Nat → zX} {y : MethodName} {bytes : ByteArray} {maxL : Nat} {ret : Option FieldType} {rm : Room} (hrm : rm.cells = 0 ∧ rm.slots = 0) (hy : plainName y.cls = true)
    (hin : ∀ {p : Program} {e : Env} {s : State} {m : MethodId} {args : Array Value} {below : List Frame} {meth : Method} {c : Code}, zGa p s m args c bytes maxL y.cls G (zA G) → meth.sig.returnType = ret → meth.locks = false → ∀ pc, zNx p l e rm s m args below meth c 0 0 G (zA G) maxL pc (C pc) ∧ zRt p l e rm s m args below meth c 0 0 G maxL pc (C pc)) :
    zMet l G y bytes maxL ret rm (zdn C maxL) := by
  intro a M r hg
  rw [hrm.1, hrm.2]
  have hln : (zlay a).length ≤ maxL := by
    unfold zdn at hg
    split at hg
    · rename_i h; exact Nat.le_of_ble_eq_true h
    · cases hg
  have hg : zev C 0 (zent maxL a, [], M) = some r := by
    unfold zdn at hg
    split at hg
    · exact hg
    · cases hg
  obtain ⟨n, hn⟩ := zev_iff.mp hg
  refine Met.ofW (cc := bytes) (maxL := maxL) (ret := ret) hy rfl ?_
  intro p e s m args below meth c s₁ B hml hv
  obtain ⟨rfl, hP, hD, hK, hro, hmo, hav, hne⟩ := hv
  have hts := atoms_spec (ws := zwsy y bytes maxL ret) B.pre
  have Γ : zGa p s m (a.map (zc G)).toArray c bytes maxL y.cls G (zA G) := ⟨B.exec, B.bytes, hml, findClass_of_methodNamed B.named, fun w hw => hts w (List.mem_cons_of_mem _ hw), hK, hro, fun q h => h, hne⟩
  have hlen : (lg_sl (a.map (zc G))).length ≤ maxL := by rw [zlay_sl]; exact hln
  have hl := lv_entry (a.map (zc G)) hlen
  rw [lg_entry_eq]
  generalize (lg_sl (a.map (zc G)) ++ List.replicate (maxL - (lg_sl (a.map (zc G))).length) Slot.unset).toArray = ls at hl ⊢
  have hI := hin (e := e) (below := below) Γ B.returns B.notSynchronized
  refine zwalk (fun pc => (hI pc).1) (fun pc f hc H locs ls hH => (hI pc).2 f r hc H locs ls hH) n 0 (zent maxL a, [], M) hn s.heap [] ls ⟨⟨hl.1, hl.2.1, fun q hq => hl.2.2 q (zlay_args G _ a 0 q hq)⟩, ?_, ⟨hP, hD, va_S.rf, hmo⟩, zent_ok maxL a hav⟩
  show (zlay a ++ List.replicate _ none).length = maxL
  rw [List.length_append, List.length_replicate]
  omega
/-- out of a list of instructions -/
def zAll (P : Nat → zX → Prop) : List (Nat × zX) → Prop
  | [] => True
  | (k, x) :: t => P k x ∧ zAll P t
theorem zfind_all {P : Nat → zX → Prop} (h0 : ∀ pc, P pc (fun _ _ => none)) : ∀ {L : List (Nat × zX)}, zAll P L → ∀ pc, P pc (zfind L pc)
  | [], _, pc => h0 pc
  | (k, x) :: t, h, pc => by
    rw [zfind]
    cases hb : Nat.beq k pc with
    | true => cases Nat.eq_of_beq_eq_true hb; exact h.1
    | false => exact zfind_all h0 h.2 pc

/-- one instruction in a method without room of its own -/
abbrev zP (p : Program) (l : Launch) (e : Env) (R : Room) (s : State) (m : MethodId) (args : Array Value) (below : List Frame) (meth : Method) (c : Code) (G : zG) (nL pc : Nat) (x : zX) : Prop := zNx p l e R s m args below meth c 0 0 G (zA G) nL pc x ∧ zRt p l e R s m args below meth c 0 0 G nL pc x
theorem zmethL {l : Launch} {G : zG} {L : List (Nat × zX)} {y : MethodName} {bytes : ByteArray} {maxL : Nat} {ret : Option FieldType} {rm : Room} (hrm : rm.cells = 0 ∧ rm.slots = 0) (hy : plainName y.cls = true)
    (hin : ∀ {p : Program} {e : Env} {s : State} {m : MethodId} {args : Array Value} {below : List Frame} {meth : Method} {c : Code}, zGa p s m args c bytes maxL y.cls G (zA G) → meth.sig.returnType = ret → meth.locks = false → zAll (fun pc x => zP p l e rm s m args below meth c G maxL pc x) L) :
    zMet l G y bytes maxL ret rm (zdn (zfind L) maxL) := by
  refine zmeth hrm hy (fun {p e s m args below meth c} Γ hr hk pc => ?_)
  exact zfind_all (P := fun pc x => zP p l e rm s m args below meth c G maxL pc x) (fun pc => ⟨fun f pc' f' h => (by cases h), fun f r h => (by cases h)⟩) (hin Γ hr hk) pc
theorem zAl_c {P : Nat → zX → Prop} {k : Nat} {x : zX} {t : List (Nat × zX)} (h : P k x) (ht : zAll P t) : zAll P ((k, x) :: t) := ⟨h, ht⟩
theorem zAl_n {P : Nat → zX → Prop} : zAll P [] := trivial
theorem zAl_a {P : Nat → zX → Prop} : ∀ {a b : List (Nat × zX)}, zAll P a → zAll P b → zAll P (a ++ b)
  | [], _, _, hb => hb
  | (_, _) :: _, _, ha, hb => ⟨ha.1, zAl_a ha.2 hb⟩
theorem zny {p : Program} {l : Launch} {e : Env} {R : Room} {s : State} {m : MethodId} {args : Array Value} {below : List Frame} {meth : Method} {c : Code} {G : zG} {nL pc : Nat} {x : zX} (h : ∀ (f : zF) (q : Nat × zF), x pc f ≠ some (.inr q)) : zNx p l e R s m args below meth c 0 0 G (zA G) nL pc x := fun f pc' f' hx => absurd hx (h f (pc', f'))
theorem ny_v (pc : Nat) (f : zF) (q : Nat × zF) : zvret pc f ≠ some (.inr q) := by
  intro h
  unfold zvret at h
  split at h <;> cases h
theorem ny_i (pc : Nat) (f : zF) (q : Nat × zF) : ziret pc f ≠ some (.inr q) := by
  intro h
  unfold ziret at h
  split at h <;> cases h
theorem ny_z (pc : Nat) (f : zF) (q : Nat × zF) : zzret pc f ≠ some (.inr q) := by
  intro h
  unfold zzret at h
  repeat' split at h
  all_goals cases h
theorem ny_l (pc : Nat) (f : zF) (q : Nat × zF) : zlret pc f ≠ some (.inr q) := by
  intro h
  unfold zlret at h
  split at h <;> cases h
theorem ny_a (pc : Nat) (f : zF) (q : Nat × zF) : zaret pc f ≠ some (.inr q) := by
  intro h
  unfold zaret at h
  split at h <;> cases h
theorem zin_X (c : Nat) {C : String} {T : u_T} {N : Nat} (h : (u_ws C T N).all (fun w => decide (w ∈ lw_tbl) && goodWord w) = true) : ∀ w ∈ u_ws C T N, w ∈ zTs := fun w hw => by
  have h1 := List.all_eq_true.mp h w hw
  simp only [Bool.and_eq_true, decide_eq_true_eq] at h1
  exact zTs_of h1.1 h1.2
theorem zget_drs : ∀ (L : List (Option zV)) (ks : List Bool) (i : Nat) (v : zV), zget (zdrs L ks) i = some v → zget L i = some v
  | [], ks, i, v, h => by cases ks <;> exact h
  | w :: L, [], i, v, h => h
  | w :: L, b :: m, 0, v, h => by
    cases b with
    | true => cases h
    | false => exact h
  | w :: L, b :: m, i + 1, v, h => zget_drs L m i v h
theorem zdrs_len : ∀ (L : List (Option zV)) (ks : List Bool), (zdrs L ks).length = L.length
  | [], ks => by cases ks <;> rfl
  | w :: L, [] => rfl
  | w :: L, b :: m => by simp [zdrs, zdrs_len L m]
theorem zHo_dr {s : State} {G : zG} {A : Nat → Prop} {nL : Nat} {L : List (Option zV)} {q : List zV × zM} {H : Heap} {locs : List Loc} {ls : Array Slot} (ks : List Bool) (h : zHo s G A nL (L, q) H locs ls) : zHo s G A nL (zdrs L ks, q) H locs ls := by
  refine ⟨⟨h.1.1, h.1.2.1, fun x hx => ?_⟩, by show (zdrs L ks).length = nL; rw [zdrs_len]; exact h.2.1, h.2.2.1, fun i v hv => h.2.2.2.1 i v (zget_drs L ks i v hv), h.2.2.2.2⟩
  obtain ⟨j, v, h1, h2⟩ := (zlv_mem _ _ _).mp hx
  exact h.1.2.2 x ((zlv_mem _ _ _).mpr ⟨j, v, zget_drs L ks j v h1, h2⟩)
theorem zdr_nx {p : Program} {l : Launch} {e : Env} {R : Room} {s : State} {m : MethodId} {args : Array Value} {below : List Frame} {meth : Method} {c : Code} {cells slots : Nat} {G : zG} {A : Nat → Prop} {nL pc : Nat} {x : zX} {ks : List Bool} (h : zNx p l e R s m args below meth c cells slots G A nL pc x) : zNx p l e R s m args below meth c cells slots G A nL pc (zdr ks x) := by
  intro f pc' f' hx H locs ls Q hH kk
  obtain ⟨L, q⟩ := f
  exact h (zdrs L ks, q) pc' f' hx H locs ls Q (zHo_dr ks hH) kk
theorem zdr_P {p : Program} {l : Launch} {e : Env} {R : Room} {s : State} {m : MethodId} {args : Array Value} {below : List Frame} {meth : Method} {c : Code} {G : zG} {nL pc : Nat} {x : zX} {ks : List Bool} (h : zP p l e R s m args below meth c G nL pc x) : zP p l e R s m args below meth c G nL pc (zdr ks x) := by
  refine ⟨zdr_nx h.1, fun f r hx H locs ls hH => ?_⟩
  obtain ⟨L, q⟩ := f
  exact h.2 (zdrs L ks, q) r hx H locs ls (zHo_dr ks hH)
end
section
-- ===== charged calls; a method that makes a row =====
theorem zws_cg {G : zG} {M M' : zM} (h : ∀ c n, n < zcn (zsi G) c → M'.1 c n = M.1 c n) (h2 : M'.2 = M.2) : zws G M' = zws G M := by
  unfold zws
  refine List.map_congr_left (fun q hq => ?_)
  have e := h q.1 q.2 (zobjs_mem.mp hq)
  show (_, zce G q.1 q.2 (M'.1 q.1 q.2) _ _) = (_, zce G q.1 q.2 (M.1 q.1 q.2) _ _)
  rw [e, h2]
theorem zcn_n {b : Bool} {c n : Nat} (h : n < zcn b c) : c ≠ 43 ∧ (b = false → c ≠ 36) := by
  refine ⟨fun z => ?_, fun hb z => ?_⟩
  · have := zcn_lt (b := b) (c := c) (by omega)
    omega
  · subst hb z
    exact absurd h (Nat.not_lt_zero _)
theorem zmo.gs {G : zG} {M : zM} (h : zmo G M) (k : Nat) : zmo (zgt G k) (zgs M k) := by
  refine ⟨fun i hi => ?_, fun i hi => ?_, ?_, h.2.2.2.1, h.2.2.2.2.1, ?_⟩
  · show zst M.1 43 0 (fun _ => nI k) 40 0 i = _
    rw [zst_ne _ _ (by omega)]; exact h.1 i hi
  · show zst M.1 43 0 (fun _ => nI k) 41 0 i = _
    rw [zst_ne _ _ (by omega)]; exact h.2.1 i hi
  · show zst M.1 43 0 (fun _ => nI k) 42 0 0 = _
    rw [zst_ne _ _ (by omega)]; exact h.2.2.1
  · show zst M.1 43 0 (fun _ => nI k) 43 0 0 = nI k
    rw [zst_self]
theorem zc_gt (G : zG) (g : Nat) : zc (zgt G g) = zc G := rfl
theorem zlv_cg {G G' : zG} : ∀ (L : List (Option zV)) (i : Nat), (∀ j v, zget L j = some v → zc G' v = zc G v) → zlv G' i L = zlv G i L
  | [], _, _ => rfl
  | none :: t, i, h => by
    rw [zlv, zlv]
    exact zlv_cg t (i + 1) (fun j v hv => h (j + 1) v hv)
  | some v :: t, i, h => by
    rw [zlv, zlv, h 0 v rfl, zlv_cg t (i + 1) (fun j v hv => h (j + 1) v hv)]
theorem zlv_gt (G : zG) (g i : Nat) (L : List (Option zV)) : zlv (zgt G g) i L = zlv G i L := zlv_cg L i (fun _ _ _ => rfl)
theorem zws_gs (G : zG) (M : zM) (f : Nat → Int32) : zws G (zst M.1 43 0 f, M.2) = zws G M := zws_cg (fun c n h => zst_ne _ _ (fun z => (zcn_n h).1 z.1)) rfl
theorem W.post {p : Program} {l : Launch} {e : Env} {R : Room} {s : State} {m : MethodId} {args : Array Value} {below : List Frame} {meth : Method} {c : Code} {H : Heap} {locs : List Loc} {cells slots : Nat} {Q Q' : State → Prop} {g : JFrame} (h : W p l e R s m args below meth c H locs cells slots Q g) (hq : ∀ t, Q t → Q' t) : W p l e R s m args below meth c H locs cells slots Q' g := by
  intro T hT X
  obtain ⟨t, a, b⟩ := h T hT X
  exact ⟨t, a, hq t b⟩
theorem frame_old {s t : State} {o : Outcome} {L : List Loc} {k n : Nat} (h : FrameEnd s o t L k n) : FrameEnd s o t (L.filter (fun q => decide (q.base < s.heap.size))) k n := by
  obtain ⟨h1, h2, h3, h4, h5, h6, h7, h8⟩ := h
  refine ⟨h1, h2, h3, h4, h5, h6, h7, fun a c hc => ?_⟩
  obtain ⟨c', g1, g2, g3, g4⟩ := h8 a c hc
  refine ⟨c', g1, g2, g3, fun i hi => g4 i (fun hm => hi (List.mem_filter.mpr ⟨hm, ?_⟩))⟩
  have := (Array.getElem?_eq_some_iff.mp hc).1
  simpa using this
theorem MQ_old {below : List Frame} {Qc : Array Value → State → Outcome → State → Prop} {a : Array Value} {s : State} {mc ms : Nat} {free free' : Addr → Prop} (hf : ∀ q, free' q → q < s.heap.size → free q) {t : State} (h : MQ below Qc a s mc ms free' t) : MQ below Qc a s mc ms free t := by
  obtain ⟨o, h1, h2, h3, L, h4, h5⟩ := h
  refine ⟨o, h1, h2, h3, _, frame_old h4, fun q hq => ?_⟩
  obtain ⟨hm, hd⟩ := List.mem_filter.mp hq
  exact hf _ (h5 q hm) (by simpa using hd)
theorem MQ_q {below : List Frame} {Qc Qc' : Array Value → State → Outcome → State → Prop} {a : Array Value} {s : State} {mc ms : Nat} {free : Addr → Prop} (hf : ∀ o t, Qc a s o t → Qc' a s o t) {t : State} (h : MQ below Qc a s mc ms free t) : MQ below Qc' a s mc ms free t := by
  obtain ⟨o, h1, h2, h3, h4⟩ := h
  exact ⟨o, h1, h2, hf _ _ h3, h4⟩
/-- one instruction, g charged calls behind it: u cells and w slots each -/
def zNxC (p : Program) (l : Launch) (e : Env) (R : Room) (s : State) (m : MethodId) (args : Array Value) (below : List Frame) (meth : Method) (c : Code) (n u w c0 s0 : Nat) (G : zG) (A : Nat → Prop) (nL pc : Nat) (x : zX) : Prop :=
  ∀ (f : zF) (pc' : Nat) (f' : zF), x pc f = some (.inr (pc', f')) → ∀ g, g ≤ n → ∀ (H : Heap) (locs : List Loc) (ls : Array Slot) (Q : State → Prop), zHo s (zgt G g) A nL f H locs ls →
    (∀ g', g' ≤ n → ∀ (H' : Heap) (locs' : List Loc) (ls' : Array Slot), zHo s (zgt G g') A nL f' H' locs' ls' → W p l e R s m args below meth c H' locs' (c0 + g' * u) (s0 + g' * w) Q (F0 m pc' ls' (f'.2.1.map (zc G)))) → W p l e R s m args below meth c H locs (c0 + g * u) (s0 + g * w) Q (F0 m pc ls (f.2.1.map (zc G)))
section ZC
variable {p : Program} {l : Launch} {e : Env} {R : Room} {s : State} {m : MethodId} {args : Array Value} {below : List Frame} {meth : Method} {c : Code} {n u w c0 s0 : Nat} {cc : ByteArray} {nL : Nat} {own : String} {G : zG} {A : Nat → Prop} {pc : Nat}
theorem zGa_g (Γ : zGa p s m args c cc nL own G A) (g : Nat) : zGa p s m args c cc nL own (zgt G g) A := Γ
theorem zNxC.of {x : zX} (hc : c0 + n * u ≤ R.cells ∧ s0 + n * w ≤ R.slots) (h : ∀ g cells slots, cells ≤ R.cells ∧ slots ≤ R.slots → zNx p l e R s m args below meth c cells slots (zgt G g) A nL pc x) : zNxC p l e R s m args below meth c n u w c0 s0 G A nL pc x := by
  intro f pc' f' hx g hg H locs ls Q hH kk
  have h1 := Nat.mul_le_mul_right u hg
  have h2 := Nat.mul_le_mul_right w hg
  exact h g _ _ ⟨by omega, by omega⟩ f pc' f' hx H locs ls Q hH (fun H' locs' ls' hH' => kk g hg H' locs' ls' hH')
theorem zNxC.dr {x : zX} {ks : List Bool} (h : zNxC p l e R s m args below meth c n u w c0 s0 G A nL pc x) : zNxC p l e R s m args below meth c n u w c0 s0 G A nL pc (zdr ks x) := by
  intro f pc' f' hx g hg H locs ls Q hH kk
  obtain ⟨L, q⟩ := f
  exact h (zdrs L ks, q) pc' f' hx g hg H locs ls Q (zHo_dr ks hH) kk
theorem zcallc_aux {k : Nat} {f : zF} {g : List zV → zM → Option zQ} {pc' : Nat} {f' : zF} (hx : zcallc n k g pc f = some (.inr (pc', f'))) : ∃ r, zcats (f.2.1.drop k) ≤ 8 ∧ k ≤ f.2.1.length ∧ zgh f.2.2 < n ∧ g (f.2.1.take k).reverse f.2.2 = some r ∧ pc' = pc + 3 ∧ f' = (f.1, zpush r.1 (f.2.1.drop k), zgs r.2 (zgh f.2.2 + 1)) := by
  unfold zcallc at hx
  split at hx
  · rename_i hb hb2
    by_cases hn : n ≤ zgh f.2.2
    · rw [if_pos hn] at hx; cases hx
    · rw [if_neg hn] at hx
      cases hg : g (f.2.1.take k).reverse f.2.2 with
      | none => rw [hg] at hx; cases hx
      | some r =>
        rw [hg] at hx
        have hx := Sum.inr.inj (Option.some.inj hx)
        exact ⟨r, Nat.le_of_ble_eq_true hb, Nat.le_of_ble_eq_true hb2, by omega, rfl, (congrArg Prod.fst hx).symm, (congrArg Prod.snd hx).symm⟩
  · cases hx
theorem no_zcallc (n k : Nat) (g : List zV → zM → Option zQ) : zno (zcallc n k g) := by
  intro pc f r h
  unfold zcallc at h
  split at h
  · split at h
    · cases h
    · cases hg : g (f.2.1.take k).reverse f.2.2 with
      | none => rw [hg] at h; cases h
      | some q => rw [hg] at h; cases h
  · cases h
theorem zs_callC (Γ : zGa p s m args c cc nL own G A) {k idx maxL : Nat} {y : MethodName} {bytes : ByteArray} {ret : Option FieldType} {rm : Room} {g : List zV → zM → Option zQ} (hn : n < 2 ^ 31) (hd : decode cc pc = .ok (.invokestatic idx, 3)) (hM : ∀ j, zMet l (zgt G j) y bytes maxL ret rm g)
    (h1 : Cond.methodLink own idx y ∈ zTs) (h2 : Cond.static y ∈ zTs) (h4 : Cond.initialized y.cls ∈ zTs) (h5 : Cond.code y bytes maxL ret ∈ zTs)
    (hyd : y.cls ≠ "java/lang/invoke/MethodHandle" ∧ y.cls ≠ "java/lang/invoke/VarHandle" ∧ (parseMethodDescriptor y.desc).map (fun d => d.parameters.length) = some k) (hrm : rm.cells = u ∧ rm.slots = w) (hR : rm.frames + 1 ≤ R.frames ∧ 8 + (maxL + 11) + rm.locals ≤ R.locals) (hcs : c0 + n * u ≤ R.cells ∧ s0 + n * w ≤ R.slots) : zNxC p l e R s m args below meth c n u w c0 s0 G A nL pc (zcallc n k g) := by
  intro f pc' f' hx j hj H locs ls Q hH kk
  obtain ⟨r, hb, hk, hlt, hg, hpc, hf'⟩ := zcallc_aux hx
  subst hpc hf'
  obtain ⟨L, st, M⟩ := f
  have hgh : zgh M = j := by
    unfold zgh
    have e43 : M.1 43 0 0 = nI j := hH.2.2.1.2.2.2.2.2.2.2.2
    rw [e43]
    exact nI_clamp (by omega)
  have hj2 : j + 1 ≤ n := by rw [← hgh]; exact hlt
  have hu := Nat.mul_le_mul_right u hj2
  have hw := Nat.mul_le_mul_right w hj2
  rw [Nat.succ_mul] at hu hw
  have hs := zc_cats G (st.drop k)
  have hS := hH.2.2.1.2.2.1
  have hgood : GoodIn zTs (zwsy y bytes maxL ret) := fun w hw => by
    have : w ∈ zTs := (List.mem_cons.mp hw).elim (fun e => e ▸ h5) (fun h => h)
    exact ⟨this, zTs_good w this⟩
  have hM' := hM j _ M r hg
  rw [hrm.1, hrm.2] at hM'
  refine zrun_call (G := zgt G j) (r := r) (rest := (st.drop k).map (zc G)) (va_runS (n := k) (As := ((st.take k).reverse).map (zc G)) ⟨Γ.1, Γ.2.1, Γ.2.2.1, Γ.2.2.2.1, Γ.2.2.2.2.1⟩ hM' ⟨callB_of k Γ.2.2.2.2.1 hgood rfl hrm.1 hrm.2 (Γ.2.2.2.2.1 _ h4) (Γ.2.2.2.2.1 _ h1) hyd hR, Γ.2.2.2.2.1 _ h2⟩
    ⟨zPc_blind, fun U hU hW => zs_start (zGa_g Γ j) hH hU hW (fun v hv => hH.2.2.2.2 v (List.mem_of_mem_take (List.mem_reverse.mp hv)))⟩ rfl (by rw [List.length_map, List.length_reverse, List.length_take]; exact Nat.min_eq_left hk) hH.1.1 ?_ (lv_room (by rw [hs]; exact hb)) hd ⟨by omega, by omega⟩) hS Γ.2.2.2.2.2.2.2.1 (fun H1 locs1 hP1 hmo1 hrv hS1 => ?_)
  · show st.map (zc G) = _
    rw [← List.map_reverse, List.reverse_reverse, ← List.map_append, List.take_append_drop]
  · have k2 := kk (j + 1) hj2 H1 locs1 ls ⟨(by have h1 := hH.1; rw [zlv_gt] at h1 ⊢; exact h1), hH.2.1, ⟨?_, ?_, hS1, ?_⟩, ?_⟩
    · have e1 : (zpush r.1 (st.drop k)).map (zc G) = (r.1.map (zc G)).toList ++ (st.drop k).map (zc G) := by cases r.1 <;> rfl
      rw [show c0 + j * u + u = c0 + (j + 1) * u by rw [Nat.succ_mul, Nat.add_assoc], show s0 + j * w + w = s0 + (j + 1) * w by rw [Nat.succ_mul, Nat.add_assoc]]
      show W p l _ R s m args below meth c H1 locs1 (c0 + (j + 1) * u) (s0 + (j + 1) * w) Q (F0 m (pc + 3) ls ((r.1.map (zc G)).toList ++ (st.drop k).map (zc G)))
      rw [← e1]
      exact k2
    · show va_P G.1 vwCl (zws G (zgs r.2 (zgh M + 1))) H1
      unfold zgs
      rw [zws_gs]
      exact hP1
    · exact zws_D (G := zgt G j) hH.2.2.1.2.1 (fun q h => Γ.2.2.2.2.2.2.2.1 q h)
    · rw [hgh]
      exact hmo1.gs (j + 1)
    · refine ⟨hH.2.2.2.1, fun v hv => ?_⟩
      have hv : v ∈ zpush r.1 (st.drop k) := hv
      cases h1 : r.1 with
      | none => rw [h1] at hv; exact hH.2.2.2.2 v (List.mem_of_mem_drop hv)
      | some x =>
        rw [h1] at hv
        rcases List.mem_cons.mp hv with rfl | hv
        · exact hrv _ h1
        · exact hH.2.2.2.2 v (List.mem_of_mem_drop hv)
theorem zwalkC {C : Nat → zX} (h : ∀ pc, zNxC p l e R s m args below meth c n u w c0 s0 G A nL pc (C pc)) {Q : State → Prop} {r : zQ} (hret : ∀ (pc : Nat) (f : zF), C pc pc f = some (.inl r) → ∀ g, g ≤ n → ∀ (H : Heap) (locs : List Loc) (ls : Array Slot), zHo s (zgt G g) A nL f H locs ls → W p l e R s m args below meth c H locs (c0 + g * u) (s0 + g * w) Q (F0 m pc ls (f.2.1.map (zc G)))) :
    ∀ (k pc : Nat) (f : zF), zrun C k pc f = some r → ∀ g, g ≤ n → ∀ (H : Heap) (locs : List Loc) (ls : Array Slot), zHo s (zgt G g) A nL f H locs ls → W p l e R s m args below meth c H locs (c0 + g * u) (s0 + g * w) Q (F0 m pc ls (f.2.1.map (zc G))) := by
  intro k
  induction k with
  | zero => intro pc f h; cases h
  | succ k ih =>
    intro pc f hr g hg H locs ls hH
    rw [zrun] at hr
    cases hc : C pc pc f with
    | none => rw [hc] at hr; cases hr
    | some t =>
      rw [hc] at hr
      cases t with
      | inl q => cases hr; exact hret pc f hc g hg H locs ls hH
      | inr q => exact h pc f q.1 q.2 hc g hg H locs ls Q hH (fun g' hg' H' locs' ls' hH' => ih q.1 q.2 hr g' hg' H' locs' ls' hH')
theorem zNxC.ny {x : zX} (h : ∀ (f : zF) (q : Nat × zF), x pc f ≠ some (.inr q)) : zNxC p l e R s m args below meth c n u w c0 s0 G A nL pc x := fun f pc' f' hx => absurd hx (h f (pc', f'))
end ZC
/-- one instruction in a method with charged calls -/
abbrev zPC (p : Program) (l : Launch) (e : Env) (R : Room) (s : State) (m : MethodId) (args : Array Value) (below : List Frame) (meth : Method) (c : Code) (n u w : Nat) (G : zG) (nL pc : Nat) (x : zX) : Prop := zNxC p l e R s m args below meth c n u w 0 0 G (zA G) nL pc x ∧ ∀ g, zRt p l e R s m args below meth c (n * u) (n * w) (zgt G g) nL pc x
theorem zdr_PC {p : Program} {l : Launch} {e : Env} {R : Room} {s : State} {m : MethodId} {args : Array Value} {below : List Frame} {meth : Method} {c : Code} {n u w : Nat} {G : zG} {nL pc : Nat} {x : zX} {ks : List Bool} (h : zPC p l e R s m args below meth c n u w G nL pc x) : zPC p l e R s m args below meth c n u w G nL pc (zdr ks x) := by
  refine ⟨h.1.dr, fun g f r hx H locs ls hH => ?_⟩
  obtain ⟨L, q⟩ := f
  exact h.2 g (zdrs L ks, q) r hx H locs ls (zHo_dr ks hH)
/-- a method with at most n charged calls -/
theorem zmethC {l : Launch} {G : zG} {L : List (Nat × zX)} {y : MethodName} {bytes : ByteArray} {maxL : Nat} {ret : Option FieldType} {rm : Room} (n u w : Nat) (hrm : rm.cells = n * u ∧ rm.slots = n * w) (hy : plainName y.cls = true)
    (hin : ∀ {p : Program} {e : Env} {s : State} {m : MethodId} {args : Array Value} {below : List Frame} {meth : Method} {c : Code}, zGa p s m args c bytes maxL y.cls G (zA G) → meth.sig.returnType = ret → meth.locks = false → 0 + n * u ≤ rm.cells ∧ 0 + n * w ≤ rm.slots → zAll (fun pc x => zPC p l e rm s m args below meth c n u w G maxL pc x) L) :
    zMet l G y bytes maxL ret rm (zdc (zfind L) maxL) := by
  intro a M r hg
  obtain ⟨r0, hg0, rfl⟩ : ∃ r0, zdn (zfind L) maxL a (zgs M 0) = some r0 ∧ (r0.1, (zst r0.2.1 43 0 (M.1 43 0), r0.2.2)) = r := by
    unfold zdc at hg
    cases h0 : zdn (zfind L) maxL a (zgs M 0) with
    | none => rw [h0] at hg; cases hg
    | some r0 => rw [h0] at hg; exact ⟨r0, rfl, Option.some.inj hg⟩
  clear hg
  have hg := hg0
  clear hg0
  have hln : (zlay a).length ≤ maxL := by
    unfold zdn at hg
    split at hg
    · rename_i h; exact Nat.le_of_ble_eq_true h
    · cases hg
  have hg : zev (zfind L) 0 (zent maxL a, [], zgs M 0) = some r0 := by
    unfold zdn at hg
    split at hg
    · exact hg
    · cases hg
  obtain ⟨k, hk⟩ := zev_iff.mp hg
  rw [hrm.1, hrm.2]
  refine Met.ofW (cc := bytes) (maxL := maxL) (ret := ret) hy rfl ?_
  intro p e s m args below meth c s₁ B hml hv
  obtain ⟨rfl, hP, hD, hK, hro, hmo, hav, hne⟩ := hv
  have hts := atoms_spec (ws := zwsy y bytes maxL ret) B.pre
  have Γ : zGa p s m (a.map (zc G)).toArray c bytes maxL y.cls G (zA G) := ⟨B.exec, B.bytes, hml, findClass_of_methodNamed B.named, fun w hw => hts w (List.mem_cons_of_mem _ hw), hK, hro, fun q h => h, hne⟩
  have hlen : (lg_sl (a.map (zc G))).length ≤ maxL := by rw [zlay_sl]; exact hln
  have hl := lv_entry (a.map (zc G)) hlen
  rw [lg_entry_eq]
  generalize (lg_sl (a.map (zc G)) ++ List.replicate (maxL - (lg_sl (a.map (zc G))).length) Slot.unset).toArray = ls at hl ⊢
  have hI := zfind_all (P := fun pc x => zPC p l e rm s m (a.map (zc G)).toArray below meth c n u w G maxL pc x) (fun pc => ⟨fun f pc' f' h => (by cases h), fun g f r h => (by cases h)⟩) (hin (e := e) (below := below) Γ B.returns B.notSynchronized ⟨by omega, by omega⟩)
  have key := zwalkC (Q := MQ below (zQc G (r0.1, (zst r0.2.1 43 0 (M.1 43 0), r0.2.2))) (a.map (zc G)).toArray s (n * u) (n * w) (zA G)) (fun pc => (hI pc).1) (r := r0) (fun pc f hc g hgn H locs ls hH => ?_) k 0 (zent maxL a, [], zgs M 0) hk 0 (Nat.zero_le _) s.heap [] ls ⟨⟨hl.1, hl.2.1, fun q hq => hl.2.2 q (zlay_args G _ a 0 q (by rw [zlv_gt] at hq; exact hq))⟩, ?_, ⟨?_, ?_, va_S.rf, hmo.gs 0⟩, zent_ok maxL a hav⟩
  · have e1 : 0 + 0 * u = 0 := by rw [Nat.zero_mul]
    have e2 : 0 + 0 * w = 0 := by rw [Nat.zero_mul]
    rw [e1, e2] at key
    exact key
  · have h1 := Nat.mul_le_mul_right u hgn
    have h2 := Nat.mul_le_mul_right w hgn
    refine W.widen (k := n * u) (n := n * w) (by omega) (by omega) (W.post ((hI pc).2 g f r0 hc H locs ls hH) (fun t ht => MQ_q (fun o t hq => ?_) ht))
    obtain ⟨q1, q2, q3, q4, q5⟩ := hq
    refine ⟨q1, ?_, ⟨fun i hi => ?_, fun i hi => ?_, ?_, q3.2.2.2.1, q3.2.2.2.2.1, ?_⟩, q4, q5⟩
    · show va_P G.1 vwCl (zws G (zst r0.2.1 43 0 (M.1 43 0), r0.2.2)) t.heap
      rw [zws_gs]; exact q2
    · show zst r0.2.1 43 0 (M.1 43 0) 40 0 i = _
      rw [zst_ne _ _ (by omega)]; exact q3.1 i hi
    · show zst r0.2.1 43 0 (M.1 43 0) 41 0 i = _
      rw [zst_ne _ _ (by omega)]; exact q3.2.1 i hi
    · show zst r0.2.1 43 0 (M.1 43 0) 42 0 0 = _
      rw [zst_ne _ _ (by omega)]; exact q3.2.2.1
    · show zst r0.2.1 43 0 (M.1 43 0) 43 0 0 = _
      rw [zst_self]; exact hmo.2.2.2.2.2
  · show (zlay a ++ List.replicate _ none).length = maxL
    rw [List.length_append, List.length_replicate]
    omega
  · show va_P G.1 vwCl (zws G (zgs M 0)) s.heap
    unfold zgs
    rw [zws_gs]; exact hP
  · exact zws_D (G := G) hD (fun q h => h)
/-- the worlds with the sight -/
abbrev zgv (G : zG) (q : Nat) : zG := (G.1, fun c n => if c = 36 then q else G.2.1 c n, G.2.2.1, G.2.2.2.1, G.2.2.2.2.1, true, G.2.2.2.2.2.2)
theorem zad_gv {G : zG} {q c n : Nat} (h : c ≠ 36) : zad (zgv G q) c n = zad G c n := if_neg h
theorem zc_gv {G : zG} {q : Nat} (hs : zsi G = false) {v : zV} (h : zvr G v) : zc (zgv G q) v = zc G v := by
  rcases v with x | x | _ | x
  · rfl
  · rfl
  · rfl
  · have : x.1 ≠ 36 := by
      rcases h with h | h | h
      · rw [hs] at h; exact (zcn_n h).2 rfl
      · rw [h]; decide
      · rw [h]; decide
    show Value.ref (zad (zgv G q) x.1 x.2) = Value.ref (zad G x.1 x.2)
    rw [zad_gv this]
theorem zvr_gv {G : zG} {q : Nat} (hs : zsi G = false) {v : zV} (h : zvr G v) : zvr (zgv G q) v := by
  rcases v with x | x | _ | x
  · trivial
  · trivial
  · trivial
  · rcases h with h | h | h
    · rw [hs] at h
      refine Or.inl ?_
      show x.2 < zcn true x.1
      have h36 := (zcn_n h).2 rfl
      have : zcn true x.1 = zcn false x.1 := by
        unfold zcn
        split <;> first | rfl | (exact absurd (by assumption) h36)
      rw [this]; exact h
    · exact Or.inr (Or.inl h)
    · exact Or.inr (Or.inr h)
theorem zfs_gv (G : zG) (q : Nat) (a : Nat → Int32) (b : Nat → Int64) (n c : Nat) : zfs (zad (zgv G q)) a b n c = zfs (zad G) a b n c := by
  unfold zfs
  split <;> rfl
theorem zce_gv {G : zG} {q c n : Nat} (a : Nat → Int32) (b : Nat → Int64) (r : Nat → Option Nat) : zce (zgv G q) c n a b r = zce G c n a b r := by
  unfold zce
  split
  · rfl
  · rfl
  · rfl
  · rfl
  · rw [zfs_gv]
theorem zws_gv {G : zG} (hs : zsi G = false) (q : Nat) {M M' : zM} (h : ∀ c n, c ≠ 36 → M'.1 c n = M.1 c n) (h2 : M'.2 = M.2) : zws (zgv G q) M' = zws G M ++ [(q, .inl (G.2.2.1.1, 5, .inl (M'.1 36 0)))] := by
  unfold zws
  rw [hs]
  show (zobjs true).map _ = _
  rw [zobjs_t, List.map_append]
  refine congr (congrArg _ (List.map_congr_left (fun z hz => ?_))) rfl
  have h36 := (zcn_n (zobjs_mem.mp (show (z.1, z.2) ∈ zobjs false from hz))).2 rfl
  show (zad (zgv G q) z.1 z.2, zce (zgv G q) z.1 z.2 (M'.1 z.1 z.2) (M'.2.1 z.1 z.2) M'.2.2) = (zad G z.1 z.2, zce G z.1 z.2 (M.1 z.1 z.2) (M.2.1 z.1 z.2) M.2.2)
  rw [zad_gv h36, zce_gv, h z.1 z.2 h36, h2]
theorem zmo.s36 {G : zG} {q : Nat} {M : zM} (h : zmo G M) (f : Nat → Int32) : zmo (zgv G q) (zst M.1 36 0 f, M.2) := zmo.i (G := zgv G q) (M := M) h (by decide)
theorem zmo.f36 {G : zG} {q : Nat} {M : zM} (h : zmo (zgv G q) M) (f : Nat → Int32) : zmo G (zst M.1 36 0 f, M.2) := zmo.i (G := G) (M := M) h (by decide)
/-- the world in which the sight is new -/
def zsg (M : zM) : zM := (zst M.1 36 0 (fun _ => 0), M.2)
theorem z_get5 {G : zG} {G' : zG} {L : List zV} (h : ∀ v ∈ L, zc G' v = zc G v) : L.map (zc G') = L.map (zc G) := List.map_congr_left h
theorem zget_lay {nL : Nat} {a : List zV} {i : Nat} {v : zV} (h : zget (zent nL a) i = some v) : v ∈ a := by
  have key : ∀ (k : Nat) (a : List zV) (i : Nat) (v : zV), zget (zlay a ++ List.replicate k none) i = some v → v ∈ a := by
    intro k a
    induction a with
    | nil =>
      intro i v h
      have : ∀ (k j : Nat), zget (List.replicate k none) j = none := by
        intro k
        induction k with
        | zero => intro j; rfl
        | succ k ih =>
          intro j
          cases j with
          | zero => rfl
          | succ j => exact ih j
      have h1 : zget (List.replicate k none) i = some v := h
      rw [this] at h1; cases h1
    | cons w t ih =>
      intro i v h
      rcases w with x | x | x
      · cases i with
        | zero => cases h; exact List.mem_cons_self
        | succ i => exact List.mem_cons_of_mem _ (ih i v h)
      · cases i with
        | zero => cases h; exact List.mem_cons_self
        | succ i =>
          cases i with
          | zero => cases h
          | succ i => exact List.mem_cons_of_mem _ (ih i v h)
      · cases i with
        | zero => cases h; exact List.mem_cons_self
        | succ i => exact List.mem_cons_of_mem _ (ih i v h)
  exact key _ a i v h
/-- a method that makes the sight first: five ints -/
noncomputable def zds (C : Nat → zX) (nL : Nat) (a : List zV) (M : zM) : Option zQ := match Nat.ble (zlay a).length nL with
  | true => (zev C 3 (zent nL a, [zR 36 0], zsg M)).map (fun r => (r.1, (zst r.2.1 36 0 (M.1 36 0), r.2.2)))
  | false => none
/-- how a method that made the sight answers -/
def zRtM (p : Program) (l : Launch) (e : Env) (R : Room) (s : State) (m : MethodId) (args : Array Value) (below : List Frame) (meth : Method) (c : Code) (G : zG) (A : Nat → Prop) (nL pc : Nat) (x : zX) : Prop :=
  ∀ (f : zF) (r : zQ), x pc f = some (.inl r) → ∀ (H : Heap) (locs : List Loc) (ls : Array Slot), zHo s G A nL f H locs ls → W p l e R s m args below meth c H locs 1 5 (MQ below (fun _ st oc t => oc = .returned (r.1.map (zc G)) ∧ (∃ x, r.1 = some (zI x)) ∧ ∃ locs, zWd G A st.heap r.2 t.heap locs) args s 1 5 A) (F0 m pc ls (f.2.1.map (zc G)))
section ZM
variable {p : Program} {l : Launch} {e : Env} {R : Room} {s : State} {m : MethodId} {args : Array Value} {below : List Frame} {meth : Method} {c : Code} {cc : ByteArray} {nL : Nat} {own : String} {G : zG} {A : Nat → Prop} {pc : Nat}
theorem zRtM.no {x : zX} (h : zno x) : zRtM p l e R s m args below meth c G A nL pc x := fun f r hx => absurd hx (h pc f r)
theorem zRtM.iret (Γ : zGa p s m args c cc nL own G A) (hr : meth.sig.returnType = some .int) (hlocks : meth.locks = false) (hd : decode cc pc = .ok (.ireturn, 1)) : zRtM p l e R s m args below meth c G A nL pc ziret := by
  intro f r hx H locs ls hH
  obtain ⟨L, st, M⟩ := f
  unfold ziret at hx
  dsimp only at hx
  split at hx
  · rename_i x
    cases hx
    exact W.iret (v := x) Γ.1 Γ.2.1 hr (fun t ht hW => ⟨rfl, ⟨x, rfl⟩, locs, by rw [ht]; exact hH.2.2.1⟩) hH.2.2.1.2.2.1.2.2 hd
  · cases hx
theorem zNx.ny {cells slots : Nat} {x : zX} (h : ∀ (f : zF) (q : Nat × zF), x pc f ≠ some (.inr q)) : zNx p l e R s m args below meth c cells slots G A nL pc x := fun f pc' f' hx => absurd hx (h f (pc', f'))
end ZM
abbrev zPM (p : Program) (l : Launch) (e : Env) (R : Room) (s : State) (m : MethodId) (args : Array Value) (below : List Frame) (meth : Method) (c : Code) (G : zG) (A : Nat → Prop) (nL pc : Nat) (x : zX) : Prop := zNx p l e R s m args below meth c 1 5 G A nL pc x ∧ zRtM p l e R s m args below meth c G A nL pc x
theorem zdr_PM {p : Program} {l : Launch} {e : Env} {R : Room} {s : State} {m : MethodId} {args : Array Value} {below : List Frame} {meth : Method} {c : Code} {G : zG} {A : Nat → Prop} {nL pc : Nat} {x : zX} {ks : List Bool} (h : zPM p l e R s m args below meth c G A nL pc x) : zPM p l e R s m args below meth c G A nL pc (zdr ks x) := by
  refine ⟨zdr_nx h.1, fun f r hx H locs ls hH => ?_⟩
  obtain ⟨L, q⟩ := f
  exact h.2 (zdrs L ks, q) r hx H locs ls (zHo_dr ks hH)
theorem zro.v {G : zG} {q : Nat} {s : State} (h : zro G (zA G) s s.heap) : zro (zgv G q) (fun a => zA G a ∨ s.heap.size ≤ a) s s.heap := by
  obtain ⟨h1, h2, h3, h4, h5, h6, cf, kf, fi, f, a, cell, g1, g2, g3, g4, g5, g6, g7, g8⟩ := h
  refine ⟨h1, h2, fun z => z.elim h3 (fun z => Nat.not_lt.mpr z h2), h4, h5, fun z => z.elim h6 (fun z => Nat.not_lt.mpr z h5), cf, kf, fi, f, a, cell, g1, g2, g3, g4, g5, g6, g7, fun z => z.elim g8 (fun z => Nat.not_lt.mpr z ?_)⟩
  exact (Array.getElem?_eq_some_iff.mp g5).1
theorem zmethM {l : Launch} {G : zG} {L : List (Nat × zX)} {y : MethodName} {bytes : ByteArray} {maxL : Nat} {rm : Room} (hs : zsi G = false) (hrm : rm.cells = 1 ∧ rm.slots = 5) (hy : plainName y.cls = true) (hd0 : decode bytes 0 = .ok (.iconst 5, 1)) (hd1 : decode bytes 1 = .ok (.newarray .int, 2)) (harr : Cond.arrayClass .int ∈ zTs)
    (hin : ∀ {p : Program} {e : Env} {s : State} {m : MethodId} {args : Array Value} {below : List Frame} {meth : Method} {c : Code} (q : Nat), zGa p s m args c bytes maxL y.cls (zgv G q) (fun a => zA G a ∨ s.heap.size ≤ a) → meth.sig.returnType = some .int → meth.locks = false → 1 ≤ rm.cells ∧ 5 ≤ rm.slots → zAll (fun pc x => zPM p l e rm s m args below meth c (zgv G q) (fun a => zA G a ∨ s.heap.size ≤ a) maxL pc x) L) :
    zMet l G y bytes maxL (some .int) rm (zds (zfind L) maxL) := by
  intro a M r hg
  have hln : (zlay a).length ≤ maxL := by
    unfold zds at hg
    split at hg
    · rename_i h; exact Nat.le_of_ble_eq_true h
    · cases hg
  obtain ⟨r0, hg0, rfl⟩ : ∃ r0, zev (zfind L) 3 (zent maxL a, [zR 36 0], zsg M) = some r0 ∧ (r0.1, (zst r0.2.1 36 0 (M.1 36 0), r0.2.2)) = r := by
    unfold zds at hg
    rw [Nat.ble_eq_true_of_le hln] at hg
    dsimp only at hg
    cases h0 : zev (zfind L) 3 (zent maxL a, [zR 36 0], zsg M) with
    | none => rw [h0] at hg; cases hg
    | some r0 => rw [h0] at hg; exact ⟨r0, rfl, Option.some.inj hg⟩
  clear hg
  obtain ⟨k, hk⟩ := zev_iff.mp hg0
  rw [hrm.1, hrm.2]
  refine Met.ofW (cc := bytes) (maxL := maxL) (ret := some .int) hy rfl ?_
  intro p e s m args below meth c s₁ B hml hv
  obtain ⟨rfl, hP, hD, hK, hro, hmo, hav, hne⟩ := hv
  have hts := atoms_spec (ws := zwsy y bytes maxL (some .int)) B.pre
  have Γ : zGa p s m (a.map (zc G)).toArray c bytes maxL y.cls G (zA G) := ⟨B.exec, B.bytes, hml, findClass_of_methodNamed B.named, fun w hw => hts w (List.mem_cons_of_mem _ hw), hK, hro, fun q h => h, hne⟩
  have hlen : (lg_sl (a.map (zc G))).length ≤ maxL := by rw [zlay_sl]; exact hln
  have hl := lv_entry (a.map (zc G)) hlen
  rw [lg_entry_eq]
  generalize (lg_sl (a.map (zc G)) ++ List.replicate (maxL - (lg_sl (a.map (zc G))).length) Slot.unset).toArray = ls at hl ⊢
  refine lv_iconst (n := 5) (v := 5) Γ.1 Γ.2.1 hd0 (by decide) ?_
  refine va_newa (atype := .int) (A := fun x => zA G x ∨ s.heap.size ≤ x) (H0 := s.heap) (a0 := (5, .inl (fun _ => 0))) (N' := 5) Γ.1 Γ.2.1 (Γ.2.2.2.2.1 _ harr) rfl Γ.2.2.2.2.2.1 hP (hD.weaken (fun _ _ _ h => Or.inl h)) va_S.rf (fun q h => Or.inr h) (fun cA => rfl) (by decide) rfl (by decide) (by show 0 + 1 ≤ rm.cells; omega) (by show 0 + 5 ≤ rm.slots; omega) hd1 (fun q cA' H1 hK1 hP1 hD1 hS1 => ?_)
  have e1 := (Γ.2.2.2.2.2.1.2 0 (G.2.2.1.1, .int) rfl).2
  have e2 := (hK1.2 (ztys G).length (cA', .int) (by rw [List.getElem?_append_right (Nat.le_refl _), Nat.sub_self]; rfl)).2
  have e3 : cA' = G.2.2.1.1 := Option.some.inj (e2.symm.trans e1)
  subst e3
  have hw := zws_gv hs q (M := M) (M' := zsg M) (fun c n h => zst_ne _ _ (fun z => h z.1)) rfl
  have e36 : (zsg M).1 36 0 = fun _ => 0 := zst_self M.1 36 0 (fun _ => 0)
  rw [e36] at hw
  rw [← hw] at hP1 hD1
  have hA' : ∀ x, zA (zgv G q) x → zA G x ∨ s.heap.size ≤ x := by
    rintro x ⟨c', n', h1, rfl⟩
    obtain ⟨j, hj, -⟩ := zws_at (zgv G q) (zsg M) (zobjs_mem.mpr h1)
    exact hD1.2 j _ hj
  have Γ' : zGa p s m (a.map (zc G)).toArray c bytes maxL y.cls (zgv G q) (fun x => zA G x ∨ s.heap.size ≤ x) := ⟨Γ.1, Γ.2.1, Γ.2.2.1, Γ.2.2.2.1, Γ.2.2.2.2.1, hK, hro.v, hA', hne⟩
  have hI := zfind_all (P := fun pc x => zPM p l e rm s m (a.map (zc G)).toArray below meth c (zgv G q) (fun x => zA G x ∨ s.heap.size ≤ x) maxL pc x) (fun pc => ⟨fun f pc' f' h => (by cases h), fun f r h => (by cases h)⟩) (hin (e := e) (below := below) q Γ' B.returns B.notSynchronized ⟨by omega, by omega⟩)
  refine zwalk (G := zgv G q) (A := fun x => zA G x ∨ s.heap.size ≤ x) (cells := 1) (slots := 5) (Q := MQ below (zQc G (r0.1, (zst r0.2.1 36 0 (M.1 36 0), r0.2.2))) (a.map (zc G)).toArray s 1 5 (zA G)) (fun pc => (hI pc).1) (r := r0) (fun pc f hc H locs ls hH => ?_) k 3 (zent maxL a, [zR 36 0], zsg M) hk H1 [] ls ⟨⟨hl.1, hl.2.1, fun z hz => hl.2.2 z (zlay_args G _ a 0 z (by rw [zlv_cg _ _ (fun j v hv => zc_gv hs (hav v (zget_lay hv)))] at hz; exact hz))⟩, ?_, ⟨hP1, hD1, hS1, hmo.s36 _⟩, (zent_ok maxL a (fun v hv => zvr_gv hs (hav v hv))).p (Or.inl Nat.zero_lt_one)⟩
  · refine W.post ((hI pc).2 f r0 hc H locs ls hH) (fun t ht => MQ_old (free' := fun x => zA G x ∨ s.heap.size ≤ x) (fun x hx hlt => hx.elim id (fun z => absurd hlt (Nat.not_lt.mpr z))) (MQ_q (fun o t hq => ?_) ht))
    obtain ⟨q1, ⟨x, q2⟩, locs', w1, w2, w3, w4⟩ := hq
    have hw2 := zws_gv hs q (M := (zst r0.2.1 36 0 (M.1 36 0), r0.2.2)) (M' := r0.2) (fun c n h => (zst_ne _ _ (fun z => h z.1)).symm) rfl
    rw [hw2] at w1
    refine ⟨by rw [q1, q2]; rfl, fun k z hz => w1 k z (by rw [List.getElem?_append_left (List.getElem?_eq_some_iff.mp hz).1]; exact hz), w4.f36 _, fun v hv => by rw [q2] at hv; cases hv; trivial, w3.1, fun x hx hn => w3.2.1 x hx (fun z => z.elim hn (fun z => absurd hx (Nat.not_lt.mpr z)))⟩
  · show (zlay a ++ List.replicate _ none).length = maxL
    rw [List.length_append, List.length_replicate]
    omega
end
