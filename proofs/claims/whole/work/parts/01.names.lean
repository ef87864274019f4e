/-- a private method of a class that the tables say can be made, by its rows of tables_1 -/
def lw_okq (q : MethodName × Nat) : Prop := (q.1.cls ≠ "java/lang/invoke/MethodHandle" ∧ q.1.cls ≠ "java/lang/invoke/VarHandle") ∧ Cond.instantiable q.1.cls q.2 ∈ tables_1 ∧ Cond.privateMethod q.1 ∈ tables_1 ∧ Cond.instanceMethod q.1 ∈ tables_1
theorem lw_p0 : lw_okq (⟨"FlippedBlinds", "kept", "(I)I"⟩, 8) := ⟨⟨by decide +kernel, by decide +kernel⟩, List.mem_of_getElem? (i := 14) (by decide +kernel), List.mem_of_getElem? (i := 309) (by decide +kernel), List.mem_of_getElem? (i := 310) (by decide +kernel)⟩
theorem lw_p1 : lw_okq (⟨"FlippedBlinds", "readOf", "(LFlippedBlinds$Blind;I)I"⟩, 8) := ⟨⟨by decide +kernel, by decide +kernel⟩, List.mem_of_getElem? (i := 14) (by decide +kernel), List.mem_of_getElem? (i := 466) (by decide +kernel), List.mem_of_getElem? (i := 467) (by decide +kernel)⟩
theorem lw_p2 : lw_okq (⟨"FlippedBlinds", "tryText", "()I"⟩, 8) := ⟨⟨by decide +kernel, by decide +kernel⟩, List.mem_of_getElem? (i := 14) (by decide +kernel), List.mem_of_getElem? (i := 579) (by decide +kernel), List.mem_of_getElem? (i := 580) (by decide +kernel)⟩
theorem lw_p3 : lw_okq (⟨"FlippedBlindsModel", "letters", "(I)I"⟩, 18) := ⟨⟨by decide +kernel, by decide +kernel⟩, List.mem_of_getElem? (i := 622) (by decide +kernel), List.mem_of_getElem? (i := 696) (by decide +kernel), List.mem_of_getElem? (i := 697) (by decide +kernel)⟩
theorem lw_p4 : lw_okq (⟨"FlippedBlindsModel", "changes", "()V"⟩, 18) := ⟨⟨by decide +kernel, by decide +kernel⟩, List.mem_of_getElem? (i := 622) (by decide +kernel), List.mem_of_getElem? (i := 702) (by decide +kernel), List.mem_of_getElem? (i := 703) (by decide +kernel)⟩
theorem lw_p5 : lw_okq (⟨"FlippedBlindsModel", "isWord", "(I)Z"⟩, 18) := ⟨⟨by decide +kernel, by decide +kernel⟩, List.mem_of_getElem? (i := 622) (by decide +kernel), List.mem_of_getElem? (i := 710) (by decide +kernel), List.mem_of_getElem? (i := 711) (by decide +kernel)⟩
theorem lw_p6 : lw_okq (⟨"FlippedBlindsModel", "canShow", "(II)Z"⟩, 18) := ⟨⟨by decide +kernel, by decide +kernel⟩, List.mem_of_getElem? (i := 622) (by decide +kernel), List.mem_of_getElem? (i := 721) (by decide +kernel), List.mem_of_getElem? (i := 722) (by decide +kernel)⟩
theorem lw_p7 : lw_okq (⟨"FlippedBlindsModel", "bestShift", "(II)I"⟩, 18) := ⟨⟨by decide +kernel, by decide +kernel⟩, List.mem_of_getElem? (i := 622) (by decide +kernel), List.mem_of_getElem? (i := 725) (by decide +kernel), List.mem_of_getElem? (i := 726) (by decide +kernel)⟩
theorem lw_p8 : lw_okq (⟨"FlippedBlindsModel", "shifts", "(II)I"⟩, 18) := ⟨⟨by decide +kernel, by decide +kernel⟩, List.mem_of_getElem? (i := 622) (by decide +kernel), List.mem_of_getElem? (i := 729) (by decide +kernel), List.mem_of_getElem? (i := 730) (by decide +kernel)⟩
theorem lw_p9 : lw_okq (⟨"FlippedBlindsModel", "marginAt", "(III)I"⟩, 18) := ⟨⟨by decide +kernel, by decide +kernel⟩, List.mem_of_getElem? (i := 622) (by decide +kernel), List.mem_of_getElem? (i := 742) (by decide +kernel), List.mem_of_getElem? (i := 743) (by decide +kernel)⟩
theorem lw_p10 : lw_okq (⟨"FlippedBlindsModel", "sees", "(III)V"⟩, 18) := ⟨⟨by decide +kernel, by decide +kernel⟩, List.mem_of_getElem? (i := 622) (by decide +kernel), List.mem_of_getElem? (i := 746) (by decide +kernel), List.mem_of_getElem? (i := 747) (by decide +kernel)⟩
theorem lw_p11 : lw_okq (⟨"FlippedBlindsModel", "discs", "(III)I"⟩, 18) := ⟨⟨by decide +kernel, by decide +kernel⟩, List.mem_of_getElem? (i := 622) (by decide +kernel), List.mem_of_getElem? (i := 750) (by decide +kernel), List.mem_of_getElem? (i := 751) (by decide +kernel)⟩
theorem lw_p12 : lw_okq (⟨"FlippedBlindsModel", "apart", "(II)I"⟩, 18) := ⟨⟨by decide +kernel, by decide +kernel⟩, List.mem_of_getElem? (i := 622) (by decide +kernel), List.mem_of_getElem? (i := 779) (by decide +kernel), List.mem_of_getElem? (i := 780) (by decide +kernel)⟩
theorem lw_p13 : lw_okq (⟨"FlippedBlindsModel", "wantsAll", "(III)V"⟩, 18) := ⟨⟨by decide +kernel, by decide +kernel⟩, List.mem_of_getElem? (i := 622) (by decide +kernel), List.mem_of_getElem? (i := 786) (by decide +kernel), List.mem_of_getElem? (i := 787) (by decide +kernel)⟩
theorem lw_p14 : lw_okq (⟨"FlippedBlindsModel", "wants", "(IIZ)V"⟩, 18) := ⟨⟨by decide +kernel, by decide +kernel⟩, List.mem_of_getElem? (i := 622) (by decide +kernel), List.mem_of_getElem? (i := 790) (by decide +kernel), List.mem_of_getElem? (i := 791) (by decide +kernel)⟩
theorem lw_p15 : lw_okq (⟨"FlippedBlindsModel", "have", "(II)I"⟩, 18) := ⟨⟨by decide +kernel, by decide +kernel⟩, List.mem_of_getElem? (i := 622) (by decide +kernel), List.mem_of_getElem? (i := 798) (by decide +kernel), List.mem_of_getElem? (i := 799) (by decide +kernel)⟩
def lw_privs_1 : List (MethodName × Nat) := [(⟨"FlippedBlinds", "kept", "(I)I"⟩, 8), (⟨"FlippedBlinds", "readOf", "(LFlippedBlinds$Blind;I)I"⟩, 8), (⟨"FlippedBlinds", "tryText", "()I"⟩, 8), (⟨"FlippedBlindsModel", "letters", "(I)I"⟩, 18), (⟨"FlippedBlindsModel", "changes", "()V"⟩, 18), (⟨"FlippedBlindsModel", "isWord", "(I)Z"⟩, 18), (⟨"FlippedBlindsModel", "canShow", "(II)Z"⟩, 18), (⟨"FlippedBlindsModel", "bestShift", "(II)I"⟩, 18), (⟨"FlippedBlindsModel", "shifts", "(II)I"⟩, 18), (⟨"FlippedBlindsModel", "marginAt", "(III)I"⟩, 18), (⟨"FlippedBlindsModel", "sees", "(III)V"⟩, 18), (⟨"FlippedBlindsModel", "discs", "(III)I"⟩, 18), (⟨"FlippedBlindsModel", "apart", "(II)I"⟩, 18), (⟨"FlippedBlindsModel", "wantsAll", "(III)V"⟩, 18), (⟨"FlippedBlindsModel", "wants", "(IIZ)V"⟩, 18), (⟨"FlippedBlindsModel", "have", "(II)I"⟩, 18)]
theorem lw_r1 : ∀ q ∈ lw_privs_1, lw_okq q := List.forall_mem_cons.mpr ⟨lw_p0, List.forall_mem_cons.mpr ⟨lw_p1, List.forall_mem_cons.mpr ⟨lw_p2, List.forall_mem_cons.mpr ⟨lw_p3, List.forall_mem_cons.mpr ⟨lw_p4, List.forall_mem_cons.mpr ⟨lw_p5, List.forall_mem_cons.mpr ⟨lw_p6, List.forall_mem_cons.mpr ⟨lw_p7, List.forall_mem_cons.mpr ⟨lw_p8, List.forall_mem_cons.mpr ⟨lw_p9, List.forall_mem_cons.mpr ⟨lw_p10, List.forall_mem_cons.mpr ⟨lw_p11, List.forall_mem_cons.mpr ⟨lw_p12, List.forall_mem_cons.mpr ⟨lw_p13, List.forall_mem_cons.mpr ⟨lw_p14, List.forall_mem_cons.mpr ⟨lw_p15, fun _ h => absurd h List.not_mem_nil⟩⟩⟩⟩⟩⟩⟩⟩⟩⟩⟩⟩⟩⟩⟩⟩
theorem lw_p16 : lw_okq (⟨"FlippedBlindsModel", "unlike", "(I)I"⟩, 18) := ⟨⟨by decide +kernel, by decide +kernel⟩, List.mem_of_getElem? (i := 622) (by decide +kernel), List.mem_of_getElem? (i := 825) (by decide +kernel), List.mem_of_getElem? (i := 826) (by decide +kernel)⟩
theorem lw_p17 : lw_okq (⟨"FlippedBlindsModel", "readAs", "(II)I"⟩, 18) := ⟨⟨by decide +kernel, by decide +kernel⟩, List.mem_of_getElem? (i := 622) (by decide +kernel), List.mem_of_getElem? (i := 829) (by decide +kernel), List.mem_of_getElem? (i := 830) (by decide +kernel)⟩
theorem lw_p18 : lw_okq (⟨"FlippedBlindsModel", "showable", "(I)I"⟩, 18) := ⟨⟨by decide +kernel, by decide +kernel⟩, List.mem_of_getElem? (i := 622) (by decide +kernel), List.mem_of_getElem? (i := 833) (by decide +kernel), List.mem_of_getElem? (i := 834) (by decide +kernel)⟩
theorem lw_p19 : lw_okq (⟨"FlippedBlindsModel", "bright", "(I)I"⟩, 18) := ⟨⟨by decide +kernel, by decide +kernel⟩, List.mem_of_getElem? (i := 622) (by decide +kernel), List.mem_of_getElem? (i := 841) (by decide +kernel), List.mem_of_getElem? (i := 842) (by decide +kernel)⟩
theorem lw_p20 : lw_okq (⟨"FlippedBlindsModel", "between", "(III)I"⟩, 18) := ⟨⟨by decide +kernel, by decide +kernel⟩, List.mem_of_getElem? (i := 622) (by decide +kernel), List.mem_of_getElem? (i := 860) (by decide +kernel), List.mem_of_getElem? (i := 861) (by decide +kernel)⟩
theorem lw_p21 : lw_okq (⟨"FlippedBlindsModel", "plays", "()Z"⟩, 18) := ⟨⟨by decide +kernel, by decide +kernel⟩, List.mem_of_getElem? (i := 622) (by decide +kernel), List.mem_of_getElem? (i := 888) (by decide +kernel), List.mem_of_getElem? (i := 889) (by decide +kernel)⟩
theorem lw_p22 : lw_okq (⟨"FlippedBlindsModel", "reads", "()Z"⟩, 18) := ⟨⟨by decide +kernel, by decide +kernel⟩, List.mem_of_getElem? (i := 622) (by decide +kernel), List.mem_of_getElem? (i := 892) (by decide +kernel), List.mem_of_getElem? (i := 893) (by decide +kernel)⟩
theorem lw_p23 : lw_okq (⟨"FlippedBlindsModel", "isAt", "(II)Z"⟩, 18) := ⟨⟨by decide +kernel, by decide +kernel⟩, List.mem_of_getElem? (i := 622) (by decide +kernel), List.mem_of_getElem? (i := 896) (by decide +kernel), List.mem_of_getElem? (i := 897) (by decide +kernel)⟩
theorem lw_p24 : lw_okq (⟨"FlippedBlindsModel", "lettered", "()Z"⟩, 18) := ⟨⟨by decide +kernel, by decide +kernel⟩, List.mem_of_getElem? (i := 622) (by decide +kernel), List.mem_of_getElem? (i := 903) (by decide +kernel), List.mem_of_getElem? (i := 904) (by decide +kernel)⟩
theorem lw_p25 : lw_okq (⟨"FlippedBlindsModel", "sign", "(I)Z"⟩, 18) := ⟨⟨by decide +kernel, by decide +kernel⟩, List.mem_of_getElem? (i := 622) (by decide +kernel), List.mem_of_getElem? (i := 907) (by decide +kernel), List.mem_of_getElem? (i := 908) (by decide +kernel)⟩
theorem lw_p26 : lw_okq (⟨"FlippedBlindsModel", "number", "(I)Z"⟩, 18) := ⟨⟨by decide +kernel, by decide +kernel⟩, List.mem_of_getElem? (i := 622) (by decide +kernel), List.mem_of_getElem? (i := 911) (by decide +kernel), List.mem_of_getElem? (i := 912) (by decide +kernel)⟩
theorem lw_p27 : lw_okq (⟨"FlippedBlindsModel", "calls", "()I"⟩, 18) := ⟨⟨by decide +kernel, by decide +kernel⟩, List.mem_of_getElem? (i := 622) (by decide +kernel), List.mem_of_getElem? (i := 915) (by decide +kernel), List.mem_of_getElem? (i := 916) (by decide +kernel)⟩
def lw_privs_2 : List (MethodName × Nat) := [(⟨"FlippedBlindsModel", "unlike", "(I)I"⟩, 18), (⟨"FlippedBlindsModel", "readAs", "(II)I"⟩, 18), (⟨"FlippedBlindsModel", "showable", "(I)I"⟩, 18), (⟨"FlippedBlindsModel", "bright", "(I)I"⟩, 18), (⟨"FlippedBlindsModel", "between", "(III)I"⟩, 18), (⟨"FlippedBlindsModel", "plays", "()Z"⟩, 18), (⟨"FlippedBlindsModel", "reads", "()Z"⟩, 18), (⟨"FlippedBlindsModel", "isAt", "(II)Z"⟩, 18), (⟨"FlippedBlindsModel", "lettered", "()Z"⟩, 18), (⟨"FlippedBlindsModel", "sign", "(I)Z"⟩, 18), (⟨"FlippedBlindsModel", "number", "(I)Z"⟩, 18), (⟨"FlippedBlindsModel", "calls", "()I"⟩, 18)]
theorem lw_r2 : ∀ q ∈ lw_privs_2, lw_okq q := List.forall_mem_cons.mpr ⟨lw_p16, List.forall_mem_cons.mpr ⟨lw_p17, List.forall_mem_cons.mpr ⟨lw_p18, List.forall_mem_cons.mpr ⟨lw_p19, List.forall_mem_cons.mpr ⟨lw_p20, List.forall_mem_cons.mpr ⟨lw_p21, List.forall_mem_cons.mpr ⟨lw_p22, List.forall_mem_cons.mpr ⟨lw_p23, List.forall_mem_cons.mpr ⟨lw_p24, List.forall_mem_cons.mpr ⟨lw_p25, List.forall_mem_cons.mpr ⟨lw_p26, List.forall_mem_cons.mpr ⟨lw_p27, fun _ h => absurd h List.not_mem_nil⟩⟩⟩⟩⟩⟩⟩⟩⟩⟩⟩⟩
def lw_privs : List (MethodName × Nat) := lw_privs_1 ++ (lw_privs_2)
def lw_tbl : List Cond := k2_sels lw_privs ++ tables_1
theorem lw_privs_ok : ∀ q ∈ lw_privs, lw_okq q := by
  show ∀ q ∈ lw_privs_1 ++ (lw_privs_2), lw_okq q
  exact List.forall_mem_append.mpr ⟨lw_r1, lw_r2⟩
def RX0 : String := "FlippedBlinds$Blind"
def TX0 : u_T := fun k => match k with
  | 0 => ("FlippedBlinds$Blind", "columns", "I", true)
  | 1 => ("FlippedBlinds$Blind", "bright", "LFlippedBlinds$Dots;", true)
  | 2 => ("FlippedBlinds$Blind", "stuck", "LFlippedBlinds$Dots;", true)
  | 3 => ("FlippedBlinds$Blind", "wanted", "LFlippedBlinds$Dots;", true)
  | 4 => ("FlippedBlinds$Blind", "toFlip", "LFlippedBlinds$Dots;", true)
  | 5 => ("FlippedBlinds$Blind", "wear", "[I", true)
  | _ => ("FlippedBlinds$Blind", "flips", "I", false)
def tyX0 : Nat → FieldType := fun k => match k with
  | 0 => .int
  | 1 => .object "FlippedBlinds$Dots"
  | 2 => .object "FlippedBlinds$Dots"
  | 3 => .object "FlippedBlinds$Dots"
  | 4 => .object "FlippedBlinds$Dots"
  | 5 => .array .int
  | _ => .int
theorem nmX0 : ∀ a, a < 7 → ∀ b, b < 7 → a ≠ b → (TX0 a).2.1 ≠ (TX0 b).2.1 := by decide +kernel
theorem tyX0_ok : ∀ k, k < 7 → parseFieldDescriptor (TX0 k).2.2.1 = some (tyX0 k) := by decide +kernel
abbrev cX0_init : ByteArray := prog_2_method_1_code
def yX0_init : MethodName := ⟨RX0, "<init>", "(I)V"⟩
abbrev cX0_copyFrom : ByteArray := prog_2_method_2_code
def yX0_copyFrom : MethodName := ⟨RX0, "copyFrom", "(LFlippedBlinds$Blind;)V"⟩
abbrev cX0_hasColumn : ByteArray := prog_2_method_3_code
def yX0_hasColumn : MethodName := ⟨RX0, "hasColumn", "(I)Z"⟩
abbrev cX0_hasDisc : ByteArray := prog_2_method_4_code
def yX0_hasDisc : MethodName := ⟨RX0, "hasDisc", "(II)Z"⟩
abbrev cX0_wearAt : ByteArray := prog_2_method_5_code
def yX0_wearAt : MethodName := ⟨RX0, "wearAt", "(II)I"⟩
abbrev cX0_markFlips : ByteArray := prog_2_method_6_code
def yX0_markFlips : MethodName := ⟨RX0, "markFlips", "(JJ)V"⟩
abbrev cX0_want : ByteArray := prog_2_method_7_code
def yX0_want : MethodName := ⟨RX0, "want", "(JJI)I"⟩
abbrev cX0_flipsFor : ByteArray := prog_2_method_8_code
def yX0_flipsFor : MethodName := ⟨RX0, "flipsFor", "(JJI)I"⟩
abbrev cX0_stuckUnlike : ByteArray := prog_2_method_9_code
def yX0_stuckUnlike : MethodName := ⟨RX0, "stuckUnlike", "(JJ)I"⟩
abbrev cX0_hasStuckIn : ByteArray := prog_2_method_10_code
def yX0_hasStuckIn : MethodName := ⟨RX0, "hasStuckIn", "(I)Z"⟩
abbrev cX0_mend : ByteArray := prog_2_method_11_code
def yX0_mend : MethodName := ⟨RX0, "mend", "(I)I"⟩
def RX1 : String := "FlippedBlinds$Dots"
def TX1 : u_T := fun k => match k with
  | 0 => ("FlippedBlinds$Dots", "left", "J", false)
  | _ => ("FlippedBlinds$Dots", "right", "J", false)
def tyX1 : Nat → FieldType := fun k => match k with
  | 0 => .long
  | _ => .long
theorem nmX1 : ∀ a, a < 2 → ∀ b, b < 2 → a ≠ b → (TX1 a).2.1 ≠ (TX1 b).2.1 := by decide +kernel
theorem tyX1_ok : ∀ k, k < 2 → parseFieldDescriptor (TX1 k).2.2.1 = some (tyX1 k) := by decide +kernel
abbrev cX1_init : ByteArray := prog_3_method_1_code
def yX1_init : MethodName := ⟨RX1, "<init>", "()V"⟩
abbrev cX1_at : ByteArray := prog_3_method_2_code
def yX1_at : MethodName := ⟨RX1, "at", "(II)I"⟩
abbrev cX1_put : ByteArray := prog_3_method_3_code
def yX1_put : MethodName := ⟨RX1, "put", "(IIZ)V"⟩
abbrev cX1_size : ByteArray := prog_3_method_4_code
def yX1_size : MethodName := ⟨RX1, "size", "()I"⟩
abbrev cX1_far : ByteArray := prog_3_method_5_code
def yX1_far : MethodName := ⟨RX1, "far", "(JJ)I"⟩
abbrev cX1_copyFrom : ByteArray := prog_3_method_6_code
def yX1_copyFrom : MethodName := ⟨RX1, "copyFrom", "(LFlippedBlinds$Dots;)V"⟩
def RX2 : String := "FlippedBlinds$History"
def TX2 : u_T := fun k => match k with
  | 0 => ("FlippedBlinds$History", "states", "[LFlippedBlinds$State;", true)
  | _ => ("FlippedBlinds$History", "size", "I", false)
def tyX2 : Nat → FieldType := fun k => match k with
  | 0 => .array (.object "FlippedBlinds$State")
  | _ => .int
theorem nmX2 : ∀ a, a < 2 → ∀ b, b < 2 → a ≠ b → (TX2 a).2.1 ≠ (TX2 b).2.1 := by decide +kernel
theorem tyX2_ok : ∀ k, k < 2 → parseFieldDescriptor (TX2 k).2.2.1 = some (tyX2 k) := by decide +kernel
abbrev cX2_init : ByteArray := prog_4_method_1_code
def yX2_init : MethodName := ⟨RX2, "<init>", "()V"⟩
abbrev cX2_prepare : ByteArray := prog_4_method_2_code
def yX2_prepare : MethodName := ⟨RX2, "prepare", "(LFlippedBlinds$State;)V"⟩
abbrev cX2_keep : ByteArray := prog_4_method_3_code
def yX2_keep : MethodName := ⟨RX2, "keep", "()V"⟩
abbrev cX2_dropOldest : ByteArray := prog_4_method_4_code
def yX2_dropOldest : MethodName := ⟨RX2, "dropOldest", "()V"⟩
abbrev cX2_restore : ByteArray := prog_4_method_5_code
def yX2_restore : MethodName := ⟨RX2, "restore", "(LFlippedBlinds$State;)Z"⟩
def RX3 : String := "FlippedBlinds$Order"
def TX3 : u_T := fun k => match k with
  | 0 => ("FlippedBlinds$Order", "kind", "I", false)
  | 1 => ("FlippedBlinds$Order", "letters", "I", false)
  | 2 => ("FlippedBlinds$Order", "numbers", "[I", true)
  | 3 => ("FlippedBlinds$Order", "length", "I", false)
  | _ => ("FlippedBlinds$Order", "whole", "Z", false)
def tyX3 : Nat → FieldType := fun k => match k with
  | 0 => .int
  | 1 => .int
  | 2 => .array .int
  | 3 => .int
  | _ => .boolean
theorem nmX3 : ∀ a, a < 5 → ∀ b, b < 5 → a ≠ b → (TX3 a).2.1 ≠ (TX3 b).2.1 := by decide +kernel
theorem tyX3_ok : ∀ k, k < 5 → parseFieldDescriptor (TX3 k).2.2.1 = some (tyX3 k) := by decide +kernel
abbrev cX3_init : ByteArray := prog_5_method_1_code
def yX3_init : MethodName := ⟨RX3, "<init>", "()V"⟩
abbrev cX3_read : ByteArray := prog_5_method_2_code
def yX3_read : MethodName := ⟨RX3, "read", "(LFlippedBlinds$Text;I)V"⟩
abbrev cX3_numbersOf : ByteArray := prog_5_method_3_code
def yX3_numbersOf : MethodName := ⟨RX3, "numbersOf", "(I)I"⟩
abbrev cX3_readLetters : ByteArray := prog_5_method_4_code
def yX3_readLetters : MethodName := ⟨RX3, "readLetters", "(LFlippedBlinds$Text;I)Z"⟩
abbrev cX3_readNumbers : ByteArray := prog_5_method_5_code
def yX3_readNumbers : MethodName := ⟨RX3, "readNumbers", "(LFlippedBlinds$Text;II)Z"⟩
abbrev cX3_isLetter : ByteArray := prog_5_method_6_code
def yX3_isLetter : MethodName := ⟨RX3, "isLetter", "(I)Z"⟩
abbrev cX3_isDigit : ByteArray := prog_5_method_7_code
def yX3_isDigit : MethodName := ⟨RX3, "isDigit", "(I)Z"⟩
def RX4 : String := "FlippedBlinds$State"
def TX4 : u_T := fun k => match k with
  | 0 => ("FlippedBlinds$State", "words", "LFlippedBlinds$Words;", true)
  | 1 => ("FlippedBlinds$State", "wide", "LFlippedBlinds$Blind;", true)
  | 2 => ("FlippedBlinds$State", "narrow", "LFlippedBlinds$Blind;", true)
  | 3 => ("FlippedBlinds$State", "needed", "I", false)
  | 4 => ("FlippedBlinds$State", "life", "I", false)
  | 5 => ("FlippedBlinds$State", "wornOut", "I", false)
  | 6 => ("FlippedBlinds$State", "repairs", "I", false)
  | _ => ("FlippedBlinds$State", "shows", "I", false)
def tyX4 : Nat → FieldType := fun k => match k with
  | 0 => .object "FlippedBlinds$Words"
  | 1 => .object "FlippedBlinds$Blind"
  | 2 => .object "FlippedBlinds$Blind"
  | 3 => .int
  | 4 => .int
  | 5 => .int
  | 6 => .int
  | _ => .int
theorem nmX4 : ∀ a, a < 8 → ∀ b, b < 8 → a ≠ b → (TX4 a).2.1 ≠ (TX4 b).2.1 := by decide +kernel
theorem tyX4_ok : ∀ k, k < 8 → parseFieldDescriptor (TX4 k).2.2.1 = some (tyX4 k) := by decide +kernel
abbrev cX4_init : ByteArray := prog_6_method_1_code
def yX4_init : MethodName := ⟨RX4, "<init>", "()V"⟩
abbrev cX4_copyFrom : ByteArray := prog_6_method_2_code
def yX4_copyFrom : MethodName := ⟨RX4, "copyFrom", "(LFlippedBlinds$State;)V"⟩
abbrev cX4_blindAt : ByteArray := prog_6_method_3_code
def yX4_blindAt : MethodName := ⟨RX4, "blindAt", "(I)LFlippedBlinds$Blind;"⟩
abbrev cX4_addWord : ByteArray := prog_6_method_4_code
def yX4_addWord : MethodName := ⟨RX4, "addWord", "(I)I"⟩
abbrev cX4_takeWord : ByteArray := prog_6_method_5_code
def yX4_takeWord : MethodName := ⟨RX4, "takeWord", "(I)I"⟩
abbrev cX4_wordsToShow : ByteArray := prog_6_method_6_code
def yX4_wordsToShow : MethodName := ⟨RX4, "wordsToShow", "(LFlippedBlinds$Blind;)I"⟩
abbrev cX4_showWord : ByteArray := prog_6_method_7_code
def yX4_showWord : MethodName := ⟨RX4, "showWord", "(II)I"⟩
abbrev cX4_darken : ByteArray := prog_6_method_8_code
def yX4_darken : MethodName := ⟨RX4, "darken", "(I)I"⟩
abbrev cX4_stickDisc : ByteArray := prog_6_method_9_code
def yX4_stickDisc : MethodName := ⟨RX4, "stickDisc", "(IIII)I"⟩
abbrev cX4_repairColumn : ByteArray := prog_6_method_10_code
def yX4_repairColumn : MethodName := ⟨RX4, "repairColumn", "(II)I"⟩
abbrev cX4_change : ByteArray := prog_6_method_11_code
def yX4_change : MethodName := ⟨RX4, "change", "(II)I"⟩
abbrev cX4_obey : ByteArray := prog_6_method_12_code
def yX4_obey : MethodName := ⟨RX4, "obey", "(LFlippedBlinds$Order;)I"⟩
def RX5 : String := "FlippedBlinds$Text"
def TX5 : u_T := fun k => match k with
  | 0 => ("FlippedBlinds$Text", "signs", "[C", true)
  | _ => ("FlippedBlinds$Text", "length", "I", false)
def tyX5 : Nat → FieldType := fun k => match k with
  | 0 => .array .char
  | _ => .int
theorem nmX5 : ∀ a, a < 2 → ∀ b, b < 2 → a ≠ b → (TX5 a).2.1 ≠ (TX5 b).2.1 := by decide +kernel
theorem tyX5_ok : ∀ k, k < 2 → parseFieldDescriptor (TX5 k).2.2.1 = some (tyX5 k) := by decide +kernel
abbrev cX5_init : ByteArray := prog_7_method_1_code
def yX5_init : MethodName := ⟨RX5, "<init>", "()V"⟩
abbrev cX5_add : ByteArray := prog_7_method_2_code
def yX5_add : MethodName := ⟨RX5, "add", "(C)Z"⟩
abbrev cX5_at : ByteArray := prog_7_method_3_code
def yX5_at : MethodName := ⟨RX5, "at", "(I)I"⟩
def RX6 : String := "FlippedBlinds$Words"
def TX6 : u_T := fun k => match k with
  | 0 => ("FlippedBlinds$Words", "size", "I", false)
  | 1 => ("FlippedBlinds$Words", "letters", "[I", true)
  | 2 => ("FlippedBlinds$Words", "widths", "[I", true)
  | 3 => ("FlippedBlinds$Words", "times", "[I", true)
  | 4 => ("FlippedBlinds$Words", "left", "[J", true)
  | _ => ("FlippedBlinds$Words", "right", "[J", true)
def tyX6 : Nat → FieldType := fun k => match k with
  | 0 => .int
  | 1 => .array .int
  | 2 => .array .int
  | 3 => .array .int
  | 4 => .array .long
  | _ => .array .long
theorem nmX6 : ∀ a, a < 6 → ∀ b, b < 6 → a ≠ b → (TX6 a).2.1 ≠ (TX6 b).2.1 := by decide +kernel
theorem tyX6_ok : ∀ k, k < 6 → parseFieldDescriptor (TX6 k).2.2.1 = some (tyX6 k) := by decide +kernel
abbrev cX6_init : ByteArray := prog_8_method_1_code
def yX6_init : MethodName := ⟨RX6, "<init>", "()V"⟩
abbrev cX6_copyFrom : ByteArray := prog_8_method_2_code
def yX6_copyFrom : MethodName := ⟨RX6, "copyFrom", "(LFlippedBlinds$Words;)V"⟩
abbrev cX6_has : ByteArray := prog_8_method_3_code
def yX6_has : MethodName := ⟨RX6, "has", "(I)Z"⟩
abbrev cX6_find : ByteArray := prog_8_method_4_code
def yX6_find : MethodName := ⟨RX6, "find", "(I)I"⟩
abbrev cX6_add : ByteArray := prog_8_method_5_code
def yX6_add : MethodName := ⟨RX6, "add", "(I)V"⟩
abbrev cX6_draw : ByteArray := prog_8_method_6_code
def yX6_draw : MethodName := ⟨RX6, "draw", "(IIII)V"⟩
abbrev cX6_remove : ByteArray := prog_8_method_7_code
def yX6_remove : MethodName := ⟨RX6, "remove", "(I)V"⟩
abbrev cX6_dotsOf : ByteArray := prog_8_method_8_code
def yX6_dotsOf : MethodName := ⟨RX6, "dotsOf", "(I)I"⟩
abbrev cX6_shiftsOn : ByteArray := prog_8_method_9_code
def yX6_shiftsOn : MethodName := ⟨RX6, "shiftsOn", "(II)I"⟩
abbrev cX6_stands : ByteArray := prog_8_method_10_code
def yX6_stands : MethodName := ⟨RX6, "stands", "(III)Z"⟩
abbrev cX6_marginAt : ByteArray := prog_8_method_11_code
def yX6_marginAt : MethodName := ⟨RX6, "marginAt", "(IILFlippedBlinds$Blind;I)I"⟩
abbrev cX6_bestShift : ByteArray := prog_8_method_12_code
def yX6_bestShift : MethodName := ⟨RX6, "bestShift", "(ILFlippedBlinds$Blind;II)I"⟩
abbrev cX6_greatestMargin : ByteArray := prog_8_method_13_code
def yX6_greatestMargin : MethodName := ⟨RX6, "greatestMargin", "(ILFlippedBlinds$Blind;I)I"⟩
abbrev cX6_bestColumn : ByteArray := prog_8_method_14_code
def yX6_bestColumn : MethodName := ⟨RX6, "bestColumn", "(ILFlippedBlinds$Blind;)I"⟩
abbrev cX6_readAt : ByteArray := prog_8_method_15_code
def yX6_readAt : MethodName := ⟨RX6, "readAt", "(LFlippedBlinds$Blind;)I"⟩
abbrev cX6_pairFar : ByteArray := prog_8_method_16_code
def yX6_pairFar : MethodName := ⟨RX6, "pairFar", "(III)I"⟩
abbrev cX6_closestPair : ByteArray := prog_8_method_17_code
def yX6_closestPair : MethodName := ⟨RX6, "closestPair", "(I)I"⟩
def RX7 : String := "FlippedBlinds"
def TX7 : u_T := fun k => match k with
  | 0 => ("FlippedBlinds", "now", "LFlippedBlinds$State;", true)
  | 1 => ("FlippedBlinds", "trial", "LFlippedBlinds$State;", true)
  | 2 => ("FlippedBlinds", "history", "LFlippedBlinds$History;", true)
  | 3 => ("FlippedBlinds", "text", "LFlippedBlinds$Text;", true)
  | 4 => ("FlippedBlinds", "order", "LFlippedBlinds$Order;", true)
  | 5 => ("FlippedBlinds", "faultPlace", "I", false)
  | 6 => ("FlippedBlinds", "faultReason", "I", false)
  | _ => ("FlippedBlinds", "faultCause", "I", false)
def tyX7 : Nat → FieldType := fun k => match k with
  | 0 => .object "FlippedBlinds$State"
  | 1 => .object "FlippedBlinds$State"
  | 2 => .object "FlippedBlinds$History"
  | 3 => .object "FlippedBlinds$Text"
  | 4 => .object "FlippedBlinds$Order"
  | 5 => .int
  | 6 => .int
  | _ => .int
theorem nmX7 : ∀ a, a < 8 → ∀ b, b < 8 → a ≠ b → (TX7 a).2.1 ≠ (TX7 b).2.1 := by decide +kernel
theorem tyX7_ok : ∀ k, k < 8 → parseFieldDescriptor (TX7 k).2.2.1 = some (tyX7 k) := by decide +kernel
abbrev cX7_init : ByteArray := prog_1_method_1_code
def yX7_init : MethodName := ⟨RX7, "<init>", "()V"⟩
abbrev cX7_word : ByteArray := prog_1_method_2_code
def yX7_word : MethodName := ⟨RX7, "word", "(I)I"⟩
abbrev cX7_unword : ByteArray := prog_1_method_3_code
def yX7_unword : MethodName := ⟨RX7, "unword", "(I)I"⟩
abbrev cX7_show : ByteArray := prog_1_method_4_code
def yX7_show : MethodName := ⟨RX7, "show", "(II)I"⟩
abbrev cX7_blank : ByteArray := prog_1_method_5_code
def yX7_blank : MethodName := ⟨RX7, "blank", "(I)I"⟩
abbrev cX7_stick : ByteArray := prog_1_method_6_code
def yX7_stick : MethodName := ⟨RX7, "stick", "(IIII)I"⟩
abbrev cX7_repair : ByteArray := prog_1_method_7_code
def yX7_repair : MethodName := ⟨RX7, "repair", "(II)I"⟩
abbrev cX7_set : ByteArray := prog_1_method_8_code
def yX7_set : MethodName := ⟨RX7, "set", "(II)I"⟩
abbrev cX7_disc : ByteArray := prog_1_method_9_code
def yX7_disc : MethodName := ⟨RX7, "disc", "(IIII)I"⟩
abbrev cX7_blindOf : ByteArray := prog_1_method_10_code
def yX7_blindOf : MethodName := ⟨RX7, "blindOf", "(II)I"⟩
abbrev cX7_wordOf : ByteArray := prog_1_method_11_code
def yX7_wordOf : MethodName := ⟨RX7, "wordOf", "(II)I"⟩
abbrev cX7_margin : ByteArray := prog_1_method_12_code
def yX7_margin : MethodName := ⟨RX7, "margin", "(III)I"⟩
abbrev cX7_would : ByteArray := prog_1_method_13_code
def yX7_would : MethodName := ⟨RX7, "would", "(III)I"⟩
abbrev cX7_closest : ByteArray := prog_1_method_14_code
def yX7_closest : MethodName := ⟨RX7, "closest", "(II)I"⟩
abbrev cX7_bestRepair : ByteArray := prog_1_method_15_code
def yX7_bestRepair : MethodName := ⟨RX7, "bestRepair", "(III)I"⟩
abbrev cX7_count : ByteArray := prog_1_method_16_code
def yX7_count : MethodName := ⟨RX7, "count", "(I)I"⟩
abbrev cX7_undo : ByteArray := prog_1_method_17_code
def yX7_undo : MethodName := ⟨RX7, "undo", "()I"⟩
abbrev cX7_type : ByteArray := prog_1_method_18_code
def yX7_type : MethodName := ⟨RX7, "type", "(I)I"⟩
abbrev cX7_clearText : ByteArray := prog_1_method_19_code
def yX7_clearText : MethodName := ⟨RX7, "clearText", "()I"⟩
abbrev cX7_fault : ByteArray := prog_1_method_20_code
def yX7_fault : MethodName := ⟨RX7, "fault", "(I)I"⟩
abbrev cX7_play : ByteArray := prog_1_method_21_code
def yX7_play : MethodName := ⟨RX7, "play", "()I"⟩
abbrev cX7_kept : ByteArray := prog_1_method_22_code
def yX7_kept : MethodName := ⟨RX7, "kept", "(I)I"⟩
abbrev cX7_readOf : ByteArray := prog_1_method_23_code
def yX7_readOf : MethodName := ⟨RX7, "readOf", "(LFlippedBlinds$Blind;I)I"⟩
abbrev cX7_tryText : ByteArray := prog_1_method_24_code
def yX7_tryText : MethodName := ⟨RX7, "tryText", "()I"⟩
abbrev cX7_leftBits : ByteArray := prog_1_method_25_code
def yX7_leftBits : MethodName := ⟨RX7, "leftBits", "(IJ)J"⟩
abbrev cX7_rightBits : ByteArray := prog_1_method_26_code
def yX7_rightBits : MethodName := ⟨RX7, "rightBits", "(IJ)J"⟩
abbrev cX7_letterDots : ByteArray := prog_1_method_27_code
def yX7_letterDots : MethodName := ⟨RX7, "letterDots", "(II)J"⟩
abbrev cX7_lettersIn : ByteArray := prog_1_method_28_code
def yX7_lettersIn : MethodName := ⟨RX7, "lettersIn", "(I)I"⟩
abbrev cX7_areLetters : ByteArray := prog_1_method_29_code
def yX7_areLetters : MethodName := ⟨RX7, "areLetters", "(I)Z"⟩
abbrev cX7_placeOf : ByteArray := prog_1_method_30_code
def yX7_placeOf : MethodName := ⟨RX7, "placeOf", "(II)I"⟩
def RX8 : String := "FlippedBlindsModel"
def TX8 : u_T := fun k => match k with
  | 0 => ("FlippedBlindsModel", "s", "[I", true)
  | 1 => ("FlippedBlindsModel", "past", "[I", true)
  | 2 => ("FlippedBlindsModel", "held", "[I", true)
  | 3 => ("FlippedBlindsModel", "pasts", "I", false)
  | 4 => ("FlippedBlindsModel", "runs", "Z", false)
  | 5 => ("FlippedBlindsModel", "text", "[I", true)
  | 6 => ("FlippedBlindsModel", "typed", "I", false)
  | 7 => ("FlippedBlindsModel", "sight", "[I", true)
  | 8 => ("FlippedBlindsModel", "free", "I", false)
  | 9 => ("FlippedBlindsModel", "bestMargin", "I", false)
  | 10 => ("FlippedBlindsModel", "spot", "I", false)
  | 11 => ("FlippedBlindsModel", "from", "I", false)
  | 12 => ("FlippedBlindsModel", "reason", "I", false)
  | 13 => ("FlippedBlindsModel", "cause", "I", false)
  | 14 => ("FlippedBlindsModel", "orders", "I", false)
  | 15 => ("FlippedBlindsModel", "order", "I", false)
  | 16 => ("FlippedBlindsModel", "told", "[I", true)
  | _ => ("FlippedBlindsModel", "before", "[I", true)
def tyX8 : Nat → FieldType := fun k => match k with
  | 0 => .array .int
  | 1 => .array .int
  | 2 => .array .int
  | 3 => .int
  | 4 => .boolean
  | 5 => .array .int
  | 6 => .int
  | 7 => .array .int
  | 8 => .int
  | 9 => .int
  | 10 => .int
  | 11 => .int
  | 12 => .int
  | 13 => .int
  | 14 => .int
  | 15 => .int
  | 16 => .array .int
  | _ => .array .int
theorem nmX8 : ∀ a, a < 18 → ∀ b, b < 18 → a ≠ b → (TX8 a).2.1 ≠ (TX8 b).2.1 := by decide +kernel
theorem tyX8_ok : ∀ k, k < 18 → parseFieldDescriptor (TX8 k).2.2.1 = some (tyX8 k) := by decide +kernel
abbrev cX8_init : ByteArray := prog_10_method_1_code
def yX8_init : MethodName := ⟨RX8, "<init>", "()V"⟩
abbrev cX8_in : ByteArray := prog_10_method_3_code
def yX8_in : MethodName := ⟨RX8, "in", "(III)Z"⟩
abbrev cX8_copies : ByteArray := prog_10_method_4_code
def yX8_copies : MethodName := ⟨RX8, "copies", "([I[I)V"⟩
abbrev cX8_changes : ByteArray := prog_10_method_5_code
def yX8_changes : MethodName := ⟨RX8, "changes", "()V"⟩
abbrev cX8_lettersFrom : ByteArray := prog_10_method_6_code
def yX8_lettersFrom : MethodName := ⟨RX8, "lettersFrom", "(I)I"⟩
abbrev cX8_dots : ByteArray := prog_10_method_7_code
def yX8_dots : MethodName := ⟨RX8, "dots", "(II)I"⟩
abbrev cX8_many : ByteArray := prog_10_method_8_code
def yX8_many : MethodName := ⟨RX8, "many", "(I)I"⟩
abbrev cX8_wide : ByteArray := prog_10_method_9_code
def yX8_wide : MethodName := ⟨RX8, "wide", "(I)I"⟩
abbrev cX8_rowOf : ByteArray := prog_10_method_10_code
def yX8_rowOf : MethodName := ⟨RX8, "rowOf", "(II)I"⟩
abbrev cX8_areLetters : ByteArray := prog_10_method_11_code
def yX8_areLetters : MethodName := ⟨RX8, "areLetters", "(I)Z"⟩
abbrev cX8_isWord : ByteArray := prog_10_method_12_code
def yX8_isWord : MethodName := ⟨RX8, "isWord", "(I)Z"⟩
abbrev cX8_letters : ByteArray := prog_10_method_13_code
def yX8_letters : MethodName := ⟨RX8, "letters", "(I)I"⟩
abbrev cX8_isBlind : ByteArray := prog_10_method_14_code
def yX8_isBlind : MethodName := ⟨RX8, "isBlind", "(I)Z"⟩
abbrev cX8_columns : ByteArray := prog_10_method_15_code
def yX8_columns : MethodName := ⟨RX8, "columns", "(I)I"⟩
abbrev cX8_shifts : ByteArray := prog_10_method_16_code
def yX8_shifts : MethodName := ⟨RX8, "shifts", "(II)I"⟩
abbrev cX8_ones : ByteArray := prog_10_method_17_code
def yX8_ones : MethodName := ⟨RX8, "ones", "(I)I"⟩
abbrev cX8_word : ByteArray := prog_10_method_18_code
def yX8_word : MethodName := ⟨RX8, "word", "(I)I"⟩
abbrev cX8_unword : ByteArray := prog_10_method_19_code
def yX8_unword : MethodName := ⟨RX8, "unword", "(I)I"⟩
abbrev cX8_at : ByteArray := prog_10_method_20_code
def yX8_at : MethodName := ⟨RX8, "at", "(III)I"⟩
abbrev cX8_isColumn : ByteArray := prog_10_method_21_code
def yX8_isColumn : MethodName := ⟨RX8, "isColumn", "(II)Z"⟩
abbrev cX8_discs : ByteArray := prog_10_method_22_code
def yX8_discs : MethodName := ⟨RX8, "discs", "(III)I"⟩
abbrev cX8_have : ByteArray := prog_10_method_23_code
def yX8_have : MethodName := ⟨RX8, "have", "(II)I"⟩
abbrev cX8_wants : ByteArray := prog_10_method_24_code
def yX8_wants : MethodName := ⟨RX8, "wants", "(IIZ)V"⟩
abbrev cX8_sees : ByteArray := prog_10_method_25_code
def yX8_sees : MethodName := ⟨RX8, "sees", "(III)V"⟩
abbrev cX8_apart : ByteArray := prog_10_method_26_code
def yX8_apart : MethodName := ⟨RX8, "apart", "(II)I"⟩
abbrev cX8_marginAt : ByteArray := prog_10_method_27_code
def yX8_marginAt : MethodName := ⟨RX8, "marginAt", "(III)I"⟩
abbrev cX8_bestShift : ByteArray := prog_10_method_28_code
def yX8_bestShift : MethodName := ⟨RX8, "bestShift", "(II)I"⟩
abbrev cX8_canShow : ByteArray := prog_10_method_29_code
def yX8_canShow : MethodName := ⟨RX8, "canShow", "(II)Z"⟩
abbrev cX8_wantsAll : ByteArray := prog_10_method_30_code
def yX8_wantsAll : MethodName := ⟨RX8, "wantsAll", "(III)V"⟩
abbrev cX8_show : ByteArray := prog_10_method_31_code
def yX8_show : MethodName := ⟨RX8, "show", "(II)I"⟩
abbrev cX8_blank : ByteArray := prog_10_method_32_code
def yX8_blank : MethodName := ⟨RX8, "blank", "(I)I"⟩
abbrev cX8_stick : ByteArray := prog_10_method_33_code
def yX8_stick : MethodName := ⟨RX8, "stick", "(IIII)I"⟩
abbrev cX8_repair : ByteArray := prog_10_method_34_code
def yX8_repair : MethodName := ⟨RX8, "repair", "(II)I"⟩
abbrev cX8_set : ByteArray := prog_10_method_35_code
def yX8_set : MethodName := ⟨RX8, "set", "(II)I"⟩
abbrev cX8_disc : ByteArray := prog_10_method_36_code
def yX8_disc : MethodName := ⟨RX8, "disc", "(IIII)I"⟩
abbrev cX8_unlike : ByteArray := prog_10_method_37_code
def yX8_unlike : MethodName := ⟨RX8, "unlike", "(I)I"⟩
abbrev cX8_readAs : ByteArray := prog_10_method_38_code
def yX8_readAs : MethodName := ⟨RX8, "readAs", "(II)I"⟩
abbrev cX8_showable : ByteArray := prog_10_method_39_code
def yX8_showable : MethodName := ⟨RX8, "showable", "(I)I"⟩
abbrev cX8_blindOf : ByteArray := prog_10_method_40_code
def yX8_blindOf : MethodName := ⟨RX8, "blindOf", "(II)I"⟩
abbrev cX8_bright : ByteArray := prog_10_method_41_code
def yX8_bright : MethodName := ⟨RX8, "bright", "(I)I"⟩
abbrev cX8_wordOf : ByteArray := prog_10_method_42_code
def yX8_wordOf : MethodName := ⟨RX8, "wordOf", "(II)I"⟩
abbrev cX8_margin : ByteArray := prog_10_method_43_code
def yX8_margin : MethodName := ⟨RX8, "margin", "(III)I"⟩
abbrev cX8_would : ByteArray := prog_10_method_44_code
def yX8_would : MethodName := ⟨RX8, "would", "(III)I"⟩
abbrev cX8_between : ByteArray := prog_10_method_45_code
def yX8_between : MethodName := ⟨RX8, "between", "(III)I"⟩
abbrev cX8_closest : ByteArray := prog_10_method_46_code
def yX8_closest : MethodName := ⟨RX8, "closest", "(II)I"⟩
abbrev cX8_bestRepair : ByteArray := prog_10_method_47_code
def yX8_bestRepair : MethodName := ⟨RX8, "bestRepair", "(III)I"⟩
abbrev cX8_count : ByteArray := prog_10_method_48_code
def yX8_count : MethodName := ⟨RX8, "count", "(I)I"⟩
abbrev cX8_undo : ByteArray := prog_10_method_49_code
def yX8_undo : MethodName := ⟨RX8, "undo", "()I"⟩
abbrev cX8_type : ByteArray := prog_10_method_50_code
def yX8_type : MethodName := ⟨RX8, "type", "(I)I"⟩
abbrev cX8_clearText : ByteArray := prog_10_method_51_code
def yX8_clearText : MethodName := ⟨RX8, "clearText", "()I"⟩
abbrev cX8_isAt : ByteArray := prog_10_method_52_code
def yX8_isAt : MethodName := ⟨RX8, "isAt", "(II)Z"⟩
abbrev cX8_sign : ByteArray := prog_10_method_53_code
def yX8_sign : MethodName := ⟨RX8, "sign", "(I)Z"⟩
abbrev cX8_number : ByteArray := prog_10_method_54_code
def yX8_number : MethodName := ⟨RX8, "number", "(I)Z"⟩
abbrev cX8_lettered : ByteArray := prog_10_method_55_code
def yX8_lettered : MethodName := ⟨RX8, "lettered", "()Z"⟩
abbrev cX8_numbersOf : ByteArray := prog_10_method_56_code
def yX8_numbersOf : MethodName := ⟨RX8, "numbersOf", "(I)I"⟩
abbrev cX8_reads : ByteArray := prog_10_method_57_code
def yX8_reads : MethodName := ⟨RX8, "reads", "()Z"⟩
abbrev cX8_calls : ByteArray := prog_10_method_58_code
def yX8_calls : MethodName := ⟨RX8, "calls", "()I"⟩
abbrev cX8_plays : ByteArray := prog_10_method_59_code
def yX8_plays : MethodName := ⟨RX8, "plays", "()Z"⟩
abbrev cX8_fault : ByteArray := prog_10_method_60_code
def yX8_fault : MethodName := ⟨RX8, "fault", "(I)I"⟩
abbrev cX8_play : ByteArray := prog_10_method_61_code
def yX8_play : MethodName := ⟨RX8, "play", "()I"⟩
def RJ13 : String := "java/lang/Long"
abbrev cJ13_bitCount_95d88 : ByteArray := prog_11_method_50_code
def yJ13_bitCount_95d88 : MethodName := ⟨RJ13, "bitCount", "(J)I"⟩
def RJ9 : String := "java/lang/Math"
abbrev cJ9_min_7cf53 : ByteArray := prog_12_method_69_code
def yJ9_min_7cf53 : MethodName := ⟨RJ9, "min", "(II)I"⟩
def RJ10 : String := "java/lang/System"
def RL : String := "FlippedBlindsLaw"
abbrev cL_law : ByteArray := code
def yL_law : MethodName := ⟨RL, "law", "([I)Z"⟩
abbrev vwCl : List vw_C := [(RX0, TX0, 7), (RX1, TX1, 2), (RX2, TX2, 2), (RX3, TX3, 5), (RX4, TX4, 8), (RX5, TX5, 2), (RX6, TX6, 6), (RX7, TX7, 8), (RX8, TX8, 18)]
