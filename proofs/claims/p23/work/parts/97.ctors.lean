-- ===== the nine constructors =====
def zqDo (q : Nat) : va_W := [(q, .inr (1, [.long 0, .long 0]))]
def zqBl (k : zQu) (c : Int32) (q : Nat) (d : Nat → Nat) : va_W := (q, .inr (0, [.int c, .ref (d 0), .ref (d 1), .ref (d 2), .ref (d 3), .ref (d 4), .int 0])) :: ((((([] ++ zqDo (d 0)) ++ zqDo (d 1)) ++ zqDo (d 2)) ++ zqDo (d 3)) ++ [(d 4, .inl (k.1, 120, .inl (fun _ => 0)))])
def zqWo (k : zQu) (q : Nat) (d : Nat → Nat) : va_W := (q, .inr (6, [.int 0, .ref (d 0), .ref (d 1), .ref (d 2), .ref (d 3), .ref (d 4)])) :: ((((([] ++ [(d 0, .inl (k.1, 10, .inl (fun _ => 0)))]) ++ [(d 1, .inl (k.1, 10, .inl (fun _ => 0)))]) ++ [(d 2, .inl (k.1, 10, .inl (fun _ => 0)))]) ++ [(d 3, .inl (k.2.1, 220, .inr (.inl (fun _ => 0))))]) ++ [(d 4, .inl (k.2.1, 220, .inr (.inl (fun _ => 0))))])
abbrev zYb : Type := Nat × (Nat → Nat)
abbrev zYt : Type := zYb × zYb × zYb
def zqSt (k : zQu) (q : Nat) (u : zYt) : va_W := (q, .inr (4, [.ref u.1.1, .ref u.2.1.1, .ref u.2.2.1, .int 2, .int 20, .int 0, .int 0, .int 0])) :: ((([] ++ zqWo k u.1.1 u.1.2) ++ zqBl k 24 u.2.1.1 u.2.1.2) ++ zqBl k 16 u.2.2.1 u.2.2.2)
def zqTe (k : zQu) (q a : Nat) : va_W := (q, .inr (5, [.ref a, .int 0])) :: ([] ++ [(a, .inl (k.2.2.1, 60, .inl (fun _ => 0)))])
def zqOr (k : zQu) (q a : Nat) : va_W := (q, .inr (3, [.int 0, .int 0, .ref a, .int 0, .int 0])) :: ([] ++ [(a, .inl (k.1, 4, .inl (fun _ => 0)))])
def zhf (a : Nat → Nat) : Nat → Option Nat := va_up (va_up (va_up (va_up (va_up (fun _ => none) (Int32.toNatClampNeg 0) (some (a 0))) (Int32.toNatClampNeg 1) (some (a 1))) (Int32.toNatClampNeg 2) (some (a 2))) (Int32.toNatClampNeg 3) (some (a 3))) (Int32.toNatClampNeg 4) (some (a 4))
abbrev zYs : Type := Nat × zYt
def zqHi (k : zQu) (q : Nat) (u : Nat × (Nat → zYs)) : va_W := (q, .inr (2, [.ref u.1, .int 0])) :: (((((([] ++ [(u.1, .inl (k.2.2.2, 5, .inr (.inr (.inr (.inr (zhf (fun j => (u.2 j).1)))))))]) ++ zqSt k (u.2 0).1 (u.2 0).2) ++ zqSt k (u.2 1).1 (u.2 1).2) ++ zqSt k (u.2 2).1 (u.2 2).2) ++ zqSt k (u.2 3).1 (u.2 3).2) ++ zqSt k (u.2 4).1 (u.2 4).2)
abbrev zYf : Type := zYs × zYs × (Nat × (Nat × (Nat → zYs))) × (Nat × Nat) × (Nat × Nat)
def zqFB (k : zQu) (q : Nat) (u : zYf) : va_W := (q, .inr (7, [.ref u.1.1, .ref u.2.1.1, .ref u.2.2.1.1, .ref u.2.2.2.1.1, .ref u.2.2.2.2.1, .int 0, .int 0, .int 0])) :: ((((([] ++ zqSt k u.1.1 u.1.2) ++ zqSt k u.2.1.1 u.2.1.2) ++ zqHi k u.2.2.1.1 u.2.2.1.2) ++ zqTe k u.2.2.2.1.1 u.2.2.2.1.2) ++ zqOr k u.2.2.2.2.1 u.2.2.2.2.2)
def zs0 : Nat → Int32 := upd (upd (fun _ => 0) (Int32.toNatClampNeg 6) 2) (Int32.toNatClampNeg 7) 20
theorem zdf0 : ∀ j, j < 7 → defaultValue (tyX0 j) = vp_V [.int 0, .null, .null, .null, .null, .null, .int 0] j := by
  intro j hj
  rcases (show j = 0 ∨ j = 1 ∨ j = 2 ∨ j = 3 ∨ j = 4 ∨ j = 5 ∨ j = 6 by omega) with rfl | rfl | rfl | rfl | rfl | rfl | rfl <;> rfl
theorem zdf1 : ∀ j, j < 2 → defaultValue (tyX1 j) = vp_V [.long 0, .long 0] j := by
  intro j hj
  rcases (show j = 0 ∨ j = 1 by omega) with rfl | rfl <;> rfl
theorem zdf2 : ∀ j, j < 2 → defaultValue (tyX2 j) = vp_V [.null, .int 0] j := by
  intro j hj
  rcases (show j = 0 ∨ j = 1 by omega) with rfl | rfl <;> rfl
theorem zdf3 : ∀ j, j < 5 → defaultValue (tyX3 j) = vp_V [.int 0, .int 0, .null, .int 0, .int 0] j := by
  intro j hj
  rcases (show j = 0 ∨ j = 1 ∨ j = 2 ∨ j = 3 ∨ j = 4 by omega) with rfl | rfl | rfl | rfl | rfl <;> rfl
theorem zdf4 : ∀ j, j < 8 → defaultValue (tyX4 j) = vp_V [.null, .null, .null, .int 0, .int 0, .int 0, .int 0, .int 0] j := by
  intro j hj
  rcases (show j = 0 ∨ j = 1 ∨ j = 2 ∨ j = 3 ∨ j = 4 ∨ j = 5 ∨ j = 6 ∨ j = 7 by omega) with rfl | rfl | rfl | rfl | rfl | rfl | rfl | rfl <;> rfl
theorem zdf5 : ∀ j, j < 2 → defaultValue (tyX5 j) = vp_V [.null, .int 0] j := by
  intro j hj
  rcases (show j = 0 ∨ j = 1 by omega) with rfl | rfl <;> rfl
theorem zdf6 : ∀ j, j < 6 → defaultValue (tyX6 j) = vp_V [.int 0, .null, .null, .null, .null, .null] j := by
  intro j hj
  rcases (show j = 0 ∨ j = 1 ∨ j = 2 ∨ j = 3 ∨ j = 4 ∨ j = 5 by omega) with rfl | rfl | rfl | rfl | rfl | rfl <;> rfl
theorem zdf7 : ∀ j, j < 8 → defaultValue (tyX7 j) = vp_V [.null, .null, .null, .null, .null, .int 0, .int 0, .int 0] j := by
  intro j hj
  rcases (show j = 0 ∨ j = 1 ∨ j = 2 ∨ j = 3 ∨ j = 4 ∨ j = 5 ∨ j = 6 ∨ j = 7 by omega) with rfl | rfl | rfl | rfl | rfl | rfl | rfl | rfl <;> rfl
theorem zkc0 : Cond.methodLink "FlippedBlinds$Dots" 1 Lib.objectInit ∈ zTs := zTs_of (List.mem_of_getElem? (i := 76) (by decide +kernel)) rfl
theorem zkc1 : Cond.instanceMethod Lib.objectInit ∈ zTs := zTs_of (List.mem_of_getElem? (i := 20) (by decide +kernel)) rfl
theorem zkc2 : Cond.code Lib.objectInit ⟨#[0xb1]⟩ 1 none ∈ zTs := zTs_of (List.mem_of_getElem? (i := 21) (by decide +kernel)) rfl
theorem zkc3 : Cond.methodLink "FlippedBlinds$Words" 3 Lib.objectInit ∈ zTs := zTs_of (List.mem_of_getElem? (i := 33) (by decide +kernel)) rfl
theorem zkc4 : Cond.arrayClass .int ∈ zTs := zTs_of (List.mem_of_getElem? (i := 63) (by decide +kernel)) rfl
theorem zkc5 : Cond.fieldLink "FlippedBlinds$Words" 9 "FlippedBlinds$Words" "letters" "[I" ∈ zTs := zTs_of (List.mem_of_getElem? (i := 37) (by decide +kernel)) rfl
theorem zkc6 : Cond.fieldLink "FlippedBlinds$Words" 15 "FlippedBlinds$Words" "widths" "[I" ∈ zTs := zTs_of (List.mem_of_getElem? (i := 39) (by decide +kernel)) rfl
theorem zkc7 : Cond.fieldLink "FlippedBlinds$Words" 18 "FlippedBlinds$Words" "times" "[I" ∈ zTs := zTs_of (List.mem_of_getElem? (i := 41) (by decide +kernel)) rfl
theorem zkc8 : Cond.arrayClass .long ∈ zTs := zTs_of (List.mem_of_getElem? (i := 64) (by decide +kernel)) rfl
theorem zkc9 : Cond.fieldLink "FlippedBlinds$Words" 21 "FlippedBlinds$Words" "left" "[J" ∈ zTs := zTs_of (List.mem_of_getElem? (i := 44) (by decide +kernel)) rfl
theorem zkc10 : Cond.fieldLink "FlippedBlinds$Words" 25 "FlippedBlinds$Words" "right" "[J" ∈ zTs := zTs_of (List.mem_of_getElem? (i := 47) (by decide +kernel)) rfl
theorem zkc11 : Cond.methodLink "FlippedBlinds$Blind" 3 Lib.objectInit ∈ zTs := zTs_of (List.mem_of_getElem? (i := 70) (by decide +kernel)) rfl
theorem zkc12 : Cond.fieldLink "FlippedBlinds$Blind" 9 "FlippedBlinds$Blind" "columns" "I" ∈ zTs := zTs_of (List.mem_of_getElem? (i := 90) (by decide +kernel)) rfl
theorem zkc13 : Cond.classLink "FlippedBlinds$Blind" 15 "FlippedBlinds$Dots" ∈ zTs := zTs_of (List.mem_of_getElem? (i := 71) (by decide +kernel)) rfl
theorem zkc14 : Cond.instantiable RX1 2 ∈ zTs := zTs_of (List.mem_of_getElem? (i := 72) (by decide +kernel)) rfl
theorem zkc15 : Cond.initialized RX1 ∈ zTs := zTs_of (List.mem_of_getElem? (i := 7) (by decide +kernel)) rfl
theorem zkc16 : Cond.instanceMethod yX1_init ∈ zTs := zTs_of (List.mem_of_getElem? (i := 74) (by decide +kernel)) rfl
theorem zkc17 : Cond.code yX1_init cX1_init 1 none ∈ zTs := zTs_of (List.mem_of_getElem? (i := 75) (by decide +kernel)) rfl
theorem zkc18 : Cond.fieldLink "FlippedBlinds$Blind" 18 "FlippedBlinds$Blind" "bright" "LFlippedBlinds$Dots;" ∈ zTs := zTs_of (List.mem_of_getElem? (i := 93) (by decide +kernel)) rfl
theorem zkc19 : Cond.fieldLink "FlippedBlinds$Blind" 22 "FlippedBlinds$Blind" "stuck" "LFlippedBlinds$Dots;" ∈ zTs := zTs_of (List.mem_of_getElem? (i := 97) (by decide +kernel)) rfl
theorem zkc20 : Cond.fieldLink "FlippedBlinds$Blind" 25 "FlippedBlinds$Blind" "wanted" "LFlippedBlinds$Dots;" ∈ zTs := zTs_of (List.mem_of_getElem? (i := 101) (by decide +kernel)) rfl
theorem zkc21 : Cond.fieldLink "FlippedBlinds$Blind" 28 "FlippedBlinds$Blind" "toFlip" "LFlippedBlinds$Dots;" ∈ zTs := zTs_of (List.mem_of_getElem? (i := 103) (by decide +kernel)) rfl
theorem zkc22 : Cond.fieldLink "FlippedBlinds$Blind" 31 "FlippedBlinds$Blind" "wear" "[I" ∈ zTs := zTs_of (List.mem_of_getElem? (i := 104) (by decide +kernel)) rfl
theorem zkc23 : Cond.methodLink "FlippedBlinds$State" 3 Lib.objectInit ∈ zTs := zTs_of (List.mem_of_getElem? (i := 27) (by decide +kernel)) rfl
theorem zkc24 : Cond.classLink "FlippedBlinds$State" 9 "FlippedBlinds$Words" ∈ zTs := zTs_of (List.mem_of_getElem? (i := 28) (by decide +kernel)) rfl
theorem zkc25 : Cond.instantiable RX6 6 ∈ zTs := zTs_of (List.mem_of_getElem? (i := 29) (by decide +kernel)) rfl
theorem zkc26 : Cond.initialized RX6 ∈ zTs := zTs_of (List.mem_of_getElem? (i := 5) (by decide +kernel)) rfl
theorem zkc27 : Cond.instanceMethod yX6_init ∈ zTs := zTs_of (List.mem_of_getElem? (i := 31) (by decide +kernel)) rfl
theorem zkc28 : Cond.code yX6_init cX6_init 1 none ∈ zTs := zTs_of (List.mem_of_getElem? (i := 32) (by decide +kernel)) rfl
theorem zkc29 : Cond.methodLink "FlippedBlinds$State" 11 yX6_init ∈ zTs := zTs_of (List.mem_of_getElem? (i := 30) (by decide +kernel)) rfl
theorem zkc30 : Cond.fieldLink "FlippedBlinds$State" 12 "FlippedBlinds$State" "words" "LFlippedBlinds$Words;" ∈ zTs := zTs_of (List.mem_of_getElem? (i := 122) (by decide +kernel)) rfl
theorem zkc31 : Cond.classLink "FlippedBlinds$State" 18 "FlippedBlinds$Blind" ∈ zTs := zTs_of (List.mem_of_getElem? (i := 65) (by decide +kernel)) rfl
theorem zkc32 : Cond.instantiable RX0 7 ∈ zTs := zTs_of (List.mem_of_getElem? (i := 66) (by decide +kernel)) rfl
theorem zkc33 : Cond.initialized RX0 ∈ zTs := zTs_of (List.mem_of_getElem? (i := 6) (by decide +kernel)) rfl
theorem zkc34 : Cond.instanceMethod yX0_init ∈ zTs := zTs_of (List.mem_of_getElem? (i := 68) (by decide +kernel)) rfl
theorem zkc35 : Cond.code yX0_init cX0_init 2 none ∈ zTs := zTs_of (List.mem_of_getElem? (i := 69) (by decide +kernel)) rfl
theorem zkc36 : Cond.methodLink "FlippedBlinds$State" 20 yX0_init ∈ zTs := zTs_of (List.mem_of_getElem? (i := 67) (by decide +kernel)) rfl
theorem zkc37 : Cond.fieldLink "FlippedBlinds$State" 23 "FlippedBlinds$State" "wide" "LFlippedBlinds$Blind;" ∈ zTs := zTs_of (List.mem_of_getElem? (i := 124) (by decide +kernel)) rfl
theorem zkc38 : Cond.fieldLink "FlippedBlinds$State" 27 "FlippedBlinds$State" "narrow" "LFlippedBlinds$Blind;" ∈ zTs := zTs_of (List.mem_of_getElem? (i := 126) (by decide +kernel)) rfl
theorem zkc39 : Cond.fieldLink "FlippedBlinds$State" 30 "FlippedBlinds$State" "needed" "I" ∈ zTs := zTs_of (List.mem_of_getElem? (i := 128) (by decide +kernel)) rfl
theorem zkc40 : Cond.fieldLink "FlippedBlinds$State" 34 "FlippedBlinds$State" "life" "I" ∈ zTs := zTs_of (List.mem_of_getElem? (i := 130) (by decide +kernel)) rfl
theorem zkc41 : Cond.methodLink "FlippedBlinds$History" 3 Lib.objectInit ∈ zTs := zTs_of (List.mem_of_getElem? (i := 160) (by decide +kernel)) rfl
theorem zkc42 : Cond.classLink "FlippedBlinds$History" 9 "FlippedBlinds$State" ∈ zTs := zTs_of (List.mem_of_getElem? (i := 161) (by decide +kernel)) rfl
theorem zkc43 : Cond.fieldLink "FlippedBlinds$History" 11 "FlippedBlinds$History" "states" "[LFlippedBlinds$State;" ∈ zTs := zTs_of (List.mem_of_getElem? (i := 164) (by decide +kernel)) rfl
theorem zkc44 : Cond.instantiable RX4 8 ∈ zTs := zTs_of (List.mem_of_getElem? (i := 23) (by decide +kernel)) rfl
theorem zkc45 : Cond.initialized RX4 ∈ zTs := zTs_of (List.mem_of_getElem? (i := 4) (by decide +kernel)) rfl
theorem zkc46 : Cond.instanceMethod yX4_init ∈ zTs := zTs_of (List.mem_of_getElem? (i := 25) (by decide +kernel)) rfl
theorem zkc47 : Cond.code yX4_init cX4_init 1 none ∈ zTs := zTs_of (List.mem_of_getElem? (i := 26) (by decide +kernel)) rfl
theorem zkc48 : Cond.methodLink "FlippedBlinds$History" 17 yX4_init ∈ zTs := zTs_of (List.mem_of_getElem? (i := 163) (by decide +kernel)) rfl
theorem zkc49 : Cond.methodLink "FlippedBlinds$Text" 3 Lib.objectInit ∈ zTs := zTs_of (List.mem_of_getElem? (i := 177) (by decide +kernel)) rfl
theorem zkc50 : Cond.arrayClass .char ∈ zTs := zTs_of (List.mem_of_getElem? (i := 185) (by decide +kernel)) rfl
theorem zkc51 : Cond.fieldLink "FlippedBlinds$Text" 9 "FlippedBlinds$Text" "signs" "[C" ∈ zTs := zTs_of (List.mem_of_getElem? (i := 178) (by decide +kernel)) rfl
theorem zkc52 : Cond.methodLink "FlippedBlinds$Order" 3 Lib.objectInit ∈ zTs := zTs_of (List.mem_of_getElem? (i := 191) (by decide +kernel)) rfl
theorem zkc53 : Cond.fieldLink "FlippedBlinds$Order" 11 "FlippedBlinds$Order" "numbers" "[I" ∈ zTs := zTs_of (List.mem_of_getElem? (i := 192) (by decide +kernel)) rfl
theorem zkc54 : Cond.methodLink "FlippedBlinds" 3 Lib.objectInit ∈ zTs := zTs_of (List.mem_of_getElem? (i := 19) (by decide +kernel)) rfl
theorem zkc55 : Cond.classLink "FlippedBlinds" 9 "FlippedBlinds$State" ∈ zTs := zTs_of (List.mem_of_getElem? (i := 22) (by decide +kernel)) rfl
theorem zkc56 : Cond.methodLink "FlippedBlinds" 11 yX4_init ∈ zTs := zTs_of (List.mem_of_getElem? (i := 24) (by decide +kernel)) rfl
theorem zkc57 : Cond.fieldLink "FlippedBlinds" 12 "FlippedBlinds" "now" "LFlippedBlinds$State;" ∈ zTs := zTs_of (List.mem_of_getElem? (i := 204) (by decide +kernel)) rfl
theorem zkc58 : Cond.fieldLink "FlippedBlinds" 16 "FlippedBlinds" "trial" "LFlippedBlinds$State;" ∈ zTs := zTs_of (List.mem_of_getElem? (i := 205) (by decide +kernel)) rfl
theorem zkc59 : Cond.classLink "FlippedBlinds" 19 "FlippedBlinds$History" ∈ zTs := zTs_of (List.mem_of_getElem? (i := 155) (by decide +kernel)) rfl
theorem zkc60 : Cond.instantiable RX2 2 ∈ zTs := zTs_of (List.mem_of_getElem? (i := 156) (by decide +kernel)) rfl
theorem zkc61 : Cond.initialized RX2 ∈ zTs := zTs_of (List.mem_of_getElem? (i := 8) (by decide +kernel)) rfl
theorem zkc62 : Cond.instanceMethod yX2_init ∈ zTs := zTs_of (List.mem_of_getElem? (i := 158) (by decide +kernel)) rfl
theorem zkc63 : Cond.code yX2_init cX2_init 2 none ∈ zTs := zTs_of (List.mem_of_getElem? (i := 159) (by decide +kernel)) rfl
theorem zkc64 : Cond.methodLink "FlippedBlinds" 21 yX2_init ∈ zTs := zTs_of (List.mem_of_getElem? (i := 157) (by decide +kernel)) rfl
theorem zkc65 : Cond.fieldLink "FlippedBlinds" 22 "FlippedBlinds" "history" "LFlippedBlinds$History;" ∈ zTs := zTs_of (List.mem_of_getElem? (i := 206) (by decide +kernel)) rfl
theorem zkc66 : Cond.classLink "FlippedBlinds" 26 "FlippedBlinds$Text" ∈ zTs := zTs_of (List.mem_of_getElem? (i := 172) (by decide +kernel)) rfl
theorem zkc67 : Cond.instantiable RX5 2 ∈ zTs := zTs_of (List.mem_of_getElem? (i := 173) (by decide +kernel)) rfl
theorem zkc68 : Cond.initialized RX5 ∈ zTs := zTs_of (List.mem_of_getElem? (i := 9) (by decide +kernel)) rfl
theorem zkc69 : Cond.instanceMethod yX5_init ∈ zTs := zTs_of (List.mem_of_getElem? (i := 175) (by decide +kernel)) rfl
theorem zkc70 : Cond.code yX5_init cX5_init 1 none ∈ zTs := zTs_of (List.mem_of_getElem? (i := 176) (by decide +kernel)) rfl
theorem zkc71 : Cond.methodLink "FlippedBlinds" 28 yX5_init ∈ zTs := zTs_of (List.mem_of_getElem? (i := 174) (by decide +kernel)) rfl
theorem zkc72 : Cond.fieldLink "FlippedBlinds" 29 "FlippedBlinds" "text" "LFlippedBlinds$Text;" ∈ zTs := zTs_of (List.mem_of_getElem? (i := 207) (by decide +kernel)) rfl
theorem zkc73 : Cond.classLink "FlippedBlinds" 33 "FlippedBlinds$Order" ∈ zTs := zTs_of (List.mem_of_getElem? (i := 186) (by decide +kernel)) rfl
theorem zkc74 : Cond.instantiable RX3 5 ∈ zTs := zTs_of (List.mem_of_getElem? (i := 187) (by decide +kernel)) rfl
theorem zkc75 : Cond.initialized RX3 ∈ zTs := zTs_of (List.mem_of_getElem? (i := 10) (by decide +kernel)) rfl
theorem zkc76 : Cond.instanceMethod yX3_init ∈ zTs := zTs_of (List.mem_of_getElem? (i := 189) (by decide +kernel)) rfl
theorem zkc77 : Cond.code yX3_init cX3_init 1 none ∈ zTs := zTs_of (List.mem_of_getElem? (i := 190) (by decide +kernel)) rfl
theorem zkc78 : Cond.methodLink "FlippedBlinds" 35 yX3_init ∈ zTs := zTs_of (List.mem_of_getElem? (i := 188) (by decide +kernel)) rfl
theorem zkc79 : Cond.fieldLink "FlippedBlinds" 36 "FlippedBlinds" "order" "LFlippedBlinds$Order;" ∈ zTs := zTs_of (List.mem_of_getElem? (i := 208) (by decide +kernel)) rfl
set_option maxHeartbeats 4000000 in
set_option maxRecDepth 100000 in
theorem cX1 (l : Launch) (D : va_G) (k : zQu) (h0 : Nat) : zMc l D k yX1_init cX1_init 1 { frames := 1, cells := 0, slots := 0, locals := 12 } [.ref h0] [(h0, .inr (1, [.long 0, .long 0]))] (fun _ : Unit => zqDo h0) := by
  refine zy_met (by decide) rfl (Nat.le_of_ble_eq_true rfl) (fun {p e s m args below meth c A Q} Γ hmn hA fin ls hl h => ?_)
  have hl : lv_has ls 1 [(0, .ref h0)] := hl
  have h : zYh D A s ((h0, .inr (1, [.long 0, .long 0])) :: []) _ _ := h
  refine lv_aload_n (k := 0) Γ.1 Γ.2.1 (by decide +kernel) rfl (lv_at hl 0 rfl) ?_
  refine zy_obj Γ zkc0 zkc1 zkc2 hl.1 (by decide +kernel) ⟨by decide, by decide⟩ ?_
  exact fin () _ _ 4 ls h (by decide +kernel)
set_option maxHeartbeats 4000000 in
set_option maxRecDepth 100000 in
theorem cX6 (l : Launch) (D : va_G) (k : zQu) (h0 : Nat) : zMc l D k yX6_init cX6_init 1 { frames := 1, cells := 5, slots := 470, locals := 12 } [.ref h0] [(h0, .inr (6, [.int 0, .null, .null, .null, .null, .null]))] (fun u : Nat → Nat => zqWo k h0 u) := by
  refine zy_met (by decide) rfl (Nat.le_of_ble_eq_true rfl) (fun {p e s m args below meth c A Q} Γ hmn hA fin ls hl h => ?_)
  have hl : lv_has ls 1 [(0, .ref h0)] := hl
  have h : zYh D A s ((h0, .inr (6, [.int 0, .null, .null, .null, .null, .null])) :: []) _ _ := h
  refine lv_aload_n (k := 0) Γ.1 Γ.2.1 (by decide +kernel) rfl (lv_at hl 0 rfl) ?_
  refine zy_obj Γ zkc3 zkc1 zkc2 hl.1 (by decide +kernel) ⟨by decide, by decide⟩ ?_
  refine lv_aload_n (k := 0) Γ.1 Γ.2.1 (by decide +kernel) rfl (lv_at hl 0 rfl) ?_
  refine lv_bipush (n := 10) (v := 10) Γ.1 Γ.2.1 (by decide +kernel) (by decide) ?_
  refine zy_newa (atype := .int) (ty := .int) (N' := 10) (t0 := 0) (cA := k.1) (a0 := (10, .inl (fun _ => 0))) Γ hA h zkc4 rfl (fun _ z => by cases z) rfl (fun _ => rfl) (by decide) (by decide) (by decide) ⟨by decide, by decide⟩ (by decide +kernel) (fun q7_4 H h => ?_)
  have h : zYh D A s ((h0, .inr (6, [.int 0, .null, .null, .null, .null, .null])) :: ([] ++ [(q7_4, .inl (k.1, 10, .inl (fun _ => 0)))])) _ _ := h
  refine zy_putF (C := RX6) (T := TX6) (N := 6) (ci := 6) (fs := [.int 0, .null, .null, .null, .null, .null]) (ty := tyX6 1) Γ hmn h zin6 tyX6 tyX6_ok nmX6 rfl 1 (by decide) zkc5 rfl rfl (tyX6_ok 1 (by decide)) rfl rfl (Nat.le_of_ble_eq_true rfl) (by decide +kernel) (fun H locs h => ?_)
  have h : zYh D A s ((h0, .inr (6, [.int 0, .ref q7_4, .null, .null, .null, .null])) :: ([] ++ [(q7_4, .inl (k.1, 10, .inl (fun _ => 0)))])) _ _ := h
  refine lv_aload_n (k := 0) Γ.1 Γ.2.1 (by decide +kernel) rfl (lv_at hl 0 rfl) ?_
  refine lv_bipush (n := 10) (v := 10) Γ.1 Γ.2.1 (by decide +kernel) (by decide) ?_
  refine zy_newa (atype := .int) (ty := .int) (N' := 10) (t0 := 0) (cA := k.1) (a0 := (10, .inl (fun _ => 0))) Γ hA h zkc4 rfl (fun _ z => by cases z) rfl (fun _ => rfl) (by decide) (by decide) (by decide) ⟨by decide, by decide⟩ (by decide +kernel) (fun q15_8 H h => ?_)
  have h : zYh D A s ((h0, .inr (6, [.int 0, .ref q7_4, .null, .null, .null, .null])) :: (([] ++ [(q7_4, .inl (k.1, 10, .inl (fun _ => 0)))]) ++ [(q15_8, .inl (k.1, 10, .inl (fun _ => 0)))])) _ _ := h
  refine zy_putF (C := RX6) (T := TX6) (N := 6) (ci := 6) (fs := [.int 0, .ref q7_4, .null, .null, .null, .null]) (ty := tyX6 2) Γ hmn h zin6 tyX6 tyX6_ok nmX6 rfl 2 (by decide) zkc6 rfl rfl (tyX6_ok 2 (by decide)) rfl rfl (Nat.le_of_ble_eq_true rfl) (by decide +kernel) (fun H locs h => ?_)
  have h : zYh D A s ((h0, .inr (6, [.int 0, .ref q7_4, .ref q15_8, .null, .null, .null])) :: (([] ++ [(q7_4, .inl (k.1, 10, .inl (fun _ => 0)))]) ++ [(q15_8, .inl (k.1, 10, .inl (fun _ => 0)))])) _ _ := h
  refine lv_aload_n (k := 0) Γ.1 Γ.2.1 (by decide +kernel) rfl (lv_at hl 0 rfl) ?_
  refine lv_bipush (n := 10) (v := 10) Γ.1 Γ.2.1 (by decide +kernel) (by decide) ?_
  refine zy_newa (atype := .int) (ty := .int) (N' := 10) (t0 := 0) (cA := k.1) (a0 := (10, .inl (fun _ => 0))) Γ hA h zkc4 rfl (fun _ z => by cases z) rfl (fun _ => rfl) (by decide) (by decide) (by decide) ⟨by decide, by decide⟩ (by decide +kernel) (fun q23_12 H h => ?_)
  have h : zYh D A s ((h0, .inr (6, [.int 0, .ref q7_4, .ref q15_8, .null, .null, .null])) :: ((([] ++ [(q7_4, .inl (k.1, 10, .inl (fun _ => 0)))]) ++ [(q15_8, .inl (k.1, 10, .inl (fun _ => 0)))]) ++ [(q23_12, .inl (k.1, 10, .inl (fun _ => 0)))])) _ _ := h
  refine zy_putF (C := RX6) (T := TX6) (N := 6) (ci := 6) (fs := [.int 0, .ref q7_4, .ref q15_8, .null, .null, .null]) (ty := tyX6 3) Γ hmn h zin6 tyX6 tyX6_ok nmX6 rfl 3 (by decide) zkc7 rfl rfl (tyX6_ok 3 (by decide)) rfl rfl (Nat.le_of_ble_eq_true rfl) (by decide +kernel) (fun H locs h => ?_)
  have h : zYh D A s ((h0, .inr (6, [.int 0, .ref q7_4, .ref q15_8, .ref q23_12, .null, .null])) :: ((([] ++ [(q7_4, .inl (k.1, 10, .inl (fun _ => 0)))]) ++ [(q15_8, .inl (k.1, 10, .inl (fun _ => 0)))]) ++ [(q23_12, .inl (k.1, 10, .inl (fun _ => 0)))])) _ _ := h
  refine lv_aload_n (k := 0) Γ.1 Γ.2.1 (by decide +kernel) rfl (lv_at hl 0 rfl) ?_
  refine lv_sipush (n := 220) (v := 220) Γ.1 Γ.2.1 (by decide +kernel) (by decide) ?_
  refine zy_newa (atype := .long) (ty := .long) (N' := 220) (t0 := 1) (cA := k.2.1) (a0 := (220, .inr (.inl (fun _ => 0)))) Γ hA h zkc8 rfl (fun _ z => by cases z) rfl (fun _ => rfl) (by decide) (by decide) (by decide) ⟨by decide, by decide⟩ (by decide +kernel) (fun q32_16 H h => ?_)
  have h : zYh D A s ((h0, .inr (6, [.int 0, .ref q7_4, .ref q15_8, .ref q23_12, .null, .null])) :: (((([] ++ [(q7_4, .inl (k.1, 10, .inl (fun _ => 0)))]) ++ [(q15_8, .inl (k.1, 10, .inl (fun _ => 0)))]) ++ [(q23_12, .inl (k.1, 10, .inl (fun _ => 0)))]) ++ [(q32_16, .inl (k.2.1, 220, .inr (.inl (fun _ => 0))))])) _ _ := h
  refine zy_putF (C := RX6) (T := TX6) (N := 6) (ci := 6) (fs := [.int 0, .ref q7_4, .ref q15_8, .ref q23_12, .null, .null]) (ty := tyX6 4) Γ hmn h zin6 tyX6 tyX6_ok nmX6 rfl 4 (by decide) zkc9 rfl rfl (tyX6_ok 4 (by decide)) rfl rfl (Nat.le_of_ble_eq_true rfl) (by decide +kernel) (fun H locs h => ?_)
  have h : zYh D A s ((h0, .inr (6, [.int 0, .ref q7_4, .ref q15_8, .ref q23_12, .ref q32_16, .null])) :: (((([] ++ [(q7_4, .inl (k.1, 10, .inl (fun _ => 0)))]) ++ [(q15_8, .inl (k.1, 10, .inl (fun _ => 0)))]) ++ [(q23_12, .inl (k.1, 10, .inl (fun _ => 0)))]) ++ [(q32_16, .inl (k.2.1, 220, .inr (.inl (fun _ => 0))))])) _ _ := h
  refine lv_aload_n (k := 0) Γ.1 Γ.2.1 (by decide +kernel) rfl (lv_at hl 0 rfl) ?_
  refine lv_sipush (n := 220) (v := 220) Γ.1 Γ.2.1 (by decide +kernel) (by decide) ?_
  refine zy_newa (atype := .long) (ty := .long) (N' := 220) (t0 := 1) (cA := k.2.1) (a0 := (220, .inr (.inl (fun _ => 0)))) Γ hA h zkc8 rfl (fun _ z => by cases z) rfl (fun _ => rfl) (by decide) (by decide) (by decide) ⟨by decide, by decide⟩ (by decide +kernel) (fun q41_20 H h => ?_)
  have h : zYh D A s ((h0, .inr (6, [.int 0, .ref q7_4, .ref q15_8, .ref q23_12, .ref q32_16, .null])) :: ((((([] ++ [(q7_4, .inl (k.1, 10, .inl (fun _ => 0)))]) ++ [(q15_8, .inl (k.1, 10, .inl (fun _ => 0)))]) ++ [(q23_12, .inl (k.1, 10, .inl (fun _ => 0)))]) ++ [(q32_16, .inl (k.2.1, 220, .inr (.inl (fun _ => 0))))]) ++ [(q41_20, .inl (k.2.1, 220, .inr (.inl (fun _ => 0))))])) _ _ := h
  refine zy_putF (C := RX6) (T := TX6) (N := 6) (ci := 6) (fs := [.int 0, .ref q7_4, .ref q15_8, .ref q23_12, .ref q32_16, .null]) (ty := tyX6 5) Γ hmn h zin6 tyX6 tyX6_ok nmX6 rfl 5 (by decide) zkc10 rfl rfl (tyX6_ok 5 (by decide)) rfl rfl (Nat.le_of_ble_eq_true rfl) (by decide +kernel) (fun H locs h => ?_)
  have h : zYh D A s ((h0, .inr (6, [.int 0, .ref q7_4, .ref q15_8, .ref q23_12, .ref q32_16, .ref q41_20])) :: ((((([] ++ [(q7_4, .inl (k.1, 10, .inl (fun _ => 0)))]) ++ [(q15_8, .inl (k.1, 10, .inl (fun _ => 0)))]) ++ [(q23_12, .inl (k.1, 10, .inl (fun _ => 0)))]) ++ [(q32_16, .inl (k.2.1, 220, .inr (.inl (fun _ => 0))))]) ++ [(q41_20, .inl (k.2.1, 220, .inr (.inl (fun _ => 0))))])) _ _ := h
  exact fin (fun j => [q7_4, q15_8, q23_12, q32_16, q41_20].getD j 0) _ _ 46 ls h (by decide +kernel)
set_option maxHeartbeats 4000000 in
set_option maxRecDepth 100000 in
theorem cX0 (l : Launch) (D : va_G) (k : zQu) (c : Int32) (h0 : Nat) : zMc l D k yX0_init cX0_init 2 { frames := 2, cells := 5, slots := 128, locals := 32 } [.ref h0, .int c] [(h0, .inr (0, [.int 0, .null, .null, .null, .null, .null, .int 0]))] (fun u : Nat → Nat => zqBl k c h0 u) := by
  refine zy_met (by decide) rfl (Nat.le_of_ble_eq_true rfl) (fun {p e s m args below meth c_ A Q} Γ hmn hA fin ls hl h => ?_)
  have hl : lv_has ls 2 [(0, .ref h0), (1, .int c)] := hl
  have h : zYh D A s ((h0, .inr (0, [.int 0, .null, .null, .null, .null, .null, .int 0])) :: []) _ _ := h
  refine lv_aload_n (k := 0) Γ.1 Γ.2.1 (by decide +kernel) rfl (lv_at hl 0 rfl) ?_
  refine zy_obj Γ zkc11 zkc1 zkc2 hl.1 (by decide +kernel) ⟨by decide, by decide⟩ ?_
  refine lv_aload_n (k := 0) Γ.1 Γ.2.1 (by decide +kernel) rfl (lv_at hl 0 rfl) ?_
  refine lv_iload_n (k := 1) Γ.1 Γ.2.1 (by decide +kernel) rfl (lv_at hl 1 rfl) ?_
  refine zy_putF (C := RX0) (T := TX0) (N := 7) (ci := 0) (fs := [.int 0, .null, .null, .null, .null, .null, .int 0]) (ty := tyX0 0) Γ hmn h zin0 tyX0 tyX0_ok nmX0 rfl 0 (by decide) zkc12 rfl rfl (tyX0_ok 0 (by decide)) rfl rfl (Nat.le_of_ble_eq_true rfl) (by decide +kernel) (fun H locs h => ?_)
  have h : zYh D A s ((h0, .inr (0, [.int c, .null, .null, .null, .null, .null, .int 0])) :: []) _ _ := h
  refine lv_aload_n (k := 0) Γ.1 Γ.2.1 (by decide +kernel) rfl (lv_at hl 0 rfl) ?_
  refine zy_new (ci := 1) (C := RX1) (T := TX1) (N := 2) (fs := [.long 0, .long 0]) Γ hA h zin1 tyX1 tyX1_ok zkc13 zkc14 zkc15 rfl zdf1 ⟨by decide, by decide⟩ (by decide +kernel) (fun q10_6 H h => ?_)
  refine lv_dup Γ.1 Γ.2.1 (by decide +kernel) rfl ?_
  refine zy_initN (host := "FlippedBlinds") (pre := ((h0, .inr (0, [.int c, .null, .null, .null, .null, .null, .int 0])) :: [])) (b := q10_6) (ce := .inr (1, [.long 0, .long 0])) (n := 0) (as := []) (rest := [.ref q10_6, .ref h0]) Γ hA h (cX1 l D k q10_6) (List.mem_of_getElem? (i := 0) rfl) zkc16 zkc15 zkc17 rfl (by decide +kernel) rfl ⟨by decide, by decide⟩ rfl hl.1 (Nat.le_of_ble_eq_true rfl) (by decide +kernel) ⟨by decide, by decide⟩ (fun u10_6 H locs h => ?_)
  have h : zYh D A s ((h0, .inr (0, [.int c, .null, .null, .null, .null, .null, .int 0])) :: ([] ++ zqDo q10_6)) _ _ := h
  refine zy_putF (C := RX0) (T := TX0) (N := 7) (ci := 0) (fs := [.int c, .null, .null, .null, .null, .null, .int 0]) (ty := tyX0 1) Γ hmn h zin0 tyX0 tyX0_ok nmX0 rfl 1 (by decide) zkc18 rfl rfl (tyX0_ok 1 (by decide)) rfl rfl (Nat.le_of_ble_eq_true rfl) (by decide +kernel) (fun H locs h => ?_)
  have h : zYh D A s ((h0, .inr (0, [.int c, .ref q10_6, .null, .null, .null, .null, .int 0])) :: ([] ++ zqDo q10_6)) _ _ := h
  refine lv_aload_n (k := 0) Γ.1 Γ.2.1 (by decide +kernel) rfl (lv_at hl 0 rfl) ?_
  refine zy_new (ci := 1) (C := RX1) (T := TX1) (N := 2) (fs := [.long 0, .long 0]) Γ hA h zin1 tyX1 tyX1_ok zkc13 zkc14 zkc15 rfl zdf1 ⟨by decide, by decide⟩ (by decide +kernel) (fun q21_11 H h => ?_)
  refine lv_dup Γ.1 Γ.2.1 (by decide +kernel) rfl ?_
  refine zy_initN (host := "FlippedBlinds") (pre := ((h0, .inr (0, [.int c, .ref q10_6, .null, .null, .null, .null, .int 0])) :: ([] ++ zqDo q10_6))) (b := q21_11) (ce := .inr (1, [.long 0, .long 0])) (n := 0) (as := []) (rest := [.ref q21_11, .ref h0]) Γ hA h (cX1 l D k q21_11) (List.mem_of_getElem? (i := 0) rfl) zkc16 zkc15 zkc17 rfl (by decide +kernel) rfl ⟨by decide, by decide⟩ rfl hl.1 (Nat.le_of_ble_eq_true rfl) (by decide +kernel) ⟨by decide, by decide⟩ (fun u21_11 H locs h => ?_)
  have h : zYh D A s ((h0, .inr (0, [.int c, .ref q10_6, .null, .null, .null, .null, .int 0])) :: (([] ++ zqDo q10_6) ++ zqDo q21_11)) _ _ := h
  refine zy_putF (C := RX0) (T := TX0) (N := 7) (ci := 0) (fs := [.int c, .ref q10_6, .null, .null, .null, .null, .int 0]) (ty := tyX0 2) Γ hmn h zin0 tyX0 tyX0_ok nmX0 rfl 2 (by decide) zkc19 rfl rfl (tyX0_ok 2 (by decide)) rfl rfl (Nat.le_of_ble_eq_true rfl) (by decide +kernel) (fun H locs h => ?_)
  have h : zYh D A s ((h0, .inr (0, [.int c, .ref q10_6, .ref q21_11, .null, .null, .null, .int 0])) :: (([] ++ zqDo q10_6) ++ zqDo q21_11)) _ _ := h
  refine lv_aload_n (k := 0) Γ.1 Γ.2.1 (by decide +kernel) rfl (lv_at hl 0 rfl) ?_
  refine zy_new (ci := 1) (C := RX1) (T := TX1) (N := 2) (fs := [.long 0, .long 0]) Γ hA h zin1 tyX1 tyX1_ok zkc13 zkc14 zkc15 rfl zdf1 ⟨by decide, by decide⟩ (by decide +kernel) (fun q32_16 H h => ?_)
  refine lv_dup Γ.1 Γ.2.1 (by decide +kernel) rfl ?_
  refine zy_initN (host := "FlippedBlinds") (pre := ((h0, .inr (0, [.int c, .ref q10_6, .ref q21_11, .null, .null, .null, .int 0])) :: (([] ++ zqDo q10_6) ++ zqDo q21_11))) (b := q32_16) (ce := .inr (1, [.long 0, .long 0])) (n := 0) (as := []) (rest := [.ref q32_16, .ref h0]) Γ hA h (cX1 l D k q32_16) (List.mem_of_getElem? (i := 0) rfl) zkc16 zkc15 zkc17 rfl (by decide +kernel) rfl ⟨by decide, by decide⟩ rfl hl.1 (Nat.le_of_ble_eq_true rfl) (by decide +kernel) ⟨by decide, by decide⟩ (fun u32_16 H locs h => ?_)
  have h : zYh D A s ((h0, .inr (0, [.int c, .ref q10_6, .ref q21_11, .null, .null, .null, .int 0])) :: ((([] ++ zqDo q10_6) ++ zqDo q21_11) ++ zqDo q32_16)) _ _ := h
  refine zy_putF (C := RX0) (T := TX0) (N := 7) (ci := 0) (fs := [.int c, .ref q10_6, .ref q21_11, .null, .null, .null, .int 0]) (ty := tyX0 3) Γ hmn h zin0 tyX0 tyX0_ok nmX0 rfl 3 (by decide) zkc20 rfl rfl (tyX0_ok 3 (by decide)) rfl rfl (Nat.le_of_ble_eq_true rfl) (by decide +kernel) (fun H locs h => ?_)
  have h : zYh D A s ((h0, .inr (0, [.int c, .ref q10_6, .ref q21_11, .ref q32_16, .null, .null, .int 0])) :: ((([] ++ zqDo q10_6) ++ zqDo q21_11) ++ zqDo q32_16)) _ _ := h
  refine lv_aload_n (k := 0) Γ.1 Γ.2.1 (by decide +kernel) rfl (lv_at hl 0 rfl) ?_
  refine zy_new (ci := 1) (C := RX1) (T := TX1) (N := 2) (fs := [.long 0, .long 0]) Γ hA h zin1 tyX1 tyX1_ok zkc13 zkc14 zkc15 rfl zdf1 ⟨by decide, by decide⟩ (by decide +kernel) (fun q43_21 H h => ?_)
  refine lv_dup Γ.1 Γ.2.1 (by decide +kernel) rfl ?_
  refine zy_initN (host := "FlippedBlinds") (pre := ((h0, .inr (0, [.int c, .ref q10_6, .ref q21_11, .ref q32_16, .null, .null, .int 0])) :: ((([] ++ zqDo q10_6) ++ zqDo q21_11) ++ zqDo q32_16))) (b := q43_21) (ce := .inr (1, [.long 0, .long 0])) (n := 0) (as := []) (rest := [.ref q43_21, .ref h0]) Γ hA h (cX1 l D k q43_21) (List.mem_of_getElem? (i := 0) rfl) zkc16 zkc15 zkc17 rfl (by decide +kernel) rfl ⟨by decide, by decide⟩ rfl hl.1 (Nat.le_of_ble_eq_true rfl) (by decide +kernel) ⟨by decide, by decide⟩ (fun u43_21 H locs h => ?_)
  have h : zYh D A s ((h0, .inr (0, [.int c, .ref q10_6, .ref q21_11, .ref q32_16, .null, .null, .int 0])) :: (((([] ++ zqDo q10_6) ++ zqDo q21_11) ++ zqDo q32_16) ++ zqDo q43_21)) _ _ := h
  refine zy_putF (C := RX0) (T := TX0) (N := 7) (ci := 0) (fs := [.int c, .ref q10_6, .ref q21_11, .ref q32_16, .null, .null, .int 0]) (ty := tyX0 4) Γ hmn h zin0 tyX0 tyX0_ok nmX0 rfl 4 (by decide) zkc21 rfl rfl (tyX0_ok 4 (by decide)) rfl rfl (Nat.le_of_ble_eq_true rfl) (by decide +kernel) (fun H locs h => ?_)
  have h : zYh D A s ((h0, .inr (0, [.int c, .ref q10_6, .ref q21_11, .ref q32_16, .ref q43_21, .null, .int 0])) :: (((([] ++ zqDo q10_6) ++ zqDo q21_11) ++ zqDo q32_16) ++ zqDo q43_21)) _ _ := h
  refine lv_aload_n (k := 0) Γ.1 Γ.2.1 (by decide +kernel) rfl (lv_at hl 0 rfl) ?_
  refine lv_bipush (n := 120) (v := 120) Γ.1 Γ.2.1 (by decide +kernel) (by decide) ?_
  refine zy_newa (atype := .int) (ty := .int) (N' := 120) (t0 := 0) (cA := k.1) (a0 := (120, .inl (fun _ => 0))) Γ hA h zkc4 rfl (fun _ z => by cases z) rfl (fun _ => rfl) (by decide) (by decide) (by decide) ⟨by decide, by decide⟩ (by decide +kernel) (fun q56_27 H h => ?_)
  have h : zYh D A s ((h0, .inr (0, [.int c, .ref q10_6, .ref q21_11, .ref q32_16, .ref q43_21, .null, .int 0])) :: ((((([] ++ zqDo q10_6) ++ zqDo q21_11) ++ zqDo q32_16) ++ zqDo q43_21) ++ [(q56_27, .inl (k.1, 120, .inl (fun _ => 0)))])) _ _ := h
  refine zy_putF (C := RX0) (T := TX0) (N := 7) (ci := 0) (fs := [.int c, .ref q10_6, .ref q21_11, .ref q32_16, .ref q43_21, .null, .int 0]) (ty := tyX0 5) Γ hmn h zin0 tyX0 tyX0_ok nmX0 rfl 5 (by decide) zkc22 rfl rfl (tyX0_ok 5 (by decide)) rfl rfl (Nat.le_of_ble_eq_true rfl) (by decide +kernel) (fun H locs h => ?_)
  have h : zYh D A s ((h0, .inr (0, [.int c, .ref q10_6, .ref q21_11, .ref q32_16, .ref q43_21, .ref q56_27, .int 0])) :: ((((([] ++ zqDo q10_6) ++ zqDo q21_11) ++ zqDo q32_16) ++ zqDo q43_21) ++ [(q56_27, .inl (k.1, 120, .inl (fun _ => 0)))])) _ _ := h
  exact fin (fun j => [q10_6, q21_11, q32_16, q43_21, q56_27].getD j 0) _ _ 61 ls h (by decide +kernel)
set_option maxHeartbeats 4000000 in
set_option maxRecDepth 100000 in
theorem cX4 (l : Launch) (D : va_G) (k : zQu) (h0 : Nat) : zMc l D k yX4_init cX4_init 1 { frames := 3, cells := 18, slots := 746, locals := 53 } [.ref h0] [(h0, .inr (4, [.null, .null, .null, .int 0, .int 0, .int 0, .int 0, .int 0]))] (fun u : zYt => zqSt k h0 u) := by
  refine zy_met (by decide) rfl (Nat.le_of_ble_eq_true rfl) (fun {p e s m args below meth c A Q} Γ hmn hA fin ls hl h => ?_)
  have hl : lv_has ls 1 [(0, .ref h0)] := hl
  have h : zYh D A s ((h0, .inr (4, [.null, .null, .null, .int 0, .int 0, .int 0, .int 0, .int 0])) :: []) _ _ := h
  refine lv_aload_n (k := 0) Γ.1 Γ.2.1 (by decide +kernel) rfl (lv_at hl 0 rfl) ?_
  refine zy_obj Γ zkc23 zkc1 zkc2 hl.1 (by decide +kernel) ⟨by decide, by decide⟩ ?_
  refine lv_aload_n (k := 0) Γ.1 Γ.2.1 (by decide +kernel) rfl (lv_at hl 0 rfl) ?_
  refine zy_new (ci := 6) (C := RX6) (T := TX6) (N := 6) (fs := [.int 0, .null, .null, .null, .null, .null]) Γ hA h zin6 tyX6 tyX6_ok zkc24 zkc25 zkc26 rfl zdf6 ⟨by decide, by decide⟩ (by decide +kernel) (fun q5_3 H h => ?_)
  refine lv_dup Γ.1 Γ.2.1 (by decide +kernel) rfl ?_
  refine zy_init (pre := ((h0, .inr (4, [.null, .null, .null, .int 0, .int 0, .int 0, .int 0, .int 0])) :: [])) (b := q5_3) (ce := .inr (6, [.int 0, .null, .null, .null, .null, .null])) (n := 0) (as := []) (rest := [.ref q5_3, .ref h0]) Γ hA h (cX6 l D k q5_3) zkc29 zkc27 zkc26 zkc28 rfl (by decide +kernel) rfl ⟨by decide, by decide⟩ rfl hl.1 (Nat.le_of_ble_eq_true rfl) (by decide +kernel) ⟨by decide, by decide⟩ (fun u5_3 H locs h => ?_)
  have h : zYh D A s ((h0, .inr (4, [.null, .null, .null, .int 0, .int 0, .int 0, .int 0, .int 0])) :: ([] ++ zqWo k q5_3 u5_3)) _ _ := h
  refine zy_putF (C := RX4) (T := TX4) (N := 8) (ci := 4) (fs := [.null, .null, .null, .int 0, .int 0, .int 0, .int 0, .int 0]) (ty := tyX4 0) Γ hmn h zin4 tyX4 tyX4_ok nmX4 rfl 0 (by decide) zkc30 rfl rfl (tyX4_ok 0 (by decide)) rfl rfl (Nat.le_of_ble_eq_true rfl) (by decide +kernel) (fun H locs h => ?_)
  have h : zYh D A s ((h0, .inr (4, [.ref q5_3, .null, .null, .int 0, .int 0, .int 0, .int 0, .int 0])) :: ([] ++ zqWo k q5_3 u5_3)) _ _ := h
  refine lv_aload_n (k := 0) Γ.1 Γ.2.1 (by decide +kernel) rfl (lv_at hl 0 rfl) ?_
  refine zy_new (ci := 0) (C := RX0) (T := TX0) (N := 7) (fs := [.int 0, .null, .null, .null, .null, .null, .int 0]) Γ hA h zin0 tyX0 tyX0_ok zkc31 zkc32 zkc33 rfl zdf0 ⟨by decide, by decide⟩ (by decide +kernel) (fun q16_8 H h => ?_)
  refine lv_dup Γ.1 Γ.2.1 (by decide +kernel) rfl ?_
  refine lv_bipush (n := 24) (v := 24) Γ.1 Γ.2.1 (by decide +kernel) (by decide) ?_
  refine zy_init (pre := ((h0, .inr (4, [.ref q5_3, .null, .null, .int 0, .int 0, .int 0, .int 0, .int 0])) :: ([] ++ zqWo k q5_3 u5_3))) (b := q16_8) (ce := .inr (0, [.int 0, .null, .null, .null, .null, .null, .int 0])) (n := 1) (as := [.int 24]) (rest := [.ref q16_8, .ref h0]) Γ hA h (cX0 l D k 24 q16_8) zkc36 zkc34 zkc33 zkc35 rfl (by decide +kernel) rfl ⟨by decide, by decide⟩ rfl hl.1 (Nat.le_of_ble_eq_true rfl) (by decide +kernel) ⟨by decide, by decide⟩ (fun u16_8 H locs h => ?_)
  have h : zYh D A s ((h0, .inr (4, [.ref q5_3, .null, .null, .int 0, .int 0, .int 0, .int 0, .int 0])) :: (([] ++ zqWo k q5_3 u5_3) ++ zqBl k 24 q16_8 u16_8)) _ _ := h
  refine zy_putF (C := RX4) (T := TX4) (N := 8) (ci := 4) (fs := [.ref q5_3, .null, .null, .int 0, .int 0, .int 0, .int 0, .int 0]) (ty := tyX4 1) Γ hmn h zin4 tyX4 tyX4_ok nmX4 rfl 1 (by decide) zkc37 rfl rfl (tyX4_ok 1 (by decide)) rfl rfl (Nat.le_of_ble_eq_true rfl) (by decide +kernel) (fun H locs h => ?_)
  have h : zYh D A s ((h0, .inr (4, [.ref q5_3, .ref q16_8, .null, .int 0, .int 0, .int 0, .int 0, .int 0])) :: (([] ++ zqWo k q5_3 u5_3) ++ zqBl k 24 q16_8 u16_8)) _ _ := h
  refine lv_aload_n (k := 0) Γ.1 Γ.2.1 (by decide +kernel) rfl (lv_at hl 0 rfl) ?_
  refine zy_new (ci := 0) (C := RX0) (T := TX0) (N := 7) (fs := [.int 0, .null, .null, .null, .null, .null, .int 0]) Γ hA h zin0 tyX0 tyX0_ok zkc31 zkc32 zkc33 rfl zdf0 ⟨by decide, by decide⟩ (by decide +kernel) (fun q29_14 H h => ?_)
  refine lv_dup Γ.1 Γ.2.1 (by decide +kernel) rfl ?_
  refine lv_bipush (n := 16) (v := 16) Γ.1 Γ.2.1 (by decide +kernel) (by decide) ?_
  refine zy_init (pre := ((h0, .inr (4, [.ref q5_3, .ref q16_8, .null, .int 0, .int 0, .int 0, .int 0, .int 0])) :: (([] ++ zqWo k q5_3 u5_3) ++ zqBl k 24 q16_8 u16_8))) (b := q29_14) (ce := .inr (0, [.int 0, .null, .null, .null, .null, .null, .int 0])) (n := 1) (as := [.int 16]) (rest := [.ref q29_14, .ref h0]) Γ hA h (cX0 l D k 16 q29_14) zkc36 zkc34 zkc33 zkc35 rfl (by decide +kernel) rfl ⟨by decide, by decide⟩ rfl hl.1 (Nat.le_of_ble_eq_true rfl) (by decide +kernel) ⟨by decide, by decide⟩ (fun u29_14 H locs h => ?_)
  have h : zYh D A s ((h0, .inr (4, [.ref q5_3, .ref q16_8, .null, .int 0, .int 0, .int 0, .int 0, .int 0])) :: ((([] ++ zqWo k q5_3 u5_3) ++ zqBl k 24 q16_8 u16_8) ++ zqBl k 16 q29_14 u29_14)) _ _ := h
  refine zy_putF (C := RX4) (T := TX4) (N := 8) (ci := 4) (fs := [.ref q5_3, .ref q16_8, .null, .int 0, .int 0, .int 0, .int 0, .int 0]) (ty := tyX4 2) Γ hmn h zin4 tyX4 tyX4_ok nmX4 rfl 2 (by decide) zkc38 rfl rfl (tyX4_ok 2 (by decide)) rfl rfl (Nat.le_of_ble_eq_true rfl) (by decide +kernel) (fun H locs h => ?_)
  have h : zYh D A s ((h0, .inr (4, [.ref q5_3, .ref q16_8, .ref q29_14, .int 0, .int 0, .int 0, .int 0, .int 0])) :: ((([] ++ zqWo k q5_3 u5_3) ++ zqBl k 24 q16_8 u16_8) ++ zqBl k 16 q29_14 u29_14)) _ _ := h
  refine lv_aload_n (k := 0) Γ.1 Γ.2.1 (by decide +kernel) rfl (lv_at hl 0 rfl) ?_
  refine lv_iconst (n := 2) (v := 2) Γ.1 Γ.2.1 (by decide +kernel) (by decide) ?_
  refine zy_put (C := RX4) (T := TX4) (N := 8) (ci := 4) (fs := [.ref q5_3, .ref q16_8, .ref q29_14, .int 0, .int 0, .int 0, .int 0, .int 0]) (ty := tyX4 3) Γ h zin4 tyX4 tyX4_ok nmX4 rfl 3 (by decide) zkc39 rfl (tyX4_ok 3 (by decide)) rfl rfl (Nat.le_of_ble_eq_true rfl) (by decide +kernel) (fun H locs h => ?_)
  have h : zYh D A s ((h0, .inr (4, [.ref q5_3, .ref q16_8, .ref q29_14, .int 2, .int 0, .int 0, .int 0, .int 0])) :: ((([] ++ zqWo k q5_3 u5_3) ++ zqBl k 24 q16_8 u16_8) ++ zqBl k 16 q29_14 u29_14)) _ _ := h
  refine lv_aload_n (k := 0) Γ.1 Γ.2.1 (by decide +kernel) rfl (lv_at hl 0 rfl) ?_
  refine lv_bipush (n := 20) (v := 20) Γ.1 Γ.2.1 (by decide +kernel) (by decide) ?_
  refine zy_put (C := RX4) (T := TX4) (N := 8) (ci := 4) (fs := [.ref q5_3, .ref q16_8, .ref q29_14, .int 2, .int 0, .int 0, .int 0, .int 0]) (ty := tyX4 4) Γ h zin4 tyX4 tyX4_ok nmX4 rfl 4 (by decide) zkc40 rfl (tyX4_ok 4 (by decide)) rfl rfl (Nat.le_of_ble_eq_true rfl) (by decide +kernel) (fun H locs h => ?_)
  have h : zYh D A s ((h0, .inr (4, [.ref q5_3, .ref q16_8, .ref q29_14, .int 2, .int 20, .int 0, .int 0, .int 0])) :: ((([] ++ zqWo k q5_3 u5_3) ++ zqBl k 24 q16_8 u16_8) ++ zqBl k 16 q29_14 u29_14)) _ _ := h
  exact fin ((q5_3, u5_3), (q16_8, u16_8), (q29_14, u29_14)) _ _ 52 ls h (by decide +kernel)
set_option maxHeartbeats 4000000 in
set_option maxRecDepth 100000 in
theorem cX2 (l : Launch) (D : va_G) (k : zQu) (h0 : Nat) : zMc l D k yX2_init cX2_init 2 { frames := 4, cells := 96, slots := 3775, locals := 73 } [.ref h0] [(h0, .inr (2, [.null, .int 0]))] (fun u : Nat × (Nat → zYs) => zqHi k h0 u) := by
  refine zy_met (by decide) rfl (Nat.le_of_ble_eq_true rfl) (fun {p e s m args below meth c A Q} Γ hmn hA fin ls hl h => ?_)
  have hl : lv_has ls 2 [(0, .ref h0)] := hl
  have h : zYh D A s ((h0, .inr (2, [.null, .int 0])) :: []) _ _ := h
  refine lv_aload_n (k := 0) Γ.1 Γ.2.1 (by decide +kernel) rfl (lv_at hl 0 rfl) ?_
  refine zy_obj Γ zkc41 zkc1 zkc2 hl.1 (by decide +kernel) ⟨by decide, by decide⟩ ?_
  refine lv_aload_n (k := 0) Γ.1 Γ.2.1 (by decide +kernel) rfl (lv_at hl 0 rfl) ?_
  refine lv_iconst (n := 5) (v := 5) Γ.1 Γ.2.1 (by decide +kernel) (by decide) ?_
  refine zy_newq (N' := 5) Γ hA h zkc42 (by decide) (by decide) (by decide) ⟨by decide, by decide⟩ (by decide +kernel) (fun q6_4 H h => ?_)
  have h : zYh D A s ((h0, .inr (2, [.null, .int 0])) :: ([] ++ [(q6_4, .inl (k.2.2.2, 5, .inr (.inr (.inr (.inr (fun _ => none))))))])) _ _ := h
  refine zy_putF (C := RX2) (T := TX2) (N := 2) (ci := 2) (fs := [.null, .int 0]) (ty := tyX2 0) Γ hmn h zin2 tyX2 tyX2_ok nmX2 rfl 0 (by decide) zkc43 rfl rfl (tyX2_ok 0 (by decide)) rfl rfl (Nat.le_of_ble_eq_true rfl) (by decide +kernel) (fun H locs h => ?_)
  have h : zYh D A s ((h0, .inr (2, [.ref q6_4, .int 0])) :: ([] ++ [(q6_4, .inl (k.2.2.2, 5, .inr (.inr (.inr (.inr (fun _ => none))))))])) _ _ := h
  refine lv_iconst (n := 0) (v := 0) Γ.1 Γ.2.1 (by decide +kernel) (by decide) ?_
  refine lv_istore_n (k := 1) (lv' := [(1, .int 0), (0, .ref h0)]) Γ.1 Γ.2.1 (by decide +kernel) rfl hl (by decide) rfl (fun ls hl => ?_)
  refine lv_iload_n (k := 1) Γ.1 Γ.2.1 (by decide +kernel) rfl (lv_at hl 0 rfl) ?_
  refine lv_aload_n (k := 0) Γ.1 Γ.2.1 (by decide +kernel) rfl (lv_at hl 1 rfl) ?_
  refine zy_get (C := RX2) (T := TX2) (N := 2) (ci := 2) (fs := [.ref q6_4, .int 0]) Γ h zin2 rfl 0 (by decide) zkc43 rfl (by decide +kernel) ?_
  refine va_alen (v := 5) Γ.1 Γ.2.1 Γ.2.2.2.2.2.1 h.1 1 3 rfl rfl (show Int32.ofNat 5 = 5 by decide) (by decide +kernel) ?_
  refine lv_icmp_ge (off := 22) (tgt := 42) Γ.1 Γ.2.1 (by decide +kernel) (by decide) (fun z => absurd z (by decide)) (fun _ => ?_)
  refine lv_aload_n (k := 0) Γ.1 Γ.2.1 (by decide +kernel) rfl (lv_at hl 1 rfl) ?_
  refine zy_get (C := RX2) (T := TX2) (N := 2) (ci := 2) (fs := [.ref q6_4, .int 0]) Γ h zin2 rfl 0 (by decide) zkc43 rfl (by decide +kernel) ?_
  refine lv_iload_n (k := 1) Γ.1 Γ.2.1 (by decide +kernel) rfl (lv_at hl 0 rfl) ?_
  refine zy_new (ci := 4) (C := RX4) (T := TX4) (N := 8) (fs := [.null, .null, .null, .int 0, .int 0, .int 0, .int 0, .int 0]) Γ hA h zin4 tyX4 tyX4_ok zkc42 zkc44 zkc45 rfl zdf4 ⟨by decide, by decide⟩ (by decide +kernel) (fun q28_16 H h => ?_)
  refine lv_dup Γ.1 Γ.2.1 (by decide +kernel) rfl ?_
  refine zy_init (pre := ((h0, .inr (2, [.ref q6_4, .int 0])) :: ([] ++ [(q6_4, .inl (k.2.2.2, 5, .inr (.inr (.inr (.inr (fun _ => none))))))]))) (b := q28_16) (ce := .inr (4, [.null, .null, .null, .int 0, .int 0, .int 0, .int 0, .int 0])) (n := 0) (as := []) (rest := [.ref q28_16, .int 0, .ref q6_4]) Γ hA h (cX4 l D k q28_16) zkc48 zkc46 zkc45 zkc47 rfl (by decide +kernel) rfl ⟨by decide, by decide⟩ rfl hl.1 (Nat.le_of_ble_eq_true rfl) (by decide +kernel) ⟨by decide, by decide⟩ (fun u28_16 H locs h => ?_)
  have h : zYh D A s ((h0, .inr (2, [.ref q6_4, .int 0])) :: (([] ++ [(q6_4, .inl (k.2.2.2, 5, .inr (.inr (.inr (.inr (fun _ => none))))))]) ++ zqSt k q28_16 u28_16)) _ _ := h
  refine va_astq Γ.1 Γ.2.1 Γ.2.2.2.2.2.1 h.1 h.2.1 h.2.2 1 3 2 4 rfl rfl rfl rfl (by unfold vp_in; decide) (by decide +kernel) (fun H locs hP hD hS => ?_)
  have h : zYh D A s ((h0, .inr (2, [.ref q6_4, .int 0])) :: (([] ++ [(q6_4, .inl (k.2.2.2, 5, .inr (.inr (.inr (.inr (va_up (fun _ => none) (Int32.toNatClampNeg 0) (some q28_16)))))))]) ++ zqSt k q28_16 u28_16)) _ _ := ⟨hP, hD, hS⟩
  refine lv_iinc (n := 1) (v := 1) (lv' := [(1, .int 1), (0, .ref h0)]) (k := 0) Γ.1 Γ.2.1 (by decide +kernel) hl rfl (by decide) (by decide) rfl (fun ls hl => ?_)
  refine lv_goto (off := -25) (tgt := 14) Γ.1 Γ.2.1 (by decide +kernel) (by decide) ?_
  refine lv_iload_n (k := 1) Γ.1 Γ.2.1 (by decide +kernel) rfl (lv_at hl 0 rfl) ?_
  refine lv_aload_n (k := 0) Γ.1 Γ.2.1 (by decide +kernel) rfl (lv_at hl 1 rfl) ?_
  refine zy_get (C := RX2) (T := TX2) (N := 2) (ci := 2) (fs := [.ref q6_4, .int 0]) Γ h zin2 rfl 0 (by decide) zkc43 rfl (by decide +kernel) ?_
  refine va_alen (v := 5) Γ.1 Γ.2.1 Γ.2.2.2.2.2.1 h.1 1 3 rfl rfl (show Int32.ofNat 5 = 5 by decide) (by decide +kernel) ?_
  refine lv_icmp_ge (off := 22) (tgt := 42) Γ.1 Γ.2.1 (by decide +kernel) (by decide) (fun z => absurd z (by decide)) (fun _ => ?_)
  refine lv_aload_n (k := 0) Γ.1 Γ.2.1 (by decide +kernel) rfl (lv_at hl 1 rfl) ?_
  refine zy_get (C := RX2) (T := TX2) (N := 2) (ci := 2) (fs := [.ref q6_4, .int 0]) Γ h zin2 rfl 0 (by decide) zkc43 rfl (by decide +kernel) ?_
  refine lv_iload_n (k := 1) Γ.1 Γ.2.1 (by decide +kernel) rfl (lv_at hl 0 rfl) ?_
  refine zy_new (ci := 4) (C := RX4) (T := TX4) (N := 8) (fs := [.null, .null, .null, .int 0, .int 0, .int 0, .int 0, .int 0]) Γ hA h zin4 tyX4 tyX4_ok zkc42 zkc44 zkc45 rfl zdf4 ⟨by decide, by decide⟩ (by decide +kernel) (fun q28_30 H h => ?_)
  refine lv_dup Γ.1 Γ.2.1 (by decide +kernel) rfl ?_
  refine zy_init (pre := ((h0, .inr (2, [.ref q6_4, .int 0])) :: (([] ++ [(q6_4, .inl (k.2.2.2, 5, .inr (.inr (.inr (.inr (va_up (fun _ => none) (Int32.toNatClampNeg 0) (some q28_16)))))))]) ++ zqSt k q28_16 u28_16))) (b := q28_30) (ce := .inr (4, [.null, .null, .null, .int 0, .int 0, .int 0, .int 0, .int 0])) (n := 0) (as := []) (rest := [.ref q28_30, .int 1, .ref q6_4]) Γ hA h (cX4 l D k q28_30) zkc48 zkc46 zkc45 zkc47 rfl (by decide +kernel) rfl ⟨by decide, by decide⟩ rfl hl.1 (Nat.le_of_ble_eq_true rfl) (by decide +kernel) ⟨by decide, by decide⟩ (fun u28_30 H locs h => ?_)
  have h : zYh D A s ((h0, .inr (2, [.ref q6_4, .int 0])) :: ((([] ++ [(q6_4, .inl (k.2.2.2, 5, .inr (.inr (.inr (.inr (va_up (fun _ => none) (Int32.toNatClampNeg 0) (some q28_16)))))))]) ++ zqSt k q28_16 u28_16) ++ zqSt k q28_30 u28_30)) _ _ := h
  refine va_astq Γ.1 Γ.2.1 Γ.2.2.2.2.2.1 h.1 h.2.1 h.2.2 1 3 21 4 rfl rfl rfl rfl (by unfold vp_in; decide) (by decide +kernel) (fun H locs hP hD hS => ?_)
  have h : zYh D A s ((h0, .inr (2, [.ref q6_4, .int 0])) :: ((([] ++ [(q6_4, .inl (k.2.2.2, 5, .inr (.inr (.inr (.inr (va_up (va_up (fun _ => none) (Int32.toNatClampNeg 0) (some q28_16)) (Int32.toNatClampNeg 1) (some q28_30)))))))]) ++ zqSt k q28_16 u28_16) ++ zqSt k q28_30 u28_30)) _ _ := ⟨hP, hD, hS⟩
  refine lv_iinc (n := 1) (v := 2) (lv' := [(1, .int 2), (0, .ref h0)]) (k := 0) Γ.1 Γ.2.1 (by decide +kernel) hl rfl (by decide) (by decide) rfl (fun ls hl => ?_)
  refine lv_goto (off := -25) (tgt := 14) Γ.1 Γ.2.1 (by decide +kernel) (by decide) ?_
  refine lv_iload_n (k := 1) Γ.1 Γ.2.1 (by decide +kernel) rfl (lv_at hl 0 rfl) ?_
  refine lv_aload_n (k := 0) Γ.1 Γ.2.1 (by decide +kernel) rfl (lv_at hl 1 rfl) ?_
  refine zy_get (C := RX2) (T := TX2) (N := 2) (ci := 2) (fs := [.ref q6_4, .int 0]) Γ h zin2 rfl 0 (by decide) zkc43 rfl (by decide +kernel) ?_
  refine va_alen (v := 5) Γ.1 Γ.2.1 Γ.2.2.2.2.2.1 h.1 1 3 rfl rfl (show Int32.ofNat 5 = 5 by decide) (by decide +kernel) ?_
  refine lv_icmp_ge (off := 22) (tgt := 42) Γ.1 Γ.2.1 (by decide +kernel) (by decide) (fun z => absurd z (by decide)) (fun _ => ?_)
  refine lv_aload_n (k := 0) Γ.1 Γ.2.1 (by decide +kernel) rfl (lv_at hl 1 rfl) ?_
  refine zy_get (C := RX2) (T := TX2) (N := 2) (ci := 2) (fs := [.ref q6_4, .int 0]) Γ h zin2 rfl 0 (by decide) zkc43 rfl (by decide +kernel) ?_
  refine lv_iload_n (k := 1) Γ.1 Γ.2.1 (by decide +kernel) rfl (lv_at hl 0 rfl) ?_
  refine zy_new (ci := 4) (C := RX4) (T := TX4) (N := 8) (fs := [.null, .null, .null, .int 0, .int 0, .int 0, .int 0, .int 0]) Γ hA h zin4 tyX4 tyX4_ok zkc42 zkc44 zkc45 rfl zdf4 ⟨by decide, by decide⟩ (by decide +kernel) (fun q28_44 H h => ?_)
  refine lv_dup Γ.1 Γ.2.1 (by decide +kernel) rfl ?_
  refine zy_init (pre := ((h0, .inr (2, [.ref q6_4, .int 0])) :: ((([] ++ [(q6_4, .inl (k.2.2.2, 5, .inr (.inr (.inr (.inr (va_up (va_up (fun _ => none) (Int32.toNatClampNeg 0) (some q28_16)) (Int32.toNatClampNeg 1) (some q28_30)))))))]) ++ zqSt k q28_16 u28_16) ++ zqSt k q28_30 u28_30))) (b := q28_44) (ce := .inr (4, [.null, .null, .null, .int 0, .int 0, .int 0, .int 0, .int 0])) (n := 0) (as := []) (rest := [.ref q28_44, .int 2, .ref q6_4]) Γ hA h (cX4 l D k q28_44) zkc48 zkc46 zkc45 zkc47 rfl (by decide +kernel) rfl ⟨by decide, by decide⟩ rfl hl.1 (Nat.le_of_ble_eq_true rfl) (by decide +kernel) ⟨by decide, by decide⟩ (fun u28_44 H locs h => ?_)
  have h : zYh D A s ((h0, .inr (2, [.ref q6_4, .int 0])) :: (((([] ++ [(q6_4, .inl (k.2.2.2, 5, .inr (.inr (.inr (.inr (va_up (va_up (fun _ => none) (Int32.toNatClampNeg 0) (some q28_16)) (Int32.toNatClampNeg 1) (some q28_30)))))))]) ++ zqSt k q28_16 u28_16) ++ zqSt k q28_30 u28_30) ++ zqSt k q28_44 u28_44)) _ _ := h
  refine va_astq Γ.1 Γ.2.1 Γ.2.2.2.2.2.1 h.1 h.2.1 h.2.2 1 3 40 4 rfl rfl rfl rfl (by unfold vp_in; decide) (by decide +kernel) (fun H locs hP hD hS => ?_)
  have h : zYh D A s ((h0, .inr (2, [.ref q6_4, .int 0])) :: (((([] ++ [(q6_4, .inl (k.2.2.2, 5, .inr (.inr (.inr (.inr (va_up (va_up (va_up (fun _ => none) (Int32.toNatClampNeg 0) (some q28_16)) (Int32.toNatClampNeg 1) (some q28_30)) (Int32.toNatClampNeg 2) (some q28_44)))))))]) ++ zqSt k q28_16 u28_16) ++ zqSt k q28_30 u28_30) ++ zqSt k q28_44 u28_44)) _ _ := ⟨hP, hD, hS⟩
  refine lv_iinc (n := 1) (v := 3) (lv' := [(1, .int 3), (0, .ref h0)]) (k := 0) Γ.1 Γ.2.1 (by decide +kernel) hl rfl (by decide) (by decide) rfl (fun ls hl => ?_)
  refine lv_goto (off := -25) (tgt := 14) Γ.1 Γ.2.1 (by decide +kernel) (by decide) ?_
  refine lv_iload_n (k := 1) Γ.1 Γ.2.1 (by decide +kernel) rfl (lv_at hl 0 rfl) ?_
  refine lv_aload_n (k := 0) Γ.1 Γ.2.1 (by decide +kernel) rfl (lv_at hl 1 rfl) ?_
  refine zy_get (C := RX2) (T := TX2) (N := 2) (ci := 2) (fs := [.ref q6_4, .int 0]) Γ h zin2 rfl 0 (by decide) zkc43 rfl (by decide +kernel) ?_
  refine va_alen (v := 5) Γ.1 Γ.2.1 Γ.2.2.2.2.2.1 h.1 1 3 rfl rfl (show Int32.ofNat 5 = 5 by decide) (by decide +kernel) ?_
  refine lv_icmp_ge (off := 22) (tgt := 42) Γ.1 Γ.2.1 (by decide +kernel) (by decide) (fun z => absurd z (by decide)) (fun _ => ?_)
  refine lv_aload_n (k := 0) Γ.1 Γ.2.1 (by decide +kernel) rfl (lv_at hl 1 rfl) ?_
  refine zy_get (C := RX2) (T := TX2) (N := 2) (ci := 2) (fs := [.ref q6_4, .int 0]) Γ h zin2 rfl 0 (by decide) zkc43 rfl (by decide +kernel) ?_
  refine lv_iload_n (k := 1) Γ.1 Γ.2.1 (by decide +kernel) rfl (lv_at hl 0 rfl) ?_
  refine zy_new (ci := 4) (C := RX4) (T := TX4) (N := 8) (fs := [.null, .null, .null, .int 0, .int 0, .int 0, .int 0, .int 0]) Γ hA h zin4 tyX4 tyX4_ok zkc42 zkc44 zkc45 rfl zdf4 ⟨by decide, by decide⟩ (by decide +kernel) (fun q28_58 H h => ?_)
  refine lv_dup Γ.1 Γ.2.1 (by decide +kernel) rfl ?_
  refine zy_init (pre := ((h0, .inr (2, [.ref q6_4, .int 0])) :: (((([] ++ [(q6_4, .inl (k.2.2.2, 5, .inr (.inr (.inr (.inr (va_up (va_up (va_up (fun _ => none) (Int32.toNatClampNeg 0) (some q28_16)) (Int32.toNatClampNeg 1) (some q28_30)) (Int32.toNatClampNeg 2) (some q28_44)))))))]) ++ zqSt k q28_16 u28_16) ++ zqSt k q28_30 u28_30) ++ zqSt k q28_44 u28_44))) (b := q28_58) (ce := .inr (4, [.null, .null, .null, .int 0, .int 0, .int 0, .int 0, .int 0])) (n := 0) (as := []) (rest := [.ref q28_58, .int 3, .ref q6_4]) Γ hA h (cX4 l D k q28_58) zkc48 zkc46 zkc45 zkc47 rfl (by decide +kernel) rfl ⟨by decide, by decide⟩ rfl hl.1 (Nat.le_of_ble_eq_true rfl) (by decide +kernel) ⟨by decide, by decide⟩ (fun u28_58 H locs h => ?_)
  have h : zYh D A s ((h0, .inr (2, [.ref q6_4, .int 0])) :: ((((([] ++ [(q6_4, .inl (k.2.2.2, 5, .inr (.inr (.inr (.inr (va_up (va_up (va_up (fun _ => none) (Int32.toNatClampNeg 0) (some q28_16)) (Int32.toNatClampNeg 1) (some q28_30)) (Int32.toNatClampNeg 2) (some q28_44)))))))]) ++ zqSt k q28_16 u28_16) ++ zqSt k q28_30 u28_30) ++ zqSt k q28_44 u28_44) ++ zqSt k q28_58 u28_58)) _ _ := h
  refine va_astq Γ.1 Γ.2.1 Γ.2.2.2.2.2.1 h.1 h.2.1 h.2.2 1 3 59 4 rfl rfl rfl rfl (by unfold vp_in; decide) (by decide +kernel) (fun H locs hP hD hS => ?_)
  have h : zYh D A s ((h0, .inr (2, [.ref q6_4, .int 0])) :: ((((([] ++ [(q6_4, .inl (k.2.2.2, 5, .inr (.inr (.inr (.inr (va_up (va_up (va_up (va_up (fun _ => none) (Int32.toNatClampNeg 0) (some q28_16)) (Int32.toNatClampNeg 1) (some q28_30)) (Int32.toNatClampNeg 2) (some q28_44)) (Int32.toNatClampNeg 3) (some q28_58)))))))]) ++ zqSt k q28_16 u28_16) ++ zqSt k q28_30 u28_30) ++ zqSt k q28_44 u28_44) ++ zqSt k q28_58 u28_58)) _ _ := ⟨hP, hD, hS⟩
  refine lv_iinc (n := 1) (v := 4) (lv' := [(1, .int 4), (0, .ref h0)]) (k := 0) Γ.1 Γ.2.1 (by decide +kernel) hl rfl (by decide) (by decide) rfl (fun ls hl => ?_)
  refine lv_goto (off := -25) (tgt := 14) Γ.1 Γ.2.1 (by decide +kernel) (by decide) ?_
  refine lv_iload_n (k := 1) Γ.1 Γ.2.1 (by decide +kernel) rfl (lv_at hl 0 rfl) ?_
  refine lv_aload_n (k := 0) Γ.1 Γ.2.1 (by decide +kernel) rfl (lv_at hl 1 rfl) ?_
  refine zy_get (C := RX2) (T := TX2) (N := 2) (ci := 2) (fs := [.ref q6_4, .int 0]) Γ h zin2 rfl 0 (by decide) zkc43 rfl (by decide +kernel) ?_
  refine va_alen (v := 5) Γ.1 Γ.2.1 Γ.2.2.2.2.2.1 h.1 1 3 rfl rfl (show Int32.ofNat 5 = 5 by decide) (by decide +kernel) ?_
  refine lv_icmp_ge (off := 22) (tgt := 42) Γ.1 Γ.2.1 (by decide +kernel) (by decide) (fun z => absurd z (by decide)) (fun _ => ?_)
  refine lv_aload_n (k := 0) Γ.1 Γ.2.1 (by decide +kernel) rfl (lv_at hl 1 rfl) ?_
  refine zy_get (C := RX2) (T := TX2) (N := 2) (ci := 2) (fs := [.ref q6_4, .int 0]) Γ h zin2 rfl 0 (by decide) zkc43 rfl (by decide +kernel) ?_
  refine lv_iload_n (k := 1) Γ.1 Γ.2.1 (by decide +kernel) rfl (lv_at hl 0 rfl) ?_
  refine zy_new (ci := 4) (C := RX4) (T := TX4) (N := 8) (fs := [.null, .null, .null, .int 0, .int 0, .int 0, .int 0, .int 0]) Γ hA h zin4 tyX4 tyX4_ok zkc42 zkc44 zkc45 rfl zdf4 ⟨by decide, by decide⟩ (by decide +kernel) (fun q28_72 H h => ?_)
  refine lv_dup Γ.1 Γ.2.1 (by decide +kernel) rfl ?_
  refine zy_init (pre := ((h0, .inr (2, [.ref q6_4, .int 0])) :: ((((([] ++ [(q6_4, .inl (k.2.2.2, 5, .inr (.inr (.inr (.inr (va_up (va_up (va_up (va_up (fun _ => none) (Int32.toNatClampNeg 0) (some q28_16)) (Int32.toNatClampNeg 1) (some q28_30)) (Int32.toNatClampNeg 2) (some q28_44)) (Int32.toNatClampNeg 3) (some q28_58)))))))]) ++ zqSt k q28_16 u28_16) ++ zqSt k q28_30 u28_30) ++ zqSt k q28_44 u28_44) ++ zqSt k q28_58 u28_58))) (b := q28_72) (ce := .inr (4, [.null, .null, .null, .int 0, .int 0, .int 0, .int 0, .int 0])) (n := 0) (as := []) (rest := [.ref q28_72, .int 4, .ref q6_4]) Γ hA h (cX4 l D k q28_72) zkc48 zkc46 zkc45 zkc47 rfl (by decide +kernel) rfl ⟨by decide, by decide⟩ rfl hl.1 (Nat.le_of_ble_eq_true rfl) (by decide +kernel) ⟨by decide, by decide⟩ (fun u28_72 H locs h => ?_)
  have h : zYh D A s ((h0, .inr (2, [.ref q6_4, .int 0])) :: (((((([] ++ [(q6_4, .inl (k.2.2.2, 5, .inr (.inr (.inr (.inr (va_up (va_up (va_up (va_up (fun _ => none) (Int32.toNatClampNeg 0) (some q28_16)) (Int32.toNatClampNeg 1) (some q28_30)) (Int32.toNatClampNeg 2) (some q28_44)) (Int32.toNatClampNeg 3) (some q28_58)))))))]) ++ zqSt k q28_16 u28_16) ++ zqSt k q28_30 u28_30) ++ zqSt k q28_44 u28_44) ++ zqSt k q28_58 u28_58) ++ zqSt k q28_72 u28_72)) _ _ := h
  refine va_astq Γ.1 Γ.2.1 Γ.2.2.2.2.2.1 h.1 h.2.1 h.2.2 1 3 78 4 rfl rfl rfl rfl (by unfold vp_in; decide) (by decide +kernel) (fun H locs hP hD hS => ?_)
  have h : zYh D A s ((h0, .inr (2, [.ref q6_4, .int 0])) :: (((((([] ++ [(q6_4, .inl (k.2.2.2, 5, .inr (.inr (.inr (.inr (va_up (va_up (va_up (va_up (va_up (fun _ => none) (Int32.toNatClampNeg 0) (some q28_16)) (Int32.toNatClampNeg 1) (some q28_30)) (Int32.toNatClampNeg 2) (some q28_44)) (Int32.toNatClampNeg 3) (some q28_58)) (Int32.toNatClampNeg 4) (some q28_72)))))))]) ++ zqSt k q28_16 u28_16) ++ zqSt k q28_30 u28_30) ++ zqSt k q28_44 u28_44) ++ zqSt k q28_58 u28_58) ++ zqSt k q28_72 u28_72)) _ _ := ⟨hP, hD, hS⟩
  refine lv_iinc (n := 1) (v := 5) (lv' := [(1, .int 5), (0, .ref h0)]) (k := 0) Γ.1 Γ.2.1 (by decide +kernel) hl rfl (by decide) (by decide) rfl (fun ls hl => ?_)
  refine lv_goto (off := -25) (tgt := 14) Γ.1 Γ.2.1 (by decide +kernel) (by decide) ?_
  refine lv_iload_n (k := 1) Γ.1 Γ.2.1 (by decide +kernel) rfl (lv_at hl 0 rfl) ?_
  refine lv_aload_n (k := 0) Γ.1 Γ.2.1 (by decide +kernel) rfl (lv_at hl 1 rfl) ?_
  refine zy_get (C := RX2) (T := TX2) (N := 2) (ci := 2) (fs := [.ref q6_4, .int 0]) Γ h zin2 rfl 0 (by decide) zkc43 rfl (by decide +kernel) ?_
  refine va_alen (v := 5) Γ.1 Γ.2.1 Γ.2.2.2.2.2.1 h.1 1 3 rfl rfl (show Int32.ofNat 5 = 5 by decide) (by decide +kernel) ?_
  refine lv_icmp_ge (off := 22) (tgt := 42) Γ.1 Γ.2.1 (by decide +kernel) (by decide) (fun _ => ?_) (fun z => absurd (by decide) z)
  exact fin (q6_4, fun j => [(q28_16, u28_16), (q28_30, u28_30), (q28_44, u28_44), (q28_58, u28_58), (q28_72, u28_72)].getD j (q28_16, u28_16)) _ _ 42 ls h (by decide +kernel)
set_option maxHeartbeats 4000000 in
set_option maxRecDepth 100000 in
theorem cX5 (l : Launch) (D : va_G) (k : zQu) (h0 : Nat) : zMc l D k yX5_init cX5_init 1 { frames := 1, cells := 1, slots := 60, locals := 12 } [.ref h0] [(h0, .inr (5, [.null, .int 0]))] (fun u : Nat => zqTe k h0 u) := by
  refine zy_met (by decide) rfl (Nat.le_of_ble_eq_true rfl) (fun {p e s m args below meth c A Q} Γ hmn hA fin ls hl h => ?_)
  have hl : lv_has ls 1 [(0, .ref h0)] := hl
  have h : zYh D A s ((h0, .inr (5, [.null, .int 0])) :: []) _ _ := h
  refine lv_aload_n (k := 0) Γ.1 Γ.2.1 (by decide +kernel) rfl (lv_at hl 0 rfl) ?_
  refine zy_obj Γ zkc49 zkc1 zkc2 hl.1 (by decide +kernel) ⟨by decide, by decide⟩ ?_
  refine lv_aload_n (k := 0) Γ.1 Γ.2.1 (by decide +kernel) rfl (lv_at hl 0 rfl) ?_
  refine lv_bipush (n := 60) (v := 60) Γ.1 Γ.2.1 (by decide +kernel) (by decide) ?_
  refine zy_newa (atype := .char) (ty := .char) (N' := 60) (t0 := 2) (cA := k.2.2.1) (a0 := (60, .inl (fun _ => 0))) Γ hA h zkc50 rfl (fun _ z => by cases z) rfl (fun _ => rfl) (by decide) (by decide) (by decide) ⟨by decide, by decide⟩ (by decide +kernel) (fun q7_4 H h => ?_)
  have h : zYh D A s ((h0, .inr (5, [.null, .int 0])) :: ([] ++ [(q7_4, .inl (k.2.2.1, 60, .inl (fun _ => 0)))])) _ _ := h
  refine zy_putF (C := RX5) (T := TX5) (N := 2) (ci := 5) (fs := [.null, .int 0]) (ty := tyX5 0) Γ hmn h zin5 tyX5 tyX5_ok nmX5 rfl 0 (by decide) zkc51 rfl rfl (tyX5_ok 0 (by decide)) rfl rfl (Nat.le_of_ble_eq_true rfl) (by decide +kernel) (fun H locs h => ?_)
  have h : zYh D A s ((h0, .inr (5, [.ref q7_4, .int 0])) :: ([] ++ [(q7_4, .inl (k.2.2.1, 60, .inl (fun _ => 0)))])) _ _ := h
  exact fin q7_4 _ _ 12 ls h (by decide +kernel)
set_option maxHeartbeats 4000000 in
set_option maxRecDepth 100000 in
theorem cX3 (l : Launch) (D : va_G) (k : zQu) (h0 : Nat) : zMc l D k yX3_init cX3_init 1 { frames := 1, cells := 1, slots := 4, locals := 12 } [.ref h0] [(h0, .inr (3, [.int 0, .int 0, .null, .int 0, .int 0]))] (fun u : Nat => zqOr k h0 u) := by
  refine zy_met (by decide) rfl (Nat.le_of_ble_eq_true rfl) (fun {p e s m args below meth c A Q} Γ hmn hA fin ls hl h => ?_)
  have hl : lv_has ls 1 [(0, .ref h0)] := hl
  have h : zYh D A s ((h0, .inr (3, [.int 0, .int 0, .null, .int 0, .int 0])) :: []) _ _ := h
  refine lv_aload_n (k := 0) Γ.1 Γ.2.1 (by decide +kernel) rfl (lv_at hl 0 rfl) ?_
  refine zy_obj Γ zkc52 zkc1 zkc2 hl.1 (by decide +kernel) ⟨by decide, by decide⟩ ?_
  refine lv_aload_n (k := 0) Γ.1 Γ.2.1 (by decide +kernel) rfl (lv_at hl 0 rfl) ?_
  refine lv_iconst (n := 4) (v := 4) Γ.1 Γ.2.1 (by decide +kernel) (by decide) ?_
  refine zy_newa (atype := .int) (ty := .int) (N' := 4) (t0 := 0) (cA := k.1) (a0 := (4, .inl (fun _ => 0))) Γ hA h zkc4 rfl (fun _ z => by cases z) rfl (fun _ => rfl) (by decide) (by decide) (by decide) ⟨by decide, by decide⟩ (by decide +kernel) (fun q6_4 H h => ?_)
  have h : zYh D A s ((h0, .inr (3, [.int 0, .int 0, .null, .int 0, .int 0])) :: ([] ++ [(q6_4, .inl (k.1, 4, .inl (fun _ => 0)))])) _ _ := h
  refine zy_putF (C := RX3) (T := TX3) (N := 5) (ci := 3) (fs := [.int 0, .int 0, .null, .int 0, .int 0]) (ty := tyX3 2) Γ hmn h zin3 tyX3 tyX3_ok nmX3 rfl 2 (by decide) zkc53 rfl rfl (tyX3_ok 2 (by decide)) rfl rfl (Nat.le_of_ble_eq_true rfl) (by decide +kernel) (fun H locs h => ?_)
  have h : zYh D A s ((h0, .inr (3, [.int 0, .int 0, .ref q6_4, .int 0, .int 0])) :: ([] ++ [(q6_4, .inl (k.1, 4, .inl (fun _ => 0)))])) _ _ := h
  exact fin q6_4 _ _ 11 ls h (by decide +kernel)
set_option maxHeartbeats 4000000 in
set_option maxRecDepth 100000 in
theorem cX7 (l : Launch) (D : va_G) (k : zQu) (h0 : Nat) : zMc l D k yX7_init cX7_init 1 { frames := 5, cells := 139, slots := 5356, locals := 94 } [.ref h0] [(h0, .inr (7, [.null, .null, .null, .null, .null, .int 0, .int 0, .int 0]))] (fun u : zYf => zqFB k h0 u) := by
  refine zy_met (by decide) rfl (Nat.le_of_ble_eq_true rfl) (fun {p e s m args below meth c A Q} Γ hmn hA fin ls hl h => ?_)
  have hl : lv_has ls 1 [(0, .ref h0)] := hl
  have h : zYh D A s ((h0, .inr (7, [.null, .null, .null, .null, .null, .int 0, .int 0, .int 0])) :: []) _ _ := h
  refine lv_aload_n (k := 0) Γ.1 Γ.2.1 (by decide +kernel) rfl (lv_at hl 0 rfl) ?_
  refine zy_obj Γ zkc54 zkc1 zkc2 hl.1 (by decide +kernel) ⟨by decide, by decide⟩ ?_
  refine lv_aload_n (k := 0) Γ.1 Γ.2.1 (by decide +kernel) rfl (lv_at hl 0 rfl) ?_
  refine zy_new (ci := 4) (C := RX4) (T := TX4) (N := 8) (fs := [.null, .null, .null, .int 0, .int 0, .int 0, .int 0, .int 0]) Γ hA h zin4 tyX4 tyX4_ok zkc55 zkc44 zkc45 rfl zdf4 ⟨by decide, by decide⟩ (by decide +kernel) (fun q5_3 H h => ?_)
  refine lv_dup Γ.1 Γ.2.1 (by decide +kernel) rfl ?_
  refine zy_init (pre := ((h0, .inr (7, [.null, .null, .null, .null, .null, .int 0, .int 0, .int 0])) :: [])) (b := q5_3) (ce := .inr (4, [.null, .null, .null, .int 0, .int 0, .int 0, .int 0, .int 0])) (n := 0) (as := []) (rest := [.ref q5_3, .ref h0]) Γ hA h (cX4 l D k q5_3) zkc56 zkc46 zkc45 zkc47 rfl (by decide +kernel) rfl ⟨by decide, by decide⟩ rfl hl.1 (Nat.le_of_ble_eq_true rfl) (by decide +kernel) ⟨by decide, by decide⟩ (fun u5_3 H locs h => ?_)
  have h : zYh D A s ((h0, .inr (7, [.null, .null, .null, .null, .null, .int 0, .int 0, .int 0])) :: ([] ++ zqSt k q5_3 u5_3)) _ _ := h
  refine zy_putF (C := RX7) (T := TX7) (N := 8) (ci := 7) (fs := [.null, .null, .null, .null, .null, .int 0, .int 0, .int 0]) (ty := tyX7 0) Γ hmn h zin7 tyX7 tyX7_ok nmX7 rfl 0 (by decide) zkc57 rfl rfl (tyX7_ok 0 (by decide)) rfl rfl (Nat.le_of_ble_eq_true rfl) (by decide +kernel) (fun H locs h => ?_)
  have h : zYh D A s ((h0, .inr (7, [.ref q5_3, .null, .null, .null, .null, .int 0, .int 0, .int 0])) :: ([] ++ zqSt k q5_3 u5_3)) _ _ := h
  refine lv_aload_n (k := 0) Γ.1 Γ.2.1 (by decide +kernel) rfl (lv_at hl 0 rfl) ?_
  refine zy_new (ci := 4) (C := RX4) (T := TX4) (N := 8) (fs := [.null, .null, .null, .int 0, .int 0, .int 0, .int 0, .int 0]) Γ hA h zin4 tyX4 tyX4_ok zkc55 zkc44 zkc45 rfl zdf4 ⟨by decide, by decide⟩ (by decide +kernel) (fun q16_8 H h => ?_)
  refine lv_dup Γ.1 Γ.2.1 (by decide +kernel) rfl ?_
  refine zy_init (pre := ((h0, .inr (7, [.ref q5_3, .null, .null, .null, .null, .int 0, .int 0, .int 0])) :: ([] ++ zqSt k q5_3 u5_3))) (b := q16_8) (ce := .inr (4, [.null, .null, .null, .int 0, .int 0, .int 0, .int 0, .int 0])) (n := 0) (as := []) (rest := [.ref q16_8, .ref h0]) Γ hA h (cX4 l D k q16_8) zkc56 zkc46 zkc45 zkc47 rfl (by decide +kernel) rfl ⟨by decide, by decide⟩ rfl hl.1 (Nat.le_of_ble_eq_true rfl) (by decide +kernel) ⟨by decide, by decide⟩ (fun u16_8 H locs h => ?_)
  have h : zYh D A s ((h0, .inr (7, [.ref q5_3, .null, .null, .null, .null, .int 0, .int 0, .int 0])) :: (([] ++ zqSt k q5_3 u5_3) ++ zqSt k q16_8 u16_8)) _ _ := h
  refine zy_putF (C := RX7) (T := TX7) (N := 8) (ci := 7) (fs := [.ref q5_3, .null, .null, .null, .null, .int 0, .int 0, .int 0]) (ty := tyX7 1) Γ hmn h zin7 tyX7 tyX7_ok nmX7 rfl 1 (by decide) zkc58 rfl rfl (tyX7_ok 1 (by decide)) rfl rfl (Nat.le_of_ble_eq_true rfl) (by decide +kernel) (fun H locs h => ?_)
  have h : zYh D A s ((h0, .inr (7, [.ref q5_3, .ref q16_8, .null, .null, .null, .int 0, .int 0, .int 0])) :: (([] ++ zqSt k q5_3 u5_3) ++ zqSt k q16_8 u16_8)) _ _ := h
  refine lv_aload_n (k := 0) Γ.1 Γ.2.1 (by decide +kernel) rfl (lv_at hl 0 rfl) ?_
  refine zy_new (ci := 2) (C := RX2) (T := TX2) (N := 2) (fs := [.null, .int 0]) Γ hA h zin2 tyX2 tyX2_ok zkc59 zkc60 zkc61 rfl zdf2 ⟨by decide, by decide⟩ (by decide +kernel) (fun q27_13 H h => ?_)
  refine lv_dup Γ.1 Γ.2.1 (by decide +kernel) rfl ?_
  refine zy_init (pre := ((h0, .inr (7, [.ref q5_3, .ref q16_8, .null, .null, .null, .int 0, .int 0, .int 0])) :: (([] ++ zqSt k q5_3 u5_3) ++ zqSt k q16_8 u16_8))) (b := q27_13) (ce := .inr (2, [.null, .int 0])) (n := 0) (as := []) (rest := [.ref q27_13, .ref h0]) Γ hA h (cX2 l D k q27_13) zkc64 zkc62 zkc61 zkc63 rfl (by decide +kernel) rfl ⟨by decide, by decide⟩ rfl hl.1 (Nat.le_of_ble_eq_true rfl) (by decide +kernel) ⟨by decide, by decide⟩ (fun u27_13 H locs h => ?_)
  have h : zYh D A s ((h0, .inr (7, [.ref q5_3, .ref q16_8, .null, .null, .null, .int 0, .int 0, .int 0])) :: ((([] ++ zqSt k q5_3 u5_3) ++ zqSt k q16_8 u16_8) ++ zqHi k q27_13 u27_13)) _ _ := h
  refine zy_putF (C := RX7) (T := TX7) (N := 8) (ci := 7) (fs := [.ref q5_3, .ref q16_8, .null, .null, .null, .int 0, .int 0, .int 0]) (ty := tyX7 2) Γ hmn h zin7 tyX7 tyX7_ok nmX7 rfl 2 (by decide) zkc65 rfl rfl (tyX7_ok 2 (by decide)) rfl rfl (Nat.le_of_ble_eq_true rfl) (by decide +kernel) (fun H locs h => ?_)
  have h : zYh D A s ((h0, .inr (7, [.ref q5_3, .ref q16_8, .ref q27_13, .null, .null, .int 0, .int 0, .int 0])) :: ((([] ++ zqSt k q5_3 u5_3) ++ zqSt k q16_8 u16_8) ++ zqHi k q27_13 u27_13)) _ _ := h
  refine lv_aload_n (k := 0) Γ.1 Γ.2.1 (by decide +kernel) rfl (lv_at hl 0 rfl) ?_
  refine zy_new (ci := 5) (C := RX5) (T := TX5) (N := 2) (fs := [.null, .int 0]) Γ hA h zin5 tyX5 tyX5_ok zkc66 zkc67 zkc68 rfl zdf5 ⟨by decide, by decide⟩ (by decide +kernel) (fun q38_18 H h => ?_)
  refine lv_dup Γ.1 Γ.2.1 (by decide +kernel) rfl ?_
  refine zy_init (pre := ((h0, .inr (7, [.ref q5_3, .ref q16_8, .ref q27_13, .null, .null, .int 0, .int 0, .int 0])) :: ((([] ++ zqSt k q5_3 u5_3) ++ zqSt k q16_8 u16_8) ++ zqHi k q27_13 u27_13))) (b := q38_18) (ce := .inr (5, [.null, .int 0])) (n := 0) (as := []) (rest := [.ref q38_18, .ref h0]) Γ hA h (cX5 l D k q38_18) zkc71 zkc69 zkc68 zkc70 rfl (by decide +kernel) rfl ⟨by decide, by decide⟩ rfl hl.1 (Nat.le_of_ble_eq_true rfl) (by decide +kernel) ⟨by decide, by decide⟩ (fun u38_18 H locs h => ?_)
  have h : zYh D A s ((h0, .inr (7, [.ref q5_3, .ref q16_8, .ref q27_13, .null, .null, .int 0, .int 0, .int 0])) :: (((([] ++ zqSt k q5_3 u5_3) ++ zqSt k q16_8 u16_8) ++ zqHi k q27_13 u27_13) ++ zqTe k q38_18 u38_18)) _ _ := h
  refine zy_putF (C := RX7) (T := TX7) (N := 8) (ci := 7) (fs := [.ref q5_3, .ref q16_8, .ref q27_13, .null, .null, .int 0, .int 0, .int 0]) (ty := tyX7 3) Γ hmn h zin7 tyX7 tyX7_ok nmX7 rfl 3 (by decide) zkc72 rfl rfl (tyX7_ok 3 (by decide)) rfl rfl (Nat.le_of_ble_eq_true rfl) (by decide +kernel) (fun H locs h => ?_)
  have h : zYh D A s ((h0, .inr (7, [.ref q5_3, .ref q16_8, .ref q27_13, .ref q38_18, .null, .int 0, .int 0, .int 0])) :: (((([] ++ zqSt k q5_3 u5_3) ++ zqSt k q16_8 u16_8) ++ zqHi k q27_13 u27_13) ++ zqTe k q38_18 u38_18)) _ _ := h
  refine lv_aload_n (k := 0) Γ.1 Γ.2.1 (by decide +kernel) rfl (lv_at hl 0 rfl) ?_
  refine zy_new (ci := 3) (C := RX3) (T := TX3) (N := 5) (fs := [.int 0, .int 0, .null, .int 0, .int 0]) Γ hA h zin3 tyX3 tyX3_ok zkc73 zkc74 zkc75 rfl zdf3 ⟨by decide, by decide⟩ (by decide +kernel) (fun q49_23 H h => ?_)
  refine lv_dup Γ.1 Γ.2.1 (by decide +kernel) rfl ?_
  refine zy_init (pre := ((h0, .inr (7, [.ref q5_3, .ref q16_8, .ref q27_13, .ref q38_18, .null, .int 0, .int 0, .int 0])) :: (((([] ++ zqSt k q5_3 u5_3) ++ zqSt k q16_8 u16_8) ++ zqHi k q27_13 u27_13) ++ zqTe k q38_18 u38_18))) (b := q49_23) (ce := .inr (3, [.int 0, .int 0, .null, .int 0, .int 0])) (n := 0) (as := []) (rest := [.ref q49_23, .ref h0]) Γ hA h (cX3 l D k q49_23) zkc78 zkc76 zkc75 zkc77 rfl (by decide +kernel) rfl ⟨by decide, by decide⟩ rfl hl.1 (Nat.le_of_ble_eq_true rfl) (by decide +kernel) ⟨by decide, by decide⟩ (fun u49_23 H locs h => ?_)
  have h : zYh D A s ((h0, .inr (7, [.ref q5_3, .ref q16_8, .ref q27_13, .ref q38_18, .null, .int 0, .int 0, .int 0])) :: ((((([] ++ zqSt k q5_3 u5_3) ++ zqSt k q16_8 u16_8) ++ zqHi k q27_13 u27_13) ++ zqTe k q38_18 u38_18) ++ zqOr k q49_23 u49_23)) _ _ := h
  refine zy_putF (C := RX7) (T := TX7) (N := 8) (ci := 7) (fs := [.ref q5_3, .ref q16_8, .ref q27_13, .ref q38_18, .null, .int 0, .int 0, .int 0]) (ty := tyX7 4) Γ hmn h zin7 tyX7 tyX7_ok nmX7 rfl 4 (by decide) zkc79 rfl rfl (tyX7_ok 4 (by decide)) rfl rfl (Nat.le_of_ble_eq_true rfl) (by decide +kernel) (fun H locs h => ?_)
  have h : zYh D A s ((h0, .inr (7, [.ref q5_3, .ref q16_8, .ref q27_13, .ref q38_18, .ref q49_23, .int 0, .int 0, .int 0])) :: ((((([] ++ zqSt k q5_3 u5_3) ++ zqSt k q16_8 u16_8) ++ zqHi k q27_13 u27_13) ++ zqTe k q38_18 u38_18) ++ zqOr k q49_23 u49_23)) _ _ := h
  exact fin ((q5_3, u5_3), (q16_8, u16_8), (q27_13, u27_13), (q38_18, u38_18), (q49_23, u49_23)) _ _ 59 ls h (by decide +kernel)
