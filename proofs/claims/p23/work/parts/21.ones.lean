-- ===== counting ones: the two programs' ways =====
abbrev ui (x : Int32) : Nat := x.toBitVec.toNat
abbrev uj (x : Int64) : Nat := x.toBitVec.toNat
theorem ui_lt (x : Int32) : ui x < 2 ^ 32 := x.toBitVec.isLt
theorem uj_lt (x : Int64) : uj x < 2 ^ 64 := x.toBitVec.isLt
theorem ui_inj {x y : Int32} (h : ui x = ui y) : x = y := Int32.toBitVec_inj.mp (BitVec.eq_of_toNat_eq h)
theorem uj_inj {x y : Int64} (h : uj x = uj y) : x = y := Int64.toBitVec_inj.mp (BitVec.eq_of_toNat_eq h)
theorem ui_and (x y : Int32) : ui (x &&& y) = ui x &&& ui y := rfl
theorem ui_or (x y : Int32) : ui (x ||| y) = ui x ||| ui y := rfl
theorem ui_xor (x y : Int32) : ui (x ^^^ y) = ui x ^^^ ui y := rfl
theorem uj_and (x y : Int64) : uj (x &&& y) = uj x &&& uj y := rfl
theorem uj_or (x y : Int64) : uj (x ||| y) = uj x ||| uj y := rfl
theorem uj_xor (x y : Int64) : uj (x ^^^ y) = uj x ^^^ uj y := rfl
theorem ui_sub {x y : Int32} (h : ui y ≤ ui x) : ui (x - y) = ui x - ui y := by
  show (x.toBitVec - y.toBitVec).toNat = _
  rw [BitVec.toNat_sub]
  have := ui_lt x
  have := ui_lt y
  show (2 ^ 32 - ui y + ui x) % 2 ^ 32 = _
  omega
theorem ui_add {x y : Int32} (h : ui x + ui y < 2 ^ 32) : ui (x + y) = ui x + ui y := by
  show (x.toBitVec + y.toBitVec).toNat = _
  rw [BitVec.toNat_add]
  exact Nat.mod_eq_of_lt h
theorem uj_sub {x y : Int64} (h : uj y ≤ uj x) : uj (x - y) = uj x - uj y := by
  show (x.toBitVec - y.toBitVec).toNat = _
  rw [BitVec.toNat_sub]
  have := uj_lt x
  have := uj_lt y
  show (2 ^ 64 - uj y + uj x) % 2 ^ 64 = _
  omega
theorem uj_add {x y : Int64} (h : uj x + uj y < 2 ^ 64) : uj (x + y) = uj x + uj y := by
  show (x.toBitVec + y.toBitVec).toNat = _
  rw [BitVec.toNat_add]
  exact Nat.mod_eq_of_lt h
theorem ui_nI {n : Nat} (h : n < 2 ^ 32) : ui (nI n) = n := pk_tn h
theorem nI_ui (x : Int32) : nI (ui x) = x := ui_inj (ui_nI (ui_lt x))
theorem uj_lN {n : Nat} (h : n < 2 ^ 64) : uj (lN n) = n := by
  show (BitVec.ofNat 64 n).toNat = n
  rw [BitVec.toNat_ofNat]
  exact Nat.mod_eq_of_lt h
def zbc1 (x : Int64) : Int64 := x - ((zlus x 1) &&& 6148914691236517205)
def zbc2 (y : Int64) : Int64 := (y &&& 3689348814741910323) + ((zlus y 2) &&& 3689348814741910323)
def zbc3 (y : Int64) : Int64 := (y + (zlus y 4)) &&& 1085102592571150095
def zbc4 (y : Int64) : Int64 := y + (zlus y 8)
def zbc5 (y : Int64) : Int64 := y + (zlus y 16)
def zbc6 (y : Int64) : Int64 := y + (zlus y 32)
theorem uj_s1 (x : Int64) : uj (zlus x 1) = uj x / 2 ^ 1 := (rfl : uj (zlus x 1) = uj x >>> 1).trans (Nat.shiftRight_eq_div_pow _ _)
theorem uj_s2 (x : Int64) : uj (zlus x 2) = uj x / 2 ^ 2 := (rfl : uj (zlus x 2) = uj x >>> 2).trans (Nat.shiftRight_eq_div_pow _ _)
theorem uj_s4 (x : Int64) : uj (zlus x 4) = uj x / 2 ^ 4 := (rfl : uj (zlus x 4) = uj x >>> 4).trans (Nat.shiftRight_eq_div_pow _ _)
theorem uj_s8 (x : Int64) : uj (zlus x 8) = uj x / 2 ^ 8 := (rfl : uj (zlus x 8) = uj x >>> 8).trans (Nat.shiftRight_eq_div_pow _ _)
theorem uj_s16 (x : Int64) : uj (zlus x 16) = uj x / 2 ^ 16 := (rfl : uj (zlus x 16) = uj x >>> 16).trans (Nat.shiftRight_eq_div_pow _ _)
theorem uj_s32 (x : Int64) : uj (zlus x 32) = uj x / 2 ^ 32 := (rfl : uj (zlus x 32) = uj x >>> 32).trans (Nat.shiftRight_eq_div_pow _ _)
theorem zbc_1 (x : Int64) : uj (zbc1 x) = zpw 2 32 (uj x) := by
  obtain ⟨h1, h2⟩ := zsw1 32 (uj x) (uj_lt x)
  have e : uj ((zlus x 1) &&& 6148914691236517205) = uj x / 2 &&& zmk 2 1 32 := by
    rw [uj_and, uj_s1, Nat.pow_one]
    rfl
  rw [zbc1, uj_sub (by rw [e]; exact h1), e, h2]
theorem zpw2_lt (m x : Nat) : zpw 2 m x < 4 ^ m := by
  induction m generalizing x with
  | zero => simp [zpw]
  | succ m ih =>
    rw [zpw, show (2 : Nat) ^ 2 = 4 from rfl, show (4 : Nat) ^ (m + 1) = 4 ^ m * 4 from Nat.pow_succ _ _]
    have := ih (x / 4)
    have := zpc_le 2 (x % 4)
    omega
theorem zbc_2 (x : Int64) : uj (zbc2 (zbc1 x)) = zpw 4 16 (uj x) := by
  have h := zsw2 16 (uj x) (uj_lt x)
  have e1 : uj (zbc1 x &&& 3689348814741910323) = zpw 2 (2 * 16) (uj x) &&& zmk 4 3 16 := by
    rw [uj_and, zbc_1]
    rfl
  have e2 : uj ((zlus (zbc1 x) 2) &&& 3689348814741910323) = zpw 2 (2 * 16) (uj x) / 4 &&& zmk 4 3 16 := by
    rw [uj_and, uj_s2, zbc_1]
    rfl
  have b : zmk 4 3 16 = 3689348814741910323 := by decide
  rw [zbc2, uj_add, e1, e2, h]
  rw [e1, e2]
  have := Nat.and_le_right (n := zpw 2 (2 * 16) (uj x)) (m := zmk 4 3 16)
  have := Nat.and_le_right (n := zpw 2 (2 * 16) (uj x) / 4) (m := zmk 4 3 16)
  omega
theorem zbc_3 (x : Int64) : uj (zbc3 (zbc2 (zbc1 x))) = zpw 8 8 (uj x) := by
  have h := zsw3 8 (uj x) (uj_lt x)
  have b : zpw 4 16 (uj x) < 5 * 16 ^ 15 := by
    have : ∀ m y, zpw 4 (m + 1) y < 5 * 16 ^ m := by
      intro m
      induction m with
      | zero => intro y; have := zpc_le 4 (y % 2 ^ 4); rw [zpw, show zpw 4 0 (y / 2 ^ 4) = 0 from rfl]; omega
      | succ m ih =>
        intro y
        have h1 := ih (y / 2 ^ 4)
        have h2 := zpc_le 4 (y % 2 ^ 4)
        rw [show (2 : Nat) ^ 4 = 16 from rfl] at h1 h2
        rw [zpw, show (2 : Nat) ^ 4 = 16 from rfl, show (16 : Nat) ^ (m + 1) = 16 ^ m * 16 from Nat.pow_succ _ _]
        omega
    exact this 15 _
  rw [zbc3, uj_and, uj_add, uj_s4, zbc_2]
  · exact h
  · rw [uj_s4, zbc_2]
    have : zpw 4 16 (uj x) / 2 ^ 4 ≤ zpw 4 16 (uj x) := Nat.div_le_self _ _
    have e : (5 * 16 ^ 15 : Nat) + 5 * 16 ^ 15 < 2 ^ 64 := by decide
    omega
def zbc (x : Int64) : Int32 := (zbc6 (zbc5 (zbc4 (zbc3 (zbc2 (zbc1 x)))))).toInt32 &&& 127
theorem zbc_eq (x : Int64) : zbc x = nI (zpc 64 (uj x)) := by
  obtain ⟨h1, h2⟩ := zby 8 (uj x)
  obtain ⟨V, W, T, hV, hW, hT, l0, l1, l2, l3, h3⟩ := zsw4a (fun i => zpc 8 (uj x / 256 ^ i % 256)) (fun i => zpc_le 8 _) (fun i hi => by
    have : uj x / 256 ^ i = 0 := Nat.div_eq_of_lt (Nat.lt_of_lt_of_le (uj_lt x) (by
      rw [show (2 : Nat) ^ 64 = 256 ^ 8 from rfl]
      exact Nat.pow_le_pow_right (by decide) hi))
    rw [this]
    rfl)
  rw [← h1] at hV l0
  rw [← h2] at h3
  have e4 : uj (zbc4 (zbc3 (zbc2 (zbc1 x)))) = V := by
    rw [zbc4, uj_add, uj_s8, zbc_3, hV]
    · rw [uj_s8, zbc_3]
      rw [hV] at l1
      exact l1
  have e5 : uj (zbc5 (zbc4 (zbc3 (zbc2 (zbc1 x))))) = W := by
    rw [zbc5, uj_add, uj_s16, e4, hW]
    · rw [uj_s16, e4]
      rw [hW] at l2
      exact l2
  have e6 : uj (zbc6 (zbc5 (zbc4 (zbc3 (zbc2 (zbc1 x)))))) = T := by
    rw [zbc6, uj_add, uj_s32, e5, hT]
    · rw [uj_s32, e5]
      rw [hT] at l3
      exact l3
  refine ui_inj ?_
  rw [zbc, ui_and, ui_nI (Nat.lt_of_le_of_lt (zpc_le 64 _) (by decide))]
  have e7 : ∀ y : Int64, ui y.toInt32 = uj y % 2 ^ 32 := fun y => by
    show (y.toBitVec.signExtend 32).toNat = _
    rw [BitVec.signExtend_eq_setWidth_of_le _ (by decide), BitVec.toNat_setWidth]
  rw [e7, e6, show ui 127 = 2 ^ 7 - 1 from rfl, Nat.and_two_pow_sub_one_eq_mod]
  rw [← h3]
  omega
theorem zq_ex : ∃ f : Int32 → Nat, ∀ x, f x = zpc 32 (ui x) := ⟨fun x => zpc 32 (ui x), fun _ => rfl⟩
/-- how many ones -/
noncomputable def zq : Int32 → Nat := Classical.choose zq_ex
theorem zq_eq (x : Int32) : zq x = zpc 32 (ui x) := Classical.choose_spec zq_ex x
theorem zqj_ex : ∃ f : Int64 → Nat, ∀ x, f x = zpc 64 (uj x) := ⟨fun x => zpc 64 (uj x), fun _ => rfl⟩
noncomputable def zqj : Int64 → Nat := Classical.choose zqj_ex
theorem zqj_eq (x : Int64) : zqj x = zpc 64 (uj x) := Classical.choose_spec zqj_ex x
theorem zq_le (x : Int32) : zq x ≤ 32 := by rw [zq_eq]; exact zpc_le 32 _
theorem zqj_le (x : Int64) : zqj x ≤ 64 := by rw [zqj_eq]; exact zpc_le 64 _
theorem sp_bitCount (x : Int64) (M : zM) : zd_J13_bitCount_95d88 [zJ x] M = some (some (zI (nI (zqj x))), M) := by
  rw [zqj_eq, en_J13_bitCount_95d88, bk_J13_bitCount_95d88_0, ← zbc_eq]
  rfl
