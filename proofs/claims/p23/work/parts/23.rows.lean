-- ===== the reference: letters and rows =====
def zlf (x : Int32) : Int32 := if x = 1 then 25755 else if x = 2 then 65656 else if x = 3 then 34443 else if x = 4 then 65556 else if x = 5 then 74647 else if x = 6 then 74644 else if x = 7 then 34553 else if x = 8 then 55755 else if x = 9 then 72227 else if x = 10 then 11152 else if x = 11 then 55655 else if x = 12 then 44447 else if x = 13 then 57755 else if x = 14 then 65555 else if x = 15 then 25552 else 65644
def zdv : Nat → Int32 → Int32
  | 0, v => v
  | k + 1, v => zdv k (v / 10)
/-- the dots of a letter in a row: 4 the left one, 2, 1 -/
def zdI (j r : Nat) : Int32 := zrm (zdv (4 - r) (zlf (nI j))) 10
/-- the same from left to right: bit 0 the left dot -/
def zrv (j r : Nat) : Nat := ui (((zdI j r >>> (2 : Int32)) ||| (zdI j r &&& 2)) ||| ((zdI j r &&& 1) <<< (2 : Int32)))
theorem zrv_lt : ∀ j, j < 32 → ∀ r, r < 5 → zrv j r < 8 := by decide +kernel
/-- a row of a word of n letters as bits -/
def zrw : Nat → Nat → Nat → Nat
  | 0, _, _ => 0
  | n + 1, u, r => (zrv (u % 32) r * 2 ^ (4 * n)) ||| zrw n (u / 32) r
theorem zrw_lt : ∀ (n u r : Nat), r < 5 → zrw n u r < 2 ^ (4 * n) := by
  intro n
  induction n with
  | zero => intro u r h; rw [zrw]; decide
  | succ n ih =>
    intro u r h
    rw [zrw]
    have h1 := zrv_lt (u % 32) (Nat.mod_lt _ (by decide)) r h
    have h2 := ih (u / 32) r h
    have e : 2 ^ (4 * (n + 1)) = 16 * 2 ^ (4 * n) := by rw [show 4 * (n + 1) = 4 * n + 4 by omega, Nat.pow_add, Nat.mul_comm]
    refine Nat.or_lt_two_pow ?_ ?_
    · rw [e]
      have := Nat.mul_le_mul_right (2 ^ (4 * n)) (show zrv (u % 32) r ≤ 7 by omega)
      have h3 := Nat.two_pow_pos (4 * n)
      omega
    · rw [e]; omega
abbrev zrow (x : Int32) (r : Nat) : Int32 := nI (zrw (mny x) (ui x) r)
theorem zsmod : ∀ n, n < 32 → ((nI n &&& (31 : Int32)).toBitVec.smod 32).toNat = n := by decide +kernel
theorem zshl {a k : Nat} (hk : k < 32) (h : a * 2 ^ k < 2 ^ 32) : nI a <<< (nI k &&& (31 : Int32)) = nI (a * 2 ^ k) := pk_shlN _ k (zsmod k hk) h
theorem zI31 (x : Int32) : x &&& 31 = nI (ui x % 32) := pk_and x 5 rfl
noncomputable def zbr (x : Int32) : Nat := zsm (fun r => zq (zrow x r)) 5
/-- how far rows are from the picture of a word at a shift -/
noncomputable def zap (f : Nat → Int32) (x : Int32) (k : Nat) : Nat := zsm (fun r => zq (f r ^^^ (zrow x r <<< (nI k &&& (31 : Int32))))) 5
theorem zsm_le (f : Nat → Nat) (B : Nat) (h : ∀ i, f i ≤ B) : ∀ n, zsm f n ≤ n * B := by
  intro n
  induction n with
  | zero => simp [zsm]
  | succ n ih => rw [zsm, Nat.succ_mul]; have := h n; omega
theorem zap_le (f : Nat → Int32) (x : Int32) (k : Nat) : zap f x k ≤ 160 := zsm_le _ 32 (fun i => zq_le _) 5
