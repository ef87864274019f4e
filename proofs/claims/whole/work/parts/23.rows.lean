-- ===== the reference: letters and rows =====
def zlf (x : Int32) : Int32 := if x = 1 then 25755 else if x = 2 then 65656 else if x = 3 then 34443 else if x = 4 then 65556 else if x = 5 then 74647 else if x = 6 then 74644 else if x = 7 then 34553 else if x = 8 then 55755 else if x = 9 then 72227 else if x = 10 then 11152 else if x = 11 then 55655 else if x = 12 then 44447 else if x = 13 then 57755 else if x = 14 then 65555 else if x = 15 then 25552 else 65644
theorem sp_lettersFrom (x : Int32) (M : zM) : zd_X8_lettersFrom [zI x] M = zs (zlf x) M := by
  rw [en_X8_lettersFrom, bk_X8_lettersFrom_0]
  simp only [bk_X8_lettersFrom_76, bk_X8_lettersFrom_80, bk_X8_lettersFrom_83, bk_X8_lettersFrom_86, bk_X8_lettersFrom_89, bk_X8_lettersFrom_92, bk_X8_lettersFrom_95, bk_X8_lettersFrom_98, bk_X8_lettersFrom_101, bk_X8_lettersFrom_104, bk_X8_lettersFrom_108, bk_X8_lettersFrom_111, bk_X8_lettersFrom_114, bk_X8_lettersFrom_117, bk_X8_lettersFrom_120, bk_X8_lettersFrom_124, zite]
  rfl
def zdv : Nat → Int32 → Int32
  | 0, v => v
  | k + 1, v => zdv k (v / 10)
/-- the dots of a letter in a row: 4 the left one, 2, 1 -/
def zdI (j r : Nat) : Int32 := zrm (zdv (4 - r) (zlf (nI j))) 10
theorem sp_dots_loop (r : Nat) (M : zM) : ∀ (k : Nat) (d : Option zV) (v : Int32), r + k ≤ 4 → zev zC_X8_dots 7 ([d, some (zI (nI r)), some (zI v), some (zI (nI (r + k)))], [], M) = zs (zrm (zdv k v) 10) M := by
  intro k
  induction k with
  | zero =>
    intro d v h
    rw [bk_X8_dots_7, if_pos (nI_le (by omega) (by omega)), bk_X8_dots_23]
    rfl
  | succ k ih =>
    intro d v h
    rw [bk_X8_dots_7, if_neg (nI_ge (by omega) (by omega)), bk_X8_dots_12, show r + (k + 1) = (r + k) + 1 by omega, pk_m1, ih _ _ (by omega)]
    rfl
theorem sp_dots (j r : Nat) (hr : r < 5) (M : zM) : zd_X8_dots [zI (nI j), zI (nI r)] M = zs (zdI j r) M := by
  rw [en_X8_dots, bk_X8_dots_0, zbi (sp_lettersFrom _ _), bk_X8_dots_4]
  have h := sp_dots_loop r M (4 - r) (some (zI (nI j))) (zlf (nI j)) (by omega)
  rw [show r + (4 - r) = 4 by omega] at h
  exact h
/-- the same from left to right: bit 0 the left dot -/
def zrv (j r : Nat) : Nat := ui (((zdI j r >>> (2 : Int32)) ||| (zdI j r &&& 2)) ||| ((zdI j r &&& 1) <<< (2 : Int32)))
theorem zrv_lt : ∀ j, j < 32 → ∀ r, r < 5 → zrv j r < 8 := by decide +kernel
/-- a row of a word of n letters as bits -/
def zrw : Nat → Nat → Nat → Nat
  | 0, _, _ => 0
  | n + 1, u, r => (zrv (u % 32) r * 2 ^ (4 * n)) ||| zrw n (u / 32) r
theorem zrw_lt : ∀ (n u r : Nat), r < 5 → zrw n u r < 2 ^ (4 * n) := by
  intro n
  induction n with
  | zero => intro u r h; rw [zrw]; decide
  | succ n ih =>
    intro u r h
    rw [zrw]
    have h1 := zrv_lt (u % 32) (Nat.mod_lt _ (by decide)) r h
    have h2 := ih (u / 32) r h
    have e : 2 ^ (4 * (n + 1)) = 16 * 2 ^ (4 * n) := by rw [show 4 * (n + 1) = 4 * n + 4 by omega, Nat.pow_add, Nat.mul_comm]
    refine Nat.or_lt_two_pow ?_ ?_
    · rw [e]
      have := Nat.mul_le_mul_right (2 ^ (4 * n)) (show zrv (u % 32) r ≤ 7 by omega)
      have h3 := Nat.two_pow_pos (4 * n)
      omega
    · rw [e]; omega
abbrev zrow (x : Int32) (r : Nat) : Int32 := nI (zrw (mny x) (ui x) r)
theorem zsmod : ∀ n, n < 32 → ((nI n &&& (31 : Int32)).toBitVec.smod 32).toNat = n := by decide +kernel
theorem zshl {a k : Nat} (hk : k < 32) (h : a * 2 ^ k < 2 ^ 32) : nI a <<< (nI k &&& (31 : Int32)) = nI (a * 2 ^ k) := pk_shlN _ k (zsmod k hk) h
theorem zI31 (x : Int32) : x &&& 31 = nI (ui x % 32) := pk_and x 5 rfl
theorem sp_rowOf_loop (r : Nat) (hr : r < 5) (M : zM) : ∀ (k : Nat) (d d5 : Option zV) (S x : Int32), k ≤ 7 → ui x < 32 ^ k → zev zC_X8_rowOf 14 ([d, some (zI (nI r)), some (zI S), some (zI (nI (4 * zmn k (ui x)) - 4)), some (zI x), d5], [], M) = zs (S ||| nI (zrw (zmn k (ui x)) (ui x) r)) M := by
  intro k
  induction k with
  | zero =>
    intro d d5 S x hk h
    rw [Nat.pow_zero] at h
    rw [bk_X8_rowOf_14, if_pos (ui_0.mpr (by omega)), bk_X8_rowOf_63]
    rw [show zmn 0 (ui x) = 0 from rfl, show zrw 0 (ui x) r = 0 from rfl, show S ||| nI 0 = S from Int32.or_zero]
  | succ k ih =>
    intro d d5 S x hk h
    rw [bk_X8_rowOf_14]
    by_cases hx : x = 0
    · rw [if_pos hx, bk_X8_rowOf_63, zmn, if_pos (ui_0.mp hx), show zrw 0 (ui x) r = 0 from rfl, show S ||| nI 0 = S from Int32.or_zero]
    · have h5 : ui (zus x 5) < 32 ^ k := by rw [ui_s5]; rw [Nat.pow_succ] at h; omega
      have hm := zmn_le k (ui x / 32)
      have hj : ui x % 32 < 32 := Nat.mod_lt _ (by decide)
      have hrv := zrv_lt _ hj r hr
      rw [if_neg hx, bk_X8_rowOf_19, zI31, zbi (sp_dots _ r hr M), bk_X8_rowOf_28, zmn, if_neg (fun z => hx (ui_0.mpr z))]
      have e1 : nI (4 * (zmn k (ui x / 32) + 1)) - 4 = nI (4 * zmn k (ui x / 32)) := by
        rw [show (4 : Int32) = nI 4 from rfl, pk_sub (by omega)]
        congr 1
      have e2 : nI (4 * zmn k (ui x / 32)) + (-4) = nI (4 * zmn k (ui x / 32)) - 4 := (Int32.sub_eq_add_neg _ _).symm
      have e3 : ((zdI (ui x % 32) r >>> (2 : Int32)) ||| (zdI (ui x % 32) r &&& 2)) ||| ((zdI (ui x % 32) r &&& 1) <<< (2 : Int32)) = nI (zrv (ui x % 32) r) := (nI_ui _).symm
      have e4 : zrv (ui x % 32) r * 2 ^ (4 * zmn k (ui x / 32)) < 2 ^ 32 := by
        have h1 := Nat.mul_le_mul_right (2 ^ (4 * zmn k (ui x / 32))) (show zrv (ui x % 32) r ≤ 7 by omega)
        have h2 : 2 ^ (4 * zmn k (ui x / 32)) ≤ 2 ^ 24 := Nat.pow_le_pow_right (by decide) (by omega)
        omega
      have h6 := ih none (some (zI (zdI (ui x % 32) r))) (S ||| nI (zrv (ui x % 32) r * 2 ^ (4 * zmn k (ui x / 32)))) (zus x 5) (by omega) h5
      rw [ui_s5] at h6
      rw [e1, e2, e3, zshl (by omega) e4, h6, zrw]
      refine congrArg (fun z => zs z M) ?_
      rw [Int32.or_assoc]
      refine congrArg (fun z => S ||| z) (ui_inj ?_)
      have h7 := zrw_lt (zmn k (ui x / 32)) (ui x / 32) r hr
      have h8 : 2 ^ (4 * zmn k (ui x / 32)) ≤ 2 ^ 24 := Nat.pow_le_pow_right (by decide) (by omega)
      rw [ui_or, ui_nI e4, ui_nI (by omega), ui_nI (Nat.or_lt_two_pow e4 (by omega))]
theorem sp_rowOf (x : Int32) (r : Nat) (hr : r < 5) (M : zM) : zd_X8_rowOf [zI x, zI (nI r)] M = zs (zrow x r) M := by
  have h : ui x < 32 ^ 7 := Nat.lt_trans (ui_lt x) (by decide)
  rw [en_X8_rowOf, bk_X8_rowOf_0, zbi (sp_many _ _), bk_X8_rowOf_7]
  have e : (4 * nI (mny x)) - 4 = nI (4 * zmn 7 (ui x)) - 4 := by rw [← pk_mul]; rfl
  rw [e, sp_rowOf_loop r hr M 7 _ _ _ _ (by omega) h]
  rw [show (0 : Int32) ||| nI (zrw (zmn 7 (ui x)) (ui x) r) = nI (zrw (zmn 7 (ui x)) (ui x) r) from Int32.zero_or]
noncomputable def zbr (x : Int32) : Nat := zsm (fun r => zq (zrow x r)) 5
theorem sp_bright_loop (n k : Nat) (hk : k < 10) (M : zM) : ∀ (j r : Nat), r + j = 5 → zev zC_X8_bright 4 ([some (zR 8 n), some (zI (nI k)), some (zI (nI (zsm (fun r => zq (zrow (M.1 29 0 (8 + 2 * k)) r)) r))), some (zI (nI r))], [], M) = zs (nI (zbr (M.1 29 0 (8 + 2 * k)))) M := by
  intro j
  induction j with
  | zero =>
    intro r hr
    rw [bk_X8_bright_4, show (5 : Int32) = nI 5 from rfl, if_pos (nI_le (by omega) (by omega)), bk_X8_bright_30, show r = 5 by omega]
    rfl
  | succ j ih =>
    intro r hr
    rw [bk_X8_bright_4, show (5 : Int32) = nI 5 from rfl, if_neg (nI_ge (by omega) (by omega)), bk_X8_bright_9, zbi (sp_letters k n hk M), bk_X8_bright_15, zbi (sp_rowOf _ r (by omega) M), bk_X8_bright_19, zbi (sp_ones _ _), bk_X8_bright_22, nI_add, nI_1]
    exact ih (r + 1) (by omega)
theorem sp_bright (n k : Nat) (hk : k < 10) (M : zM) : zd_X8_bright [zR 8 n, zI (nI k)] M = zs (nI (zbr (M.1 29 0 (8 + 2 * k)))) M := by
  rw [en_X8_bright, bk_X8_bright_0]
  exact sp_bright_loop n k hk M 5 0 rfl
/-- how far rows are from the picture of a word at a shift -/
noncomputable def zap (f : Nat → Int32) (x : Int32) (k : Nat) : Nat := zsm (fun r => zq (f r ^^^ (zrow x r <<< (nI k &&& (31 : Int32))))) 5
theorem sp_apart_loop (n w k : Nat) (hw : w < 10) (M : zM) : ∀ (j r : Nat), r + j = 5 → zev zC_X8_apart 5 ([some (zR 8 n), some (zI (nI w)), some (zI (nI k)), some (zI (nI (zsm (fun r => zq ((M.1 33 0) r ^^^ (zrow (M.1 29 0 (8 + 2 * w)) r <<< (nI k &&& (31 : Int32))))) r))), some (zI (nI r))], [], M) = zs (nI (zap (M.1 33 0) (M.1 29 0 (8 + 2 * w)) k)) M := by
  intro j
  induction j with
  | zero =>
    intro r hr
    rw [bk_X8_apart_5, show (5 : Int32) = nI 5 from rfl, if_pos (nI_le (by omega) (by omega)), bk_X8_apart_43, show r = 5 by omega]
    rfl
  | succ j ih =>
    intro r hr
    rw [bk_X8_apart_5, show (5 : Int32) = nI 5 from rfl, if_neg (nI_ge (by omega) (by omega)), bk_X8_apart_11, if_neg (ix_in (show r < 5 by omega) (by decide)), ix_cl (by omega), bk_X8_apart_19, zbi (sp_letters w n hw M), bk_X8_apart_24, zbi (sp_rowOf _ r (by omega) M), bk_X8_apart_29, zbi (sp_ones _ _), bk_X8_apart_35, nI_add, nI_1]
    exact ih (r + 1) (by omega)
theorem sp_apart (n w k : Nat) (hw : w < 10) (M : zM) : zd_X8_apart [zR 8 n, zI (nI w), zI (nI k)] M = zs (nI (zap (M.1 33 0) (M.1 29 0 (8 + 2 * w)) k)) M := by
  rw [en_X8_apart, bk_X8_apart_0]
  exact sp_apart_loop n w k hw M 5 0 rfl
theorem zsm_le (f : Nat → Nat) (B : Nat) (h : ∀ i, f i ≤ B) : ∀ n, zsm f n ≤ n * B := by
  intro n
  induction n with
  | zero => simp [zsm]
  | succ n ih => rw [zsm, Nat.succ_mul]; have := h n; omega
theorem zap_le (f : Nat → Int32) (x : Int32) (k : Nat) : zap f x k ≤ 160 := zsm_le _ 32 (fun i => zq_le _) 5
