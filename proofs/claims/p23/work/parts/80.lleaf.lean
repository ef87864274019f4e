-- ===== the law: small methods =====
theorem lw_columns (b : Nat) (hb : b < 2) (M : zM) : zd_L_columns [zI (nI b)] M = zs (nI (zcol b)) M := by
  rw [en_L_columns, bk_L_columns_0]
  rcases (show b = 0 ∨ b = 1 by omega) with rfl | rfl <;> rfl
theorem lw_ones_loop (M : zM) : ∀ (k : Nat) (d : Option zV) (a x : Int32), zpc 32 (ui x) = k → zev zC_L_ones 4 ([d, some (zI a), some (zI x)], [], M) = some (some (zI (a + nI k)), M) := by
  intro k
  induction k with
  | zero =>
    intro d a x h
    rw [bk_L_ones_4]
    by_cases hx : x = 0
    · rw [if_pos hx, bk_L_ones_20]
      rw [show a + nI 0 = a from Int32.add_zero a]
    · have h1 : 0 < ui x := Nat.pos_of_ne_zero (fun h0 => hx (ui_inj h0))
      have h2 := zpc_k 32 (ui x) (ui_lt x) h1
      omega
  | succ k ih =>
    intro d a x h
    have hx : ¬ x = 0 := fun h0 => by
      rw [h0] at h
      have : zpc 32 (ui 0) = 0 := rfl
      omega
    have h1 : 0 < ui x := Nat.pos_of_ne_zero (fun h0 => hx (ui_inj h0))
    have h2 := zpc_k 32 (ui x) (ui_lt x) h1
    rw [bk_L_ones_4, if_neg hx, bk_L_ones_8, ih]
    · rw [Int32.add_assoc]
      have : (1 : Int32) + nI k = nI (k + 1) := by rw [Int32.add_comm]; exact nI_1 k
      rw [this]
    · rw [ui_and, ui_sub (show ui 1 ≤ ui x from h1)]
      show zpc 32 (ui x &&& (ui x - 1)) = k
      omega
theorem lw_ones (x : Int32) (M : zM) : zd_L_ones [zI x] M = zs (nI (zq x)) M := by
  rw [zq_eq, en_L_ones, bk_L_ones_0, lw_ones_loop M _ _ _ _ rfl]
  rw [show (0 : Int32) + nI (zpc 32 (ui x)) = nI (zpc 32 (ui x)) from Int32.zero_add _]
theorem shr_nI {u k : Nat} (hu : u < 2 ^ 31) (hk : k < 32) : nI u >>> (nI k &&& (31 : Int32)) = nI (u / 2 ^ k) := pk_shrN hu _ k (zsmod k hk)
theorem VL_31 {x : Int32} (h : zVL x) : ui x < 2 ^ 31 := Nat.lt_of_lt_of_le (VL_ui h) (by decide)
theorem lw_size {x : Int32} (hx : zVL x) (M : zM) : zd_L_size [zI x] M = zs (nI (mny x)) M := by
  have hm := VL_m hx
  have hu := VL_31 hx
  have sh : ∀ n, n < 6 → x >>> ((5 * nI n) &&& (31 : Int32)) = nI (ui x / 32 ^ n) := fun n hn => by
    have h0 := shr_nI (u := ui x) (k := 5 * n) hu (by omega)
    rw [nI_ui] at h0
    rw [show (5 : Int32) = nI 5 from rfl, pk_mul, h0, p32, Nat.mul_comm n 5]
  rw [en_L_size, bk_L_size_0]
  have h : ∀ (j n : Nat), n + j = mny x → zev zC_L_size 2 ([some (zI x), some (zI (nI n))], [], M) = zs (nI (mny x)) M := by
    intro j
    induction j with
    | zero =>
      intro n e
      rw [bk_L_size_2]
      by_cases c : 6 ≤ n
      · rw [show (6 : Int32) = nI 6 from rfl, if_pos (nI_le c (by omega)), bk_L_size_22, show n = mny x by omega]
      · rw [show (6 : Int32) = nI 6 from rfl, if_neg (nI_ge (by omega) (by omega)), bk_L_size_8, sh n (by omega), if_pos (by
          rw [show n = mny x by omega, zmn_z 7 (ui x) (Nat.lt_of_lt_of_le (VL_ui hx) (by decide))]; rfl), bk_L_size_22, show n = mny x by omega]
    | succ j ih =>
      intro n e
      rw [bk_L_size_2, show (6 : Int32) = nI 6 from rfl, if_neg (nI_ge (by omega) (by omega)), bk_L_size_8, sh n (by omega), if_neg (nI_ne0 (zmn_nz 7 (ui x) n (show n < mny x by omega)) (Nat.lt_of_le_of_lt (Nat.div_le_self _ _) hu)), bk_L_size_16, nI_1]
      exact ih (n + 1) (by omega)
  exact h (mny x) 0 (by omega)
theorem lw_low (v : Int32) (n : Nat) (h0 : 0 < n) (hn : n < 2 ^ 31) (M : zM) : zd_L_low [zI v, zI (nI n)] M = zs (nI (ui v % 2 ^ 31 % n)) M := by
  rw [en_L_low, bk_L_low_0, if_neg (nI_ne0 h0 hn), bk_L_low_6, pk_and v 31 rfl]
  show zs (zrm (nI (ui v % 2 ^ 31)) (nI n)) M = _
  rw [show zrm (nI (ui v % 2 ^ 31)) (nI n) = nI (ui v % 2 ^ 31 % n) from pk_rem (Nat.mod_lt _ (by decide)) h0 hn]
theorem lw_cell {n : Nat} (j : Nat) (hj : j < 2 ^ 31) (hn : n < 2 ^ 31) (M : zM) (h42 : M.1 42 0 0 = nI n) : ∃ v, zd_L_cell [zR 41 0, zI (nI j)] M = zs v M := by
  rw [en_L_cell, bk_L_cell_0, h42]
  by_cases c : n ≤ j
  · rw [if_pos (nI_le c hj), bk_L_cell_12, bk_L_cell_18]
    exact ⟨_, rfl⟩
  · rw [if_neg (nI_ge (by omega) hn), bk_L_cell_6, h42, ix_cl hn, if_neg (ix_in (by omega) hn), bk_L_cell_9, bk_L_cell_18]
    exact ⟨_, rfl⟩
theorem lw_font (j : Nat) (h1 : 1 ≤ j) (h : j < 17) (M : zM) : zd_L_font [zI (nI j)] M = zs (zlf (nI j)) M := by
  rw [en_L_font]
  rcases (show j = 1 ∨ j = 2 ∨ j = 3 ∨ j = 4 ∨ j = 5 ∨ j = 6 ∨ j = 7 ∨ j = 8 ∨ j = 9 ∨ j = 10 ∨ j = 11 ∨ j = 12 ∨ j = 13 ∨ j = 14 ∨ j = 15 ∨ j = 16 by omega) with rfl | rfl | rfl | rfl | rfl | rfl | rfl | rfl | rfl | rfl | rfl | rfl | rfl | rfl | rfl | rfl
  · rw [bk_L_font_0, if_pos (by decide), bk_L_font_5, bk_L_font_75, if_neg (by decide), bk_L_font_82, bk_L_font_167]; rfl
  · rw [bk_L_font_0, if_neg (by decide), bk_L_font_11, if_pos (by decide), bk_L_font_16, bk_L_font_75, if_neg (by decide), bk_L_font_82, bk_L_font_167]; rfl
  · rw [bk_L_font_0, if_neg (by decide), bk_L_font_11, if_neg (by decide), bk_L_font_21, if_pos (by decide), bk_L_font_26, bk_L_font_75, if_neg (by decide), bk_L_font_82, bk_L_font_167]; rfl
  · rw [bk_L_font_0, if_neg (by decide), bk_L_font_11, if_neg (by decide), bk_L_font_21, if_neg (by decide), bk_L_font_31, if_pos (by decide), bk_L_font_36, bk_L_font_75, if_neg (by decide), bk_L_font_82, bk_L_font_167]; rfl
  · rw [bk_L_font_0, if_neg (by decide), bk_L_font_11, if_neg (by decide), bk_L_font_21, if_neg (by decide), bk_L_font_31, if_neg (by decide), bk_L_font_41, if_pos (by decide), bk_L_font_46, bk_L_font_75, if_neg (by decide), bk_L_font_82, bk_L_font_167]; rfl
  · rw [bk_L_font_0, if_neg (by decide), bk_L_font_11, if_neg (by decide), bk_L_font_21, if_neg (by decide), bk_L_font_31, if_neg (by decide), bk_L_font_41, if_neg (by decide), bk_L_font_51, if_pos (by decide), bk_L_font_57, bk_L_font_75, if_neg (by decide), bk_L_font_82, bk_L_font_167]; rfl
  · rw [bk_L_font_0, if_neg (by decide), bk_L_font_11, if_neg (by decide), bk_L_font_21, if_neg (by decide), bk_L_font_31, if_neg (by decide), bk_L_font_41, if_neg (by decide), bk_L_font_51, if_neg (by decide), bk_L_font_62, if_pos (by decide), bk_L_font_68, bk_L_font_75, if_neg (by decide), bk_L_font_82, bk_L_font_167]; rfl
  · rw [bk_L_font_0, if_neg (by decide), bk_L_font_11, if_neg (by decide), bk_L_font_21, if_neg (by decide), bk_L_font_31, if_neg (by decide), bk_L_font_41, if_neg (by decide), bk_L_font_51, if_neg (by decide), bk_L_font_62, if_neg (by decide), bk_L_font_73, bk_L_font_75, if_neg (by decide), bk_L_font_82, bk_L_font_167]; rfl
  all_goals
    rw [bk_L_font_0, if_neg (by decide), bk_L_font_11, if_neg (by decide), bk_L_font_21, if_neg (by decide), bk_L_font_31, if_neg (by decide), bk_L_font_41, if_neg (by decide), bk_L_font_51, if_neg (by decide), bk_L_font_62, if_neg (by decide), bk_L_font_73, bk_L_font_75, if_pos (by decide), bk_L_font_86]
  · rw [if_pos (by decide), bk_L_font_92, bk_L_font_167]; rfl
  · rw [if_neg (by decide), bk_L_font_97, if_pos (by decide), bk_L_font_103, bk_L_font_167]; rfl
  · rw [if_neg (by decide), bk_L_font_97, if_neg (by decide), bk_L_font_109, if_pos (by decide), bk_L_font_115, bk_L_font_167]; rfl
  · rw [if_neg (by decide), bk_L_font_97, if_neg (by decide), bk_L_font_109, if_neg (by decide), bk_L_font_120, if_pos (by decide), bk_L_font_126, bk_L_font_167]; rfl
  · rw [if_neg (by decide), bk_L_font_97, if_neg (by decide), bk_L_font_109, if_neg (by decide), bk_L_font_120, if_neg (by decide), bk_L_font_131, if_pos (by decide), bk_L_font_137, bk_L_font_167]; rfl
  · rw [if_neg (by decide), bk_L_font_97, if_neg (by decide), bk_L_font_109, if_neg (by decide), bk_L_font_120, if_neg (by decide), bk_L_font_131, if_neg (by decide), bk_L_font_142, if_pos (by decide), bk_L_font_148, bk_L_font_167]; rfl
  · rw [if_neg (by decide), bk_L_font_97, if_neg (by decide), bk_L_font_109, if_neg (by decide), bk_L_font_120, if_neg (by decide), bk_L_font_131, if_neg (by decide), bk_L_font_142, if_neg (by decide), bk_L_font_153, if_pos (by decide), bk_L_font_159, bk_L_font_167]; rfl
  · rw [if_neg (by decide), bk_L_font_97, if_neg (by decide), bk_L_font_109, if_neg (by decide), bk_L_font_120, if_neg (by decide), bk_L_font_131, if_neg (by decide), bk_L_font_142, if_neg (by decide), bk_L_font_153, if_neg (by decide), bk_L_font_165, bk_L_font_167]; rfl
theorem zshf_L : ∀ m, m < 7 → ∀ b, b < 2 → 1 ≤ m → (if (nI (zcol b) - (4 * nI m)) + 2 ≤ 0 then 0 else (nI (zcol b) - (4 * nI m)) + 2) = nI (zshf m b) := by decide +kernel
theorem lw_shifts {x : Int32} (hx : zVL x) (b : Nat) (hb : b < 2) (M : zM) : zd_L_shifts [zI x, zI (nI b)] M = zs (nI (zshf (mny x) b)) M := by
  have hm := VL_m hx
  rw [en_L_shifts, bk_L_shifts_0, zbi (lw_columns b hb M), bk_L_shifts_4, zbi (lw_size hx M), bk_L_shifts_9, ← zshf_L (mny x) (by omega) b hb hm.1]
  split
  · rw [bk_L_shifts_22, bk_L_shifts_23]
  · rw [bk_L_shifts_18, bk_L_shifts_23]
