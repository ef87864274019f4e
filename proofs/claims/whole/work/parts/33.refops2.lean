-- ===== the reference: words, settings, texts =====
theorem sp_type_bad (a : Int32) (M : zM) (h : ¬ (32 ≤ a ∧ a ≤ 126)) : zd_X8_type [zR 8 0, zI a] M = zs (-1000001) M := by
  rw [en_X8_type, bk_X8_type_0, zbi (sp_in _ _ _ _), bk_X8_type_8, if_pos (zb_0.mpr h), bk_X8_type_11]
theorem sp_type_full (a : Int32) (M : zM) (h : 32 ≤ a ∧ a ≤ 126) (h6 : M.1 8 0 6 = 60) : zd_X8_type [zR 8 0, zI a] M = zs (-1000003) M := by
  rw [en_X8_type, bk_X8_type_0, zbi (sp_in _ _ _ _), bk_X8_type_8, if_neg (zne0 h), bk_X8_type_14, if_pos h6, bk_X8_type_23]
theorem sp_type (a : Int32) (t : Nat) (ht : t < 60) (M : zM) (h : 32 ≤ a ∧ a ≤ 126) (h6 : M.1 8 0 6 = nI t) : zd_X8_type [zR 8 0, zI a] M = zs (nI (t + 1)) (zst (zst M.1 32 0 (upd (M.1 32 0) t a)) 8 0 (upd (M.1 8 0) 6 (nI (t + 1))), M.2) := by
  have e8 : (zst M.1 32 0 (upd (M.1 32 0) t a)) 8 0 = M.1 8 0 := zst_ne _ _ (by decide)
  rw [en_X8_type, bk_X8_type_0, zbi (sp_in _ _ _ _), bk_X8_type_8, if_neg (zne0 h), bk_X8_type_14, h6, if_neg (fun z => by have := (nI_eq (by omega) (by decide)).mp (show nI t = nI 60 from z); omega), bk_X8_type_26, h6, if_neg (ix_in ht (by decide)), ix_cl (by omega), bk_X8_type_36]
  dsimp only
  rw [e8, h6, nI_1, bk_X8_type_46]
  dsimp only
  rw [zst_self, upd_s]
theorem sp_clearText (M : zM) : zd_X8_clearText [zR 8 0] M = zs (M.1 8 0 6) (zst M.1 8 0 (upd (M.1 8 0) 6 0), M.2) := by
  rw [en_X8_clearText, bk_X8_clearText_0, bk_X8_clearText_10]
/-- a word comes -/
theorem sp_word_bad (x : Int32) (M : zM) (h : ¬ zVL x) : zd_X8_word [zR 8 0, zI x] M = zs (-1000001) M := by
  obtain ⟨v, h1, h2⟩ := sp_areLetters x M
  rw [en_X8_word, bk_X8_word_0, zbi h1, bk_X8_word_4, if_pos (h2.mpr h), bk_X8_word_7]
/-- the first of the words that has these letters -/
def zfw (σ : Nat → Int32) (x : Int32) : Nat → Bool
  | 0 => false
  | n + 1 => zfw σ x n || decide (σ (8 + 2 * n) = x)
theorem zfw_t (σ : Nat → Int32) (x : Int32) (n : Nat) : zfw σ x n = true ↔ ∃ k, k < n ∧ σ (8 + 2 * k) = x := by
  induction n with
  | zero => exact ⟨fun z => (by cases z), fun ⟨k, hk, _⟩ => absurd hk (Nat.not_lt_zero k)⟩
  | succ n ih =>
    rw [zfw, Bool.or_eq_true, ih, decide_eq_true_iff]
    constructor
    · rintro (⟨k, h1, h2⟩ | h)
      · exact ⟨k, by omega, h2⟩
      · exact ⟨n, by omega, h⟩
    · rintro ⟨k, h1, h2⟩
      rcases Nat.lt_or_ge k n with h | h
      · exact Or.inl ⟨k, h, h2⟩
      · exact Or.inr (by rw [show n = k by omega]; exact h2)
theorem sp_word_loop (x : Int32) (N : Nat) (hN : N ≤ 10) (M : zM) (hs : M.1 29 0 0 = nI N) : ∀ (j k : Nat), k + j = N → zfw (M.1 29 0) x k = false →
    zev zC_X8_word 12 ([some (zR 8 0), some (zI x), some (zI (nI k))], [], M) = if zfw (M.1 29 0) x N = true then zs (-1000002) M else zev zC_X8_word 40 ([some (zR 8 0), some (zI x), some (zI (nI N))], [], M) := by
  intro j
  induction j with
  | zero =>
    intro k hk hf
    rw [bk_X8_word_12, hs, if_pos (nI_le (by omega) (by omega)), show N = k by omega, hf, if_neg (by decide)]
  | succ j ih =>
    intro k hk hf
    rw [bk_X8_word_12, hs, if_neg (nI_ge (by omega) (by omega)), bk_X8_word_22, zbi (sp_letters k 0 (by omega) M), bk_X8_word_27]
    by_cases hc : M.1 29 0 (8 + 2 * k) = x
    · rw [if_pos hc, bk_X8_word_31, if_pos ((zfw_t _ _ _).mpr ⟨k, by omega, hc⟩)]
    · rw [if_neg hc, bk_X8_word_34, nI_1]
      exact ih (k + 1) (by omega) (by rw [zfw, hf, decide_eq_false hc]; rfl)
theorem sp_word_same (x : Int32) (N : Nat) (hN : N ≤ 10) (M : zM) (hs : M.1 29 0 0 = nI N) (hx : zVL x) (hf : zfw (M.1 29 0) x N = true) : zd_X8_word [zR 8 0, zI x] M = zs (-1000002) M := by
  obtain ⟨v, h1, h2⟩ := sp_areLetters x M
  rw [en_X8_word, bk_X8_word_0, zbi h1, bk_X8_word_4, if_neg (fun z => h2.mp z hx), bk_X8_word_10, show (0 : Int32) = nI 0 from rfl, sp_word_loop x N hN M hs N 0 (by omega) rfl, if_pos hf]
theorem sp_word_full (x : Int32) (M : zM) (hs : M.1 29 0 0 = nI 10) (hx : zVL x) (hf : zfw (M.1 29 0) x 10 = false) : zd_X8_word [zR 8 0, zI x] M = zs (-1000003) M := by
  obtain ⟨v, h1, h2⟩ := sp_areLetters x M
  rw [en_X8_word, bk_X8_word_0, zbi h1, bk_X8_word_4, if_neg (fun z => h2.mp z hx), bk_X8_word_10, show (0 : Int32) = nI 0 from rfl, sp_word_loop x 10 (by omega) M hs 10 0 (by omega) rfl, hf, if_neg (by decide), bk_X8_word_40, hs, if_pos (show nI 10 = 10 from rfl), bk_X8_word_53]
/-- s with a word more -/
def zwd (σ : Nat → Int32) (x : Int32) (N : Nat) : Nat → Int32 := upd (upd (upd σ (8 + 2 * N) x) (9 + 2 * N) 0) 0 (nI (N + 1))
theorem sp_word (x : Int32) (N : Nat) (hN : N < 10) (M : zM) (hs : M.1 29 0 0 = nI N) (hx : zVL x) (hf : zfw (M.1 29 0) x N = false) (hh : zHx M) : ∃ M', zd_X8_word [zR 8 0, zI x] M = zs (nI N) M' ∧ zOp M M' ∧ M'.1 29 0 = zwd (M.1 29 0) x N := by
  obtain ⟨v, h1, h2⟩ := sp_areLetters x M
  obtain ⟨M1, k1, k2⟩ := sp_chg M hh
  have e8 : (8 : Int32) + (2 * nI N) = nI (8 + 2 * N) := by rw [← nI_add, ← pk_mul]; rfl
  refine ⟨(zst M1.1 29 0 (zwd (M.1 29 0) x N), M1.2), ?_, zOp.of (zRf.rf M) k2 ((zRs.rf M1).st _), zst_self M1.1 29 0 (zwd (M.1 29 0) x N)⟩
  rw [en_X8_word, bk_X8_word_0, zbi h1, bk_X8_word_4, if_neg (fun z => h2.mp z hx), bk_X8_word_10, show (0 : Int32) = nI 0 from rfl, sp_word_loop x N (by omega) M hs N 0 (by omega) rfl, hf, if_neg (by decide), bk_X8_word_40, hs, if_neg (fun z => by have := (nI_eq (by omega) (by decide)).mp (show nI N = nI 10 from z); omega), bk_X8_word_56, zbv k1, bk_X8_word_60, e8, if_neg (ix_in (by omega) (by decide)), ix_cl (by omega), bk_X8_word_72, e8, nI_1, if_neg (ix_in (by omega) (by decide)), ix_cl (by omega), bk_X8_word_86, bk_X8_word_96]
  dsimp only
  rw [zst_zst, zst_self, zst_zst, zst_self, k2.s, upd_n (by omega), upd_n (by omega), hs, nI_1]
  unfold zwd
  rw [show 8 + 2 * N + 1 = 9 + 2 * N by omega]
/-- a word goes -/
theorem sp_unword_bad (w : Int32) (M : zM) (h : ¬ zVW M w) : zd_X8_unword [zR 8 0, zI w] M = zs (-1000001) M := by
  rw [en_X8_unword, bk_X8_unword_0, zbi (sp_isWord _ _ _), bk_X8_unword_5, if_pos (zb_0.mpr h), bk_X8_unword_8]
/-- s with a word less: n of them before -/
def zuw (σ : Nat → Int32) (w n : Nat) : Nat → Int32 := fun j => if j = 0 then nI n else if 8 + 2 * w ≤ j ∧ j < 8 + 2 * n then σ (j + 2) else σ j
theorem sp_unword_loop (w n : Nat) (hn : n < 10) (hw : w ≤ n) (σ : Nat → Int32) (M0 : zM) : ∀ (j k : Nat) (d : Option zV), 8 + 2 * w ≤ k → k + j = 8 + 2 * n →
    zev zC_X8_unword 32 ([some (zR 8 0), d, some (zI (nI k))], [], (zst M0.1 29 0 (fun j => if j = 0 then nI n else if 8 + 2 * w ≤ j ∧ j < k then σ (j + 2) else σ j), M0.2)) = zs (nI n) (zst M0.1 29 0 (zuw σ w n), M0.2) := by
  intro j
  induction j with
  | zero =>
    intro k d hk1 hk
    have e : (8 : Int32) + (2 * nI n) = nI (8 + 2 * n) := by rw [← nI_add, ← pk_mul]; rfl
    rw [bk_X8_unword_32]
    simp only [zst_self, if_true, e]
    rw [if_pos (nI_le (by omega) (by omega)), bk_X8_unword_67]
    dsimp only
    rw [zst_self, if_pos rfl]
    unfold zuw
    rw [show k = 8 + 2 * n by omega]
  | succ j ih =>
    intro k d hk1 hk
    have e : (8 : Int32) + (2 * nI n) = nI (8 + 2 * n) := by rw [← nI_add, ← pk_mul]; rfl
    have e2 : nI k + 2 = nI (k + 2) := nI_add k 2
    rw [bk_X8_unword_32]
    simp only [zst_self, if_true, e]
    rw [if_neg (nI_ge (by omega) (by omega)), bk_X8_unword_47, e2, if_neg (ix_in (by omega) (by decide)), ix_cl (by omega)]
    dsimp only
    rw [zst_self, if_neg (by omega), if_neg (by omega), bk_X8_unword_60, if_neg (ix_in (by omega) (by decide)), ix_cl (by omega), bk_X8_unword_61, nI_1]
    dsimp only
    rw [zst_zst, zst_self]
    rw [← ih (k + 1) none (by omega) (by omega)]
    congr 5
    funext i
    by_cases hi : i = k
    · subst hi
      rw [upd_s, if_neg (by omega), if_pos (by omega)]
    · rw [upd_n hi]
      by_cases h0 : i = 0
      · rw [if_pos h0, if_pos h0]
      · rw [if_neg h0, if_neg h0]
        by_cases h1 : 8 + 2 * w ≤ i ∧ i < k
        · rw [if_pos h1, if_pos (by omega)]
        · rw [if_neg h1, if_neg (by omega)]
theorem sp_unword (w n : Nat) (hn : n < 10) (hw : w ≤ n) (M : zM) (hs : M.1 29 0 0 = nI (n + 1)) (hh : zHx M) : ∃ M', zd_X8_unword [zR 8 0, zI (nI w)] M = zs (nI n) M' ∧ zOp M M' ∧ M'.1 29 0 = zuw (M.1 29 0) w n := by
  obtain ⟨M1, k1, k2⟩ := sp_chg M hh
  have e : (8 : Int32) + (2 * nI w) = nI (8 + 2 * w) := by rw [← nI_add, ← pk_mul]; rfl
  refine ⟨(zst M1.1 29 0 (zuw (M.1 29 0) w n), M1.2), ?_, zOp.of (zRf.rf M) k2 ((zRs.rf M1).st _), zst_self M1.1 29 0 (zuw (M.1 29 0) w n)⟩
  rw [en_X8_unword, bk_X8_unword_0, zbi (sp_isWord _ _ _), bk_X8_unword_5, if_neg (zne0 (zVW_nI hs (by omega) (by omega))), bk_X8_unword_11, zbv k1, bk_X8_unword_15, bk_X8_unword_25, e, k2.s, hs, nI_pred]
  rw [← sp_unword_loop w n hn hw (M.1 29 0) M1 (2 * n - 2 * w) (8 + 2 * w) (some (zI (nI w))) (by omega) (by omega)]
  congr 5
  funext j
  by_cases hj : j = 0
  · subst hj; rw [upd_s, if_pos rfl]
  · rw [upd_n hj, if_neg hj, if_neg (by omega)]
/-- a setting -/
theorem sp_set_bad (i v : Int32) (M : zM) (h : ¬ ((0 ≤ i ∧ i ≤ 1) ∧ i + 1 ≤ v ∧ v ≤ (if i = 0 then 9 else 99))) : zd_X8_set [zR 8 0, zI i, zI v] M = zs (-1000001) M := by
  rw [en_X8_set, bk_X8_set_0, zbi (sp_in _ _ _ _), bk_X8_set_6]
  by_cases h1 : 0 ≤ i ∧ i ≤ 1
  · rw [if_neg (zne0 h1), bk_X8_set_9]
    by_cases h2 : i = 0
    · rw [if_pos h2] at h ⊢
      rw [bk_X8_set_17, bk_X8_set_24, zbi (sp_in _ _ _ _), bk_X8_set_27, if_pos (zb_0.mpr (fun z => h ⟨h1, z⟩)), bk_X8_set_30]
    · rw [if_neg h2] at h ⊢
      rw [bk_X8_set_22, bk_X8_set_24, zbi (sp_in _ _ _ _), bk_X8_set_27, if_pos (zb_0.mpr (fun z => h ⟨h1, z⟩)), bk_X8_set_30]
  · rw [if_pos (zb_0.mpr h1), bk_X8_set_30]
theorem sp_set (i : Nat) (v : Int32) (hi : i < 2) (M : zM) (h : nI i + 1 ≤ v ∧ v ≤ (if i = 0 then 9 else 99)) (hh : zHx M) : ∃ M', zd_X8_set [zR 8 0, zI (nI i), zI v] M = zs (M.1 29 0 (6 + i)) M' ∧ zOp M M' ∧ M'.1 29 0 = upd (M.1 29 0) (6 + i) v := by
  obtain ⟨M1, k1, k2⟩ := sp_chg M hh
  have e : (6 : Int32) + nI i = nI (6 + i) := by rw [← nI_add]; rfl
  have h33 : zev zC_X8_set 33 ([some (zR 8 0), some (zI (nI i)), some (zI v), none], [], M) = zs (M.1 29 0 (6 + i)) (zst M1.1 29 0 (upd (M.1 29 0) (6 + i) v), M1.2) := by
    rw [bk_X8_set_33, zbv k1, bk_X8_set_37, e, if_neg (ix_in (by omega) (by decide)), ix_cl (by omega), bk_X8_set_46, e, if_neg (ix_in (by omega) (by decide)), ix_cl (by omega), bk_X8_set_57, k2.s]
  refine ⟨(zst M1.1 29 0 (upd (M.1 29 0) (6 + i) v), M1.2), ?_, zOp.of (zRf.rf M) k2 ((zRs.rf M1).st _), zst_self M1.1 29 0 (upd (M.1 29 0) (6 + i) v)⟩
  rw [en_X8_set, bk_X8_set_0, zbi (sp_in _ _ _ _), bk_X8_set_6, if_neg (zne0 (zVB_nI i hi)), bk_X8_set_9]
  by_cases h2 : i = 0
  · subst h2
    rw [if_pos rfl] at h
    rw [if_pos (show nI 0 = 0 from rfl), bk_X8_set_17, bk_X8_set_24, zbi (sp_in _ _ _ _), bk_X8_set_27, if_neg (zne0 h)]
    exact h33
  · rw [if_neg h2] at h
    rw [if_neg (show ¬ nI i = 0 from fun z => h2 ((nI_eq (by omega) (by decide)).mp (show nI i = nI 0 from z))), bk_X8_set_22, bk_X8_set_24, zbi (sp_in _ _ _ _), bk_X8_set_27, if_neg (zne0 h)]
    exact h33
