-- ===== the reference: history =====
def zcq (f g : Nat → Int32) (B n : Nat) : Nat → Int32 := fun j => if B ≤ j ∧ j < B + n then f (j - B) else g j
theorem zcq_s (f g : Nat → Int32) (B n : Nat) : upd (zcq f g B n) (B + n) (f n) = zcq f g B (n + 1) := by
  funext j
  by_cases h : j = B + n
  · subst h
    rw [upd_s]
    unfold zcq
    rw [if_pos (by omega), show B + n - B = n by omega]
  · rw [upd_n h]
    unfold zcq
    by_cases h1 : B ≤ j ∧ j < B + n
    · rw [if_pos h1, if_pos (by omega)]
    · rw [if_neg h1, if_neg (by omega)]
theorem zcq_0 (f g : Nat → Int32) (B : Nat) : zcq f g B 0 = g := by funext j; unfold zcq; rw [if_neg (by omega)]
/-- a state more in the history: p of them before -/
def zCh (M M' : zM) (p : Nat) : Prop :=
  M'.2 = M.2 ∧ (∀ c n, c ≠ 30 → c ≠ 8 → M'.1 c n = M.1 c n) ∧ (∀ k, k ≠ 3 → M'.1 8 0 k = M.1 8 0 k) ∧ M'.1 8 0 3 = nI (Nat.min (p + 1) 4) ∧
  (∀ j, j < 228 → M'.1 30 0 (228 * (Nat.min (p + 1) 4 - 1) + j) = M.1 29 0 j) ∧
  ∀ i j, i < Nat.min (p + 1) 4 - 1 → j < 228 → M'.1 30 0 (228 * i + j) = M.1 30 0 (228 * (i + (p + 1 - Nat.min (p + 1) 4)) + j)
theorem sp_ch_copy (p : Nat) (hp : p ≤ 3) (d : Option zV) (M0 : zM) (h3 : M0.1 8 0 3 = nI p) : zev zC_X8_changes 57 ([some (zR 8 0), d], [], M0) = some (none, (zst (zst M0.1 30 0 (zcq (M0.1 29 0) (M0.1 30 0) (228 * p) 228)) 8 0 (upd (M0.1 8 0) 3 (nI (p + 1))), M0.2)) := by
  have key : ∀ (j k : Nat), k + j = 228 → zev zC_X8_changes 59 ([some (zR 8 0), some (zI (nI k))], [], (zst M0.1 30 0 (zcq (M0.1 29 0) (M0.1 30 0) (228 * p) k), M0.2)) = some (none, (zst (zst M0.1 30 0 (zcq (M0.1 29 0) (M0.1 30 0) (228 * p) 228)) 8 0 (upd (M0.1 8 0) 3 (nI (p + 1))), M0.2)) := by
    intro j
    induction j with
    | zero =>
      intro k hk
      have e8 : ∀ f : Nat → Int32, (zst M0.1 30 0 f) 8 0 = M0.1 8 0 := fun f => zst_ne _ _ (by decide)
      rw [bk_X8_changes_59, show (228 : Int32) = nI 228 from rfl, if_pos (nI_le (by omega) (by omega)), bk_X8_changes_93, bk_X8_changes_103]
      dsimp only
      rw [e8, h3, nI_1, show k = 228 by omega]
    | succ j ih =>
      intro k hk
      have e1 : ∀ f : Nat → Int32, (zst M0.1 30 0 f) 29 0 = M0.1 29 0 := fun f => zst_ne _ _ (by decide)
      have e8 : ∀ f : Nat → Int32, (zst M0.1 30 0 f) 8 0 = M0.1 8 0 := fun f => zst_ne _ _ (by decide)
      have e2 : (nI 228 * nI p) + nI k = nI (228 * p + k) := by rw [← nI_add, ← pk_mul]
      rw [bk_X8_changes_59, show (228 : Int32) = nI 228 from rfl, if_neg (nI_ge (by omega) (by omega)), bk_X8_changes_66, if_neg (ix_in (by omega) (by decide)), ix_cl (by omega)]
      dsimp only
      rw [e8, e1, h3, show (228 : Int32) = nI 228 from rfl, e2, bk_X8_changes_86, if_neg (ix_in (by omega) (by decide)), ix_cl (by omega), bk_X8_changes_87, nI_1]
      dsimp only
      rw [zst_zst, zst_self, zcq_s]
      exact ih (k + 1) (by omega)
  rw [bk_X8_changes_57, show (0 : Int32) = nI 0 from rfl]
  have h := key 228 0 rfl
  rw [zcq_0, zst_eta] at h
  exact h
theorem sp_ch_shift (M0 : zM) : ∀ (j k : Nat), k + j = 684 → zev zC_X8_changes 18 ([some (zR 8 0), some (zI (nI k))], [], (zst M0.1 30 0 (zcy (fun j => M0.1 30 0 (j + 228)) (M0.1 30 0) k), M0.2)) = zev zC_X8_changes 47 ([some (zR 8 0), some (zI (nI 684))], [], (zst M0.1 30 0 (zcy (fun j => M0.1 30 0 (j + 228)) (M0.1 30 0) 684), M0.2)) := by
  intro j
  induction j with
  | zero =>
    intro k hk
    rw [bk_X8_changes_18, show (684 : Int32) = nI 684 from rfl, if_pos (nI_le (by omega) (by omega)), show k = 684 by omega]
  | succ j ih =>
    intro k hk
    have e2 : nI k + 228 = nI (k + 228) := nI_add k 228
    have e3 : zcy (fun j => M0.1 30 0 (j + 228)) (M0.1 30 0) k (k + 228) = M0.1 30 0 (k + 228) := by unfold zcy; rw [if_neg (by omega)]
    rw [bk_X8_changes_18, show (684 : Int32) = nI 684 from rfl, if_neg (nI_ge (by omega) (by omega)), bk_X8_changes_25, e2, if_neg (ix_in (by omega) (by decide)), ix_cl (by omega)]
    dsimp only
    rw [zst_self, e3, bk_X8_changes_40, if_neg (ix_in (by omega) (by decide)), ix_cl (by omega), bk_X8_changes_41, nI_1]
    dsimp only
    rw [zst_zst, zst_self]
    have h := zcy_s (fun j => M0.1 30 0 (j + 228)) (M0.1 30 0) k
    try dsimp only at h
    rw [h]
    exact ih (k + 1) (by omega)
theorem sp_changes_r (M : zM) (hr : ¬ M.1 8 0 4 = 0) : zd_X8_changes [zR 8 0] M = some (none, M) := by
  rw [en_X8_changes, bk_X8_changes_0, if_neg hr, bk_X8_changes_7]
theorem sp_changes (p : Nat) (hp : p ≤ 4) (M : zM) (hr : M.1 8 0 4 = 0) (h3 : M.1 8 0 3 = nI p) : ∃ M', zd_X8_changes [zR 8 0] M = some (none, M') ∧ zCh M M' p := by
  rw [en_X8_changes, bk_X8_changes_0, if_pos hr, bk_X8_changes_8, h3, show (4 : Int32) = nI 4 from rfl]
  by_cases h4 : p = 4
  · subst h4
    refine ⟨(zst (zst (zst M.1 30 0 (zcy (fun j => M.1 30 0 (j + 228)) (M.1 30 0) 684)) 8 0 (upd (M.1 8 0) 3 (nI 3))) 30 0 (zcq (M.1 29 0) (zcy (fun j => M.1 30 0 (j + 228)) (M.1 30 0) 684) 684 228), M.2).1 |> fun f => (zst f 8 0 (upd (M.1 8 0) 3 (nI 4)), M.2), ?_, rfl, fun c n h1 h2 => ?_, fun k hk => ?_, ?_, fun j hj => ?_, fun i j hi hj => ?_⟩
    · rw [if_pos rfl, bk_X8_changes_16]
      have h := sp_ch_shift M 684 0 rfl
      rw [zcy_0, zst_eta] at h
      rw [show (0 : Int32) = nI 0 from rfl]
      refine Eq.trans h ?_
      have e8 : ∀ f : Nat → Int32, (zst M.1 30 0 f) 8 0 = M.1 8 0 := fun f => zst_ne _ _ (by decide)
      rw [bk_X8_changes_47]
      dsimp only
      rw [e8, h3, show nI 4 - 1 = nI 3 from rfl]
      have h5 := sp_ch_copy 3 (by omega) none (zst (zst M.1 30 0 (zcy (fun j => M.1 30 0 (j + 228)) (M.1 30 0) 684)) 8 0 (upd (M.1 8 0) 3 (nI 3)), M.2) (by
        dsimp only
        rw [zst_self, upd_s])
      refine Eq.trans h5 ?_
      have a1 : (zst (zst M.1 30 0 (zcy (fun j => M.1 30 0 (j + 228)) (M.1 30 0) 684)) 8 0 (upd (M.1 8 0) 3 (nI 3))) 29 0 = M.1 29 0 := by rw [zst_ne _ _ (by decide), zst_ne _ _ (by decide)]
      have a2 : (zst (zst M.1 30 0 (zcy (fun j => M.1 30 0 (j + 228)) (M.1 30 0) 684)) 8 0 (upd (M.1 8 0) 3 (nI 3))) 30 0 = zcy (fun j => M.1 30 0 (j + 228)) (M.1 30 0) 684 := by rw [zst_ne _ _ (by decide), zst_self]
      have a3 : upd ((zst (zst M.1 30 0 (zcy (fun j => M.1 30 0 (j + 228)) (M.1 30 0) 684)) 8 0 (upd (M.1 8 0) 3 (nI 3))) 8 0) 3 (nI (3 + 1)) = upd (M.1 8 0) 3 (nI 4) := by
        rw [zst_self]
        funext k
        by_cases hk : k = 3
        · subst hk; rw [upd_s, upd_s]
        · rw [upd_n hk, upd_n hk, upd_n hk]
      dsimp only
      rw [a1, a2, a3]
    · dsimp only
      rw [zst_ne _ _ (fun z => h2 z.1), zst_ne _ _ (fun z => h1 z.1), zst_ne _ _ (fun z => h2 z.1), zst_ne _ _ (fun z => h1 z.1)]
    · dsimp only
      rw [zst_self, upd_n hk]
    · dsimp only
      rw [zst_self, upd_s]; rfl
    · dsimp only
      rw [zst_ne _ _ (by decide), zst_self]
      have e : 228 * (Nat.min (4 + 1) 4 - 1) + j = 684 + j := by rw [show Nat.min (4 + 1) 4 = 4 from rfl]
      unfold zcq
      rw [e, if_pos (by omega), show 684 + j - 684 = j by omega]
    · dsimp only
      rw [show Nat.min (4 + 1) 4 = 4 from rfl] at hi ⊢
      rw [zst_ne _ _ (by decide), zst_self]
      unfold zcq zcy
      rw [if_neg (by omega), if_pos (by omega)]
      dsimp only
      rw [show 228 * i + j + 228 = 228 * (i + (4 + 1 - 4)) + j by omega]
  · have hmin : Nat.min (p + 1) 4 = p + 1 := Nat.min_eq_left (by omega)
    refine ⟨(zst (zst M.1 30 0 (zcq (M.1 29 0) (M.1 30 0) (228 * p) 228)) 8 0 (upd (M.1 8 0) 3 (nI (p + 1))), M.2), ?_, rfl, fun c n h1 h2 => ?_, fun k hk => ?_, ?_, fun j hj => ?_, fun i j hi hj => ?_⟩
    · rw [if_neg (fun z => h4 ((nI_eq (by omega) (by omega)).mp z))]
      exact sp_ch_copy p (by omega) none M h3
    · dsimp only
      rw [zst_ne _ _ (fun z => h2 z.1), zst_ne _ _ (fun z => h1 z.1)]
    · dsimp only
      rw [zst_self, upd_n hk]
    · dsimp only
      rw [zst_self, upd_s, hmin]
    · dsimp only
      rw [zst_ne _ _ (by decide), zst_self, hmin]
      unfold zcq
      rw [show p + 1 - 1 = p by omega, if_pos (by omega), show 228 * p + j - 228 * p = j by omega]
    · dsimp only
      rw [hmin] at hi ⊢
      rw [zst_ne _ _ (by decide), zst_self]
      unfold zcq
      rw [if_neg (by omega), show i + (p + 1 - (p + 1)) = i by omega]
/-- one state less -/
theorem sp_undo_0 (M : zM) (h3 : M.1 8 0 3 = 0) : zd_X8_undo [zR 8 0] M = zs (-1000002) M := by
  rw [en_X8_undo, bk_X8_undo_0, if_pos h3, bk_X8_undo_7]
theorem sp_undo (p : Nat) (hp : p < 4) (M : zM) (h3 : M.1 8 0 3 = nI (p + 1)) : zd_X8_undo [zR 8 0] M = zs (nI p) (zst (zst M.1 8 0 (upd (M.1 8 0) 3 (nI p))) 29 0 (zcy (fun j => M.1 30 0 (228 * p + j)) (M.1 29 0) 228), M.2) := by
  have key : ∀ (j k : Nat), k + j = 228 → zev zC_X8_undo 22 ([some (zR 8 0), some (zI (nI k))], [], (zst (zst M.1 8 0 (upd (M.1 8 0) 3 (nI p))) 29 0 (zcy (fun j => M.1 30 0 (228 * p + j)) (M.1 29 0) k), M.2)) = zs (nI p) (zst (zst M.1 8 0 (upd (M.1 8 0) 3 (nI p))) 29 0 (zcy (fun j => M.1 30 0 (228 * p + j)) (M.1 29 0) 228), M.2) := by
    have e8 : ∀ f : Nat → Int32, (zst (zst M.1 8 0 (upd (M.1 8 0) 3 (nI p))) 29 0 f) 8 0 3 = nI p := fun f => by rw [zst_ne _ _ (by decide), zst_self, upd_s]
    have e30 : ∀ f : Nat → Int32, (zst (zst M.1 8 0 (upd (M.1 8 0) 3 (nI p))) 29 0 f) 30 0 = M.1 30 0 := fun f => by rw [zst_ne _ _ (by decide), zst_ne _ _ (by decide)]
    intro j
    induction j with
    | zero =>
      intro k hk
      rw [bk_X8_undo_22, show (228 : Int32) = nI 228 from rfl, if_pos (nI_le (by omega) (by omega)), bk_X8_undo_56]
      dsimp only
      rw [e8, show k = 228 by omega]
    | succ j ih =>
      intro k hk
      have e2 : (nI 228 * nI p) + nI k = nI (228 * p + k) := by rw [← nI_add, ← pk_mul]
      rw [bk_X8_undo_22, show (228 : Int32) = nI 228 from rfl, if_neg (nI_ge (by omega) (by omega)), bk_X8_undo_29]
      dsimp only
      simp only [e8, show (228 : Int32) = nI 228 from rfl, e2]
      rw [if_neg (ix_in (by omega) (by decide)), ix_cl (by omega), e30, bk_X8_undo_49, if_neg (ix_in (by omega) (by decide)), ix_cl (by omega), bk_X8_undo_50, nI_1]
      dsimp only
      rw [zst_zst, zst_self]
      have h := zcy_s (fun j => M.1 30 0 (228 * p + j)) (M.1 29 0) k
      try dsimp only at h
      rw [h]
      exact ih (k + 1) (by omega)
  have e1 : nI (p + 1) - 1 = nI p := nI_pred p
  rw [en_X8_undo, bk_X8_undo_0, h3, if_neg (nI_ne0 (by omega) (by omega)), bk_X8_undo_10, h3, e1, bk_X8_undo_20, show (0 : Int32) = nI 0 from rfl]
  have h := key 228 0 rfl
  have e29 : zst M.1 8 0 (upd (M.1 8 0) 3 (nI p)) 29 0 = M.1 29 0 := zst_ne _ _ (by decide)
  rw [zcy_0, ← e29, zst_eta, e29] at h
  exact h
