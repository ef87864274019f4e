-- ===== the reference: calls that change =====
/-- what became of the history -/
def zHi (M M' : zM) : Prop := (¬ M.1 8 0 4 = 0 ∧ M'.1 8 0 3 = M.1 8 0 3 ∧ M'.1 30 0 = M.1 30 0) ∨
  (M.1 8 0 4 = 0 ∧ ∃ p, p ≤ 4 ∧ M.1 8 0 3 = nI p ∧ M'.1 8 0 3 = nI (Nat.min (p + 1) 4) ∧ (∀ j, j < 228 → M'.1 30 0 (228 * (Nat.min (p + 1) 4 - 1) + j) = M.1 29 0 j) ∧
    ∀ i j, i < Nat.min (p + 1) 4 - 1 → j < 228 → M'.1 30 0 (228 * i + j) = M.1 30 0 (228 * (i + (p + 1 - Nat.min (p + 1) 4)) + j))
def zOp (M M' : zM) : Prop := M'.2 = M.2 ∧ (∀ c n, c ≠ 29 → c ≠ 30 → c ≠ 33 → c ≠ 31 → c ≠ 31 → c ≠ 33 → c ≠ 8 → M'.1 c n = M.1 c n) ∧ (∀ k, k ≠ 9 → k ≠ 3 → M'.1 8 0 k = M.1 8 0 k) ∧ zHi M M'
/-- s and scratch differ -/
def zRs (M M' : zM) : Prop := M'.2 = M.2 ∧ (∀ c n, c ≠ 29 → c ≠ 33 → c ≠ 31 → c ≠ 31 → c ≠ 33 → c ≠ 8 → M'.1 c n = M.1 c n) ∧ ∀ k, k ≠ 9 → M'.1 8 0 k = M.1 8 0 k
theorem zRs.rf (M : zM) : zRs M M := ⟨rfl, fun _ _ _ _ _ _ _ _ => rfl, fun _ _ => rfl⟩
theorem zRs.tr {M M' M'' : zM} (h : zRs M M') (h' : zRs M' M'') : zRs M M'' := ⟨h'.1.trans h.1, fun c n a b d e f g => (h'.2.1 c n a b d e f g).trans (h.2.1 c n a b d e f g), fun k hk => (h'.2.2 k hk).trans (h.2.2 k hk)⟩
-- letters
def zlok : Nat → Nat → Bool
  | 0, _ => true
  | n + 1, u => if u = 0 then true else (decide (1 ≤ u % 32) && decide (u % 32 ≤ 16)) && zlok n (u / 32)
/-- letters as the document wants them -/
def zVL (x : Int32) : Prop := 0 < x ∧ x < 1073741824 ∧ zlok 6 (ui x) = true
theorem pos_ui {x : Int32} (h : 0 < x) : ∃ n, n < 2 ^ 31 ∧ 0 < n ∧ x = nI n := by
  obtain ⟨j, h1, h2⟩ := nI_of (x := x) (fun z => by rw [i_lt] at h z; omega)
  refine ⟨j, h1, ?_, h2⟩
  rcases Nat.eq_zero_or_pos j with h0 | h0
  · rw [h2, h0] at h; exact absurd h (by decide)
  · exact h0
theorem zus_nI {n : Nat} (h : n < 2 ^ 32) : zus (nI n) 5 = nI (n / 32) := ui_inj (by rw [ui_s5, ui_nI h, ui_nI (by omega)])
