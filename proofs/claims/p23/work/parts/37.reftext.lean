-- ===== the reference: an order of the text is read =====
/-- while an order is read: spot p, numbers f, order o -/
def zRd (M M' : zM) (p : Nat) (f : Nat → Int32) (o : Int32) : Prop := M'.2 = M.2 ∧ (∀ c n, ¬ (c = 34 ∧ n = 0) → ¬ (c = 8 ∧ n = 0) → M'.1 c n = M.1 c n) ∧ (∀ k, k ≠ 10 → k ≠ 15 → M'.1 8 0 k = M.1 8 0 k) ∧ M'.1 8 0 10 = nI p ∧ M'.1 34 0 = f ∧ M'.1 8 0 15 = o
theorem zbI_f : zbI false = 0 := rfl
theorem zbI_n : ¬ zbI true = 0 := by decide
