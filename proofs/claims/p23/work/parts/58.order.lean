-- ===== the class: an order of the text is read =====
/-- while an order is read from st: it is read as far as q -/
def zCr (M0 M : zM) (st q : Nat) (wh kd : Int32) : Prop := M.2 = M0.2 ∧ (∀ c n, ¬ (c = 3 ∧ n = 0) → ¬ (c = 27 ∧ n = 0) → M.1 c n = M0.1 c n) ∧ M.1 3 0 3 = nI (q - st) ∧ M.1 3 0 4 = wh ∧ M.1 3 0 0 = kd
