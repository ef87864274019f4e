-- ===== the reference: words, settings, texts =====
/-- the first of the words that has these letters -/
def zfw (σ : Nat → Int32) (x : Int32) : Nat → Bool
  | 0 => false
  | n + 1 => zfw σ x n || decide (σ (8 + 2 * n) = x)
theorem zfw_t (σ : Nat → Int32) (x : Int32) (n : Nat) : zfw σ x n = true ↔ ∃ k, k < n ∧ σ (8 + 2 * k) = x := by
  induction n with
  | zero => exact ⟨fun z => (by cases z), fun ⟨k, hk, _⟩ => absurd hk (Nat.not_lt_zero k)⟩
  | succ n ih =>
    rw [zfw, Bool.or_eq_true, ih, decide_eq_true_iff]
    constructor
    · rintro (⟨k, h1, h2⟩ | h)
      · exact ⟨k, by omega, h2⟩
      · exact ⟨n, by omega, h⟩
    · rintro ⟨k, h1, h2⟩
      rcases Nat.lt_or_ge k n with h | h
      · exact Or.inl ⟨k, h, h2⟩
      · exact Or.inr (by rw [show n = k by omega]; exact h2)
/-- s with a word more -/
def zwd (σ : Nat → Int32) (x : Int32) (N : Nat) : Nat → Int32 := upd (upd (upd σ (8 + 2 * N) x) (9 + 2 * N) 0) 0 (nI (N + 1))
/-- s with a word less: n of them before -/
def zuw (σ : Nat → Int32) (w n : Nat) : Nat → Int32 := fun j => if j = 0 then nI n else if 8 + 2 * w ≤ j ∧ j < 8 + 2 * n then σ (j + 2) else σ j
