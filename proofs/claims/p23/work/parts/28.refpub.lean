-- ===== the reference: calls that only tell =====
abbrev zVB (a : Int32) : Prop := 0 ≤ a ∧ a ≤ 1
theorem zVB_nI : ∀ b, b < 2 → zVB (nI b) := by decide
theorem zVB_of {a : Int32} (h : zVB a) : ∃ b, b < 2 ∧ a = nI b := by
  obtain ⟨h1, h2⟩ := h
  obtain ⟨j, h3, h4⟩ := nI_of2 (M := 1) (n := 1) rfl (i_le.mp h1) h2
  exact ⟨j, by omega, h4⟩
theorem z_of {a : Int32} {n : Nat} (hn : n < 2 ^ 31) (h : 0 ≤ a ∧ a < nI n) : ∃ k, k < n ∧ a = nI k := by
  obtain ⟨h1, h2⟩ := h
  obtain ⟨j, h3, h4⟩ := nI_of (i_le.mp h1)
  refine ⟨j, ?_, h4⟩
  rw [h4, nI_ltI h3 hn] at h2
  exact h2
theorem zne0 {p : Prop} [Decidable p] (h : p) : ¬ zb p = 0 := by rw [zb_0]; exact fun z => z h
