-- ===== both objects side by side =====
/-- a step of the reference -/
def zFr8 (M M' : zM) : Prop := M'.2 = M.2 ∧ ∀ c m, c ≠ 8 → ¬ (29 ≤ c ∧ c ≤ 35) → M'.1 c m = M.1 c m
theorem zCS.cg {M : zM} {σ σ' : Nat → Int32} {p : Nat} {P P' : Nat → Nat → Int32} (h : zCS M σ p P) (e : ∀ j, j < 228 → σ' j = σ j) (e2 : ∀ i j, i < p → j < 228 → P' i j = P i j) : zCS M σ' p P' := by
  obtain ⟨h1, h2, h3, ad, h4, h7⟩ := h
  exact ⟨h1, h2.cg e, h3, ad, h4, fun i hi => (h7 i hi).cg (fun j hj => e2 i j hi hj)⟩
/-- the script stays as it is -/
def zLw (M M' : zM) : Prop := ∀ c m, 40 ≤ c → M'.1 c m = M.1 c m
theorem zLw.tr {M M' M'' : zM} (h : zLw M M') (h' : zLw M' M'') : zLw M M'' := fun c m z => (h' c m z).trans (h c m z)
