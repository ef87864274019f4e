-- ===== the class: the text is tried =====
/-- what trying a text may change -/
def zFT (M M' : zM) : Prop := M'.2.2 = M.2.2 ∧ (∀ c m, ¬ zOw c m 1 → ¬ (c = 3 ∧ m = 0) → ¬ (c = 27 ∧ m = 0) → ¬ (c = 7 ∧ m = 0) → M'.1 c m = M.1 c m) ∧ ∀ c m, ¬ zOj c m 1 → M'.2.1 c m = M.2.1 c m
theorem zFT.rf (M : zM) : zFT M M := ⟨rfl, fun _ _ _ _ _ _ => rfl, fun _ _ _ => rfl⟩
theorem zFT.tr {M M' M'' : zM} (h : zFT M M') (h' : zFT M' M'') : zFT M M'' := ⟨h'.1.trans h.1, fun c m a b d e => (h'.2.1 c m a b d e).trans (h.2.1 c m a b d e), fun c m a => (h'.2.2 c m a).trans (h.2.2 c m a)⟩
theorem zCr.gs {M M' : zM} {st q k : Nat} {wh kd : Int32} {σ : Nat → Int32} (h : zCr M M' st q wh kd) (hG : zGS M k σ) : zGS M' k σ := hG.fr (fun c m z => h.2.1 c m (by unfold zOw at z; omega) (by unfold zOw at z; omega)) (fun c m _ => by rw [h.1])
/-- the columns of all blinds stand -/
def zCo (M : zM) : Prop := ∀ k, k < 7 → ∀ b, b < 2 → M.1 0 (2 * k + b) 0 = nI (zcol b)
