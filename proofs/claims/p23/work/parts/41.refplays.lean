-- ===== the reference: the text is played =====
theorem sl_s (M : zM) (k : Nat) (v : Int32) : (zst M.1 8 0 (upd (M.1 8 0) k v)) 8 0 k = v := by rw [zst_self, upd_s]
theorem sl_n (M : zM) (k j : Nat) (v : Int32) (h : j ≠ k) : (zst M.1 8 0 (upd (M.1 8 0) k v)) 8 0 j = M.1 8 0 j := by rw [zst_self, upd_n h]
theorem sl_o (M : zM) (k : Nat) (v : Int32) (c n : Nat) (h : c ≠ 8) : (zst M.1 8 0 (upd (M.1 8 0) k v)) c n = M.1 c n := zst_ne M.1 _ (fun z => h z.1)
/-- while a text is played -/
def zPm (M0 M : zM) (r : Int32) : Prop := M.2 = M0.2 ∧ (∀ c n, c ≠ 29 → c ≠ 30 → c ≠ 33 → c ≠ 31 → c ≠ 34 → c ≠ 8 → M.1 c n = M0.1 c n) ∧ M.1 30 0 = M0.1 30 0 ∧ M.1 8 0 4 = r ∧ ∀ k, k = 3 ∨ k = 6 ∨ k = 8 → M.1 8 0 k = M0.1 8 0 k
theorem zOQ.fr {M M' : zM} {a : Int32} (h : zOQ M M' a) (h4 : ¬ M.1 8 0 4 = 0) : M'.2 = M.2 ∧ (∀ c n, c ≠ 29 → c ≠ 30 → c ≠ 33 → c ≠ 31 → c ≠ 8 → M'.1 c n = M.1 c n) ∧ M'.1 30 0 = M.1 30 0 ∧ ∀ k, k ≠ 9 → M'.1 8 0 k = M.1 8 0 k := by
  rcases h with ⟨-, h1, h2, h3⟩ | ⟨-, h1, h2, h3, h5⟩
  · exact ⟨h1, fun c n _ _ d e g => h2 c n d e e d g, h2 30 0 (by decide) (by decide) (by decide) (by decide) (by decide), h3⟩
  · rcases h5 with ⟨-, b1, b2⟩ | ⟨b1, -⟩
    · refine ⟨h1, fun c n a b d e g => h2 c n a b d e e d g, b2, fun k hk => ?_⟩
      by_cases e : k = 3
      · rw [e]; exact b1
      · exact h3 k hk e
    · exact absurd b1 h4
theorem zRd.rf (M : zM) (p : Nat) (h : M.1 8 0 10 = nI p) : zRd M M p (M.1 34 0) (M.1 8 0 15) := ⟨rfl, fun _ _ _ _ => rfl, fun _ _ _ => rfl, h, rfl, rfl⟩
theorem zPm.z {M0 M : zM} (h : zPm M0 M 1) : zPm M0 (zst M.1 8 0 (upd (M.1 8 0) 4 0), M.2) 0 := by
  obtain ⟨h1, h2, h3, h4, h5⟩ := h
  refine ⟨h1, fun c n a b d e' f g => (sl_o M 4 0 c n g).trans (h2 c n a b d e' f g), (sl_o M 4 0 30 0 (by decide)).trans h3, sl_s M 4 0, fun j hj => ?_⟩
  dsimp only
  rw [sl_n M 4 j 0 (by omega)]
  exact h5 j hj
