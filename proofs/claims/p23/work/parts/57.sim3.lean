-- ===== the class: settings, words that can be shown, orders =====
theorem cs_set {M : zM} {k B : Nat} {σ τ : Nat → Int32} {i v a : Int32} (hW : zW B σ) (hG : zGS M k σ) (t : zXe σ i v a τ) : ∃ M', zd_X4_change [zR 4 k, zI i, zI v] M = zs a M' ∧ zGS M' k τ ∧ zFS M M' k := by
  obtain ⟨N, hN, hs, gW, gB, g3, g4, g5, g6, g7⟩ := id hG
  have i1 : (1 : Int32).toInt = 1 := rfl
  have i2 : (2 : Int32).toInt = 2 := rfl
  have i9 : (9 : Int32).toInt = 9 := rfl
  have i99 : (99 : Int32).toInt = 99 := rfl
  rcases t with ⟨hb, rfl, rfl⟩ | ⟨q, hq, rfl, ⟨hv1, hv2⟩, rfl, rfl⟩
  · refine ⟨M, ?_, hG, zFS.rf M k⟩
    have b27 : (i = 1 → ¬ (2 ≤ v ∧ v ≤ 99)) → zev zC_X4_change 27 ([some (zR 4 k), some (zI i), some (zI v), none], [], M) = zs (-1000001) M := by
      intro h
      rw [bk_X4_change_27]
      by_cases c1 : i = 1
      · rw [if_pos c1, bk_X4_change_32]
        by_cases c2 : v < 2
        · rw [if_pos c2, bk_X4_change_55]
        · rw [if_neg c2, bk_X4_change_37]
          by_cases c3 : 99 < v
          · rw [if_pos c3, bk_X4_change_55]
          · exact absurd ⟨i_le.mpr c2, i_le.mpr c3⟩ (h c1)
      · rw [if_neg c1, bk_X4_change_55]
    have n1 : i = 1 → ¬ (2 ≤ v ∧ v ≤ 99) := fun e z => hb ⟨by rw [e]; decide, by rw [e]; exact z.1, by rw [e]; exact z.2⟩
    rw [en_X4_change, bk_X4_change_0]
    by_cases c0 : i = 0
    · rw [if_pos c0, bk_X4_change_4]
      by_cases c2 : v < 1
      · rw [if_pos c2]; exact b27 n1
      · rw [if_neg c2, bk_X4_change_9]
        by_cases c3 : 9 < v
        · rw [if_pos c3]; exact b27 n1
        · exact absurd ⟨by rw [c0]; decide, by rw [c0]; exact i_le.mpr c2, by rw [c0]; exact i_le.mpr c3⟩ hb
    · rw [if_neg c0]; exact b27 n1
  · have up : ∀ (M1 : zM) (x : Nat), M1 = (zst M.1 4 k (upd (M.1 4 k) (3 + q) v), M.2) → zGS M1 k (upd σ (6 + q) v) ∧ zFS M M1 k := by
      rintro M1 - rfl
      have c4 : (zst M.1 4 k (upd (M.1 4 k) (3 + q) v)) 4 k = upd (M.1 4 k) (3 + q) v := zst_self M.1 4 k _
      have hz : ∀ j, j ≠ 6 + q → upd σ (6 + q) v j = σ j := fun j h => upd_n h
      refine ⟨⟨N, hN, (hz 0 (by omega)).trans hs, (gW.zi hN (by omega)).cg (fun w hw => ⟨hz _ (by omega), hz _ (by omega)⟩), fun b hb => ((gB b hb).zi (by omega)).cg (hz _ (by omega)) (fun c r _ _ => hz _ (by have := zat_ge (b := b) (r := r) (c := c); omega)), ?_, ?_, ?_, ?_, ?_⟩, zFS.i M k _⟩
      · dsimp only
        rw [c4]
        by_cases e : q = 0
        · subst e; rw [upd_s, upd_s]
        · rw [upd_n (by omega), hz 6 (by omega)]; exact g3
      · dsimp only
        rw [c4]
        by_cases e : q = 1
        · subst e; rw [upd_s, upd_s]
        · rw [upd_n (by omega), hz 7 (by omega)]; exact g4
      · dsimp only; rw [c4, upd_n (by omega), hz 1 (by omega)]; exact g5
      · dsimp only; rw [c4, upd_n (by omega), hz 2 (by omega)]; exact g6
      · dsimp only; rw [c4, upd_n (by omega), hz 3 (by omega)]; exact g7
    rcases (show q = 0 ∨ q = 1 by omega) with rfl | rfl
    · rw [if_pos rfl] at hv2
      have hv1' : ¬ v < 1 := fun z => by rw [show nI 0 + 1 = (1 : Int32) from rfl, i_le] at hv1; exact hv1 z
      obtain ⟨u1, u2⟩ := up _ 0 rfl
      refine ⟨_, ?_, u1, u2⟩
      rw [en_X4_change, bk_X4_change_0, if_pos (show nI 0 = 0 from rfl), bk_X4_change_4, if_neg hv1', bk_X4_change_9, if_neg (fun z => i_le.mp hv2 z), bk_X4_change_15, bk_X4_change_25, g3]
    · rw [if_neg (by decide)] at hv2
      have hv1' : ¬ v < 2 := fun z => by rw [show nI 1 + 1 = (2 : Int32) from rfl, i_le] at hv1; exact hv1 z
      obtain ⟨u1, u2⟩ := up _ 0 rfl
      refine ⟨_, ?_, u1, u2⟩
      rw [en_X4_change, bk_X4_change_0, if_neg (show ¬ nI 1 = 0 by decide), bk_X4_change_27, if_pos (show nI 1 = 1 from rfl), bk_X4_change_32, if_neg hv1', bk_X4_change_37, if_neg (fun z => i_le.mp hv2 z), bk_X4_change_43, bk_X4_change_53, g4]
