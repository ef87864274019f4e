-- ===== the class: what is read, what is closest =====
theorem zrow_0 (x : Int32) (r : Nat) : zrow x r <<< (nI 0 &&& (31 : Int32)) = zrow x r := by
  refine ui_inj (Nat.eq_of_testBit_eq (fun c => ?_))
  rw [ui_shl _ 0 (by decide), Nat.sub_zero, decide_eq_true (Nat.zero_le c), Bool.true_and]
  by_cases hc : c < 32
  · rw [decide_eq_true hc, Bool.true_and]
  · rw [decide_eq_false hc, Bool.false_and, Nat.testBit_lt_two_pow (Nat.lt_of_lt_of_le (ui_lt _) (Nat.pow_le_pow_right (by decide) (by omega)))]
theorem cp_dotsOf {M : zM} {k B N w : Nat} {σ : Nat → Int32} (hW : zW B σ) (hN : N ≤ 10) (hs : σ 0 = nI N) (hG : zGW M k σ N) (hw : w < N) : zd_X6_dotsOf [zR 6 k, zI (nI w)] M = zs (nI (zbr (σ (8 + 2 * w)))) M := by
  have hm := VL_m (W_vl hW hN hs hw)
  have hpic := (hG.2 w hw).2.2.2 0 (by omega)
  have hq := hpic.q
  have e : zc2 (zfP (σ (8 + 2 * w)) 0) = zbr (σ (8 + 2 * w)) := by
    rw [← (zRw_pic (σ (8 + 2 * w)) 0 hm.1 (by omega)).q]
    exact zsm_congr (fun r _ => by rw [zrow_0])
  rw [en_X6_dotsOf, bk_X6_dotsOf_0, show (0 : Int32) = nI 0 from rfl, zbi (cp_placeOf w 0 M), bk_X6_dotsOf_5, zbi (cp_has k _ M), bk_X6_dotsOf_11, if_neg (zne0 ⟨nI_pos' (by omega), by rw [hG.1]; exact nI_lt hw (by omega)⟩), bk_X6_dotsOf_14, if_neg (ix_in (by omega) (by decide)), ix_cl (by omega), bk_X6_dotsOf_20, zbi (sp_bitCount _ _), bk_X6_dotsOf_23, if_neg (ix_in (by omega) (by decide)), ix_cl (by omega), bk_X6_dotsOf_29, zbi (sp_bitCount _ _), bk_X6_dotsOf_32, bk_X6_dotsOf_37, nI_add, hq, e]
theorem cp_find_loop {M : zM} {k N : Nat} {σ : Nat → Int32} (hN : N ≤ 10) (hG : zGW M k σ N) (x : Int32) : ∀ (j w : Nat), w + j = N → zfw σ x w = false → ∃ v, zev zC_X6_find 2 ([some (zR 6 k), some (zI x), some (zI (nI w))], [], M) = zs v M ∧ (v = -1 ↔ zfw σ x N = false) := by
  intro j
  induction j with
  | zero =>
    intro w e hf
    have ew : w = N := by omega
    subst ew
    exact ⟨-1, by rw [bk_X6_find_2, hG.1, if_pos (nI_le (Nat.le_refl _) (by omega)), bk_X6_find_28], fun _ => hf, fun _ => rfl⟩
  | succ j ih =>
    intro w e hf
    have hw : w < N := by omega
    rw [bk_X6_find_2, hG.1, if_neg (nI_ge hw (by omega)), bk_X6_find_10, if_neg (ix_in (by omega) (by decide)), ix_cl (by omega), (hG.2 w hw).1, bk_X6_find_16]
    by_cases c : σ (8 + 2 * w) = x
    · refine ⟨nI w, by rw [if_pos c, bk_X6_find_20], fun z => ?_, fun z => ?_⟩
      · have := nI_pos (n := w) (by omega)
        rw [z] at this
        exact absurd (by decide) this
      · have := (zfw_t σ x N).mpr ⟨w, hw, c⟩
        rw [z] at this; cases this
    · rw [if_neg c, bk_X6_find_22, nI_1]
      exact ih (w + 1) (by omega) (by rw [zfw, hf, decide_eq_false c]; rfl)
theorem cp_find {M : zM} {k N : Nat} {σ : Nat → Int32} (hN : N ≤ 10) (hG : zGW M k σ N) (x : Int32) : ∃ v, zd_X6_find [zR 6 k, zI x] M = zs v M ∧ (v = -1 ↔ zfw σ x N = false) := by
  rw [en_X6_find, bk_X6_find_0]
  exact cp_find_loop hN hG x N 0 (by omega) rfl
