-- ===== the class: what is read, what is closest =====
def zoP : Option (Nat × Nat) → Int32
  | none => -1
  | some q => nI (22 * q.1 + q.2)
theorem zfi_le3 (D : Nat → Nat) (key : Nat → Nat × Nat) (S : Option (Nat × Nat) × Nat) (hS : S.2 ≤ 1000) : ∀ n, (zfi D key S n).2 ≤ 1000 := by
  intro n
  induction n with
  | zero => exact hS
  | succ n ih =>
    rw [zfi]
    split
    · rename_i h; dsimp only; omega
    · exact ih
theorem zfo_le' (D : Nat → Nat → Nat) (key : Nat → Nat → Nat × Nat) (cnt : Nat → Nat) : ∀ n, (zfo D key cnt n).2 ≤ 1000 := by
  intro n
  induction n with
  | zero => exact Nat.le_refl _
  | succ n ih => rw [zfo]; exact zfi_le3 _ _ _ ih _
theorem cp_read_in {M : zM} {k n b B N w : Nat} {σ : Nat → Int32} (h : zQk M k n b B σ N) (hw : w < N) (S : Option (Nat × Nat) × Nat) (hS : S.2 ≤ 1000) : ∀ (j s : Nat) (d5 d8 : Option zV), s + j = zrdc σ b w →
    zev zC_X6_readAt 45 ([some (zR 6 k), some (zR 0 n), some (zI (zoP (zfi (zrdD σ (fun r => zdc σ b r 1) w) (fun s => (w, s)) S s).1)), some (zI (nI (zfi (zrdD σ (fun r => zdc σ b r 1) w) (fun s => (w, s)) S s).2)), some (zI (nI w)), d5, some (zI (nI (22 * w + zrdc σ b w))), some (zI (nI (22 * w + s))), d8], [], M) =
    zev zC_X6_readAt 9 ([some (zR 6 k), some (zR 0 n), some (zI (zoP (zfi (zrdD σ (fun r => zdc σ b r 1) w) (fun s => (w, s)) S (zrdc σ b w)).1)), some (zI (nI (zfi (zrdD σ (fun r => zdc σ b r 1) w) (fun s => (w, s)) S (zrdc σ b w)).2)), some (zI (nI (w + 1))), none, none, none, none], [], M) := by
  have hm := VL_m (W_vl h.1 h.2.1 h.2.2.1 hw)
  have hz : zrdc σ b w ≤ 26 := zshf_le (mny (σ (8 + 2 * w))) b
  have hN := h.2.1
  intro j
  induction j with
  | zero =>
    intro s d5 d8 e
    rw [bk_X6_readAt_45, if_pos (nI_le (by omega) (by omega)), bk_X6_readAt_93, nI_1, show s = zrdc σ b w by omega]
  | succ j ih =>
    intro s d5 d8 e
    have hs : s < zshf (mny (σ (8 + 2 * w))) b := by unfold zrdc at e; omega
    have h25 := zs_lt hs
    have h22 := zs_22 hs hm.1
    have hpic := (h.2.2.2.1.2 w hw).2.2.2 s h22
    have hq := cp_far h.2.2.2.2.2.2.1 hpic
    have hza := zap_le (fun r => zdc σ b r 1) (σ (8 + 2 * w)) s
    rw [← zap_c (zRw_disc σ b 1) (σ (8 + 2 * w)) s hm.1 h25] at hq
    have hfl := zfi_le3 (zrdD σ (fun r => zdc σ b r 1) w) (fun s => (w, s)) S hS s
    have h1 := ih (s + 1) none none (by omega)
    rw [zfi, show zrdD σ (fun r => zdc σ b r 1) w s = zap (fun r => zdc σ b r 1) (σ (8 + 2 * w)) s from rfl] at h1
    rw [bk_X6_readAt_45, if_neg (nI_ge (by omega) (by omega)), bk_X6_readAt_52, if_neg (ix_in (by omega) (by decide)), ix_cl (by omega), bk_X6_readAt_63, if_neg (ix_in (by omega) (by decide)), ix_cl (by omega), bk_X6_readAt_70, zbi hq, bk_X6_readAt_73]
    by_cases c : zap (fun r => zdc σ b r 1) (σ (8 + 2 * w)) s < (zfi (zrdD σ (fun r => zdc σ b r 1) w) (fun s => (w, s)) S s).2
    · rw [if_neg (nI_ge c (by omega)), bk_X6_readAt_81, bk_X6_readAt_87, nI_1]
      rw [if_pos c] at h1
      exact h1
    · rw [if_pos (nI_le (by omega) (by omega)), bk_X6_readAt_87, nI_1]
      rw [if_neg c] at h1
      exact h1
theorem cp_read_out {M : zM} {k n b B N : Nat} {σ : Nat → Int32} (h : zQk M k n b B σ N) : ∀ (j w : Nat) (d5 d6 d7 d8 : Option zV), w + j = N →
    zev zC_X6_readAt 9 ([some (zR 6 k), some (zR 0 n), some (zI (zoP (zrdS σ (fun r => zdc σ b r 1) b w).1)), some (zI (nI (zrdS σ (fun r => zdc σ b r 1) b w).2)), some (zI (nI w)), d5, d6, d7, d8], [], M) = zs (zoP (zrdS σ (fun r => zdc σ b r 1) b N).1) M := by
  have hN := h.2.1
  intro j
  induction j with
  | zero =>
    intro w d5 d6 d7 d8 e
    rw [bk_X6_readAt_9, h.2.2.2.1.1, if_pos (nI_le (by omega) (by omega)), bk_X6_readAt_99, show w = N by omega]
  | succ j ih =>
    intro w d5 d6 d7 d8 e
    have h1 := ih (w + 1) none none none none (by omega)
    rw [zrdS, zfo] at h1
    have h2 := cp_read_in h (show w < N by omega) (zrdS σ (fun r => zdc σ b r 1) b w) (zfo_le' _ _ _ w) (zrdc σ b w) 0 (some (zI (nI (22 * w + 0)))) none (by omega)
    rw [bk_X6_readAt_9, h.2.2.2.1.1, if_neg (nI_ge (by omega) (by omega)), bk_X6_readAt_18, show (0 : Int32) = nI 0 from rfl, zbi (cp_placeOf w 0 M), bk_X6_readAt_24, h.2.2.2.2.1, zbi (cp_shiftsOn h.1 h.2.1 h.2.2.1 h.2.2.2.1 (by omega)), bk_X6_readAt_38, nI_add]
    exact h2.trans h1
theorem cp_readAt {M : zM} {k n b B N : Nat} {σ : Nat → Int32} (h : zQk M k n b B σ N) : zd_X6_readAt [zR 6 k, zR 0 n] M = zs (zoP (zrdS σ (fun r => zdc σ b r 1) b N).1) M := by
  rw [en_X6_readAt, bk_X6_readAt_0]
  exact cp_read_out h N 0 _ _ _ _ (by omega)
-- how far two words are from one another
theorem zRw_pic' (x : Int32) (s : Nat) (hm : 0 < mny x) (h : s + 4 * mny x ≤ 25) : zRw (zbtS x s) (zfP x s) := zRw_pic x s hm h
theorem cp_far_in {M : zM} {k n b B N w o s : Nat} {σ : Nat → Int32} (h : zQk M k n b B σ N) (hw : w < N) (ho : o < N) (hs : s < zrdc σ b w) (l4 : Int32) (a : Nat) (ha : a ≤ 1000) : ∀ (j i : Nat) (d1 d3 d9 : Option zV), i + j = zrdc σ b o →
    zev zC_X6_pairFar 50 ([some (zR 6 k), d1, some (zI (nI o)), d3, some (zI l4), some (zI (nI (22 * o + zrdc σ b o))), some (zI (nI (Nat.min a (zmi (zbtS (σ (8 + 2 * w)) s) (σ (8 + 2 * o)) i)))), some (zI (nI (22 * w + s))), some (zI (nI (22 * o + i))), d9], [], M) =
    zev zC_X6_pairFar 36 ([some (zR 6 k), none, some (zI (nI o)), none, some (zI l4), some (zI (nI (22 * o + zrdc σ b o))), some (zI (nI (Nat.min a (zmi (zbtS (σ (8 + 2 * w)) s) (σ (8 + 2 * o)) (zrdc σ b o))))), some (zI (nI (22 * w + (s + 1)))), none, none], [], M) := by
  have hm := VL_m (W_vl h.1 h.2.1 h.2.2.1 hw)
  have hmo := VL_m (W_vl h.1 h.2.1 h.2.2.1 ho)
  have hz : zrdc σ b o ≤ 26 := zshf_le (mny (σ (8 + 2 * o))) b
  have hN := h.2.1
  have s25 := zs_lt hs
  have s22 := zs_22 hs hm.1
  have hpw := (h.2.2.2.1.2 w hw).2.2.2 s s22
  intro j
  induction j with
  | zero =>
    intro i d1 d3 d9 e
    rw [bk_X6_pairFar_50, if_pos (nI_le (by omega) (by omega)), bk_X6_pairFar_111, nI_1, show i = zrdc σ b o by omega]
    rfl
  | succ j ih =>
    intro i d1 d3 d9 e
    have hi : i < zshf (mny (σ (8 + 2 * o))) b := by unfold zrdc at e; omega
    have i25 := zs_lt hi
    have i22 := zs_22 hi hmo.1
    have hpo := (h.2.2.2.1.2 o ho).2.2.2 i i22
    have hq := (hpw.xor hpo).q
    have hza := zap_le (zbtS (σ (8 + 2 * w)) s) (σ (8 + 2 * o)) i
    rw [← zap_c (zRw_pic' (σ (8 + 2 * w)) s hm.1 s25) (σ (8 + 2 * o)) i hmo.1 i25] at hq
    have hmi := zmi_le (zbtS (σ (8 + 2 * w)) s) (σ (8 + 2 * o)) i
    have hml : Nat.min a (zmi (zbtS (σ (8 + 2 * w)) s) (σ (8 + 2 * o)) i) ≤ 1000 := Nat.le_trans (Nat.min_le_left _ _) ha
    rw [bk_X6_pairFar_50, if_neg (nI_ge (by omega) (by omega)), bk_X6_pairFar_57, if_neg (ix_in (by omega) (by decide)), ix_cl (by omega), bk_X6_pairFar_64, if_neg (ix_in (by omega) (by decide)), ix_cl (by omega), bk_X6_pairFar_71, zbi (sp_bitCount _ _), bk_X6_pairFar_75, if_neg (ix_in (by omega) (by decide)), ix_cl (by omega), bk_X6_pairFar_82, if_neg (ix_in (by omega) (by decide)), ix_cl (by omega), bk_X6_pairFar_89, zbi (sp_bitCount _ _), bk_X6_pairFar_93, nI_add, hq, z_min _ _ (by omega) (by omega), nI_1]
    rw [show Nat.min (Nat.min a (zmi (zbtS (σ (8 + 2 * w)) s) (σ (8 + 2 * o)) i)) (zap (zbtS (σ (8 + 2 * w)) s) (σ (8 + 2 * o)) i) = Nat.min a (zmi (zbtS (σ (8 + 2 * w)) s) (σ (8 + 2 * o)) (i + 1)) from Nat.min_assoc _ _ _, show 22 * o + i + 1 = 22 * o + (i + 1) by omega]
    exact ih (i + 1) none none _ (by omega)
theorem zbt_le' (x y : Int32) (c n : Nat) : zbt x y c n ≤ 1000 := by
  induction n with
  | zero => exact Nat.le_refl _
  | succ n ih => rw [zbt]; exact Nat.le_trans (Nat.min_le_left _ _) ih
theorem cp_far_out {M : zM} {k n b B N w o : Nat} {σ : Nat → Int32} (h : zQk M k n b B σ N) (hw : w < N) (ho : o < N) : ∀ (j s : Nat) (d1 d3 d8 d9 : Option zV), s + j = zrdc σ b w →
    zev zC_X6_pairFar 36 ([some (zR 6 k), d1, some (zI (nI o)), d3, some (zI (nI (22 * w + zrdc σ b w))), some (zI (nI (22 * o + zrdc σ b o))), some (zI (nI (zbt (σ (8 + 2 * w)) (σ (8 + 2 * o)) (zrdc σ b o) s))), some (zI (nI (22 * w + s))), d8, d9], [], M) = zs (nI (zbtw σ w o b)) M := by
  have hz : zrdc σ b w ≤ 26 := zshf_le (mny (σ (8 + 2 * w))) b
  have hN := h.2.1
  intro j
  induction j with
  | zero =>
    intro s d1 d3 d8 d9 e
    rw [bk_X6_pairFar_36, if_pos (nI_le (by omega) (by omega)), bk_X6_pairFar_117, show s = zrdc σ b w by omega]
    rfl
  | succ j ih =>
    intro s d1 d3 d8 d9 e
    have h1 := ih (s + 1) none none none none (by omega)
    rw [zbt] at h1
    have h2 := cp_far_in h hw ho (show s < zrdc σ b w by omega) (nI (22 * w + zrdc σ b w)) _ (zbt_le' (σ (8 + 2 * w)) (σ (8 + 2 * o)) (zrdc σ b o) s) (zrdc σ b o) 0 none none none (by omega)
    rw [show Nat.min (zbt (σ (8 + 2 * w)) (σ (8 + 2 * o)) (zrdc σ b o) s) (zmi (zbtS (σ (8 + 2 * w)) s) (σ (8 + 2 * o)) 0) = zbt (σ (8 + 2 * w)) (σ (8 + 2 * o)) (zrdc σ b o) s from Nat.min_eq_left (zbt_le' _ _ _ _)] at h2
    rw [bk_X6_pairFar_36, if_neg (nI_ge (by omega) (by omega)), bk_X6_pairFar_43, show (0 : Int32) = nI 0 from rfl, zbi (cp_placeOf o 0 M), bk_X6_pairFar_48]
    exact h2.trans h1
theorem cp_pairFar {M : zM} {k n b B N w o : Nat} {σ : Nat → Int32} (h : zQk M k n b B σ N) (hw : w < N) (ho : o < N) : zd_X6_pairFar [zR 6 k, zI (nI w), zI (nI o), zI (nI (zcol b))] M = zs (nI (zbtw σ w o b)) M := by
  rw [en_X6_pairFar, bk_X6_pairFar_0, zbi (cp_shiftsOn h.1 h.2.1 h.2.2.1 h.2.2.2.1 hw), bk_X6_pairFar_7, zbi (cp_placeOf w _ M), bk_X6_pairFar_10, zbi (cp_shiftsOn h.1 h.2.1 h.2.2.1 h.2.2.2.1 ho), bk_X6_pairFar_19, zbi (cp_placeOf o _ M), bk_X6_pairFar_22, show (0 : Int32) = nI 0 from rfl, zbi (cp_placeOf w 0 M), bk_X6_pairFar_34]
  exact cp_far_out h hw ho (zrdc σ b w) 0 _ _ _ _ (by omega)
def zoQ : Option (Nat × Nat) → Int32
  | none => -1
  | some q => nI (10 * q.1 + q.2)
theorem zbtw_le3 (σ : Nat → Int32) (w o b : Nat) : zbtw σ w o b ≤ 1000 := zbt_le' _ _ _ _
theorem cp_close_in {M : zM} {k n b B N w : Nat} {σ : Nat → Int32} (h : zQk M k n b B σ N) (hw : w < N) (S : Option (Nat × Nat) × Nat) (hS : S.2 ≤ 1000) : ∀ (j i : Nat) (d6 : Option zV), i + j = N - (w + 1) →
    zev zC_X6_closestPair 24 ([some (zR 6 k), some (zI (nI (zcol b))), some (zI (zoQ (zfi (fun j => zbtw σ w (w + 1 + j) b) (fun j => (w, w + 1 + j)) S i).1)), some (zI (nI (zfi (fun j => zbtw σ w (w + 1 + j) b) (fun j => (w, w + 1 + j)) S i).2)), some (zI (nI w)), some (zI (nI (w + 1 + i))), d6], [], M) =
    zev zC_X6_closestPair 9 ([some (zR 6 k), some (zI (nI (zcol b))), some (zI (zoQ (zfi (fun j => zbtw σ w (w + 1 + j) b) (fun j => (w, w + 1 + j)) S (N - (w + 1))).1)), some (zI (nI (zfi (fun j => zbtw σ w (w + 1 + j) b) (fun j => (w, w + 1 + j)) S (N - (w + 1))).2)), some (zI (nI (w + 1))), none, none], [], M) := by
  have hN := h.2.1
  intro j
  induction j with
  | zero =>
    intro i d6 e
    rw [bk_X6_closestPair_24, h.2.2.2.1.1, if_pos (nI_le (by omega) (by omega)), bk_X6_closestPair_68, nI_1, show i = N - (w + 1) by omega]
  | succ j ih =>
    intro i d6 e
    have h1 := ih (i + 1) (some (zI (nI (zbtw σ w (w + 1 + i) b)))) (by omega)
    have h1' := ih (i + 1) (some (zI (nI (zbtw σ w (w + 1 + i) b)))) (by omega)
    rw [zfi] at h1
    have hfl := zfi_le3 (fun j => zbtw σ w (w + 1 + j) b) (fun j => (w, w + 1 + j)) S hS i
    have hbl := zbtw_le3 σ w (w + 1 + i) b
    rw [bk_X6_closestPair_24, h.2.2.2.1.1, if_neg (nI_ge (by omega) (by omega)), bk_X6_closestPair_33, zbi (cp_pairFar h hw (show w + 1 + i < N by omega)), bk_X6_closestPair_42]
    by_cases c : zbtw σ w (w + 1 + i) b < (zfi (fun j => zbtw σ w (w + 1 + j) b) (fun j => (w, w + 1 + j)) S i).2
    · rw [if_neg (nI_ge c (by omega)), bk_X6_closestPair_50, bk_X6_closestPair_62, nI_1, show (10 : Int32) = nI 10 from rfl, pk_mul, nI_add]
      rw [if_pos c] at h1
      rw [Nat.mul_comm w 10]
      refine Eq.trans ?_ h1
      rw [bk_X6_closestPair_24, bk_X6_closestPair_24]
      rfl
    · rw [if_pos (nI_le (by omega) (by omega)), bk_X6_closestPair_62, nI_1]
      rw [if_neg c] at h1
      refine Eq.trans ?_ h1
      rw [bk_X6_closestPair_24, bk_X6_closestPair_24]
      rfl
theorem cp_close_out {M : zM} {k n b B N : Nat} {σ : Nat → Int32} (h : zQk M k n b B σ N) : ∀ (j w : Nat) (d5 d6 : Option zV), w + j = N →
    zev zC_X6_closestPair 9 ([some (zR 6 k), some (zI (nI (zcol b))), some (zI (zoQ (zclS σ b N w).1)), some (zI (nI (zclS σ b N w).2)), some (zI (nI w)), d5, d6], [], M) = zs (zoQ (zclS σ b N N).1) M := by
  have hN := h.2.1
  intro j
  induction j with
  | zero =>
    intro w d5 d6 e
    rw [bk_X6_closestPair_9, h.2.2.2.1.1, if_pos (nI_le (by omega) (by omega)), bk_X6_closestPair_74, show w = N by omega]
  | succ j ih =>
    intro w d5 d6 e
    have h1 := ih (w + 1) none none (by omega)
    rw [zclS, zfo] at h1
    have h2 := cp_close_in h (show w < N by omega) (zclS σ b N w) (zfo_le' _ _ _ w) (N - (w + 1)) 0 none (by omega)
    rw [bk_X6_closestPair_9, h.2.2.2.1.1, if_neg (nI_ge (by omega) (by omega)), bk_X6_closestPair_18, nI_1]
    exact h2.trans h1
theorem cp_closestPair {M : zM} {k n b B N : Nat} {σ : Nat → Int32} (h : zQk M k n b B σ N) : zd_X6_closestPair [zR 6 k, zI (nI (zcol b))] M = zs (zoQ (zclS σ b N N).1) M := by
  rw [en_X6_closestPair, bk_X6_closestPair_0]
  exact cp_close_out h N 0 _ _ (by omega)
theorem zrow_0 (x : Int32) (r : Nat) : zrow x r <<< (nI 0 &&& (31 : Int32)) = zrow x r := by
  refine ui_inj (Nat.eq_of_testBit_eq (fun c => ?_))
  rw [ui_shl _ 0 (by decide), Nat.sub_zero, decide_eq_true (Nat.zero_le c), Bool.true_and]
  by_cases hc : c < 32
  · rw [decide_eq_true hc, Bool.true_and]
  · rw [decide_eq_false hc, Bool.false_and, Nat.testBit_lt_two_pow (Nat.lt_of_lt_of_le (ui_lt _) (Nat.pow_le_pow_right (by decide) (by omega)))]
theorem cp_dotsOf {M : zM} {k B N w : Nat} {σ : Nat → Int32} (hW : zW B σ) (hN : N ≤ 10) (hs : σ 0 = nI N) (hG : zGW M k σ N) (hw : w < N) : zd_X6_dotsOf [zR 6 k, zI (nI w)] M = zs (nI (zbr (σ (8 + 2 * w)))) M := by
  have hm := VL_m (W_vl hW hN hs hw)
  have hpic := (hG.2 w hw).2.2.2 0 (by omega)
  have hq := hpic.q
  have e : zc2 (zfP (σ (8 + 2 * w)) 0) = zbr (σ (8 + 2 * w)) := by
    rw [← (zRw_pic (σ (8 + 2 * w)) 0 hm.1 (by omega)).q]
    exact zsm_congr (fun r _ => by rw [zrow_0])
  rw [en_X6_dotsOf, bk_X6_dotsOf_0, show (0 : Int32) = nI 0 from rfl, zbi (cp_placeOf w 0 M), bk_X6_dotsOf_5, zbi (cp_has k _ M), bk_X6_dotsOf_11, if_neg (zne0 ⟨nI_pos' (by omega), by rw [hG.1]; exact nI_lt hw (by omega)⟩), bk_X6_dotsOf_14, if_neg (ix_in (by omega) (by decide)), ix_cl (by omega), bk_X6_dotsOf_20, zbi (sp_bitCount _ _), bk_X6_dotsOf_23, if_neg (ix_in (by omega) (by decide)), ix_cl (by omega), bk_X6_dotsOf_29, zbi (sp_bitCount _ _), bk_X6_dotsOf_32, bk_X6_dotsOf_37, nI_add, hq, e]
theorem cp_find_loop {M : zM} {k N : Nat} {σ : Nat → Int32} (hN : N ≤ 10) (hG : zGW M k σ N) (x : Int32) : ∀ (j w : Nat), w + j = N → zfw σ x w = false → ∃ v, zev zC_X6_find 2 ([some (zR 6 k), some (zI x), some (zI (nI w))], [], M) = zs v M ∧ (v = -1 ↔ zfw σ x N = false) := by
  intro j
  induction j with
  | zero =>
    intro w e hf
    have ew : w = N := by omega
    subst ew
    exact ⟨-1, by rw [bk_X6_find_2, hG.1, if_pos (nI_le (Nat.le_refl _) (by omega)), bk_X6_find_28], fun _ => hf, fun _ => rfl⟩
  | succ j ih =>
    intro w e hf
    have hw : w < N := by omega
    rw [bk_X6_find_2, hG.1, if_neg (nI_ge hw (by omega)), bk_X6_find_10, if_neg (ix_in (by omega) (by decide)), ix_cl (by omega), (hG.2 w hw).1, bk_X6_find_16]
    by_cases c : σ (8 + 2 * w) = x
    · refine ⟨nI w, by rw [if_pos c, bk_X6_find_20], fun z => ?_, fun z => ?_⟩
      · have := nI_pos (n := w) (by omega)
        rw [z] at this
        exact absurd (by decide) this
      · have := (zfw_t σ x N).mpr ⟨w, hw, c⟩
        rw [z] at this; cases this
    · rw [if_neg c, bk_X6_find_22, nI_1]
      exact ih (w + 1) (by omega) (by rw [zfw, hf, decide_eq_false c]; rfl)
theorem cp_find {M : zM} {k N : Nat} {σ : Nat → Int32} (hN : N ≤ 10) (hG : zGW M k σ N) (x : Int32) : ∃ v, zd_X6_find [zR 6 k, zI x] M = zs v M ∧ (v = -1 ↔ zfw σ x N = false) := by
  rw [en_X6_find, bk_X6_find_0]
  exact cp_find_loop hN hG x N 0 (by omega) rfl
