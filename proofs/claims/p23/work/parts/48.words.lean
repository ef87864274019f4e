-- ===== the class: words and margins =====
theorem zmn_pos (n u : Nat) (h : 0 < u) : 1 ≤ zmn (n + 1) u := by rw [zmn, if_neg (by omega)]; omega
theorem zmn_small : ∀ (k n u : Nat), u < 32 ^ k → zmn n u ≤ k := by
  intro k
  induction k with
  | zero => intro n u h; rw [Nat.pow_zero] at h; cases n with | zero => exact Nat.le_refl _ | succ n => rw [zmn, if_pos (by omega)]; exact Nat.le_refl _
  | succ k ih =>
    intro n u h
    cases n with
    | zero => exact Nat.zero_le _
    | succ n =>
      rw [zmn]
      split
      · exact Nat.zero_le _
      · have := ih n (u / 32) (by rw [Nat.pow_succ] at h; omega)
        omega
theorem VL_m {x : Int32} (h : zVL x) : 1 ≤ mny x ∧ mny x ≤ 6 := by
  obtain ⟨h1, h2, -⟩ := h
  obtain ⟨n, n1, n2, rfl⟩ := pos_ui h1
  rw [show (1073741824 : Int32) = nI 1073741824 from rfl, nI_ltI n1 (by decide)] at h2
  exact ⟨zmn_pos 6 _ (by rw [ui_nI (by omega)]; exact n2), zmn_small 6 7 _ (by rw [ui_nI (by omega)]; omega)⟩
theorem W_vl {B : Nat} {σ : Nat → Int32} {N w : Nat} (h : zW B σ) (hN : N ≤ 10) (hs : σ 0 = nI N) (hw : w < N) : zVL (σ (8 + 2 * w)) := by
  obtain ⟨N', a1, a2, a3⟩ := h.1
  have e : N' = N := by rw [hs, nI_eq (by omega) (by omega)] at a2; omega
  exact a3 w (by omega)
/-- the words of the class are those of s -/
def zGW (M : zM) (k : Nat) (σ : Nat → Int32) (N : Nat) : Prop := M.1 6 k 0 = nI N ∧ ∀ w, w < N → M.1 20 k w = σ (8 + 2 * w) ∧ M.1 21 k w = nI (4 * mny (σ (8 + 2 * w)) - 1) ∧ M.1 22 k w = σ (9 + 2 * w) ∧ ∀ s, s < 22 → zPr (M.2.1 23 k (22 * w + s)) (M.2.1 24 k (22 * w + s)) (zfP (σ (8 + 2 * w)) s)
theorem cp_placeOf (w s : Nat) (M : zM) : zd_X7_placeOf [zI (nI w), zI (nI s)] M = zs (nI (22 * w + s)) M := by
  rw [en_X7_placeOf, bk_X7_placeOf_0, show (22 : Int32) = nI 22 from rfl, pk_mul, nI_add, Nat.mul_comm w 22]
theorem cp_has (k : Nat) (a : Int32) (M : zM) : zd_X6_has [zR 6 k, zI a] M = zs (zb (0 ≤ a ∧ a < M.1 6 k 0)) M := by
  rw [en_X6_has, bk_X6_has_0]
  by_cases h1 : a < 0
  · rw [if_pos h1, bk_X6_has_16, bk_X6_has_17, if_pos (Or.inl rfl), zb_f (fun z => i_le.mp z.1 h1)]
  · rw [if_neg h1, bk_X6_has_4]
    by_cases h2 : M.1 6 k 0 ≤ a
    · rw [if_pos h2, bk_X6_has_16, bk_X6_has_17, if_pos (Or.inl rfl), zb_f (fun z => i_le.mp h2 z.2)]
    · rw [if_neg h2, bk_X6_has_12, bk_X6_has_17, if_pos (Or.inr rfl), zb_t ⟨i_le.mpr h1, Int32.not_le.mp h2⟩]
theorem cp_shiftsOn {B k N w b : Nat} {σ : Nat → Int32} {M : zM} (hW : zW B σ) (hN : N ≤ 10) (hs : σ 0 = nI N) (hG : zGW M k σ N) (hw : w < N) : zd_X6_shiftsOn [zR 6 k, zI (nI w), zI (nI (zcol b))] M = zs (nI (zshf (mny (σ (8 + 2 * w))) b)) M := by
  have hm := VL_m (W_vl hW hN hs hw)
  have hl := zcol_le b
  rw [en_X6_shiftsOn, bk_X6_shiftsOn_0, if_neg (nI_pos (by omega)), bk_X6_shiftsOn_4, hG.1, if_neg (nI_ge hw (by omega)), bk_X6_shiftsOn_12, if_neg (ix_in (by omega) (by decide)), ix_cl (by omega), (hG.2 w hw).2.1, bk_X6_shiftsOn_18]
  unfold zshf
  by_cases c : 4 * mny (σ (8 + 2 * w)) - 1 ≤ zcol b
  · rw [if_pos (nI_le c (by omega)), bk_X6_shiftsOn_24, if_neg (ix_in (by omega) (by decide)), ix_cl (by omega), (hG.2 w hw).2.1, bk_X6_shiftsOn_31, pk_sub c, nI_1, show zcol b - (4 * mny (σ (8 + 2 * w)) - 1) + 1 = zcol b + 2 - 4 * mny (σ (8 + 2 * w)) by omega]
  · rw [if_neg (nI_ge (by omega) (by omega)), bk_X6_shiftsOn_22, show zcol b + 2 - 4 * mny (σ (8 + 2 * w)) = 0 by omega]
    rfl
-- what is seen
def zV' (σ : Nat → Int32) (fr : Int32) (b : Nat) (x : Int32) (s : Nat) (c r : Nat) : Bool := (zfP x s c r && !(zfD σ b 2 c r && !zfF fr c)) || (zfD σ b 1 c r && (zfD σ b 2 c r && !zfF fr c))
def zFr (fr : Int32) : Prop := fr < 0 ∨ ∃ k, k < 24 ∧ fr = nI k
theorem zRw_see (σ : Nat → Int32) (fr : Int32) (b : Nat) (x : Int32) (s : Nat) (hf : zFr fr) (hm : 0 < mny x) (h : s + 4 * mny x ≤ 25) : zRw (zsee σ fr x b s) (zV' σ fr b x s) :=
  ((zRw_pic x s hm h).nd (zRw_stk σ b fr hf)).or ((zRw_disc σ b 1).and (zRw_stk σ b fr hf))
theorem zap_c {f : Nat → Int32} {V : Nat → Nat → Bool} (hf : zRw f V) (x : Int32) (s : Nat) (hm : 0 < mny x) (h : s + 4 * mny x ≤ 25) : zap f x s = zc2 (fun c r => V c r ^^ zfP x s c r) := (hf.xor (zRw_pic x s hm h)).q
theorem zs_lt {m b s : Nat} (h : s < zshf m b) : s + 4 * m ≤ 25 := by unfold zshf at h; have := zcol_le b; omega
theorem zs_22 {m b s : Nat} (h : s < zshf m b) (hm : 0 < m) : s < 22 := by have := zs_lt h; omega
/-- the column that counts as repaired, and how the reference tells it -/
def zRep (rp fr : Int32) : Prop := (rp = -1 ∧ fr = zNF) ∨ ∃ c, c < 24 ∧ rp = nI c ∧ fr = nI c
theorem zRep.fr {rp fr : Int32} (h : zRep rp fr) : zFr fr := by
  rcases h with ⟨-, rfl⟩ | ⟨c, hc, -, rfl⟩
  · exact Or.inl (by decide)
  · exact Or.inr ⟨c, hc, rfl⟩
theorem cp_rep {rp fr : Int32} (h : zRep rp fr) (M : zM) : ∃ lb rb, zd_X7_leftBits [zI rp, zJ 31] M = some (some (zJ lb), M) ∧ zd_X7_rightBits [zI rp, zJ 31] M = some (some (zJ rb), M) ∧ zPr lb rb (fun c _ => zfF fr c) := by
  rcases h with ⟨rfl, rfl⟩ | ⟨c, hc, rfl, rfl⟩
  · exact ⟨0, 0, cp_leftBits_n 31 M, cp_rightBits_n 31 M, zPr.z⟩
  · refine ⟨_, _, cp_leftBits c (by omega) 31 M, cp_rightBits c (by omega) 31 M, (zPr_bits c 31 (by decide)).cg (fun c' r' hc' hr' => ?_)⟩
    rw [(show ∀ r, r < 5 → (uj 31).testBit r = true by decide) r' hr', Bool.and_true]
    unfold zfF
    rw [decide_eq_true (nI_pos' (show c < 2 ^ 31 by omega)), Bool.true_and]
    by_cases e : c' = c
    · rw [e, decide_eq_true rfl, decide_eq_true rfl]
    · rw [decide_eq_false e, decide_eq_false (fun z => e ((nI_eq (by omega) (by omega)).mp z).symm)]
theorem i_subsub (a b c : Int32) : a - b - c = a - (b + c) := by
  rw [Int32.sub_eq_add_neg, Int32.sub_eq_add_neg, Int32.sub_eq_add_neg, Int32.neg_add, Int32.sub_eq_add_neg, Int32.add_assoc]
theorem z_min (a b : Nat) (ha : a < 2 ^ 31) (hb : b < 2 ^ 31) : (if nI b < nI a then nI b else nI a) = nI (Nat.min a b) := by
  by_cases c : b < a
  · rw [if_pos (nI_lt c ha), show Nat.min a b = b from Nat.min_eq_right (by omega)]
  · rw [if_neg (nI_nlt (by omega) hb), show Nat.min a b = a from Nat.min_eq_left (by omega)]
theorem cp_margin_in {B k N b n w o : Nat} {σ : Nat → Int32} {M : zM} (hW : zW B σ) (hN : N ≤ 10) (hs : σ 0 = nI N) (hG : zGW M k σ N) (ho : o < N) {f : Nat → Int32} {V : Nat → Nat → Bool} {L R : Int64} (hf : zRw f V) (hp : zPr L R V) (l9 : Int32) (a : Nat) (ha : a ≤ 1000) :
    ∀ (j i : Nat) (d2 d4 d5 d6 d7 d8 d11 d13 d19 : Option zV), i + j = zshf (mny (σ (8 + 2 * o))) b →
      zev zC_X6_marginAt 175 ([some (zR 6 k), some (zI (nI w)), d2, some (zR 0 n), d4, d5, d6, d7, d8, some (zI l9), some (zJ L), d11, some (zJ R), d13, some (zI (nI (Nat.min a (zmi f (σ (8 + 2 * o)) i)))), some (zI (nI o)), some (zI (nI (zshf (mny (σ (8 + 2 * o))) b))), some (zI (nI (22 * o + 0))), some (zI (nI (22 * o + i))), d19], [], M) =
      zev zC_X6_marginAt 132 ([some (zR 6 k), some (zI (nI w)), none, some (zR 0 n), none, none, none, none, none, some (zI l9), some (zJ L), none, some (zJ R), none, some (zI (nI (Nat.min a (zmi f (σ (8 + 2 * o)) (zshf (mny (σ (8 + 2 * o))) b))))), some (zI (nI (o + 1))), none, none, none, none], [], M) := by
  have hm := VL_m (W_vl hW hN hs ho)
  have hz := zshf_le (mny (σ (8 + 2 * o))) b
  intro j
  induction j with
  | zero =>
    intro i d2 d4 d5 d6 d7 d8 d11 d13 d19 e
    have ei : i = zshf (mny (σ (8 + 2 * o))) b := by omega
    rw [bk_X6_marginAt_175, nI_add, if_pos (nI_le (by omega) (by omega)), bk_X6_marginAt_229, nI_1, ei]
  | succ j ih =>
    intro i d2 d4 d5 d6 d7 d8 d11 d13 d19 e
    have hi : i < zshf (mny (σ (8 + 2 * o))) b := by omega
    have h25 := zs_lt hi
    have h22 := zs_22 hi hm.1
    have hpic := (hG.2 o ho).2.2.2 i h22
    have hq := (hp.xor hpic).q
    rw [← zap_c hf (σ (8 + 2 * o)) i hm.1 h25] at hq
    have hza := zap_le f (σ (8 + 2 * o)) i
    have hmi := zmi_le f (σ (8 + 2 * o)) i
    have hml : Nat.min a (zmi f (σ (8 + 2 * o)) i) ≤ 1000 := Nat.le_trans (Nat.min_le_left _ _) ha
    rw [bk_X6_marginAt_175, nI_add, if_neg (nI_ge (by omega) (by omega)), bk_X6_marginAt_185, if_neg (ix_in (by omega) (by decide)), ix_cl (by omega), bk_X6_marginAt_194, zbi (sp_bitCount _ _), bk_X6_marginAt_198, if_neg (ix_in (by omega) (by decide)), ix_cl (by omega), bk_X6_marginAt_207, zbi (sp_bitCount _ _), bk_X6_marginAt_211, nI_add, hq, z_min _ _ (by omega) (by omega), nI_1]
    rw [show Nat.min (Nat.min a (zmi f (σ (8 + 2 * o)) i)) (zap f (σ (8 + 2 * o)) i) = Nat.min a (zmi f (σ (8 + 2 * o)) (i + 1)) from Nat.min_assoc _ _ _, show 22 * o + i + 1 = 22 * o + (i + 1) by omega]
    exact ih (i + 1) none none none none none none none none _ (by omega)
theorem cp_margin_out {B k N b n w : Nat} {σ : Nat → Int32} {M : zM} (hW : zW B σ) (hN : N ≤ 10) (hs : σ 0 = nI N) (hG : zGW M k σ N) (hw : w < 10) (h0 : M.1 0 n 0 = nI (zcol b)) {f : Nat → Int32} {V : Nat → Nat → Bool} {L R : Int64} (hf : zRw f V) (hp : zPr L R V) (l9 : Int32) :
    ∀ (j o : Nat) (d2 d4 d5 d6 d7 d8 d11 d13 d16 d17 d18 d19 : Option zV), o + j = N →
      zev zC_X6_marginAt 132 ([some (zR 6 k), some (zI (nI w)), d2, some (zR 0 n), d4, d5, d6, d7, d8, some (zI l9), some (zJ L), d11, some (zJ R), d13, some (zI (nI (zmo' σ f w b o))), some (zI (nI o)), d16, d17, d18, d19], [], M) =
      zev zC_X6_marginAt 235 ([some (zR 6 k), some (zI (nI w)), none, some (zR 0 n), none, none, none, none, none, some (zI l9), some (zJ L), none, some (zJ R), none, some (zI (nI (zmo' σ f w b N))), some (zI (nI N)), none, none, none, none], [], M) := by
  intro j
  induction j with
  | zero =>
    intro o d2 d4 d5 d6 d7 d8 d11 d13 d16 d17 d18 d19 e
    have eo : o = N := by omega
    subst eo
    rw [bk_X6_marginAt_132, hG.1, if_pos (nI_le (Nat.le_refl _) (by omega))]
  | succ j ih =>
    intro o d2 d4 d5 d6 d7 d8 d11 d13 d16 d17 d18 d19 e
    have hml := zmo'_le σ f w b o
    rw [bk_X6_marginAt_132, hG.1, if_neg (nI_ge (by omega) (by omega)), bk_X6_marginAt_141]
    by_cases ew : o = w
    · have h1 := ih (o + 1) none none none none none none none none none none none none (by omega)
      rw [zmo', if_pos ew] at h1
      rw [if_pos (by rw [ew]), bk_X6_marginAt_147, bk_X6_marginAt_161, show (0 : Int32) = nI 0 from rfl, zbi (cp_placeOf o 0 M), bk_X6_marginAt_169, bk_X6_marginAt_175, nI_add, if_pos (nI_le (Nat.le_refl _) (by omega)), bk_X6_marginAt_229, nI_1]
      exact h1
    · have h1 := ih (o + 1) none none none none none none none none none none none none (by omega)
      rw [zmo', if_neg ew] at h1
      rw [if_neg (fun z => ew ((nI_eq (by omega) (by omega)).mp z)), bk_X6_marginAt_151, h0, zbi (cp_shiftsOn hW hN hs hG (by omega)), bk_X6_marginAt_161, show (0 : Int32) = nI 0 from rfl, zbi (cp_placeOf o 0 M), bk_X6_marginAt_169]
      have h2 := cp_margin_in (b := b) (n := n) (w := w) hW hN hs hG (show o < N by omega) hf hp l9 (zmo' σ f w b o) hml (zshf (mny (σ (8 + 2 * o))) b) 0 none none none none none none none none none (by omega)
      rw [show Nat.min (zmo' σ f w b o) (zmi f (σ (8 + 2 * o)) 0) = zmo' σ f w b o from Nat.min_eq_left hml] at h2
      exact h2.trans h1
theorem cp_marginAt {B k N b n w s : Nat} {σ : Nat → Int32} {M : zM} {rp fr : Int32} (hr : zRep rp fr) (hW : zW B σ) (hN : N ≤ 10) (hs : σ 0 = nI N) (hG : zGW M k σ N) (hB : zGB M n b σ) (hw : w < N) (hsh : s < zshf (mny (σ (8 + 2 * w))) b) :
    zd_X6_marginAt [zR 6 k, zI (nI w), zI (nI s), zR 0 n, zI rp] M = zs (zmar σ fr w b s) M := by
  have hm := VL_m (W_vl hW hN hs hw)
  have hz := zshf_le (mny (σ (8 + 2 * w))) b
  have h25 := zs_lt hsh
  have h22 := zs_22 hsh hm.1
  obtain ⟨lb, rb, e1, e2, hrp⟩ := cp_rep hr M
  have hst := hB.2.2.2.1.nd hrp
  have hpic := (hG.2 w hw).2.2.2 s h22
  have hsee := (hpic.nd hst).or (hB.2.2.1.and hst)
  have hrow := zRw_see σ fr b (σ (8 + 2 * w)) s hr.fr hm.1 h25
  have hq := (hsee.xor hpic).q
  have hza := zap_c hrow (σ (8 + 2 * w)) s hm.1 h25
  rw [show zc2 (fun c r => ((zfP (σ (8 + 2 * w)) s c r && !(zfD σ b 2 c r && !zfF fr c)) || (zfD σ b 1 c r && (zfD σ b 2 c r && !zfF fr c))) ^^ zfP (σ (8 + 2 * w)) s c r) = zap (zsee σ fr (σ (8 + 2 * w)) b s) (σ (8 + 2 * w)) s from hza.symm] at hq
  rw [en_X6_marginAt, bk_X6_marginAt_0, if_neg (nI_pos (by omega)), bk_X6_marginAt_4, hB.1, zbi (cp_shiftsOn hW hN hs hG hw), bk_X6_marginAt_14, if_pos (nI_lt hsh (by omega)), bk_X6_marginAt_19, e1]
  show zev _ _ _ = _
  rw [zpush, bk_X6_marginAt_34, e2]
  show zev _ _ _ = _
  rw [zpush, bk_X6_marginAt_56, zbi (cp_placeOf w s M), bk_X6_marginAt_68, if_neg (ix_in (by omega) (by decide)), ix_cl (by omega), bk_X6_marginAt_77, if_neg (ix_in (by omega) (by decide)), ix_cl (by omega), bk_X6_marginAt_104, show (1000 : Int32) = nI (zmo' σ (zsee σ fr (σ (8 + 2 * w)) b s) w b 0) from rfl, show (0 : Int32) = nI 0 from rfl]
  rw [cp_margin_out (b := b) hW hN hs hG (by omega) hB.1 hrow hsee _ N 0 _ _ _ _ _ _ _ _ _ _ _ _ (by omega), bk_X6_marginAt_235]
  have hml := zmo'_le σ (zsee σ fr (σ (8 + 2 * w)) b s) w b N
  unfold zmar zmg
  rw [hs, ix_cl (by omega)]
  by_cases c : zmo' σ (zsee σ fr (σ (8 + 2 * w)) b s) w b N = 1000
  · rw [c, if_pos (show nI 1000 = 1000 from rfl), if_pos rfl, bk_X6_marginAt_243]
  · rw [if_neg (fun z => c ((nI_eq (by omega) (by decide)).mp (z.trans (show (1000 : Int32) = nI 1000 from rfl)))), if_neg c, bk_X6_marginAt_246, if_neg (ix_in (by omega) (by decide)), ix_cl (by omega), bk_X6_marginAt_257, zbi (sp_bitCount _ _), bk_X6_marginAt_261, if_neg (ix_in (by omega) (by decide)), ix_cl (by omega), bk_X6_marginAt_271, zbi (sp_bitCount _ _), bk_X6_marginAt_275, ← hq, ← nI_add]
    refine congrArg (fun z => zs z M) ?_
    exact i_subsub _ _ _
