-- ===== the class: a word is drawn =====
def zlD' (a c : Nat) : Nat → Int64
  | 0 => 0
  | r + 1 => zlD' a c r ||| zlsl ((((zlet a >>> ((4 * (4 - nI r)) &&& (31 : Int32))) >>> ((2 - nI c) &&& (31 : Int32))) &&& 1).toInt64) (nI r)
theorem zlD_ok : ∀ a, a < 17 → 1 ≤ a → ∀ c, c < 3 → uj (zlD' a c 5) < 32 ∧ ∀ r, r < 5 → (uj (zlD' a c 5)).testBit r = (zrv a r).testBit c := by decide +kernel
/-- the table of the letters is the document's -/
def zLtt (M : zM) : Prop := ∀ i, i < 17 → M.1 40 0 i = zlet i
theorem cp_dots_loop (a c : Nat) (ha : a < 17) (M : zM) (hT : zLtt M) : ∀ (j r : Nat) (d3 d5 d6 : Option zV), r + j = 5 → zev zC_X7_letterDots 18 ([some (zI (nI a)), some (zI (nI c)), some (zJ (zlD' a c r)), d3, some (zI (nI r)), d5, d6], [], M) = some (some (zJ (zlD' a c 5)), M) := by
  intro j
  induction j with
  | zero =>
    intro r d3 d5 d6 e
    rw [bk_X7_letterDots_18, if_pos (by rw [show r = 5 by omega]; decide), bk_X7_letterDots_63, show r = 5 by omega]
  | succ j ih =>
    intro r d3 d5 d6 e
    rw [bk_X7_letterDots_18, show (5 : Int32) = nI 5 from rfl, if_neg (nI_ge (by omega) (by omega)), bk_X7_letterDots_24, if_neg (ix_in ha (by decide)), ix_cl (by omega), hT a ha, bk_X7_letterDots_29, nI_1]
    exact ih (r + 1) _ _ _ (by omega)
theorem cp_letterDots (a c : Nat) (h1 : 1 ≤ a) (ha : a < 17) (M : zM) (hT : zLtt M) : zd_X7_letterDots [zI (nI a), zI (nI c)] M = some (some (zJ (zlD' a c 5)), M) := by
  rw [en_X7_letterDots, bk_X7_letterDots_0, show (1 : Int32) = nI 1 from rfl, if_neg (nI_nlt h1 (by omega)), bk_X7_letterDots_5, show (16 : Int32) = nI 16 from rfl, if_pos (nI_le (by omega) (by omega)), bk_X7_letterDots_13]
  exact cp_dots_loop a c ha M hT 5 0 _ _ _ rfl
theorem zusk : ∀ n, n < 32 → (((nI n).toUInt32 &&& Int32.toUInt32 31).toBitVec % 32).toNat = n := by decide +kernel
theorem ui_zus (x : Int32) (k : Nat) (hk : k < 32) : ui (zus x (nI k)) = ui x / 2 ^ k := by
  have := pk_ushr x (nI k) k (zusk k hk)
  exact this
theorem p32 (i : Nat) : (32 : Nat) ^ i = 2 ^ (i * 5) := by rw [Nat.mul_comm, Nat.pow_mul]
/-- a letter of a word, from the left -/
theorem zrw_at (r : Nat) (hr : r < 5) : ∀ (n u i j : Nat), i < n → j < 4 → (zrw n u r).testBit (4 * i + j) = (zrv (u / 32 ^ (n - 1 - i) % 32) r).testBit j := by
  intro n
  induction n with
  | zero => intro u i j h; omega
  | succ n ih =>
    intro u i j hi hj
    rw [zrw, Nat.testBit_or, Nat.mul_comm, Nat.testBit_two_pow_mul]
    by_cases e : i = n
    · subst e
      rw [decide_eq_true (show 4 * i + j ≥ 4 * i by omega), show 4 * i + j - 4 * i = j by omega, Nat.testBit_lt_two_pow (Nat.lt_of_lt_of_le (zrw_lt i (u / 32) r hr) (Nat.pow_le_pow_right (by decide) (by omega))), Bool.or_false, show i + 1 - 1 - i = 0 by omega, Nat.pow_zero, Nat.div_one, Bool.true_and]
    · rw [decide_eq_false (show ¬ 4 * i + j ≥ 4 * n by omega), Bool.false_and, Bool.false_or, ih (u / 32) i j (by omega) hj, Nat.div_div_eq_div_mul, ← Nat.pow_add_one', show n - 1 - i + 1 = n + 1 - 1 - i by omega]
theorem zrv_3 (a r : Nat) (ha : a < 32) (hr : r < 5) : (zrv a r).testBit 3 = false := Nat.testBit_lt_two_pow (zrv_lt a ha r hr)
/-- the picture of a word, as far as column p of it -/
def zfQ (x : Int32) (s p c r : Nat) : Bool := zfP x s c r && decide (c < s + p)
theorem zfQ_0 (x : Int32) (s c r : Nat) : zfQ x s 0 c r = false := by
  unfold zfQ zfP
  by_cases h : c < s
  · rw [decide_eq_false (show ¬ s ≤ c by omega), Bool.false_and, Bool.false_and]
  · rw [decide_eq_false (show ¬ c < s + 0 by omega), Bool.and_false]
theorem zfQ_s {x : Int32} {s i j c r : Nat} (hr : r < 5) (hi : i < mny x) (hj : j < 3) : zfQ x s (4 * i + j + 1) c r = (zfQ x s (4 * i + j) c r || (decide (c = s + i * 4 + j) && (zrv (ui x / 32 ^ (mny x - 1 - i) % 32) r).testBit j)) := by
  unfold zfQ
  by_cases e : c = s + i * 4 + j
  · rw [decide_eq_true e, decide_eq_true (show c < s + (4 * i + j + 1) by omega), decide_eq_false (show ¬ c < s + (4 * i + j) by omega), Bool.and_true, Bool.and_false, Bool.false_or, Bool.true_and]
    unfold zfP
    rw [decide_eq_true (show s ≤ c by omega), Bool.true_and, show c - s = 4 * i + j by omega]
    exact zrw_at r hr (mny x) (ui x) i j hi (by omega)
  · rw [decide_eq_false e, Bool.false_and, Bool.or_false]
    by_cases q : c < s + (4 * i + j)
    · rw [decide_eq_true q, decide_eq_true (show c < s + (4 * i + j + 1) by omega)]
    · rw [decide_eq_false q, decide_eq_false (show ¬ c < s + (4 * i + j + 1) by omega)]
theorem zfQ_g {x : Int32} {s i c r : Nat} (hr : r < 5) (hi : i < mny x) : zfQ x s (4 * (i + 1)) c r = zfQ x s (4 * i + 3) c r := by
  unfold zfQ
  by_cases e : c = s + (4 * i + 3)
  · have : zfP x s c r = false := by
      unfold zfP
      rw [e, show s + (4 * i + 3) - s = 4 * i + 3 by omega, zrw_at r hr (mny x) (ui x) i 3 hi (by omega), zrv_3 _ _ (Nat.mod_lt _ (by decide)) hr, Bool.and_false]
    rw [this, Bool.false_and, Bool.false_and]
  · by_cases q : c < s + (4 * i + 3)
    · rw [decide_eq_true q, decide_eq_true (show c < s + 4 * (i + 1) by omega)]
    · rw [decide_eq_false q, decide_eq_false (show ¬ c < s + 4 * (i + 1) by omega)]
theorem zfQ_m {x : Int32} {s c r : Nat} (hr : r < 5) : zfQ x s (4 * mny x) c r = zfP x s c r := by
  unfold zfQ
  by_cases q : c < s + 4 * mny x
  · rw [decide_eq_true q, Bool.and_true]
  · unfold zfP
    rw [Nat.testBit_lt_two_pow (Nat.lt_of_lt_of_le (zrw_lt (mny x) (ui x) r hr) (Nat.pow_le_pow_right (by decide) (by omega))), Bool.and_false, Bool.false_and]
/-- only one picture differs, and is the two longs now -/
def zDw (M M' : zM) (k p : Nat) (L R : Int64) : Prop := M'.1 = M.1 ∧ M'.2.2 = M.2.2 ∧ (∀ c m, ¬ (c = 23 ∧ m = k) → ¬ (c = 24 ∧ m = k) → M'.2.1 c m = M.2.1 c m) ∧ M'.2.1 23 k p = L ∧ M'.2.1 24 k p = R ∧ ∀ j, j ≠ p → M'.2.1 23 k j = M.2.1 23 k j ∧ M'.2.1 24 k j = M.2.1 24 k j
theorem zDw_2 (M : zM) (k p : Nat) (L R : Int64) : zDw M (M.1, zst (zst M.2.1 23 k (vp_updL (M.2.1 23 k) p L)) 24 k (vp_updL ((zst M.2.1 23 k (vp_updL (M.2.1 23 k) p L)) 24 k) p R), M.2.2) k p L R := by
  have e : (zst M.2.1 23 k (vp_updL (M.2.1 23 k) p L)) 24 k = M.2.1 24 k := zst_ne M.2.1 _ (by omega)
  refine ⟨rfl, rfl, fun c m h h2 => ?_, ?_, ?_, fun j hj => ⟨?_, ?_⟩⟩
  · dsimp only; rw [zst_ne _ _ h2, zst_ne _ _ h]
  · dsimp only; rw [zst_ne (c := 24) (n := k) (c' := 23) (n' := k) _ _ (by omega), zst_self, uL_s]
  · dsimp only; rw [zst_self, uL_s]
  · dsimp only; rw [zst_ne (c := 24) (n := k) (c' := 23) (n' := k) _ _ (by omega), zst_self, uL_n hj]
  · dsimp only; rw [zst_self, uL_n hj, e]
theorem zDw.tr {M M' M'' : zM} {k p : Nat} {L R L' R' : Int64} (h : zDw M M' k p L R) (h' : zDw M' M'' k p L' R') : zDw M M'' k p L' R' :=
  ⟨h'.1.trans h.1, h'.2.1.trans h.2.1, fun c m a b => (h'.2.2.1 c m a b).trans (h.2.2.1 c m a b), h'.2.2.2.1, h'.2.2.2.2.1, fun j hj => ⟨((h'.2.2.2.2.2 j hj).1).trans (h.2.2.2.2.2 j hj).1, ((h'.2.2.2.2.2 j hj).2).trans (h.2.2.2.2.2 j hj).2⟩⟩
theorem cp_draw_in {x : Int32} {k p s i a : Nat} (hp : p < 220) (hs : s < 22) (hi : i < mny x) (hm : mny x ≤ 6) (ha : a = ui x / 32 ^ (mny x - 1 - i) % 32) (ha1 : 1 ≤ a) (ha2 : a < 17) (M0 : zM) (hT : zLtt M0) : ∀ (j c : Nat) (d8 d9 d10 : Option zV) (M : zM) (L R : Int64), c + j = 3 → zDw M0 M k p L R → zPr L R (zfQ x s (4 * i + c)) →
    ∃ M' L' R', zev zC_X6_draw 43 ([some (zR 6 k), some (zI (nI p)), some (zI (nI s)), some (zI x), some (zI (nI (mny x))), some (zI (nI i)), some (zI (nI a)), some (zI (nI c)), d8, d9, d10], [], M) = zev zC_X6_draw 17 ([some (zR 6 k), some (zI (nI p)), some (zI (nI s)), some (zI x), some (zI (nI (mny x))), some (zI (nI (i + 1))), none, none, none, none, none], [], M') ∧ zDw M0 M' k p L' R' ∧ zPr L' R' (zfQ x s (4 * (i + 1))) := by
  intro j
  induction j with
  | zero =>
    intro c d8 d9 d10 M L R e hd hP
    have ec : c = 3 := by omega
    subst ec
    exact ⟨M, L, R, by rw [bk_X6_draw_43, if_pos (by decide), bk_X6_draw_107, nI_1], hd, hP.cg (fun c' r' _ hr' => (zfQ_g hr' hi).symm)⟩
  | succ j ih =>
    intro c d8 d9 d10 M L R e hd hP
    have hTM : zLtt M := fun i hi => by rw [hd.1]; exact hT i hi
    have hok := zlD_ok a ha2 ha1 c (by omega)
    have hb := zPr_bits (s + i * 4 + c) (zlD' a c 5) hok.1
    have hnew : zPr (L ||| zlb (s + i * 4 + c) (zlD' a c 5)) (R ||| zrb (s + i * 4 + c) (zlD' a c 5)) (zfQ x s (4 * i + (c + 1))) := by
      refine (hP.or hb).cg (fun c' r' _ hr' => ?_)
      rw [show 4 * i + (c + 1) = 4 * i + c + 1 by omega, zfQ_s hr' hi (by omega), hok.2 r' hr', ha]
    have h2 := hd.tr (zDw_2 M k p (L ||| zlb (s + i * 4 + c) (zlD' a c 5)) (R ||| zrb (s + i * 4 + c) (zlD' a c 5)))
    obtain ⟨M', L', R', e1, e2⟩ := ih (c + 1) (some (zJ (zlD' a c 5))) none (some (zI (nI (s + i * 4 + c)))) _ _ _ (by omega) h2 hnew
    refine ⟨M', L', R', ?_, e2⟩
    rw [bk_X6_draw_43, show (3 : Int32) = nI 3 from rfl, if_neg (nI_ge (by omega) (by omega)), bk_X6_draw_49, cp_letterDots a c ha1 ha2 M hTM]
    show zev _ _ _ = _
    rw [zpush, bk_X6_draw_56, if_neg (ix_in hp (by decide)), ix_cl (by omega), hd.2.2.2.1, show (4 : Int32) = nI 4 from rfl, pk_mul, nI_add, nI_add, bk_X6_draw_76, cp_leftBits (s + i * 4 + c) (by omega)]
    show zev _ _ _ = _
    rw [zpush, bk_X6_draw_83, if_neg (ix_in hp (by decide)), ix_cl (by omega), bk_X6_draw_85, if_neg (ix_in hp (by decide)), ix_cl (by omega)]
    dsimp only
    rw [zst_ne (c := 23) (n := k) (c' := 24) (n' := k) M.2.1 _ (by omega), hd.2.2.2.2.1, bk_X6_draw_92, cp_rightBits (s + i * 4 + c) (by omega)]
    show zev _ _ _ = _
    rw [zpush, bk_X6_draw_99, if_neg (ix_in hp (by decide)), ix_cl (by omega), bk_X6_draw_101, nI_1]
    exact e1
theorem zlok_at : ∀ (n u : Nat), zlok n u = true → ∀ i, i < zmn n u → 1 ≤ u / 32 ^ i % 32 ∧ u / 32 ^ i % 32 < 17 := by
  intro n
  induction n with
  | zero => intro u _ i hi; rw [zmn] at hi; omega
  | succ n ih =>
    intro u h i hi
    rw [zlok] at h
    rw [zmn] at hi
    by_cases hu : u = 0
    · rw [if_pos hu] at hi; omega
    · rw [if_neg hu] at h hi
      rw [Bool.and_eq_true, Bool.and_eq_true, decide_eq_true_iff, decide_eq_true_iff] at h
      cases i with
      | zero => rw [Nat.pow_zero, Nat.div_one]; omega
      | succ i =>
        have := ih (u / 32) h.2 i (by omega)
        rw [Nat.div_div_eq_div_mul, ← Nat.pow_add_one'] at this
        exact this
theorem zmn_67 : ∀ (n u : Nat), u < 32 ^ n → zmn (n + 1) u = zmn n u := by
  intro n
  induction n with
  | zero => intro u h; rw [Nat.pow_zero] at h; rw [zmn, zmn, if_pos (by omega)]
  | succ n ih =>
    intro u h
    show (if u = 0 then 0 else zmn (n + 1) (u / 32) + 1) = (if u = 0 then 0 else zmn n (u / 32) + 1)
    split
    · rfl
    · rw [ih (u / 32) (by rw [Nat.pow_succ] at h; omega)]
theorem VL_ui {x : Int32} (h : zVL x) : ui x < 32 ^ 6 := by
  obtain ⟨h1, h2, -⟩ := h
  obtain ⟨n, n1, n2, rfl⟩ := pos_ui h1
  rw [show (1073741824 : Int32) = nI 1073741824 from rfl, nI_ltI n1 (by decide)] at h2
  rw [ui_nI (by omega)]; omega
theorem VL_at {x : Int32} (h : zVL x) {i : Nat} (hi : i < mny x) : 1 ≤ ui x / 32 ^ i % 32 ∧ ui x / 32 ^ i % 32 < 17 := zlok_at 6 (ui x) h.2.2 i (by rw [← zmn_67 6 (ui x) (VL_ui h)]; exact hi)
theorem cp_draw_out {x : Int32} (hx : zVL x) {k p s : Nat} (hp : p < 220) (hs : s < 22) (M0 : zM) (hT : zLtt M0) : ∀ (j i : Nat) (d6 d7 d8 d9 d10 : Option zV) (M : zM) (L R : Int64), i + j = mny x → zDw M0 M k p L R → zPr L R (zfQ x s (4 * i)) →
    ∃ M' L' R', zev zC_X6_draw 17 ([some (zR 6 k), some (zI (nI p)), some (zI (nI s)), some (zI x), some (zI (nI (mny x))), some (zI (nI i)), d6, d7, d8, d9, d10], [], M) = some (none, M') ∧ zDw M0 M' k p L' R' ∧ zPr L' R' (zfP x s) := by
  have hm := VL_m hx
  intro j
  induction j with
  | zero =>
    intro i d6 d7 d8 d9 d10 M L R e hd hP
    have ei : i = mny x := by omega
    subst ei
    exact ⟨M, L, R, by rw [bk_X6_draw_17, if_pos (nI_le (Nat.le_refl _) (by omega)), bk_X6_draw_113], hd, hP.cg (fun c' r' _ hr' => zfQ_m hr')⟩
  | succ j ih =>
    intro i d6 d7 d8 d9 d10 M L R e hd hP
    have ha := VL_at hx (show mny x - 1 - i < mny x by omega)
    have el : (zus x (((nI (mny x) - 1) - nI i) * 5)) &&& 31 = nI (ui x / 32 ^ (mny x - 1 - i) % 32) := by
      rw [show (1 : Int32) = nI 1 from rfl, pk_sub hm.1, pk_sub (by omega), show (5 : Int32) = nI 5 from rfl, pk_mul, zI31, ui_zus x _ (by omega), ← p32]
    obtain ⟨M1, L1, R1, e1, e2, e3⟩ := cp_draw_in (k := k) hp hs (show i < mny x by omega) hm.2 rfl ha.1 ha.2 M0 hT 3 0 none none none M L R rfl hd hP
    obtain ⟨M', L', R', f1, f2⟩ := ih (i + 1) none none none none none M1 L1 R1 (by omega) e2 e3
    refine ⟨M', L', R', ?_, f2⟩
    rw [bk_X6_draw_17, if_neg (nI_ge (by omega) (by omega)), bk_X6_draw_24, el]
    exact e1.trans f1
theorem cp_draw {x : Int32} (hx : zVL x) {k p s : Nat} (hp : p < 220) (hs : s < 22) (M : zM) (hT : zLtt M) : ∃ M' L R, zd_X6_draw [zR 6 k, zI (nI p), zI (nI s), zI x, zI (nI (mny x))] M = some (none, M') ∧ zDw M M' k p L R ∧ zPr L R (zfP x s) := by
  have h0 := zDw_2 M k p 0 0
  obtain ⟨M', L', R', f1, f2⟩ := cp_draw_out hx hp hs M hT (mny x) 0 none none none none none _ 0 0 (by omega) h0 (zPr.z.cg (fun c r _ _ => (zfQ_0 x s c r).symm))
  refine ⟨M', L', R', ?_, f2⟩
  rw [en_X6_draw, bk_X6_draw_0, if_neg (ix_in hp (by decide)), ix_cl (by omega), bk_X6_draw_7, if_neg (ix_in hp (by decide)), ix_cl (by omega), bk_X6_draw_14]
  exact f1
