-- ===== the class: an order of the text is read =====
/-- the text of the class -/
def zTx (M : zM) (n : Nat) (T : Nat → Int32) : Prop := n ≤ 60 ∧ M.1 5 0 1 = nI n ∧ ∀ i, i < n → M.1 26 0 i = T i
def zta (T : Nat → Int32) (n p : Nat) : Int32 := if p < n then T p else 0
theorem co_at {M : zM} {n : Nat} {T : Nat → Int32} (h : zTx M n T) (p : Nat) (hp : p < 2 ^ 20) : zd_X5_at [zR 5 0, zI (nI p)] M = zs (zta T n p) M := by
  obtain ⟨h1, h2, h3⟩ := h
  rw [en_X5_at, bk_X5_at_0, if_neg (nI_pos (by omega)), bk_X5_at_4, h2]
  unfold zta
  by_cases c : p < n
  · rw [if_neg (nI_ge c (by omega)), bk_X5_at_12, show (60 : Int32) = nI 60 from rfl, if_neg (nI_ge (by omega) (by omega)), bk_X5_at_18, if_neg (ix_in (by omega) (by decide)), ix_cl (by omega), bk_X5_at_24, bk_X5_at_28, h3 p c, if_pos c]
  · rw [if_pos (nI_le (by omega) (by omega)), bk_X5_at_27, bk_X5_at_28, if_neg c]
theorem zis_eq {T : Nat → Int32} {n p : Nat} {c : Int32} (hc : c ≠ 0) : (zta T n p = c) ↔ zis T n c c p = true := by
  unfold zta zis
  rw [decide_eq_true_iff]
  by_cases h : p < n
  · rw [if_pos h]
    exact ⟨fun e => ⟨h, by rw [e]; exact Int32.le_refl _, by rw [e]; exact Int32.le_refl _⟩, fun e => Int32.le_antisymm e.2.2 e.2.1⟩
  · rw [if_neg h]
    exact ⟨fun e => absurd e.symm hc, fun e => absurd e.1 h⟩
theorem zta_rng {T : Nat → Int32} {n p : Nat} {l u : Int32} (hl : ¬ l ≤ 0) : (l ≤ zta T n p ∧ zta T n p ≤ u) ↔ zis T n l u p = true := by
  unfold zta zis
  rw [decide_eq_true_iff]
  by_cases h : p < n
  · rw [if_pos h]; exact ⟨fun e => ⟨h, e⟩, fun e => e.2⟩
  · rw [if_neg h]; exact ⟨fun e => absurd e.1 hl, fun e => absurd e.1 h⟩
theorem co_isDigit (T : Nat → Int32) (n p : Nat) (M : zM) : zd_X3_isDigit [zI (zta T n p)] M = zs (zbI (zis T n 48 57 p)) M := by
  have h := zta_rng (T := T) (n := n) (p := p) (l := 48) (u := 57) (by decide)
  rw [en_X3_isDigit, bk_X3_isDigit_0]
  by_cases c1 : zta T n p < 48
  · have : zis T n 48 57 p = false := by cases e : zis T n 48 57 p; rfl; exact absurd (h.mpr e).1 (fun z => i_le.mp z c1)
    rw [if_pos c1, bk_X3_isDigit_16, bk_X3_isDigit_17, if_pos (Or.inl rfl), this]; rfl
  · rw [if_neg c1, bk_X3_isDigit_6]
    by_cases c2 : 57 < zta T n p
    · have : zis T n 48 57 p = false := by cases e : zis T n 48 57 p; rfl; exact absurd (h.mpr e).2 (fun z => i_le.mp z c2)
      rw [if_pos c2, bk_X3_isDigit_16, bk_X3_isDigit_17, if_pos (Or.inl rfl), this]; rfl
    · rw [if_neg c2, bk_X3_isDigit_12, bk_X3_isDigit_17, if_pos (Or.inr rfl), h.mp ⟨i_le.mpr c1, i_le.mpr c2⟩]; rfl
theorem co_isLetter (T : Nat → Int32) (n p : Nat) (M : zM) : zd_X3_isLetter [zI (zta T n p)] M = zs (zbI (zis T n 97 112 p)) M := by
  have h := zta_rng (T := T) (n := n) (p := p) (l := 97) (u := 112) (by decide)
  rw [en_X3_isLetter, bk_X3_isLetter_0]
  by_cases c1 : zta T n p < 97
  · have : zis T n 97 112 p = false := by cases e : zis T n 97 112 p; rfl; exact absurd (h.mpr e).1 (fun z => i_le.mp z c1)
    rw [if_pos c1, bk_X3_isLetter_16, bk_X3_isLetter_17, if_pos (Or.inl rfl), this]; rfl
  · rw [if_neg c1, bk_X3_isLetter_6]
    by_cases c2 : 112 < zta T n p
    · have : zis T n 97 112 p = false := by cases e : zis T n 97 112 p; rfl; exact absurd (h.mpr e).2 (fun z => i_le.mp z c2)
      rw [if_pos c2, bk_X3_isLetter_16, bk_X3_isLetter_17, if_pos (Or.inl rfl), this]; rfl
    · rw [if_neg c2, bk_X3_isLetter_12, bk_X3_isLetter_17, if_pos (Or.inr rfl), h.mp ⟨i_le.mpr c1, i_le.mpr c2⟩]; rfl
/-- while an order is read from st: it is read as far as q -/
def zCr (M0 M : zM) (st q : Nat) (wh kd : Int32) : Prop := M.2 = M0.2 ∧ (∀ c n, ¬ (c = 3 ∧ n = 0) → ¬ (c = 27 ∧ n = 0) → M.1 c n = M0.1 c n) ∧ M.1 3 0 3 = nI (q - st) ∧ M.1 3 0 4 = wh ∧ M.1 3 0 0 = kd
theorem zCr.tx {M0 M : zM} {st q n : Nat} {wh kd : Int32} {T : Nat → Int32} (h : zCr M0 M st q wh kd) (hT : zTx M0 n T) : zTx M n T := ⟨hT.1, by rw [h.2.1 5 0 (by omega) (by omega)]; exact hT.2.1, fun i hi => by rw [h.2.1 26 0 (by omega) (by omega)]; exact hT.2.2 i hi⟩
theorem zCr.pos {M0 M : zM} {st q : Nat} {wh kd : Int32} (h : zCr M0 M st q wh kd) (hq : st ≤ q) : nI st + M.1 3 0 3 = nI q := by rw [h.2.2.1, nI_add, show st + (q - st) = q by omega]
theorem s3_s (M : zM) (k : Nat) (v : Int32) : (zst M.1 3 0 (upd (M.1 3 0) k v)) 3 0 k = v := by rw [zst_self, upd_s]
theorem s3_n (M : zM) (k j : Nat) (v : Int32) (h : j ≠ k) : (zst M.1 3 0 (upd (M.1 3 0) k v)) 3 0 j = M.1 3 0 j := by rw [zst_self, upd_n h]
theorem zCr.len {M0 M : zM} {st q : Nat} {wh kd : Int32} (h : zCr M0 M st q wh kd) (hq : st ≤ q) : zCr M0 (zst M.1 3 0 (upd (M.1 3 0) 3 (M.1 3 0 3 + 1)), M.2) st (q + 1) wh kd :=
  ⟨h.1, fun c n a b => (zst_ne M.1 _ a).trans (h.2.1 c n a b), (s3_s M 3 (M.1 3 0 3 + 1)).trans (by rw [h.2.2.1, nI_1, show q - st + 1 = q + 1 - st by omega]), (s3_n M 3 4 (M.1 3 0 3 + 1) (by decide)).trans h.2.2.2.1, (s3_n M 3 0 (M.1 3 0 3 + 1) (by decide)).trans h.2.2.2.2⟩
theorem zCr.let {M0 M : zM} {st q : Nat} {wh kd : Int32} (h : zCr M0 M st q wh kd) (v : Int32) : zCr M0 (zst M.1 3 0 (upd (M.1 3 0) 1 v), M.2) st q wh kd :=
  ⟨h.1, fun c n a b => (zst_ne M.1 _ a).trans (h.2.1 c n a b), (s3_n M 1 3 v (by decide)).trans h.2.2.1, (s3_n M 1 4 v (by decide)).trans h.2.2.2.1, (s3_n M 1 0 v (by decide)).trans h.2.2.2.2⟩
theorem zCr.wh {M0 M : zM} {st q : Nat} {wh kd : Int32} (h : zCr M0 M st q wh kd) (v : Int32) : zCr M0 (zst M.1 3 0 (upd (M.1 3 0) 4 v), M.2) st q v kd :=
  ⟨h.1, fun c n a b => (zst_ne M.1 _ a).trans (h.2.1 c n a b), (s3_n M 4 3 v (by decide)).trans h.2.2.1, s3_s M 4 v, (s3_n M 4 0 v (by decide)).trans h.2.2.2.2⟩
theorem zCr.num {M0 M : zM} {st q : Nat} {wh kd : Int32} (h : zCr M0 M st q wh kd) (f : Nat → Int32) : zCr M0 (zst M.1 27 0 f, M.2) st q wh kd := by
  have e : (zst M.1 27 0 f) 3 0 = M.1 3 0 := zw_ne M 27 0 f 3 0 (by omega)
  refine ⟨h.1, fun c n a b => (zst_ne M.1 f b).trans (h.2.1 c n a b), ?_, ?_, ?_⟩
  · dsimp only; rw [e]; exact h.2.2.1
  · dsimp only; rw [e]; exact h.2.2.2.1
  · dsimp only; rw [e]; exact h.2.2.2.2
-- letters
theorem zor5 (u t : Nat) (ht : t < 32) : 32 * u ||| t = 32 * u + t := (Nat.two_pow_add_eq_or_of_lt (i := 5) ht u).symm
theorem let_val {x : Int32} (h : 97 ≤ x ∧ x ≤ 112) : ∃ t, 1 ≤ t ∧ t ≤ 16 ∧ x = nI (96 + t) := by
  have i97 : (97 : Int32).toInt = 97 := rfl
  have i112 : (112 : Int32).toInt = 112 := rfl
  obtain ⟨h1, h2⟩ := h
  have hx : ¬ x < 0 := fun z => by
    rw [i_lei, i97] at h1
    rw [i_lt, show (0 : Int32).toInt = 0 from rfl] at z
    omega
  obtain ⟨j, j1, rfl⟩ := nI_of hx
  rw [show (97 : Int32) = nI 97 from rfl, nI_leI (by decide) j1] at h1
  rw [show (112 : Int32) = nI 112 from rfl, nI_leI j1 (by decide)] at h2
  exact ⟨j - 96, by omega, by omega, by rw [show 96 + (j - 96) = j by omega]⟩
theorem let_step {u t : Nat} (hu : u < 32 ^ 5) (ht1 : 1 ≤ t) (ht : t ≤ 16) : (nI u <<< (5 : Int32)) ||| ((nI (96 + t) - 97) + 1) = nI (32 * u + t) ∧ ((32 * nI u + nI (96 + t)) - 97) + 1 = nI (32 * u + t) := by
  have e1 : nI u <<< (5 : Int32) = nI (u * 2 ^ 5) := pk_shlN 5 5 (by decide) (by omega)
  have e2 : (nI (96 + t) - 97) + 1 = nI t := by
    rw [show (97 : Int32) = nI 97 from rfl, pk_sub (by omega), nI_1, show 96 + t - 97 + 1 = t by omega]
  constructor
  · rw [e1, e2]
    refine ui_inj ?_
    rw [ui_or, ui_nI (by omega), ui_nI (by omega), ui_nI (by omega), show u * 2 ^ 5 = 32 * u by omega, zor5 u t (by omega)]
  · rw [show (32 : Int32) = nI 32 from rfl, pk_mul, nI_add, show (97 : Int32) = nI 97 from rfl, pk_sub (by omega), nI_1, show 32 * u + (96 + t) - 97 + 1 = 32 * u + t by omega]
theorem co_letters_loop {n st : Nat} {T : Nat → Int32} (M0 : zM) (hT : zTx M0 n T) (wh kd : Int32) (p : Nat) (hst : st ≤ p) : ∀ (k i u : Nat) (M : zM), i + k = 6 → p + i ≤ n → u < 32 ^ i → zCr M0 M st (p + i) wh kd → M.1 3 0 1 = nI u →
    ∃ M', zev zC_X3_readLetters 7 ([some (zR 3 0), some (zR 5 0), some (zI (nI st)), some (zI (nI i))], [], M) = zs (zbI (decide (p < (zlL T n k (p + i) (nI u)).2))) M' ∧ zCr M0 M' st (zlL T n k (p + i) (nI u)).2 wh kd ∧ M'.1 3 0 1 = (zlL T n k (p + i) (nI u)).1 := by
  have hn := hT.1
  have fin : ∀ (i : Nat) (M : zM), i < 7 → zev zC_X3_readLetters 71 ([some (zR 3 0), some (zR 5 0), some (zI (nI st)), some (zI (nI i))], [], M) = zs (zbI (decide (p < p + i))) M := by
    intro i M hi
    rw [bk_X3_readLetters_71]
    by_cases c : 0 < i
    · rw [if_neg (nI_nle c (by omega)), bk_X3_readLetters_75, bk_X3_readLetters_80, if_pos (Or.inr rfl), decide_eq_true (show p < p + i by omega)]; rfl
    · rw [if_pos (by rw [show i = 0 by omega]; decide), bk_X3_readLetters_79, bk_X3_readLetters_80, if_pos (Or.inl rfl), decide_eq_false (show ¬ p < p + i by omega)]; rfl
  intro k
  induction k with
  | zero =>
    intro i u M e hp hu h h1
    have ei : i = 6 := by omega
    subst ei
    refine ⟨M, ?_, h, h1⟩
    rw [bk_X3_readLetters_7, if_pos (by decide)]
    exact fin 6 M (by omega)
  | succ k ih =>
    intro i u M e hp hu h h1
    rw [bk_X3_readLetters_7, show (6 : Int32) = nI 6 from rfl, if_neg (nI_ge (by omega) (by omega)), bk_X3_readLetters_13, h.pos (by omega), zbi (co_at (h.tx hT) (p + i) (by omega)), bk_X3_readLetters_23, zbi (co_isLetter T n (p + i) M), bk_X3_readLetters_26, zlL]
    cases c : zis T n 97 112 (p + i) with
    | false =>
      rw [if_pos zbI_f, if_neg (show ¬ false = true by decide)]
      exact ⟨M, fin i M (by omega), h, h1⟩
    | true =>
      have hlt := zis_lt c
      obtain ⟨t, t1, t2, et⟩ := let_val ((zta_rng (by decide)).mpr c)
      have eT : T (p + i) = nI (96 + t) := by
        rw [← et]; unfold zta; rw [if_pos hlt]
      have hu5 : u < 32 ^ 5 := Nat.lt_of_lt_of_le hu (Nat.pow_le_pow_right (by decide) (by omega))
      obtain ⟨l1, l2⟩ := let_step hu5 t1 t2
      have hl := h.let (nI (32 * u + t))
      have hl2 := hl.len (by omega)
      rw [if_neg zbI_n, if_pos rfl, eT, l2, bk_X3_readLetters_29, h.pos (by omega), zbi (co_at (h.tx hT) (p + i) (by omega)), et, h1, bk_X3_readLetters_46, l1, bk_X3_readLetters_55, bk_X3_readLetters_65, nI_1]
      exact ih (i + 1) (32 * u + t) _ (by omega) (by omega) (by rw [Nat.pow_succ]; omega) hl2 (by dsimp only; rw [zst_self, upd_n (by decide), zst_self, upd_s])
theorem co_letters {n st : Nat} {T : Nat → Int32} (M0 M : zM) (hT : zTx M0 n T) (wh kd : Int32) (p : Nat) (hst : st ≤ p) (hp : p ≤ n) (h : zCr M0 M st p wh kd) :
    ∃ M', zd_X3_readLetters [zR 3 0, zR 5 0, zI (nI st)] M = zs (zbI (decide (p < (zlL T n 6 p 0).2))) M' ∧ zCr M0 M' st (zlL T n 6 p 0).2 wh kd ∧ M'.1 3 0 1 = (zlL T n 6 p 0).1 := by
  rw [en_X3_readLetters, bk_X3_readLetters_0, bk_X3_readLetters_5]
  exact co_letters_loop M0 hT wh kd p hst 6 0 0 _ rfl hp (by decide) (h.let 0) (s3_s M 1 0)
-- numbers
theorem co_number {n st : Nat} {T : Nat → Int32} (M0 M : zM) (hT : zTx M0 n T) (wh kd : Int32) (q i nd : Nat) (hi : i < 4) (hst : st ≤ q) (hq : q ≤ n) (h : zCr M0 M st q wh kd) :
    (zis T n 48 57 q = false → zev zC_X3_readNumbers 47 ([some (zR 3 0), some (zR 5 0), some (zI (nI st)), some (zI (nI nd)), some (zI (nI i))], [], M) = zs 0 M) ∧
    (zis T n 48 57 q = true → ∃ M', zev zC_X3_readNumbers 47 ([some (zR 3 0), some (zR 5 0), some (zI (nI st)), some (zI (nI nd)), some (zI (nI i))], [], M) = zev zC_X3_readNumbers 3 ([some (zR 3 0), some (zR 5 0), some (zI (nI st)), some (zI (nI nd)), some (zI (nI (i + 1)))], [], M') ∧ zCr M0 M' st (znu T n q).2 wh kd ∧ M'.1 27 0 = upd (M.1 27 0) i (znu T n q).1) := by
  have hn := hT.1
  have head : zev zC_X3_readNumbers 47 ([some (zR 3 0), some (zR 5 0), some (zI (nI st)), some (zI (nI nd)), some (zI (nI i))], [], M) = if zbI (zis T n 48 57 q) = 0 then zev zC_X3_readNumbers 63 ([some (zR 3 0), some (zR 5 0), some (zI (nI st)), some (zI (nI nd)), some (zI (nI i))], [], M) else zev zC_X3_readNumbers 65 ([some (zR 3 0), some (zR 5 0), some (zI (nI st)), some (zI (nI nd)), some (zI (nI i))], [], M) := by
    rw [bk_X3_readNumbers_47, h.pos hst, zbi (co_at (h.tx hT) q (by omega)), bk_X3_readNumbers_57, zbi (co_isDigit T n q M), bk_X3_readNumbers_60]
  constructor
  · intro c
    rw [head, c, if_pos zbI_f, bk_X3_readNumbers_63]
  · intro c
    have hlt := zis_lt c
    have ez : zta T n q = T q := by unfold zta; rw [if_pos hlt]
    have s1 : ∃ M1, zev zC_X3_readNumbers 47 ([some (zR 3 0), some (zR 5 0), some (zI (nI st)), some (zI (nI nd)), some (zI (nI i))], [], M) = zev zC_X3_readNumbers 95 ([some (zR 3 0), some (zR 5 0), some (zI (nI st)), some (zI (nI nd)), some (zI (nI i))], [], M1) ∧ zCr M0 M1 st (q + 1) wh kd ∧ M1.1 27 0 = upd (M.1 27 0) i (T q - 48) := by
      refine ⟨_, ?_, (h.num (upd (M.1 27 0) i (T q - 48))).len hst, ?_⟩
      · rw [head, c, if_neg zbI_n, bk_X3_readNumbers_65, h.pos hst, zbi (co_at (h.tx hT) q (by omega)), ez, bk_X3_readNumbers_81, if_neg (ix_in hi (by decide)), ix_cl (by omega), bk_X3_readNumbers_85]
      · dsimp only
        rw [zst_ne (c := 3) (n := 0) (c' := 27) (n' := 0) _ _ (by omega), zst_self]
    obtain ⟨M1, e1, r1, n1⟩ := s1
    have head2 : zev zC_X3_readNumbers 95 ([some (zR 3 0), some (zR 5 0), some (zI (nI st)), some (zI (nI nd)), some (zI (nI i))], [], M1) = if zbI (zis T n 48 57 (q + 1)) = 0 then zev zC_X3_readNumbers 152 ([some (zR 3 0), some (zR 5 0), some (zI (nI st)), some (zI (nI nd)), some (zI (nI i))], [], M1) else zev zC_X3_readNumbers 111 ([some (zR 3 0), some (zR 5 0), some (zI (nI st)), some (zI (nI nd)), some (zI (nI i))], [], M1) := by
      rw [bk_X3_readNumbers_95, r1.pos (by omega), zbi (co_at (r1.tx hT) (q + 1) (by omega)), bk_X3_readNumbers_105, zbi (co_isDigit T n (q + 1) M1), bk_X3_readNumbers_108]
    unfold znu
    rw [if_pos c]
    cases c2 : zis T n 48 57 (q + 1) with
    | false =>
      rw [if_neg (show ¬ false = true by decide)]
      exact ⟨M1, by rw [e1, head2, c2, if_pos zbI_f, bk_X3_readNumbers_152, nI_1], r1, n1⟩
    | true =>
      have hlt2 := zis_lt c2
      have ez2 : zta T n (q + 1) = T (q + 1) := by unfold zta; rw [if_pos hlt2]
      rw [if_pos rfl]
      have hv : ((T q - 48) * 10 + T (q + 1)) - 48 = 10 * (T q - 48) + T (q + 1) - 48 := by rw [Int32.mul_comm (T q - 48) 10]
      refine ⟨_, ?_, (r1.num (upd (M1.1 27 0) i (10 * (T q - 48) + T (q + 1) - 48))).len (by omega), ?_⟩
      · rw [e1, head2, c2, if_neg zbI_n, bk_X3_readNumbers_111, if_neg (ix_in hi (by decide)), ix_cl (by omega), n1, upd_s, bk_X3_readNumbers_124, r1.pos (by omega), zbi (co_at (r1.tx hT) (q + 1) (by omega)), ez2, bk_X3_readNumbers_137, if_neg (ix_in hi (by decide)), ix_cl (by omega), hv, bk_X3_readNumbers_142, bk_X3_readNumbers_152, nI_1, n1]
      · dsimp only
        rw [zst_ne (c := 3) (n := 0) (c' := 27) (n' := 0) _ _ (by omega), zst_self, n1, upd_u]
theorem znu_no {T : Nat → Int32} {n q : Nat} (c : zis T n 48 57 q = false) : znu T n q = (0, q) := by unfold znu; rw [c, if_neg (by decide)]
theorem znu_yes {T : Nat → Int32} {n q : Nat} (c : zis T n 48 57 q = true) : q < (znu T n q).2 := by
  unfold znu
  rw [c, if_pos rfl]
  split <;> (dsimp only; omega)
theorem co_nums_loop {n st nd : Nat} {T : Nat → Int32} (M0 : zM) (hT : zTx M0 n T) (wh kd : Int32) (hnd : nd ≤ 4) : ∀ (j i q : Nat) (f : Nat → Int32) (M : zM), i + j = nd → 1 ≤ i → st ≤ q → q ≤ n → zCr M0 M st q wh kd → (∀ t, t < i → M.1 27 0 t = f t) →
    ∃ M', zev zC_X3_readNumbers 3 ([some (zR 3 0), some (zR 5 0), some (zI (nI st)), some (zI (nI nd)), some (zI (nI i))], [], M) = zs (zbI (zns T n j i (true, q, f)).1) M' ∧ zCr M0 M' st (zns T n j i (true, q, f)).2.1 wh kd ∧ ((zns T n j i (true, q, f)).1 = true → ∀ t, t < nd → M'.1 27 0 t = (zns T n j i (true, q, f)).2.2 t) := by
  have hn := hT.1
  intro j
  induction j with
  | zero =>
    intro i q f M e hi hst hq h hf
    refine ⟨M, ?_, h, fun _ t ht => hf t (by omega)⟩
    rw [bk_X3_readNumbers_3, if_pos (nI_le (by omega) (by omega)), bk_X3_readNumbers_158]
    rfl
  | succ j ih =>
    intro i q f M e hi hst hq h hf
    rw [zns, if_pos rfl]
    dsimp only
    have head : zev zC_X3_readNumbers 3 ([some (zR 3 0), some (zR 5 0), some (zI (nI st)), some (zI (nI nd)), some (zI (nI i))], [], M) = if zta T n q = 44 then zev zC_X3_readNumbers 37 ([some (zR 3 0), some (zR 5 0), some (zI (nI st)), some (zI (nI nd)), some (zI (nI i))], [], M) else zev zC_X3_readNumbers 35 ([some (zR 3 0), some (zR 5 0), some (zI (nI st)), some (zI (nI nd)), some (zI (nI i))], [], M) := by
      rw [bk_X3_readNumbers_3, if_neg (nI_ge (by omega) (by omega)), bk_X3_readNumbers_9, show (4 : Int32) = nI 4 from rfl, if_neg (nI_ge (by omega) (by omega)), bk_X3_readNumbers_15, if_neg (nI_nle (by omega) (by omega)), bk_X3_readNumbers_20, h.pos hst, zbi (co_at (h.tx hT) q (by omega)), bk_X3_readNumbers_30]
    have h44 := zis_eq (T := T) (n := n) (p := q) (c := 44) (by decide)
    cases c : zis T n 44 44 q with
    | false =>
      rw [if_neg (show ¬ false = true by decide)]
      exact ⟨M, by rw [head, if_neg (fun z => by have := h44.mp z; rw [c] at this; cases this), bk_X3_readNumbers_35]; rfl, h, fun z => by cases z⟩
    | true =>
      have hlt := zis_lt c
      have h1 := h.len hst
      have e27 : ∀ t, (zst M.1 3 0 (upd (M.1 3 0) 3 (M.1 3 0 3 + 1))) 27 0 t = M.1 27 0 t := fun t => by rw [zw_ne M 3 0 _ 27 0 (by omega)]
      rw [if_pos rfl, head, if_pos (h44.mpr c), bk_X3_readNumbers_37]
      obtain ⟨k0, k1⟩ := co_number M0 _ hT wh kd (q + 1) i nd (by omega) (by omega) hlt h1
      cases c2 : zis T n 48 57 (q + 1) with
      | false =>
        rw [znu_no c2, k0 c2]
        dsimp only
        rw [decide_eq_false (by omega), zns_f]
        exact ⟨_, rfl, h1, fun z => by cases z⟩
      | true =>
        obtain ⟨M1, e1, r1, n1⟩ := k1 c2
        have hy := znu_yes c2
        rw [e1, decide_eq_true hy]
        refine ih (i + 1) _ (upd f i (znu T n (q + 1)).1) M1 (by omega) (by omega) (by omega) (znu_le T n (q + 1) hlt).2 r1 (fun t ht => ?_)
        rw [n1]
        by_cases et : t = i
        · rw [et, upd_s, upd_s]
        · rw [upd_n et, upd_n et]
          exact (e27 t).trans (hf t (by omega))
theorem co_nums {n st nd : Nat} {T : Nat → Int32} (M0 M : zM) (hT : zTx M0 n T) (wh kd : Int32) (hnd : nd ≤ 4) (h0 : 1 ≤ nd) (q : Nat) (f : Nat → Int32) (hst : st ≤ q) (hq : q ≤ n) (h : zCr M0 M st q wh kd) :
    ∃ M', zd_X3_readNumbers [zR 3 0, zR 5 0, zI (nI st), zI (nI nd)] M = zs (zbI (znp T n q nd f).1) M' ∧ zCr M0 M' st (znp T n q nd f).2.1 wh kd ∧ ((znp T n q nd f).1 = true → ∀ t, t < nd → M'.1 27 0 t = (znp T n q nd f).2.2 t) := by
  have hn := hT.1
  unfold znp
  have head : zd_X3_readNumbers [zR 3 0, zR 5 0, zI (nI st), zI (nI nd)] M = zev zC_X3_readNumbers 47 ([some (zR 3 0), some (zR 5 0), some (zI (nI st)), some (zI (nI nd)), some (zI (nI 0))], [], M) := by
    rw [en_X3_readNumbers, bk_X3_readNumbers_0, bk_X3_readNumbers_3, if_neg (by rw [i_le, show (0 : Int32) = nI 0 from rfl]; exact fun z => z (nI_lt (by omega) (by omega))), bk_X3_readNumbers_9, if_neg (by decide), bk_X3_readNumbers_15, if_pos (by decide)]
    rfl
  obtain ⟨k0, k1⟩ := co_number M0 M hT wh kd q 0 nd (by omega) hst hq h
  rw [head]
  cases c : zis T n 48 57 q with
  | false =>
    rw [znu_no c, k0 c]
    dsimp only
    rw [decide_eq_false (by omega), zns_f]
    exact ⟨M, rfl, h, fun z => by cases z⟩
  | true =>
    obtain ⟨M1, e1, r1, n1⟩ := k1 c
    have hy := znu_yes c
    rw [e1, decide_eq_true hy]
    refine co_nums_loop M0 hT wh kd hnd (nd - 1) 1 _ (upd f 0 (znu T n q).1) M1 (by omega) (by omega) (by omega) (znu_le T n q hq).2 r1 (fun t ht => ?_)
    rw [n1, show t = 0 by omega, upd_s, upd_s]
