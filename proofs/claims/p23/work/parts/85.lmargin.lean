-- ===== the law: a margin, and the best =====
theorem and_m1 (x : Int32) : x &&& (-1) = x := by
  apply ui_inj
  apply Nat.eq_of_testBit_eq
  intro i
  rw [ui_and, Nat.testBit_and, show ui (-1) = 2 ^ 32 - 1 from rfl, Nat.testBit_two_pow_sub_one]
  by_cases h : i < 32
  · rw [decide_eq_true h, Bool.and_true]
  · rw [Nat.testBit_lt_two_pow (Nat.lt_of_lt_of_le (ui_lt x) (Nat.pow_le_pow_right (by decide) (by omega))), Bool.false_and]
theorem stk_NF (σ : Nat → Int32) (b r : Nat) : zstk σ zNF b r = zdc σ b r 2 := by
  unfold zstk
  rw [if_neg (by decide), and_m1]
theorem see_add (a m g : Int32) : (a &&& m) + (g &&& (m ^^^ (-1))) = (g &&& (m ^^^ (-1))) ||| (a &&& m) := by
  apply Int32.toBitVec_inj.mp
  have h : (a.toBitVec &&& m.toBitVec) &&& (g.toBitVec &&& (m.toBitVec ^^^ BitVec.allOnes 32)) = 0#32 := by
    apply BitVec.eq_of_getLsbD_eq
    intro i hi
    rw [BitVec.getLsbD_and, BitVec.getLsbD_and, BitVec.getLsbD_and, BitVec.getLsbD_xor, BitVec.getLsbD_allOnes, BitVec.getLsbD_zero, decide_eq_true hi]
    cases a.toBitVec.getLsbD i <;> cases m.toBitVec.getLsbD i <;> cases g.toBitVec.getLsbD i <;> rfl
  show (a.toBitVec &&& m.toBitVec) + (g.toBitVec &&& (m.toBitVec ^^^ BitVec.allOnes 32)) = (g.toBitVec &&& (m.toBitVec ^^^ BitVec.allOnes 32)) ||| (a.toBitVec &&& m.toBitVec)
  rw [BitVec.add_eq_or_of_and_eq_zero _ _ h, BitVec.or_comm]
theorem r36 {M M' : zM} (h2 : M'.2 = M.2) (h : ∀ q m, ¬ (q = 36 ∧ m = 0) → M'.1 q m = M.1 q m) : (zst M'.1 36 0 (M.1 36 0), M'.2) = M := by
  obtain ⟨a, b⟩ := M
  refine Prod.ext ?_ h2
  funext q m
  by_cases z : q = 36 ∧ m = 0
  · obtain ⟨rfl, rfl⟩ := z
    exact zst_self M'.1 36 0 (a 36 0)
  · exact (zst_ne M'.1 _ z).trans (h q m z)
/-- one word's picture against the sight -/
theorem mg_far {M : zM} {x : Int32} {f : Nat → Int32} {w d to : Nat} {own least sh : Int32} {i : Nat} (hx : zVL x) (hi : i < 10) (hl : M.1 30 0 i = x) (hf : ∀ q, q < 5 → M.1 36 0 q = f q) (ht : to + 4 * mny x ≤ 25) : ∀ (j r : Nat), r + j = 5 →
    zev zC_L_margin 158 ([some (zR 29 0), some (zR 30 0), none, none, some (zI (nI w)), some (zI (nI d)), none, none, some (zR 36 0), some (zI own), some (zI least), some (zI (nI i)), some (zI (nI to)), some (zI (nI (zsm (fun r => zq (f r ^^^ zpx x to r)) r))), some (zI (nI r))], [], M) =
    zev zC_L_margin 195 ([some (zR 29 0), some (zR 30 0), none, none, some (zI (nI w)), some (zI (nI d)), none, none, some (zR 36 0), some (zI own), some (zI least), some (zI (nI i)), some (zI (nI to)), some (zI (nI (zap f x to))), some (zI (nI 5))], [], M) := by
  intro j
  induction j with
  | zero =>
    intro r e
    have er : r = 5 := by omega
    subst er
    rw [bk_L_margin_158, show (5 : Int32) = nI 5 from rfl, if_pos (nI_le (Nat.le_refl _) (by decide))]
    rfl
  | succ j ih =>
    intro r e
    rw [bk_L_margin_158, show (5 : Int32) = nI 5 from rfl, if_neg (nI_ge (by omega) (by decide)), bk_L_margin_164, if_neg (ix_in (show r < 5 by omega) (by decide)), ix_cl (by omega), hf r (by omega), bk_L_margin_171, if_neg (ix_in hi (by decide)), ix_cl (by omega), hl, bk_L_margin_175, zbi (lw_picture hx r to (by omega) ht M), bk_L_margin_182, zbi (lw_ones _ M), bk_L_margin_186, nI_add, nI_1]
    exact ih (r + 1) (by omega)
/-- the shifts of one word -/
theorem mg_word {M : zM} {x : Int32} {f : Nat → Int32} {w d : Nat} {own : Int32} {i : Nat} (hd : d < 2) (hx : zVL x) (hi : i < 10) (hw : w < 10) (hiw : i ≠ w) (hl : M.1 30 0 i = x) (hf : ∀ q, q < 5 → M.1 36 0 q = f q) (a : Nat) (ha : a ≤ 1000) : ∀ (j to : Nat) (d13 d14 : Option zV), to + j = zshf (mny x) d →
    ∃ d12, zev zC_L_margin 131 ([some (zR 29 0), some (zR 30 0), none, none, some (zI (nI w)), some (zI (nI d)), none, none, some (zR 36 0), some (zI own), some (zI (nI (Nat.min a (zmi f x to)))), some (zI (nI i)), some (zI (nI to)), d13, d14], [], M) =
    zev zC_L_margin 217 ([some (zR 29 0), some (zR 30 0), none, none, some (zI (nI w)), some (zI (nI d)), none, none, some (zR 36 0), some (zI own), some (zI (nI (Nat.min a (zmi f x (zshf (mny x) d))))), some (zI (nI i)), d12, none, none], [], M) := by
  have hm := VL_m hx
  have hsl := zshf_le (mny x) d
  intro j
  induction j with
  | zero =>
    intro to d13 d14 e
    have et : to = zshf (mny x) d := by omega
    subst et
    exact ⟨_, by rw [bk_L_margin_131, if_neg (ix_in hi (by decide)), ix_cl (by omega), hl, bk_L_margin_137, zbi (lw_shifts hx d hd M), bk_L_margin_142, if_pos (nI_le (Nat.le_refl _) (by omega))]⟩
  | succ j ih =>
    intro to d13 d14 e
    have ht := zs_lt (show to < zshf (mny x) d by omega)
    have h1 : Nat.min a (zmi f x to) ≤ 1000 := Nat.le_trans (Nat.min_le_left _ _) ha
    have h2 := zap_le f x to
    obtain ⟨d12, e12⟩ := ih (to + 1) none none (by omega)
    refine ⟨d12, ?_⟩
    rw [bk_L_margin_131, if_neg (ix_in hi (by decide)), ix_cl (by omega), hl, bk_L_margin_137, zbi (lw_shifts hx d hd M), bk_L_margin_142, if_neg (nI_ge (by omega) (by omega)), bk_L_margin_145, if_neg (fun z => hiw ((nI_eq (by omega) (by omega)).mp z)), bk_L_margin_152]
    have hfar := mg_far (w := w) (d := d) (own := own) (least := nI (Nat.min a (zmi f x to))) (sh := 0) hx hi hl hf ht 5 0 rfl
    refine Eq.trans hfar ?_
    rw [bk_L_margin_195]
    have e12' := e12
    rw [zmi, show Nat.min a (Nat.min (zmi f x to) (zap f x to)) = Nat.min (Nat.min a (zmi f x to)) (zap f x to) from (Nat.min_assoc _ _ _).symm] at e12'
    by_cases c : Nat.min a (zmi f x to) ≤ zap f x to
    · rw [if_pos (nI_le c (by omega)), bk_L_margin_207, bk_L_margin_209, nI_1]
      rw [show Nat.min (Nat.min a (zmi f x to)) (zap f x to) = Nat.min a (zmi f x to) from Nat.min_eq_left c] at e12'
      exact e12'
    · rw [if_neg (nI_ge (by omega) (by omega)), bk_L_margin_202, bk_L_margin_209, nI_1]
      rw [show Nat.min (Nat.min a (zmi f x to)) (zap f x to) = zap f x to from Nat.min_eq_right (by omega)] at e12'
      exact e12'
/-- all other words -/
theorem mg_all {M : zM} {B N w d : Nat} {σ f : Nat → Int32} {own : Int32} (hd : d < 2) (hW : zW B σ) (hN : N ≤ 10) (hs : σ 0 = nI N) (hw : w < N) (h0 : M.1 29 0 0 = nI N) (hl : ∀ v, v < N → M.1 30 0 v = σ (8 + 2 * v)) (hf : ∀ q, q < 5 → M.1 36 0 q = f q) : ∀ (j i : Nat) (d12 d13 d14 : Option zV), i + j = N →
    zev zC_L_margin 120 ([some (zR 29 0), some (zR 30 0), none, none, some (zI (nI w)), some (zI (nI d)), none, none, some (zR 36 0), some (zI own), some (zI (nI (zmo' σ f w d i))), some (zI (nI i)), d12, d13, d14], [], M) = zs (if zmo' σ f w d N = 1000 then 99 else nI (zmo' σ f w d N) - own) M := by
  intro j
  induction j with
  | zero =>
    intro i d12 d13 d14 e
    have ei : i = N := by omega
    subst ei
    have h1 := zmo'_le σ f w d i
    rw [bk_L_margin_120, h0, if_pos (nI_le (Nat.le_refl _) (by omega)), bk_L_margin_223]
    by_cases c : zmo' σ f w d i = 1000
    · rw [if_pos c, if_pos (by rw [c]; rfl), bk_L_margin_231, bk_L_margin_241]
    · have c3 : ¬ nI (zmo' σ f w d i) = 1000 := fun z => c ((nI_eq (b := 1000) (by omega) (by decide)).mp z)
      rw [if_neg c, if_neg c3, bk_L_margin_236, bk_L_margin_241]
  | succ j ih =>
    intro i d12 d13 d14 e
    have hi : i < N := by omega
    have hx := W_vl hW hN hs hi
    have hm := VL_m hx
    have hsl := zshf_le (mny (σ (8 + 2 * i))) d
    have h1 := zmo'_le σ f w d i
    rw [bk_L_margin_120, h0, if_neg (nI_ge hi (by omega)), bk_L_margin_128]
    by_cases c : i = w
    · have e2 : zmo' σ f w d (i + 1) = zmo' σ f w d i := by rw [zmo', if_pos c]
      have hz : ∀ (d12 : Option zV), zev zC_L_margin 217 ([some (zR 29 0), some (zR 30 0), none, none, some (zI (nI w)), some (zI (nI d)), none, none, some (zR 36 0), some (zI own), some (zI (nI (zmo' σ f w d i))), some (zI (nI i)), d12, none, none], [], M) = zs (if zmo' σ f w d N = 1000 then 99 else nI (zmo' σ f w d N) - own) M := fun d12 => by
        rw [bk_L_margin_217, nI_1, ← e2]
        exact ih (i + 1) none none none (by omega)
      rw [bk_L_margin_131, if_neg (ix_in (show i < 10 by omega) (by decide)), ix_cl (by omega), hl i hi, bk_L_margin_137, zbi (lw_shifts hx d hd M), bk_L_margin_142]
      by_cases c2 : nI (zshf (mny (σ (8 + 2 * i))) d) ≤ 0
      · rw [if_pos c2]; exact hz _
      · rw [if_neg c2, bk_L_margin_145, if_pos (by rw [c])]; exact hz _
    · have e2 : zmo' σ f w d (i + 1) = Nat.min (zmo' σ f w d i) (zmi f (σ (8 + 2 * i)) (zshf (mny (σ (8 + 2 * i))) d)) := by rw [zmo', if_neg c]
      obtain ⟨q, hq⟩ := mg_word (w := w) (own := own) hd hx (show i < 10 by omega) (by omega) c (hl i hi) hf (zmo' σ f w d i) h1 (zshf (mny (σ (8 + 2 * i))) d) 0 none none (by omega)
      rw [show Nat.min (zmo' σ f w d i) (zmi f (σ (8 + 2 * i)) 0) = zmo' σ f w d i from Nat.min_eq_left h1, ← e2] at hq
      refine Eq.trans hq ?_
      rw [bk_L_margin_217, nI_1]
      exact ih (i + 1) none none none (by omega)
/-- the sight, row by row -/
theorem mg_see {M0 : zM} {B N w d s : Nat} {σ : Nat → Int32} {U : Nat → Nat} (hd : d < 2) (hW : zW B σ) (hN : N ≤ 10) (hs : σ 0 = nI N) (hL : zLS M0 σ U) (hw : w < N) (hsh : s + 4 * mny (σ (8 + 2 * w)) ≤ 25) : ∀ (j r : Nat) (d11 d12 d13 d14 : Option zV) (M : zM), r + j = 5 → M.2 = M0.2 → (∀ q m, ¬ (q = 36 ∧ m = 0) → M.1 q m = M0.1 q m) → (∀ q, q < r → M.1 36 0 q = zsee σ zNF (σ (8 + 2 * w)) d s q) →
    ∃ M', zev zC_L_margin 11 ([some (zR 29 0), some (zR 30 0), some (zR 32 0), some (zR 33 0), some (zI (nI w)), some (zI (nI d)), some (zI (nI s)), some (zI (-1)), some (zR 36 0), some (zI (nI (zsm (fun r => zq (zsee σ zNF (σ (8 + 2 * w)) d s r ^^^ zpx (σ (8 + 2 * w)) s r)) r))), some (zI (nI r)), d11, d12, d13, d14], [], M) =
      zev zC_L_margin 112 ([some (zR 29 0), some (zR 30 0), some (zR 32 0), some (zR 33 0), some (zI (nI w)), some (zI (nI d)), some (zI (nI s)), some (zI (-1)), some (zR 36 0), some (zI (nI (zap (zsee σ zNF (σ (8 + 2 * w)) d s) (σ (8 + 2 * w)) s))), some (zI (nI 5)), none, none, none, none], [], M') ∧ M'.2 = M0.2 ∧ (∀ q m, ¬ (q = 36 ∧ m = 0) → M'.1 q m = M0.1 q m) ∧ ∀ q, q < 5 → M'.1 36 0 q = zsee σ zNF (σ (8 + 2 * w)) d s q := by
  have hx := W_vl hW hN hs hw
  obtain ⟨L1, ⟨N', N1, N2, N3⟩, L3, L4, L5⟩ := hL
  have eN : N' = N := by rw [hs, nI_eq (by omega) (by omega)] at N2; exact N2.symm
  subst eN
  intro j
  induction j with
  | zero =>
    intro r d11 d12 d13 d14 M e h2 h3 h4
    have er : r = 5 := by omega
    subst er
    refine ⟨M, ?_, h2, h3, h4⟩
    rw [bk_L_margin_11, show (5 : Int32) = nI 5 from rfl, if_pos (nI_le (Nat.le_refl _) (by decide))]
    rfl
  | succ j ih =>
    intro r d11 d12 d13 d14 M e h2 h3 h4
    have hr : r < 5 := by omega
    have ep : (5 * nI d) + nI r = nI (5 * d + r) := by rw [show (5 : Int32) = nI 5 from rfl, pk_mul, nI_add]
    have i10 := ix_in (show 5 * d + r < 10 by omega) (by decide)
    have c10 : (nI (5 * d + r)).toNatClampNeg = 5 * d + r := ix_cl (by omega)
    rw [bk_L_margin_11, show (5 : Int32) = nI 5 from rfl, if_neg (nI_ge hr (by decide)), bk_L_margin_17, if_neg (by decide), bk_L_margin_22, ep, if_neg i10, c10, h3 33 0 (by decide), (L3 d r hd hr).2.1, bk_L_margin_31, bk_L_margin_50, if_neg (ix_in (show w < 10 by omega) (by decide)), ix_cl (by omega), h3 30 0 (by decide), (N3 w hw).1, bk_L_margin_56, zbi (lw_picture hx r s hr hsh M), bk_L_margin_63, ep, if_neg i10, c10, h3 32 0 (by decide), (L3 d r hd hr).1, bk_L_margin_78, if_neg (ix_in hr (by decide)), ix_cl (by omega), see_add]
    have es : (zpx (σ (8 + 2 * w)) s r &&& (zdc σ d r 2 ^^^ (-1))) ||| (zdc σ d r 1 &&& zdc σ d r 2) = zsee σ zNF (σ (8 + 2 * w)) d s r := by
      unfold zsee
      rw [stk_NF]
    rw [es]
    obtain ⟨M1, m1, a1, b1, c1⟩ := st_i M 36 (upd (M.1 36 0) r (zsee σ zNF (σ (8 + 2 * w)) d s r))
    rw [m1, bk_L_margin_90, if_neg (ix_in hr (by decide)), ix_cl (by omega), b1, upd_s, bk_L_margin_97, zbi (lw_ones _ M1), bk_L_margin_103, nI_add, nI_1]
    exact ih (r + 1) _ _ _ _ M1 (by omega) (a1.trans h2) (fun q m z => (c1 q m z).trans (h3 q m z)) (fun q hq => by
      rw [b1]
      by_cases z : q = r
      · rw [z, upd_s]
      · rw [upd_n z]; exact h4 q (by omega))
theorem lw_margin {M : zM} {B N w d s : Nat} {σ : Nat → Int32} {U : Nat → Nat} (hd : d < 2) (hW : zW B σ) (hN : N ≤ 10) (hs : σ 0 = nI N) (hL : zLS M σ U) (hw : w < N) (hsh : s < zshf (mny (σ (8 + 2 * w))) d) : zd_L_margin [zR 29 0, zR 30 0, zR 32 0, zR 33 0, zI (nI w), zI (nI d), zI (nI s), zI (-1)] M = zs (zmar σ zNF w d s) M := by
  have hL0 := hL
  obtain ⟨L1, ⟨N', N1, N2, N3⟩, L3, L4, L5⟩ := hL
  have eN : N' = N := by rw [hs, nI_eq (by omega) (by omega)] at N2; exact N2.symm
  subst eN
  obtain ⟨M', e1, h2, h3, h4⟩ := mg_see hd hW hN hs hL0 hw (zs_lt hsh) 5 0 none none none none (zsg M) rfl rfl (fun q m z => zst_ne _ _ z) (fun q hq => absurd hq (Nat.not_lt_zero q))
  rw [en_L_margin, bk_L_margin_3]
  have e2 := mg_all (own := nI (zap (zsee σ zNF (σ (8 + 2 * w)) d s) (σ (8 + 2 * w)) s)) hd hW hN hs hw (by rw [h3 29 0 (by decide), L1 0 (by decide)]; exact hs) (fun v hv => by rw [h3 30 0 (by decide)]; exact (N3 v hv).1) h4 N' 0 none none none (by omega)
  have e3 : zev zC_L_margin 11 ([some (zR 29 0), some (zR 30 0), some (zR 32 0), some (zR 33 0), some (zI (nI w)), some (zI (nI d)), some (zI (nI s)), some (zI (-1)), some (zR 36 0), some (zI 0), some (zI 0), none, none, none, none], [], zsg M) = zs (zmar σ zNF w d s) M' := by
    refine Eq.trans e1 ?_
    rw [bk_L_margin_112]
    refine Eq.trans e2 ?_
    unfold zmar zmg
    rw [hs, nI_clamp (by omega)]
  rw [e3]
  show some (some (zI (zmar σ zNF w d s)), _) = _
  rw [r36 h2 h3]
