-- ===== the law: words come and go, settings; one act =====
theorem zal_0 (m : Nat) : zal m 0 = true := by
  cases m with
  | zero => rfl
  | succ m => rfl
theorem zal_s {k L a : Nat} (h1 : 1 ≤ a) (h2 : a ≤ 16) : zal (k + 1) (32 * L + a) = zal k L := by
  rw [zal, show (32 * L + a) % 32 = a by omega, if_neg (by omega), if_pos h2, show (32 * L + a) / 32 = L by omega]
theorem letters_loop {y : Nat} (hy : y < 10000000) (M : zM) : ∀ (j i : Nat) (d4 d5 d6 d7 d8 d10 d13 : Option zV) (L : Nat), i + j = y % 4 + 1 → L < 32 ^ i → (∀ m, zal (i + m) L = true) → (0 < i → 0 < L) → ∃ x, zVL x ∧
    zev zC_L_acts 33 ([some (zR 7 0), some (zR 29 0), some (zR 30 0), some (zR 31 0), d4, d5, d6, d7, d8, some (zI (nI y)), d10, some (zI (nI L)), some (zI (nI i)), d13], [], M) =
    zev zC_L_acts 70 ([some (zR 7 0), some (zR 29 0), some (zR 30 0), some (zR 31 0), none, none, none, none, none, some (zI (nI y)), none, some (zI x), some (zI (nI (y % 4 + 1))), none], [], M) := by
  have e4 : zrm (nI y) 4 = nI (y % 4) := pk_rem (by omega) (by decide) (by decide)
  intro j
  induction j with
  | zero =>
    intro i d4 d5 d6 d7 d8 d10 d13 L e h1 h2 h3
    have ei : i = y % 4 + 1 := by omega
    subst ei
    have hL : L < 2 ^ 20 := Nat.lt_of_lt_of_le h1 (Nat.le_trans (Nat.pow_le_pow_right (by decide) (show y % 4 + 1 ≤ 4 by omega)) (by decide))
    refine ⟨nI L, (VL_iff _).mpr ⟨nI_ne0 (h3 (by omega)) (by omega), ?_⟩, ?_⟩
    · rw [ui_nI (by omega)]
      have := h2 (6 - (y % 4 + 1))
      rw [show y % 4 + 1 + (6 - (y % 4 + 1)) = 6 by omega] at this
      exact this
    · rw [bk_L_acts_33, e4, if_pos (nI_lt (by omega) (by omega))]
  | succ j ih =>
    intro i d4 d5 d6 d7 d8 d10 d13 L e h1 h2 h3
    have hL : L < 2 ^ 15 := Nat.lt_of_lt_of_le h1 (Nat.le_trans (Nat.pow_le_pow_right (by decide) (show i ≤ 3 by omega)) (by decide))
    have ea : (4 : Int32) + 3 * nI i = nI (4 + 3 * i) := by rw [show (3 : Int32) = nI 3 from rfl, pk_mul, show (4 : Int32) = nI 4 from rfl, nI_add]
    have ed : nI y / nI (4 + 3 * i) = nI (y / (4 + 3 * i)) := pk_div (by omega) (by omega) (by omega)
    have hq : y / (4 + 3 * i) ≤ y := Nat.div_le_self _ _
    have er : zrm (nI (y / (4 + 3 * i))) 16 = nI (y / (4 + 3 * i) % 16) := pk_rem (by omega) (by decide) (by decide)
    have hr : y / (4 + 3 * i) % 16 < 16 := Nat.mod_lt _ (by decide)
    rw [bk_L_acts_33, e4, if_neg (nI_nlt (by omega) (by omega)), bk_L_acts_42, ea, if_neg (nI_ne0 (by omega) (by omega)), ed, bk_L_acts_58, er, nI_1]
    have ex : ((32 : Int32) * nI L + 1) + nI (y / (4 + 3 * i) % 16) = nI (32 * L + (1 + y / (4 + 3 * i) % 16)) := by
      rw [show (32 : Int32) = nI 32 from rfl, pk_mul, nI_1, nI_add, Nat.add_assoc]
    rw [ex]
    refine ih (i + 1) _ _ _ _ _ _ _ _ (by omega) ?_ (fun m => ?_) (fun _ => by omega)
    · rw [Nat.pow_succ]; omega
    · rw [show i + 1 + m = (i + m) + 1 by omega, zal_s (by omega) (by omega)]
      exact h2 m
theorem same_loop {M : zM} {σ : Nat → Int32} {N : Nat} {x : Int32} (hN : N ≤ 10) (g0 : M.1 29 0 0 = nI N) (hl : ∀ w, w < N → M.1 30 0 w = σ (8 + 2 * w)) : ∀ (j i : Nat) (d4 d5 d6 d7 d8 d9 d10 : Option zV), i + j = N →
    zev zC_L_acts 76 ([some (zR 7 0), some (zR 29 0), some (zR 30 0), some (zR 31 0), d4, d5, d6, d7, d8, d9, d10, some (zI x), some (zI (zbI (zfw σ x i))), some (zI (nI i))], [], M) =
    zev zC_L_acts 111 ([some (zR 7 0), some (zR 29 0), some (zR 30 0), some (zR 31 0), none, none, none, none, none, none, none, some (zI x), some (zI (zbI (zfw σ x N))), some (zI (nI N))], [], M) := by
  intro j
  induction j with
  | zero =>
    intro i d4 d5 d6 d7 d8 d9 d10 e
    have ei : i = N := by omega
    subst ei
    rw [bk_L_acts_76, g0, if_pos (nI_le (Nat.le_refl _) (by omega))]
  | succ j ih =>
    intro i d4 d5 d6 d7 d8 d9 d10 e
    have hi : i < N := by omega
    rw [bk_L_acts_76, g0, if_neg (nI_ge hi (by omega)), bk_L_acts_84]
    have step : ∀ (b : Bool), zfw σ x (i + 1) = b → ∀ (L : List (Option zV)), zev zC_L_acts 103 ([some (zR 7 0), some (zR 29 0), some (zR 30 0), some (zR 31 0), none, none, none, none, none, none, none, some (zI x), none, some (zI (nI i))], [zI (zbI b)], M) = zev zC_L_acts 111 ([some (zR 7 0), some (zR 29 0), some (zR 30 0), some (zR 31 0), none, none, none, none, none, none, none, some (zI x), some (zI (zbI (zfw σ x N))), some (zI (nI N))], [], M) := fun b hb L => by
      rw [bk_L_acts_103, nI_1, ← hb]
      exact ih (i + 1) _ _ _ _ _ _ _ (by omega)
    cases hz : zfw σ x i with
    | true =>
      rw [if_neg (by decide), bk_L_acts_98]
      exact step true (by rw [zfw, hz]; rfl) []
    | false =>
      rw [if_pos (show zbI false = 0 from rfl), bk_L_acts_89, if_neg (ix_in (show i < 10 by omega) (by decide)), ix_cl (by omega), hl i hi, bk_L_acts_93]
      by_cases c : σ (8 + 2 * i) = x
      · rw [if_pos c, bk_L_acts_98]
        exact step true (by rw [zfw, decide_eq_true c, Bool.or_true]) []
      · rw [if_neg c, bk_L_acts_102]
        exact step false (by rw [zfw, hz, decide_eq_false c]; rfl) []
theorem zLS.wd {M M1 M2 M3 : zM} {σ : Nat → Int32} {U : Nat → Nat} {N : Nat} {x : Int32} (h : zLS M σ U) (hN : N < 10) (hs : σ 0 = nI N) (a1 : M1.2 = M.2) (b1 : M1.1 30 0 = upd (M.1 30 0) N x) (c1 : ∀ q m, ¬ (q = 30 ∧ m = 0) → M1.1 q m = M.1 q m) (a2 : M2.2 = M1.2) (b2 : M2.1 31 0 = upd (M1.1 31 0) N 0) (c2 : ∀ q m, ¬ (q = 31 ∧ m = 0) → M2.1 q m = M1.1 q m)
    (a3 : M3.2 = M2.2) (b3 : M3.1 29 0 = upd (M2.1 29 0) 0 (nI (N + 1))) (c3 : ∀ q m, ¬ (q = 29 ∧ m = 0) → M3.1 q m = M2.1 q m) : zLS M3 (zwd σ x N) U := by
  obtain ⟨L1, ⟨N', N1, N2, N3⟩, L3, L4, L5⟩ := h
  have eN : N' = N := by rw [hs, nI_eq (by omega) (by omega)] at N2; exact N2.symm
  subst eN
  have lo : ∀ j, j ≠ 0 → j ≠ 8 + 2 * N' → j ≠ 9 + 2 * N' → zwd σ x N' j = σ j := fun j h0 h1 h2 => by unfold zwd; rw [upd_n h0, upd_n h2, upd_n h1]
  have hz : ∀ d r c, zwd σ x N' (zat d r c) = σ (zat d r c) := fun d r c => by
    have := zat_ge (b := d) (r := r) (c := c)
    exact lo _ (by omega) (by omega) (by omega)
  refine ⟨fun j hj => ?_, ⟨N' + 1, by omega, by unfold zwd; rw [upd_s], fun v hv => ?_⟩, fun d r hd hr => ?_, ⟨L4.1, fun j hj => by rw [a3, a2, a1]; exact L4.2 j hj⟩, fun d r c hd hr hc => by rw [hz]; exact L5 d r c hd hr hc⟩
  · rw [b3]
    by_cases e : j = 0
    · subst e
      unfold zwd
      rw [upd_s, upd_s]
    · rw [upd_n e, lo j e (by omega) (by omega), c2 29 0 (by omega), c1 29 0 (by omega)]; exact L1 j hj
  · rw [c3 30 0 (by omega), c3 31 0 (by omega), c2 30 0 (by omega), b1, b2, c1 31 0 (by omega)]
    by_cases e : v = N'
    · subst e
      rw [upd_s, upd_s]
      unfold zwd
      rw [upd_n (by omega), upd_n (by omega), upd_s, upd_n (by omega), upd_s]
      exact ⟨rfl, rfl⟩
    · rw [upd_n e, upd_n e, lo _ (by omega) (by omega) (by omega), lo _ (by omega) (by omega) (by omega)]
      exact N3 v (by omega)
  · rw [c3 32 0 (by omega), c3 33 0 (by omega), c3 34 0 (by omega), c2 32 0 (by omega), c2 33 0 (by omega), c2 34 0 (by omega), c1 32 0 (by omega), c1 33 0 (by omega), c1 34 0 (by omega), zdc_cg 1 (hz d r), zdc_cg 2 (hz d r), zdc_cg 4 (hz d r)]
    exact L3 d r hd hr
/-- a word comes -/
theorem lw_word {B : Nat} {M : zM} (hB : B ≤ 60) (h : zLI B M) {y : Nat} (hy : y < 10000000) (d4 d5 d6 d7 d8 d10 d11 d12 d13 : Option zV) : ∃ M', zev zC_L_acts 27 ([some (zR 7 0), some (zR 29 0), some (zR 30 0), some (zR 31 0), d4, d5, d6, d7, d8, some (zI (nI y)), d10, d11, d12, d13], [], M) = zs 1 M' ∧ zLI (B + 1) M' ∧ zFy M M' := by
  obtain ⟨σ, U, p, P, hW, hT, hL, hC, h5⟩ := h
  obtain ⟨L1, ⟨N, hN, hs, N3⟩, -⟩ := id hL
  have g0 : M.1 29 0 0 = nI N := (L1 0 (by decide)).trans hs
  obtain ⟨x, hx, e1⟩ := letters_loop hy M (y % 4 + 1) 0 none none none none none none none 0 (by omega) (by decide) (fun m => zal_0 _) (fun z => absurd z (by decide))
  have e2 := same_loop (σ := σ) (x := x) hN g0 (fun w hw => (N3 w hw).1) N 0 none none none none none none none (by omega)
  have head : zev zC_L_acts 27 ([some (zR 7 0), some (zR 29 0), some (zR 30 0), some (zR 31 0), d4, d5, d6, d7, d8, some (zI (nI y)), d10, d11, d12, d13], [], M) = zev zC_L_acts 111 ([some (zR 7 0), some (zR 29 0), some (zR 30 0), some (zR 31 0), none, none, none, none, none, none, none, some (zI x), some (zI (zbI (zfw σ x N))), some (zI (nI N))], [], M) := by
    rw [bk_L_acts_27]
    refine Eq.trans e1 ?_
    rw [bk_L_acts_70]
    exact e2
  rw [head, bk_L_acts_111]
  cases hz : zfw σ x N with
  | true =>
    have t : zXw σ x (-1000002) σ := Or.inr ⟨hx, N, hN, hs, Or.inl ⟨hz, rfl, rfl⟩⟩
    obtain ⟨M3, p', P', e3, hC3, fc⟩ := cl_word hT hW hC t
    refine ⟨M3, ?_, li_behind (hW.mono (by omega)) hT h5 (zFl.rf M) hL fc hC3, zFy.of (zFl.rf M) fc⟩
    rw [if_neg (by decide), bk_L_acts_124, zbi e3, bk_L_acts_130, if_neg (by decide), bk_L_acts_135, bk_L_acts_142, if_pos rfl, bk_L_acts_145, bk_L_acts_150, if_pos (Or.inr rfl)]
  | false =>
    rw [if_pos (show zbI false = 0 from rfl), bk_L_acts_116, g0]
    by_cases c : N = 10
    · have t : zXw σ x (-1000003) σ := Or.inr ⟨hx, N, hN, hs, Or.inr (Or.inl ⟨hz, c, rfl, rfl⟩)⟩
      obtain ⟨M3, p', P', e3, hC3, fc⟩ := cl_word hT hW hC t
      refine ⟨M3, ?_, li_behind (hW.mono (by omega)) hT h5 (zFl.rf M) hL fc hC3, zFy.of (zFl.rf M) fc⟩
      rw [if_pos (by rw [c]; rfl), bk_L_acts_124, zbi e3, bk_L_acts_130, if_pos (by decide), bk_L_acts_140, bk_L_acts_142, if_pos rfl, bk_L_acts_145, bk_L_acts_150, if_pos (Or.inr rfl)]
    · have hN10 : N < 10 := by omega
      obtain ⟨M1, m1, a1, b1, c1⟩ := st_i M 30 (upd (M.1 30 0) N x)
      obtain ⟨M2, m2, a2, b2, c2⟩ := st_i M1 31 (upd (M1.1 31 0) N 0)
      have g2 : M2.1 29 0 = M.1 29 0 := by rw [c2 29 0 (by decide), c1 29 0 (by decide)]
      obtain ⟨M3, m3, a3, b3, c3⟩ := st_i M2 29 (upd (M2.1 29 0) 0 (nI (N + 1)))
      have hL3 := hL.wd hN10 hs a1 b1 c1 a2 b2 c2 a3 b3 c3
      have f3 : zFl M M3 := zFl.of2 ((a3.trans a2).trans a1) (fun q m z => ((c3 q m (by omega)).trans (c2 q m (by omega))).trans (c1 q m (by omega)))
      have t : zXw σ x (nI N) (zwd σ x N) := Or.inr ⟨hx, N, hN, hs, Or.inr (Or.inr ⟨hz, hN10, rfl, rfl⟩)⟩
      have hT3 : zLtt M3 := fun q hq => by rw [f3.2.1 40 0 (by omega)]; exact hT q hq
      obtain ⟨M4, p', P', e4, hC4, fc⟩ := cl_word hT3 hW (f3.cs hC) t
      refine ⟨M4, ?_, li_behind ((W_word hW t).mono (by omega)) hT h5 f3 hL3 fc hC4, zFy.of f3 fc⟩
      have c10 : ¬ nI N = (10 : Int32) := fun z => c ((nI_eq (b := 10) (by omega) (by decide)).mp z)
      have g1 : M1.1 29 0 0 = nI N := by rw [c1 29 0 (by decide)]; exact g0
      have g4 : M4.1 29 0 0 = nI (N + 1) := by rw [fc.1 29 0 (by omega), b3, upd_s]
      rw [if_neg c10, bk_L_acts_151, g0, if_neg (ix_in hN10 (by decide)), ix_cl (by omega), m1, bk_L_acts_158, g1, if_neg (ix_in hN10 (by decide)), ix_cl (by omega), m2, bk_L_acts_164, g2, g0, nI_1, ← g2, m3, bk_L_acts_171, zbi e4, bk_L_acts_177, g4, nI_pred, if_pos rfl, bk_L_acts_185, bk_L_acts_190, if_pos (Or.inr rfl)]
/-- the words behind one move down -/
theorem down_loop {M0 : zM} {n w : Nat} (hn : n < 10) (hw : w ≤ n) (g0 : M0.1 29 0 0 = nI n) : ∀ (j i : Nat) (d4 d5 d6 d7 d8 d9 d10 d13 : Option zV) (M : zM), i + j = n → w ≤ i → M.2 = M0.2 → (∀ q m, ¬ (q = 30 ∧ m = 0) → ¬ (q = 31 ∧ m = 0) → M.1 q m = M0.1 q m) → (∀ v, M.1 30 0 v = if w ≤ v ∧ v < i then M0.1 30 0 (v + 1) else M0.1 30 0 v) → (∀ v, M.1 31 0 v = if w ≤ v ∧ v < i then M0.1 31 0 (v + 1) else M0.1 31 0 v) →
    ∃ M', zev zC_L_acts 239 ([some (zR 7 0), some (zR 29 0), some (zR 30 0), some (zR 31 0), d4, d5, d6, d7, d8, d9, d10, some (zI (nI w)), some (zI (nI i)), d13], [], M) =
      zev zC_L_acts 273 ([some (zR 7 0), some (zR 29 0), some (zR 30 0), some (zR 31 0), none, none, none, none, none, none, none, some (zI (nI w)), some (zI (nI n)), none], [], M') ∧ M'.2 = M0.2 ∧ (∀ q m, ¬ (q = 30 ∧ m = 0) → ¬ (q = 31 ∧ m = 0) → M'.1 q m = M0.1 q m) ∧ (∀ v, M'.1 30 0 v = if w ≤ v ∧ v < n then M0.1 30 0 (v + 1) else M0.1 30 0 v) ∧ ∀ v, M'.1 31 0 v = if w ≤ v ∧ v < n then M0.1 31 0 (v + 1) else M0.1 31 0 v := by
  intro j
  induction j with
  | zero =>
    intro i d4 d5 d6 d7 d8 d9 d10 d13 M e hwi h1 h2 h3 h4
    have ei : i = n := by omega
    subst ei
    exact ⟨M, by rw [bk_L_acts_239, h2 29 0 (by decide) (by decide), g0, if_pos (nI_le (Nat.le_refl _) (by omega))], h1, h2, h3, h4⟩
  | succ j ih =>
    intro i d4 d5 d6 d7 d8 d9 d10 d13 M e hwi h1 h2 h3 h4
    have hi : i < n := by omega
    have e30 : M.1 30 0 (i + 1) = M0.1 30 0 (i + 1) := by rw [h3, if_neg (by omega)]
    have e31 : M.1 31 0 (i + 1) = M0.1 31 0 (i + 1) := by rw [h4, if_neg (by omega)]
    rw [bk_L_acts_239, h2 29 0 (by decide) (by decide), g0, if_neg (nI_ge hi (by omega)), bk_L_acts_247, nI_1, if_neg (ix_in (show i + 1 < 10 by omega) (by decide)), ix_cl (by omega), e30, bk_L_acts_256, if_neg (ix_in (show i < 10 by omega) (by decide)), ix_cl (by omega)]
    obtain ⟨M1, m1, a1, b1, c1⟩ := st_i M 30 (upd (M.1 30 0) i (M0.1 30 0 (i + 1)))
    rw [m1, bk_L_acts_257, nI_1, if_neg (ix_in (show i + 1 < 10 by omega) (by decide)), ix_cl (by omega), c1 31 0 (by decide), e31, bk_L_acts_266, if_neg (ix_in (show i < 10 by omega) (by decide)), ix_cl (by omega)]
    obtain ⟨M2, m2, a2, b2, c2⟩ := st_i M1 31 (upd (M1.1 31 0) i (M0.1 31 0 (i + 1)))
    rw [m2, bk_L_acts_267, nI_1]
    have up : ∀ (f g : Nat → Int32), (∀ v, f v = if w ≤ v ∧ v < i then g (v + 1) else g v) → ∀ v, upd f i (g (i + 1)) v = if w ≤ v ∧ v < i + 1 then g (v + 1) else g v := fun f g hf v => by
      by_cases z : v = i
      · subst z; rw [upd_s, if_pos ⟨hwi, by omega⟩]
      · rw [upd_n z, hf v]
        by_cases z2 : w ≤ v ∧ v < i
        · rw [if_pos z2, if_pos ⟨z2.1, by omega⟩]
        · rw [if_neg z2, if_neg (fun z3 => z2 ⟨z3.1, by omega⟩)]
    exact ih (i + 1) none none none none none none none none M2 (by omega) (by omega) ((a2.trans a1).trans h1) (fun q m z1 z2 => ((c2 q m z2).trans (c1 q m z1)).trans (h2 q m z1 z2)) (by rw [c2 30 0 (by decide), b1]; exact up _ _ h3) (by rw [b2, c1 31 0 (by decide)]; exact up _ _ h4)
/-- a word goes -/
theorem lw_unword {B : Nat} {M : zM} (hB : B ≤ 60) (h : zLI B M) {y : Nat} (hy : y < 10000000) (d4 d5 d6 d7 d8 d10 d11 d12 d13 : Option zV) : ∃ M', zev zC_L_acts 198 ([some (zR 7 0), some (zR 29 0), some (zR 30 0), some (zR 31 0), d4, d5, d6, d7, d8, some (zI (nI y)), d10, d11, d12, d13], [], M) = zs 1 M' ∧ zLI (B + 1) M' ∧ zFy M M' := by
  obtain ⟨σ, U, p, P, hW, hT, hL, hC, h5⟩ := h
  obtain ⟨L1, ⟨N, hN, hs, N3⟩, L3, L4, L5⟩ := id hL
  have g0 : M.1 29 0 0 = nI N := (L1 0 (by decide)).trans hs
  by_cases cN : N = 0
  · subst cN
    have t : zXu σ 0 (-1000001) σ := Or.inl ⟨fun z => by rw [hs] at z; exact absurd z.2 (by decide), rfl, rfl⟩
    obtain ⟨M3, p', P', e3, hC3, fc⟩ := cl_unword hT hW hC t
    refine ⟨M3, ?_, li_behind (hW.mono (by omega)) hT h5 (zFl.rf M) hL fc hC3, zFy.of (zFl.rf M) fc⟩
    rw [bk_L_acts_198, g0, if_pos (show nI 0 = 0 from rfl), bk_L_acts_204, zbi e3, bk_L_acts_209, if_pos rfl, bk_L_acts_214, bk_L_acts_219, if_pos (Or.inr rfl)]
  · obtain ⟨n, rfl⟩ : ∃ n, N = n + 1 := ⟨N - 1, by omega⟩
    have hw : y % (n + 1) < n + 1 := Nat.mod_lt _ (by omega)
    have ew : zrm (nI y) (nI (n + 1)) = nI (y % (n + 1)) := pk_rem (by omega) (by omega) (by omega)
    generalize y % (n + 1) = w at hw ew
    have hne : ¬ nI (n + 1) = 0 := nI_ne0 (by omega) (by omega)
    obtain ⟨M1, m1, a1, b1, c1⟩ := st_i M 29 (upd (M.1 29 0) 0 (nI n))
    obtain ⟨M2, e2, a2, c2, b30, b31⟩ := down_loop (M0 := M1) (n := n) (w := w) (by omega) (by omega) (by rw [b1, upd_s]) (n - w) w none none none none none (some (zI (nI y))) none none M1 (by omega) (Nat.le_refl _) rfl (fun _ _ _ _ => rfl) (fun v => by rw [if_neg (by omega)]) (fun v => by rw [if_neg (by omega)])
    have f2 : zFl M M2 := zFl.of2 (a2.trans a1) (fun q m z => (c2 q m (by omega) (by omega)).trans (c1 q m (by omega)))
    have k30 : M1.1 30 0 = M.1 30 0 := c1 30 0 (by decide)
    have k31 : M1.1 31 0 = M.1 31 0 := c1 31 0 (by decide)
    have hzo : ∀ j, j ≠ 0 → ¬ (8 + 2 * w ≤ j ∧ j < 8 + 2 * n) → zuw σ w n j = σ j := fun j h0 h1 => by unfold zuw; rw [if_neg h0, if_neg h1]
    have hzi : ∀ j, j ≠ 0 → (8 + 2 * w ≤ j ∧ j < 8 + 2 * n) → zuw σ w n j = σ (j + 2) := fun j h0 h1 => by unfold zuw; rw [if_neg h0, if_pos h1]
    have hz : ∀ d r c, zuw σ w n (zat d r c) = σ (zat d r c) := fun d r c => by
      have := zat_ge (b := d) (r := r) (c := c)
      exact hzo _ (by omega) (by omega)
    have hL2 : zLS M2 (zuw σ w n) U := by
      refine ⟨fun j hj => ?_, ⟨n, by omega, by unfold zuw; rw [if_pos rfl], fun v hv => ?_⟩, fun d r hd hr => ?_, ⟨L4.1, fun j hj => by rw [a2, a1]; exact L4.2 j hj⟩, fun d r c hd hr hc => by rw [hz]; exact L5 d r c hd hr hc⟩
      · rw [c2 29 0 (by decide) (by decide), b1]
        by_cases z : j = 0
        · subst z
          unfold zuw
          rw [upd_s, if_pos rfl]
        · rw [upd_n z, hzo j z (by omega)]; exact L1 j hj
      · rw [b30, b31, k30, k31]
        by_cases z : w ≤ v ∧ v < n
        · rw [if_pos z, if_pos z, hzi _ (by omega) (by omega), hzi _ (by omega) (by omega), show 8 + 2 * v + 2 = 8 + 2 * (v + 1) by omega, show 9 + 2 * v + 2 = 9 + 2 * (v + 1) by omega]
          exact N3 (v + 1) (by omega)
        · rw [if_neg z, if_neg z, hzo _ (by omega) (by omega), hzo _ (by omega) (by omega)]
          exact N3 v (by omega)
      · rw [f2.2.1 32 0 |> fun _ => (c2 32 0 (by decide) (by decide)).trans (c1 32 0 (by decide)), (c2 33 0 (by decide) (by decide)).trans (c1 33 0 (by decide)), (c2 34 0 (by decide) (by decide)).trans (c1 34 0 (by decide)), zdc_cg 1 (hz d r), zdc_cg 2 (hz d r), zdc_cg 4 (hz d r)]
        exact L3 d r hd hr
    have t : zXu σ (nI w) (nI n) (zuw σ w n) := Or.inr ⟨w, n, by omega, by omega, rfl, hs, rfl, rfl⟩
    have hT2 : zLtt M2 := fun q hq => by rw [f2.2.1 40 0 (by omega)]; exact hT q hq
    obtain ⟨M3, p', P', e3, hC3, fc⟩ := cl_unword hT2 hW (f2.cs hC) t
    refine ⟨M3, ?_, li_behind ((W_unword hW t).mono (by omega)) hT h5 f2 hL2 fc hC3, zFy.of f2 fc⟩
    have g3 : M3.1 29 0 0 = nI n := by rw [fc.1 29 0 (by omega), c2 29 0 (by decide) (by decide), b1, upd_s]
    rw [bk_L_acts_198, g0, if_neg hne, bk_L_acts_220, g0, if_neg hne, ew, bk_L_acts_226, g0, nI_pred, m1, bk_L_acts_235]
    have e2' : zev zC_L_acts 239 ([some (zR 7 0), some (zR 29 0), some (zR 30 0), some (zR 31 0), none, none, none, none, none, some (zI (nI y)), none, some (zI (nI w)), some (zI (nI w)), none], [], M1) = _ := e2
    rw [e2', bk_L_acts_273, zbi e3, bk_L_acts_279, g3, if_pos rfl, bk_L_acts_285, bk_L_acts_290, if_pos (Or.inr rfl)]
/-- a setting -/
theorem lw_set {B : Nat} {M : zM} (hB : B ≤ 60) (h : zLI B M) {y : Nat} (hy : y < 10000000) (d2 d3 d4 d5 d6 d7 d8 d10 d11 d12 d13 : Option zV) : ∃ M', zev zC_L_acts 350 ([some (zR 7 0), some (zR 29 0), d2, d3, d4, d5, d6, d7, d8, some (zI (nI y)), d10, d11, d12, d13], [], M) = zs 1 M' ∧ zLI (B + 1) M' ∧ zFy M M' := by
  obtain ⟨σ, U, p, P, hW, hT, hL, hC, h5⟩ := h
  have hk : y % 2 < 2 := Nat.mod_lt _ (by decide)
  have e2 : zrm (nI y) 2 = nI (y % 2) := pk_rem (by omega) (by decide) (by decide)
  have e3 : zrm (nI y) 3 = nI (y % 3) := pk_rem (by omega) (by decide) (by decide)
  have ed : nI y / 2 = nI (y / 2) := pk_div (by omega) (by decide) (by decide)
  generalize y % 2 = k at hk e2
  have e6 : (6 : Int32) + nI k = nI (6 + k) := nI_add 6 k
  have i8 := ix_in (show 6 + k < 8 by omega) (by decide)
  have c8 : (nI (6 + k)).toNatClampNeg = 6 + k := ix_cl (by omega)
  have g6 : M.1 29 0 (6 + k) = σ (6 + k) := hL.1 (6 + k) (by omega)
  -- the value
  have val : ∃ (v : Int32) (d9 : Option zV), (nI k + 1 ≤ v ∧ v ≤ (if k = 0 then 9 else 99)) ∧ zev zC_L_acts 363 ([some (zR 7 0), some (zR 29 0), none, none, none, none, none, none, none, some (zI (nI y)), none, some (zI (nI k)), none, none], [zI (σ (6 + k))], M) =
      zev zC_L_acts 408 ([some (zR 7 0), some (zR 29 0), none, none, none, none, none, none, none, d9, none, some (zI (nI k)), some (zI (σ (6 + k))), none], [zI v, zI (nI (6 + k)), zR 29 0], M) := by
    rw [bk_L_acts_363, e6]
    by_cases c : k = 0
    · subst c
      have er : zrm (nI (y / 2)) 9 = nI (y / 2 % 9) := pk_rem (by omega) (by decide) (by decide)
      have hr : y / 2 % 9 < 9 := Nat.mod_lt _ (by decide)
      refine ⟨nI (1 + y / 2 % 9), some (zI (nI y)), ⟨nI_le (a := 1) (by omega) (by omega), ?_⟩, ?_⟩
      · rw [if_pos rfl]; exact nI_le (b := 9) (by omega) (by decide)
      · rw [if_pos (show nI 0 = 0 from rfl), bk_L_acts_376, ed, er, show (1 : Int32) = nI 1 from rfl, nI_add]
    · have k1 : k = 1 := by omega
      subst k1
      have step : ∀ (q : Nat), 0 < q → q ≤ 98 → ∃ (v : Int32) (d9 : Option zV), (nI 1 + 1 ≤ v ∧ v ≤ 99) ∧ zev zC_L_acts 406 ([some (zR 7 0), some (zR 29 0), none, none, none, none, none, none, none, none, none, some (zI (nI 1)), some (zI (σ (6 + 1))), none], [zI (nI q), zI (nI (y / 2)), zI 2, zI (nI (6 + 1)), zR 29 0], M) =
          zev zC_L_acts 408 ([some (zR 7 0), some (zR 29 0), none, none, none, none, none, none, none, d9, none, some (zI (nI 1)), some (zI (σ (6 + 1))), none], [zI v, zI (nI (6 + 1)), zR 29 0], M) := fun q q0 q1 => by
        have er : zrm (nI (y / 2)) (nI q) = nI (y / 2 % q) := pk_rem (by omega) (by omega) (by omega)
        have hr : y / 2 % q < q := Nat.mod_lt _ q0
        refine ⟨nI (2 + y / 2 % q), none, ⟨nI_le (a := 2) (by omega) (by omega), nI_le (b := 99) (by omega) (by decide)⟩, ?_⟩
        rw [bk_L_acts_406, if_neg (nI_ne0 q0 (by omega)), er, bk_L_acts_407, show (2 : Int32) = nI 2 from rfl, nI_add]
      rw [if_neg (by decide), bk_L_acts_388, e3, ed]
      by_cases z : nI (y % 3) = 0
      · obtain ⟨v, d9, h1, h2⟩ := step 98 (by decide) (by decide)
        refine ⟨v, d9, h1, ?_⟩
        rw [if_pos z, bk_L_acts_400]
        exact h2
      · obtain ⟨v, d9, h1, h2⟩ := step 5 (by decide) (by decide)
        refine ⟨v, d9, h1, ?_⟩
        rw [if_neg z, bk_L_acts_405]
        exact h2
  obtain ⟨v, d9, hv, ev⟩ := val
  obtain ⟨M1, m1, a1, b1, c1⟩ := st_i M 29 (upd (M.1 29 0) (6 + k) v)
  have hL1 : zLS M1 (upd σ (6 + k) v) U := hL.g (by omega) a1 b1 c1
  have f1 : zFl M M1 := zFl.of2 a1 (fun q m z => c1 q m (by omega))
  have t : zXe σ (nI k) v (σ (6 + k)) (upd σ (6 + k) v) := Or.inr ⟨k, hk, rfl, hv, rfl, rfl⟩
  have hT1 : zLtt M1 := fun q hq => by rw [f1.2.1 40 0 (by omega)]; exact hT q hq
  obtain ⟨M3, p', P', e4, hC3, fc⟩ := cl_set hT1 hW (f1.cs hC) t
  refine ⟨M3, ?_, li_behind ((W_set hW t).mono (by omega)) hT h5 f1 hL1 fc hC3, zFy.of f1 fc⟩
  have g1 : M1.1 29 0 (6 + k) = v := by rw [b1, upd_s]
  rw [bk_L_acts_350, e2, e6, if_neg i8, c8, g6, ev, bk_L_acts_408, if_neg i8, c8, m1, bk_L_acts_409, e6, if_neg i8, c8, g1, bk_L_acts_419, zbi e4, bk_L_acts_422, if_pos rfl, bk_L_acts_427, bk_L_acts_432, if_pos (Or.inr rfl)]
theorem lw_acts {B : Nat} {M : zM} (hB : B ≤ 60) (h : zLI B M) (z : Int32) : ∃ M', zd_L_acts [zR 7 0, zR 29 0, zR 30 0, zR 31 0, zR 32 0, zR 33 0, zR 34 0, zR 35 0, zI z] M = zs 1 M' ∧ zLI (B + 1) M' ∧ zFz M M' := by
  have hy : ui (z >>> (5 : Int32)) % 2 ^ 31 % 10000000 < 10000000 := Nat.mod_lt _ (by decide)
  have ey := lw_low (z >>> (5 : Int32)) 10000000 (by decide) (by decide) (zgs M 0)
  generalize ui (z >>> (5 : Int32)) % 2 ^ 31 % 10000000 = y at hy ey
  have hv : ui z % 2 ^ 31 % 26 < 26 := Nat.mod_lt _ (by decide)
  have ev := lw_low z 26 (by decide) (by decide) (zgs M 0)
  generalize ui z % 2 ^ 31 % 26 = v at hv ev
  have core : ∃ M', zev zC_L_acts 0 ([some (zR 7 0), some (zR 29 0), some (zR 30 0), some (zR 31 0), some (zR 32 0), some (zR 33 0), some (zR 34 0), some (zR 35 0), some (zI z), none, none, none, none, none], [], zgs M 0) = zs 1 M' ∧ zLI (B + 1) M' ∧ zFy (zgs M 0) M' := by
    rw [bk_L_acts_0]
    have ey' : zd_L_low [zI (z >>> (5 : Int32)), zI 10000000] (zgs M 0) = zs (nI y) (zgs M 0) := ey
    have ev' : zd_L_low [zI z, zI 26] (zgs M 0) = zs (nI v) (zgs M 0) := ev
    rw [zbi ey', bk_L_acts_9, zbi ev', bk_L_acts_18]
    by_cases c6 : 6 ≤ v
    · rw [if_pos (show (6 : Int32) ≤ nI v from nI_le (a := 6) c6 (by omega)), bk_L_acts_191]
      by_cases e6 : v = 6
      · rw [if_pos (by rw [e6]; rfl)]
        exact lw_unword hB (h.gs 0) hy _ _ _ _ _ _ _ _ _
      · have n6 : ¬ nI v = (6 : Int32) := fun q => e6 ((nI_eq (b := 6) (by omega) (by decide)).mp q)
        rw [if_neg n6, bk_L_acts_291]
        by_cases c25 : 25 ≤ v
        · rw [if_pos (show (25 : Int32) ≤ nI v from nI_le (a := 25) c25 (by omega))]
          exact lw_set hB (h.gs 0) hy _ _ _ _ _ _ _ _ _ _ _
        · rw [if_neg (show ¬ (25 : Int32) ≤ nI v from nI_ge (b := 25) (by omega) (by decide)), bk_L_acts_298]
          have way : ∀ (j : Nat), j < 4 → ∃ M', zev zC_L_acts 344 ([none, none, none, none, none, none, none, none, none, some (zI (nI y)), none, none, none, none], [zI (nI j), zR 35 0, zR 34 0, zR 33 0, zR 32 0, zR 31 0, zR 30 0, zR 29 0, zR 7 0], zgs M 0) = zs 1 M' ∧ zLI (B + 1) M' ∧ zFy (zgs M 0) M' := fun j hj => by
            obtain ⟨M1, e1, h1, f1⟩ := lw_discs hB (h.gs 0) j hj y hy
            have hcall : ∀ (L : List (Option zV)), (zd_L_discs [zR 7 0, zR 29 0, zR 30 0, zR 31 0, zR 32 0, zR 33 0, zR 34 0, zR 35 0, zI (nI j), zI (nI y)] (zgs M 0)).bind (fun r => zev zC_L_acts 349 (L, zpush r.1 [], zgs r.2 (zgh (zgs M 0) + 1))) = zev zC_L_acts 349 (L, [zI 1], zgs M1 (zgh (zgs M 0) + 1)) := fun L => by
              rw [e1]; rfl
            refine ⟨zgs M1 (zgh (zgs M 0) + 1), ?_, h1.gs _, fun c m z1 z2 => (zst_ne M1.1 _ z2).trans (f1 c m z1)⟩
            rw [bk_L_acts_344, if_neg (by rw [zgs_gh M (by decide)]; decide), hcall, bk_L_acts_349, if_pos (Or.inr rfl)]
          by_cases c12 : 12 ≤ v
          · rw [if_pos (show (12 : Int32) ≤ nI v from nI_le (a := 12) c12 (by omega)), bk_L_acts_321]
            by_cases c14 : 14 ≤ v
            · rw [if_pos (show (14 : Int32) ≤ nI v from nI_le (a := 14) c14 (by omega)), bk_L_acts_332]
              by_cases c16 : 16 ≤ v
              · rw [if_pos (show (16 : Int32) ≤ nI v from nI_le (a := 16) c16 (by omega)), bk_L_acts_343]
                exact way 3 (by decide)
              · rw [if_neg (show ¬ (16 : Int32) ≤ nI v from nI_ge (b := 16) (by omega) (by decide)), bk_L_acts_339]
                exact way 2 (by decide)
            · rw [if_neg (show ¬ (14 : Int32) ≤ nI v from nI_ge (b := 14) (by omega) (by decide)), bk_L_acts_328]
              exact way 1 (by decide)
          · rw [if_neg (show ¬ (12 : Int32) ≤ nI v from nI_ge (b := 12) (by omega) (by decide)), bk_L_acts_317]
            exact way 0 (by decide)
    · rw [if_neg (show ¬ (6 : Int32) ≤ nI v from nI_ge (b := 6) (by omega) (by decide))]
      exact lw_word hB (h.gs 0) hy _ _ _ _ _ _ _ _ _
  obtain ⟨M', e', h1, h2⟩ := core
  refine ⟨(zst M'.1 43 0 (M.1 43 0), M'.2), ?_, zLI.c43 (M := M') rfl (fun q m z => zst_ne M'.1 _ z) h1, fun c m z => ?_⟩
  · rw [en_L_acts, e']; rfl
  · by_cases z2 : c = 43 ∧ m = 0
    · obtain ⟨rfl, rfl⟩ := z2
      exact zst_self M'.1 43 0 (M.1 43 0)
    · exact ((zst_ne M'.1 _ z2).trans (h2 c m z z2)).trans (zst_ne M.1 _ z2)
