-- ===== the law: what the class tells is so =====
theorem int_le_mul {a b : Nat} (h : a ≤ 5 * b) (hb : b ≤ 24) : ¬ ((5 : Int32) * nI b < nI a) := by
  rw [show (5 : Int32) = nI 5 from rfl, pk_mul]
  exact nI_nlt h (by omega)
theorem zc2_5 (f : Nat → Nat → Bool) (b : Nat) (h : ∀ c r, r < 5 → ¬ c < zcol b → f c r = false) : zc2 f ≤ 5 * zcol b := by
  rw [zc2_blind f b h]
  refine zsm_le _ (zcol b) (fun i => ?_) 5
  have := zsm_le (fun c => (f c i).toNat) 1 (fun c => by cases f c i <;> decide) (zcol b)
  omega
theorem lw_areWords {B : Nat} {M : zM} (h : zLI B M) : zd_L_areWords [zR 7 0, zR 29 0, zR 30 0, zR 31 0] M = zs 1 M := by
  obtain ⟨σ, U, p, P, hW, hT, hL, hC, h5⟩ := h
  obtain ⟨N, hN, hs, hl⟩ := hL.2.1
  have g0 : M.1 29 0 0 = nI N := (hL.1 0 (by omega)).trans hs
  have nn1 : ¬ (0 ≤ nI N ∧ nI N < σ 0) := fun z => by rw [hs] at z; exact nI_nlt (Nat.le_refl N) (by omega) z.2
  have nn2 : ¬ (0 ≤ (-1 : Int32) ∧ (-1 : Int32) < σ 0) := fun z => absurd z.1 (by decide)
  have loop : ∀ (j v : Nat) (d6 d7 : Option zV), v + j = N → zev zC_L_areWords 34 ([some (zR 7 0), some (zR 29 0), some (zR 30 0), some (zR 31 0), some (zI 1), some (zI (nI v)), d6, d7], [], M) = zs 1 M := by
    intro j
    induction j with
    | zero =>
      intro v d6 d7 e
      have ev : v = N := by omega
      subst ev
      rw [bk_L_areWords_34, g0, if_pos (nI_le (Nat.le_refl _) (by omega)), bk_L_areWords_186, if_pos (Or.inr rfl)]
    | succ j ih =>
      intro v d6 d7 e
      have hv : v < N := by omega
      obtain ⟨l1, l2⟩ := hl v hv
      have hvl := W_vl hW hN hs hv
      have hm := VL_m hvl
      obtain ⟨w0, w1, w2, w3, w4, w5⟩ := cq_word hW hC hN hs hv
      have dots : ∀ (j r : Nat), r + j = 5 → zev zC_L_areWords 53 ([some (zR 7 0), some (zR 29 0), some (zR 30 0), some (zR 31 0), none, some (zI (nI v)), some (zI (nI (zsm (fun r => zq (zrow (σ (8 + 2 * v)) r)) r))), some (zI (nI r))], [], M) = zev zC_L_areWords 83 ([some (zR 7 0), some (zR 29 0), some (zR 30 0), some (zR 31 0), none, some (zI (nI v)), some (zI (nI (zbr (σ (8 + 2 * v))))), some (zI (nI 5))], [], M) := by
        intro j
        induction j with
        | zero =>
          intro r e
          have er : r = 5 := by omega
          subst er
          rw [bk_L_areWords_53, show (5 : Int32) = nI 5 from rfl, if_pos (nI_le (Nat.le_refl _) (by decide))]
          rfl
        | succ j ih =>
          intro r e
          rw [bk_L_areWords_53, show (5 : Int32) = nI 5 from rfl, if_neg (nI_ge (by omega) (by decide)), bk_L_areWords_59, if_neg (ix_in (show v < 10 by omega) (by decide)), ix_cl (by omega), bk_L_areWords_65, l1, show (0 : Int32) = nI 0 from rfl, zbi (lw_picture hvl r 0 (by omega) (by omega) M), bk_L_areWords_71, zbi (lw_ones _ M), bk_L_areWords_74, nI_add, nI_1]
          have e0 : zpx (σ (8 + 2 * v)) 0 r = zrow (σ (8 + 2 * v)) r := by
            rw [show zpx (σ (8 + 2 * v)) 0 r = zrow (σ (8 + 2 * v)) r <<< (0 : Int32) from rfl, Int32.shiftLeft_zero]
          rw [e0]
          exact ih (r + 1) (by omega)
      have in10 := ix_in (show v < 10 by omega) (by decide)
      rw [bk_L_areWords_34, g0, if_neg (nI_ge hv (by omega)), bk_L_areWords_42, if_neg (by decide), bk_L_areWords_47]
      refine (dots 5 0 rfl).trans ?_
      rw [bk_L_areWords_83, zbi w0, bk_L_areWords_90, if_neg in10, ix_cl (by omega), l1, bk_L_areWords_94, if_pos rfl, bk_L_areWords_97, zbi w1, bk_L_areWords_104, if_neg in10, ix_cl (by omega), l1, bk_L_areWords_108, zbi (lw_size hvl M), bk_L_areWords_111, if_pos rfl,
        bk_L_areWords_114, zbi w2, bk_L_areWords_121, if_neg in10, ix_cl (by omega), l1, bk_L_areWords_126, zbi (lw_size hvl M), bk_L_areWords_129, if_pos rfl, bk_L_areWords_135, zbi w3, bk_L_areWords_142, if_pos rfl, bk_L_areWords_147, zbi w4, bk_L_areWords_154, if_neg in10, ix_cl (by omega), l2, bk_L_areWords_158, if_pos rfl, bk_L_areWords_161, zbi w5, bk_L_areWords_168, if_pos rfl, bk_L_areWords_173, bk_L_areWords_178, nI_1]
      exact ih (v + 1) _ _ (by omega)
  rw [en_L_areWords, bk_L_areWords_0, g0, zbi (cq_word_n hW hC _ _ nn1), bk_L_areWords_8, if_pos rfl, bk_L_areWords_13, zbi (cq_word_n hW hC _ _ nn2), bk_L_areWords_19, if_pos rfl, bk_L_areWords_24, bk_L_areWords_29]
  exact loop N 0 _ _ (by omega)
section SO
variable {B : Nat} {M : zM} {σ : Nat → Int32} {U : Nat → Nat} {p : Nat} {P : Nat → Nat → Int32}
abbrev zSL (a b c d e f : Option zV) : List (Option zV) := [some (zR 7 0), some (zR 29 0), none, none, some (zR 32 0), some (zR 33 0), some (zR 34 0), some (zR 35 0), a, b, c, d, e, f]
/-- a bit of a row is a disc's -/
theorem row_disc (σ : Nat → Int32) (b : Nat) (w : Int32) {c r : Nat} (hc : c < 24) (hr : r < 5) : ((zdc σ b r w >>> (nI c &&& (31 : Int32))) &&& 1) = zbI (zfD σ b w c r) := by
  have e := zRw_disc σ b w r hr c
  dsimp only at e
  rw [row_bit _ c (Nat.lt_of_lt_of_le (zRw_lt (zRw_disc σ b w) r hr) (by decide)) hc, e, decide_eq_true hc, Bool.true_and]
/-- the discs of a row -/
theorem so_row (hB : B < 2 ^ 25) (hW : zW B σ) (hL : zLS M σ U) (hC : zCS M σ p P) {d r : Nat} (hd : d < 2) (hr : r < 5) (u : Int32) : ∀ (j c : Nat), c + j = zcol d →
    zev zC_L_isSo 71 (zSL (some (zI 1)) (some (zI (nI d))) (some (zI u)) (some (zI (nI r))) (some (zI (nI (5 * d + r)))) (some (zI (nI c))), [], M) = zev zC_L_isSo 196 (zSL (some (zI 1)) (some (zI (nI d))) (some (zI u)) (some (zI (nI r))) (some (zI (nI (5 * d + r)))) (some (zI (nI (zcol d)))), [], M) := by
  have hcl := zcol_le d
  have in10 := ix_in (show 5 * d + r < 10 by omega) (by decide)
  have c10 : (nI (5 * d + r)).toNatClampNeg = 5 * d + r := ix_cl (by omega)
  obtain ⟨L1, L2, L3⟩ := hL.2.2.1 d r hd hr
  intro j
  induction j with
  | zero =>
    intro c e
    have ec : c = zcol d := by omega
    subst ec
    rw [bk_L_isSo_71, zbi (lw_columns d hd M), bk_L_isSo_78, if_pos (nI_le (Nat.le_refl _) (by omega))]
  | succ j ih =>
    intro c e
    have hc : c < zcol d := by omega
    obtain ⟨q0, q1, q2, q3⟩ := cq_disc hB hW hC hd hc hr
    rw [bk_L_isSo_71, zbi (lw_columns d hd M), bk_L_isSo_78, if_neg (nI_ge hc (by omega)), bk_L_isSo_81, if_neg (by decide), bk_L_isSo_86, zbi q0, bk_L_isSo_97, if_neg in10, c10, L1, bk_L_isSo_102, row_disc σ d 1 (by omega) hr, if_pos rfl,
      bk_L_isSo_110, zbi q1, bk_L_isSo_121, if_neg in10, c10, L2, bk_L_isSo_126, row_disc σ d 2 (by omega) hr, if_pos rfl, bk_L_isSo_134, zbi q2, bk_L_isSo_145, zbi (lw_wear hL.2.2.2.1 hd hr hc), bk_L_isSo_156, hL.2.2.2.2 d r c hd hr hc, if_pos rfl,
      bk_L_isSo_159, zbi q3, bk_L_isSo_170, if_neg in10, c10, L3, bk_L_isSo_175, row_disc σ d 4 (by omega) hr, if_pos rfl, bk_L_isSo_183, bk_L_isSo_188, nI_1]
    exact ih (c + 1) (by omega)
/-- the rows of a blind -/
theorem so_rows (hB : B < 2 ^ 25) (hW : zW B σ) (hL : zLS M σ U) (hC : zCS M σ p P) {d : Nat} (hd : d < 2) : ∀ (j r : Nat) (d12 d13 : Option zV), r + j = 5 →
    zev zC_L_isSo 29 (zSL (some (zI 1)) (some (zI (nI d))) (some (zI (nI (zsm (fun r => zq (zdc σ d r 1 ^^^ zdc σ d r 4)) r)))) (some (zI (nI r))) d12 d13, [], M) = zev zC_L_isSo 248 (zSL (some (zI 1)) (some (zI (nI d))) (some (zI (nI (zsm (fun r => zq (zdc σ d r 1 ^^^ zdc σ d r 4)) 5)))) (some (zI (nI 5))) none none, [], M) := by
  intro j
  induction j with
  | zero =>
    intro r d12 d13 e
    have er : r = 5 := by omega
    subst er
    rw [bk_L_isSo_29, show (5 : Int32) = nI 5 from rfl, if_pos (nI_le (Nat.le_refl _) (by decide))]
  | succ j ih =>
    intro r d12 d13 e
    have hr : r < 5 := by omega
    have ep : (5 : Int32) * nI d + nI r = nI (5 * d + r) := by rw [show (5 : Int32) = nI 5 from rfl, pk_mul, nI_add]
    have in10 := ix_in (show 5 * d + r < 10 by omega) (by decide)
    have c10 : (nI (5 * d + r)).toNatClampNeg = 5 * d + r := ix_cl (by omega)
    obtain ⟨L1, L2, L3⟩ := hL.2.2.1 d r hd hr
    have out : ¬ ((0 ≤ nI (zcol d) ∧ nI (zcol d) < nI (zcol d)) ∧ 0 ≤ nI r ∧ nI r < 5) := fun z => nI_nlt (Nat.le_refl (zcol d)) (by have := zcol_le d; omega) z.1.2
    rw [bk_L_isSo_29, show (5 : Int32) = nI 5 from rfl, if_neg (nI_ge hr (by decide)), bk_L_isSo_35, if_neg (by decide), bk_L_isSo_40, ep, if_neg in10, c10, L1, bk_L_isSo_56, if_neg in10, c10, L3, bk_L_isSo_61, zbi (lw_ones _ M), bk_L_isSo_65, nI_add]
    refine (so_row hB hW hL hC hd hr _ (zcol d) 0 (by omega)).trans ?_
    rw [bk_L_isSo_196, if_neg (by decide), bk_L_isSo_201, zbi (lw_columns d hd M), bk_L_isSo_209, zbi (cq_disc_c hW hC hd _ _ _ out), bk_L_isSo_215, if_pos rfl, bk_L_isSo_220, zbi (cq_disc_4 hW hC hd hr), bk_L_isSo_230, if_pos rfl, bk_L_isSo_235, bk_L_isSo_240, nI_1]
    exact ih (r + 1) _ _ (by omega)
/-- the two blinds -/
theorem so_blinds (hB : B < 2 ^ 25) (hW : zW B σ) (hL : zLS M σ U) (hC : zCS M σ p P) : ∀ (j d : Nat) (a b d10 d11 d12 d13 : Option zV), d + j = 2 →
    zev zC_L_isSo 12 ([some (zR 7 0), some (zR 29 0), a, b, some (zR 32 0), some (zR 33 0), some (zR 34 0), some (zR 35 0), some (zI 1), some (zI (nI d)), d10, d11, d12, d13], [], M) = zev zC_L_isSo 386 (zSL (some (zI 1)) (some (zI (nI 2))) none none none none, [], M) := by
  intro j
  induction j with
  | zero =>
    intro d a b d10 d11 d12 d13 e
    have ed : d = 2 := by omega
    subst ed
    rw [bk_L_isSo_12, show (2 : Int32) = nI 2 from rfl, if_pos (nI_le (Nat.le_refl _) (by decide))]
  | succ j ih =>
    intro d a b d10 d11 d12 d13 e
    have hd : d < 2 := by omega
    have hcl := zcol_le d
    have hx := (zRw_disc σ d 1).xor (zRw_disc σ d 4)
    have un : zsm (fun r => zq (zdc σ d r 1 ^^^ zdc σ d r 4)) 5 = zc2 (fun c r => zfD σ d 1 c r ^^ zfD σ d 4 c r) := hx.q
    have s1 : zsm (fun r => zq (M.1 32 0 (5 * d + r))) 5 = zhv σ d 1 := by
      rw [← hv_q, ← (zRw_disc σ d 1).q]
      exact zsm_congr (fun r hr => by rw [(hL.2.2.1 d r hd hr).1])
    have s2 : zsm (fun r => zq (M.1 33 0 (5 * d + r))) 5 = zhv σ d 2 := by
      rw [← hv_q, ← (zRw_disc σ d 2).q]
      exact zsm_congr (fun r hr => by rw [(hL.2.2.1 d r hd hr).2.1])
    have s4 : M.1 29 0 (4 + d) = σ (4 + d) := hL.1 (4 + d) (by omega)
    have le5 : zc2 (fun c r => zfD σ d 1 c r ^^ zfD σ d 4 c r) ≤ 5 * zcol d := zc2_5 _ d (fun c r _ hc => by unfold zfD; rw [decide_eq_false hc, Bool.false_and, Bool.false_and]; rfl)
    obtain ⟨q0, q1, q2, q3, q8, q9⟩ := cq_blind hW hC hd
    rw [bk_L_isSo_12, show (2 : Int32) = nI 2 from rfl, if_neg (nI_ge hd (by decide)), bk_L_isSo_18, if_neg (by decide), bk_L_isSo_23]
    refine (so_rows hB hW hL hC hd 5 0 _ _ rfl).trans ?_
    have e4 : (4 : Int32) + nI d = nI (4 + d) := by rw [show (4 : Int32) = nI 4 from rfl, nI_add]
    rw [un, bk_L_isSo_248, if_neg (by decide), bk_L_isSo_253, zbi q0, bk_L_isSo_260, zbi (lw_sum_32 d hd M), bk_L_isSo_267, s1, if_pos rfl, bk_L_isSo_270, zbi q1, bk_L_isSo_277, zbi (lw_sum_33 d hd M), bk_L_isSo_284, s2, if_pos rfl, bk_L_isSo_287, zbi q2, bk_L_isSo_294, if_pos rfl,
      bk_L_isSo_299, zbi q3, bk_L_isSo_306, e4, if_neg (ix_in (show 4 + d < 8 by omega) (by decide)), ix_cl (by omega), s4, bk_L_isSo_312, if_pos rfl, bk_L_isSo_315, zbi q8, bk_L_isSo_323, zbi (lw_columns d hd M), bk_L_isSo_328, if_pos rfl, bk_L_isSo_331, zbi q9, bk_L_isSo_339, if_pos rfl, bk_L_isSo_344, bk_L_isSo_349, if_neg (by decide),
      bk_L_isSo_356, zbi q2, bk_L_isSo_363, zbi (lw_columns d hd M), bk_L_isSo_369, if_neg (int_le_mul le5 hcl), bk_L_isSo_373, bk_L_isSo_378, nI_1]
    exact ih (d + 1) _ _ _ _ _ _ (by omega)
end SO
theorem lw_isSo {B : Nat} {M : zM} (hB : B < 2 ^ 25) (h : zLI B M) : zd_L_isSo [zR 7 0, zR 29 0, zR 30 0, zR 31 0, zR 32 0, zR 33 0, zR 34 0, zR 35 0] M = zs 1 M := by
  have hw := lw_areWords h
  obtain ⟨σ, U, p, P, hW, hT, hL, hC, h5⟩ := h
  have g := hL.1
  obtain ⟨k0, k1, k2, k3, k4, k6, k20, k21, -⟩ := cq_count hW hC h5
  have o5 : ¬ ((0 ≤ (0 : Int32) ∧ (0 : Int32) < nI (zcol 0)) ∧ 0 ≤ (5 : Int32) ∧ (5 : Int32) < 5) := fun z => absurd z.2.2 (by decide)
  have od : zd_X7_disc [zR 7 0, zI 0, zI 0, zI 5, zI 0] M = zs (-1000001) M := cq_disc_c hW hC (d := 0) (by omega) 0 5 0 o5
  rw [en_L_isSo, bk_L_isSo_0, zbi hw, bk_L_isSo_7]
  refine (so_blinds hB hW hL hC 2 0 _ _ _ _ _ _ rfl).trans ?_
  rw [bk_L_isSo_386, if_neg (by decide), bk_L_isSo_391, zbi k0, bk_L_isSo_396, if_pos (g 0 (by omega)).symm, bk_L_isSo_402, zbi k1, bk_L_isSo_407, if_pos (by rw [g 4 (by omega), g 5 (by omega)]), bk_L_isSo_417, zbi k2, bk_L_isSo_422, if_pos (g 1 (by omega)).symm, bk_L_isSo_428, zbi k3, bk_L_isSo_433, if_pos (g 2 (by omega)).symm,
    bk_L_isSo_439, zbi k4, bk_L_isSo_444, if_pos (g 3 (by omega)).symm, bk_L_isSo_450, zbi k6, bk_L_isSo_456, if_pos rfl, bk_L_isSo_459, zbi k20, bk_L_isSo_465, if_pos (g 6 (by omega)).symm, bk_L_isSo_472, zbi k21, bk_L_isSo_478, if_pos (g 7 (by omega)).symm, bk_L_isSo_485, zbi (cq_disc_b _ _ _), bk_L_isSo_493, if_pos rfl,
    bk_L_isSo_498, zbi od, bk_L_isSo_506, if_pos rfl, bk_L_isSo_511, zbi (cq_blind_b _), bk_L_isSo_517, if_pos rfl, bk_L_isSo_522, bk_L_isSo_527, if_pos (Or.inr rfl)]
