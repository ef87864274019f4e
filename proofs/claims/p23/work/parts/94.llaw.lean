-- ===== the law: its two loops =====
abbrev zLA (a b c : Option zV) : List (Option zV) := [some (zR 41 0), some (zR 7 0), some (zR 29 0), some (zR 30 0), some (zR 31 0), some (zR 32 0), some (zR 33 0), some (zR 34 0), some (zR 35 0), a, b, c]
abbrev zLE : List zV := [zR 35 0, zR 34 0, zR 33 0, zR 32 0, zR 31 0, zR 30 0, zR 29 0, zR 7 0]
/-- an act, counted -/
theorem la_act {B n : Nat} {M : zM} (hB : B ≤ 58) (h : zLI B M) (hg : zgh M = B) (h42 : M.1 42 0 0 = nI n) (z : Int32) : ∃ M', (∀ (C : Nat → zX) (pc : Nat) (L : List (Option zV)), (if 60 ≤ zgh M then none else (zd_L_acts [zR 7 0, zR 29 0, zR 30 0, zR 31 0, zR 32 0, zR 33 0, zR 34 0, zR 35 0, zI z] M).bind (fun r => zev C pc (L, zpush r.1 [], zgs r.2 (zgh M + 1)))) = zev C pc (L, [zI 1], M')) ∧ zLI (B + 1) M' ∧ zgh M' = B + 1 ∧ M'.1 42 0 0 = nI n := by
  obtain ⟨M1, e1, h1, f1⟩ := lw_acts (by omega) h z
  refine ⟨zgs M1 (B + 1), fun C pc L => ?_, h1.gs _, zgs_gh M1 (by omega), ?_⟩
  · rw [if_neg (by omega), e1, hg]; rfl
  · rw [zgs_fr M1 _ 42 0 (by decide), f1 42 0 (by decide)]; exact h42
theorem la_one {n : Nat} (hn : n < 2 ^ 30) : ∀ (j t : Nat) (d11 : Option zV) (M : zM), t + j = 5 → zLI t M → zgh M = t → M.1 42 0 0 = nI n → ∃ M', zev zC_L_law 77 (zLA (some (zI 1)) (some (zI (nI t))) d11, [], M) = zev zC_L_law 155 (zLA (some (zI 1)) (some (zI (nI 5))) none, [], M') ∧ zLI 5 M' ∧ zgh M' = 5 ∧ M'.1 42 0 0 = nI n := by
  intro j
  induction j with
  | zero =>
    intro t d11 M e h hg h42
    have et : t = 5 := by omega
    subst et
    exact ⟨M, by rw [bk_L_law_77, show (5 : Int32) = nI 5 from rfl, if_pos (nI_le (Nat.le_refl _) (by decide))], h, hg, h42⟩
  | succ j ih =>
    intro t d11 M e h hg h42
    have fin : ∀ s0 s1 : Int32, ∃ M', zev zC_L_law 143 (zLA none (some (zI (nI t))) none, zI s0 :: zI s1 :: zLE, M) = zev zC_L_law 155 (zLA (some (zI 1)) (some (zI (nI 5))) none, [], M') ∧ zLI 5 M' ∧ zgh M' = 5 ∧ M'.1 42 0 0 = nI n := fun s0 s1 => by
      obtain ⟨M1, e1, h1, g1, k1⟩ := la_act (by omega) h hg h42 (s1 + s0)
      obtain ⟨M', e2, h2⟩ := ih (t + 1) none M1 (by omega) h1 g1 k1
      exact ⟨M', by rw [bk_L_law_143, e1, bk_L_law_147, nI_1]; exact e2, h2⟩
    obtain ⟨v, ev⟩ := lw_cell (1 + t) (by omega) (by omega) M h42
    have head : zev zC_L_law 77 (zLA (some (zI 1)) (some (zI (nI t))) d11, [], M) = zev zC_L_law 109 (zLA none (some (zI (nI t))) none, zI v :: zLE, M) := by
      rw [bk_L_law_77, show (5 : Int32) = nI 5 from rfl, if_neg (nI_ge (by omega) (by decide)), bk_L_law_83, if_neg (by decide), bk_L_law_88, show (1 : Int32) + nI t = nI (1 + t) from nI_add 1 t, zbi ev]
    rw [head, bk_L_law_109]
    by_cases c : 3 ≤ t
    · rw [if_pos (show (3 : Int32) ≤ nI t from nI_le (a := 3) c (by omega)), bk_L_law_130]
      by_cases c3 : t = 3
      · rw [if_pos (show nI t = (3 : Int32) by rw [c3]; rfl), bk_L_law_136]
        exact fin _ _
      · rw [if_neg (show ¬ nI t = (3 : Int32) from fun q => c3 ((nI_eq (b := 3) (by omega) (by decide)).mp q)), bk_L_law_141]
        exact fin _ _
    · rw [if_neg (show ¬ (3 : Int32) ≤ nI t from nI_ge (b := 3) (by omega) (by decide)), bk_L_law_126]
      exact fin _ _
theorem la_two {n T : Nat} (hn : n < 2 ^ 30) (hT : T ≤ 53) : ∀ (j t : Nat) (M : zM), t + j = T → zLI (5 + t) M → zgh M = 5 + t → M.1 42 0 0 = nI n → ∃ M', zev zC_L_law 204 (zLA (some (zI 1)) (some (zI (nI T))) (some (zI (nI t))), [], M) = zev zC_L_law 283 (zLA (some (zI 1)) (some (zI (nI T))) (some (zI (nI T))), [], M') ∧ zLI (5 + T) M' := by
  intro j
  induction j with
  | zero =>
    intro t M e h hg h42
    have et : t = T := by omega
    subst et
    exact ⟨M, by rw [bk_L_law_204, if_pos (nI_le (Nat.le_refl _) (by omega))], h⟩
  | succ j ih =>
    intro t M e h hg h42
    obtain ⟨v, ev⟩ := lw_cell (6 + t) (by omega) (by omega) M h42
    obtain ⟨M1, e1, h1, g1, k1⟩ := la_act (by omega) h hg h42 (v ^^^ (7919 * nI t))
    obtain ⟨M', e2, h2⟩ := ih (t + 1) M1 (by omega) (by rw [← Nat.add_assoc]; exact h1) (by rw [g1]; omega) k1
    refine ⟨M', ?_, h2⟩
    rw [bk_L_law_204, if_neg (nI_ge (by omega) (by omega)), bk_L_law_211, if_neg (by decide), bk_L_law_216, show (6 : Int32) + nI t = nI (6 + t) from nI_add 6 t, zbi ev, bk_L_law_238, e1, bk_L_law_248, if_neg (by decide), bk_L_law_251, zbi (lw_isSo (show 5 + t + 1 < 2 ^ 25 by omega) h1), bk_L_law_267, if_neg (by decide), bk_L_law_270, bk_L_law_275, nI_1]
    exact e2
/-- the law answers with 1 -/
theorem la_all {n : Nat} (hn : n < 2 ^ 30) {M : zM} (h : zLI 0 M) (hg : zgh M = 0) (h0 : M.1 29 0 0 = 0) (h42 : M.1 42 0 0 = nI n) : ∃ M', zev zC_L_law 59 (zLA none none none, [], M) = some (some (zI 1), M') := by
  have c0 : zd_X7_count [zR 7 0, zI 0] M = zs 0 M := by
    obtain ⟨σ, U, p, P, hW, hT, hL, hC, h5⟩ := h
    obtain ⟨k0, -⟩ := cq_count hW hC h5
    rw [k0, ← hL.1 0 (by omega), h0]
  obtain ⟨M1, e1, h1, g1, k1⟩ := la_one hn 5 0 none M rfl h hg h42
  obtain ⟨v, ev⟩ := lw_cell 0 (by decide) (show n < 2 ^ 31 by omega) M1 k1
  have el := lw_low v 44 (by decide) (by decide) M1
  have hT : ui v % 2 ^ 31 % 44 < 44 := Nat.mod_lt _ (by decide)
  generalize ui v % 2 ^ 31 % 44 = T at el hT
  obtain ⟨M2, e2, h2⟩ := la_two (T := 10 + T) hn (by omega) (10 + T) 0 M1 (by omega) h1 g1 k1
  have c7 : zd_X7_count [zR 7 0, zI 7] M2 = zs (-1000001) M2 ∧ zd_X7_count [zR 7 0, zI 19] M2 = zs (-1000001) M2 ∧ zd_X7_count [zR 7 0, zI 22] M2 = zs (-1000001) M2 := by
    obtain ⟨σ, U, p, P, hW, hT, hL, hC, h5⟩ := h2
    exact (cq_count hW hC h5).2.2.2.2.2.2.2.2
  refine ⟨M2, ?_⟩
  have e1' : zev zC_L_law 77 (zLA (some (zI 1)) (some (zI 0)) none, [], M) = _ := e1
  have ev' : zd_L_cell [zR 41 0, zI 0] M1 = zs v M1 := ev
  have el' : zd_L_low [zI v, zI 44] M1 = zs (nI T) M1 := el
  have e2' : zev zC_L_law 204 (zLA (some (zI 1)) (some (zI (nI (10 + T)))) (some (zI 0)), [], M1) = _ := e2
  rw [bk_L_law_59, zbi c0, bk_L_law_64, if_pos rfl, bk_L_law_67, bk_L_law_72, e1', bk_L_law_155, if_neg (by decide), bk_L_law_160, zbi (lw_isSo (by decide) h1), bk_L_law_176, if_neg (by decide), bk_L_law_179, bk_L_law_184, zbi ev', bk_L_law_193, zbi el', bk_L_law_198, show (10 : Int32) + nI T = nI (10 + T) from nI_add 10 T, e2',
    bk_L_law_283, if_neg (by decide), bk_L_law_288, zbi c7.1, bk_L_law_294, if_pos rfl, bk_L_law_299, zbi c7.2.1, bk_L_law_305, if_pos rfl, bk_L_law_310, zbi c7.2.2, bk_L_law_316, if_pos rfl, bk_L_law_321, bk_L_law_326, if_pos (Or.inr rfl)]
