-- ===== the law: the best shift =====
theorem zLS.fr {M M' : zM} {σ : Nat → Int32} {U : Nat → Nat} (h : zLS M σ U) (hi : ∀ q, 29 ≤ q → q ≤ 34 → M'.1 q 0 = M.1 q 0) (hj : M'.2.1 35 0 = M.2.1 35 0) : zLS M' σ U := by
  obtain ⟨L1, ⟨N, N1, N2, N3⟩, L3, L4, L5⟩ := h
  refine ⟨fun i hi' => by rw [hi 29 (by omega) (by omega)]; exact L1 i hi', ⟨N, N1, N2, fun w hw => by rw [hi 30 (by omega) (by omega), hi 31 (by omega) (by omega)]; exact N3 w hw⟩, fun d r hd hr => by rw [hi 32 (by omega) (by omega), hi 33 (by omega) (by omega), hi 34 (by omega) (by omega)]; exact L3 d r hd hr, ⟨L4.1, fun j hj' => by rw [hj]; exact L4.2 j hj'⟩, L5⟩
theorem zgs_fr (M : zM) (k : Nat) (q m : Nat) (h : q ≠ 43) : (zgs M k).1 q m = M.1 q m := zst_ne M.1 _ (fun z => h z.1)
theorem zgs_gh (M : zM) {k : Nat} (h : k < 2 ^ 31) : zgh (zgs M k) = k := by
  unfold zgh zgs
  dsimp only
  rw [zst_self]
  exact nI_clamp h
theorem zLS.gs {M : zM} {σ : Nat → Int32} {U : Nat → Nat} (h : zLS M σ U) (k : Nat) : zLS (zgs M k) σ U := h.fr (fun q _ _ => zgs_fr M k q 0 (by omega)) rfl
/-- the count of before comes back -/
theorem r43 {M M' : zM} (h2 : M'.2 = M.2) (h : ∀ q m, ¬ (q = 43 ∧ m = 0) → M'.1 q m = M.1 q m) : (zst M'.1 43 0 (M.1 43 0), M'.2) = M := by
  obtain ⟨a, b⟩ := M
  refine Prod.ext ?_ h2
  funext q m
  by_cases z : q = 43 ∧ m = 0
  · obtain ⟨rfl, rfl⟩ := z
    exact zst_self M'.1 43 0 (a 43 0)
  · exact (zst_ne M'.1 _ z).trans (h q m z)
theorem mar_e (σ : Nat → Int32) (w d k : Nat) : ∃ e, 340 ≤ e ∧ e ≤ 1500 ∧ zmar σ zNF w d k = nI e - 500 := by
  unfold zmar zmg
  by_cases c : zmo' σ (zsee σ zNF (σ (8 + 2 * w)) d k) w d (σ 0).toNatClampNeg = 1000
  · rw [if_pos c]
    exact ⟨599, by decide, by decide, by decide⟩
  · rw [if_neg c]
    have h1 := zmo'_le σ (zsee σ zNF (σ (8 + 2 * w)) d k) w d (σ 0).toNatClampNeg
    have h2 := zap_le (zsee σ zNF (σ (8 + 2 * w)) d k) (σ (8 + 2 * w)) k
    generalize zmo' σ (zsee σ zNF (σ (8 + 2 * w)) d k) w d (σ 0).toNatClampNeg = a at h1
    generalize zap (zsee σ zNF (σ (8 + 2 * w)) d k) (σ (8 + 2 * w)) k = b at h2
    refine ⟨a + 500 - b, by omega, by omega, Int32.toInt_inj.mp ?_⟩
    rw [show (500 : Int32) = nI 500 from rfl, pk_sub_toInt (by omega) (by omega), pk_sub_toInt (by omega) (by omega)]
    omega
theorem mar_lt {e e' : Nat} (h : e ≤ 1500) (h' : e' ≤ 1500) : (nI e - 500 : Int32) < nI e' - 500 ↔ e < e' := by
  rw [i_lt, show (500 : Int32) = nI 500 from rfl, pk_sub_toInt (by omega) (by omega), pk_sub_toInt (by omega) (by omega)]
  omega
/-- the law's number for the best shift -/
def zbE (p : Option Nat × Int32) (b : Int32) : Prop := (p.1 = none ∧ p.2 = -1000 ∧ b = -1) ∨ ∃ k e, p.1 = some k ∧ p.2 = nI e - 500 ∧ 340 ≤ e ∧ e ≤ 1500 ∧ k < 26 ∧ b = nI (100 * e + 99 - k)
theorem best_step {m : Nat → Int32} {n e : Nat} {b : Int32} (hn : n < 26) (h : zbE (zbf m (-1000) n) b) (hk : ∀ k, (zbf m (-1000) n).1 = some k → k < n) (h1 : 340 ≤ e) (h2 : e ≤ 1500) (hm : m n = nI e - 500) : zbE (zbf m (-1000) (n + 1)) (if nI (100 * e + 99 - n) ≤ b then b else nI (100 * e + 99 - n)) := by
  rw [zbf, hm]
  rcases h with ⟨a1, a2, a3⟩ | ⟨k, e', a1, a2, a3, a4, a5, a6⟩
  · have c1 : (-1000 : Int32) < nI e - 500 := by
      rw [i_lt, show (500 : Int32) = nI 500 from rfl, pk_sub_toInt (by omega) (by omega), show (-1000 : Int32).toInt = -1000 from rfl]
      omega
    have c2 : ¬ nI (100 * e + 99 - n) ≤ (-1 : Int32) := by
      rw [i_lei, nI_toInt (by omega), show (-1 : Int32).toInt = -1 from rfl]
      omega
    rw [a2, if_pos c1, a3, if_neg c2]
    exact Or.inr ⟨n, e, rfl, rfl, h1, h2, hn, rfl⟩
  · have hkn := hk k a1
    rw [a2, a6]
    by_cases c : e' < e
    · rw [if_pos ((mar_lt a4 h2).mpr c), if_neg (nI_ge (by omega) (by omega))]
      exact Or.inr ⟨n, e, rfl, rfl, h1, h2, hn, rfl⟩
    · rw [if_neg (fun z => c ((mar_lt a4 h2).mp z)), if_pos (nI_le (by omega) (by omega))]
      exact Or.inr ⟨k, e', a1, a2, a3, a4, a5, rfl⟩
theorem lw_best {M : zM} {B N w d : Nat} {σ : Nat → Int32} {U : Nat → Nat} (hd : d < 2) (hW : zW B σ) (hN : N ≤ 10) (hs : σ 0 = nI N) (hL : zLS M σ U) (hw : w < N) : ∃ b, zd_L_best [zR 29 0, zR 30 0, zR 32 0, zR 33 0, zI (nI w), zI (nI d), zI (-1)] M = zs b M ∧ zbE (zbst σ zNF w d) b := by
  have hx := W_vl hW hN hs hw
  have hm := VL_m hx
  obtain ⟨-, ⟨N', N1, N2, N3⟩, -⟩ := id hL
  have eN : N' = N := by rw [hs, nI_eq (by omega) (by omega)] at N2; exact N2.symm
  subst eN
  have h22 : zshf (mny (σ (8 + 2 * w))) d ≤ 22 := by
    unfold zshf
    have := zcol_le d
    omega
  have loop : ∀ (j to : Nat) (d9 : Option zV) (b : Int32) (M1 : zM), to + j = zshf (mny (σ (8 + 2 * w))) d → zLS M1 σ U → M1.2 = M.2 → (∀ q m, ¬ (q = 43 ∧ m = 0) → M1.1 q m = M.1 q m) → zgh M1 = to → zbE (zbf (fun k => zmar σ zNF w d k) (-1000) to) b →
      ∃ b' M', zev zC_L_best 6 ([some (zR 29 0), some (zR 30 0), some (zR 32 0), some (zR 33 0), some (zI (nI w)), some (zI (nI d)), some (zI (-1)), some (zI b), some (zI (nI to)), d9], [], M1) = zs b' M' ∧ M'.2 = M.2 ∧ (∀ q m, ¬ (q = 43 ∧ m = 0) → M'.1 q m = M.1 q m) ∧ zbE (zbst σ zNF w d) b' := by
    intro j
    induction j with
    | zero =>
      intro to d9 b M1 e hL1 h2 h3 hg hb
      have et : to = zshf (mny (σ (8 + 2 * w))) d := by omega
      refine ⟨b, M1, ?_, h2, h3, by unfold zbst; rw [← et]; exact hb⟩
      rw [bk_L_best_6, if_neg (ix_in (show w < 10 by omega) (by decide)), ix_cl (by omega), h3 30 0 (by decide), (N3 w hw).1, bk_L_best_12, zbi (lw_shifts hx d hd M1), bk_L_best_17, if_pos (nI_le (by omega) (by omega)), bk_L_best_72]
    | succ j ih =>
      intro to d9 b M1 e hL1 h2 h3 hg hb
      obtain ⟨ee, e1, e2, e3⟩ := mar_e σ w d to
      have hcall : ∀ (L : List (Option zV)), (zd_L_margin [zR 29 0, zR 30 0, zR 32 0, zR 33 0, zI (nI w), zI (nI d), zI (nI to), zI (-1)] M1).bind (fun r => zev zC_L_best 37 (L, zpush r.1 [zI 100], zgs r.2 (zgh M1 + 1))) = zev zC_L_best 37 (L, [zI (zmar σ zNF w d to), zI 100], zgs M1 (to + 1)) := fun L => by
        rw [lw_margin hd hW hN hs hL1 hw (show to < zshf (mny (σ (8 + 2 * w))) d by omega), hg]
        rfl
      have ev : (((100 : Int32) * (zmar σ zNF w d to + 500)) + 99) - nI to = nI (100 * ee + 99 - to) := by
        rw [e3, Int32.sub_add_cancel, show (100 : Int32) = nI 100 from rfl, pk_mul, show (99 : Int32) = nI 99 from rfl, nI_add, pk_sub (by omega)]
      have hb' := best_step (m := fun k => zmar σ zNF w d k) (n := to) (by omega) hb (fun k hk => zbf_lt _ _ _ _ hk) e1 e2 e3
      obtain ⟨b', M', y1, y2, y3, y4⟩ := ih (to + 1) none (if nI (100 * ee + 99 - to) ≤ b then b else nI (100 * ee + 99 - to)) (zgs M1 (to + 1)) (by omega) (hL1.gs _) h2 (fun q m z => by
        by_cases z2 : q = 43
        · by_cases z3 : m = 0
          · exact absurd ⟨z2, z3⟩ z
          · rw [← h3 q m z]; exact zst_ne M1.1 _ (fun z4 => z3 z4.2)
        · rw [zgs_fr M1 _ q m z2]; exact h3 q m z) (zgs_gh M1 (by omega)) hb'
      refine ⟨b', M', ?_, y2, y3, y4⟩
      rw [bk_L_best_6, if_neg (ix_in (show w < 10 by omega) (by decide)), ix_cl (by omega), h3 30 0 (by decide), (N3 w hw).1, bk_L_best_12, zbi (lw_shifts hx d hd M1), bk_L_best_17, if_neg (nI_ge (by omega) (by omega)), bk_L_best_20, if_neg (by rw [hg]; omega), hcall, bk_L_best_37, ev]
      by_cases c : nI (100 * ee + 99 - to) ≤ b
      · rw [if_pos c] at y1
        rw [if_pos c, bk_L_best_62, bk_L_best_64, nI_1]
        exact y1
      · rw [if_neg c] at y1
        rw [if_neg c, bk_L_best_57, bk_L_best_64, nI_1]
        exact y1
  obtain ⟨b', M', y1, y2, y3, y4⟩ := loop (zshf (mny (σ (8 + 2 * w))) d) 0 none (-1) (zgs M 0) (by omega) (hL.gs 0) rfl (fun q m z => zst_ne M.1 _ z) (zgs_gh M (by decide)) (Or.inl ⟨rfl, rfl, rfl⟩)
  refine ⟨b', ?_, y4⟩
  rw [en_L_best, bk_L_best_0]
  have y1' : zev zC_L_best 6 ([some (zR 29 0), some (zR 30 0), some (zR 32 0), some (zR 33 0), some (zI (nI w)), some (zI (nI d)), some (zI (-1)), some (zI (-1)), some (zI 0), none], [], zgs M 0) = zs b' M' := y1
  rw [y1']
  show some (some (zI b'), _) = _
  rw [r43 y2 y3]
