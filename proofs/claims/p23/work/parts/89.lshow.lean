-- ===== the law: a word is shown; what is done to discs =====
theorem zLS.shw {M M1 M2 : zM} {ρ : Nat → Int32} {U : Nat → Nat} {N w : Nat} (h : zLS M ρ U) (hN : N ≤ 10) (hs : ρ 0 = nI N) (hw : w < N) (a1 : M1.2 = M.2) (b1 : M1.1 31 0 = upd (M.1 31 0) w (M.1 31 0 w + 1)) (c1 : ∀ q m, ¬ (q = 31 ∧ m = 0) → M1.1 q m = M.1 q m) (a2 : M2.2 = M1.2) (b2 : M2.1 29 0 = upd (M1.1 29 0) 3 (M1.1 29 0 3 + 1)) (c2 : ∀ q m, ¬ (q = 29 ∧ m = 0) → M2.1 q m = M1.1 q m) : zLS M2 (zsw' ρ w) U := by
  obtain ⟨L1, ⟨N', N1, N2, N3⟩, L3, L4, L5⟩ := h
  have eN : N' = N := by rw [hs, nI_eq (by omega) (by omega)] at N2; exact N2.symm
  subst eN
  have lo : ∀ j, j ≠ 3 → j ≠ 9 + 2 * w → zsw' ρ w j = ρ j := fun j h1 h2 => by unfold zsw'; rw [if_neg h1, if_neg h2]
  have hz : ∀ d r c, zsw' ρ w (zat d r c) = ρ (zat d r c) := fun d r c => lo _ (by have := zat_ge (b := d) (r := r) (c := c); omega) (by have := zat_ge (b := d) (r := r) (c := c); omega)
  have g29 : M1.1 29 0 = M.1 29 0 := c1 29 0 (by omega)
  refine ⟨fun j hj => ?_, ⟨N', N1, by rw [lo 0 (by omega) (by omega)]; exact N2, fun v hv => ?_⟩, fun d r hd hr => ?_, ⟨L4.1, fun j hj => by rw [a2, a1]; exact L4.2 j hj⟩, fun d r c hd hr hc => by rw [hz]; exact L5 d r c hd hr hc⟩
  · rw [b2, g29]
    by_cases e : j = 3
    · subst e
      rw [upd_s, L1 3 (by omega)]
      unfold zsw'
      rw [if_pos rfl]
    · rw [upd_n e, lo j e (by omega)]; exact L1 j hj
  · rw [c2 30 0 (by omega), c2 31 0 (by omega), c1 30 0 (by omega), b1, lo (8 + 2 * v) (by omega) (by omega)]
    refine ⟨(N3 v hv).1, ?_⟩
    by_cases e : v = w
    · subst e
      rw [upd_s, (N3 v hv).2]
      unfold zsw'
      rw [if_neg (by omega), if_pos rfl]
    · rw [upd_n e, lo _ (by omega) (by omega)]; exact (N3 v hv).2
  · rw [c2 32 0 (by omega), c2 33 0 (by omega), c2 34 0 (by omega), c1 32 0 (by omega), c1 33 0 (by omega), c1 34 0 (by omega), zdc_cg 1 (hz d r), zdc_cg 2 (hz d r), zdc_cg 4 (hz d r)]
    exact L3 d r hd hr
theorem lw_show {B : Nat} {M : zM} (hB : B ≤ 60) (h : zLI B M) (hg : zgh M = 0) {d y : Nat} (hd : d < 2) (hy : y < 10000000) (d8 d11 d12 d13 d14 d15 : Option zV) : ∃ M', zev zC_L_discs 321 ([some (zR 7 0), some (zR 29 0), some (zR 30 0), some (zR 31 0), some (zR 32 0), some (zR 33 0), some (zR 34 0), some (zR 35 0), d8, some (zI (nI y)), some (zI (nI d)), d11, d12, d13, d14, d15], [], M) = zs 1 M' ∧ zLI (B + 1) M' ∧ zFy M M' := by
  obtain ⟨σ, U, p, P, hW, hT, hL, hC, h5⟩ := h
  obtain ⟨L1, ⟨N, hN, hs, N3⟩, -⟩ := id hL
  have g0 : M.1 29 0 0 = nI N := (L1 0 (by decide)).trans hs
  have hB25 : B < 2 ^ 25 := by omega
  by_cases cN : N = 0
  · subst cN
    have t : zXs σ 0 (nI d) (-1000001) σ := Or.inl ⟨Or.inl (fun z => by rw [hs] at z; exact absurd z.2 (by decide)), rfl, rfl⟩
    obtain ⟨M3, p', P', e3, hC3, fc⟩ := cl_show hB25 hT hW hC t
    refine ⟨M3, ?_, li_behind (hW.mono (by omega)) hT h5 (zFl.rf M) hL fc hC3, zFy.of (zFl.rf M) fc⟩
    rw [bk_L_discs_321, g0, if_pos (show nI 0 = 0 from rfl), bk_L_discs_327, zbi e3, bk_L_discs_334, if_pos rfl, bk_L_discs_339, bk_L_discs_344, if_pos (Or.inr rfl)]
  · have hw : y / 2 % N < N := Nat.mod_lt _ (by omega)
    have ew : zrm (nI y / 2) (nI N) = nI (y / 2 % N) := by
      rw [show nI y / 2 = nI (y / 2) from pk_div (by omega) (by decide) (by decide)]
      exact pk_rem (by omega) (by omega) (by omega)
    generalize y / 2 % N = w at hw ew
    have hne : ¬ nI N = 0 := nI_ne0 (by omega) (by omega)
    have hxv := W_vl hW hN hs hw
    have hm := VL_m hxv
    obtain ⟨b, eb, hb⟩ := lw_best hd hW hN hs hL hw
    -- behind the best
    have hL1 : zLS (zgs M 1) σ U := hL.gs 1
    have hC1 : zCS (zgs M 1) σ p P := zCS.lo (M := M) rfl (fun q m z => zgs_fr M 1 q m (by omega)) hC
    have hT1 : zLtt (zgs M 1) := fun q hq => by rw [zgs_fr M 1 40 0 (by decide)]; exact hT q hq
    have h51 : (zgs M 1).1 5 0 1 = 0 := by rw [zgs_fr M 1 5 0 (by decide)]; exact h5
    have fy1 : ∀ {M'}, zFy (zgs M 1) M' → zFy M M' := fun f c m z z2 => (f c m z z2).trans (zst_ne M.1 _ z2)
    have head : zev zC_L_discs 321 ([some (zR 7 0), some (zR 29 0), some (zR 30 0), some (zR 31 0), some (zR 32 0), some (zR 33 0), some (zR 34 0), some (zR 35 0), d8, some (zI (nI y)), some (zI (nI d)), d11, d12, d13, d14, d15], [], M) =
        zev zC_L_discs 369 ([some (zR 7 0), some (zR 29 0), some (zR 30 0), some (zR 31 0), some (zR 32 0), some (zR 33 0), some (zR 34 0), some (zR 35 0), none, some (zI (nI y)), some (zI (nI d)), none, none, none, some (zI (nI w)), none], [zI b], zgs M 1) := by
      have hcall : ∀ (L : List (Option zV)), (zd_L_best [zR 29 0, zR 30 0, zR 32 0, zR 33 0, zI (nI w), zI (nI d), zI (-1)] M).bind (fun r => zev zC_L_discs 369 (L, zpush r.1 [], zgs r.2 (zgh M + 1))) = zev zC_L_discs 369 (L, [zI b], zgs M 1) := fun L => by
        rw [eb, hg]; rfl
      rw [bk_L_discs_321, g0, if_neg hne, bk_L_discs_345, g0, if_neg hne, ew, bk_L_discs_353, if_neg (by rw [hg]; decide), hcall]
    have not : ¬ zcan σ zNF w d → ∀ (d9 d14' : Option zV), ∃ M', zev zC_L_discs 392 ([some (zR 7 0), some (zR 29 0), some (zR 30 0), some (zR 31 0), some (zR 32 0), some (zR 33 0), some (zR 34 0), some (zR 35 0), none, d9, some (zI (nI d)), none, none, none, some (zI (nI w)), d14'], [], zgs M 1) = zs 1 M' ∧ zLI (B + 1) M' ∧ zFy M M' := fun hn d9 d14' => by
      have t : zXs σ (nI w) (nI d) (-1000002) σ := Or.inr ⟨N, w, d, hN, hw, hd, hs, rfl, rfl, Or.inl ⟨hn, rfl, rfl⟩⟩
      obtain ⟨M3, p', P', e3, hC3, fc⟩ := cl_show hB25 hT1 hW hC1 t
      refine ⟨M3, ?_, li_behind (hW.mono (by omega)) hT1 h51 (zFl.rf _) hL1 fc hC3, fy1 (zFy.of (zFl.rf _) fc)⟩
      rw [bk_L_discs_392, zbi e3, bk_L_discs_400, if_pos rfl, bk_L_discs_405, bk_L_discs_410, if_pos (Or.inr rfl)]
    rw [head, bk_L_discs_369]
    rcases hb with ⟨q1, -, q3⟩ | ⟨k, e, q1, q2, q3, q4, q5, q6⟩
    · rw [q3, if_pos (by decide)]
      exact not (fun z => z.1 q1) _ _
    · have g6 : (zgs M 1).1 29 0 6 = σ 6 := by rw [zgs_fr M 1 29 0 (by decide)]; exact L1 6 (by decide)
      have eb : b / 100 = nI e := by
        rw [q6, show nI (100 * e + 99 - k) / 100 = nI ((100 * e + 99 - k) / 100) from pk_div (by omega) (by decide) (by decide)]
        refine congrArg nI ?_
        omega
      have er : (99 : Int32) - zrm b 100 = nI k := by
        rw [q6, show zrm (nI (100 * e + 99 - k)) 100 = nI ((100 * e + 99 - k) % 100) from pk_rem (by omega) (by decide) (by decide), show (100 * e + 99 - k) % 100 = 99 - k by omega, show (99 : Int32) = nI 99 from rfl, pk_sub (by omega)]
        refine congrArg nI ?_
        omega
      rw [if_neg (by rw [q6]; exact nI_pos (by omega)), bk_L_discs_376, g6, eb]
      by_cases c : σ 6 ≤ nI e - 500
      · have hcan : zcan σ zNF w d := ⟨fun z => (by rw [q1] at z; cases z), by rw [q2]; exact c⟩
        have hk := zbst_lt σ zNF w d k q1
        have h25 := zs_lt hk
        have hx0 : ¬ σ (8 + 2 * w) = 0 := fun z => by rw [z] at hxv; exact absurd hxv.1 (by decide)
        obtain ⟨M2, U2, e2, hL2, f2⟩ := lw_want (x := σ (8 + 2 * w)) (s := nI k) (G := zpx (σ (8 + 2 * w)) k) (g := zfP (σ (8 + 2 * w)) k) (W := zwb (σ (8 + 2 * w)) k) (show B ≤ 62 by omega) hd hW hL1 (zRw_pic _ k (by omega) h25) (zIn_pic hxv hk) (Or.inr ⟨hx0, fun r hr M => lw_picture hxv r k hr h25 M⟩)
        obtain ⟨M3, m3, a3, b3, c3⟩ := st_i M2 31 (upd (M2.1 31 0) w (M2.1 31 0 w + 1))
        obtain ⟨M4, m4, a4, b4, c4⟩ := st_i M3 29 (upd (M3.1 29 0) 3 (M3.1 29 0 3 + 1))
        have hs2 : ztau σ d (zwb (σ (8 + 2 * w)) k) 0 = nI N := by rw [ztau_lo (by omega) (by omega) (by omega)]; exact hs
        have hL4 := hL2.shw hN hs2 hw a3 b3 c3 a4 b4 c4
        have f4 : zFl (zgs M 1) M4 := f2.tr (zFl.of2 (a4.trans a3) (fun q m z => (c4 q m (by omega)).trans (c3 q m (by omega))))
        have t : zXs σ (nI w) (nI d) (nI k) (zsw' (ztau σ d (zwb (σ (8 + 2 * w)) k)) w) := Or.inr ⟨N, w, d, hN, hw, hd, hs, rfl, rfl, Or.inr ⟨k, _, hcan, q1, rfl, ztau_wa σ d _, rfl⟩⟩
        have hT4 : zLtt M4 := fun q hq => by rw [f4.2.1 40 0 (by omega)]; exact hT1 q hq
        obtain ⟨M5, p', P', e5, hC5, fc⟩ := cl_show hB25 hT4 hW (f4.cs hC1) t
        refine ⟨M5, ?_, li_behind (W_show hB25 hW t) hT1 h51 f4 hL4 fc hC5, fy1 (zFy.of f4 fc)⟩
        have l30 : (zgs M 1).1 30 0 w = σ (8 + 2 * w) := by rw [zgs_fr M 1 30 0 (by decide)]; exact (N3 w hw).1
        rw [if_pos c, bk_L_discs_411, if_neg (ix_in (show w < 10 by omega) (by decide)), ix_cl (by omega), l30, bk_L_discs_426, er, zbv e2, bk_L_discs_437, if_neg (ix_in (show w < 10 by omega) (by decide)), ix_cl (by omega), bk_L_discs_442, if_neg (ix_in (show w < 10 by omega) (by decide)), ix_cl (by omega), m3, bk_L_discs_445, m4, bk_L_discs_452, zbi e5, bk_L_discs_460, er, if_pos rfl, bk_L_discs_471, bk_L_discs_476, if_pos (Or.inr rfl)]
      · rw [if_neg c]
        exact not (fun z => c (by rw [← q2]; exact z.2)) _ _
theorem lw_discs {B : Nat} {M : zM} (hB : B ≤ 60) (h : zLI B M) (v : Nat) (hv : v < 4) (y : Nat) (hy : y < 10000000) : ∃ M', zd_L_discs [zR 7 0, zR 29 0, zR 30 0, zR 31 0, zR 32 0, zR 33 0, zR 34 0, zR 35 0, zI (nI v), zI (nI y)] M = zs 1 M' ∧ zLI (B + 1) M' ∧ zFz M M' := by
  have hd : y % 2 < 2 := Nat.mod_lt _ (by decide)
  have e2 : zrm (nI y) 2 = nI (y % 2) := pk_rem (by omega) (by decide) (by decide)
  generalize y % 2 = d at hd e2
  have hcg := zcol_ge d
  have hcl := zcol_le d
  have hk : y / 2 % zcol d < zcol d := Nat.mod_lt _ (by omega)
  have ek : zrm (nI y / 2) (nI (zcol d)) = nI (y / 2 % zcol d) := by
    rw [show nI y / 2 = nI (y / 2) from pk_div (by omega) (by decide) (by decide)]
    exact pk_rem (by omega) (by omega) (by omega)
  generalize y / 2 % zcol d = k at hk ek
  have hi : y / 48 % 5 < 5 := Nat.mod_lt _ (by decide)
  have ei : zrm (nI y / 48) 5 = nI (y / 48 % 5) := by
    rw [show nI y / 48 = nI (y / 48) from pk_div (by omega) (by decide) (by decide)]
    exact pk_rem (by omega) (by decide) (by decide)
  generalize y / 48 % 5 = i at hi ei
  have ep : (5 * nI d) + nI i = nI (5 * d + i) := by rw [show (5 : Int32) = nI 5 from rfl, pk_mul, nI_add]
  have core : ∃ M', zev zC_L_discs 0 ([some (zR 7 0), some (zR 29 0), some (zR 30 0), some (zR 31 0), some (zR 32 0), some (zR 33 0), some (zR 34 0), some (zR 35 0), some (zI (nI v)), some (zI (nI y)), none, none, none, none, none, none], [], zgs M 0) = zs 1 M' ∧ zLI (B + 1) M' ∧ zFy (zgs M 0) M' := by
    rw [bk_L_discs_0, e2, zbi (lw_columns d hd _), bk_L_discs_15, if_neg (nI_ne0 (by omega) (by omega)), ek, bk_L_discs_16, ei, ep]
    rcases (show v = 0 ∨ v = 1 ∨ v = 2 ∨ v = 3 by omega) with rfl | rfl | rfl | rfl
    · rw [if_pos (by decide)]
      exact lw_stick hB (h.gs 0) hd hi hk (Nat.mod_lt _ (by decide)) hy rfl _ _ _ _ _ _ _ _
    · rw [if_neg (by decide), bk_L_discs_165, if_pos (by decide)]
      exact lw_repair hB (h.gs 0) hd hk _ _ _ _ _ _ _ _ _ _
    · rw [if_neg (by decide), bk_L_discs_165, if_neg (by decide), bk_L_discs_277, if_pos (by decide)]
      exact lw_blank hB (h.gs 0) hd _ _ _ _ _ _ _ _ _
    · rw [if_neg (by decide), bk_L_discs_165, if_neg (by decide), bk_L_discs_277, if_neg (by decide)]
      exact lw_show hB (h.gs 0) (zgs_gh M (by decide)) hd hy _ _ _ _ _ _
  obtain ⟨M', e', h1, h2⟩ := core
  refine ⟨(zst M'.1 43 0 (M.1 43 0), M'.2), ?_, zLI.c43 (M := M') rfl (fun q m z => zst_ne M'.1 _ z) h1, fun c m z => ?_⟩
  · rw [en_L_discs, e']; rfl
  · by_cases z2 : c = 43 ∧ m = 0
    · obtain ⟨rfl, rfl⟩ := z2
      exact zst_self M'.1 43 0 (M.1 43 0)
    · exact ((zst_ne M'.1 _ z2).trans (h2 c m z z2)).trans (zst_ne M.1 _ z2)
