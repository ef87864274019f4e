-- ===== the reference: what would be =====
theorem i_addsub (a b : Int32) : (a + b) - a = b := by rw [Int32.add_comm, Int32.add_sub_cancel]
theorem sp_would_bad (w a i : Int32) (M : zM) (h : ¬ zVW M w ∨ ¬ zVB a ∨ ¬ (0 ≤ i ∧ i ≤ 4)) : zd_X8_would [zR 8 0, zI w, zI a, zI i] M = zs (-1000001) M := by
  rw [en_X8_would, bk_X8_would_0, zbi (sp_isWord _ _ _), bk_X8_would_5]
  by_cases h1 : zVW M w
  · rw [if_neg (zne0 h1), bk_X8_would_8, zbi (sp_isBlind _ _), bk_X8_would_12]
    by_cases h2 : zVB a
    · rw [if_neg (zne0 h2), bk_X8_would_15, zbi (sp_in _ _ _ _), bk_X8_would_21, if_pos (zb_0.mpr ((h.resolve_left (fun z => z h1)).resolve_left (fun z => z h2))), bk_X8_would_24]
    · rw [if_pos (zb_0.mpr h2), bk_X8_would_24]
  · rw [if_pos (zb_0.mpr h1), bk_X8_would_24]
theorem sp_would_not (w b N : Nat) (i : Int32) (hb : b < 2) (hN : N ≤ 10) (hw : w < N) (hi : 0 ≤ i ∧ i ≤ 4) (M : zM) (hs : M.1 29 0 0 = nI N) (h : ¬ zcan (M.1 29 0) (M.1 8 0 8) w b) : ∃ M', zd_X8_would [zR 8 0, zI (nI w), zI (nI b), zI i] M = zs (-1000002) M' ∧ zRf M M' := by
  obtain ⟨M', v, h1, h2, -, h3, h4⟩ := sp_canShow w b N hb (by omega) hN M hs
  refine ⟨M', ?_, h2⟩
  rw [en_X8_would, bk_X8_would_0, zbi (sp_isWord _ _ _), bk_X8_would_5, if_neg (zne0 (zVW_nI hs hN hw)), bk_X8_would_8, zbi (sp_isBlind _ _), bk_X8_would_12, if_neg (zne0 (zVB_nI b hb)), bk_X8_would_15, zbi (sp_in _ _ _ _), bk_X8_would_21, if_neg (zne0 hi), bk_X8_would_27, zbi h1, bk_X8_would_33, if_pos (h4.mpr h), bk_X8_would_36]
noncomputable def zwuA (σ τ : Nat → Int32) (mg : Int32) (b k : Nat) (W : Nat → Nat → Bool) (i : Int32) : Int32 := if i = 0 then nI k else if i = 1 then mg else if i = 2 then nI (zwF σ b W 5 0) else if i = 3 then nI (zwW σ b W 5 0) else nI (zul τ b)
theorem sp_would (w b k N : Nat) (i : Int32) (hb : b < 2) (hN : N ≤ 10) (hw : w < N) (hi : 0 ≤ i ∧ i ≤ 4) (M : zM) (hs : M.1 29 0 0 = nI N) (h : zcan (M.1 29 0) (M.1 8 0 8) w b) (hk : (zbst (M.1 29 0) (M.1 8 0 8) w b).1 = some k) : ∃ M' τ, zd_X8_would [zR 8 0, zI (nI w), zI (nI b), zI i] M = zs (zwuA (M.1 29 0) τ (zbst (M.1 29 0) (M.1 8 0 8) w b).2 b k (zwb (M.1 29 0 (8 + 2 * w)) k) i) M' ∧ zRf M M' ∧ zWA (M.1 29 0) b (zwb (M.1 29 0 (8 + 2 * w)) k) 5 0 τ := by
  obtain ⟨Ma, v, h1, h2, -, h3, h4⟩ := sp_canShow w b N hb (by omega) hN M hs
  obtain ⟨Mb, m1, m2, m3⟩ := sp_bestShift w b N hb (by omega) hN Ma (by rw [h2.s]; exact hs)
  rw [h2.s, h2.2.2 8 (by decide)] at m1 m3
  rw [hk] at m1
  have hb2 := h2.tr m2
  have eb : Mb.1 29 0 = M.1 29 0 := hb2.s
  have head : zd_X8_would [zR 8 0, zI (nI w), zI (nI b), zI i] M = if 2 ≤ i then zev zC_X8_would 66 ([some (zR 8 0), some (zI (nI w)), some (zI (nI b)), some (zI i), some (zI (nI k)), none], [], Mb) else zev zC_X8_would 52 ([some (zR 8 0), some (zI (nI w)), some (zI (nI b)), some (zI i), some (zI (nI k)), none], [], Mb) := by
    rw [en_X8_would, bk_X8_would_0, zbi (sp_isWord _ _ _), bk_X8_would_5, if_neg (zne0 (zVW_nI hs hN hw)), bk_X8_would_8, zbi (sp_isBlind _ _), bk_X8_would_12, if_neg (zne0 (zVB_nI b hb)), bk_X8_would_15, zbi (sp_in _ _ _ _), bk_X8_would_21, if_neg (zne0 hi), bk_X8_would_27, zbi h1, bk_X8_would_33, if_neg (fun z => h4.mp z h), bk_X8_would_39, zbi m1, bk_X8_would_45]
    rfl
  have sc := sp_copies_29_31 Mb
  obtain ⟨Mc, hMc⟩ : ∃ Mc : zM, Mc = (zst Mb.1 31 0 (zcy (Mb.1 29 0) (Mb.1 31 0) 228), Mb.2) := ⟨_, rfl⟩
  rw [← hMc] at sc
  have c29 : Mc.1 29 0 = M.1 29 0 := by rw [hMc, ← eb]; dsimp only; exact zst_ne _ _ (by decide)
  have c31 : Mc.1 31 0 = zcy (M.1 29 0) (Mb.1 31 0) 228 := by rw [hMc, ← eb]; dsimp only; exact zst_self _ _ _ _
  obtain ⟨Md, w1, w2, w3⟩ := sp_wantsAll b k (Mc.1 29 0 (8 + 2 * w)) hb Mc
  rw [c29] at w3
  have d31 : Md.1 31 0 = zcy (M.1 29 0) (Mb.1 31 0) 228 := (w2.2 31 0 (by decide)).trans c31
  by_cases hi2 : 2 ≤ i
  · rw [head, if_pos hi2]
    -- all as before
    have sd := sp_copies_31_29 Md
    rw [d31] at sd
    have e29 : zcy (zcy (M.1 29 0) (Mb.1 31 0) 228) (Md.1 29 0) 228 = M.1 29 0 := by
      funext j
      unfold zcy
      by_cases hj : j < 228
      · rw [if_pos hj, if_pos hj]
      · rw [if_neg hj]
        exact w3.2.1 j (fun r' c' hr' hc' _ => by have := zat_lt hb hr' hc'; omega) (by omega) (by omega)
    rw [e29] at sd
    have hfr : zRf M (zst Md.1 29 0 (M.1 29 0), Md.2) := by
      have hmc : zRf Mb Mc := by
        rw [hMc]
        exact ⟨rfl, fun c n _ a2 _ _ _ => zst_ne Mb.1 (zcy (Mb.1 29 0) (Mb.1 31 0) 228) (c := 31) (n := 0) (fun z => a2 z.1), fun k _ => congrFun (zst_ne Mb.1 (zcy (Mb.1 29 0) (Mb.1 31 0) 228) (c := 31) (n := 0) (c' := 8) (n' := 0) (by decide)) k⟩
      have hc := hb2.tr hmc
      refine ⟨w2.1.trans hc.1, fun c n a1 a2 a3 a4 a5 => ?_, fun k hk => ?_⟩
      · dsimp only
        by_cases hq : c = 29 ∧ n = 0
        · obtain ⟨rfl, rfl⟩ := hq
          exact zst_self _ _ _ _
        · rw [zst_ne _ _ hq]
          exact (w2.2 c n hq).trans (hc.2.1 c n a1 a2 a3 a4 a5)
      · dsimp only
        rw [zst_ne _ _ (by decide)]
        exact (congrFun (w2.2 8 0 (by decide)) k).trans (hc.2.2 k hk)
    have fin : ∀ (v : Int32) (d1 d2 d3 d4 d5 : Option zV), zev zC_X8_would 140 ([some (zR 8 0), d1, d2, d3, d4, d5], [zI v], Md) = zs v (zst Md.1 29 0 (M.1 29 0), Md.2) := by
      intro v d1 d2 d3 d4 d5
      rw [bk_X8_would_140, zbv sd, bk_X8_would_153]
    refine ⟨_, Md.1 29 0, ?_, hfr, w3⟩
    have e4 : (4 : Int32) + nI b = nI (4 + b) := by rw [← nI_add]; rfl
    rw [bk_X8_would_66, zbv sc, bk_X8_would_77, zbi (sp_letters w 0 (by omega) Mc), bk_X8_would_84, zbv w1, bk_X8_would_89]
    unfold zwuA
    have h0 : ¬ i = 0 := fun z => by rw [z] at hi2; exact absurd hi2 (by decide)
    have h1' : ¬ i = 1 := fun z => by rw [z] at hi2; exact absurd hi2 (by decide)
    rw [if_neg h0, if_neg h1']
    have hcy : ∀ j, j < 228 → Md.1 31 0 j = M.1 29 0 j := fun j hj => by rw [d31]; unfold zcy; rw [if_pos hj]
    by_cases h2' : i = 2
    · rw [if_pos h2', if_pos h2', bk_X8_would_94, e4, if_neg (ix_in (by omega) (by decide)), ix_cl (by omega), bk_X8_would_102, e4, if_neg (ix_in (by omega) (by decide)), ix_cl (by omega), bk_X8_would_110, fin, hcy _ (by omega), w3.2.2.1, i_addsub]
    · rw [if_neg h2', if_neg h2', bk_X8_would_114]
      by_cases h3' : i = 3
      · rw [if_pos h3', if_pos h3', bk_X8_would_119, fin, hcy _ (by omega), w3.2.2.2, i_addsub]
      · rw [if_neg h3', if_neg h3', bk_X8_would_135, zbi (sp_unlike b hb Md), fin]
  · rw [head, if_neg hi2, bk_X8_would_52]
    unfold zwuA
    by_cases h0 : i = 0
    · exact ⟨Mb, Md.1 29 0, by rw [if_pos h0, if_pos h0, bk_X8_would_56, bk_X8_would_65], hb2, w3⟩
    · have h1' : i = 1 := by
        obtain ⟨j, j1, rfl⟩ := nI_of (x := i) (i_le.mp hi.1)
        have a1 : ¬ 2 ≤ j := fun z => hi2 (show nI 2 ≤ nI j from nI_le z j1)
        have a2 : j ≠ 0 := fun z => h0 (by rw [z]; rfl)
        rw [show j = 1 by omega]; rfl
      exact ⟨Mb, Md.1 29 0, by rw [if_neg h0, if_neg h0, if_pos h1', bk_X8_would_61, m3, bk_X8_would_65], hb2, w3⟩
