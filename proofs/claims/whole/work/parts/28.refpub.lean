-- ===== the reference: calls that only tell =====
abbrev zVB (a : Int32) : Prop := 0 ≤ a ∧ a ≤ 1
abbrev zVW (M : zM) (w : Int32) : Prop := 0 ≤ w ∧ w < M.1 29 0 0
theorem zVB_nI : ∀ b, b < 2 → zVB (nI b) := by decide
theorem zVB_of {a : Int32} (h : zVB a) : ∃ b, b < 2 ∧ a = nI b := by
  obtain ⟨h1, h2⟩ := h
  obtain ⟨j, h3, h4⟩ := nI_of2 (M := 1) (n := 1) rfl (i_le.mp h1) h2
  exact ⟨j, by omega, h4⟩
theorem z_of {a : Int32} {n : Nat} (hn : n < 2 ^ 31) (h : 0 ≤ a ∧ a < nI n) : ∃ k, k < n ∧ a = nI k := by
  obtain ⟨h1, h2⟩ := h
  obtain ⟨j, h3, h4⟩ := nI_of (i_le.mp h1)
  refine ⟨j, ?_, h4⟩
  rw [h4, nI_ltI h3 hn] at h2
  exact h2
theorem zVW_nI {M : zM} {N w : Nat} (hs : M.1 29 0 0 = nI N) (hN : N ≤ 10) (hw : w < N) : zVW M (nI w) := by
  refine ⟨nI_pos' (by omega), ?_⟩
  rw [hs]
  exact nI_lt hw (by omega)
theorem zne0 {p : Prop} [Decidable p] (h : p) : ¬ zb p = 0 := by rw [zb_0]; exact fun z => z h
theorem sp_margin_bad (w a k : Int32) (M : zM) (h : ¬ zVW M w ∨ ¬ zVB a) : zd_X8_margin [zR 8 0, zI w, zI a, zI k] M = zs (-1000001) M := by
  rw [en_X8_margin, bk_X8_margin_0, zbi (sp_isWord _ _ _), bk_X8_margin_5]
  by_cases h1 : zVW M w
  · rw [if_neg (zne0 h1), bk_X8_margin_8, zbi (sp_isBlind _ _), bk_X8_margin_12, if_pos (zb_0.mpr (h.resolve_left (fun z => z h1))), bk_X8_margin_29]
  · rw [if_pos (zb_0.mpr h1), bk_X8_margin_29]
theorem sp_margin_out2 (w b N : Nat) (k : Int32) (hb : b < 2) (hN : N ≤ 10) (hw : w < N) (M : zM) (hs : M.1 29 0 0 = nI N) (h : k < 0 ∨ nI (zrdc (M.1 29 0) b w) ≤ k) : zd_X8_margin [zR 8 0, zI (nI w), zI (nI b), zI k] M = zs (-1000001) M := by
  rw [en_X8_margin, bk_X8_margin_0, zbi (sp_isWord _ _ _), bk_X8_margin_5, if_neg (zne0 (zVW_nI hs hN hw)), bk_X8_margin_8, zbi (sp_isBlind _ _), bk_X8_margin_12, if_neg (zne0 (zVB_nI b hb)), bk_X8_margin_15]
  by_cases h1 : k < 0
  · rw [if_pos h1, bk_X8_margin_29]
  · rw [if_neg h1, bk_X8_margin_19, zbi (sp_shifts w b 0 (by omega) hb M), bk_X8_margin_26, if_neg (show ¬ k < nI (zshf (mny (M.1 29 0 (8 + 2 * w))) b) from i_le.mp (h.resolve_left h1)), bk_X8_margin_29]
theorem sp_margin (w b k N : Nat) (hb : b < 2) (hN : N ≤ 10) (hw : w < N) (M : zM) (hs : M.1 29 0 0 = nI N) (hk : k < zrdc (M.1 29 0) b w) : ∃ M', zd_X8_margin [zR 8 0, zI (nI w), zI (nI b), zI (nI k)] M = zs (zmar (M.1 29 0) (M.1 8 0 8) w b k + 1000) M' ∧ zRf M M' := by
  have hl := zshf_le (mny (M.1 29 0 (8 + 2 * w))) b
  obtain ⟨M', h1, h2⟩ := sp_marginAt w b k N hb (by omega) hN M hs
  refine ⟨M', ?_, h2.f⟩
  unfold zrdc at hk
  rw [en_X8_margin, bk_X8_margin_0, zbi (sp_isWord _ _ _), bk_X8_margin_5, if_neg (zne0 (zVW_nI hs hN hw)), bk_X8_margin_8, zbi (sp_isBlind _ _), bk_X8_margin_12, if_neg (zne0 (zVB_nI b hb)), bk_X8_margin_15, if_neg (nI_pos (by omega)), bk_X8_margin_19, zbi (sp_shifts w b 0 (by omega) hb M), bk_X8_margin_26, if_pos (nI_lt hk (by omega)), bk_X8_margin_32, zbi h1, bk_X8_margin_39]
theorem sp_wordOf_bad (w i : Int32) (M : zM) (h : ¬ zVW M w ∨ ¬ (0 ≤ i ∧ i ≤ 4)) : zd_X8_wordOf [zR 8 0, zI w, zI i] M = zs (-1000001) M := by
  rw [en_X8_wordOf, bk_X8_wordOf_0, zbi (sp_isWord _ _ _), bk_X8_wordOf_5]
  by_cases h1 : zVW M w
  · rw [if_neg (zne0 h1), bk_X8_wordOf_8, zbi (sp_in _ _ _ _), bk_X8_wordOf_14, if_pos (zb_0.mpr (h.resolve_left (fun z => z h1))), bk_X8_wordOf_17]
  · rw [if_pos (zb_0.mpr h1), bk_X8_wordOf_17]
noncomputable def zwoA (σ : Nat → Int32) (w : Nat) (i : Int32) : Int32 := if i = 0 then σ (8 + 2 * w) else if i = 1 then nI (mny (σ (8 + 2 * w))) else if i = 2 then 4 * nI (mny (σ (8 + 2 * w))) - 1 else if i = 3 then nI (zbr (σ (8 + 2 * w))) else σ (9 + 2 * w)
theorem sp_wordOf (w N : Nat) (i : Int32) (hN : N ≤ 10) (hw : w < N) (hi : 0 ≤ i ∧ i ≤ 4) (M : zM) (hs : M.1 29 0 0 = nI N) : zd_X8_wordOf [zR 8 0, zI (nI w), zI i] M = zs (zwoA (M.1 29 0) w i) M := by
  unfold zwoA
  rw [en_X8_wordOf, bk_X8_wordOf_0, zbi (sp_isWord _ _ _), bk_X8_wordOf_5, if_neg (zne0 (zVW_nI hs hN hw)), bk_X8_wordOf_8, zbi (sp_in _ _ _ _), bk_X8_wordOf_14, if_neg (zne0 hi), bk_X8_wordOf_20]
  by_cases h0 : i = 0
  · rw [if_pos h0, if_pos h0, bk_X8_wordOf_52, zbi (sp_letters w 0 (by omega) M), bk_X8_wordOf_57]
  · rw [if_neg h0, if_neg h0]
    by_cases h1 : i = 1
    · rw [if_pos h1, if_pos h1, bk_X8_wordOf_58, zbi (sp_letters w 0 (by omega) M), bk_X8_wordOf_63, zbi (sp_many _ _), bk_X8_wordOf_66]
    · rw [if_neg h1, if_neg h1]
      by_cases h2 : i = 2
      · rw [if_pos h2, if_pos h2, bk_X8_wordOf_67, zbi (sp_letters w 0 (by omega) M), bk_X8_wordOf_72, zbi (sp_wide _ _), bk_X8_wordOf_75]
      · rw [if_neg h2, if_neg h2]
        by_cases h3 : i = 3
        · rw [if_pos h3, if_pos h3, bk_X8_wordOf_76, zbi (sp_bright 0 w (by omega) M), bk_X8_wordOf_81]
        · have e : ((8 : Int32) + (2 * nI w)) + 1 = nI (9 + 2 * w) := by
            rw [show 9 + 2 * w = 8 + 2 * w + 1 by omega, ← nI_1, ← nI_add, ← pk_mul]; rfl
          rw [if_neg h3, if_neg h3, bk_X8_wordOf_82, e, if_neg (ix_in (by omega) (by decide)), ix_cl (by omega), bk_X8_wordOf_95]
theorem sp_blindOf_bad (a i : Int32) (M : zM) (h : ¬ zVB a ∨ ¬ (0 ≤ i ∧ i ≤ 8)) : zd_X8_blindOf [zR 8 0, zI a, zI i] M = zs (-1000001) M := by
  rw [en_X8_blindOf, bk_X8_blindOf_0, zbi (sp_isBlind _ _), bk_X8_blindOf_4]
  by_cases h1 : zVB a
  · rw [if_neg (zne0 h1), bk_X8_blindOf_7, zbi (sp_in _ _ _ _), bk_X8_blindOf_14, if_pos (zb_0.mpr (h.resolve_left (fun z => z h1))), bk_X8_blindOf_17]
  · rw [if_pos (zb_0.mpr h1), bk_X8_blindOf_17]
noncomputable def zbdA (σ : Nat → Int32) (fr : Int32) (b N : Nat) (i : Int32) : Int32 := if i = 0 then nI (zhv σ b 1) else if i = 1 then nI (zhv σ b 2) else if i = 2 then nI (zul σ b) else if i = 3 then σ (4 + b) else if i = 4 ∨ i = 5 ∨ i = 6 then zrdA (zrdS σ (fun r => zdc σ b r 1) b N) i else if i = 7 then zsho σ fr b N else nI (zcol b)
theorem sp_blindOf (b N : Nat) (i : Int32) (hb : b < 2) (hN : N ≤ 10) (hi : 0 ≤ i ∧ i ≤ 8) (M : zM) (hs : M.1 29 0 0 = nI N) : ∃ M', zd_X8_blindOf [zR 8 0, zI (nI b), zI i] M = zs (zbdA (M.1 29 0) (M.1 8 0 8) b N i) M' ∧ zRf M M' := by
  have head : zd_X8_blindOf [zR 8 0, zI (nI b), zI i] M = zev zC_X8_blindOf 20 ([some (zR 8 0), some (zI (nI b)), some (zI i)], [], M) := by
    rw [en_X8_blindOf, bk_X8_blindOf_0, zbi (sp_isBlind _ _), bk_X8_blindOf_4, if_neg (zne0 (zVB_nI b hb)), bk_X8_blindOf_7, zbi (sp_in _ _ _ _), bk_X8_blindOf_14, if_neg (zne0 hi)]
  rw [head, bk_X8_blindOf_20]
  unfold zbdA
  by_cases h0 : i = 0
  · refine ⟨M, ?_, zRf.rf M⟩
    rw [if_pos h0, if_pos h0, bk_X8_blindOf_68, h0, show (0 : Int32) + 1 = 1 from rfl, zbi (sp_have 0 b 1 hb M), bk_X8_blindOf_76]
  rw [if_neg h0, if_neg h0]
  by_cases h1 : i = 1
  · refine ⟨M, ?_, zRf.rf M⟩
    rw [if_pos h1, if_pos h1, bk_X8_blindOf_68, h1, show (1 : Int32) + 1 = 2 from rfl, zbi (sp_have 0 b 2 hb M), bk_X8_blindOf_76]
  rw [if_neg h1, if_neg h1]
  by_cases h2 : i = 2
  · refine ⟨M, ?_, zRf.rf M⟩
    rw [if_pos h2, if_pos h2, bk_X8_blindOf_77, zbi (sp_unlike b hb M), bk_X8_blindOf_82]
  rw [if_neg h2, if_neg h2]
  by_cases h3 : i = 3
  · refine ⟨M, ?_, zRf.rf M⟩
    have e : (4 : Int32) + nI b = nI (4 + b) := by rw [← nI_add]; rfl
    rw [if_pos h3, if_pos h3, bk_X8_blindOf_83, e, if_neg (ix_in (by omega) (by decide)), ix_cl (by omega), bk_X8_blindOf_91]
  rw [if_neg h3, if_neg h3]
  by_cases h4 : i = 4 ∨ i = 5 ∨ i = 6
  · obtain ⟨M', e1, e2⟩ := sp_readAs b N i hb hN M hs
    refine ⟨M', ?_, e2⟩
    have key : zev zC_X8_blindOf 92 ([some (zR 8 0), some (zI (nI b)), some (zI i)], [], M) = zs (zrdA (zrdS (M.1 29 0) (fun r => zdc (M.1 29 0) b r 1) b N) i) M' := by
      rw [bk_X8_blindOf_92, zbi e1, bk_X8_blindOf_98]
    rw [if_pos h4]
    by_cases h41 : i = 4
    · rw [if_pos h41]; exact key
    rw [if_neg h41]
    by_cases h42 : i = 5
    · rw [if_pos h42]; exact key
    rw [if_neg h42, if_pos ((h4.resolve_left h41).resolve_left h42)]
    exact key
  rw [if_neg h4, if_neg (fun z => h4 (Or.inl z)), if_neg (fun z => h4 (Or.inr (Or.inl z))), if_neg (fun z => h4 (Or.inr (Or.inr z)))]
  by_cases h7 : i = 7
  · obtain ⟨M', e1, e2⟩ := sp_showable b N hb hN M hs
    refine ⟨M', ?_, e2⟩
    rw [if_pos h7, if_pos h7, bk_X8_blindOf_99, zbi e1, bk_X8_blindOf_104]
  · refine ⟨M, ?_, zRf.rf M⟩
    rw [if_neg h7, if_neg h7, bk_X8_blindOf_105, zbi (sp_columns _ _), bk_X8_blindOf_109, zcol_eq b hb]
def zdiA (v i : Int32) : Int32 := if i = 0 then v &&& 1 else if i = 1 then (v >>> (1 : Int32)) &&& 1 else if i = 2 then v / 8 else (v >>> (2 : Int32)) &&& 1
theorem sp_disc_bad (a c r i : Int32) (M : zM) (h : ¬ ((0 ≤ a ∧ a ≤ 1) ∧ 0 ≤ c ∧ c ≤ zcolI a - 1) ∨ ¬ (0 ≤ r ∧ r ≤ 4) ∨ ¬ (0 ≤ i ∧ i ≤ 3)) : zd_X8_disc [zR 8 0, zI a, zI c, zI r, zI i] M = zs (-1000001) M := by
  rw [en_X8_disc, bk_X8_disc_0, zbi (sp_isColumn _ _ _), bk_X8_disc_5]
  by_cases h1 : (0 ≤ a ∧ a ≤ 1) ∧ 0 ≤ c ∧ c ≤ zcolI a - 1
  · rw [if_neg (zne0 h1), bk_X8_disc_8, zbi (sp_in _ _ _ _), bk_X8_disc_14]
    by_cases h2 : 0 ≤ r ∧ r ≤ 4
    · rw [if_neg (zne0 h2), bk_X8_disc_17, zbi (sp_in _ _ _ _), bk_X8_disc_24, if_pos (zb_0.mpr ((h.resolve_left (fun z => z h1)).resolve_left (fun z => z h2))), bk_X8_disc_27]
    · rw [if_pos (zb_0.mpr h2), bk_X8_disc_27]
  · rw [if_pos (zb_0.mpr h1), bk_X8_disc_27]
theorem zVC_nI {b c : Nat} (hb : b < 2) (hc : c < zcol b) : (0 ≤ nI b ∧ nI b ≤ 1) ∧ 0 ≤ nI c ∧ nI c ≤ zcolI (nI b) - 1 := by
  refine ⟨zVB_nI b hb, nI_pos' (by have := zcol_le b; omega), ?_⟩
  rw [zcol_eq b hb, show (1 : Int32) = nI 1 from rfl, pk_sub (by have := zcol_ge b; omega)]
  exact nI_le (by omega) (by have := zcol_le b; omega)
theorem zVC_of {a c : Int32} (h : (0 ≤ a ∧ a ≤ 1) ∧ 0 ≤ c ∧ c ≤ zcolI a - 1) : ∃ b k, b < 2 ∧ k < zcol b ∧ a = nI b ∧ c = nI k := by
  obtain ⟨b, hb, rfl⟩ := zVB_of h.1
  obtain ⟨h1, h2⟩ := h.2
  rw [zcol_eq b hb, show (1 : Int32) = nI 1 from rfl, pk_sub (by have := zcol_ge b; omega)] at h2
  obtain ⟨j, h3, h4⟩ := nI_of (i_le.mp h1)
  rw [h4, nI_leI h3 (by have := zcol_le b; omega)] at h2
  exact ⟨b, j, hb, by have := zcol_ge b; omega, rfl, h4⟩
theorem zV4_nI : ∀ r, r < 5 → 0 ≤ nI r ∧ nI r ≤ 4 := by decide
theorem zV4_of {a : Int32} (h : 0 ≤ a ∧ a ≤ 4) : ∃ b, b < 5 ∧ a = nI b := by
  obtain ⟨j, h3, h4⟩ := nI_of2 (M := 4) (n := 4) rfl (i_le.mp h.1) h.2
  exact ⟨j, by omega, h4⟩
theorem sp_disc (b c r : Nat) (i : Int32) (hb : b < 2) (hc : c < zcol b) (hr : r < 5) (hi : 0 ≤ i ∧ i ≤ 3) (M : zM) : zd_X8_disc [zR 8 0, zI (nI b), zI (nI c), zI (nI r), zI i] M = zs (zdiA (M.1 29 0 (zat b r c)) i) M := by
  have hat := zat_lt hb hr hc
  unfold zdiA
  rw [en_X8_disc, bk_X8_disc_0, zbi (sp_isColumn _ _ _), bk_X8_disc_5, if_neg (zne0 (zVC_nI hb hc)), bk_X8_disc_8, zbi (sp_in _ _ _ _), bk_X8_disc_14, if_neg (zne0 (zV4_nI r hr)), bk_X8_disc_17, zbi (sp_in _ _ _ _), bk_X8_disc_24, if_neg (zne0 hi), bk_X8_disc_30, zbi (sp_at b r c hb M), bk_X8_disc_40, if_neg (ix_in hat (by decide)), ix_cl (by omega), bk_X8_disc_41]
  by_cases h0 : i = 0
  · rw [if_pos h0, if_pos h0, bk_X8_disc_48, bk_X8_disc_90]
  rw [if_neg h0, if_neg h0, bk_X8_disc_55]
  by_cases h1 : i = 1
  · rw [if_pos h1, if_pos h1, bk_X8_disc_61, bk_X8_disc_90]
  rw [if_neg h1, if_neg h1, bk_X8_disc_70]
  by_cases h2 : i = 2
  · rw [if_pos h2, if_pos h2, bk_X8_disc_76, bk_X8_disc_90]
  · rw [if_neg h2, if_neg h2, bk_X8_disc_84, bk_X8_disc_90]
def zcoA (M : zM) (i : Int32) : Int32 := if i = 0 then M.1 29 0 0 else if i = 1 then M.1 29 0 4 + M.1 29 0 5 else if i = 2 then M.1 29 0 1 else if i = 3 then M.1 29 0 2 else if i = 4 then M.1 29 0 3 else if i = 5 then M.1 8 0 3 else if i = 6 then M.1 8 0 6 else if i = 20 then M.1 29 0 6 else if i = 21 then M.1 29 0 7 else -1000001
theorem sp_count (i : Int32) (M : zM) : zd_X8_count [zR 8 0, zI i] M = zs (zcoA M i) M := by
  rw [en_X8_count, bk_X8_count_0]
  unfold zcoA
  by_cases h0 : i = 0
  · rw [if_pos h0, if_pos h0, bk_X8_count_104]
  rw [if_neg h0, if_neg h0]
  by_cases h1 : i = 1
  · rw [if_pos h1, if_pos h1, bk_X8_count_111]
  rw [if_neg h1, if_neg h1]
  by_cases h2 : i = 2
  · rw [if_pos h2, if_pos h2, bk_X8_count_125]
  rw [if_neg h2, if_neg h2]
  by_cases h3 : i = 3
  · rw [if_pos h3, if_pos h3, bk_X8_count_132]
  rw [if_neg h3, if_neg h3]
  by_cases h4 : i = 4
  · rw [if_pos h4, if_pos h4, bk_X8_count_139]
  rw [if_neg h4, if_neg h4]
  by_cases h5 : i = 5
  · rw [if_pos h5, if_pos h5, bk_X8_count_146]
  rw [if_neg h5, if_neg h5]
  by_cases h6 : i = 6
  · rw [if_pos h6, if_pos h6, bk_X8_count_151]
  rw [if_neg h6, if_neg h6]
  by_cases h7 : i = 20
  · rw [if_pos h7]
    iterate 13 rw [if_neg (by rw [h7]; decide)]
    rw [if_pos h7, bk_X8_count_156, h7, show (6 : Int32) + 20 - 20 = nI 6 from rfl, if_neg (ix_in (by decide) (by decide)), ix_cl (by decide), bk_X8_count_168]
  by_cases h8 : i = 21
  · rw [if_neg h7, if_pos h8]
    iterate 14 rw [if_neg (by rw [h8]; decide)]
    rw [if_pos h8, bk_X8_count_156, h8, show (6 : Int32) + 21 - 20 = nI 7 from rfl, if_neg (ix_in (by decide) (by decide)), ix_cl (by decide), bk_X8_count_168]
  · simp only [h7, h8, bk_X8_count_169, if_false, ite_self]
