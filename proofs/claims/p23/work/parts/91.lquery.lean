-- ===== the class: calls that only tell =====
theorem row_bit (y : Int32) (c : Nat) (hy : ui y < 2 ^ 31) (hc : c < 24) : ((y >>> (nI c &&& (31 : Int32))) &&& 1) = zbI ((ui y).testBit c) := by
  have e0 := shr_nI (u := ui y) (k := c) hy (by omega)
  rw [nI_ui] at e0
  have hb := sh_bit y c hy hc
  rw [e0, pk_andN (Nat.lt_of_le_of_lt (Nat.div_le_self _ _) (by omega)) 1 rfl] at hb ⊢
  have h2 : ui y / 2 ^ c % 2 ^ 1 < 2 := Nat.mod_lt _ (by decide)
  rw [← hb]
  generalize ui y / 2 ^ c % 2 ^ 1 = q at h2
  rcases (show q = 0 ∨ q = 1 by omega) with rfl | rfl <;> rfl
/-- what is at hand -/
theorem cs_at {B : Nat} {M : zM} {σ : Nat → Int32} {p : Nat} {P : Nat → Nat → Int32} (hW : zW B σ) (hC : zCS M σ p P) : ∃ N, N ≤ 10 ∧ σ 0 = nI N ∧ zGW M 0 σ N ∧ (∀ b, b < 2 → zGB M (2 * 0 + b) b σ) ∧ M.1 4 0 3 = σ 6 ∧ M.1 4 0 4 = σ 7 ∧ M.1 4 0 5 = σ 1 ∧ M.1 4 0 6 = σ 2 ∧ M.1 4 0 7 = σ 3 := hC.2.1
section CQ
variable {B : Nat} {M : zM} {σ : Nat → Int32} {p : Nat} {P : Nat → Nat → Int32}
theorem cq_disc_head (hW : zW B σ) (hC : zCS M σ p P) (d : Nat) (hd : d < 2) (c r i : Int32) : zd_X7_disc [zR 7 0, zI (nI d), zI c, zI r, zI i] M = if zb ((0 ≤ c ∧ c < nI (zcol d)) ∧ 0 ≤ r ∧ r < 5) = 0 then zev zC_X7_disc 25 ([none, none, some (zI c), some (zI r), some (zI i), some (zR 0 (2 * 0 + d))], [], M) else zev zC_X7_disc 28 ([none, none, some (zI c), some (zI r), some (zI i), some (zR 0 (2 * 0 + d))], [], M) := by
  obtain ⟨N, hN, hs, gW, gB, -⟩ := cs_at hW hC
  rw [en_X7_disc, bk_X7_disc_0, zbi (cs_blindAt 0 d hd M), bk_X7_disc_8r, bk_X7_disc_15r, zbi (cp_hasDisc _ _ _ M), (gB d hd).1, bk_X7_disc_22r]
theorem cq_disc (hB : B < 2 ^ 25) (hW : zW B σ) (hC : zCS M σ p P) {d q j : Nat} (hd : d < 2) (hq : q < zcol d) (hj : j < 5) : zd_X7_disc [zR 7 0, zI (nI d), zI (nI q), zI (nI j), zI 0] M = zs (zbI (zfD σ d 1 q j)) M ∧ zd_X7_disc [zR 7 0, zI (nI d), zI (nI q), zI (nI j), zI 1] M = zs (zbI (zfD σ d 2 q j)) M ∧ zd_X7_disc [zR 7 0, zI (nI d), zI (nI q), zI (nI j), zI 2] M = zs (σ (zat d j q) / 8) M ∧ zd_X7_disc [zR 7 0, zI (nI d), zI (nI q), zI (nI j), zI 3] M = zs (zbI (zfD σ d 4 q j)) M := by
  obtain ⟨N, hN, hs, gW, gB, -⟩ := cs_at hW hC
  have hG := gB d hd
  have hcl := zcol_le d
  have c1 : (0 ≤ nI q ∧ nI q < nI (zcol d)) ∧ 0 ≤ nI j ∧ nI j < (5 : Int32) := ⟨⟨nI_pos' (by omega), nI_lt hq (by omega)⟩, nI_pos' (by omega), nI_lt (b := 5) hj (by decide)⟩
  have head := fun i => (cq_disc_head hW hC d hd (nI q) (nI j) i).trans (if_neg (zne0 c1))
  refine ⟨?_, ?_, ?_, ?_⟩
  · rw [head, bk_X7_disc_28r, if_pos rfl, bk_X7_disc_60r, zbi (cp_at hG.2.2.1 q j (by omega) (by omega)), bk_X7_disc_70r]
  · rw [head, bk_X7_disc_28r, if_neg (by decide), if_pos rfl, bk_X7_disc_71r, zbi (cp_at hG.2.2.2.1 q j (by omega) (by omega)), bk_X7_disc_81r]
  · rw [head, bk_X7_disc_28r, if_neg (by decide), if_neg (by decide), if_pos rfl, bk_X7_disc_82r, zbi (cp_wearAt _ d q j hq (by omega) M hG.1), bk_X7_disc_89r, hG.2.2.2.2.2 q j hq (by omega)]
  · rw [head, bk_X7_disc_28r, if_neg (by decide), if_neg (by decide), if_neg (by decide), if_pos rfl, bk_X7_disc_90r, zbi (cp_at hG.2.2.2.2.1 q j (by omega) (by omega)), bk_X7_disc_100r]
/-- out of range -/
theorem cq_disc_c (hW : zW B σ) (hC : zCS M σ p P) {d : Nat} (hd : d < 2) (c r i : Int32) (h : ¬ ((0 ≤ c ∧ c < nI (zcol d)) ∧ 0 ≤ r ∧ r < 5)) : zd_X7_disc [zR 7 0, zI (nI d), zI c, zI r, zI i] M = zs (-1000001) M := by
  rw [cq_disc_head hW hC d hd, if_pos (zb_0.mpr h), bk_X7_disc_25]
theorem cq_disc_4 (hW : zW B σ) (hC : zCS M σ p P) {d j : Nat} (hd : d < 2) (hj : j < 5) : zd_X7_disc [zR 7 0, zI (nI d), zI 0, zI (nI j), zI 4] M = zs (-1000001) M := by
  have hcg := zcol_ge d
  have hcl := zcol_le d
  have c1 : (0 ≤ (0 : Int32) ∧ (0 : Int32) < nI (zcol d)) ∧ 0 ≤ nI j ∧ nI j < (5 : Int32) := ⟨⟨by decide, nI_lt (a := 0) (by omega) (by omega)⟩, nI_pos' (by omega), nI_lt (b := 5) hj (by decide)⟩
  rw [cq_disc_head hW hC d hd, if_neg (zne0 c1), bk_X7_disc_28r, if_neg (by decide), if_neg (by decide), if_neg (by decide), if_neg (by decide), bk_X7_disc_101]
theorem cq_disc_b (c r i : Int32) : zd_X7_disc [zR 7 0, zI 2, zI c, zI r, zI i] M = zs (-1000001) M := by
  rw [en_X7_disc, bk_X7_disc_0, zbi (cs_blindAt_n 0 2 (by decide) M), bk_X7_disc_8n, bk_X7_disc_25]
theorem cq_blind_head {d : Nat} (hd : d < 2) (i : Int32) : zd_X7_blindOf [zR 7 0, zI (nI d), zI i] M = zev zC_X7_blindOf 16 ([some (zR 7 0), some (zI (nI d)), some (zI i), some (zR 0 (2 * 0 + d))], [], M) := by
  rw [en_X7_blindOf, bk_X7_blindOf_0, zbi (cs_blindAt 0 d hd M), bk_X7_blindOf_8r]
theorem cq_blind (hW : zW B σ) (hC : zCS M σ p P) {d : Nat} (hd : d < 2) : zd_X7_blindOf [zR 7 0, zI (nI d), zI 0] M = zs (nI (zhv σ d 1)) M ∧ zd_X7_blindOf [zR 7 0, zI (nI d), zI 1] M = zs (nI (zhv σ d 2)) M ∧ zd_X7_blindOf [zR 7 0, zI (nI d), zI 2] M = zs (nI (zc2 (fun c r => zfD σ d 1 c r ^^ zfD σ d 4 c r))) M ∧ zd_X7_blindOf [zR 7 0, zI (nI d), zI 3] M = zs (σ (4 + d)) M ∧ zd_X7_blindOf [zR 7 0, zI (nI d), zI 8] M = zs (nI (zcol d)) M ∧ zd_X7_blindOf [zR 7 0, zI (nI d), zI 9] M = zs (-1000001) M := by
  obtain ⟨N, hN, hs, gW, gB, -⟩ := cs_at hW hC
  have hG := gB d hd
  refine ⟨?_, ?_, ?_, ?_, ?_, ?_⟩
  · rw [cq_blind_head hd, bk_X7_blindOf_16r, if_pos rfl, bk_X7_blindOf_68r, zbi (cp_size hG.2.2.1), bk_X7_blindOf_75r, hv_q]
  · rw [cq_blind_head hd, bk_X7_blindOf_16r, if_neg (by decide), if_pos rfl, bk_X7_blindOf_76r, zbi (cp_size hG.2.2.2.1), bk_X7_blindOf_83r, hv_q]
  · rw [cq_blind_head hd, bk_X7_blindOf_16r, if_neg (by decide), if_neg (by decide), if_pos rfl, bk_X7_blindOf_84r, zbi (cp_far hG.2.2.1 hG.2.2.2.2.1), bk_X7_blindOf_105r]
  · rw [cq_blind_head hd, bk_X7_blindOf_16r, if_neg (by decide), if_neg (by decide), if_neg (by decide), if_pos rfl, bk_X7_blindOf_106r, hG.2.1]
  · rw [cq_blind_head hd, bk_X7_blindOf_16r]
    iterate 8 rw [if_neg (by decide)]
    rw [if_pos rfl, bk_X7_blindOf_127r, hG.1]
  · rw [cq_blind_head hd, bk_X7_blindOf_16r]
    iterate 9 rw [if_neg (by decide)]
    rw [bk_X7_blindOf_132]
theorem cq_blind_b (i : Int32) : zd_X7_blindOf [zR 7 0, zI 2, zI i] M = zs (-1000001) M := by
  rw [en_X7_blindOf, bk_X7_blindOf_0, zbi (cs_blindAt_n 0 2 (by decide) M), bk_X7_blindOf_8n, bk_X7_blindOf_13]
theorem cq_word_n (hW : zW B σ) (hC : zCS M σ p P) (w i : Int32) (h : ¬ (0 ≤ w ∧ w < σ 0)) : zd_X7_wordOf [zR 7 0, zI w, zI i] M = zs (-1000001) M := by
  obtain ⟨N, hN, hs, gW, gB, -⟩ := cs_at hW hC
  rw [hs] at h
  rw [en_X7_wordOf, bk_X7_wordOf_0, zbi (cp_has 0 w M), gW.1, bk_X7_wordOf_13, if_pos (zb_0.mpr h), bk_X7_wordOf_16]
theorem cq_word (hW : zW B σ) (hC : zCS M σ p P) {N v : Nat} (hN : N ≤ 10) (hs : σ 0 = nI N) (hv : v < N) : zd_X7_wordOf [zR 7 0, zI (nI v), zI 0] M = zs (σ (8 + 2 * v)) M ∧ zd_X7_wordOf [zR 7 0, zI (nI v), zI 1] M = zs (nI (mny (σ (8 + 2 * v)))) M ∧ zd_X7_wordOf [zR 7 0, zI (nI v), zI 2] M = zs (4 * nI (mny (σ (8 + 2 * v))) - 1) M ∧ zd_X7_wordOf [zR 7 0, zI (nI v), zI 3] M = zs (nI (zbr (σ (8 + 2 * v)))) M ∧ zd_X7_wordOf [zR 7 0, zI (nI v), zI 4] M = zs (σ (9 + 2 * v)) M ∧ zd_X7_wordOf [zR 7 0, zI (nI v), zI 5] M = zs (-1000001) M := by
  obtain ⟨N', hN', hs', gW, gB, -⟩ := cs_at hW hC
  have eN : N' = N := by rw [hs, nI_eq (by omega) (by omega)] at hs'; exact hs'.symm
  subst eN
  have hvl := W_vl hW hN hs hv
  have hm := VL_m hvl
  obtain ⟨a1, a2, a3, -⟩ := gW.2 v hv
  have c1 : 0 ≤ nI v ∧ nI v < nI N' := ⟨nI_pos' (by omega), nI_lt hv (by omega)⟩
  have head : ∀ i, zd_X7_wordOf [zR 7 0, zI (nI v), zI i] M = zev zC_X7_wordOf 19 ([some (zR 7 0), some (zI (nI v)), some (zI i), some (zR 6 0)], [], M) := fun i => by
    rw [en_X7_wordOf, bk_X7_wordOf_0, zbi (cp_has 0 _ M), gW.1, bk_X7_wordOf_13, if_neg (zne0 c1)]
  refine ⟨?_, ?_, ?_, ?_, ?_, ?_⟩
  · rw [head, bk_X7_wordOf_19, if_pos rfl, bk_X7_wordOf_56, if_neg (ix_in (by omega) (by decide)), ix_cl (by omega), bk_X7_wordOf_62, a1]
  · rw [head, bk_X7_wordOf_19, if_neg (by decide), if_pos rfl, bk_X7_wordOf_63, if_neg (ix_in (by omega) (by decide)), ix_cl (by omega), bk_X7_wordOf_69, a1, zbi (cp_lettersIn hvl M), bk_X7_wordOf_72]
  · rw [head, bk_X7_wordOf_19, if_neg (by decide), if_neg (by decide), if_pos rfl, bk_X7_wordOf_73, if_neg (ix_in (by omega) (by decide)), ix_cl (by omega), bk_X7_wordOf_79, a2, show (4 : Int32) = nI 4 from rfl, pk_mul, show (1 : Int32) = nI 1 from rfl, pk_sub (by omega)]
  · rw [head, bk_X7_wordOf_19, if_neg (by decide), if_neg (by decide), if_neg (by decide), if_pos rfl, bk_X7_wordOf_80, zbi (cp_dotsOf hW hN hs gW hv), bk_X7_wordOf_85]
  · rw [head, bk_X7_wordOf_19, if_neg (by decide), if_neg (by decide), if_neg (by decide), if_neg (by decide), if_pos rfl, bk_X7_wordOf_86, if_neg (ix_in (by omega) (by decide)), ix_cl (by omega), bk_X7_wordOf_92, a3]
  · rw [head, bk_X7_wordOf_19]
    iterate 5 rw [if_neg (by decide)]
    rw [bk_X7_wordOf_93]
theorem cq_count (hW : zW B σ) (hC : zCS M σ p P) (h5 : M.1 5 0 1 = 0) : zd_X7_count [zR 7 0, zI 0] M = zs (σ 0) M ∧ zd_X7_count [zR 7 0, zI 1] M = zs (σ 4 + σ 5) M ∧ zd_X7_count [zR 7 0, zI 2] M = zs (σ 1) M ∧ zd_X7_count [zR 7 0, zI 3] M = zs (σ 2) M ∧ zd_X7_count [zR 7 0, zI 4] M = zs (σ 3) M ∧ zd_X7_count [zR 7 0, zI 6] M = zs 0 M ∧ zd_X7_count [zR 7 0, zI 20] M = zs (σ 6) M ∧ zd_X7_count [zR 7 0, zI 21] M = zs (σ 7) M ∧ zd_X7_count [zR 7 0, zI 7] M = zs (-1000001) M ∧ zd_X7_count [zR 7 0, zI 19] M = zs (-1000001) M ∧ zd_X7_count [zR 7 0, zI 22] M = zs (-1000001) M := by
  obtain ⟨N, hN, hs, gW, gB, g3, g4, g5, g6, g7⟩ := cs_at hW hC
  have b0 := (gB 0 (by omega)).2.1
  have b1 := (gB 1 (by omega)).2.1
  rw [show 2 * 0 + 0 = 2 * 0 from rfl] at b0
  refine ⟨?_, ?_, ?_, ?_, ?_, ?_, ?_, ?_, ?_, ?_, ?_⟩
  · rw [en_X7_count, bk_X7_count_0, if_pos rfl, bk_X7_count_104, gW.1, hs]
  · rw [en_X7_count, bk_X7_count_0, if_neg (by decide), if_pos rfl, bk_X7_count_115, b0, b1]
  · rw [en_X7_count, bk_X7_count_0, if_neg (by decide), if_neg (by decide), if_pos rfl, bk_X7_count_137, g5]
  · rw [en_X7_count, bk_X7_count_0, if_neg (by decide), if_neg (by decide), if_neg (by decide), if_pos rfl, bk_X7_count_145, g6]
  · rw [en_X7_count, bk_X7_count_0]
    iterate 4 rw [if_neg (by decide)]
    rw [if_pos rfl, bk_X7_count_153, g7]
  · rw [en_X7_count, bk_X7_count_0]
    iterate 6 rw [if_neg (by decide)]
    rw [if_pos rfl, bk_X7_count_169, h5]
  · rw [en_X7_count, bk_X7_count_0]
    iterate 20 rw [if_neg (by decide)]
    rw [if_pos rfl, bk_X7_count_177, g3]
  · rw [en_X7_count, bk_X7_count_0]
    iterate 21 rw [if_neg (by decide)]
    rw [if_pos rfl, bk_X7_count_185, g4]
  · rw [en_X7_count, bk_X7_count_0]
    iterate 7 rw [if_neg (by decide)]
    rw [if_pos rfl, bk_X7_count_193]
  · rw [en_X7_count, bk_X7_count_0]
    iterate 19 rw [if_neg (by decide)]
    rw [if_pos rfl, bk_X7_count_193]
  · rw [en_X7_count, bk_X7_count_0]
    iterate 22 rw [if_neg (by decide)]
    rw [bk_X7_count_193]
end CQ
