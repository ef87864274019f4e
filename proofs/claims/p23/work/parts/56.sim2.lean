-- ===== the class: the other changes of a state =====
theorem cs_word {M : zM} {k B : Nat} {σ τ : Nat → Int32} {x a : Int32} (hT : zLtt M) (hW : zW B σ) (hG : zGS M k σ) (t : zXw σ x a τ) : ∃ M', zd_X4_addWord [zR 4 k, zI x] M = zs a M' ∧ zGS M' k τ ∧ zFS M M' k := by
  obtain ⟨N, hN, hs, gW, gB, g3, g4, g5, g6, g7⟩ := id hG
  obtain ⟨v, ev, hv⟩ := cp_areLetters x M
  rcases t with ⟨hx, rfl, rfl⟩ | ⟨hx, N', hN', hs', t⟩
  · exact ⟨M, by rw [en_X4_addWord, bk_X4_addWord_0, zbi ev, bk_X4_addWord_4, if_pos (hv.mpr hx), bk_X4_addWord_7], hG, zFS.rf M k⟩
  · have eN : N' = N := by rw [hs', nI_eq (by omega) (by omega)] at hs; exact hs
    subst eN
    obtain ⟨f, ef, hf⟩ := cp_find hN gW x
    have head : zd_X4_addWord [zR 4 k, zI x] M = zev zC_X4_addWord 18 ([some (zR 4 k), some (zI x)], [zI f], M) := by
      rw [en_X4_addWord, bk_X4_addWord_0, zbi ev, bk_X4_addWord_4, if_neg (fun z => (hv.mp z) hx), bk_X4_addWord_10, zbi ef]
    rcases t with ⟨h1, rfl, rfl⟩ | ⟨h1, h2, rfl, rfl⟩ | ⟨h1, h2, rfl, rfl⟩
    · exact ⟨M, by rw [head, bk_X4_addWord_18, if_neg (fun z => by have := hf.mp z; rw [h1] at this; cases this), bk_X4_addWord_22], hG, zFS.rf M k⟩
    · exact ⟨M, by rw [head, bk_X4_addWord_18, if_pos (hf.mpr h1), bk_X4_addWord_25, gW.1, h2, if_neg (by decide), bk_X4_addWord_37], hG, zFS.rf M k⟩
    · obtain ⟨M1, e1, g1, f1⟩ := cp_add hx h2 M gW hT
      have lo : ∀ j, j ≠ 0 → j ≠ 8 + 2 * N' → j ≠ 9 + 2 * N' → zwd σ x N' j = σ j := fun j a b c => by unfold zwd; rw [upd_n a, upd_n c, upd_n b]
      have k4 : M1.1 4 k = M.1 4 k := f1.2.1 4 k (by omega)
      refine ⟨M1, ?_, ⟨N' + 1, by omega, by unfold zwd; rw [upd_s], g1, fun b hb => ((gB b hb).fw f1).cg (lo _ (by omega) (by omega) (by omega)) (fun c r _ _ => by have := zat_ge (b := b) (r := r) (c := c); exact lo _ (by omega) (by omega) (by omega)), ?_, ?_, ?_, ?_, ?_⟩, f1.fs⟩
      · rw [head, bk_X4_addWord_18, if_pos (hf.mpr h1), bk_X4_addWord_25, gW.1, show (10 : Int32) = nI 10 from rfl, if_pos (nI_lt h2 (by omega)), bk_X4_addWord_40, zbv e1, bk_X4_addWord_48, g1.1, nI_pred]
      · rw [k4, lo 6 (by omega) (by omega) (by omega)]; exact g3
      · rw [k4, lo 7 (by omega) (by omega) (by omega)]; exact g4
      · rw [k4, lo 1 (by omega) (by omega) (by omega)]; exact g5
      · rw [k4, lo 2 (by omega) (by omega) (by omega)]; exact g6
      · rw [k4, lo 3 (by omega) (by omega) (by omega)]; exact g7
theorem cs_unword {M : zM} {k B : Nat} {σ τ : Nat → Int32} {w a : Int32} (hW : zW B σ) (hG : zGS M k σ) (t : zXu σ w a τ) : ∃ M', zd_X4_takeWord [zR 4 k, zI w] M = zs a M' ∧ zGS M' k τ ∧ zFS M M' k := by
  obtain ⟨N, hN, hs, gW, gB, g3, g4, g5, g6, g7⟩ := id hG
  rcases t with ⟨hb, rfl, rfl⟩ | ⟨v, n, hn, hv, rfl, hs', rfl, rfl⟩
  · exact ⟨M, by rw [en_X4_takeWord, bk_X4_takeWord_0, zbi (cp_has k w M), bk_X4_takeWord_8, if_pos (zb_0.mpr (by rw [gW.1, ← hs]; exact hb)), bk_X4_takeWord_11], hG, zFS.rf M k⟩
  · have eN : N = n + 1 := by rw [hs', nI_eq (by omega) (by omega)] at hs; exact hs.symm
    subst eN
    obtain ⟨M1, e1, g1, f1⟩ := cp_remove hn hv gW
    have lo : ∀ j, j ≠ 0 → ¬ (8 ≤ j ∧ j < 28) → zuw σ v n j = σ j := fun j a b => by unfold zuw; rw [if_neg a, if_neg (by omega)]
    have k4 : M1.1 4 k = M.1 4 k := f1.2.1 4 k (by omega)
    refine ⟨M1, ?_, ⟨n, by omega, if_pos rfl, g1, fun b hb => ((gB b hb).fw f1).cg (lo _ (by omega) (by omega)) (fun c r _ _ => by have := zat_ge (b := b) (r := r) (c := c); exact lo _ (by omega) (by omega)), ?_, ?_, ?_, ?_, ?_⟩, f1.fs⟩
    · rw [en_X4_takeWord, bk_X4_takeWord_0, zbi (cp_has k _ M), bk_X4_takeWord_8, if_neg (zne0 ⟨nI_pos' (by omega), by rw [gW.1]; exact nI_lt (by omega) (by omega)⟩), bk_X4_takeWord_14, zbv e1, bk_X4_takeWord_22, g1.1]
    · rw [k4, lo 6 (by omega) (by omega)]; exact g3
    · rw [k4, lo 7 (by omega) (by omega)]; exact g4
    · rw [k4, lo 1 (by omega) (by omega)]; exact g5
    · rw [k4, lo 2 (by omega) (by omega)]; exact g6
    · rw [k4, lo 3 (by omega) (by omega)]; exact g7
theorem cs_blank {M : zM} {k B : Nat} {σ τ : Nat → Int32} {b a : Int32} (hB : B < 2 ^ 25) (hW : zW B σ) (hG : zGS M k σ) (t : zXb σ b a τ) : ∃ M', zd_X4_darken [zR 4 k, zI b] M = zs a M' ∧ zGS M' k τ ∧ zFS M M' k := by
  obtain ⟨N, hN, hs, gW, gB, g3, g4, g5, g6, g7⟩ := id hG
  rcases t with ⟨hb, rfl, rfl⟩ | ⟨d, hd, rfl, hwa, rfl⟩
  · exact ⟨M, by rw [en_X4_darken, bk_X4_darken_0, zbi (cs_blindAt_n k b hb M), bk_X4_darken_5n, bk_X4_darken_10], hG, zFS.rf M k⟩
  · obtain ⟨M1, e1, b1, f1⟩ := cp_want hd hB hW (gB d hd) zPr.z (zIn_0 d) hwa
    obtain ⟨wa1, wa2, wa3, wa4⟩ := id hwa
    have lo : ∀ j, j < 28 → j ≠ 4 + d → j ≠ 1 → τ j = σ j := fun j h1 h2 h3 => wa2 j (fun r' c' _ _ _ z => by have := zat_ge (b := d) (r := r') (c := c'); omega) h2 h3
    have k41 : M1.1 4 k = M.1 4 k := f1.2.1 4 k (by omega) (by omega)
    have s2 : ∃ M2, zev zC_X4_darken 28 ([some (zR 4 k), none, some (zR 0 (2 * k + d))], [zI (nI (zwW σ d (zwb 0 0) 5 0)), zI (M.1 4 k 5), zR 4 k], M1) = zev zC_X4_darken 32 ([some (zR 4 k), none, some (zR 0 (2 * k + d))], [], M2) ∧ M2.2 = M1.2 ∧ (∀ c m, ¬ (c = 4 ∧ m = k) → M2.1 c m = M1.1 c m) ∧ M2.1 4 k = upd (M.1 4 k) 5 (τ 1) := by
      refine ⟨(zst M1.1 4 k (upd (M1.1 4 k) 5 (M.1 4 k 5 + nI (zwW σ d (zwb 0 0) 5 0))), M1.2), by rw [bk_X4_darken_28r], rfl, fun c m h => zst_ne M1.1 _ h, ?_⟩
      dsimp only
      rw [zst_self, k41, g5, wa4]
    obtain ⟨M2, e2, i2, o2, c2⟩ := s2
    have mb : ∀ n b', zGB M1 n b' τ → zGB M2 n b' τ := fun n b' h => h.mv (by rw [o2 0 _ (by omega)]; exact h.1) (by rw [o2 0 _ (by omega)]) (fun i _ => by rw [i2]; exact ⟨rfl, rfl⟩) (fun j _ => by rw [o2 25 _ (by omega)])
    have bd2 := mb _ _ b1
    refine ⟨M2, ?_, ⟨N, hN, by rw [lo 0 (by omega) (by omega) (by omega)]; exact hs, ?_, fun b' hb' => ?_, ?_, ?_, ?_, ?_, ?_⟩, ?_⟩
    · rw [en_X4_darken, bk_X4_darken_0, zbi (cs_blindAt k d hd M), bk_X4_darken_5r, bk_X4_darken_13r, g4, zbi e1, e2, bk_X4_darken_32r, zbi (cp_size bd2.2.2.1), bk_X4_darken_39r, hv_q]
    · refine ((gW.fb hN f1).mv hN (by rw [o2 6 _ (by omega)]) (fun j _ => by rw [o2 20 _ (by omega), o2 21 _ (by omega), o2 22 _ (by omega)]; exact ⟨rfl, rfl, rfl⟩) (fun j _ => by rw [i2]; exact ⟨rfl, rfl⟩)).cg (fun w hw => ⟨lo _ (by omega) (by omega) (by omega), lo _ (by omega) (by omega) (by omega)⟩)
    · by_cases q : b' = d
      · subst q; exact bd2
      · refine mb _ _ (((gB b' hb').fb f1 (by omega)).cg (lo _ (by omega) (by omega) (by omega)) (fun c r hc' hr' => ?_))
        have hz := zat_ge (b := b') (r := r) (c := c)
        exact wa2 _ (fun r' c' hr2 hc2 _ z => q (zat_inj hb' hr' hc' hd hr2 hc2 z).1) (by omega) (by omega)
    · rw [c2, upd_n (by decide), lo 6 (by omega) (by omega) (by omega)]; exact g3
    · rw [c2, upd_n (by decide), lo 7 (by omega) (by omega) (by omega)]; exact g4
    · rw [c2, upd_s]
    · rw [c2, upd_n (by decide), lo 2 (by omega) (by omega) (by omega)]; exact g6
    · rw [c2, upd_n (by decide), lo 3 (by omega) (by omega) (by omega)]; exact g7
    · exact (f1.fs hd).tr ⟨by rw [i2], fun c m h => o2 c m (fun z => h (by unfold zOw; omega)), fun c m _ => by rw [i2]⟩
theorem cb_iff (d : Nat) (hd : d < 2) (c : Int32) : zCB (nI d) c ↔ (0 ≤ c ∧ c < nI (zcol d)) := by
  have hl := zcol_le d
  have hg := zcol_ge d
  unfold zCB
  rw [zcol_eq d hd, show (1 : Int32) = nI 1 from rfl, pk_sub (by omega)]
  have e : c ≤ nI (zcol d - 1) ↔ c < nI (zcol d) := by
    rw [i_lei, i_lt, nI_toInt (by omega), nI_toInt (by omega)]; omega
  rw [e]
  exact ⟨fun h => h.2, fun h => ⟨zVB_nI d hd, h⟩⟩
theorem cs_stick {M : zM} {k B : Nat} {σ τ : Nat → Int32} {b c r s a : Int32} (hB : B < 2 ^ 25) (hW : zW B σ) (hG : zGS M k σ) (t : zXk σ b c r s a τ) : ∃ M', zd_X4_stickDisc [zR 4 k, zI b, zI c, zI r, zI s] M = zs a M' ∧ zGS M' k τ ∧ zFS M M' k := by
  obtain ⟨N, hN, hs, gW, gB, g3, g4, g5, g6, g7⟩ := id hG
  rcases t with ⟨hb, rfl, rfl⟩ | ⟨d, q, i, j, hd, hq, hi, hj, rfl, rfl, rfl, rfl, rfl, rfl⟩
  · refine ⟨M, ?_, hG, zFS.rf M k⟩
    by_cases c0 : zVB b
    · obtain ⟨d, hd, rfl⟩ := zVB_of c0
      rw [en_X4_stickDisc, bk_X4_stickDisc_0, zbi (cs_blindAt k d hd M), bk_X4_stickDisc_5r, bk_X4_stickDisc_12r, zbi (cp_hasDisc _ _ _ M), bk_X4_stickDisc_19r, (gB d hd).1]
      by_cases c1 : (0 ≤ c ∧ c < nI (zcol d)) ∧ 0 ≤ r ∧ r < 5
      · have hs2 : ¬ (0 ≤ s ∧ s ≤ 2) := by
          rcases hb with h | h | h
          · exact absurd ((cb_iff d hd c).mpr c1.1) h
          · refine absurd ⟨c1.2.1, ?_⟩ h
            have := c1.2.2
            rw [i_lt] at this
            rw [i_lei]
            rw [show (5 : Int32).toInt = 5 from rfl] at this
            rw [show (4 : Int32).toInt = 4 from rfl]
            omega
          · exact h
        rw [if_neg (zne0 c1), bk_X4_stickDisc_22r]
        by_cases c2 : s < 0
        · rw [if_pos c2, bk_X4_stickDisc_33]
        · rw [if_neg c2, bk_X4_stickDisc_27r, if_neg (fun z => hs2 ⟨i_le.mpr c2, z⟩), bk_X4_stickDisc_33]
      · rw [if_pos (zb_0.mpr c1), bk_X4_stickDisc_33]
    · rw [en_X4_stickDisc, bk_X4_stickDisc_0, zbi (cs_blindAt_n k b c0 M), bk_X4_stickDisc_5n, bk_X4_stickDisc_33]
  · have hl := zcol_le d
    have hgd := gB d hd
    obtain ⟨u, x, s', w, hu, ev⟩ := hW.2.2.2 d i q hd hi hq
    have hdv := zfD_dv hq (by omega) ev
    have head : zd_X4_stickDisc [zR 4 k, zI (nI d), zI (nI q), zI (nI i), zI (nI j)] M = zev zC_X4_stickDisc 36 ([none, none, some (zI (nI q)), some (zI (nI i)), some (zI (nI j)), some (zR 0 (2 * k + d))], [], M) := by
      rw [en_X4_stickDisc, bk_X4_stickDisc_0, zbi (cs_blindAt k d hd M), bk_X4_stickDisc_5r, bk_X4_stickDisc_12r, zbi (cp_hasDisc _ _ _ M), bk_X4_stickDisc_19r, hgd.1, if_neg (zne0 ⟨⟨nI_pos' (by omega), nI_lt hq (by omega)⟩, nI_pos' (by omega), (show (5 : Int32) = nI 5 from rfl) ▸ nI_lt hi (by omega)⟩), bk_X4_stickDisc_22r, if_neg (nI_pos (by omega)), bk_X4_stickDisc_27r, show (2 : Int32) = nI 2 from rfl, if_pos (nI_le (by omega) (by omega))]
    have hz := zat_ge (b := d) (r := i) (c := q)
    have fin : ∀ (M1 : zM), zFB M M1 (2 * k + d) → zGB M1 (2 * k + d) d (upd σ (zat d i q) (zsk (σ (zat d i q)) j)) → zGS M1 k (upd σ (zat d i q) (zsk (σ (zat d i q)) j)) := by
      intro M1 f1 b1
      have k4 : M1.1 4 k = M.1 4 k := f1.2.1 4 k (by omega) (by omega)
      refine ⟨N, hN, by rw [upd_n (by omega)]; exact hs, (gW.fb hN f1).cg (fun w hw => by rw [upd_n (by omega), upd_n (by omega)]; exact ⟨rfl, rfl⟩), fun b' hb' => ?_, by rw [k4, upd_n (by omega)]; exact g3, by rw [k4, upd_n (by omega)]; exact g4, by rw [k4, upd_n (by omega)]; exact g5, by rw [k4, upd_n (by omega)]; exact g6, by rw [k4, upd_n (by omega)]; exact g7⟩
      by_cases e : b' = d
      · subst e; exact b1
      · exact ((gB b' hb').fb f1 (by omega)).cg (upd_n (by omega)) (fun c r hc hr => upd_n (fun z => e (zat_inj hb' hr hc hd hi hq z).1))
    by_cases c2 : j = 2
    · subst c2
      obtain ⟨M1, L, R, e1, j1, p1⟩ := cp_put hgd.2.2.2.1 q i (by omega) hi false
      have hG1 : zGB M1 (2 * k + d) d (upd σ (zat d i q) (zsk (σ (zat d i q)) 2)) := by
        rw [ev, dv_sk x s' w (by omega) 2 (by omega), if_pos rfl]
        exact gb_up hd hi hq (by omega) (by omega) hgd ev (by rw [j1.1]) (zDt.cg (j1.ne (by omega) hgd.2.2.1) (fun c' r' _ _ => (if_same (fun z => by rw [z.1, z.2]; exact hdv.1.symm)).symm)) (j1.dt p1) (j1.ne (by omega) hgd.2.2.2.2.1) (fun c' r' hc' hr' => by
          rw [j1.1]
          by_cases e : c' = q ∧ r' = i
          · rw [if_pos e, e.1, e.2, hgd.2.2.2.2.2 q i hq hi, ev, dv_div _ _ _ (by omega)]
          · rw [if_neg e]; exact hgd.2.2.2.2.2 c' r' hc' hr')
      have f1 := j1.fb (n := 2 * k + d) (by omega) (by omega)
      refine ⟨M1, ?_, fin M1 f1 hG1, f1.fs hd⟩
      rw [head, bk_X4_stickDisc_36r, if_pos (show nI 2 = 2 from rfl), bk_X4_stickDisc_53r, show (0 : Int32) = zbI false from rfl, bk_X4_stickDisc_54r, zbv e1, bk_X4_stickDisc_57r, if_pos (show nI 2 = 2 from rfl), bk_X4_stickDisc_84r, zbi (cp_size hG1.2.2.2.1), bk_X4_stickDisc_92r, hv_q]
    · obtain ⟨M1, L, R, e1, j1, p1⟩ := cp_put hgd.2.2.2.1 q i (by omega) hi true
      obtain ⟨M2, L2, R2, e2, j2, p2⟩ := cp_put (j1.ne (m := 4 * (2 * k + d)) (by omega) hgd.2.2.1) q i (by omega) hi (decide (j = 1))
      have hG1 : zGB M2 (2 * k + d) d (upd σ (zat d i q) (zsk (σ (zat d i q)) j)) := by
        rw [ev, dv_sk x s' w (by omega) j hj, if_neg c2]
        exact gb_up hd hi hq (by omega) (by omega) hgd ev (by rw [j2.1, j1.1]) (j2.dt p2) (j2.ne (by omega) (j1.dt p1)) (j2.ne (by omega) (j1.ne (by omega) hgd.2.2.2.2.1)) (fun c' r' hc' hr' => by
          rw [j2.1, j1.1]
          by_cases e : c' = q ∧ r' = i
          · rw [if_pos e, e.1, e.2, hgd.2.2.2.2.2 q i hq hi, ev, dv_div _ _ _ (by omega)]
          · rw [if_neg e]; exact hgd.2.2.2.2.2 c' r' hc' hr')
      have f1 := (j1.fb (n := 2 * k + d) (by omega) (by omega)).tr (j2.fb (n := 2 * k + d) (by omega) (by omega))
      have hne : ¬ nI j = 2 := fun z => c2 ((nI_eq (by omega) (by decide)).mp (z.trans (show (2 : Int32) = nI 2 from rfl)))
      refine ⟨M2, ?_, fin M2 f1 hG1, f1.fs hd⟩
      rw [head, bk_X4_stickDisc_36r, if_neg hne, bk_X4_stickDisc_49r, show (1 : Int32) = zbI true from rfl, bk_X4_stickDisc_54r, zbv e1, bk_X4_stickDisc_57r, if_neg hne, bk_X4_stickDisc_63r]
      have tail : zev zC_X4_stickDisc 84 ([none, none, none, none, none, some (zR 0 (2 * k + d))], [], M2) = zs (nI (zhv (upd σ (zat d i q) (zsk (σ (zat d i q)) j)) d 2)) M2 := by
        rw [bk_X4_stickDisc_84r, zbi (cp_size hG1.2.2.2.1), bk_X4_stickDisc_92r, hv_q]
      by_cases c3 : j = 1
      · subst c3
        rw [if_pos (show nI 1 = 1 from rfl), bk_X4_stickDisc_76r, show (1 : Int32) = zbI (decide (1 = 1)) from rfl, bk_X4_stickDisc_81r, zbv e2]
        exact tail
      · rw [if_neg (fun z => c3 ((nI_eq (by omega) (by decide)).mp (z.trans (show (1 : Int32) = nI 1 from rfl)))), bk_X4_stickDisc_80r, show (0 : Int32) = zbI (decide (j = 1)) by rw [decide_eq_false c3]; rfl, bk_X4_stickDisc_81r, zbv e2]
        exact tail
theorem zrp_lo (σ : Nat → Int32) (d q : Nat) (j : Nat) (hj : j < 28) : zrp σ d q 5 j = σ j := zrp_o σ d q j 5 (fun r' _ z => by have := zat_ge (b := d) (r := r') (c := q); omega)
theorem cs_repair {M : zM} {k B : Nat} {σ τ : Nat → Int32} {b c a : Int32} (hB : B < 2 ^ 25) (hW : zW B σ) (hG : zGS M k σ) (t : zXr σ b c a τ) : ∃ M', zd_X4_repairColumn [zR 4 k, zI b, zI c] M = zs a M' ∧ zGS M' k τ ∧ zFS M M' k := by
  obtain ⟨N, hN, hs, gW, gB, g3, g4, g5, g6, g7⟩ := id hG
  rcases t with ⟨hb, rfl, rfl⟩ | ⟨d, q, hd, hq, rfl, rfl, rfl, rfl⟩
  · refine ⟨M, ?_, hG, zFS.rf M k⟩
    by_cases c0 : zVB b
    · obtain ⟨d, hd, rfl⟩ := zVB_of c0
      rw [en_X4_repairColumn, bk_X4_repairColumn_0, zbi (cs_blindAt k d hd M), bk_X4_repairColumn_5r, bk_X4_repairColumn_10r, zbi (cp_hasColumn _ _ M), bk_X4_repairColumn_15r, (gB d hd).1, if_pos (zb_0.mpr (fun z => hb ((cb_iff d hd c).mpr z))), bk_X4_repairColumn_18]
    · rw [en_X4_repairColumn, bk_X4_repairColumn_0, zbi (cs_blindAt_n k b c0 M), bk_X4_repairColumn_5n, bk_X4_repairColumn_18]
  · have hl := zcol_le d
    have s1 : ∃ M1, zd_X4_repairColumn [zR 4 k, zI (nI d), zI (nI q)] M = zev zC_X4_repairColumn 31 ([some (zR 4 k), none, some (zI (nI q)), some (zR 0 (2 * k + d))], [], M1) ∧ M1.2 = M.2 ∧ (∀ c m, ¬ (c = 4 ∧ m = k) → M1.1 c m = M.1 c m) ∧ M1.1 4 k = upd (M.1 4 k) 6 (σ 2 + 1) := by
      refine ⟨(zst M.1 4 k (upd (M.1 4 k) 6 (M.1 4 k 6 + 1)), M.2), ?_, rfl, fun c m h => zst_ne M.1 _ h, by dsimp only; rw [zst_self, g6]⟩
      rw [en_X4_repairColumn, bk_X4_repairColumn_0, zbi (cs_blindAt k d hd M), bk_X4_repairColumn_5r, bk_X4_repairColumn_10r, zbi (cp_hasColumn _ _ M), bk_X4_repairColumn_15r, (gB d hd).1, if_neg (zne0 ⟨nI_pos' (by omega), nI_lt hq (by omega)⟩), bk_X4_repairColumn_21r]
    obtain ⟨M1, e1, i1, o1, c1⟩ := s1
    have mb : ∀ n b', zGB M n b' σ → zGB M1 n b' σ := fun n b' h => h.mv (by rw [o1 0 _ (by omega)]; exact h.1) (by rw [o1 0 _ (by omega)]) (fun i _ => by rw [i1]; exact ⟨rfl, rfl⟩) (fun j _ => by rw [o1 25 _ (by omega)])
    obtain ⟨M2, e2, b2, f2⟩ := cp_mend (n := 2 * k + d) hd hq hB hW (mb _ _ (gB d hd))
    have k4 : M2.1 4 k = upd (M.1 4 k) 6 (σ 2 + 1) := (f2.2.1 4 k (by omega) (by omega)).trans c1
    have lo : ∀ j, j < 28 → j ≠ 2 → upd (zrp σ d q 5) 2 (σ 2 + 1) j = σ j := fun j h1 h2 => (upd_n h2).trans (zrp_lo σ d q j h1)
    refine ⟨M2, ?_, ⟨N, hN, (lo 0 (by omega) (by omega)).trans hs, ?_, fun b' hb' => ?_, by rw [k4, upd_n (by decide), lo 6 (by omega) (by omega)]; exact g3, by rw [k4, upd_n (by decide), lo 7 (by omega) (by omega)]; exact g4, by rw [k4, upd_n (by decide), lo 1 (by omega) (by omega)]; exact g5, by rw [k4, upd_s, upd_s], by rw [k4, upd_n (by decide), lo 3 (by omega) (by omega)]; exact g7⟩, ?_⟩
    · rw [e1, bk_X4_repairColumn_31r, zbi e2, bk_X4_repairColumn_36r]
    · have g1 : zGW M1 k σ N := gW.mv hN (by rw [o1 6 _ (by omega)]) (fun j _ => by rw [o1 20 _ (by omega), o1 21 _ (by omega), o1 22 _ (by omega)]; exact ⟨rfl, rfl, rfl⟩) (fun j _ => by rw [i1]; exact ⟨rfl, rfl⟩)
      exact (g1.fb hN f2).cg (fun w hw => ⟨lo _ (by omega) (by omega), lo _ (by omega) (by omega)⟩)
    · by_cases e : b' = d
      · subst e
        exact b2.cg (upd_n (by omega)) (fun c r _ _ => upd_n (by have := zat_ge (b := b') (r := r) (c := c); omega))
      · refine ((mb _ _ (gB b' hb')).fb f2 (by omega)).cg (lo _ (by omega) (by omega)) (fun c r hc hr => ?_)
        rw [upd_n (by have := zat_ge (b := b') (r := r) (c := c); omega)]
        exact zrp_o σ d q _ 5 (fun r' hr2 z => e (zat_inj hb' hr hc hd hr2 hq z).1)
    · exact zFS.tr ⟨by rw [i1], fun c m h => o1 c m (fun z => h (by unfold zOw; omega)), fun c m _ => by rw [i1]⟩ (f2.fs hd)
