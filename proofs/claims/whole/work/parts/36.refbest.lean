-- ===== the reference: the best repair =====
/-- the best column ahead of c, and its margin -/
noncomputable def zbr' (f : Nat → Option Nat × Int32) : Nat → Int32 × Int32
  | 0 => (0, -1000)
  | c + 1 => if (f c).1 = none ∨ (f c).2 ≤ (zbr' f c).2 then zbr' f c else (nI c, (f c).2)
noncomputable def zbrA (σ : Nat → Int32) (w b : Nat) (i : Int32) : Int32 := if i = 0 then (zbr' (fun c => zbst σ (nI c) w b) (zcol b)).1 else (zbr' (fun c => zbst σ (nI c) w b) (zcol b)).2 + 1000
theorem zbr'_ge (σ : Nat → Int32) (w b : Nat) : ∀ c, (-1000 : Int32) ≤ (zbr' (fun c => zbst σ (nI c) w b) c).2 := by
  intro c
  induction c with
  | zero => exact Int32.le_refl _
  | succ c ih =>
    rw [zbr']
    split
    · exact ih
    · rename_i h
      rw [not_or] at h
      exact Int32.le_trans ih (Int32.le_of_lt (Int32.not_le.mp h.2))
def zfr (M : zM) (v : Int32) : zM := (zst M.1 8 0 (upd (M.1 8 0) 8 v), M.2)
theorem zfr_29 (M : zM) (v : Int32) : (zfr M v).1 29 0 = M.1 29 0 := zst_ne M.1 (upd (M.1 8 0) 8 v) (c := 8) (n := 0) (c' := 29) (n' := 0) (by decide)
theorem zfr_8 (M : zM) (v : Int32) : (zfr M v).1 8 0 = upd (M.1 8 0) 8 v := zst_self M.1 8 0 (upd (M.1 8 0) 8 v)
theorem zfr_rf {M0 M : zM} {v : Int32} (h : zRf (zfr M0 v) M) (v' : Int32) : zRf (zfr M0 v') (zfr M v') := by
  refine ⟨h.1, fun c n a b d e g => ?_, fun k hk => ?_⟩
  · have e1 := h.2.1 c n a b d e g
    have e2 : (zfr M0 v).1 c n = (zfr M0 v').1 c n := (zst_ne M0.1 (upd (M0.1 8 0) 8 v) (fun z => g z.1)).trans (zst_ne M0.1 (upd (M0.1 8 0) 8 v') (fun z => g z.1)).symm
    exact (zst_ne M.1 (upd (M.1 8 0) 8 v') (fun z => g z.1)).trans (e1.trans e2)
  · rw [zfr_8, zfr_8]
    unfold upd
    by_cases h8 : k = 8
    · rw [if_pos h8, if_pos h8]
    · rw [if_neg h8, if_neg h8]
      have := h.2.2 k hk
      rw [zfr_8, upd, if_neg h8] at this
      exact this
theorem sp_br_loop (w b N : Nat) (i : Int32) (hb : b < 2) (hw : w < 10) (hN : N ≤ 10) (M0 : zM) (hs : M0.1 29 0 0 = nI N) : ∀ (j c : Nat) (d : Option zV) (v : Int32) (M : zM), c + j = zcol b → zRf (zfr M0 v) M →
    ∃ M' v', zev zC_X8_bestRepair 50 ([some (zR 8 0), some (zI (nI w)), some (zI (nI b)), some (zI i), some (zI (zbr' (fun c => zbst (M0.1 29 0) (nI c) w b) c).1), some (zI (zbr' (fun c => zbst (M0.1 29 0) (nI c) w b) c).2), some (zI (nI c)), d], [], M) = zs (zbrA (M0.1 29 0) w b i) (zfr M' (-1000004)) ∧ zRf (zfr M0 v') M' := by
  intro j
  induction j with
  | zero =>
    intro c d v M hc hf
    have hl := zcol_le b
    refine ⟨M, v, ?_, hf⟩
    rw [bk_X8_bestRepair_50, zbi (sp_columns _ _), bk_X8_bestRepair_56, zcol_eq b hb, if_pos (nI_le (by omega) (by omega)), bk_X8_bestRepair_122, bk_X8_bestRepair_128, zbrA, show zcol b = c by omega]
    by_cases hi : i = 0
    · rw [if_pos hi, if_pos hi, bk_X8_bestRepair_132, bk_X8_bestRepair_143]; rfl
    · rw [if_neg hi, if_neg hi, bk_X8_bestRepair_137, bk_X8_bestRepair_143]; rfl
  | succ j ih =>
    intro c d v M hc hf
    have hl := zcol_le b
    have hf1 := zfr_rf hf (nI c)
    obtain ⟨M1, m1, m2, m3⟩ := sp_bestShift w b N hb hw hN (zfr M (nI c)) (by rw [hf1.s, zfr_29]; exact hs)
    have e8 : (zfr M (nI c)).1 8 0 8 = nI c := by rw [zfr_8, upd_s]
    rw [hf1.s, zfr_29, e8] at m1 m3
    have hf2 := hf1.tr m2
    obtain ⟨M', v', e1, e2⟩ := ih (c + 1) none (nI c) M1 (by omega) hf2
    refine ⟨M', v', ?_, e2⟩
    rw [← e1, zbr']
    have hfold : (zst M.1 8 0 (upd (M.1 8 0) 8 (nI c)), M.2) = zfr M (nI c) := rfl
    rw [bk_X8_bestRepair_50, zbi (sp_columns _ _), bk_X8_bestRepair_56, zcol_eq b hb, if_neg (nI_ge (by omega) (by omega)), bk_X8_bestRepair_59, hfold, bk_X8_bestRepair_65, zbi m1, bk_X8_bestRepair_71]
    have hlt := fun k hk => zbst_lt (M0.1 29 0) (nI c) w b k hk
    have hsl := zshf_le (mny (M0.1 29 0 (8 + 2 * w))) b
    have hn := zoN_lt (zbst (M0.1 29 0) (nI c) w b).1 (fun k hk => by have := hlt k hk; omega)
    generalize hB : zbr' (fun c => zbst (M0.1 29 0) (nI c) w b) c = B
    have hge : (-1000 : Int32) ≤ B.2 := by rw [← hB]; exact zbr'_ge _ _ _ _
    by_cases c1 : (zbst (M0.1 29 0) (nI c) w b).1 = none
    · have c2 : (zbst (M0.1 29 0) (nI c) w b).2 = -1000 := zbf_none _ _ _ c1
      rw [if_pos (Or.inl c1), if_pos (hn.mpr c1), bk_X8_bestRepair_92, bk_X8_bestRepair_94, m3, c2, if_pos hge, bk_X8_bestRepair_112, bk_X8_bestRepair_114, nI_1]
    · rw [if_neg (fun z => c1 (hn.mp z)), bk_X8_bestRepair_78, m3]
      by_cases c2 : (zbst (M0.1 29 0) (nI c) w b).2 ≤ B.2
      · rw [if_pos (Or.inr c2), if_pos c2, bk_X8_bestRepair_92, bk_X8_bestRepair_94, m3, if_pos c2, bk_X8_bestRepair_112, bk_X8_bestRepair_114, nI_1]
      · rw [if_neg (not_or.mpr ⟨c1, c2⟩), if_neg c2, bk_X8_bestRepair_87, bk_X8_bestRepair_94, m3, if_neg c2, bk_X8_bestRepair_105, m3, bk_X8_bestRepair_114, nI_1]
theorem sp_bestRepair_bad (w a i : Int32) (M : zM) (h : ¬ zVW M w ∨ ¬ zVB a ∨ ¬ (0 ≤ i ∧ i ≤ 1)) : zd_X8_bestRepair [zR 8 0, zI w, zI a, zI i] M = zs (-1000001) M := by
  rw [en_X8_bestRepair, bk_X8_bestRepair_0, zbi (sp_isWord _ _ _), bk_X8_bestRepair_5]
  by_cases h1 : zVW M w
  · rw [if_neg (zne0 h1), bk_X8_bestRepair_8, zbi (sp_isBlind _ _), bk_X8_bestRepair_12]
    by_cases h2 : zVB a
    · rw [if_neg (zne0 h2), bk_X8_bestRepair_15, zbi (sp_in _ _ _ _), bk_X8_bestRepair_21, if_pos (zb_0.mpr ((h.resolve_left (fun z => z h1)).resolve_left (fun z => z h2))), bk_X8_bestRepair_24]
    · rw [if_pos (zb_0.mpr h2), bk_X8_bestRepair_24]
  · rw [if_pos (zb_0.mpr h1), bk_X8_bestRepair_24]
theorem sp_bestRepair (w b N : Nat) (i : Int32) (hb : b < 2) (hN : N ≤ 10) (hw : w < N) (hi : 0 ≤ i ∧ i ≤ 1) (M : zM) (hs : M.1 29 0 0 = nI N) (h8 : M.1 8 0 8 = -1000004) : ∃ M', zd_X8_bestRepair [zR 8 0, zI (nI w), zI (nI b), zI i] M = zs (if zshf (mny (M.1 29 0 (8 + 2 * w))) b = 0 then -1000002 else zbrA (M.1 29 0) w b i) M' ∧ zRf M M' := by
  have head : zd_X8_bestRepair [zR 8 0, zI (nI w), zI (nI b), zI i] M = zev zC_X8_bestRepair 33 ([some (zR 8 0), some (zI (nI w)), some (zI (nI b)), some (zI i), none, none, none, none], [zI (nI (zshf (mny (M.1 29 0 (8 + 2 * w))) b))], M) := by
    rw [en_X8_bestRepair, bk_X8_bestRepair_0, zbi (sp_isWord _ _ _), bk_X8_bestRepair_5, if_neg (zne0 (zVW_nI hs hN hw)), bk_X8_bestRepair_8, zbi (sp_isBlind _ _), bk_X8_bestRepair_12, if_neg (zne0 (zVB_nI b hb)), bk_X8_bestRepair_15, zbi (sp_in _ _ _ _), bk_X8_bestRepair_21, if_neg (zne0 hi), bk_X8_bestRepair_27, zbi (sp_shifts w b 0 (by omega) hb M)]
  have hsl := zshf_le (mny (M.1 29 0 (8 + 2 * w))) b
  rw [head, bk_X8_bestRepair_33]
  by_cases hz : zshf (mny (M.1 29 0 (8 + 2 * w))) b = 0
  · exact ⟨M, by rw [hz, if_pos (show nI 0 = 0 from rfl), if_pos rfl, bk_X8_bestRepair_36], zRf.rf M⟩
  · have e0 : zfr M (-1000004) = M := by
      obtain ⟨f, g⟩ := M
      unfold zfr
      refine Prod.ext ?_ rfl
      funext c n
      dsimp only
      by_cases hq : c = 8 ∧ n = 0
      · obtain ⟨rfl, rfl⟩ := hq
        rw [zst_self]
        funext k
        unfold upd
        split
        · rename_i hk; rw [hk]; exact h8.symm
        · rfl
      · rw [zst_ne _ _ hq]
    obtain ⟨M', v', e1, e2⟩ := sp_br_loop w b N i hb (by omega) hN M hs (zcol b) 0 none (-1000004) M (by omega) (by rw [e0]; exact zRf.rf M)
    refine ⟨zfr M' (-1000004), ?_, ?_⟩
    · rw [if_neg (nI_ne0 (Nat.pos_of_ne_zero hz) (by omega)), if_neg hz, bk_X8_bestRepair_39, ← e1]
      rfl
    · have := zfr_rf e2 (-1000004)
      rw [e0] at this
      exact this
