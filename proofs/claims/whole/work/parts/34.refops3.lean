-- ===== the reference: blinds =====
theorem sp_show_bad (w a : Int32) (M : zM) (h : ¬ zVW M w ∨ ¬ zVB a) : zd_X8_show [zR 8 0, zI w, zI a] M = zs (-1000001) M := by
  rw [en_X8_show, bk_X8_show_0, zbi (sp_isWord _ _ _), bk_X8_show_5]
  by_cases h1 : zVW M w
  · rw [if_neg (zne0 h1), bk_X8_show_8, zbi (sp_isBlind _ _), bk_X8_show_12, if_pos (zb_0.mpr (h.resolve_left (fun z => z h1))), bk_X8_show_15]
  · rw [if_pos (zb_0.mpr h1), bk_X8_show_15]
theorem sp_show_not (w b N : Nat) (hb : b < 2) (hN : N ≤ 10) (hw : w < N) (M : zM) (hs : M.1 29 0 0 = nI N) (h : ¬ zcan (M.1 29 0) (M.1 8 0 8) w b) : ∃ M', zd_X8_show [zR 8 0, zI (nI w), zI (nI b)] M = zs (-1000002) M' ∧ zRf M M' := by
  obtain ⟨M', v, h1, h2, -, h3, h4⟩ := sp_canShow w b N hb (by omega) hN M hs
  refine ⟨M', ?_, h2⟩
  rw [en_X8_show, bk_X8_show_0, zbi (sp_isWord _ _ _), bk_X8_show_5, if_neg (zne0 (zVW_nI hs hN hw)), bk_X8_show_8, zbi (sp_isBlind _ _), bk_X8_show_12, if_neg (zne0 (zVB_nI b hb)), bk_X8_show_18, zbi h1, bk_X8_show_24, if_pos (h4.mpr h), bk_X8_show_27]
/-- s behind a show: the discs, and what is counted -/
def zsw' (τ : Nat → Int32) (w : Nat) : Nat → Int32 := fun j => if j = 3 then τ 3 + 1 else if j = 9 + 2 * w then τ (9 + 2 * w) + 1 else τ j
theorem sp_show (w b k N : Nat) (hb : b < 2) (hN : N ≤ 10) (hw : w < N) (M : zM) (hs : M.1 29 0 0 = nI N) (h : zcan (M.1 29 0) (M.1 8 0 8) w b) (hk : (zbst (M.1 29 0) (M.1 8 0 8) w b).1 = some k) (hh : zHx M) : ∃ M' τ, zd_X8_show [zR 8 0, zI (nI w), zI (nI b)] M = zs (nI k) M' ∧ zOp M M' ∧ zWA (M.1 29 0) b (zwb (M.1 29 0 (8 + 2 * w)) k) 5 0 τ ∧ M'.1 29 0 = zsw' τ w := by
  obtain ⟨Ma, v, h1, h2, -, h3, h4⟩ := sp_canShow w b N hb (by omega) hN M hs
  obtain ⟨Mb, k1, k2⟩ := sp_chg Ma (hh.f h2)
  have eb : Mb.1 29 0 = M.1 29 0 := k2.s.trans h2.s
  have eb8 : Mb.1 8 0 8 = M.1 8 0 8 := (k2.2.2.1 8 (by decide)).trans (h2.2.2 8 (by decide))
  obtain ⟨Mc, m1, m2, -⟩ := sp_bestShift w b N hb (by omega) hN Mb (by rw [eb]; exact hs)
  rw [eb, eb8, hk] at m1
  obtain ⟨Md, w1, w2, w3⟩ := sp_wantsAll b k (Mc.1 29 0 (8 + 2 * w)) hb Mc
  have ec : Mc.1 29 0 = M.1 29 0 := m2.s.trans eb
  rw [ec] at w3
  have e9 : ((8 : Int32) + (2 * nI w)) + 1 = nI (9 + 2 * w) := by
    rw [show 9 + 2 * w = 8 + 2 * w + 1 by omega, ← nI_1, ← nI_add, ← pk_mul]; rfl
  refine ⟨(zst Md.1 29 0 (zsw' (Md.1 29 0) w), Md.2), Md.1 29 0, ?_, zOp.of h2 k2 ((m2.rs.tr w2.rs).st _), w3, zst_self Md.1 29 0 (zsw' (Md.1 29 0) w)⟩
  rw [en_X8_show, bk_X8_show_0, zbi (sp_isWord _ _ _), bk_X8_show_5, if_neg (zne0 (zVW_nI hs hN hw)), bk_X8_show_8, zbi (sp_isBlind _ _), bk_X8_show_12, if_neg (zne0 (zVB_nI b hb)), bk_X8_show_18, zbi h1, bk_X8_show_24, if_neg (fun z => h4.mp z h), bk_X8_show_30, zbv k1, bk_X8_show_34, zbi m1, bk_X8_show_40, zbi (sp_letters w 0 (by omega) Mc), bk_X8_show_48]
  show Option.bind (zd_X8_wantsAll [zR 8 0, zI (nI b), zI (Mc.1 29 0 (8 + 2 * w)), zI (nI k)] Mc) _ = _
  rw [zbv w1, bk_X8_show_52, e9, if_neg (ix_in (by omega) (by decide)), ix_cl (by omega), bk_X8_show_66, if_neg (ix_in (by omega) (by decide)), ix_cl (by omega), bk_X8_show_69, bk_X8_show_79]
  dsimp only
  rw [zst_zst, zst_self]
  have e : upd (upd (Md.1 29 0) (9 + 2 * w) (Md.1 29 0 (9 + 2 * w) + 1)) 3 (upd (Md.1 29 0) (9 + 2 * w) (Md.1 29 0 (9 + 2 * w) + 1) 3 + 1) = zsw' (Md.1 29 0) w := by
    funext j
    unfold zsw'
    by_cases hj : j = 3
    · subst hj; rw [upd_s, if_pos rfl, upd_n (by omega)]
    · rw [upd_n hj, if_neg hj]
      by_cases hj2 : j = 9 + 2 * w
      · subst hj2; rw [upd_s, if_pos rfl]
      · rw [upd_n hj2, if_neg hj2]
  rw [e]
  rfl
theorem sp_blank_bad (a : Int32) (M : zM) (h : ¬ zVB a) : zd_X8_blank [zR 8 0, zI a] M = zs (-1000001) M := by
  rw [en_X8_blank, bk_X8_blank_0, zbi (sp_isBlind _ _), bk_X8_blank_4, if_pos (zb_0.mpr h), bk_X8_blank_7]
theorem sp_blank (b : Nat) (hb : b < 2) (M : zM) (hh : zHx M) : ∃ M', zd_X8_blank [zR 8 0, zI (nI b)] M = zs (nI (zhv (M'.1 29 0) b 1)) M' ∧ zOp M M' ∧ zWA (M.1 29 0) b (zwb 0 0) 5 0 (M'.1 29 0) := by
  obtain ⟨Mb, k1, k2⟩ := sp_chg M hh
  obtain ⟨Md, w1, w2, w3⟩ := sp_wantsAll b 0 0 hb Mb
  rw [k2.s] at w3
  refine ⟨Md, ?_, zOp.of (zRf.rf M) k2 w2.rs, w3⟩
  rw [en_X8_blank, bk_X8_blank_0, zbi (sp_isBlind _ _), bk_X8_blank_4, if_neg (zne0 (zVB_nI b hb)), bk_X8_blank_10, zbv k1, bk_X8_blank_14]
  have w1' : zd_X8_wantsAll [zR 8 0, zI (nI b), zI 0, zI 0] Mb = some (none, Md) := w1
  rw [zbv w1', bk_X8_blank_21, zbi (sp_have 0 b 1 hb Md), bk_X8_blank_27]
theorem zV2_nI : ∀ s, s < 3 → 0 ≤ nI s ∧ nI s ≤ 2 := by decide
theorem zV2_of {a : Int32} (h : 0 ≤ a ∧ a ≤ 2) : ∃ b, b < 3 ∧ a = nI b := by
  obtain ⟨j, h3, h4⟩ := nI_of2 (M := 2) (n := 2) rfl (i_le.mp h.1) h.2
  exact ⟨j, by omega, h4⟩
theorem sp_stick_bad (a c r s : Int32) (M : zM) (h : ¬ ((0 ≤ a ∧ a ≤ 1) ∧ 0 ≤ c ∧ c ≤ zcolI a - 1) ∨ ¬ (0 ≤ r ∧ r ≤ 4) ∨ ¬ (0 ≤ s ∧ s ≤ 2)) : zd_X8_stick [zR 8 0, zI a, zI c, zI r, zI s] M = zs (-1000001) M := by
  rw [en_X8_stick, bk_X8_stick_0, zbi (sp_isColumn _ _ _), bk_X8_stick_5]
  by_cases h1 : (0 ≤ a ∧ a ≤ 1) ∧ 0 ≤ c ∧ c ≤ zcolI a - 1
  · rw [if_neg (zne0 h1), bk_X8_stick_8, zbi (sp_in _ _ _ _), bk_X8_stick_14]
    by_cases h2 : 0 ≤ r ∧ r ≤ 4
    · rw [if_neg (zne0 h2), bk_X8_stick_17, zbi (sp_in _ _ _ _), bk_X8_stick_24, if_pos (zb_0.mpr ((h.resolve_left (fun z => z h1)).resolve_left (fun z => z h2))), bk_X8_stick_27]
    · rw [if_pos (zb_0.mpr h2), bk_X8_stick_27]
  · rw [if_pos (zb_0.mpr h1), bk_X8_stick_27]
/-- a disc that is stuck, or free -/
def zsk (v : Int32) (s : Nat) : Int32 := if s = 2 then v &&& (-3) else ((v &&& (-2)) ||| 2) ||| (if s = 1 then 1 else 0)
theorem sp_stick (b c r s : Nat) (hb : b < 2) (hc : c < zcol b) (hr : r < 5) (hs : s < 3) (M : zM) (hh : zHx M) : ∃ M', zd_X8_stick [zR 8 0, zI (nI b), zI (nI c), zI (nI r), zI (nI s)] M = zs (nI (zhv (M'.1 29 0) b 2)) M' ∧ zOp M M' ∧ M'.1 29 0 = upd (M.1 29 0) (zat b r c) (zsk (M.1 29 0 (zat b r c)) s) := by
  have hat := zat_lt hb hr hc
  obtain ⟨M1, k1, k2⟩ := sp_chg M hh
  refine ⟨(zst M1.1 29 0 (upd (M.1 29 0) (zat b r c) (zsk (M.1 29 0 (zat b r c)) s)), M1.2), ?_, zOp.of (zRf.rf M) k2 ((zRs.rf M1).st _), zst_self M1.1 29 0 (upd (M.1 29 0) (zat b r c) (zsk (M.1 29 0 (zat b r c)) s))⟩
  rw [en_X8_stick, bk_X8_stick_0, zbi (sp_isColumn _ _ _), bk_X8_stick_5, if_neg (zne0 (zVC_nI hb hc)), bk_X8_stick_8, zbi (sp_in _ _ _ _), bk_X8_stick_14, if_neg (zne0 (zV4_nI r hr)), bk_X8_stick_17, zbi (sp_in _ _ _ _), bk_X8_stick_24, if_neg (zne0 (zV2_nI s hs)), bk_X8_stick_30, zbv k1, bk_X8_stick_34, zbi (sp_at b r c hb M1), bk_X8_stick_40]
  have h91 : ∀ (x : Int32) (d4 d5 : Option zV), zev zC_X8_stick 91 ([some (zR 8 0), some (zI (nI b)), none, none, d4, d5], [zI x, zI (nI (zat b r c)), zR 29 0], M1) = zs (nI (zhv (upd (M.1 29 0) (zat b r c) x) b 2)) (zst M1.1 29 0 (upd (M.1 29 0) (zat b r c) x), M1.2) := by
    intro x d4 d5
    rw [bk_X8_stick_91, if_neg (ix_in hat (by decide)), ix_cl (by omega), bk_X8_stick_92, zbi (sp_have 0 b 2 hb _), bk_X8_stick_98]
    dsimp only
    rw [zst_self, k2.s]
  unfold zsk
  by_cases h2 : s = 2
  · subst h2
    rw [if_pos (show nI 2 = 2 from rfl), bk_X8_stick_54, if_neg (ix_in hat (by decide)), ix_cl (by omega), bk_X8_stick_61, h91, k2.s, if_pos rfl]
    dsimp only
    rw [zst_self]
  · rw [if_neg (show ¬ nI s = 2 from fun z => h2 ((nI_eq (by omega) (by decide)).mp (show nI s = nI 2 from z))), bk_X8_stick_67, if_neg (ix_in hat (by decide)), ix_cl (by omega), bk_X8_stick_74, if_neg h2]
    by_cases h1 : s = 1
    · subst h1
      rw [if_pos (show nI 1 = 1 from rfl), bk_X8_stick_85, bk_X8_stick_90, h91, k2.s, if_pos rfl]
      dsimp only
      rw [zst_self]
    · rw [if_neg (show ¬ nI s = 1 from fun z => h1 ((nI_eq (by omega) (by decide)).mp (show nI s = nI 1 from z))), bk_X8_stick_89, bk_X8_stick_90, h91, k2.s, if_neg h1]
      dsimp only
      rw [zst_self]
theorem sp_repair_bad (a c : Int32) (M : zM) (h : ¬ ((0 ≤ a ∧ a ≤ 1) ∧ 0 ≤ c ∧ c ≤ zcolI a - 1)) : zd_X8_repair [zR 8 0, zI a, zI c] M = zs (-1000001) M := by
  rw [en_X8_repair, bk_X8_repair_0, zbi (sp_isColumn _ _ _), bk_X8_repair_5, if_pos (zb_0.mpr h), bk_X8_repair_8]
/-- s with r rows of a column repaired -/
def zrp (σ : Nat → Int32) (b c : Nat) : Nat → Nat → Int32
  | 0 => σ
  | r + 1 => upd (zrp σ b c r) (zat b r c) (σ (zat b r c) &&& 5)
theorem zrp_at (σ : Nat → Int32) {b c : Nat} (hb : b < 2) (hc : c < zcol b) : ∀ r, r ≤ 5 → ∀ r', r ≤ r' → r' < 5 → zrp σ b c r (zat b r' c) = σ (zat b r' c) := by
  intro r
  induction r with
  | zero => intro _ r' _ _; rfl
  | succ r ih =>
    intro hr r' h1 h2
    have hne : zat b r' c ≠ zat b r c := fun z => by
      have := (zat_inj hb h2 hc hb (by omega) hc z).2.1
      omega
    rw [zrp, upd_n hne]
    exact ih (by omega) r' (by omega) h2
def zrpn (σ : Nat → Int32) (b c : Nat) (r : Nat) : Nat := zsm (fun r => (!decide ((σ (zat b r c) &&& 2) = 0)).toNat) r
theorem sp_repair_loop (b c : Nat) (hb : b < 2) (hc : c < zcol b) (σ : Nat → Int32) (M1 : zM) (hσ : M1.1 29 0 = σ) : ∀ (j r : Nat) (d5 : Option zV), r + j = 5 →
    zev zC_X8_repair 20 ([some (zR 8 0), some (zI (nI b)), some (zI (nI c)), some (zI (nI (zrpn σ b c r))), some (zI (nI r)), d5], [], (zst M1.1 29 0 (zrp σ b c r), M1.2)) = zs (nI (zrpn σ b c 5)) (zst M1.1 29 0 (upd (zrp σ b c 5) 2 (σ 2 + 1)), M1.2) := by
  intro j
  induction j with
  | zero =>
    intro r d5 hr
    have hr5 : r = 5 := by omega
    subst hr5
    have e2 : zrp σ b c 5 2 = σ 2 := by
      have : ∀ r, r ≤ 5 → zrp σ b c r 2 = σ 2 := by
        intro r
        induction r with
        | zero => intro _; rfl
        | succ r ih => intro hr; rw [zrp, upd_n (by have := zat_ge (b := b) (r := r) (c := c); omega)]; exact ih (by omega)
      exact this 5 (by omega)
    rw [bk_X8_repair_20, if_pos (by decide), bk_X8_repair_72, bk_X8_repair_82]
    dsimp only
    rw [zst_zst, zst_self, e2]
  | succ j ih =>
    intro r d5 hr
    have hat := zat_lt hb (show r < 5 by omega) hc
    have hv := zrp_at σ hb hc r (by omega) r (by omega) (by omega)
    rw [bk_X8_repair_20, show (5 : Int32) = nI 5 from rfl, if_neg (nI_ge (by omega) (by omega)), bk_X8_repair_26, zbi (sp_at b r c hb _), bk_X8_repair_33, if_neg (ix_in hat (by decide)), ix_cl (by omega)]
    dsimp only
    rw [zst_self, hv, bk_X8_repair_43]
    have h53 : ∀ x : Nat, zev zC_X8_repair 53 ([some (zR 8 0), some (zI (nI b)), some (zI (nI c)), none, some (zI (nI r)), some (zI (nI (zat b r c)))], [zI (nI x), zI (nI (zrpn σ b c r))], (zst M1.1 29 0 (zrp σ b c r), M1.2)) = zev zC_X8_repair 20 ([some (zR 8 0), some (zI (nI b)), some (zI (nI c)), some (zI (nI (zrpn σ b c r + x))), some (zI (nI (r + 1))), some (zI (nI (zat b r c)))], [], (zst M1.1 29 0 (zrp σ b c (r + 1)), M1.2)) := by
      intro x
      rw [bk_X8_repair_53, if_neg (ix_in hat (by decide)), ix_cl (by omega)]
      dsimp only
      rw [zst_self, hv, bk_X8_repair_63, if_neg (ix_in hat (by decide)), ix_cl (by omega), bk_X8_repair_66, nI_1, nI_add]
      dsimp only
      rw [zst_zst, zst_self]
      rfl
    rw [← ih (r + 1) (some (zI (nI (zat b r c)))) (by omega)]
    by_cases h2 : (σ (zat b r c) &&& 2) = 0
    · have e : zrpn σ b c (r + 1) = zrpn σ b c r + 0 := by unfold zrpn; rw [zsm, decide_eq_true h2]; rfl
      rw [if_pos h2, bk_X8_repair_52, e]
      exact h53 0
    · have e : zrpn σ b c (r + 1) = zrpn σ b c r + 1 := by unfold zrpn; rw [zsm, decide_eq_false h2]; rfl
      rw [if_neg h2, bk_X8_repair_48, e]
      exact h53 1
theorem sp_repair (b c : Nat) (hb : b < 2) (hc : c < zcol b) (M : zM) (hh : zHx M) : ∃ M', zd_X8_repair [zR 8 0, zI (nI b), zI (nI c)] M = zs (nI (zrpn (M.1 29 0) b c 5)) M' ∧ zOp M M' ∧ M'.1 29 0 = upd (zrp (M.1 29 0) b c 5) 2 (M.1 29 0 2 + 1) := by
  obtain ⟨M1, k1, k2⟩ := sp_chg M hh
  refine ⟨(zst M1.1 29 0 (upd (zrp (M.1 29 0) b c 5) 2 (M.1 29 0 2 + 1)), M1.2), ?_, zOp.of (zRf.rf M) k2 ((zRs.rf M1).st _), zst_self M1.1 29 0 (upd (zrp (M.1 29 0) b c 5) 2 (M.1 29 0 2 + 1))⟩
  have h := sp_repair_loop b c hb hc (M.1 29 0) M1 k2.s 5 0 none rfl
  rw [show zrp (M.1 29 0) b c 0 = M1.1 29 0 from k2.s.symm, zst_eta] at h
  rw [en_X8_repair, bk_X8_repair_0, zbi (sp_isColumn _ _ _), bk_X8_repair_5, if_neg (zne0 (zVC_nI hb hc)), bk_X8_repair_11, zbv k1, bk_X8_repair_15]
  exact h
