-- ===== the reference: two words, the closest two, the best repair =====
noncomputable def zbtS (x : Int32) (k r : Nat) : Int32 := zrow x r <<< (nI k &&& (31 : Int32))
/-- how far the pictures of two words are apart where they are nearest, over the first n shifts of the first -/
noncomputable def zbt (x y : Int32) (c : Nat) : Nat → Nat
  | 0 => 1000
  | k + 1 => Nat.min (zbt x y c k) (zmi (zbtS x k) y c)
theorem zbt_le (x y : Int32) (c n : Nat) : zbt x y c n ≤ 1000 := by
  induction n with
  | zero => exact Nat.le_refl _
  | succ n ih => rw [zbt]; exact Nat.le_trans (Nat.min_le_left _ _) ih
theorem sp_btw_sight (w o b k : Nat) (a : Int32) (hw : w < 10) (M0 : zM) : ∀ (j r : Nat) (d7 : Option zV) (M : zM), r + j = 5 → zR3 M0 M → (∀ i, i < r → M.1 33 0 i = zbtS (M0.1 29 0 (8 + 2 * w)) k i) →
    ∃ M', zev zC_X8_between 22 ([some (zR 8 0), some (zI (nI w)), some (zI (nI o)), some (zI (nI b)), some (zI a), some (zI (nI k)), some (zI (nI r)), d7], [], M) = zev zC_X8_between 57 ([some (zR 8 0), some (zI (nI w)), some (zI (nI o)), some (zI (nI b)), some (zI a), some (zI (nI k)), some (zI (nI 0)), none], [], M') ∧ zR3 M0 M' ∧ ∀ i, i < 5 → M'.1 33 0 i = zbtS (M0.1 29 0 (8 + 2 * w)) k i := by
  intro j
  induction j with
  | zero =>
    intro r d7 M hr hf hs
    refine ⟨M, ?_, hf, fun i hi => hs i (by omega)⟩
    rw [bk_X8_between_22, show (5 : Int32) = nI 5 from rfl, if_pos (nI_le (by omega) (by omega)), bk_X8_between_54]
    rfl
  | succ j ih =>
    intro r d7 M hr hf hs
    obtain ⟨M', h1, h2, h3⟩ := ih (r + 1) none (zst M.1 33 0 (upd (M.1 33 0) r (zbtS (M0.1 29 0 (8 + 2 * w)) k r)), M.2) (by omega) (hf.s33 _) (fun i hi => by
      have e := congrFun (zst_self M.1 33 0 (upd (M.1 33 0) r (zbtS (M0.1 29 0 (8 + 2 * w)) k r))) i
      refine Eq.trans e ?_
      by_cases hir : i = r
      · subst hir; exact upd_s _ _ _
      · rw [upd_n hir]; exact hs i (by omega))
    refine ⟨M', ?_, h2, h3⟩
    rw [← h1, bk_X8_between_22, show (5 : Int32) = nI 5 from rfl, if_neg (nI_ge (by omega) (by omega)), bk_X8_between_28, zbi (sp_letters w 0 hw M), bk_X8_between_39, zbi (sp_rowOf _ r (by omega) M), bk_X8_between_44, if_neg (ix_in (show r < 5 by omega) (by decide)), ix_cl (by omega), bk_X8_between_48, nI_1, hf.s]
    rfl
theorem sp_btw_in (w o b k a : Nat) (hb : b < 2) (ho : o < 10) (ha : a ≤ 1000) (M : zM) : ∀ (j i : Nat) (d7 : Option zV), i + j = zrdc (M.1 29 0) b o →
    zev zC_X8_between 57 ([some (zR 8 0), some (zI (nI w)), some (zI (nI o)), some (zI (nI b)), some (zI (nI (Nat.min a (zmi (M.1 33 0) (M.1 29 0 (8 + 2 * o)) i)))), some (zI (nI k)), some (zI (nI i)), d7], [], M) = zev zC_X8_between 8 ([some (zR 8 0), some (zI (nI w)), some (zI (nI o)), some (zI (nI b)), some (zI (nI (Nat.min a (zmi (M.1 33 0) (M.1 29 0 (8 + 2 * o)) (zrdc (M.1 29 0) b o))))), some (zI (nI (k + 1))), none, none], [], M) := by
  intro j
  induction j with
  | zero =>
    intro i d7 hi
    have hl := zshf_le (mny (M.1 29 0 (8 + 2 * o))) b
    unfold zrdc at *
    rw [bk_X8_between_57, zbi (sp_shifts o b 0 ho hb M), bk_X8_between_65, if_pos (nI_le (by omega) (by omega)), bk_X8_between_99, nI_1, show zshf (mny (M.1 29 0 (8 + 2 * o))) b = i by omega]
  | succ j ih =>
    intro i d7 hi
    have hl := zshf_le (mny (M.1 29 0 (8 + 2 * o))) b
    have hap := zap_le (M.1 33 0) (M.1 29 0 (8 + 2 * o)) i
    have hmm : Nat.min a (zmi (M.1 33 0) (M.1 29 0 (8 + 2 * o)) i) ≤ 1000 := Nat.le_trans (Nat.min_le_left _ _) ha
    rw [bk_X8_between_57, zbi (sp_shifts o b 0 ho hb M), bk_X8_between_65, if_neg (nI_ge (by unfold zrdc at hi; omega) (by omega)), bk_X8_between_68, zbi (sp_apart 0 o i ho M), bk_X8_between_75, ← ih (i + 1) none (by omega)]
    have e : Nat.min a (zmi (M.1 33 0) (M.1 29 0 (8 + 2 * o)) (i + 1)) = Nat.min (Nat.min a (zmi (M.1 33 0) (M.1 29 0 (8 + 2 * o)) i)) (zap (M.1 33 0) (M.1 29 0 (8 + 2 * o)) i) := by
      rw [zmi]; exact (Nat.min_assoc _ _ _).symm
    rw [e]
    by_cases hc : Nat.min a (zmi (M.1 33 0) (M.1 29 0 (8 + 2 * o)) i) ≤ zap (M.1 33 0) (M.1 29 0 (8 + 2 * o)) i
    · rw [if_pos (nI_le hc (by omega)), bk_X8_between_89, bk_X8_between_91, nI_1, show Nat.min (Nat.min a (zmi (M.1 33 0) (M.1 29 0 (8 + 2 * o)) i)) (zap (M.1 33 0) (M.1 29 0 (8 + 2 * o)) i) = Nat.min a (zmi (M.1 33 0) (M.1 29 0 (8 + 2 * o)) i) from Nat.min_eq_left hc]
    · rw [if_neg (nI_ge (by omega) (by omega)), bk_X8_between_84, bk_X8_between_91, nI_1, show Nat.min (Nat.min a (zmi (M.1 33 0) (M.1 29 0 (8 + 2 * o)) i)) (zap (M.1 33 0) (M.1 29 0 (8 + 2 * o)) i) = zap (M.1 33 0) (M.1 29 0 (8 + 2 * o)) i from Nat.min_eq_right (by omega)]
noncomputable def zbtw (σ : Nat → Int32) (w o b : Nat) : Nat := zbt (σ (8 + 2 * w)) (σ (8 + 2 * o)) (zrdc σ b o) (zrdc σ b w)
theorem zbtw_le (σ : Nat → Int32) (w o b : Nat) : zbtw σ w o b ≤ 1000 := zbt_le _ _ _ _
theorem sp_btw_out (w o b : Nat) (hb : b < 2) (hw : w < 10) (ho : o < 10) (M0 : zM) : ∀ (j k : Nat) (d6 d7 : Option zV) (M : zM), k + j = zrdc (M0.1 29 0) b w → zR3 M0 M →
    ∃ M', zev zC_X8_between 8 ([some (zR 8 0), some (zI (nI w)), some (zI (nI o)), some (zI (nI b)), some (zI (nI (zbt (M0.1 29 0 (8 + 2 * w)) (M0.1 29 0 (8 + 2 * o)) (zrdc (M0.1 29 0) b o) k))), some (zI (nI k)), d6, d7], [], M) = zs (nI (zbtw (M0.1 29 0) w o b)) M' ∧ zR3 M0 M' := by
  intro j
  induction j with
  | zero =>
    intro k d6 d7 M hk hf
    have hl := zshf_le (mny (M0.1 29 0 (8 + 2 * w))) b
    refine ⟨M, ?_, hf⟩
    unfold zbtw
    rw [bk_X8_between_8, zbi (sp_shifts w b 0 hw hb M), bk_X8_between_16, hf.s, if_pos (nI_le (by unfold zrdc at hk; omega) (by unfold zrdc at hk; omega)), bk_X8_between_105, show zrdc (M0.1 29 0) b w = k by omega]
  | succ j ih =>
    intro k d6 d7 M hk hf
    have hl := zshf_le (mny (M0.1 29 0 (8 + 2 * w))) b
    obtain ⟨M1, h1, h2, h3⟩ := sp_btw_sight w o b k (nI (zbt (M0.1 29 0 (8 + 2 * w)) (M0.1 29 0 (8 + 2 * o)) (zrdc (M0.1 29 0) b o) k)) hw M 5 0 none M rfl (zR3.rf M) (fun i hi => by omega)
    have hf1 := hf.tr h2
    obtain ⟨M', e1, e2⟩ := ih (k + 1) none none M1 (by omega) hf1
    refine ⟨M', ?_, e2⟩
    have h4 := sp_btw_in w o b k (zbt (M0.1 29 0 (8 + 2 * w)) (M0.1 29 0 (8 + 2 * o)) (zrdc (M0.1 29 0) b o) k) hb ho (zbt_le _ _ _ _) M1 (zrdc (M1.1 29 0) b o) 0 none (by omega)
    rw [show Nat.min (zbt (M0.1 29 0 (8 + 2 * w)) (M0.1 29 0 (8 + 2 * o)) (zrdc (M0.1 29 0) b o) k) (zmi (M1.1 33 0) (M1.1 29 0 (8 + 2 * o)) 0) = zbt (M0.1 29 0 (8 + 2 * w)) (M0.1 29 0 (8 + 2 * o)) (zrdc (M0.1 29 0) b o) k from Nat.min_eq_left (zbt_le _ _ _ _)] at h4
    rw [bk_X8_between_8, zbi (sp_shifts w b 0 hw hb M), bk_X8_between_16, hf.s, if_neg (nI_ge (by unfold zrdc at hk; omega) (by omega)), bk_X8_between_19, show (0 : Int32) = nI 0 from rfl, h1, h4, ← e1]
    have e : zbt (M0.1 29 0 (8 + 2 * w)) (M0.1 29 0 (8 + 2 * o)) (zrdc (M0.1 29 0) b o) (k + 1) = Nat.min (zbt (M0.1 29 0 (8 + 2 * w)) (M0.1 29 0 (8 + 2 * o)) (zrdc (M0.1 29 0) b o) k) (zmi (M1.1 33 0) (M1.1 29 0 (8 + 2 * o)) (zrdc (M1.1 29 0) b o)) := by
      rw [zbt, hf1.s, zmi_congr (f := zbtS (M0.1 29 0 (8 + 2 * w)) k) (g := M1.1 33 0) (fun i hi => by rw [h3 i hi, hf.s])]
    rw [e]
theorem sp_between (w o b : Nat) (hb : b < 2) (hw : w < 10) (ho : o < 10) (M : zM) : ∃ M', zd_X8_between [zR 8 0, zI (nI w), zI (nI o), zI (nI b)] M = zs (nI (zbtw (M.1 29 0) w o b)) M' ∧ zR3 M M' := by
  obtain ⟨M', h1, h2⟩ := sp_btw_out w o b hb hw ho M (zrdc (M.1 29 0) b w) 0 none none M (by omega) (zR3.rf M)
  exact ⟨M', by rw [en_X8_between, bk_X8_between_0]; exact h1, h2⟩
/-- the two words that are most alike -/
noncomputable def zclS (σ : Nat → Int32) (b N : Nat) : Nat → Option (Nat × Nat) × Nat := zfo (fun w j => zbtw σ w (w + 1 + j) b) (fun w j => (w, w + 1 + j)) (fun w => N - (w + 1))
theorem sp_clo_in (b w N : Nat) (i : Int32) (hb : b < 2) (hN : N ≤ 10) (hw : w < N) (M0 : zM) (hs : M0.1 29 0 0 = nI N) (S : Option (Nat × Nat) × Nat) (hS : S.2 ≤ 1000) : ∀ (j k : Nat) (d8 : Option zV) (M : zM), k + j = N - (w + 1) → zR3 M0 M →
    ∃ M', zev zC_X8_closest 51 ([some (zR 8 0), some (zI (nI b)), some (zI i), some (zI (zo1 (zfi (fun j => zbtw (M0.1 29 0) w (w + 1 + j) b) (fun j => (w, w + 1 + j)) S k).1)), some (zI (zo2 (zfi (fun j => zbtw (M0.1 29 0) w (w + 1 + j) b) (fun j => (w, w + 1 + j)) S k).1)), some (zI (nI (zfi (fun j => zbtw (M0.1 29 0) w (w + 1 + j) b) (fun j => (w, w + 1 + j)) S k).2)), some (zI (nI w)), some (zI (nI (w + 1 + k))), d8], [], M) =
    zev zC_X8_closest 34 ([some (zR 8 0), some (zI (nI b)), some (zI i), some (zI (zo1 (zfi (fun j => zbtw (M0.1 29 0) w (w + 1 + j) b) (fun j => (w, w + 1 + j)) S (N - (w + 1))).1)), some (zI (zo2 (zfi (fun j => zbtw (M0.1 29 0) w (w + 1 + j) b) (fun j => (w, w + 1 + j)) S (N - (w + 1))).1)), some (zI (nI (zfi (fun j => zbtw (M0.1 29 0) w (w + 1 + j) b) (fun j => (w, w + 1 + j)) S (N - (w + 1))).2)), some (zI (nI (w + 1))), none, none], [], M') ∧ zR3 M0 M' := by
  intro j
  induction j with
  | zero =>
    intro k d8 M hk hf
    refine ⟨M, ?_, hf⟩
    rw [bk_X8_closest_51, hf.s, hs, if_pos (nI_le (by omega) (by omega)), bk_X8_closest_125, nI_1, show N - (w + 1) = k by omega]
  | succ j ih =>
    intro k d8 M hk hf
    have hmm := Nat.le_trans (zfi_le (fun j => zbtw (M0.1 29 0) w (w + 1 + j) b) (fun j => (w, w + 1 + j)) S k) hS
    obtain ⟨M1, h1, h2⟩ := sp_between w (w + 1 + k) b hb (by omega) (by omega) M
    rw [hf.s] at h1
    have hbt := zbtw_le (M0.1 29 0) w (w + 1 + k) b
    obtain ⟨M', e1, e2⟩ := ih (k + 1) none M1 (by omega) (hf.tr h2)
    refine ⟨M', ?_, e2⟩
    rw [zfi] at e1
    rw [bk_X8_closest_51, hf.s, hs, if_neg (nI_ge (by omega) (by omega)), bk_X8_closest_62, zbi h1, bk_X8_closest_71, ← e1]
    by_cases hc : (zfi (fun j => zbtw (M0.1 29 0) w (w + 1 + j) b) (fun j => (w, w + 1 + j)) S k).2 ≤ zbtw (M0.1 29 0) w (w + 1 + k) b
    · rw [if_neg (Nat.not_lt.mpr hc), if_pos (nI_le hc (by omega)), bk_X8_closest_85, bk_X8_closest_86, if_pos (nI_le hc (by omega)), bk_X8_closest_99, bk_X8_closest_101, if_pos (nI_le hc (by omega)), bk_X8_closest_115, bk_X8_closest_117, nI_1]
      rfl
    · have hn : ¬ nI (zfi (fun j => zbtw (M0.1 29 0) w (w + 1 + j) b) (fun j => (w, w + 1 + j)) S k).2 ≤ nI (zbtw (M0.1 29 0) w (w + 1 + k) b) := nI_ge (Nat.not_le.mp hc) (by omega)
      rw [if_pos (Nat.not_le.mp hc), if_neg hn, bk_X8_closest_80, bk_X8_closest_86, if_neg hn, bk_X8_closest_94, bk_X8_closest_101, if_neg hn, bk_X8_closest_110, bk_X8_closest_117, nI_1]
      rfl
theorem sp_clo_out (b N : Nat) (i : Int32) (hb : b < 2) (hN : N ≤ 10) (M0 : zM) (hs : M0.1 29 0 0 = nI N) : ∀ (j w : Nat) (d7 d8 : Option zV) (M : zM), w + j = N → zR3 M0 M →
    ∃ M', zev zC_X8_closest 34 ([some (zR 8 0), some (zI (nI b)), some (zI i), some (zI (zo1 (zclS (M0.1 29 0) b N w).1)), some (zI (zo2 (zclS (M0.1 29 0) b N w).1)), some (zI (nI (zclS (M0.1 29 0) b N w).2)), some (zI (nI w)), d7, d8], [], M) =
    zev zC_X8_closest 131 ([some (zR 8 0), some (zI (nI b)), some (zI i), some (zI (zo1 (zclS (M0.1 29 0) b N N).1)), some (zI (zo2 (zclS (M0.1 29 0) b N N).1)), some (zI (nI (zclS (M0.1 29 0) b N N).2)), some (zI (nI N)), none, none], [], M') ∧ zR3 M0 M' := by
  intro j
  induction j with
  | zero =>
    intro w d7 d8 M hw hf
    refine ⟨M, ?_, hf⟩
    rw [bk_X8_closest_34, hf.s, hs, if_pos (nI_le (by omega) (by omega)), show w = N by omega]
  | succ j ih =>
    intro w d7 d8 M hw hf
    obtain ⟨M1, h1, h2⟩ := sp_clo_in b w N i hb hN (by omega) M0 hs (zclS (M0.1 29 0) b N w) (zfo_le _ _ _ _) (N - (w + 1)) 0 none M (by omega) hf
    obtain ⟨M', e1, e2⟩ := ih (w + 1) none none M1 (by omega) h2
    refine ⟨M', ?_, e2⟩
    rw [← e1, bk_X8_closest_34, hf.s, hs, if_neg (nI_ge (by omega) (by omega)), bk_X8_closest_45, nI_1]
    exact h1
def zclA (S : Option (Nat × Nat) × Nat) (i : Int32) : Int32 := if S.1 = none ∨ i = 0 then zo1 S.1 else if i = 1 then zo2 S.1 else nI S.2
theorem sp_closest_bad (a i : Int32) (M : zM) (h : ¬ ((0 ≤ a ∧ a ≤ 1) ∧ 0 ≤ i ∧ i ≤ 2)) : zd_X8_closest [zR 8 0, zI a, zI i] M = zs (-1000001) M := by
  rw [en_X8_closest, bk_X8_closest_0, zbi (sp_isBlind _ _), bk_X8_closest_4]
  by_cases h1 : 0 ≤ a ∧ a ≤ 1
  · rw [if_neg (by rw [zb_0]; exact fun z => z h1), bk_X8_closest_7, zbi (sp_in _ _ _ _), bk_X8_closest_13, if_pos (zb_0.mpr (fun z => h ⟨h1, z⟩)), bk_X8_closest_16]
  · rw [if_pos (zb_0.mpr h1), bk_X8_closest_16]
theorem sp_closest (b N : Nat) (i : Int32) (hb : b < 2) (hi : 0 ≤ i ∧ i ≤ 2) (hN : N ≤ 10) (M : zM) (hs : M.1 29 0 0 = nI N) : ∃ M', zd_X8_closest [zR 8 0, zI (nI b), zI i] M = zs (zclA (zclS (M.1 29 0) b N N) i) M' ∧ zRf M M' := by
  obtain ⟨M', h1, h2⟩ := sp_clo_out b N i hb hN M hs N 0 none none M (by omega) (zR3.rf M)
  refine ⟨M', ?_, h2.f⟩
  have hb2 : 0 ≤ nI b ∧ nI b ≤ 1 := (show ∀ b, b < 2 → 0 ≤ nI b ∧ nI b ≤ 1 by decide) b hb
  rw [en_X8_closest, bk_X8_closest_0, zbi (sp_isBlind _ _), bk_X8_closest_4, if_neg (by rw [zb_0]; exact fun z => z hb2), bk_X8_closest_7, zbi (sp_in _ _ _ _), bk_X8_closest_13, if_neg (by rw [zb_0]; exact fun z => z hi), bk_X8_closest_19]
  refine Eq.trans h1 ?_
  have hb1 := zfo_bd (fun w j => zbtw (M.1 29 0) w (w + 1 + j) b) (fun w j => (w, w + 1 + j)) (fun w => N - (w + 1)) (fun q => q.1 < 10) N (fun w k hw _ => by show w < 10; omega)
  have hn : zo1 (zclS (M.1 29 0) b N N).1 < 0 ↔ (zclS (M.1 29 0) b N N).1 = none := by
    cases hq : (zclS (M.1 29 0) b N N).1 with
    | none => exact ⟨fun _ => rfl, fun _ => by decide⟩
    | some q => exact ⟨fun z => absurd z (nI_pos (by have := hb1 q hq; omega)), fun z => by cases z⟩
  generalize zclS (M.1 29 0) b N N = S at *
  unfold zclA
  rw [bk_X8_closest_131]
  by_cases c1 : S.1 = none
  · rw [if_pos (hn.mpr c1), bk_X8_closest_139, bk_X8_closest_155, if_pos (Or.inl c1)]
  · rw [if_neg (fun z => c1 (hn.mp z)), bk_X8_closest_135]
    by_cases c2 : i = 0
    · rw [if_pos c2, bk_X8_closest_139, bk_X8_closest_155, if_pos (Or.inr c2)]
    · rw [if_neg c2, if_neg (fun z => z.elim c1 c2), bk_X8_closest_143]
      by_cases c3 : i = 1
      · rw [if_pos c3, if_pos c3, bk_X8_closest_148, bk_X8_closest_155]
      · rw [if_neg c3, if_neg c3, bk_X8_closest_153, bk_X8_closest_155]
