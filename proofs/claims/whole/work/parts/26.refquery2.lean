-- ===== the reference: sets of words, what is read, what is closest, the best repair =====
noncomputable def zcb (σ : Nat → Int32) (fr : Int32) (w b : Nat) : Bool := @decide (zcan σ fr w b) (Classical.propDecidable _)
theorem zcb_t {σ : Nat → Int32} {fr : Int32} {w b : Nat} : zcb σ fr w b = true ↔ zcan σ fr w b := by
  unfold zcb
  exact @decide_eq_true_iff _ (Classical.propDecidable _)
noncomputable def zsho (σ : Nat → Int32) (fr : Int32) (b : Nat) : Nat → Int32
  | 0 => 0
  | w + 1 => zsho σ fr b w ||| (if zcb σ fr w b = true then (1 : Int32) <<< (nI w &&& (31 : Int32)) else 0)
theorem sp_showable_loop (b N : Nat) (hb : b < 2) (hN : N ≤ 10) (M0 : zM) (hs : M0.1 29 0 0 = nI N) : ∀ (j w : Nat) (M : zM), w + j = N → zRf M0 M →
    ∃ M', zev zC_X8_showable 4 ([some (zR 8 0), some (zI (nI b)), some (zI (zsho (M0.1 29 0) (M0.1 8 0 8) b w)), some (zI (nI w))], [], M) = zs (zsho (M0.1 29 0) (M0.1 8 0 8) b N) M' ∧ zRf M0 M' := by
  intro j
  induction j with
  | zero =>
    intro w M hw hf
    refine ⟨M, ?_, hf⟩
    rw [bk_X8_showable_4, hf.s, hs, if_pos (nI_le (by omega) (by omega)), bk_X8_showable_39, show w = N by omega]
  | succ j ih =>
    intro w M hw hf
    obtain ⟨M1, v, h1, h2, -, h3, h4⟩ := sp_canShow w b N hb (by omega) hN M (by rw [hf.s]; exact hs)
    rw [hf.s, hf.2.2 8 (by decide)] at h4
    obtain ⟨M', e1, e2⟩ := ih (w + 1) M1 (by omega) (hf.tr h2)
    refine ⟨M', ?_, e2⟩
    rw [bk_X8_showable_4, hf.s, hs, if_neg (nI_ge (by omega) (by omega)), bk_X8_showable_14, zbi h1, bk_X8_showable_21]
    rw [zsho] at e1
    by_cases hc : zcan (M0.1 29 0) (M0.1 8 0 8) w b
    · rw [if_pos (zcb_t.mpr hc)] at e1
      rw [if_neg (fun z => h4.mp z hc), bk_X8_showable_24, bk_X8_showable_31, nI_1]
      exact e1
    · rw [if_neg (fun z => hc (zcb_t.mp z))] at e1
      rw [if_pos (h4.mpr hc), bk_X8_showable_30, bk_X8_showable_31, nI_1]
      exact e1
theorem sp_showable (b N : Nat) (hb : b < 2) (hN : N ≤ 10) (M : zM) (hs : M.1 29 0 0 = nI N) : ∃ M', zd_X8_showable [zR 8 0, zI (nI b)] M = zs (zsho (M.1 29 0) (M.1 8 0 8) b N) M' ∧ zRf M M' := by
  obtain ⟨M', h1, h2⟩ := sp_showable_loop b N hb hN M hs N 0 M (by omega) (zRf.rf M)
  exact ⟨M', by rw [en_X8_showable, bk_X8_showable_0]; exact h1, h2⟩
-- the least of a row of distances, and where
def zfi (D : Nat → Nat) (key : Nat → Nat × Nat) (S : Option (Nat × Nat) × Nat) : Nat → Option (Nat × Nat) × Nat
  | 0 => S
  | k + 1 => if D k < (zfi D key S k).2 then (some (key k), D k) else zfi D key S k
def zfo (D : Nat → Nat → Nat) (key : Nat → Nat → Nat × Nat) (cnt : Nat → Nat) : Nat → Option (Nat × Nat) × Nat
  | 0 => (none, 1000)
  | w + 1 => zfi (D w) (key w) (zfo D key cnt w) (cnt w)
theorem zfi_le (D : Nat → Nat) (key : Nat → Nat × Nat) (S : Option (Nat × Nat) × Nat) (n : Nat) : (zfi D key S n).2 ≤ S.2 := by
  induction n with
  | zero => exact Nat.le_refl _
  | succ n ih =>
    rw [zfi]
    split
    · rename_i h; exact Nat.le_of_lt (Nat.lt_of_lt_of_le h ih)
    · exact ih
theorem zfo_le (D : Nat → Nat → Nat) (key : Nat → Nat → Nat × Nat) (cnt : Nat → Nat) (n : Nat) : (zfo D key cnt n).2 ≤ 1000 := by
  induction n with
  | zero => exact Nat.le_refl _
  | succ n ih => rw [zfo]; exact Nat.le_trans (zfi_le _ _ _ _) ih
theorem zfi_congr {D D' : Nat → Nat} {key : Nat → Nat × Nat} {S : Option (Nat × Nat) × Nat} {n : Nat} (h : ∀ k, k < n → D k = D' k) : zfi D key S n = zfi D' key S n := by
  induction n with
  | zero => rfl
  | succ n ih => rw [zfi, zfi, ih (fun k hk => h k (by omega)), h n (by omega)]
theorem zfo_congr {D D' : Nat → Nat → Nat} {key : Nat → Nat → Nat × Nat} {cnt cnt' : Nat → Nat} {n : Nat} (h : ∀ w, w < n → cnt w = cnt' w ∧ ∀ k, k < cnt w → D w k = D' w k) : zfo D key cnt n = zfo D' key cnt' n := by
  induction n with
  | zero => rfl
  | succ n ih => rw [zfo, zfo, ih (fun w hw => h w (by omega)), ← (h n (by omega)).1, zfi_congr (h n (by omega)).2]
def zo1 : Option (Nat × Nat) → Int32
  | none => -1000004
  | some q => nI q.1
def zo2 : Option (Nat × Nat) → Int32
  | none => -1000004
  | some q => nI q.2
theorem sp_read_sight (b : Nat) (i2 : Int32) (hb : b < 2) (M0 : zM) : ∀ (j r : Nat) (d4 d5 d6 d7 d8 : Option zV) (M : zM), r + j = 5 → zR3 M0 M → (∀ i, i < r → M.1 33 0 i = zdc (M0.1 29 0) b i 1) →
    ∃ M', zev zC_X8_readAs 2 ([some (zR 8 0), some (zI (nI b)), some (zI i2), some (zI (nI r)), d4, d5, d6, d7, d8], [], M) = zev zC_X8_readAs 41 ([some (zR 8 0), some (zI (nI b)), some (zI i2), some (zI (-1000004)), some (zI (-1000004)), some (zI 1000), some (zI 0), none, none], [], M') ∧ zR3 M0 M' ∧ ∀ i, i < 5 → M'.1 33 0 i = zdc (M0.1 29 0) b i 1 := by
  intro j
  induction j with
  | zero =>
    intro r d4 d5 d6 d7 d8 M hr hf hs
    refine ⟨M, ?_, hf, fun i hi => hs i (by omega)⟩
    rw [bk_X8_readAs_2, show (5 : Int32) = nI 5 from rfl, if_pos (nI_le (by omega) (by omega)), bk_X8_readAs_26]
  | succ j ih =>
    intro r d4 d5 d6 d7 d8 M hr hf hs
    obtain ⟨M', h1, h2, h3⟩ := ih (r + 1) none none none none none (zst M.1 33 0 (upd (M.1 33 0) r (zdc (M0.1 29 0) b r 1)), M.2) (by omega) (hf.s33 _) (fun i hi => by
      have e := congrFun (zst_self M.1 33 0 (upd (M.1 33 0) r (zdc (M0.1 29 0) b r 1))) i
      refine Eq.trans e ?_
      by_cases hir : i = r
      · subst hir; exact upd_s _ _ _
      · rw [upd_n hir]; exact hs i (by omega))
    refine ⟨M', ?_, h2, h3⟩
    rw [← h1, bk_X8_readAs_2, show (5 : Int32) = nI 5 from rfl, if_neg (nI_ge (by omega) (by omega)), bk_X8_readAs_7, zbi (sp_discs 0 b r 1 hb (by omega) M), bk_X8_readAs_19, if_neg (ix_in (show r < 5 by omega) (by decide)), ix_cl (by omega), bk_X8_readAs_20, nI_1, hf.s]
/-- the distances of what is seen from the pictures -/
noncomputable def zrdD (σ : Nat → Int32) (f : Nat → Int32) (w k : Nat) : Nat := zap f (σ (8 + 2 * w)) k
def zrdc (σ : Nat → Int32) (b w : Nat) : Nat := zshf (mny (σ (8 + 2 * w))) b
theorem sp_read_in (b w : Nat) (i2 : Int32) (hb : b < 2) (hw : w < 10) (M : zM) (S : Option (Nat × Nat) × Nat) (hS : S.2 ≤ 1000) : ∀ (j k : Nat) (d8 : Option zV), k + j = zrdc (M.1 29 0) b w →
    zev zC_X8_readAs 55 ([some (zR 8 0), some (zI (nI b)), some (zI i2), some (zI (zo1 (zfi (zrdD (M.1 29 0) (M.1 33 0) w) (fun k => (w, k)) S k).1)), some (zI (zo2 (zfi (zrdD (M.1 29 0) (M.1 33 0) w) (fun k => (w, k)) S k).1)), some (zI (nI (zfi (zrdD (M.1 29 0) (M.1 33 0) w) (fun k => (w, k)) S k).2)), some (zI (nI w)), some (zI (nI k)), d8], [], M) =
    zev zC_X8_readAs 41 ([some (zR 8 0), some (zI (nI b)), some (zI i2), some (zI (zo1 (zfi (zrdD (M.1 29 0) (M.1 33 0) w) (fun k => (w, k)) S (zrdc (M.1 29 0) b w)).1)), some (zI (zo2 (zfi (zrdD (M.1 29 0) (M.1 33 0) w) (fun k => (w, k)) S (zrdc (M.1 29 0) b w)).1)), some (zI (nI (zfi (zrdD (M.1 29 0) (M.1 33 0) w) (fun k => (w, k)) S (zrdc (M.1 29 0) b w)).2)), some (zI (nI (w + 1))), none, none], [], M) := by
  intro j
  induction j with
  | zero =>
    intro k d8 hk
    have hl := zshf_le (mny (M.1 29 0 (8 + 2 * w))) b
    unfold zrdc at *
    rw [bk_X8_readAs_55, zbi (sp_shifts w b 0 hw hb M), bk_X8_readAs_64, if_pos (nI_le (by omega) (by omega)), bk_X8_readAs_129, nI_1, show zshf (mny (M.1 29 0 (8 + 2 * w))) b = k by omega]
  | succ j ih =>
    intro k d8 hk
    have hl := zshf_le (mny (M.1 29 0 (8 + 2 * w))) b
    have hap := zap_le (M.1 33 0) (M.1 29 0 (8 + 2 * w)) k
    have hmm := Nat.le_trans (zfi_le (zrdD (M.1 29 0) (M.1 33 0) w) (fun k => (w, k)) S k) hS
    have h := ih (k + 1) none (by omega)
    rw [zfi] at h
    rw [← h, bk_X8_readAs_55, zbi (sp_shifts w b 0 hw hb M), bk_X8_readAs_64, if_neg (nI_ge (by unfold zrdc at hk; omega) (by omega)), bk_X8_readAs_67, zbi (sp_apart 0 w k hw M), bk_X8_readAs_75]
    by_cases hc : (zfi (zrdD (M.1 29 0) (M.1 33 0) w) (fun k => (w, k)) S k).2 ≤ zap (M.1 33 0) (M.1 29 0 (8 + 2 * w)) k
    · have hc2 : ¬ zrdD (M.1 29 0) (M.1 33 0) w k < (zfi (zrdD (M.1 29 0) (M.1 33 0) w) (fun k => (w, k)) S k).2 := Nat.not_lt.mpr hc
      rw [if_neg hc2, if_pos (nI_le hc (by omega)), bk_X8_readAs_89, bk_X8_readAs_90, if_pos (nI_le hc (by omega)), bk_X8_readAs_103, bk_X8_readAs_105, if_pos (nI_le hc (by omega)), bk_X8_readAs_119, bk_X8_readAs_121, nI_1]
    · have hc2 : zrdD (M.1 29 0) (M.1 33 0) w k < (zfi (zrdD (M.1 29 0) (M.1 33 0) w) (fun k => (w, k)) S k).2 := Nat.not_le.mp hc
      have hn : ¬ nI (zfi (zrdD (M.1 29 0) (M.1 33 0) w) (fun k => (w, k)) S k).2 ≤ nI (zap (M.1 33 0) (M.1 29 0 (8 + 2 * w)) k) := nI_ge (Nat.not_le.mp hc) (by omega)
      rw [if_pos hc2, if_neg hn, bk_X8_readAs_84, bk_X8_readAs_90, if_neg hn, bk_X8_readAs_98, bk_X8_readAs_105, if_neg hn, bk_X8_readAs_114, bk_X8_readAs_121, nI_1]
      rfl
/-- what rows are read as -/
noncomputable def zrdS (σ f : Nat → Int32) (b N : Nat) : Option (Nat × Nat) × Nat := zfo (zrdD σ f) (fun w k => (w, k)) (zrdc σ b) N
theorem sp_read_out (b N : Nat) (i2 : Int32) (hb : b < 2) (hN : N ≤ 10) (M : zM) (hs : M.1 29 0 0 = nI N) : ∀ (j w : Nat) (d7 d8 : Option zV), w + j = N →
    zev zC_X8_readAs 41 ([some (zR 8 0), some (zI (nI b)), some (zI i2), some (zI (zo1 (zrdS (M.1 29 0) (M.1 33 0) b w).1)), some (zI (zo2 (zrdS (M.1 29 0) (M.1 33 0) b w).1)), some (zI (nI (zrdS (M.1 29 0) (M.1 33 0) b w).2)), some (zI (nI w)), d7, d8], [], M) =
    zev zC_X8_readAs 135 ([some (zR 8 0), some (zI (nI b)), some (zI i2), some (zI (zo1 (zrdS (M.1 29 0) (M.1 33 0) b N).1)), some (zI (zo2 (zrdS (M.1 29 0) (M.1 33 0) b N).1)), some (zI (nI (zrdS (M.1 29 0) (M.1 33 0) b N).2)), some (zI (nI N)), none, none], [], M) := by
  intro j
  induction j with
  | zero =>
    intro w d7 d8 hw
    rw [bk_X8_readAs_41, hs, if_pos (nI_le (by omega) (by omega)), show w = N by omega]
  | succ j ih =>
    intro w d7 d8 hw
    have h1 := sp_read_in b w i2 hb (by omega) M (zrdS (M.1 29 0) (M.1 33 0) b w) (zfo_le _ _ _ _) (zrdc (M.1 29 0) b w) 0 none (by omega)
    rw [bk_X8_readAs_41, hs, if_neg (nI_ge (by omega) (by omega)), bk_X8_readAs_52]
    refine Eq.trans h1 ?_
    exact ih (w + 1) none none (by omega)
/-- the answer: word, shift, or how far -/
def zrdA (S : Option (Nat × Nat) × Nat) (i : Int32) : Int32 := if S.1 = none ∨ i = 4 then zo1 S.1 else if i = 5 then zo2 S.1 else nI S.2
theorem zfi_bd (D : Nat → Nat) (key : Nat → Nat × Nat) (S : Option (Nat × Nat) × Nat) (P : Nat × Nat → Prop) (hS : ∀ q, S.1 = some q → P q) : ∀ n, (∀ k, k < n → P (key k)) → ∀ q, (zfi D key S n).1 = some q → P q := by
  intro n
  induction n with
  | zero => intro _ q h; exact hS q h
  | succ n ih =>
    intro hk q h
    rw [zfi] at h
    split at h
    · cases h; exact hk n (by omega)
    · exact ih (fun k hk' => hk k (by omega)) q h
theorem zfo_bd (D : Nat → Nat → Nat) (key : Nat → Nat → Nat × Nat) (cnt : Nat → Nat) (P : Nat × Nat → Prop) : ∀ n, (∀ w k, w < n → k < cnt w → P (key w k)) → ∀ q, (zfo D key cnt n).1 = some q → P q := by
  intro n
  induction n with
  | zero => intro _ q h; cases h
  | succ n ih =>
    intro hk q h
    rw [zfo] at h
    exact zfi_bd _ _ _ P (fun q h => ih (fun w k hw hk' => hk w k (by omega) hk') q h) _ (fun k hk' => hk n k (by omega) hk') q h
theorem sp_readAs (b N : Nat) (i : Int32) (hb : b < 2) (hN : N ≤ 10) (M : zM) (hs : M.1 29 0 0 = nI N) : ∃ M', zd_X8_readAs [zR 8 0, zI (nI b), zI i] M = zs (zrdA (zrdS (M.1 29 0) (fun r => zdc (M.1 29 0) b r 1) b N) i) M' ∧ zRf M M' := by
  obtain ⟨M', h1, h2, h3⟩ := sp_read_sight b i hb M 5 0 none none none none none M rfl (zR3.rf M) (fun i hi => by omega)
  have h4 := sp_read_out b N i hb hN M' (by rw [h2.s]; exact hs) N 0 none none (by omega)
  have e : zrdS (M'.1 29 0) (M'.1 33 0) b N = zrdS (M.1 29 0) (fun r => zdc (M.1 29 0) b r 1) b N := by
    rw [h2.s]
    exact zfo_congr (fun w hw => ⟨rfl, fun k hk => zap_congr h3 _ _⟩)
  refine ⟨M', ?_, h2.f⟩
  rw [en_X8_readAs, bk_X8_readAs_0, show (0 : Int32) = nI 0 from rfl, h1]
  refine Eq.trans h4 ?_
  rw [e]
  have hb1 := zfo_bd (zrdD (M.1 29 0) (fun r => zdc (M.1 29 0) b r 1)) (fun w k => (w, k)) (zrdc (M.1 29 0) b) (fun q => q.1 < 10) N (fun w k hw _ => by show w < 10; omega)
  have hn : zo1 (zrdS (M.1 29 0) (fun r => zdc (M.1 29 0) b r 1) b N).1 < 0 ↔ (zrdS (M.1 29 0) (fun r => zdc (M.1 29 0) b r 1) b N).1 = none := by
    cases hq : (zrdS (M.1 29 0) (fun r => zdc (M.1 29 0) b r 1) b N).1 with
    | none => exact ⟨fun _ => rfl, fun _ => by decide⟩
    | some q => exact ⟨fun z => absurd z (nI_pos (by have := hb1 q hq; omega)), fun z => by cases z⟩
  generalize zrdS (M.1 29 0) (fun r => zdc (M.1 29 0) b r 1) b N = S at *
  unfold zrdA
  rw [bk_X8_readAs_135]
  by_cases c1 : S.1 = none
  · rw [if_pos (hn.mpr c1), bk_X8_readAs_144, bk_X8_readAs_160, if_pos (Or.inl c1)]
  · rw [if_neg (fun z => c1 (hn.mp z)), bk_X8_readAs_139]
    by_cases c2 : i = 4
    · rw [if_pos c2, bk_X8_readAs_144, bk_X8_readAs_160, if_pos (Or.inr c2)]
    · rw [if_neg c2, if_neg (fun z => z.elim c1 c2), bk_X8_readAs_148]
      by_cases c3 : i = 5
      · rw [if_pos c3, if_pos c3, bk_X8_readAs_153, bk_X8_readAs_160]
      · rw [if_neg c3, if_neg c3, bk_X8_readAs_158, bk_X8_readAs_160]
