-- ===== the reference: what is best, what is read, what is closest =====
theorem i_lt {a b : Int32} : a < b ↔ a.toInt < b.toInt := Int32.lt_iff_toInt_lt
theorem i_lei {a b : Int32} : a ≤ b ↔ a.toInt ≤ b.toInt := Int32.le_iff_toInt_le
/-- the first place with the greatest of m 0 .., if it is greater than g -/
def zbf (m : Nat → Int32) (g : Int32) : Nat → Option Nat × Int32
  | 0 => (none, g)
  | k + 1 => if (zbf m g k).2 < m k then (some k, m k) else zbf m g k
def zoN : Option Nat → Int32
  | none => -1000004
  | some k => nI k
theorem zbf_lt (m : Nat → Int32) (g : Int32) (n : Nat) : ∀ k, (zbf m g n).1 = some k → k < n := by
  induction n with
  | zero => intro k h; cases h
  | succ n ih =>
    intro k h
    rw [zbf] at h
    split at h
    · cases h; exact Nat.lt_succ_self _
    · exact Nat.lt_succ_of_lt (ih k h)
theorem zbf_none (m : Nat → Int32) (g : Int32) (n : Nat) (h : (zbf m g n).1 = none) : (zbf m g n).2 = g := by
  induction n with
  | zero => rfl
  | succ n ih =>
    rw [zbf] at h ⊢
    split at h
    · cases h
    · rename_i hc; rw [if_neg hc]; exact ih h
theorem zbf_some (m : Nat → Int32) (g : Int32) (n : Nat) : ∀ k, (zbf m g n).1 = some k → (zbf m g n).2 = m k ∧ g < m k := by
  induction n with
  | zero => intro k h; cases h
  | succ n ih =>
    intro k h
    rw [zbf] at h ⊢
    split at h
    · rename_i hc
      cases h
      rw [if_pos hc]
      refine ⟨rfl, ?_⟩
      cases h1 : (zbf m g n).1 with
      | none => rw [zbf_none m g n h1] at hc; exact hc
      | some j =>
        obtain ⟨h2, h3⟩ := ih j h1
        rw [h2] at hc
        rw [i_lt] at hc h3 ⊢
        omega
    · rename_i hc; rw [if_neg hc]; exact ih k h
theorem zbf_congr {m m' : Nat → Int32} (g : Int32) (n : Nat) (h : ∀ k, k < n → m k = m' k) : zbf m g n = zbf m' g n := by
  induction n with
  | zero => rfl
  | succ n ih => rw [zbf, zbf, ih (fun k hk => h k (by omega)), h n (by omega)]
/-- a higher start keeps the best, if it is high enough -/
theorem zbf_start (m : Nat → Int32) (g g' : Int32) (hg : g ≤ g') (n : Nat) : zbf m g' n = if g' < (zbf m g n).2 then zbf m g n else (none, g') := by
  induction n with
  | zero =>
    show (none, g') = if g' < g then (none, g) else (none, g')
    rw [if_neg (show ¬ g' < g from i_le.mp hg)]
  | succ n ih =>
    rw [zbf, ih]
    by_cases h1 : g' < (zbf m g n).2
    · rw [if_pos h1]
      show (if (zbf m g n).2 < m n then (some n, m n) else zbf m g n) = if g' < (zbf m g (n + 1)).2 then zbf m g (n + 1) else (none, g')
      have e : zbf m g (n + 1) = if (zbf m g n).2 < m n then (some n, m n) else zbf m g n := rfl
      rw [← e]
      have : g' < (zbf m g (n + 1)).2 := by
        rw [e]
        split
        · rename_i h2; show g' < m n; rw [i_lt] at *; omega
        · exact h1
      rw [if_pos this]
    · rw [if_neg h1]
      have e : zbf m g (n + 1) = if (zbf m g n).2 < m n then (some n, m n) else zbf m g n := rfl
      show (if g' < m n then (some n, m n) else (none, g')) = _
      rw [e]
      by_cases h2 : g' < m n
      · have h3 : (zbf m g n).2 < m n := by rw [i_lt] at *; omega
        rw [if_pos h2, if_pos h3, if_pos h2]
      · by_cases h3 : (zbf m g n).2 < m n
        · rw [if_neg h2, if_pos h3, if_neg h2]
        · rw [if_neg h2, if_neg h3, if_neg h1]
theorem zmar_gt (σ : Nat → Int32) (fr : Int32) (w b k : Nat) : (-1000 : Int32) < zmar σ fr w b k ∧ zmar σ fr w b k < 1000 := by
  unfold zmar zmg
  split
  · exact ⟨by decide, by decide⟩
  · rename_i h
    have h1 := zmo'_le σ (zsee σ fr (σ (8 + 2 * w)) b k) w b (σ 0).toNatClampNeg
    have h2 := zap_le (zsee σ fr (σ (8 + 2 * w)) b k) (σ (8 + 2 * w)) k
    rw [i_lt, i_lt, pk_sub_toInt (by omega) (by omega), show (-1000 : Int32).toInt = -1000 from rfl, show (1000 : Int32).toInt = 1000 from rfl]
    omega
/-- the best shift of a word, and its margin -/
noncomputable def zbst (σ : Nat → Int32) (fr : Int32) (w b : Nat) : Option Nat × Int32 := zbf (fun k => zmar σ fr w b k) (-1000) (zshf (mny (σ (8 + 2 * w))) b)
theorem zRf.k8 {M0 M : zM} (h : zRf M0 M) (k : Nat) (v : Int32) (hk : 9 ≤ k) : (zst M.1 8 0 (upd (M.1 8 0) k v), M.2).1 8 0 k = v := by
  show zst M.1 8 0 (upd (M.1 8 0) k v) 8 0 k = v
  rw [zst_self, upd_s]
theorem sp_best_loop (w b N : Nat) (hb : b < 2) (hw : w < 10) (hN : N ≤ 10) (M0 : zM) (hs : M0.1 29 0 0 = nI N) : ∀ (j k : Nat) (d : Option zV) (M : zM), k + j = zshf (mny (M0.1 29 0 (8 + 2 * w))) b → zRf M0 M → M.1 8 0 9 = (zbf (fun k => zmar (M0.1 29 0) (M0.1 8 0 8) w b k) (-1000) k).2 →
    ∃ M', zev zC_X8_bestShift 13 ([some (zR 8 0), some (zI (nI w)), some (zI (nI b)), some (zI (zoN (zbf (fun k => zmar (M0.1 29 0) (M0.1 8 0 8) w b k) (-1000) k).1)), some (zI (nI k)), d], [], M) = zs (zoN (zbst (M0.1 29 0) (M0.1 8 0 8) w b).1) M' ∧ zRf M0 M' ∧ M'.1 8 0 9 = (zbst (M0.1 29 0) (M0.1 8 0 8) w b).2 := by
  intro j
  induction j with
  | zero =>
    intro k d M hk hf h9
    have hl := zshf_le (mny (M0.1 29 0 (8 + 2 * w))) b
    refine ⟨M, ?_, hf, by rw [h9, zbst, show zshf (mny (M0.1 29 0 (8 + 2 * w))) b = k by omega]⟩
    rw [bk_X8_bestShift_13, zbi (sp_shifts w b 0 hw hb M), bk_X8_bestShift_21, hf.s, if_pos (nI_le (by omega) (by omega)), bk_X8_bestShift_78, zbst, show zshf (mny (M0.1 29 0 (8 + 2 * w))) b = k by omega]
  | succ j ih =>
    intro k d M hk hf h9
    have hl := zshf_le (mny (M0.1 29 0 (8 + 2 * w))) b
    obtain ⟨M1, m1, m2⟩ := sp_marginAt w b k N hb hw hN M (by rw [hf.s]; exact hs)
    rw [hf.s, hf.2.2 8 (by decide)] at m1
    have hf1 := hf.tr m2.f
    have h91 : M1.1 8 0 9 = (zbf (fun k => zmar (M0.1 29 0) (M0.1 8 0 8) w b k) (-1000) k).2 := by rw [m2.k]; exact h9
    have hstep : zbf (fun k => zmar (M0.1 29 0) (M0.1 8 0 8) w b k) (-1000) (k + 1) = if (zbf (fun k => zmar (M0.1 29 0) (M0.1 8 0 8) w b k) (-1000) k).2 < zmar (M0.1 29 0) (M0.1 8 0 8) w b k then (some k, zmar (M0.1 29 0) (M0.1 8 0 8) w b k) else zbf (fun k => zmar (M0.1 29 0) (M0.1 8 0 8) w b k) (-1000) k := rfl
    by_cases hc : zmar (M0.1 29 0) (M0.1 8 0 8) w b k ≤ (zbf (fun k => zmar (M0.1 29 0) (M0.1 8 0 8) w b k) (-1000) k).2
    · rw [if_neg (i_le.mp hc)] at hstep
      obtain ⟨M', e1, e2, e3⟩ := ih (k + 1) none (zst M1.1 8 0 (upd (M1.1 8 0) 9 (M1.1 8 0 9)), M1.2) (by omega) (hf1.s8 (by decide) _) (by rw [hf1.k8 9 _ (by decide), hstep]; exact h91)
      refine ⟨M', ?_, e2, e3⟩
      rw [← e1, hstep, bk_X8_bestShift_13, zbi (sp_shifts w b 0 hw hb M), bk_X8_bestShift_21, hf.s, if_neg (nI_ge (by omega) (by omega)), bk_X8_bestShift_24, zbi m1, bk_X8_bestShift_32, h91, if_pos hc, bk_X8_bestShift_48, bk_X8_bestShift_49, h91, if_pos hc, bk_X8_bestShift_65, bk_X8_bestShift_69, bk_X8_bestShift_72, nI_1, h91]
    · rw [if_pos (Int32.not_le.mp hc)] at hstep
      obtain ⟨M', e1, e2, e3⟩ := ih (k + 1) none (zst M1.1 8 0 (upd (M1.1 8 0) 9 (zmar (M0.1 29 0) (M0.1 8 0 8) w b k)), M1.2) (by omega) (hf1.s8 (by decide) _) (by rw [hf1.k8 9 _ (by decide), hstep])
      refine ⟨M', ?_, e2, e3⟩
      rw [← e1, hstep, bk_X8_bestShift_13, zbi (sp_shifts w b 0 hw hb M), bk_X8_bestShift_21, hf.s, if_neg (nI_ge (by omega) (by omega)), bk_X8_bestShift_24, zbi m1, bk_X8_bestShift_32, h91, if_neg hc, bk_X8_bestShift_43, bk_X8_bestShift_49, h91, if_neg hc, bk_X8_bestShift_60, bk_X8_bestShift_69, bk_X8_bestShift_72, nI_1]
      rfl
theorem sp_bestShift (w b N : Nat) (hb : b < 2) (hw : w < 10) (hN : N ≤ 10) (M : zM) (hs : M.1 29 0 0 = nI N) : ∃ M', zd_X8_bestShift [zR 8 0, zI (nI w), zI (nI b)] M = zs (zoN (zbst (M.1 29 0) (M.1 8 0 8) w b).1) M' ∧ zRf M M' ∧ M'.1 8 0 9 = (zbst (M.1 29 0) (M.1 8 0 8) w b).2 := by
  obtain ⟨M', h1, h2, h3⟩ := sp_best_loop w b N hb hw hN M hs (zshf (mny (M.1 29 0 (8 + 2 * w))) b) 0 none (zst M.1 8 0 (upd (M.1 8 0) 9 (-1000)), M.2) (by omega) ((zRf.rf M).s8 (by decide) _) ((zRf.rf M).k8 9 _ (by decide))
  refine ⟨M', ?_, h2, h3⟩
  rw [en_X8_bestShift, bk_X8_bestShift_0, bk_X8_bestShift_10]
  exact h1
theorem zoN_lt (o : Option Nat) (h : ∀ k, o = some k → k < 2 ^ 31) : zoN o < 0 ↔ o = none := by
  cases o with
  | none => exact ⟨fun _ => rfl, fun _ => by decide⟩
  | some k => exact ⟨fun z => absurd z (nI_pos (h k rfl)), fun z => by cases z⟩
/-- a word can be shown -/
def zcan (σ : Nat → Int32) (fr : Int32) (w b : Nat) : Prop := (zbst σ fr w b).1 ≠ none ∧ σ 6 ≤ (zbst σ fr w b).2
theorem zbst_lt (σ : Nat → Int32) (fr : Int32) (w b k : Nat) (h : (zbst σ fr w b).1 = some k) : k < zshf (mny (σ (8 + 2 * w))) b := zbf_lt _ _ _ k h
theorem sp_canShow (w b N : Nat) (hb : b < 2) (hw : w < 10) (hN : N ≤ 10) (M : zM) (hs : M.1 29 0 0 = nI N) : ∃ M' v, zd_X8_canShow [zR 8 0, zI (nI w), zI (nI b)] M = zs v M' ∧ zRf M M' ∧ M'.1 8 0 9 = (zbst (M.1 29 0) (M.1 8 0 8) w b).2 ∧ (v = 0 ∨ v = 1) ∧ (v = 0 ↔ ¬ zcan (M.1 29 0) (M.1 8 0 8) w b) := by
  obtain ⟨M', h1, h2, h3⟩ := sp_bestShift w b N hb hw hN M hs
  have hl := zshf_le (mny (M.1 29 0 (8 + 2 * w))) b
  have hn := zoN_lt (zbst (M.1 29 0) (M.1 8 0 8) w b).1 (fun k hk => by have := zbst_lt _ _ _ _ _ hk; omega)
  by_cases c1 : zoN (zbst (M.1 29 0) (M.1 8 0 8) w b).1 < 0
  · refine ⟨M', 0, ?_, h2, h3, Or.inl rfl, ⟨fun _ z => z.1 (hn.mp c1), fun _ => rfl⟩⟩
    rw [en_X8_canShow, bk_X8_canShow_0, zbi h1, bk_X8_canShow_6, if_pos c1, bk_X8_canShow_27, bk_X8_canShow_28, if_pos (Or.inl rfl)]
  · by_cases c2 : (zbst (M.1 29 0) (M.1 8 0 8) w b).2 < M.1 29 0 6
    · refine ⟨M', 0, ?_, h2, h3, Or.inl rfl, ⟨fun _ z => i_le.mp z.2 c2, fun _ => rfl⟩⟩
      rw [en_X8_canShow, bk_X8_canShow_0, zbi h1, bk_X8_canShow_6, if_neg c1, bk_X8_canShow_9, h3, h2.s, if_pos c2, bk_X8_canShow_27, bk_X8_canShow_28, if_pos (Or.inl rfl)]
    · refine ⟨M', 1, ?_, h2, h3, Or.inr rfl, ⟨fun z => absurd z (by decide), fun z => absurd ⟨fun q => c1 (hn.mpr q), i_le.mpr c2⟩ z⟩⟩
      rw [en_X8_canShow, bk_X8_canShow_0, zbi h1, bk_X8_canShow_6, if_neg c1, bk_X8_canShow_9, h3, h2.s, if_neg c2, bk_X8_canShow_23, bk_X8_canShow_28, if_pos (Or.inr rfl)]
theorem sp_unlike_loop (b : Nat) (hb : b < 2) (M : zM) : ∀ (j r : Nat), r + j = 5 → zev zC_X8_unlike 4 ([some (zR 8 0), some (zI (nI b)), some (zI (nI (zsm (fun r => zq (zdc (M.1 29 0) b r 1 ^^^ zdc (M.1 29 0) b r 4)) r))), some (zI (nI r))], [], M) = zs (nI (zsm (fun r => zq (zdc (M.1 29 0) b r 1 ^^^ zdc (M.1 29 0) b r 4)) 5)) M := by
  intro j
  induction j with
  | zero =>
    intro r hr
    rw [bk_X8_unlike_4, show (5 : Int32) = nI 5 from rfl, if_pos (nI_le (by omega) (by omega)), bk_X8_unlike_36, show r = 5 by omega]
  | succ j ih =>
    intro r hr
    rw [bk_X8_unlike_4, show (5 : Int32) = nI 5 from rfl, if_neg (nI_ge (by omega) (by omega)), bk_X8_unlike_9, zbi (sp_discs 0 b r 1 hb (by omega) M), bk_X8_unlike_17, zbi (sp_discs 0 b r 4 hb (by omega) M), bk_X8_unlike_24, zbi (sp_ones _ _), bk_X8_unlike_28, nI_add, nI_1]
    exact ih (r + 1) (by omega)
noncomputable def zul (σ : Nat → Int32) (b : Nat) : Nat := zsm (fun r => zq (zdc σ b r 1 ^^^ zdc σ b r 4)) 5
theorem sp_unlike (b : Nat) (hb : b < 2) (M : zM) : zd_X8_unlike [zR 8 0, zI (nI b)] M = zs (nI (zul (M.1 29 0) b)) M := by
  rw [en_X8_unlike, bk_X8_unlike_0]
  exact sp_unlike_loop b hb M 5 0 rfl
