-- ===== the reference: calls that change =====
def zHx (M : zM) : Prop := ¬ M.1 8 0 4 = 0 ∨ (M.1 8 0 4 = 0 ∧ ∃ p, p ≤ 4 ∧ M.1 8 0 3 = nI p)
/-- what became of the history -/
def zHi (M M' : zM) : Prop := (¬ M.1 8 0 4 = 0 ∧ M'.1 8 0 3 = M.1 8 0 3 ∧ M'.1 30 0 = M.1 30 0) ∨
  (M.1 8 0 4 = 0 ∧ ∃ p, p ≤ 4 ∧ M.1 8 0 3 = nI p ∧ M'.1 8 0 3 = nI (Nat.min (p + 1) 4) ∧ (∀ j, j < 228 → M'.1 30 0 (228 * (Nat.min (p + 1) 4 - 1) + j) = M.1 29 0 j) ∧
    ∀ i j, i < Nat.min (p + 1) 4 - 1 → j < 228 → M'.1 30 0 (228 * i + j) = M.1 30 0 (228 * (i + (p + 1 - Nat.min (p + 1) 4)) + j))
def zOp (M M' : zM) : Prop := M'.2 = M.2 ∧ (∀ c n, c ≠ 29 → c ≠ 30 → c ≠ 33 → c ≠ 31 → c ≠ 31 → c ≠ 33 → c ≠ 8 → M'.1 c n = M.1 c n) ∧ (∀ k, k ≠ 9 → k ≠ 3 → M'.1 8 0 k = M.1 8 0 k) ∧ zHi M M'
/-- s and scratch differ -/
def zRs (M M' : zM) : Prop := M'.2 = M.2 ∧ (∀ c n, c ≠ 29 → c ≠ 33 → c ≠ 31 → c ≠ 31 → c ≠ 33 → c ≠ 8 → M'.1 c n = M.1 c n) ∧ ∀ k, k ≠ 9 → M'.1 8 0 k = M.1 8 0 k
theorem zRs.rf (M : zM) : zRs M M := ⟨rfl, fun _ _ _ _ _ _ _ _ => rfl, fun _ _ => rfl⟩
theorem zRf.rs {M M' : zM} (h : zRf M M') : zRs M M' := ⟨h.1, fun c n _ b d e f g => h.2.1 c n b d e f g, h.2.2⟩
theorem zR9.rs {M M' : zM} (h : zR9 M M') : zRs M M' := ⟨h.1, fun c n a _ _ _ _ _ => h.2 c n (fun z => a z.1), fun k _ => congrFun (h.2 8 0 (by decide)) k⟩
theorem zRs.tr {M M' M'' : zM} (h : zRs M M') (h' : zRs M' M'') : zRs M M'' := ⟨h'.1.trans h.1, fun c n a b d e f g => (h'.2.1 c n a b d e f g).trans (h.2.1 c n a b d e f g), fun k hk => (h'.2.2 k hk).trans (h.2.2 k hk)⟩
theorem zRs.st {M M' : zM} (h : zRs M M') (f : Nat → Int32) : zRs M (zst M'.1 29 0 f, M'.2) := ⟨h.1, fun c n a b d e i g => (zst_ne _ _ (fun z => a z.1)).trans (h.2.1 c n a b d e i g), fun k hk => (congrFun (zst_ne M'.1 f (c := 29) (n := 0) (c' := 8) (n' := 0) (by decide)) k).trans (h.2.2 k hk)⟩
/-- changes() -/
def zK (M M' : zM) : Prop := M'.2 = M.2 ∧ (∀ c n, c ≠ 30 → c ≠ 8 → M'.1 c n = M.1 c n) ∧ (∀ k, k ≠ 3 → M'.1 8 0 k = M.1 8 0 k) ∧ zHi M M'
theorem sp_chg (M : zM) (h : zHx M) : ∃ M', zd_X8_changes [zR 8 0] M = some (none, M') ∧ zK M M' := by
  rcases h with h | ⟨h, p, hp, h3⟩
  · exact ⟨M, sp_changes_r M h, rfl, fun _ _ _ _ => rfl, fun _ _ => rfl, Or.inl ⟨h, rfl, rfl⟩⟩
  · obtain ⟨M', e, a1, a2, a3, a4, a5, a6⟩ := sp_changes p hp M h h3
    exact ⟨M', e, a1, a2, a3, Or.inr ⟨h, p, hp, h3, a4, a5, a6⟩⟩
theorem zK.s {M M' : zM} (h : zK M M') : M'.1 29 0 = M.1 29 0 := h.2.1 29 0 (by decide) (by decide)
theorem zOp.of {M Ma Mb M' : zM} (h1 : zRf M Ma) (h2 : zK Ma Mb) (h3 : zRs Mb M') : zOp M M' := by
  obtain ⟨a1, a2, a3⟩ := h1
  obtain ⟨b1, b2, b3, b4⟩ := h2
  obtain ⟨c1, c2, c3⟩ := h3
  have e4 : Ma.1 8 0 4 = M.1 8 0 4 := a3 4 (by decide)
  have e3 : Ma.1 8 0 3 = M.1 8 0 3 := a3 3 (by decide)
  have e29 : Ma.1 29 0 = M.1 29 0 := a2 29 0 (by decide) (by decide) (by decide) (by decide) (by decide)
  have e30 : Ma.1 30 0 = M.1 30 0 := a2 30 0 (by decide) (by decide) (by decide) (by decide) (by decide)
  have f3 : M'.1 8 0 3 = Mb.1 8 0 3 := c3 3 (by decide)
  have f30 : M'.1 30 0 = Mb.1 30 0 := c2 30 0 (by decide) (by decide) (by decide) (by decide) (by decide) (by decide)
  refine ⟨c1.trans (b1.trans a1), fun c n q1 q2 q3 q4 q5 q6 q7 => (c2 c n q1 q3 q4 q5 q6 q7).trans ((b2 c n q2 q7).trans (a2 c n q3 q4 q5 q6 q7)), fun k hk hk3 => (c3 k hk).trans ((b3 k hk3).trans (a3 k hk)), ?_⟩
  rcases b4 with ⟨g1, g2, g3⟩ | ⟨g1, p, g2, g3, g4, g5, g6⟩
  · exact Or.inl ⟨by rw [← e4]; exact g1, by rw [f3, g2, e3], by rw [f30, g3, e30]⟩
  · refine Or.inr ⟨by rw [← e4]; exact g1, p, g2, by rw [← e3]; exact g3, by rw [f3]; exact g4, fun j hj => ?_, fun i j hi hj => ?_⟩
    · rw [f30, ← e29]; exact g5 j hj
    · rw [f30, ← e30]; exact g6 i j hi hj
theorem zHx.f {M M' : zM} (h : zHx M) (hf : zRf M M') : zHx M' := by
  have e4 : M'.1 8 0 4 = M.1 8 0 4 := hf.2.2 4 (by decide)
  have e3 : M'.1 8 0 3 = M.1 8 0 3 := hf.2.2 3 (by decide)
  unfold zHx
  rw [e4, e3]
  exact h
-- letters
def zlok : Nat → Nat → Bool
  | 0, _ => true
  | n + 1, u => if u = 0 then true else (decide (1 ≤ u % 32) && decide (u % 32 ≤ 16)) && zlok n (u / 32)
/-- letters as the document wants them -/
def zVL (x : Int32) : Prop := 0 < x ∧ x < 1073741824 ∧ zlok 6 (ui x) = true
theorem pos_ui {x : Int32} (h : 0 < x) : ∃ n, n < 2 ^ 31 ∧ 0 < n ∧ x = nI n := by
  obtain ⟨j, h1, h2⟩ := nI_of (x := x) (fun z => by rw [i_lt] at h z; omega)
  refine ⟨j, h1, ?_, h2⟩
  rcases Nat.eq_zero_or_pos j with h0 | h0
  · rw [h2, h0] at h; exact absurd h (by decide)
  · exact h0
theorem zus_nI {n : Nat} (h : n < 2 ^ 32) : zus (nI n) 5 = nI (n / 32) := ui_inj (by rw [ui_s5, ui_nI h, ui_nI (by omega)])
theorem sp_al_loop (M : zM) : ∀ (k : Nat) (d : Option zV) (u : Nat) (a : Bool), u < 32 ^ k → u < 2 ^ 31 → zev zC_X8_areLetters 18 ([d, some (zI (zbI a)), some (zI (nI u))], [], M) = zs (zbI (a && zlok k u)) M := by
  intro k
  induction k with
  | zero =>
    intro d u a h h2
    rw [Nat.pow_zero] at h
    have hu : u = 0 := by omega
    subst hu
    rw [bk_X8_areLetters_18, if_pos (by decide), bk_X8_areLetters_44, zlok, Bool.and_true, if_pos (by cases a <;> simp [zbI])]
  | succ k ih =>
    intro d u a h h2
    rw [bk_X8_areLetters_18]
    by_cases hu : u = 0
    · subst hu
      rw [if_pos (by decide), bk_X8_areLetters_44, zlok, if_pos rfl, Bool.and_true, if_pos (by cases a <;> simp [zbI])]
    · rw [if_neg (nI_nle (by omega) h2), bk_X8_areLetters_22]
      cases a with
      | false => rw [if_pos (show zbI false = 0 from rfl), bk_X8_areLetters_44, if_pos (Or.inl (show zbI false = 0 from rfl))]; rfl
      | true =>
        have e : zb (1 ≤ nI (u % 32) ∧ nI (u % 32) ≤ 16) = zbI (decide (1 ≤ u % 32) && decide (u % 32 ≤ 16)) := by
          have hlt : u % 32 < 32 := Nat.mod_lt _ (by decide)
          exact (show ∀ j, j < 32 → zb (1 ≤ nI j ∧ nI j ≤ 16) = zbI (decide (1 ≤ j) && decide (j ≤ 16)) by decide +kernel) _ hlt
        rw [if_neg (by decide), bk_X8_areLetters_26, zI31, ui_nI (by omega), zbi (sp_in _ _ _ _), bk_X8_areLetters_36, e, zus_nI (by omega), ih _ _ _ (by rw [Nat.pow_succ] at h; omega) (by omega), zlok, if_neg hu]
        rfl
theorem sp_areLetters (x : Int32) (M : zM) : ∃ v, zd_X8_areLetters [zI x] M = zs v M ∧ (v = 0 ↔ ¬ zVL x) := by
  rw [en_X8_areLetters, bk_X8_areLetters_0]
  have h0 : ∀ d1 d2, ∃ v, zev zC_X8_areLetters 14 ([some (zI x), d1, d2], [], M) = zs v M ∧ v = 0 := by
    intro d1 d2
    rw [bk_X8_areLetters_14, bk_X8_areLetters_15, bk_X8_areLetters_18]
    split
    · exact ⟨0, by rw [bk_X8_areLetters_44, if_pos (Or.inl rfl)], rfl⟩
    · exact ⟨0, by rw [bk_X8_areLetters_22, if_pos rfl, bk_X8_areLetters_44, if_pos (Or.inl rfl)], rfl⟩
  by_cases c1 : x ≤ 0
  · rw [if_pos c1]
    obtain ⟨v, h1, h2⟩ := h0 none none
    exact ⟨v, h1, ⟨fun _ z => i_le.mp c1 z.1, fun _ => h2⟩⟩
  rw [if_neg c1, bk_X8_areLetters_4]
  by_cases c2 : 1073741824 ≤ x
  · rw [if_pos c2]
    obtain ⟨v, h1, h2⟩ := h0 none none
    exact ⟨v, h1, ⟨fun _ z => i_le.mp c2 z.2.1, fun _ => h2⟩⟩
  obtain ⟨u, u1, u2, rfl⟩ := pos_ui (Int32.not_le.mp c1)
  have u3 : u < 1073741824 := by
    have := Int32.not_le.mp c2
    rw [show (1073741824 : Int32) = nI 1073741824 from rfl, nI_ltI u1 (by decide)] at this
    exact this
  rw [if_neg c2, bk_X8_areLetters_10, bk_X8_areLetters_15, bk_X8_areLetters_18, if_neg c1]
  have h := sp_al_loop M 6 none u true (by omega) u1
  rw [bk_X8_areLetters_18, if_neg c1] at h
  refine ⟨_, h, ?_⟩
  rw [Bool.true_and]
  have e : zVL (nI u) ↔ zlok 6 u = true := by
    unfold zVL
    rw [ui_nI (by omega)]
    exact ⟨fun z => z.2.2, fun z => ⟨Int32.not_le.mp c1, Int32.not_le.mp c2, z⟩⟩
  rw [e]
  cases zlok 6 u with
  | false => exact ⟨fun _ z => (by cases z), fun _ => rfl⟩
  | true => exact ⟨fun z => absurd z (by decide), fun z => absurd rfl z⟩
