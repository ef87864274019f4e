-- ===== the reference: an order of the text is read =====
def zis (T : Nat → Int32) (n : Nat) (l h : Int32) (p : Nat) : Bool := decide (p < n ∧ l ≤ T p ∧ T p ≤ h)
theorem zis_lt {T : Nat → Int32} {n : Nat} {l h : Int32} {p : Nat} (e : zis T n l h p = true) : p < n := (of_decide_eq_true e).1
theorem sp_isAt (n p : Nat) (l h : Int32) (hn : n ≤ 60) (hp : p ≤ n) (M : zM) (h6 : M.1 8 0 6 = nI n) (h10 : M.1 8 0 10 = nI p) : zd_X8_isAt [zR 8 0, zI l, zI h] M = zs (zbI (zis (M.1 32 0) n l h p)) M := by
  rw [en_X8_isAt, bk_X8_isAt_0, h6, h10]
  by_cases c : p < n
  · rw [if_neg (nI_ge c (by omega)), bk_X8_isAt_11, h10, if_neg (ix_in (by omega) (by decide)), ix_cl (by omega), bk_X8_isAt_20, zbi (sp_in _ _ _ _), bk_X8_isAt_25]
    by_cases d : l ≤ M.1 32 0 p ∧ M.1 32 0 p ≤ h
    · rw [if_neg (zne0 d), bk_X8_isAt_28, bk_X8_isAt_33, if_pos (Or.inr rfl), show zis (M.1 32 0) n l h p = true from decide_eq_true ⟨c, d⟩]
      rfl
    · rw [if_pos (zb_0.mpr d), bk_X8_isAt_32, bk_X8_isAt_33, if_pos (Or.inl rfl), show zis (M.1 32 0) n l h p = false from decide_eq_false (fun z => d z.2)]
      rfl
  · rw [if_pos (nI_le (by omega) (by omega)), bk_X8_isAt_32, bk_X8_isAt_33, if_pos (Or.inl rfl), show zis (M.1 32 0) n l h p = false from decide_eq_false (fun z => c z.1)]
    rfl
/-- while an order is read: spot p, numbers f, order o -/
def zRd (M M' : zM) (p : Nat) (f : Nat → Int32) (o : Int32) : Prop := M'.2 = M.2 ∧ (∀ c n, ¬ (c = 34 ∧ n = 0) → ¬ (c = 8 ∧ n = 0) → M'.1 c n = M.1 c n) ∧ (∀ k, k ≠ 10 → k ≠ 15 → M'.1 8 0 k = M.1 8 0 k) ∧ M'.1 8 0 10 = nI p ∧ M'.1 34 0 = f ∧ M'.1 8 0 15 = o
theorem zRd.six {M0 M : zM} {p : Nat} {f : Nat → Int32} {o : Int32} (h : zRd M0 M p f o) : M.1 8 0 6 = M0.1 8 0 6 := h.2.2.1 6 (by decide) (by decide)
theorem zRd.T {M0 M : zM} {p : Nat} {f : Nat → Int32} {o : Int32} (h : zRd M0 M p f o) : M.1 32 0 = M0.1 32 0 := h.2.1 32 0 (by decide) (by decide)
theorem zRd.p {M0 M : zM} {p : Nat} {f : Nat → Int32} {o : Int32} (h : zRd M0 M p f o) : M.1 8 0 10 = nI p := h.2.2.2.1
theorem zRd.f {M0 M : zM} {p : Nat} {f : Nat → Int32} {o : Int32} (h : zRd M0 M p f o) : M.1 34 0 = f := h.2.2.2.2.1
theorem zRd.o {M0 M : zM} {p : Nat} {f : Nat → Int32} {o : Int32} (h : zRd M0 M p f o) : M.1 8 0 15 = o := h.2.2.2.2.2
theorem zRd.sp {M0 M : zM} {p : Nat} {f : Nat → Int32} {o : Int32} (h : zRd M0 M p f o) (v : Int32) (q : Nat) (hv : v = nI q) : zRd M0 (zst M.1 8 0 (upd (M.1 8 0) 10 v), M.2) q f o := by
  obtain ⟨h1, h2, h3, h4, h5, h6⟩ := h
  have e : (zst M.1 8 0 (upd (M.1 8 0) 10 v)) 8 0 = upd (M.1 8 0) 10 v := zst_self M.1 8 0 _
  refine ⟨h1, fun c n a b => ?_, fun k a b => ?_, ?_, ?_, ?_⟩
  · exact (zst_ne M.1 (upd (M.1 8 0) 10 v) b).trans (h2 c n a b)
  · dsimp only; rw [e, upd_n a]; exact h3 k a b
  · dsimp only; rw [e, upd_s]; exact hv
  · exact (zst_ne M.1 (upd (M.1 8 0) 10 v) (c := 8) (n := 0) (by decide)).trans h5
  · dsimp only; rw [e, upd_n (by decide)]; exact h6
theorem zRd.od {M0 M : zM} {p : Nat} {f : Nat → Int32} {o : Int32} (h : zRd M0 M p f o) (v : Int32) : zRd M0 (zst M.1 8 0 (upd (M.1 8 0) 15 v), M.2) p f v := by
  obtain ⟨h1, h2, h3, h4, h5, h6⟩ := h
  have e : (zst M.1 8 0 (upd (M.1 8 0) 15 v)) 8 0 = upd (M.1 8 0) 15 v := zst_self M.1 8 0 _
  refine ⟨h1, fun c n a b => ?_, fun k a b => ?_, ?_, ?_, ?_⟩
  · exact (zst_ne M.1 (upd (M.1 8 0) 15 v) b).trans (h2 c n a b)
  · dsimp only; rw [e, upd_n b]; exact h3 k a b
  · dsimp only; rw [e, upd_n (by decide)]; exact h4
  · exact (zst_ne M.1 (upd (M.1 8 0) 15 v) (c := 8) (n := 0) (by decide)).trans h5
  · dsimp only; rw [e, upd_s]
theorem zRd.tl {M0 M : zM} {p : Nat} {f : Nat → Int32} {o : Int32} (h : zRd M0 M p f o) (k : Nat) (v : Int32) : zRd M0 (zst M.1 34 0 (upd (M.1 34 0) k v), M.2) p (upd f k v) o := by
  obtain ⟨h1, h2, h3, h4, h5, h6⟩ := h
  have e8 : (zst M.1 34 0 (upd (M.1 34 0) k v)) 8 0 = M.1 8 0 := zst_ne M.1 _ (by decide)
  refine ⟨h1, fun c n a b => ?_, fun k a b => ?_, ?_, ?_, ?_⟩
  · exact (zst_ne M.1 (upd (M.1 34 0) k v) a).trans (h2 c n a b)
  · dsimp only; rw [e8]; exact h3 k a b
  · dsimp only; rw [e8]; exact h4
  · dsimp only; rw [zst_self, h5]
  · dsimp only; rw [e8]; exact h6
theorem zRd.isAt {M0 M : zM} {p n : Nat} {f : Nat → Int32} {o : Int32} (h : zRd M0 M p f o) (hn : n ≤ 60) (h6 : M0.1 8 0 6 = nI n) (hp : p ≤ n) (l u : Int32) : zd_X8_isAt [zR 8 0, zI l, zI u] M = zs (zbI (zis (M0.1 32 0) n l u p)) M := by
  rw [sp_isAt n p l u hn hp M (h.six.trans h6) h.p, h.T]
theorem zbI_t : zbI true = 1 := rfl
theorem zbI_f : zbI false = 0 := rfl
theorem zbI_n : ¬ zbI true = 0 := by decide
theorem sp_sign (n p : Nat) (c : Int32) (hn : n ≤ 60) (hp : p ≤ n) (M0 M : zM) (f : Nat → Int32) (o : Int32) (h6 : M0.1 8 0 6 = nI n) (h : zRd M0 M p f o) : ∃ M', zd_X8_sign [zR 8 0, zI c] M = zs (zbI (zis (M0.1 32 0) n c c p)) M' ∧ zRd M0 M' (p + (zis (M0.1 32 0) n c c p).toNat) f o := by
  cases hz : zis (M0.1 32 0) n c c p with
  | true =>
    refine ⟨_, ?_, h.sp (M.1 8 0 10 + 1) _ (by rw [h.p, nI_1]; rfl)⟩
    rw [en_X8_sign, bk_X8_sign_0, zbi (h.isAt hn h6 hp c c), hz, bk_X8_sign_6, if_neg (by decide), bk_X8_sign_16, bk_X8_sign_21, bk_X8_sign_25, if_pos (Or.inr zbI_t)]
  | false =>
    refine ⟨_, ?_, h.sp (M.1 8 0 10 + 0) _ (by rw [h.p, Int32.add_zero]; rfl)⟩
    rw [en_X8_sign, bk_X8_sign_0, zbi (h.isAt hn h6 hp c c), hz, bk_X8_sign_6, if_pos zbI_f, bk_X8_sign_20, bk_X8_sign_21, bk_X8_sign_25, if_pos (Or.inl zbI_f)]
theorem upd_u (f : Nat → Int32) (k : Nat) (x y : Int32) : upd (upd f k x) k y = upd f k y := by
  funext j; unfold upd; split <;> rfl
/-- a number at p, and where it ends -/
def znu (T : Nat → Int32) (n p : Nat) : Int32 × Nat := if zis T n 48 57 p = true then (if zis T n 48 57 (p + 1) = true then (10 * (T p - 48) + T (p + 1) - 48, p + 2) else (T p - 48, p + 1)) else (0, p)
theorem znu_le (T : Nat → Int32) (n p : Nat) (hp : p ≤ n) : p ≤ (znu T n p).2 ∧ (znu T n p).2 ≤ n := by
  unfold znu
  split
  · rename_i h1
    have := zis_lt h1
    split
    · rename_i h2
      have := zis_lt h2
      exact ⟨by dsimp only; omega, by dsimp only; omega⟩
    · exact ⟨by dsimp only; omega, by dsimp only; omega⟩
  · exact ⟨Nat.le_refl _, hp⟩
theorem sp_number (w n p : Nat) (hw : w < 4) (hn : n ≤ 60) (hp : p ≤ n) (M0 M : zM) (f : Nat → Int32) (o : Int32) (h6 : M0.1 8 0 6 = nI n) (h : zRd M0 M p f o) : ∃ M', zd_X8_number [zR 8 0, zI (nI w)] M = zs (zbI (decide (p < (znu (M0.1 32 0) n p).2))) M' ∧ zRd M0 M' (znu (M0.1 32 0) n p).2 (upd f w (znu (M0.1 32 0) n p).1) o := by
  have fin : ∀ (q : Nat) (f : Nat → Int32) (M : zM), zRd M0 M q f o → p ≤ q → q ≤ n → zev zC_X8_number 74 ([some (zR 8 0), some (zI (nI w)), some (zI (nI p))], [], M) = zs (zbI (decide (p < q))) M := by
    intro q f M h hq hq2
    rw [bk_X8_number_74, h.p]
    by_cases c : p < q
    · rw [if_neg (nI_ge c (by omega)), bk_X8_number_82, bk_X8_number_87, if_pos (Or.inr rfl), decide_eq_true c]; rfl
    · rw [if_pos (nI_le (by omega) (by omega)), bk_X8_number_86, bk_X8_number_87, if_pos (Or.inl rfl), decide_eq_false c]; rfl
  have head : ∀ (q : Nat) (f : Nat → Int32) (M : zM), zRd M0 M q f o → q ≤ n → zev zC_X8_number 12 ([some (zR 8 0), some (zI (nI w)), some (zI (nI p))], [], M) = if zis (M0.1 32 0) n 48 57 q = true then zev zC_X8_number 23 ([some (zR 8 0), some (zI (nI w)), some (zI (nI p))], [], M) else zev zC_X8_number 74 ([some (zR 8 0), some (zI (nI w)), some (zI (nI p))], [], M) := by
    intro q f M h hq
    rw [bk_X8_number_12, zbi (h.isAt hn h6 hq 48 57), bk_X8_number_20]
    cases zis (M0.1 32 0) n 48 57 q <;> rfl
  have step : ∀ (q : Nat) (f : Nat → Int32) (M : zM), zRd M0 M q f o → q < n → p ≤ q → q < p + 2 → ∃ M', zev zC_X8_number 23 ([some (zR 8 0), some (zI (nI w)), some (zI (nI p))], [], M) = zev zC_X8_number 12 ([some (zR 8 0), some (zI (nI w)), some (zI (nI p))], [], M') ∧ zRd M0 M' (q + 1) (upd f w ((10 * f w + M0.1 32 0 q) - 48)) o := by
    intro q f M h hq hpq hq2
    have h1 := h.tl w ((10 * f w + M0.1 32 0 q) - 48)
    refine ⟨_, ?_, h1.sp (M.1 8 0 10 + 1) (q + 1) (by rw [h.p, nI_1])⟩
    rw [bk_X8_number_23, h.p, pk_sub hpq, show (2 : Int32) = nI 2 from rfl, if_neg (nI_ge (by omega) (by omega)), bk_X8_number_33, if_neg (ix_in hw (by decide)), ix_cl (by omega), bk_X8_number_46, h.p, if_neg (ix_in (by omega) (by decide)), ix_cl (by omega), bk_X8_number_56, if_neg (ix_in hw (by decide)), ix_cl (by omega), h.T, h.f, bk_X8_number_61, bk_X8_number_71]
    dsimp only
    rw [zst_ne (c := 34) (n := 0) (c' := 8) (n' := 0) _ _ (by decide), h.p]
  have st : ∀ (q : Nat) (f : Nat → Int32) (M : zM), zRd M0 M q f o → q = p + 2 → q ≤ n → zev zC_X8_number 12 ([some (zR 8 0), some (zI (nI w)), some (zI (nI p))], [], M) = zev zC_X8_number 74 ([some (zR 8 0), some (zI (nI w)), some (zI (nI p))], [], M) := by
    intro q f M h hq hq2
    rw [head q f M h hq2]
    by_cases c : zis (M0.1 32 0) n 48 57 q = true
    · rw [if_pos c, bk_X8_number_23, h.p, pk_sub (by omega), show (2 : Int32) = nI 2 from rfl, if_pos (nI_le (by omega) (by omega))]
    · rw [if_neg c]
  have ent : zd_X8_number [zR 8 0, zI (nI w)] M = zev zC_X8_number 12 ([some (zR 8 0), some (zI (nI w)), some (zI (nI p))], [], (zst M.1 34 0 (upd (M.1 34 0) w 0), M.2)) := by
    rw [en_X8_number, bk_X8_number_0, if_neg (ix_in hw (by decide)), ix_cl (by omega), h.p]
  have h0 := h.tl w 0
  unfold znu
  rw [ent, head p _ _ h0 hp]
  by_cases c1 : zis (M0.1 32 0) n 48 57 p = true
  · have l1 := zis_lt c1
    obtain ⟨M1, a1, a2⟩ := step p _ _ h0 l1 (Nat.le_refl _) (by omega)
    rw [upd_u, upd_s, show (10 * (0 : Int32) + M0.1 32 0 p) - 48 = M0.1 32 0 p - 48 by rw [show (10 : Int32) * 0 = 0 from rfl, Int32.zero_add]] at a2
    rw [if_pos c1, if_pos c1, a1, head _ _ _ a2 l1]
    by_cases c2 : zis (M0.1 32 0) n 48 57 (p + 1) = true
    · have l2 := zis_lt c2
      obtain ⟨M2, b1, b2⟩ := step (p + 1) _ _ a2 l2 (by omega) (by omega)
      rw [upd_u, upd_s] at b2
      rw [if_pos c2, if_pos c2, b1, st _ _ _ b2 rfl l2]
      exact ⟨M2, fin _ _ _ b2 (by omega) l2, b2⟩
    · rw [if_neg c2, if_neg c2]
      exact ⟨M1, fin _ _ _ a2 (by omega) l1, a2⟩
  · rw [if_neg c1, if_neg c1]
    exact ⟨_, fin _ _ _ h0 (Nat.le_refl _) hp, h0⟩
