-- ===== the class: a blind against s =====
theorem zfD_out (σ : Nat → Int32) (b : Nat) (w : Int32) (c r : Nat) (h : ¬ c < zcol b) : zfD σ b w c r = false := by unfold zfD; rw [decide_eq_false h]; rfl
theorem zfD_dv {σ : Nat → Int32} {b c r u : Nat} {x s w : Bool} (hc : c < zcol b) (hu : u < 2 ^ 27) (e : σ (zat b r c) = zDv u x s w) : zfD σ b 1 c r = x ∧ zfD σ b 2 c r = s ∧ zfD σ b 4 c r = w := by
  unfold zfD
  rw [decide_eq_true hc, e, dv_1 x s w hu, dv_2 x s w hu, dv_4 x s w hu]
  refine ⟨by cases x <;> rfl, by cases s <;> rfl, by cases w <;> rfl⟩
/-- what wanting a picture makes of a disc -/
theorem wa_bits {B b : Nat} {σ τ : Nat → Int32} {F : Nat → Nat → Bool} (hb : b < 2) (hB : B < 2 ^ 25) (h : zW B σ) (t : zWA σ b F 5 0 τ) (c r : Nat) (hc : c < zcol b) (hr : r < 5) :
    zfD τ b 1 c r = (zfD σ b 1 c r ^^ ((zfD σ b 1 c r ^^ F r c) && !zfD σ b 2 c r)) ∧ zfD τ b 2 c r = (zfD σ b 2 c r || zwn (σ (zat b r c)) (F r c) (σ 7)) ∧ zfD τ b 4 c r = F r c ∧
    (∃ u, u ≤ B ∧ σ (zat b r c) / 8 = nI u ∧ τ (zat b r c) / 8 = nI (u + (zfl (σ (zat b r c)) (F r c)).toNat) ∧ zwn (σ (zat b r c)) (F r c) (σ 7) = (zfl (σ (zat b r c)) (F r c) && decide (σ 7 ≤ nI (u + 1)))) ∧ zfl (σ (zat b r c)) (F r c) = ((zfD σ b 1 c r ^^ F r c) && !zfD σ b 2 c r) := by
  obtain ⟨u, x, s, w, hu, e⟩ := h.2.2.2 b r c hb hr hc
  obtain ⟨d1, d2, d3⟩ := zfD_dv hc (by omega) e
  have et := t.1 r c hr hc (Or.inl hr)
  rw [e, dv_vn x s w (by omega)] at et
  have hfl := dv_fl x s w (u := u) (by omega) (F r c)
  have hwn := dv_wn x s w (u := u) (by omega) (F r c) (σ 7)
  rw [d1, d2, e, hfl, hwn, dv_div x s w (by omega)]
  by_cases k : (!s && (x ^^ F r c)) = true
  · rw [if_pos k] at et
    obtain ⟨t1, t2, t3⟩ := zfD_dv hc (by omega) et
    have ks : s = false := by cases s; rfl; cases k
    have kx : (x ^^ F r c) = true := by rw [ks] at k; exact k
    rw [t1, t2, t3, k, kx, ks, Bool.true_and, Bool.false_or]
    refine ⟨?_, rfl, rfl, ⟨u, hu, rfl, ?_, rfl⟩, rfl⟩
    · revert kx; cases x <;> cases F r c <;> decide
    · rw [et, dv_div _ _ _ (by omega)]; rfl
  · rw [if_neg k] at et
    obtain ⟨t1, t2, t3⟩ := zfD_dv hc (by omega) et
    have k0 : (!s && (x ^^ F r c)) = false := by cases h : (!s && (x ^^ F r c)); rfl; exact absurd h k
    rw [t1, t2, t3, k0, Bool.false_and, Bool.or_false]
    refine ⟨?_, rfl, rfl, ⟨u, hu, rfl, ?_, rfl⟩, ?_⟩
    · revert k0; cases x <;> cases s <;> cases F r c <;> decide
    · rw [et, dv_div _ _ _ (by omega)]; rfl
    · revert k0; cases x <;> cases s <;> cases F r c <;> decide
theorem zct_zsm (g : Nat → Bool) (n : Nat) : zct n g = zsm (fun c => (g c).toNat) n := by
  induction n with
  | zero => rfl
  | succ n ih => rw [zct_1, zsm, ih]
/-- the sums over a blind, both ways -/
theorem zct_blind (f : Nat → Nat → Bool) (b : Nat) : zct (5 * zcol b) (fun i => f (i / 5) (i % 5)) = zsm (fun r => zsm (fun c => (f c r).toNat) (zcol b)) 5 := by
  rw [zct_rows]
  exact zsm_congr (fun r _ => zct_zsm _ _)
theorem zc2_blind (f : Nat → Nat → Bool) (b : Nat) (h : ∀ c r, r < 5 → ¬ c < zcol b → f c r = false) : zc2 f = zsm (fun r => zsm (fun c => (f c r).toNat) (zcol b)) 5 := by
  have hc := zcol_le b
  rw [← zct_blind]
  unfold zc2
  rw [show 120 = 5 * zcol b + (120 - 5 * zcol b) by omega, zct_add, zct_false (120 - 5 * zcol b) _ (fun i hi => h _ _ (by omega) (by omega)), Nat.add_zero]
/-- blind n of the class is blind b of s -/
def zGB (M : zM) (n b : Nat) (σ : Nat → Int32) : Prop := M.1 0 n 0 = nI (zcol b) ∧ M.1 0 n 6 = σ (4 + b) ∧ zDt M (4 * n) (zfD σ b 1) ∧ zDt M (4 * n + 1) (zfD σ b 2) ∧ zDt M (4 * n + 2) (zfD σ b 4) ∧ ∀ c r, c < zcol b → r < 5 → M.1 25 n (5 * c + r) = σ (zat b r c) / 8
theorem cp_hasColumn (n : Nat) (a : Int32) (M : zM) : zd_X0_hasColumn [zR 0 n, zI a] M = zs (zb (0 ≤ a ∧ a < M.1 0 n 0)) M := by
  rw [en_X0_hasColumn, bk_X0_hasColumn_0]
  by_cases h1 : a < 0
  · rw [if_pos h1, bk_X0_hasColumn_16, bk_X0_hasColumn_17, if_pos (Or.inl rfl), zb_f (fun z => i_le.mp z.1 h1)]
  · rw [if_neg h1, bk_X0_hasColumn_4]
    by_cases h2 : M.1 0 n 0 ≤ a
    · rw [if_pos h2, bk_X0_hasColumn_16, bk_X0_hasColumn_17, if_pos (Or.inl rfl), zb_f (fun z => i_le.mp h2 z.2)]
    · rw [if_neg h2, bk_X0_hasColumn_12, bk_X0_hasColumn_17, if_pos (Or.inr rfl), zb_t ⟨i_le.mpr h1, Int32.not_le.mp h2⟩]
theorem cp_hasDisc (n : Nat) (a r : Int32) (M : zM) : zd_X0_hasDisc [zR 0 n, zI a, zI r] M = zs (zb ((0 ≤ a ∧ a < M.1 0 n 0) ∧ 0 ≤ r ∧ r < 5)) M := by
  rw [en_X0_hasDisc, bk_X0_hasDisc_0, zbi (cp_hasColumn n a M), bk_X0_hasDisc_5]
  by_cases h : 0 ≤ a ∧ a < M.1 0 n 0
  · rw [if_neg (zne0 h), bk_X0_hasDisc_8]
    by_cases h1 : r < 0
    · rw [if_pos h1, bk_X0_hasDisc_21, bk_X0_hasDisc_22, if_pos (Or.inl rfl), zb_f (fun z => i_le.mp z.2.1 h1)]
    · rw [if_neg h1, bk_X0_hasDisc_12]
      by_cases h2 : 5 ≤ r
      · rw [if_pos h2, bk_X0_hasDisc_21, bk_X0_hasDisc_22, if_pos (Or.inl rfl), zb_f (fun z => i_le.mp h2 z.2.2)]
      · rw [if_neg h2, bk_X0_hasDisc_17, bk_X0_hasDisc_22, if_pos (Or.inr rfl), zb_t ⟨h, i_le.mpr h1, Int32.not_le.mp h2⟩]
  · rw [if_pos (zb_0.mpr h), bk_X0_hasDisc_21, bk_X0_hasDisc_22, if_pos (Or.inl rfl), zb_f (fun z => h z.1)]
theorem cp_wearAt (n b c r : Nat) (hc : c < zcol b) (hr : r < 5) (M : zM) (h0 : M.1 0 n 0 = nI (zcol b)) : zd_X0_wearAt [zR 0 n, zI (nI c), zI (nI r)] M = zs (M.1 25 n (5 * c + r)) M := by
  have hl := zcol_le b
  rw [en_X0_wearAt, bk_X0_wearAt_0, zbi (cp_hasDisc n _ _ M), bk_X0_wearAt_6, if_neg (zne0 ⟨⟨nI_pos' (by omega), by rw [h0]; exact nI_lt hc (by omega)⟩, nI_pos' (by omega), (show (5 : Int32) = nI 5 from rfl) ▸ nI_lt hr (by omega)⟩), bk_X0_wearAt_9, show (5 : Int32) = nI 5 from rfl, pk_mul, nI_add, show c * 5 + r = 5 * c + r by omega, if_neg (ix_in (by omega) (by decide)), ix_cl (by omega), bk_X0_wearAt_19, bk_X0_wearAt_23]
-- the discs one after the other
def zFL (M M' : zM) (n : Nat) : Prop := M'.2.2 = M.2.2 ∧ (∀ c m, ¬ (c = 25 ∧ m = n) → M'.1 c m = M.1 c m) ∧ ∀ c m, ¬ (c = 1 ∧ m = 4 * n + 1) → M'.2.1 c m = M.2.1 c m
theorem zFL.rf (M : zM) (n : Nat) : zFL M M n := ⟨rfl, fun _ _ _ => rfl, fun _ _ _ => rfl⟩
theorem zFL.w {M0 M : zM} {n : Nat} (h : zFL M0 M n) (f : Nat → Int32) : zFL M0 (zst M.1 25 n f, M.2) n := ⟨h.1, fun c m q => (zst_ne M.1 f q).trans (h.2.1 c m q), h.2.2⟩
theorem zFL.j {M0 M M' : zM} {n : Nat} {L R : Int64} (h : zFL M0 M n) (h' : zJs M M' (4 * n + 1) L R) : zFL M0 M' n := ⟨h'.2.1.trans h.1, fun c m q => (congrFun (congrFun h'.1 c) m).trans (h.2.1 c m q), fun c m q => (h'.2.2.1 c m q).trans (h.2.2 c m q)⟩
theorem zFL.dt {M0 M : zM} {n m : Nat} {f : Nat → Nat → Bool} (h : zFL M0 M n) (hm : m ≠ 4 * n + 1) (d : zDt M0 m f) : zDt M m f := by unfold zDt; rw [h.2.2 1 m (fun z => hm z.2)]; exact d
theorem zDt.cg {M : zM} {n : Nat} {f g : Nat → Nat → Bool} (h : zDt M n f) (e : ∀ c r, c < 24 → r < 5 → f c r = g c r) : zDt M n g := zPr.cg h e
theorem zDt.w {M : zM} {m : Nat} {f : Nat → Nat → Bool} (h : zDt M m f) (g : Nat → Nat → Nat → Int32) : zDt (g, M.2) m f := h
theorem cp_want_loop (n b : Nat) (life : Int32) (F S : Nat → Nat → Bool) (u : Nat → Nat → Nat) (hu : ∀ c r, u c r < 2 ^ 29) (M0 : zM) (h0 : M0.1 0 n 0 = nI (zcol b)) (hF : zDt M0 (4 * n + 3) F) :
    ∀ (j p : Nat) (d1 d2 d3 d4 d8 d9 d10 : Option zV) (M : zM), p + j = 5 * zcol b → zFL M0 M n → zDt M (4 * n + 1) (fun c r => S c r || (decide (5 * c + r < p) && (F c r && decide (life ≤ nI (u c r + 1))))) →
      (∀ c r, c < zcol b → r < 5 → M.1 25 n (5 * c + r) = nI (u c r + (if 5 * c + r < p then (F c r).toNat else 0))) →
      ∃ M', zev zC_X0_want 82 ([some (zR 0 n), d1, d2, d3, d4, some (zI life), some (zI (nI (zct p (fun i => F (i / 5) (i % 5) && decide (life ≤ nI (u (i / 5) (i % 5) + 1)))))), some (zI (nI p)), d8, d9, d10], [], M) = zs (nI (zct (5 * zcol b) (fun i => F (i / 5) (i % 5) && decide (life ≤ nI (u (i / 5) (i % 5) + 1))))) M' ∧ zFL M0 M' n ∧
        zDt M' (4 * n + 1) (fun c r => S c r || (decide (5 * c + r < 5 * zcol b) && (F c r && decide (life ≤ nI (u c r + 1))))) ∧ (∀ c r, c < zcol b → r < 5 → M'.1 25 n (5 * c + r) = nI (u c r + (F c r).toNat)) := by
  have hl := zcol_le b
  intro j
  induction j with
  | zero =>
    intro p d1 d2 d3 d4 d8 d9 d10 M e hf hs hw
    have ep : p = 5 * zcol b := by omega
    subst ep
    refine ⟨M, ?_, hf, hs, fun c r hc hr => by rw [hw c r hc hr, if_pos (by omega)]⟩
    rw [bk_X0_want_82, hf.2.1 0 n (by omega), h0, show (5 : Int32) = nI 5 from rfl, pk_mul, if_pos (nI_le (by omega) (by omega)), bk_X0_want_179]
  | succ j ih =>
    intro p d1 d2 d3 d4 d8 d9 d10 M e hf hs hw
    have hc : p / 5 < zcol b := by omega
    have hr : p % 5 < 5 := by omega
    have hp5 : 5 * (p / 5) + p % 5 = p := by omega
    have hw0 := hw _ _ hc hr
    rw [hp5, if_neg (by omega), Nat.add_zero] at hw0
    have hKp : (fun i => F (i / 5) (i % 5) && decide (life ≤ nI (u (i / 5) (i % 5) + 1))) p = (F (p / 5) (p % 5) && decide (life ≤ nI (u (p / 5) (p % 5) + 1))) := rfl
    generalize (fun i => F (i / 5) (i % 5) && decide (life ≤ nI (u (i / 5) (i % 5) + 1))) = K at ih hKp ⊢
    have hlast : zct (p + 1) K = zct p K + (K p).toNat := zct_1 p K
    rw [hKp] at hlast
    have hat := cp_at (hf.dt (by omega) hF) (p / 5) (p % 5) (by omega) hr
    have e4 : (5 : Int32) = nI 5 := rfl
    have hul := hu (p / 5) (p % 5)
    -- wear after this disc
    have hw1 : ∀ c r, c < zcol b → r < 5 → upd (M.1 25 n) p (nI (u (p / 5) (p % 5)) + zbI (F (p / 5) (p % 5))) (5 * c + r) = nI (u c r + (if 5 * c + r < p + 1 then (F c r).toNat else 0)) := by
      intro c r hc' hr'
      by_cases q : 5 * c + r = p
      · have q1 : p / 5 = c := by omega
        have q2 : p % 5 = r := by omega
        rw [q, upd_s, q1, q2, if_pos (by omega), zbI_nI, nI_add]
      · rw [upd_n q, hw c r hc' hr']
        by_cases q2 : 5 * c + r < p
        · rw [if_pos q2, if_pos (by omega)]
        · rw [if_neg q2, if_neg (by omega)]
    -- the sets of stuck discs differ at this disc alone
    have hsame : ∀ c r, r < 5 → ¬ (c = p / 5 ∧ r = p % 5) → decide (5 * c + r < p + 1) = decide (5 * c + r < p) := by
      intro c r hr' q
      by_cases q2 : 5 * c + r < p
      · rw [decide_eq_true q2, decide_eq_true (by omega)]
      · rw [decide_eq_false q2, decide_eq_false (by omega)]
    have hSk : (F (p / 5) (p % 5) && decide (life ≤ nI (u (p / 5) (p % 5) + 1))) = false → ∀ c r, c < 24 → r < 5 → (S c r || (decide (5 * c + r < p) && (F c r && decide (life ≤ nI (u c r + 1))))) = (S c r || (decide (5 * c + r < p + 1) && (F c r && decide (life ≤ nI (u c r + 1))))) := by
      intro k c r _ hr'
      by_cases q : c = p / 5 ∧ r = p % 5
      · obtain ⟨rfl, rfl⟩ := q
        rw [k, Bool.and_false, Bool.and_false]
      · rw [hsame c r hr' q]
    have nx : ∀ (M2 : zM) (d1 d2 d3 d4 d8 d9 d10 : Option zV) (a : Int32), zev zC_X0_want 173 ([some (zR 0 n), d1, d2, d3, d4, some (zI life), some (zI a), some (zI (nI p)), d8, d9, d10], [], M2) = zev zC_X0_want 82 ([some (zR 0 n), none, none, none, none, some (zI life), some (zI a), some (zI (nI (p + 1))), none, none, none], [], M2) := by
      intro M2 d1 d2 d3 d4 d8 d9 d10 a
      rw [bk_X0_want_173, nI_1]
    rw [bk_X0_want_82, hf.2.1 0 n (by omega), h0, e4, pk_mul, if_neg (nI_ge (by omega) (by omega)), bk_X0_want_93, show (120 : Int32) = nI 120 from rfl, if_neg (nI_ge (by omega) (by omega)), bk_X0_want_103, e4, pk_div (by omega) (by decide) (by decide)]
    rw [show zrm (nI p) (nI 5) = nI (p % 5) from pk_rem (by omega) (by decide) (by decide), zbi hat, bk_X0_want_126, if_neg (ix_in (by omega) (by decide)), ix_cl (by omega), hw0, bk_X0_want_136, if_neg (ix_in (by omega) (by decide)), ix_cl (by omega), bk_X0_want_140]
    have hf1 := hf.w (upd (M.1 25 n) p (nI (u (p / 5) (p % 5)) + zbI (F (p / 5) (p % 5))))
    have hr25 : (zst M.1 25 n (upd (M.1 25 n) p (nI (u (p / 5) (p % 5)) + zbI (F (p / 5) (p % 5))))) 25 n = upd (M.1 25 n) p (nI (u (p / 5) (p % 5)) + zbI (F (p / 5) (p % 5))) := zst_self M.1 25 n _
    cases hFv : F (p / 5) (p % 5) with
    | false =>
      rw [hFv] at hf1 hr25 hw1 hlast hSk
      rw [if_neg (show ¬ zbI false = 1 by decide), nx]
      have h9 : zct (p + 1) K = zct p K := hlast
      rw [← h9]
      exact ih (p + 1) none none none none none none none _ (by omega) hf1 (hs.cg (hSk (by rw [Bool.false_and]))) (fun c r hc' hr' => by dsimp only; rw [hr25]; exact hw1 c r hc' hr')
    | true =>
      rw [hFv] at hf1 hr25 hw1 hlast hSk
      rw [if_pos (show zbI true = 1 from rfl), bk_X0_want_146, if_neg (ix_in (by omega) (by decide)), ix_cl (by omega)]
      dsimp only
      rw [hr25, upd_s, bk_X0_want_153, show nI (u (p / 5) (p % 5)) + zbI true = nI (u (p / 5) (p % 5) + 1) from nI_1 _]
      rw [show nI (u (p / 5) (p % 5)) + zbI true = nI (u (p / 5) (p % 5) + 1) from nI_1 _] at hf1 hr25 hw1
      by_cases kl : nI (u (p / 5) (p % 5) + 1) < life
      · rw [if_pos kl, nx]
        rw [decide_eq_false (Int32.not_le.mpr kl), Bool.and_false] at hSk
        rw [decide_eq_false (Int32.not_le.mpr kl), Bool.and_false] at hlast
        have h9 : zct (p + 1) K = zct p K := hlast
        rw [← h9]
        exact ih (p + 1) none none none none none none none _ (by omega) hf1 (hs.cg (hSk rfl)) (fun c r hc' hr' => by dsimp only; rw [hr25]; exact hw1 c r hc' hr')
      · obtain ⟨M2, L, R, e2, j2, p2⟩ := cp_put (hs.w (zst M.1 25 n (upd (M.1 25 n) p (nI (u (p / 5) (p % 5) + 1))))) (p / 5) (p % 5) (by omega) hr true
        rw [if_neg kl, bk_X0_want_158, show (1 : Int32) = zbI true from rfl, zbv e2, bk_X0_want_170, nx, nI_1]
        rw [decide_eq_true (Int32.not_lt.mp kl), Bool.and_true] at hlast
        have h9 : zct (p + 1) K = zct p K + 1 := hlast
        rw [← h9]
        refine ih (p + 1) none none none none none none none M2 (by omega) (hf1.j j2) ((j2.dt p2).cg (fun c r _ hr' => ?_)) (fun c r hc' hr' => by rw [j2.1]; dsimp only; rw [hr25]; exact hw1 c r hc' hr')
        by_cases q : c = p / 5 ∧ r = p % 5
        · rw [if_pos q, q.1, q.2, hFv, decide_eq_true (Int32.not_lt.mp kl), decide_eq_true (show 5 * (p / 5) + p % 5 < p + 1 by omega)]
          exact (Bool.or_true _).symm
        · rw [if_neg q, hsame c r hr' q]
