-- ===== the class: words come, go and are copied =====
theorem zmn_nz : ∀ (k u n : Nat), n < zmn k u → 0 < u / 32 ^ n := by
  intro k
  induction k with
  | zero => intro u n h; rw [zmn] at h; omega
  | succ k ih =>
    intro u n h
    rw [zmn] at h
    by_cases hu : u = 0
    · rw [if_pos hu] at h; omega
    · rw [if_neg hu] at h
      cases n with
      | zero => rw [Nat.pow_zero, Nat.div_one]; omega
      | succ n =>
        have := ih (u / 32) n (by omega)
        rw [Nat.div_div_eq_div_mul, ← Nat.pow_add_one'] at this
        exact this
theorem zmn_z : ∀ (k u : Nat), u < 32 ^ k → u / 32 ^ zmn k u = 0 := by
  intro k
  induction k with
  | zero => intro u h; rw [Nat.pow_zero] at h; rw [show u = 0 by omega]; exact Nat.zero_div _
  | succ k ih =>
    intro u h
    rw [zmn]
    by_cases hu : u = 0
    · rw [hu]; exact Nat.zero_div _
    · rw [if_neg hu, Nat.pow_add_one', ← Nat.div_div_eq_div_mul]
      exact ih (u / 32) (by rw [Nat.pow_succ] at h; omega)
theorem cp_lettersIn {x : Int32} (hx : zVL x) (M : zM) : zd_X7_lettersIn [zI x] M = zs (nI (mny x)) M := by
  have hm := VL_m hx
  rw [en_X7_lettersIn, bk_X7_lettersIn_0]
  have h : ∀ (j n : Nat), n + j = mny x → zev zC_X7_lettersIn 2 ([some (zI x), some (zI (nI n))], [], M) = zs (nI (mny x)) M := by
    intro j
    induction j with
    | zero =>
      intro n e
      rw [bk_X7_lettersIn_2]
      by_cases c : 6 ≤ n
      · rw [show (6 : Int32) = nI 6 from rfl, if_pos (nI_le c (by omega)), bk_X7_lettersIn_22, show n = mny x by omega]
      · rw [show (6 : Int32) = nI 6 from rfl, if_neg (nI_ge (by omega) (by omega)), bk_X7_lettersIn_8, show (5 : Int32) = nI 5 from rfl, pk_mul, if_pos (ui_0.mpr (by
          rw [ui_zus x _ (by omega), ← p32, show n = mny x by omega]
          exact zmn_z 7 (ui x) (Nat.lt_of_lt_of_le (VL_ui hx) (by decide)))), bk_X7_lettersIn_22, show n = mny x by omega]
    | succ j ih =>
      intro n e
      rw [bk_X7_lettersIn_2, show (6 : Int32) = nI 6 from rfl, if_neg (nI_ge (by omega) (by omega)), bk_X7_lettersIn_8, show (5 : Int32) = nI 5 from rfl, pk_mul, if_neg (fun z => by
        have := ui_0.mp z
        rw [ui_zus x _ (by omega), ← p32] at this
        have h2 := zmn_nz 7 (ui x) n (show n < mny x by omega)
        omega), bk_X7_lettersIn_16, nI_1]
      exact ih (n + 1) (by omega)
  exact h (mny x) 0 (by omega)
def zal : Nat → Nat → Bool
  | 0, u => decide (u = 0)
  | k + 1, u => if u % 32 = 0 then decide (u = 0) else if u % 32 ≤ 16 then zal k (u / 32) else false
theorem zal_ok : ∀ (k u : Nat), zal k u = true ↔ (zlok k u = true ∧ u < 32 ^ k) := by
  intro k
  induction k with
  | zero => intro u; rw [zal, zlok, decide_eq_true_iff, Nat.pow_zero]; exact ⟨fun h => ⟨rfl, by omega⟩, fun h => by omega⟩
  | succ k ih =>
    intro u
    have hp : (u < 32 ^ (k + 1)) ↔ (u / 32 < 32 ^ k) := by rw [Nat.pow_succ]; omega
    rw [zal, zlok, hp]
    by_cases c : u % 32 = 0
    · rw [if_pos c, decide_eq_true_iff]
      by_cases hu : u = 0
      · rw [if_pos hu, hu]
        exact ⟨fun _ => ⟨rfl, by rw [Nat.zero_div]; exact Nat.pow_pos (by decide)⟩, fun _ => rfl⟩
      · rw [if_neg hu, decide_eq_false (show ¬ 1 ≤ u % 32 by omega)]
        exact ⟨fun h => absurd h hu, fun h => by cases h.1⟩
    · rw [if_neg c, if_neg (show ¬ u = 0 by omega), decide_eq_true (show 1 ≤ u % 32 by omega), Bool.true_and]
      by_cases d : u % 32 ≤ 16
      · rw [if_pos d, decide_eq_true d, Bool.true_and]; exact ih (u / 32)
      · rw [if_neg d, decide_eq_false d, Bool.false_and]
        exact ⟨fun h => (by cases h), fun h => (by cases h.1)⟩
theorem VL_iff (x : Int32) : zVL x ↔ (x ≠ 0 ∧ zal 6 (ui x) = true) := by
  rw [zal_ok]
  constructor
  · intro h
    exact ⟨fun z => by rw [z] at h; exact absurd h.1 (by decide), h.2.2, VL_ui h⟩
  · rintro ⟨h1, h2, h3⟩
    have hu : 0 < ui x := Nat.pos_of_ne_zero (fun z => h1 (ui_0.mpr z))
    have e : x = nI (ui x) := (nI_ui x).symm
    refine ⟨?_, ?_, h2⟩
    · rw [e, show (0 : Int32) = nI 0 from rfl]; exact nI_lt hu (by omega)
    · rw [e, show (1073741824 : Int32) = nI 1073741824 from rfl]; exact nI_lt (by omega) (by decide)
theorem cp_areLetters (x : Int32) (M : zM) : ∃ v, zd_X7_areLetters [zI x] M = zs v M ∧ (v = 0 ↔ ¬ zVL x) := by
  have tail : ∀ (u : Nat) (b : Bool) (d2 : Option zV), u < 2 ^ 32 → b = decide (u = 0) → zev zC_X7_areLetters 38 ([some (zI x), some (zI (nI u)), d2], [], M) = zs (zbI (!decide (x = 0) && b)) M := by
    intro u b d2 hu hb
    rw [bk_X7_areLetters_38]
    by_cases c : x = 0
    · rw [if_pos c, bk_X7_areLetters_50, bk_X7_areLetters_51, if_pos (Or.inl rfl), decide_eq_true c]; rfl
    · rw [if_neg c, bk_X7_areLetters_42, decide_eq_false c, hb]
      by_cases d : u = 0
      · rw [if_pos (by rw [d]; rfl), bk_X7_areLetters_46, bk_X7_areLetters_51, if_pos (Or.inr rfl), decide_eq_true d]; rfl
      · rw [if_neg (fun z => d (by have := ui_0.mp z; rw [ui_nI hu] at this; exact this)), bk_X7_areLetters_50, bk_X7_areLetters_51, if_pos (Or.inl rfl), decide_eq_false d]; rfl
  have h : ∀ (j i u : Nat), i + j = 6 → u < 2 ^ 32 → (0 < i → x ≠ 0) → zev zC_X7_areLetters 4 ([some (zI x), some (zI (nI u)), some (zI (nI i))], [], M) = zs (zbI (!decide (x = 0) && zal j u)) M ∨ (x = 0 ∧ u ≠ 0) := by
    intro j
    induction j with
    | zero =>
      intro i u e hu _
      left
      rw [bk_X7_areLetters_4, show (6 : Int32) = nI 6 from rfl, if_pos (nI_le (by omega) (by omega))]
      exact tail u _ _ hu rfl
    | succ j ih =>
      intro i u e hu hx0
      by_cases q : x = 0 ∧ u ≠ 0
      · exact Or.inr q
      left
      rw [bk_X7_areLetters_4, show (6 : Int32) = nI 6 from rfl, if_neg (nI_ge (by omega) (by omega)), bk_X7_areLetters_10, zI31, ui_nI hu, zal]
      by_cases c : u % 32 = 0
      · rw [if_pos (by rw [c]; rfl), if_pos c]
        exact tail u _ _ hu rfl
      · have hx1 : x ≠ 0 := fun z => q ⟨z, fun z2 => c (by rw [z2])⟩
        rw [if_neg (nI_ne0 (Nat.pos_of_ne_zero c) (by omega)), if_neg c, bk_X7_areLetters_17, show (16 : Int32) = nI 16 from rfl]
        by_cases d : u % 32 ≤ 16
        · rw [zI31, ui_nI hu, if_pos (nI_le d (by decide)), if_pos d, bk_X7_areLetters_28, zus_nI hu, nI_1]
          rcases ih (i + 1) (u / 32) (by omega) (by omega) (fun _ => hx1) with r | r
          · exact r
          · exact absurd r.1 hx1
        · rw [zI31, ui_nI hu, if_neg (nI_ge (by omega) (by omega)), if_neg d, bk_X7_areLetters_26, Bool.and_false]
          rfl
  have h0 := h 6 0 (ui x) rfl (ui_lt x) (fun z => by omega)
  rw [nI_ui] at h0
  rw [en_X7_areLetters, bk_X7_areLetters_0]
  rcases h0 with r | r
  · refine ⟨_, r, ?_⟩
    rw [VL_iff]
    by_cases c : x = 0
    · rw [decide_eq_true c]
      exact ⟨fun _ z => z.1 c, fun _ => rfl⟩
    · rw [decide_eq_false c]
      cases hz : zal 6 (ui x)
      · exact ⟨fun _ z => (by cases z.2), fun _ => rfl⟩
      · exact ⟨fun z => absurd z (by decide), fun z => absurd ⟨c, rfl⟩ z⟩
  · exact absurd (by rw [r.1]; rfl) r.2
theorem zw_ne (M : zM) (c n : Nat) (f : Nat → Int32) (c' n' : Nat) (h : ¬ (c' = c ∧ n' = n)) : (zst M.1 c n f) c' n' = M.1 c' n' := zst_ne M.1 f h
/-- only words k differ -/
def zFW (M M' : zM) (k : Nat) : Prop := M'.2.2 = M.2.2 ∧ (∀ c m, ¬ ((c = 6 ∨ c = 20 ∨ c = 21 ∨ c = 22) ∧ m = k) → M'.1 c m = M.1 c m) ∧ ∀ c m, ¬ ((c = 23 ∨ c = 24) ∧ m = k) → M'.2.1 c m = M.2.1 c m
theorem zFW.rf (M : zM) (k : Nat) : zFW M M k := ⟨rfl, fun _ _ _ => rfl, fun _ _ _ => rfl⟩
theorem zFW.tr {M M' M'' : zM} {k : Nat} (h : zFW M M' k) (h' : zFW M' M'' k) : zFW M M'' k := ⟨h'.1.trans h.1, fun c m a => (h'.2.1 c m a).trans (h.2.1 c m a), fun c m a => (h'.2.2 c m a).trans (h.2.2 c m a)⟩
theorem zFW.i (M : zM) (c k : Nat) (f : Nat → Int32) (h : c = 6 ∨ c = 20 ∨ c = 21 ∨ c = 22) : zFW M (zst M.1 c k f, M.2) k := ⟨rfl, fun c' m a => zst_ne M.1 f (fun z => a ⟨by rw [z.1]; exact h, z.2⟩), fun _ _ _ => rfl⟩
theorem zFW.j (M : zM) (c k : Nat) (f : Nat → Int64) (h : c = 23 ∨ c = 24) : zFW M (M.1, zst M.2.1 c k f, M.2.2) k := ⟨rfl, fun _ _ _ => rfl, fun c' m a => zst_ne M.2.1 f (fun z => a ⟨by rw [z.1]; exact h, z.2⟩)⟩
theorem zDw.fw {M M' : zM} {k p : Nat} {L R : Int64} (h : zDw M M' k p L R) : zFW M M' k := ⟨h.2.1, fun c m _ => congrFun (congrFun h.1 c) m, fun c m a => h.2.2.1 c m (fun z => a ⟨Or.inl z.1, z.2⟩) (fun z => a ⟨Or.inr z.1, z.2⟩)⟩
theorem cp_add_loop {x : Int32} (hx : zVL x) {k N : Nat} (hN : N < 10) (M0 : zM) (h0 : M0.1 6 k 0 = nI N) (hT : zLtt M0) : ∀ (j s : Nat) (M : zM), s + j = 22 → M.1 = M0.1 → zFW M0 M k → (∀ i, i < s → zPr (M.2.1 23 k (22 * N + i)) (M.2.1 24 k (22 * N + i)) (zfP x i)) → (∀ i, i < 22 * N → M.2.1 23 k i = M0.2.1 23 k i ∧ M.2.1 24 k i = M0.2.1 24 k i) →
    ∃ M', zev zC_X6_add 51 ([some (zR 6 k), some (zI x), some (zI (nI (mny x))), some (zI (nI s))], [], M) = some (none, (zst M0.1 6 k (upd (M0.1 6 k) 0 (nI (N + 1))), M'.2)) ∧ M'.1 = M0.1 ∧ zFW M0 M' k ∧ (∀ i, i < 22 → zPr (M'.2.1 23 k (22 * N + i)) (M'.2.1 24 k (22 * N + i)) (zfP x i)) ∧ (∀ i, i < 22 * N → M'.2.1 23 k i = M0.2.1 23 k i ∧ M'.2.1 24 k i = M0.2.1 24 k i) := by
  intro j
  induction j with
  | zero =>
    intro s M e h1 hf hp ho
    have es : s = 22 := by omega
    subst es
    refine ⟨M, ?_, h1, hf, hp, ho⟩
    rw [bk_X6_add_51, if_pos (by decide), bk_X6_add_78, h1, h0, nI_1, bk_X6_add_88]
  | succ j ih =>
    intro s M e h1 hf hp ho
    obtain ⟨M2, L, R, e2, d2, p2⟩ := cp_draw hx (k := k) (show 22 * N + s < 220 by omega) (show s < 22 by omega) M (fun i hi => by rw [h1]; exact hT i hi)
    rw [bk_X6_add_51, show (22 : Int32) = nI 22 from rfl, if_neg (nI_ge (by omega) (by omega)), bk_X6_add_57, h1, h0, zbi (cp_placeOf N s M), bk_X6_add_66, zbv e2, bk_X6_add_72, nI_1]
    refine ih (s + 1) M2 (by omega) (d2.1.trans h1) (hf.tr d2.fw) (fun i hi => ?_) (fun i hi => ?_)
    · by_cases q : i = s
      · rw [q, d2.2.2.2.1, d2.2.2.2.2.1]; exact p2
      · have := d2.2.2.2.2.2 (22 * N + i) (by omega)
        rw [this.1, this.2]; exact hp i (by omega)
    · have := d2.2.2.2.2.2 i (by omega)
      rw [this.1, this.2]; exact ho i hi
theorem cp_add {x : Int32} (hx : zVL x) {k N : Nat} {σ : Nat → Int32} (hN : N < 10) (M : zM) (hG : zGW M k σ N) (hT : zLtt M) : ∃ M', zd_X6_add [zR 6 k, zI x] M = some (none, M') ∧ zGW M' k (zwd σ x N) (N + 1) ∧ zFW M M' k := by
  have hm := VL_m hx
  have s1 : ∃ Ma, zd_X6_add [zR 6 k, zI x] M = zev zC_X6_add 25 ([some (zR 6 k), some (zI x), some (zI (nI (mny x))), none], [], Ma) ∧ zFW M Ma k ∧ Ma.1 6 k = M.1 6 k ∧ Ma.1 20 k = upd (M.1 20 k) N x ∧ Ma.1 21 k = M.1 21 k ∧ Ma.1 22 k = M.1 22 k ∧ Ma.2 = M.2 := by
    refine ⟨(zst M.1 20 k (upd (M.1 20 k) N x), M.2), ?_, zFW.i M 20 k (upd (M.1 20 k) N x) (by omega), zw_ne M 20 k (upd (M.1 20 k) N x) 6 k (by omega), zst_self M.1 20 k _, zw_ne M 20 k (upd (M.1 20 k) N x) 21 k (by omega), zw_ne M 20 k (upd (M.1 20 k) N x) 22 k (by omega), rfl⟩
    rw [en_X6_add, bk_X6_add_0, hG.1, show (10 : Int32) = nI 10 from rfl, if_pos (nI_lt hN (by omega)), bk_X6_add_10, zbi (cp_lettersIn hx M), bk_X6_add_14, hG.1, if_neg (ix_in hN (by decide)), ix_cl (by omega)]
  obtain ⟨Ma, a1, af, a6, a20, a21, a22, a2⟩ := s1
  have s2 : ∃ Mb, zev zC_X6_add 25 ([some (zR 6 k), some (zI x), some (zI (nI (mny x))), none], [], Ma) = zev zC_X6_add 39 ([some (zR 6 k), some (zI x), some (zI (nI (mny x))), none], [], Mb) ∧ zFW Ma Mb k ∧ Mb.1 6 k = Ma.1 6 k ∧ Mb.1 20 k = Ma.1 20 k ∧ Mb.1 21 k = upd (Ma.1 21 k) N (nI (4 * mny x - 1)) ∧ Mb.1 22 k = Ma.1 22 k ∧ Mb.2 = Ma.2 := by
    refine ⟨(zst Ma.1 21 k (upd (Ma.1 21 k) N (nI (4 * mny x - 1))), Ma.2), ?_, zFW.i Ma 21 k (upd (Ma.1 21 k) N (nI (4 * mny x - 1))) (by omega), zw_ne Ma 21 k (upd (Ma.1 21 k) N (nI (4 * mny x - 1))) 6 k (by omega), zw_ne Ma 21 k (upd (Ma.1 21 k) N (nI (4 * mny x - 1))) 20 k (by omega), zst_self Ma.1 21 k _, zw_ne Ma 21 k (upd (Ma.1 21 k) N (nI (4 * mny x - 1))) 22 k (by omega), rfl⟩
    rw [bk_X6_add_25, a6, hG.1, if_neg (ix_in hN (by decide)), ix_cl (by omega), show (4 : Int32) = nI 4 from rfl, pk_mul, show (1 : Int32) = nI 1 from rfl, pk_sub (by omega), Nat.mul_comm (mny x) 4]
  obtain ⟨Mb, b1, bf, b6, b20, b21, b22, b2⟩ := s2
  have s3 : ∃ Mc, zev zC_X6_add 39 ([some (zR 6 k), some (zI x), some (zI (nI (mny x))), none], [], Mb) = zev zC_X6_add 51 ([some (zR 6 k), some (zI x), some (zI (nI (mny x))), some (zI (nI 0))], [], Mc) ∧ zFW Mb Mc k ∧ Mc.1 6 k = Mb.1 6 k ∧ Mc.1 20 k = Mb.1 20 k ∧ Mc.1 21 k = Mb.1 21 k ∧ Mc.1 22 k = upd (Mb.1 22 k) N 0 ∧ Mc.2 = Mb.2 := by
    refine ⟨(zst Mb.1 22 k (upd (Mb.1 22 k) N 0), Mb.2), ?_, zFW.i Mb 22 k (upd (Mb.1 22 k) N 0) (by omega), zw_ne Mb 22 k (upd (Mb.1 22 k) N 0) 6 k (by omega), zw_ne Mb 22 k (upd (Mb.1 22 k) N 0) 20 k (by omega), zw_ne Mb 22 k (upd (Mb.1 22 k) N 0) 21 k (by omega), zst_self Mb.1 22 k _, rfl⟩
    rw [bk_X6_add_39, b6, a6, hG.1, if_neg (ix_in hN (by decide)), ix_cl (by omega), bk_X6_add_49]
    rfl
  obtain ⟨Mc, c1, cf, c6, c20, c21, c22, c2⟩ := s3
  have hf := (af.tr bf).tr cf
  have head : ∃ M1, zd_X6_add [zR 6 k, zI x] M = zev zC_X6_add 51 ([some (zR 6 k), some (zI x), some (zI (nI (mny x))), some (zI (nI 0))], [], M1) ∧ M1.1 6 k 0 = nI N ∧ M1.1 20 k = upd (M.1 20 k) N x ∧ M1.1 21 k = upd (M.1 21 k) N (nI (4 * mny x - 1)) ∧ M1.1 22 k = upd (M.1 22 k) N 0 ∧ M1.2 = M.2 ∧ zFW M M1 k ∧ zLtt M1 :=
    ⟨Mc, (a1.trans b1).trans c1, by rw [c6, b6, a6, hG.1], by rw [c20, b20, a20], by rw [c21, b21, a21], by rw [c22, b22, a22], (c2.trans b2).trans a2, hf, fun i hi => (congrFun (hf.2.1 40 0 (by omega)) i).trans (hT i hi)⟩
  obtain ⟨M1, e1, h6, h20, h21, h22, h2, hf, hT1⟩ := head
  obtain ⟨M', e2, i2, f2, p2, o2⟩ := cp_add_loop hx hN M1 h6 hT1 22 0 M1 rfl rfl (zFW.rf M1 k) (fun i hi => by omega) (fun i _ => ⟨rfl, rfl⟩)
  refine ⟨_, e1.trans e2, ⟨?_, fun w hw => ?_⟩, ?_⟩
  · dsimp only; rw [zst_self, upd_s]
  · dsimp only
    rw [zst_ne (c := 6) (n := k) (c' := 20) (n' := k) _ _ (by omega), zst_ne (c := 6) (n := k) (c' := 21) (n' := k) _ _ (by omega), zst_ne (c := 6) (n := k) (c' := 22) (n' := k) _ _ (by omega), h20, h21, h22]
    unfold zwd
    by_cases q : w = N
    · rw [q, upd_s, upd_s, upd_s, upd_n (show 8 + 2 * N ≠ 0 by omega), upd_n (show 8 + 2 * N ≠ 9 + 2 * N by omega), upd_s, upd_n (show 9 + 2 * N ≠ 0 by omega), upd_s]
      exact ⟨rfl, rfl, rfl, p2⟩
    · have hw' : w < N := by omega
      rw [upd_n q, upd_n q, upd_n q, upd_n (show 8 + 2 * w ≠ 0 by omega), upd_n (show 8 + 2 * w ≠ 9 + 2 * N by omega), upd_n (show 8 + 2 * w ≠ 8 + 2 * N by omega), upd_n (show 9 + 2 * w ≠ 0 by omega), upd_n (show 9 + 2 * w ≠ 9 + 2 * N by omega), upd_n (show 9 + 2 * w ≠ 8 + 2 * N by omega)]
      have g := hG.2 w hw'
      refine ⟨g.1, g.2.1, g.2.2.1, fun s hs => ?_⟩
      have o := o2 (22 * w + s) (by omega)
      rw [o.1, o.2, h2]
      exact g.2.2.2 s hs
  · refine hf.tr ?_
    exact ⟨f2.1, fun c m a => zst_ne M1.1 (upd (M1.1 6 k) 0 (nI (N + 1))) (fun z => a ⟨Or.inl z.1, z.2⟩), f2.2.2⟩
