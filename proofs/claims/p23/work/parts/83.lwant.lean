-- ===== the law: a picture is wanted =====
theorem st_i (M : zM) (c : Nat) (f : Nat → Int32) : ∃ M' : zM, (zst M.1 c 0 f, M.2) = M' ∧ M'.2 = M.2 ∧ M'.1 c 0 = f ∧ ∀ q m, ¬ (q = c ∧ m = 0) → M'.1 q m = M.1 q m := ⟨_, rfl, rfl, zst_self M.1 c 0 f, fun _ _ h => zst_ne M.1 f h⟩
/-- the wear when the discs a, a + 1 .. of F are flipped, c of them -/
def zwU (U0 : Nat → Nat) (a : Nat) (F : Nat → Bool) (c : Nat) : Nat → Nat := fun i => if a ≤ i ∧ i < a + c then U0 i + (F (i - a)).toNat else U0 i
theorem zwU_o {U0 : Nat → Nat} {a c i : Nat} {F : Nat → Bool} (h : ¬ (a ≤ i ∧ i < a + c)) : zwU U0 a F c i = U0 i := if_neg h
theorem zwU_i {U0 : Nat → Nat} {a c k : Nat} {F : Nat → Bool} (h : k < c) : zwU U0 a F c (a + k) = U0 (a + k) + (F k).toNat := by
  unfold zwU
  rw [if_pos (by omega), show a + k - a = k by omega]
theorem zwU_f {U0 : Nat → Nat} {a c : Nat} {F : Nat → Bool} (h : F c = false) : zwU U0 a F (c + 1) = zwU U0 a F c := by
  funext i
  by_cases z : i = a + c
  · subst z
    rw [zwU_i (Nat.lt_succ_self c), zwU_o (by omega), h]
    rfl
  · by_cases z2 : a ≤ i ∧ i < a + c
    · unfold zwU
      rw [if_pos z2, if_pos ⟨z2.1, by omega⟩]
    · rw [zwU_o z2, zwU_o (fun z3 => z2 ⟨z3.1, by omega⟩)]
theorem zwU_s {U0 : Nat → Nat} {a c : Nat} {F : Nat → Bool} (h : F c = true) : zup (zwU U0 a F c) (a + c) (U0 (a + c) + 1) = zwU U0 a F (c + 1) := by
  funext i
  by_cases z : i = a + c
  · subst z
    rw [zup_s, zwU_i (Nat.lt_succ_self c), h]
    rfl
  · rw [zup_n z]
    by_cases z2 : a ≤ i ∧ i < a + c
    · unfold zwU
      rw [if_pos z2, if_pos ⟨z2.1, by omega⟩]
    · rw [zwU_o z2, zwU_o (fun z3 => z2 ⟨z3.1, by omega⟩)]
theorem zwU_0 (U0 : Nat → Nat) (a : Nat) (F : Nat → Bool) : zwU U0 a F 0 = U0 := by
  funext i
  exact zwU_o (by omega)
def zwV (U0 : Nat → Nat) (d : Nat) (F : Nat → Nat → Bool) (r : Nat) : Nat → Nat := fun i => if 120 * d ≤ i ∧ i < 120 * d + zcol d * r then U0 i + (F ((i - 120 * d) / zcol d) ((i - 120 * d) % zcol d)).toNat else U0 i
theorem zwV_o {U0 : Nat → Nat} {d r i : Nat} {F : Nat → Nat → Bool} (h : ¬ (120 * d ≤ i ∧ i < 120 * d + zcol d * r)) : zwV U0 d F r i = U0 i := if_neg h
theorem zwV_i {U0 : Nat → Nat} {d r q k : Nat} {F : Nat → Nat → Bool} (h : q < r) (hk : k < zcol d) : zwV U0 d F r ((120 * d + zcol d * q) + k) = U0 ((120 * d + zcol d * q) + k) + (F q k).toNat := by
  have h1 : zcol d * (q + 1) ≤ zcol d * r := Nat.mul_le_mul_left _ h
  rw [Nat.mul_succ] at h1
  unfold zwV
  rw [if_pos (by omega), show (120 * d + zcol d * q) + k - 120 * d = k + zcol d * q by omega, Nat.add_mul_div_left _ _ (by omega), Nat.div_eq_of_lt hk, Nat.zero_add, Nat.add_mul_mod_self_left, Nat.mod_eq_of_lt hk]
theorem zwV_s (U0 : Nat → Nat) (d r : Nat) (F : Nat → Nat → Bool) : zwU (zwV U0 d F r) (120 * d + zcol d * r) (F r) (zcol d) = zwV U0 d F (r + 1) := by
  funext i
  have em : zcol d * (r + 1) = zcol d * r + zcol d := Nat.mul_succ _ _
  by_cases z1 : (120 * d + zcol d * r) ≤ i ∧ i < (120 * d + zcol d * r) + zcol d
  · obtain ⟨k, rfl⟩ : ∃ k, i = (120 * d + zcol d * r) + k := ⟨i - (120 * d + zcol d * r), by omega⟩
    have hk : k < zcol d := by omega
    rw [zwU_i hk, zwV_o (by omega), zwV_i (Nat.lt_succ_self r) hk]
  · rw [zwU_o z1]
    by_cases z2 : 120 * d ≤ i ∧ i < 120 * d + zcol d * r
    · unfold zwV
      rw [if_pos z2, if_pos (by omega)]
    · rw [zwV_o z2, zwV_o (by omega)]
theorem zwV_0 (U0 : Nat → Nat) (d : Nat) (F : Nat → Nat → Bool) : zwV U0 d F 0 = U0 := by
  funext i
  exact zwV_o (by omega)
/-- inside a row: the columns ahead of c are done -/
def zwI (M0 : zM) (U0 : Nat → Nat) (a p : Nat) (F S : Nat → Bool) (c : Nat) (M : zM) : Prop :=
  M.2.2 = M0.2.2 ∧ (∀ q m, ¬ (q = 29 ∧ m = 0) → ¬ (q = 33 ∧ m = 0) → M.1 q m = M0.1 q m) ∧ (∀ q m, ¬ (q = 35 ∧ m = 0) → M.2.1 q m = M0.2.1 q m) ∧
  (∀ i, i ≠ 1 → M.1 29 0 i = M0.1 29 0 i) ∧ M.1 29 0 1 = M0.1 29 0 1 + nI (zsm (fun i => (S i).toNat) c) ∧
  (∀ i, i ≠ p → M.1 33 0 i = M0.1 33 0 i) ∧ (∀ i, (ui (M.1 33 0 p)).testBit i = ((ui (M0.1 33 0 p)).testBit i || (decide (i < c) && S i))) ∧
  zXx M (zwU U0 a F c)
theorem zat_c (d r c : Nat) : zat d r c - 28 = (120 * d + zcol d * r) + c := by unfold zat; omega
theorem or_b (y : Int32) (b : Bool) (k : Nat) (hk : k < 31) (i : Nat) : (ui (y ||| (nI b.toNat <<< (nI k &&& (31 : Int32))))).testBit i = ((ui y).testBit i || (b && decide (i = k))) := by
  cases b with
  | true => rw [Bool.true_and]; exact or_1 y k hk i
  | false =>
    rw [Bool.false_and, Bool.or_false, ui_or, Nat.testBit_or, ui_shl _ _ (by omega), show ui (nI false.toNat) = 0 from rfl, Nat.zero_testBit, Bool.and_false, Bool.and_false, Bool.or_false]
theorem lw_want_in {M0 : zM} {U0 : Nat → Nat} {d r : Nat} {x s fl life : Int32} {F S : Nat → Bool} (hd : d < 2) (hr : r < 5) (h7 : M0.1 29 0 7 = life) (hF : ∀ c, c < zcol d → (ui fl).testBit c = F c) (hfl : ui fl < 2 ^ 31)
    (hS : ∀ c, c < zcol d → S c = (F c && decide (life ≤ nI (U0 ((120 * d + zcol d * r) + c) + 1)))) (hU : ∀ c, c < zcol d → U0 ((120 * d + zcol d * r) + c) < 63) : ∀ (j c : Nat) (d12 : Option zV) (M : zM), c + j = zcol d → zwI M0 U0 (120 * d + zcol d * r) (5 * d + r) F S c M →
    ∃ M', zev zC_L_want 84 ([some (zR 29 0), some (zR 32 0), some (zR 33 0), some (zR 34 0), some (zR 35 0), some (zI (nI d)), some (zI x), some (zI s), some (zI (nI r)), some (zI (nI (5 * d + r))), some (zI fl), some (zI (nI c)), d12], [], M) =
      zev zC_L_want 168 ([some (zR 29 0), some (zR 32 0), some (zR 33 0), some (zR 34 0), some (zR 35 0), some (zI (nI d)), some (zI x), some (zI s), some (zI (nI r)), some (zI (nI (5 * d + r))), some (zI fl), some (zI (nI (zcol d))), none], [], M') ∧ zwI M0 U0 (120 * d + zcol d * r) (5 * d + r) F S (zcol d) M' := by
  have hcl := zcol_le d
  intro j
  induction j with
  | zero =>
    intro c d12 M e h
    have ec : c = zcol d := by omega
    subst ec
    exact ⟨M, by rw [bk_L_want_84, zbi (lw_columns d hd M), bk_L_want_91, if_pos (nI_le (Nat.le_refl _) (by omega))], h⟩
  | succ j ih =>
    intro c d12 M e h
    have hc : c < zcol d := by omega
    obtain ⟨h1, h2, h3, h4, h5, h6, h7', h8⟩ := h
    have hb := sh_bit fl c hfl (by omega)
    have hFc := hF c hc
    have hSc := hS c hc
    rw [bk_L_want_84, zbi (lw_columns d hd M), bk_L_want_91, if_neg (nI_ge hc (by omega)), bk_L_want_94]
    by_cases q : ((fl >>> (nI c &&& (31 : Int32))) &&& 1) = 1
    · rw [decide_eq_true q, hFc] at hb
      have hval : zwU U0 (120 * d + zcol d * r) F c (zat d r c - 28) = U0 ((120 * d + zcol d * r) + c) := by
        rw [zat_c]
        exact zwU_o (by omega)
      obtain ⟨M1, e1, x1, f1⟩ := lw_wears_1 h8 hd hr hc (by rw [hval]; exact hU c hc)
      have hv1 : zwU U0 (120 * d + zcol d * r) F (c + 1) (zat d r c - 28) = U0 ((120 * d + zcol d * r) + c) + 1 := by
        rw [zat_c, zwU_i (Nat.lt_succ_self c), ← hb]
        rfl
      rw [hval, zat_c, zwU_s hb.symm] at x1
      have e29 : M1.1 29 0 7 = life := by rw [f1.1, h4 7 (by decide)]; exact h7
      have e2 := lw_wear x1 hd hr hc
      rw [hv1] at e2
      rw [if_pos q, bk_L_want_105, zbv e1, bk_L_want_117, zbi e2, bk_L_want_128, e29]
      rw [← hb, Bool.true_and] at hSc
      have e3 : ∀ (L : List (Option zV)), L = [some (zR 29 0), some (zR 32 0), some (zR 33 0), some (zR 34 0), some (zR 35 0), some (zI (nI d)), some (zI x), some (zI s), some (zI (nI r)), some (zI (nI (5 * d + r))), some (zI fl), some (zI (nI c)), none] → (if nI (U0 ((120 * d + zcol d * r) + c) + 1) < life then zev zC_L_want 139 (L, [], M1) else zev zC_L_want 135 (L, [], M1)) = zev zC_L_want 140 (L, [zI (nI (S c).toNat)], M1) := by
        intro L hL
        subst hL
        by_cases z : nI (U0 ((120 * d + zcol d * r) + c) + 1) < life
        · rw [if_pos z, bk_L_want_139, hSc, decide_eq_false (Int32.not_le.mpr z)]; rfl
        · rw [if_neg z, bk_L_want_135, hSc, decide_eq_true (Int32.not_lt.mp z)]; rfl
      rw [e3 _ rfl, bk_L_want_140, if_neg (ix_in (show 5 * d + r < 10 by omega) (by decide)), ix_cl (by omega), bk_L_want_147, if_neg (ix_in (show 5 * d + r < 10 by omega) (by decide)), ix_cl (by omega)]
      obtain ⟨M2, m2, a2, b2, c2⟩ := st_i M1 33 (upd (M1.1 33 0) (5 * d + r) (M1.1 33 0 (5 * d + r) ||| (nI (S c).toNat <<< (nI c &&& (31 : Int32)))))
      rw [m2, bk_L_want_154]
      obtain ⟨M3, m3, a3, b3, c3⟩ := st_i M2 29 (upd (M2.1 29 0) 1 (M2.1 29 0 1 + nI (S c).toNat))
      rw [m3, bk_L_want_162, nI_1]
      have k29 : M2.1 29 0 = M.1 29 0 := by rw [c2 29 0 (by decide), f1.1]
      refine ih (c + 1) _ M3 (by omega) ⟨?_, fun q' m z1 z2 => ?_, fun q' m z => ?_, fun i hi => ?_, ?_, fun i hi => ?_, fun i => ?_, ?_⟩
      · rw [a3, a2, f1.2.1]; exact h1
      · rw [c3 q' m z1, c2 q' m z2, f1.1]; exact h2 q' m z1 z2
      · rw [a3, a2, f1.2.2 q' m z]; exact h3 q' m z
      · rw [b3, upd_n hi, k29]; exact h4 i hi
      · rw [b3, upd_s, k29, h5, zsm, Int32.add_assoc, nI_add]
      · rw [c3 33 0 (by decide), b2, upd_n hi, f1.1]; exact h6 i hi
      · rw [c3 33 0 (by decide), b2, upd_s, f1.1, or_b _ _ _ (by omega), h7' i, Bool.or_assoc]
        refine congrArg (fun z => (ui (M0.1 33 0 (5 * d + r))).testBit i || z) ?_
        by_cases z : i = c
        · subst z
          rw [decide_eq_false (Nat.lt_irrefl i), decide_eq_true rfl, decide_eq_true (Nat.lt_succ_self i), Bool.and_true, Bool.true_and, Bool.false_and, Bool.false_or]
        · rw [decide_eq_false z, Bool.and_false, Bool.or_false]
          refine congrArg (fun z => z && S i) (decide_eq_decide.mpr ⟨fun z2 => by omega, fun z2 => by omega⟩)
      · refine ⟨x1.1, fun j' hj' => ?_⟩
        rw [a3, a2]
        exact x1.2 j' hj'
    · rw [decide_eq_false q, hFc] at hb
      rw [← hb, Bool.false_and] at hSc
      rw [if_neg q, bk_L_want_162, nI_1]
      refine ih (c + 1) _ M (by omega) ⟨h1, h2, h3, h4, ?_, h6, fun i => ?_, ?_⟩
      · rw [zsm, hSc]; exact h5
      · rw [h7' i]
        refine congrArg (fun z => (ui (M0.1 33 0 (5 * d + r))).testBit i || z) ?_
        by_cases z : i = c
        · subst z; rw [hSc, Bool.and_false, Bool.and_false]
        · refine congrArg (fun z => z && S i) (decide_eq_decide.mpr ⟨fun z2 => by omega, fun z2 => by omega⟩)
      · rw [zwU_f hb.symm]
        exact h8
/-- the rows ahead of r are done -/
def zwO (M0 : zM) (U0 : Nat → Nat) (d : Nat) (FR G : Nat → Int32) (F S : Nat → Nat → Bool) (r : Nat) (M : zM) : Prop :=
  M.2.2 = M0.2.2 ∧ (∀ q m, ¬ ((q = 29 ∨ q = 32 ∨ q = 33 ∨ q = 34) ∧ m = 0) → M.1 q m = M0.1 q m) ∧ (∀ q m, ¬ (q = 35 ∧ m = 0) → M.2.1 q m = M0.2.1 q m) ∧
  (∀ i, i ≠ 1 → i ≠ 4 + d → M.1 29 0 i = M0.1 29 0 i) ∧ M.1 29 0 1 = M0.1 29 0 1 + nI (zsm (fun r => zsm (fun c => (S r c).toNat) (zcol d)) r) ∧ M.1 29 0 (4 + d) = M0.1 29 0 (4 + d) + nI (zsm (fun r => zq (FR r)) r) ∧
  (∀ i, ¬ (5 * d ≤ i ∧ i < 5 * d + r) → M.1 32 0 i = M0.1 32 0 i ∧ M.1 33 0 i = M0.1 33 0 i ∧ M.1 34 0 i = M0.1 34 0 i) ∧
  (∀ q, q < r → M.1 32 0 (5 * d + q) = M0.1 32 0 (5 * d + q) ^^^ FR q ∧ M.1 34 0 (5 * d + q) = G q ∧ ∀ i, (ui (M.1 33 0 (5 * d + q))).testBit i = ((ui (M0.1 33 0 (5 * d + q))).testBit i || (decide (i < zcol d) && S q i))) ∧
  zXx M (zwV U0 d F r)
theorem lw_want_out {M0 : zM} {U0 : Nat → Nat} {d : Nat} {x s life : Int32} {FR G : Nat → Int32} {F S : Nat → Nat → Bool} (hd : d < 2) (h7 : M0.1 29 0 7 = life) (hFR : ∀ r, r < 5 → FR r = (M0.1 32 0 (5 * d + r) ^^^ G r) &&& (M0.1 33 0 (5 * d + r) ^^^ (-1))) (hF : ∀ r c, r < 5 → c < zcol d → (ui (FR r)).testBit c = F r c) (hfl : ∀ r, r < 5 → ui (FR r) < 2 ^ 31)
    (hS : ∀ r c, r < 5 → c < zcol d → S r c = (F r c && decide (life ≤ nI (U0 ((120 * d + zcol d * r) + c) + 1)))) (hU : ∀ r c, r < 5 → c < zcol d → U0 ((120 * d + zcol d * r) + c) < 63)
    (hG : (x = 0 ∧ ∀ r, r < 5 → G r = 0) ∨ (¬ x = 0 ∧ ∀ r, r < 5 → ∀ M, zd_L_picture [zI x, zI (nI r), zI s] M = zs (G r) M)) : ∀ (j r : Nat) (d9 d10 d11 d12 : Option zV) (M : zM), r + j = 5 → zwO M0 U0 d FR G F S r M →
    ∃ M', zev zC_L_want 3 ([some (zR 29 0), some (zR 32 0), some (zR 33 0), some (zR 34 0), some (zR 35 0), some (zI (nI d)), some (zI x), some (zI s), some (zI (nI r)), d9, d10, d11, d12], [], M) = some (none, M') ∧ zwO M0 U0 d FR G F S 5 M' := by
  have hcl := zcol_le d
  have hcg := zcol_ge d
  intro j
  induction j with
  | zero =>
    intro r d9 d10 d11 d12 M e h
    have er : r = 5 := by omega
    subst er
    exact ⟨M, by rw [bk_L_want_3, show (5 : Int32) = nI 5 from rfl, if_pos (nI_le (Nat.le_refl _) (by decide)), bk_L_want_174], h⟩
  | succ j ih =>
    intro r d9 d10 d11 d12 M e h
    have hr : r < 5 := by omega
    obtain ⟨h1, h2, h3, h4, h5, h6, h8, h9, h10⟩ := h
    have ep : (5 * nI d) + nI r = nI (5 * d + r) := by rw [show (5 : Int32) = nI 5 from rfl, pk_mul, nI_add]
    have e39 : zev zC_L_want 9 ([some (zR 29 0), some (zR 32 0), some (zR 33 0), some (zR 34 0), some (zR 35 0), some (zI (nI d)), some (zI x), some (zI s), some (zI (nI r)), none, none, none, none], [], M) = zev zC_L_want 39 ([some (zR 29 0), some (zR 32 0), some (zR 33 0), some (zR 34 0), some (zR 35 0), some (zI (nI d)), some (zI x), some (zI s), some (zI (nI r)), some (zI (nI (5 * d + r))), none, none, none], [zI (G r), zI (nI (5 * d + r)), zR 34 0], M) := by
      rw [bk_L_want_9, ep]
      rcases hG with ⟨hx, hg⟩ | ⟨hx, hg⟩
      · rw [if_pos hx, bk_L_want_26, hg r hr]
      · rw [if_neg hx, bk_L_want_30, zbi (hg r hr M)]
    have i10 := ix_in (show 5 * d + r < 10 by omega) (by decide)
    have c10 : (nI (5 * d + r)).toNatClampNeg = 5 * d + r := ix_cl (by omega)
    have e4d : (4 : Int32) + nI d = nI (4 + d) := nI_add 4 d
    rw [bk_L_want_3, show (5 : Int32) = nI 5 from rfl, if_neg (nI_ge hr (by decide)), e39, bk_L_want_39, if_neg i10, c10]
    obtain ⟨M1, m1, a1, b1, c1⟩ := st_i M 34 (upd (M.1 34 0) (5 * d + r) (G r))
    obtain ⟨o1, o2, o3⟩ := h8 (5 * d + r) (by omega)
    have k32 : M1.1 32 0 = M.1 32 0 := c1 32 0 (by decide)
    have k33 : M1.1 33 0 = M.1 33 0 := c1 33 0 (by decide)
    have ef : (M1.1 32 0 (5 * d + r) ^^^ M1.1 34 0 (5 * d + r)) &&& (M1.1 33 0 (5 * d + r) ^^^ (-1)) = FR r := by
      rw [k32, k33, b1, upd_s, o1, o2, hFR r hr]
    rw [m1, bk_L_want_40, if_neg i10, c10, bk_L_want_44, if_neg i10, c10, bk_L_want_48, if_neg i10, c10, bk_L_want_53, if_neg i10, c10, ef, bk_L_want_63, if_neg i10, c10]
    obtain ⟨M2, m2, a2, b2, c2⟩ := st_i M1 32 (upd (M1.1 32 0) (5 * d + r) (M1.1 32 0 (5 * d + r) ^^^ FR r))
    rw [m2, bk_L_want_67, e4d, if_neg (ix_in (show 4 + d < 8 by omega) (by decide)), ix_cl (by omega), bk_L_want_74, zbi (lw_ones _ _), bk_L_want_79, if_neg (ix_in (show 4 + d < 8 by omega) (by decide)), ix_cl (by omega)]
    obtain ⟨M3, m3, a3, b3, c3⟩ := st_i M2 29 (upd (M2.1 29 0) (4 + d) (M2.1 29 0 (4 + d) + nI (zq (FR r))))
    rw [m3, bk_L_want_81]
    have g29 : M2.1 29 0 = M.1 29 0 := by rw [c2 29 0 (by decide), c1 29 0 (by decide)]
    have g33 : M3.1 33 0 = M.1 33 0 := by rw [c3 33 0 (by decide), c2 33 0 (by decide), k33]
    have hx3 : zXx M3 (zwV U0 d F r) := ⟨h10.1, fun j' hj' => by rw [a3, a2, a1]; exact h10.2 j' hj'⟩
    have hU0 : ∀ c, c < zcol d → zwV U0 d F r ((120 * d + zcol d * r) + c) = U0 ((120 * d + zcol d * r) + c) := fun c hc => zwV_o (by omega)
    obtain ⟨M4, e4, n1, n2, n3, n4, n5, n6, n7, n8⟩ := lw_want_in (M0 := M3) (U0 := zwV U0 d F r) (d := d) (r := r) (x := x) (s := s) (fl := FR r) (life := life) (F := F r) (S := S r) hd hr (by rw [b3, upd_n (by omega), g29, h4 7 (by decide) (by omega)]; exact h7) (fun c hc => hF r c hr hc) (hfl r hr) (fun c hc => by rw [hU0 c hc]; exact hS r c hr hc) (fun c hc => by rw [hU0 c hc]; exact hU r c hr hc) (zcol d) 0 none M3 (by omega)
      ⟨rfl, fun _ _ _ _ => rfl, fun _ _ _ => rfl, fun _ _ => rfl, by rw [zsm]; exact (Int32.add_zero _).symm, fun _ _ => rfl, fun i => by rw [decide_eq_false (Nat.not_lt_zero i), Bool.false_and, Bool.or_false], by
        rw [zwU_0]
        exact hx3⟩
    refine Exists.elim (ih (r + 1) none none none none M4 (by omega) ⟨?_, fun q m z => ?_, fun q m z => ?_, fun i i1 i2 => ?_, ?_, ?_, fun i hi => ?_, fun q hq => ?_, ?_⟩) (fun M' hy => ⟨M', e4.trans (by rw [bk_L_want_168, nI_1]; exact hy.1), hy.2⟩)
    · rw [n1, a3, a2, a1]; exact h1
    · rw [n2 q m (by omega) (by omega), c3 q m (by omega), c2 q m (by omega), c1 q m (by omega)]; exact h2 q m z
    · rw [n3 q m z, a3, a2, a1]; exact h3 q m z
    · rw [n4 i i1, b3, upd_n i2, g29]; exact h4 i i1 i2
    · rw [n5, b3, upd_n (by omega), g29, h5, zsm, Int32.add_assoc, nI_add]
    · rw [n4 (4 + d) (by omega), b3, upd_s, g29, h6, zsm, Int32.add_assoc, nI_add]
    · have hi2 : i ≠ 5 * d + r := by omega
      obtain ⟨p1, p2, p3⟩ := h8 i (by omega)
      refine ⟨?_, ?_, ?_⟩
      · rw [n2 32 0 (by decide) (by decide), c3 32 0 (by decide), b2, upd_n hi2, k32]; exact p1
      · rw [n6 i hi2, g33]; exact p2
      · rw [n2 34 0 (by decide) (by decide), c3 34 0 (by decide), c2 34 0 (by decide), b1, upd_n hi2]; exact p3
    · by_cases z : q = r
      · subst z
        refine ⟨?_, ?_, fun i => ?_⟩
        · rw [n2 32 0 (by decide) (by decide), c3 32 0 (by decide), b2, upd_s, k32, o1]
        · rw [n2 34 0 (by decide) (by decide), c3 34 0 (by decide), c2 34 0 (by decide), b1, upd_s]
        · rw [n7 i, g33, o2]
      · obtain ⟨p1, p2, p3⟩ := h9 q (by omega)
        have hi2 : 5 * d + q ≠ 5 * d + r := by omega
        refine ⟨?_, ?_, fun i => ?_⟩
        · rw [n2 32 0 (by decide) (by decide), c3 32 0 (by decide), b2, upd_n hi2, k32]; exact p1
        · rw [n2 34 0 (by decide) (by decide), c3 34 0 (by decide), c2 34 0 (by decide), b1, upd_n hi2]; exact p2
        · rw [n6 _ hi2, g33]; exact p3 i
    · rw [← zwV_s]
      exact n8
