-- ===== the law: discs are stuck, freed, repaired, a blind is blank =====
theorem bit_1 (k : Nat) (hk : k < 31) (i : Nat) : (ui ((1 : Int32) <<< (nI k &&& (31 : Int32)))).testBit i = decide (i = k) := by
  have h := or_1 0 k hk i
  rw [show (0 : Int32) ||| ((1 : Int32) <<< (nI k &&& (31 : Int32))) = (1 : Int32) <<< (nI k &&& (31 : Int32)) from Int32.zero_or, show ui 0 = 0 from rfl, Nat.zero_testBit, Bool.false_or] at h
  exact h
theorem an_1 (S : Int32) (k : Nat) (hk : k < 31) (i : Nat) : (ui (S &&& (((1 : Int32) <<< (nI k &&& (31 : Int32))) ^^^ (-1)))).testBit i = ((ui S).testBit i && !decide (i = k)) := by
  rw [ui_and, Nat.testBit_and]
  by_cases h : i < 32
  · rw [ui_not _ i h, bit_1 k hk i]
  · rw [Nat.testBit_lt_two_pow (x := ui S) (i := i) (Nat.lt_of_lt_of_le (ui_lt S) (Nat.pow_le_pow_right (by decide) (by omega))), Bool.false_and, Bool.false_and]
theorem zCS.lo {M M' : zM} {σ : Nat → Int32} {p : Nat} {P : Nat → Nat → Int32} (h2 : M'.2 = M.2) (hi : ∀ q m, q < 29 → M'.1 q m = M.1 q m) (hC : zCS M σ p P) : zCS M' σ p P := by
  obtain ⟨h1, h3, h4, ad, ⟨h5, h6, h7⟩, h8⟩ := hC
  have gs : ∀ k σ, zGS M k σ → zGS M' k σ := fun k σ g => g.fr (fun c m z => hi c m (by unfold zOw at z; omega)) (fun c m _ => by rw [h2])
  exact ⟨h1, gs _ _ h3, fun k hk b hb => by rw [hi 0 _ (by omega)]; exact h4 k hk b hb, ad, ⟨by rw [hi 2 0 (by omega)]; exact h5, fun i hi' => by rw [h2]; exact h6 i hi', h7⟩, fun i hi' => gs _ _ (h8 i hi')⟩
theorem zLI.c43 {B : Nat} {M M' : zM} (h2 : M'.2 = M.2) (hi : ∀ q m, ¬ (q = 43 ∧ m = 0) → M'.1 q m = M.1 q m) (h : zLI B M) : zLI B M' := by
  obtain ⟨σ, U, p, P, hW, hT, hL, hC, h5⟩ := h
  exact ⟨σ, U, p, P, hW, fun i hi' => by rw [hi 40 0 (by omega)]; exact hT i hi', hL.fr (fun q _ _ => hi q 0 (by omega)) (by rw [h2]), hC.lo h2 (fun q m z => hi q m (by omega)), by rw [hi 5 0 (by omega)]; exact h5⟩
theorem zLI.gs {B : Nat} {M : zM} (h : zLI B M) (k : Nat) : zLI B (zgs M k) := zLI.c43 (M := M) (M' := zgs M k) rfl (fun _ _ z => zst_ne M.1 _ z) h
/-- all but the count stays -/
def zFy (M M' : zM) : Prop := ∀ c m, 40 ≤ c → ¬ (c = 43 ∧ m = 0) → M'.1 c m = M.1 c m
theorem zFy.of {M M1 M2 : zM} (hl : zFl M M1) (fc : zFC M1 M2) : zFy M M2 := fun c m z _ => zFz.of hl fc c m z
theorem zFl.of2 {M M' : zM} (h2 : M'.2 = M.2) (h : ∀ q m, ¬ (29 ≤ q ∧ q ≤ 34) → M'.1 q m = M.1 q m) : zFl M M' := ⟨by rw [h2], h, fun _ _ _ => by rw [h2]⟩
/-- a disc is stuck, or freed -/
theorem lw_stick {B : Nat} {M : zM} (hB : B ≤ 60) (h : zLI B M) {d i k j y : Nat} (hd : d < 2) (hi : i < 5) (hk : k < zcol d) (hj : j < 3) (hy : y < 10000000) (ej : y / 240 % 3 = j) (d1 d2 d3 d6 d7 d8 d14 d15 : Option zV) : ∃ M', zev zC_L_discs 41 ([some (zR 7 0), d1, d2, d3, some (zR 32 0), some (zR 33 0), d6, d7, d8, some (zI (nI y)), some (zI (nI d)), some (zI (nI k)), some (zI (nI i)), some (zI (nI (5 * d + i))), d14, d15], [], M) = zs 1 M' ∧ zLI (B + 1) M' ∧ zFy M M' := by
  obtain ⟨σ, U, p, P, hW, hT, hL, hC, h5⟩ := h
  have hcl := zcol_le d
  obtain ⟨u, xb, sb, wb, hu, e⟩ := hW.2.2.2 d i k hd hi hk
  have hsk := dv_sk xb sb wb (show u < 2 ^ 27 by omega) j hj
  have i10 := ix_in (show 5 * d + i < 10 by omega) (by decide)
  have c10 : (nI (5 * d + i)).toNatClampNeg = 5 * d + i := ix_cl (by omega)
  have e240 : zrm (nI y / 240) 3 = nI j := by
    rw [show nI y / 240 = nI (y / 240) from pk_div (by omega) (by decide) (by decide), show zrm (nI (y / 240)) 3 = nI (y / 240 % 3) from pk_rem (by omega) (by decide) (by decide), ej]
  have j2 : nI j = (2 : Int32) ↔ j = 2 := nI_eq (b := 2) (by omega) (by decide)
  have j1 : nI j = (1 : Int32) ↔ j = 1 := nI_eq (b := 1) (by omega) (by decide)
  -- the row of stuck discs
  have s1 : ∃ y2 : Int32, (∀ c, (ui y2).testBit c = if c = k then !decide (j = 2) else (ui (M.1 33 0 (5 * d + i))).testBit c) ∧ zev zC_L_discs 41 ([some (zR 7 0), d1, d2, d3, some (zR 32 0), some (zR 33 0), d6, d7, d8, some (zI (nI y)), some (zI (nI d)), some (zI (nI k)), some (zI (nI i)), some (zI (nI (5 * d + i))), d14, d15], [], M) =
      zev zC_L_discs 87 ([some (zR 7 0), none, none, none, some (zR 32 0), some (zR 33 0), none, none, none, none, some (zI (nI d)), some (zI (nI k)), some (zI (nI i)), some (zI (nI (5 * d + i))), some (zI (nI j)), none], [], (zst M.1 33 0 (upd (M.1 33 0) (5 * d + i) y2), M.2)) := by
    by_cases c : j = 2
    · refine ⟨_, fun q => ?_, by rw [bk_L_discs_41, e240, if_pos (j2.mpr c), bk_L_discs_61, if_neg i10, c10, bk_L_discs_66, bk_L_discs_86, if_neg i10, c10]⟩
      rw [an_1 _ _ (by omega), c]
      by_cases z : q = k
      · rw [if_pos z, decide_eq_true z]; simp
      · rw [if_neg z, decide_eq_false z]; simp
    · refine ⟨_, fun q => ?_, by rw [bk_L_discs_41, e240, if_neg (fun z => c (j2.mp z)), bk_L_discs_76, if_neg i10, c10, bk_L_discs_81, bk_L_discs_86, if_neg i10, c10]⟩
      rw [or_1 _ _ (by omega), decide_eq_false c]
      by_cases z : q = k
      · rw [if_pos z, decide_eq_true z]; simp
      · rw [if_neg z, decide_eq_false z]; simp
  obtain ⟨y2, hy2, e1⟩ := s1
  obtain ⟨M1, m1, a1, b1, c1⟩ := st_i M 33 (upd (M.1 33 0) (5 * d + i) y2)
  rw [m1] at e1
  -- the row of bright discs
  obtain ⟨o1, o2, o3⟩ := zfD_dv hk (show u < 2 ^ 27 by omega) e
  have hbk : (ui (M.1 32 0 (5 * d + i))).testBit k = xb := by
    rw [(hL.2.2.1 d i hd hi).1]
    have a2 := zRw_disc σ d 1 i hi k
    dsimp only at a2
    rw [a2, decide_eq_true (show k < 24 by omega), Bool.true_and, o1]
  have s2 : ∃ y1 : Int32, (∀ c, (ui y1).testBit c = if c = k then (if j = 2 then xb else decide (j = 1)) else (ui (M.1 32 0 (5 * d + i))).testBit c) ∧ zev zC_L_discs 87 ([some (zR 7 0), none, none, none, some (zR 32 0), some (zR 33 0), none, none, none, none, some (zI (nI d)), some (zI (nI k)), some (zI (nI i)), some (zI (nI (5 * d + i))), some (zI (nI j)), none], [], M1) =
      zev zC_L_discs 137 ([some (zR 7 0), none, none, none, none, some (zR 33 0), none, none, none, none, some (zI (nI d)), some (zI (nI k)), some (zI (nI i)), none, some (zI (nI j)), none], [], (zst M1.1 32 0 (upd (M1.1 32 0) (5 * d + i) y1), M1.2)) := by
    have k32 : M1.1 32 0 = M.1 32 0 := c1 32 0 (by decide)
    by_cases c : j = 2
    · refine ⟨_, fun q => ?_, by rw [bk_L_discs_87, if_pos (j2.mpr c), bk_L_discs_97, if_neg i10, c10, bk_L_discs_102, bk_L_discs_136, if_neg i10, c10]⟩
      rw [k32, if_pos c]
      by_cases z : q = k
      · rw [if_pos z, z, hbk]
      · rw [if_neg z]
    · by_cases c' : j = 1
      · refine ⟨_, fun q => ?_, by rw [bk_L_discs_87, if_neg (fun z => c (j2.mp z)), bk_L_discs_105, if_pos (j1.mpr c'), bk_L_discs_111, if_neg i10, c10, bk_L_discs_116, bk_L_discs_136, if_neg i10, c10]⟩
        rw [or_1 _ _ (by omega), k32, if_neg c, decide_eq_true c']
        by_cases z : q = k
        · rw [if_pos z, decide_eq_true z]; simp
        · rw [if_neg z, decide_eq_false z]; simp
      · refine ⟨_, fun q => ?_, by rw [bk_L_discs_87, if_neg (fun z => c (j2.mp z)), bk_L_discs_105, if_neg (fun z => c' (j1.mp z)), bk_L_discs_124, if_neg i10, c10, bk_L_discs_129, bk_L_discs_136, if_neg i10, c10]⟩
        rw [an_1 _ _ (by omega), k32, if_neg c, decide_eq_false c']
        by_cases z : q = k
        · rw [if_pos z, decide_eq_true z]; simp
        · rw [if_neg z, decide_eq_false z]; simp
  obtain ⟨y1, hy1, e2⟩ := s2
  obtain ⟨M2, m2, a2, b2, c2⟩ := st_i M1 32 (upd (M1.1 32 0) (5 * d + i) y1)
  rw [m2] at e2
  have hfl : zFl M M2 := zFl.of2 (a2.trans a1) (fun q m z => (c2 q m (by omega)).trans (c1 q m (by omega)))
  have hUu : U (zat d i k - 28) = u := by
    have := hL.2.2.2.2 d i k hd hi hk
    rw [e, dv_div _ _ _ (by omega)] at this
    have h6 := hL.2.2.2.1.1 (zat d i k - 28)
    exact ((nI_eq (by omega) (by omega)).mp this).symm
  have hL2 : zLS M2 (upd σ (zat d i k) (zDv u (if j = 2 then xb else decide (j = 1)) (!decide (j = 2)) wb)) U :=
    hL.up (x' := 0) (s' := 0) (w := 0) hd hi hk (show u < 2 ^ 27 by omega) (show u < 2 ^ 27 by omega) e (by rw [b2, c1 32 0 (by decide)]) (by rw [c2 33 0 (by decide), b1]) hy1 hy2 ⟨hL.2.2.2.1.1, fun q hq => by rw [a2, a1]; exact hL.2.2.2.1.2 q hq⟩ (fun q => by
      by_cases z : q = zat d i k - 28
      · rw [if_pos z, z, hUu]
      · rw [if_neg z]) (by rw [c2 29 0 (by decide), c1 29 0 (by decide)]) (by rw [c2 30 0 (by decide), c1 30 0 (by decide)]) (by rw [c2 31 0 (by decide), c1 31 0 (by decide)]) (by rw [c2 34 0 (by decide), c1 34 0 (by decide)])
  have hτ : upd σ (zat d i k) (zDv u (if j = 2 then xb else decide (j = 1)) (!decide (j = 2)) wb) = upd σ (zat d i k) (zsk (σ (zat d i k)) j) := by
    rw [e, hsk]
    by_cases c : j = 2
    · rw [if_pos c, if_pos c, decide_eq_true c]; rfl
    · rw [if_neg c, if_neg c, decide_eq_false c]; rfl
  rw [hτ] at hL2
  have t : zXk σ (nI d) (nI k) (nI i) (nI j) (nI (zhv (upd σ (zat d i k) (zsk (σ (zat d i k)) j)) d 2)) (upd σ (zat d i k) (zsk (σ (zat d i k)) j)) := Or.inr ⟨d, k, i, j, hd, hk, hi, hj, rfl, rfl, rfl, rfl, rfl, rfl⟩
  have hT2 : zLtt M2 := fun q hq => by rw [hfl.2.1 40 0 (by omega)]; exact hT q hq
  obtain ⟨M3, p', P', e3, hC3, fc⟩ := cl_stick (B := B) (by omega) hT2 hW (hfl.cs hC) t
  have hW3 := (W_stick (show B < 2 ^ 25 by omega) hW t).mono (show B ≤ B + 1 by omega)
  refine ⟨M3, ?_, li_behind hW3 hT h5 hfl hL2 fc hC3, zFy.of hfl fc⟩
  rw [e1, e2, bk_L_discs_137, zbi e3, bk_L_discs_149, zbi (lw_stuck (hL2.fc fc) d hd), bk_L_discs_156, if_pos rfl, bk_L_discs_159, bk_L_discs_164, if_pos (Or.inr rfl)]
/-- a column is repaired, row by row -/
theorem lw_repair_loop {B d k : Nat} {M0 : zM} {σ : Nat → Int32} {U0 : Nat → Nat} (hB : B ≤ 60) (hd : d < 2) (hk : k < zcol d) (hW : zW B σ) (hL0 : zLS M0 σ U0) : ∀ (j r : Nat) (U : Nat → Nat) (M : zM) (d2 d3 d4 d6 d8 d9 d12 d13 : Option zV), r + j = 5 → zLS M (zrp σ d k r) U → zFl M0 M →
    ∃ M' U', zev zC_L_discs 177 ([some (zR 7 0), some (zR 29 0), d2, d3, d4, some (zR 33 0), d6, some (zR 35 0), d8, d9, some (zI (nI d)), some (zI (nI k)), d12, d13, some (zI (nI (zrpn σ d k r))), some (zI (nI r))], [], M) =
      zev zC_L_discs 251 ([some (zR 7 0), some (zR 29 0), none, none, none, some (zR 33 0), none, some (zR 35 0), none, none, some (zI (nI d)), some (zI (nI k)), none, none, some (zI (nI (zrpn σ d k 5))), some (zI (nI 5))], [], M') ∧ zLS M' (zrp σ d k 5) U' ∧ zFl M0 M' := by
  have hcl := zcol_le d
  intro j
  induction j with
  | zero =>
    intro r U M d2 d3 d4 d6 d8 d9 d12 d13 e hL hf
    have er : r = 5 := by omega
    subst er
    exact ⟨M, U, by rw [bk_L_discs_177, show (5 : Int32) = nI 5 from rfl, if_pos (nI_le (Nat.le_refl _) (by decide))], hL, hf⟩
  | succ j ih =>
    intro r U M d2 d3 d4 d6 d8 d9 d12 d13 e hL hf
    have hr : r < 5 := by omega
    obtain ⟨u, xb, sb, wb, hu, ev⟩ := hW.2.2.2 d r k hd hr hk
    have ev2 : zrp σ d k r (zat d r k) = zDv u xb sb wb := by rw [zrp_at σ hd hk r (by omega) r (Nat.le_refl _) hr]; exact ev
    have ep : (5 * nI d) + nI r = nI (5 * d + r) := by rw [show (5 : Int32) = nI 5 from rfl, pk_mul, nI_add]
    have i10 := ix_in (show 5 * d + r < 10 by omega) (by decide)
    have c10 : (nI (5 * d + r)).toNatClampNeg = 5 * d + r := ix_cl (by omega)
    obtain ⟨o1, o2, o3⟩ := zfD_dv hk (show u < 2 ^ 27 by omega) ev2
    have a1 := zRw_disc (zrp σ d k r) d 1 r hr
    have a2 := zRw_disc (zrp σ d k r) d 2 r hr
    dsimp only at a1 a2
    have k2 : (ui (M.1 33 0 (5 * d + r))).testBit k = sb := by rw [(hL.2.2.1 d r hd hr).2.1, a2 k, decide_eq_true (show k < 24 by omega), Bool.true_and, o2]
    have k1 : (ui (M.1 32 0 (5 * d + r))).testBit k = xb := by rw [(hL.2.2.1 d r hd hr).1, a1 k, decide_eq_true (show k < 24 by omega), Bool.true_and, o1]
    have hlt : ui (M.1 33 0 (5 * d + r)) < 2 ^ 31 := by
      rw [(hL.2.2.1 d r hd hr).2.1]
      exact Nat.lt_of_lt_of_le (zRw_lt (zRw_disc (zrp σ d k r) d 2) r hr) (by decide)
    have hsb := sh_bit (M.1 33 0 (5 * d + r)) k hlt (by omega)
    rw [k2] at hsb
    have hb : ((M.1 33 0 (5 * d + r)) >>> (nI k &&& (31 : Int32))) &&& 1 = nI sb.toNat := by
      have e0 := shr_nI (u := ui (M.1 33 0 (5 * d + r))) (k := k) hlt (by omega)
      rw [nI_ui] at e0
      rw [e0, pk_andN (Nat.lt_of_le_of_lt (Nat.div_le_self _ _) (by omega)) 1 rfl]
      rw [e0, pk_andN (Nat.lt_of_le_of_lt (Nat.div_le_self _ _) (by omega)) 1 rfl] at hsb
      have h2 : ui (M.1 33 0 (5 * d + r)) / 2 ^ k % 2 ^ 1 < 2 := Nat.mod_lt _ (by decide)
      generalize ui (M.1 33 0 (5 * d + r)) / 2 ^ k % 2 ^ 1 = q at hsb h2 ⊢
      rcases (show q = 0 ∨ q = 1 by omega) with rfl | rfl
      · rw [show decide (nI 0 = 1) = false from rfl] at hsb; rw [← hsb]; rfl
      · rw [show decide (nI 1 = 1) = true from rfl] at hsb; rw [← hsb]; rfl
    have hn : zrpn σ d k (r + 1) = zrpn σ d k r + sb.toNat := by
      unfold zrpn
      rw [zsm, ev, dv_2 xb sb wb (by omega)]
      cases sb <;> rfl
    rw [bk_L_discs_177, show (5 : Int32) = nI 5 from rfl, if_neg (nI_ge hr (by decide)), bk_L_discs_183, ep, if_neg i10, c10, bk_L_discs_195, ep, if_neg i10, c10, hb, nI_add, ← hn, bk_L_discs_214, if_neg i10, c10]
    obtain ⟨M1, m1, p1, q1, r1⟩ := st_i M 33 (upd (M.1 33 0) (5 * d + r) (M.1 33 0 (5 * d + r) &&& (((1 : Int32) <<< (nI k &&& (31 : Int32))) ^^^ (-1))))
    have hX1 : zXx M1 U := ⟨hL.2.2.2.1.1, fun q hq => by rw [p1]; exact hL.2.2.2.1.2 q hq⟩
    obtain ⟨M2, e2, x2, f2⟩ := lw_wears_0 hX1 hd hr hk
    rw [m1, bk_L_discs_222, zbi (lw_wear hX1 hd hr hk), bk_L_discs_241, zbv e2, bk_L_discs_245, nI_1]
    have hL2 : zLS M2 (upd (zrp σ d k r) (zat d r k) (zDv 0 xb false wb)) (zup U (zat d r k - 28) 0) :=
      hL.up (x' := 0) (s' := 0) (w := 0) hd hr hk (show u < 2 ^ 27 by omega) (show 0 < 2 ^ 27 by decide) ev2 (y1 := M.1 32 0 (5 * d + r)) (by
        rw [f2.1, r1 32 0 (by decide)]
        funext q
        by_cases z : q = 5 * d + r
        · rw [z, upd_s]
        · rw [upd_n z]) (by rw [f2.1, q1]) (fun c => by
        by_cases z : c = k
        · rw [if_pos z, z, k1]
        · rw [if_neg z]) (fun c => by
        rw [an_1 _ _ (by omega)]
        by_cases z : c = k
        · rw [if_pos z, decide_eq_true z]; simp
        · rw [if_neg z, decide_eq_false z]; simp) x2 (fun q => by
        by_cases z : q = zat d r k - 28
        · rw [z, zup_s, if_pos rfl]
        · rw [zup_n z, if_neg z]) (by rw [f2.1, r1 29 0 (by decide)]) (by rw [f2.1, r1 30 0 (by decide)]) (by rw [f2.1, r1 31 0 (by decide)]) (by rw [f2.1, r1 34 0 (by decide)])
    have hz : zrp σ d k (r + 1) = upd (zrp σ d k r) (zat d r k) (zDv 0 xb false wb) := by rw [zrp, ev, dv_5 xb sb wb (by omega)]
    rw [← hz] at hL2
    refine ih (r + 1) _ M2 none none none none none none none none (by omega) hL2 (hf.tr ⟨by rw [f2.2.1, p1], fun q m z => by rw [f2.1]; exact r1 q m (by omega), fun q m z => by rw [f2.2.2 q m (by omega), p1]⟩)
theorem zdc_cg {σ τ : Nat → Int32} {b r : Nat} (w : Int32) (h : ∀ c, τ (zat b r c) = σ (zat b r c)) : zdc τ b r w = zdc σ b r w := zdcl_cg w _ (fun c _ => h c)
theorem zLS.g {M M' : zM} {σ : Nat → Int32} {U : Nat → Nat} (h : zLS M σ U) {k : Nat} {v : Int32} (hk : k = 1 ∨ k = 2 ∨ k = 3 ∨ k = 4 ∨ k = 5 ∨ k = 6 ∨ k = 7) (h2 : M'.2 = M.2) (h29 : M'.1 29 0 = upd (M.1 29 0) k v) (hi : ∀ q m, ¬ (q = 29 ∧ m = 0) → M'.1 q m = M.1 q m) : zLS M' (upd σ k v) U := by
  obtain ⟨L1, ⟨N, N1, N2, N3⟩, L3, L4, L5⟩ := h
  have hz : ∀ d r c, upd σ k v (zat d r c) = σ (zat d r c) := fun d r c => upd_n (by have := zat_ge (b := d) (r := r) (c := c); omega)
  refine ⟨fun j hj => ?_, ⟨N, N1, by rw [upd_n (by omega)]; exact N2, fun w hw => by rw [hi 30 0 (by omega), hi 31 0 (by omega), upd_n (by omega), upd_n (by omega)]; exact N3 w hw⟩, fun d r hd hr => ?_, ⟨L4.1, fun j hj => by rw [h2]; exact L4.2 j hj⟩, fun d r c hd hr hc => by rw [hz]; exact L5 d r c hd hr hc⟩
  · rw [h29]
    by_cases e : j = k
    · rw [e, upd_s, upd_s]
    · rw [upd_n e, upd_n e]; exact L1 j hj
  · rw [hi 32 0 (by omega), hi 33 0 (by omega), hi 34 0 (by omega), zdc_cg 1 (hz d r), zdc_cg 2 (hz d r), zdc_cg 4 (hz d r)]
    exact L3 d r hd hr
theorem lw_repair {B : Nat} {M : zM} (hB : B ≤ 60) (h : zLI B M) {d k : Nat} (hd : d < 2) (hk : k < zcol d) (d2 d3 d4 d6 d8 d9 d12 d13 d14 d15 : Option zV) : ∃ M', zev zC_L_discs 171 ([some (zR 7 0), some (zR 29 0), d2, d3, d4, some (zR 33 0), d6, some (zR 35 0), d8, d9, some (zI (nI d)), some (zI (nI k)), d12, d13, d14, d15], [], M) = zs 1 M' ∧ zLI (B + 1) M' ∧ zFy M M' := by
  obtain ⟨σ, U, p, P, hW, hT, hL, hC, h5⟩ := h
  obtain ⟨M1, U1, e1, hL1, f1⟩ := lw_repair_loop hB hd hk hW hL 5 0 U M none none none none none none none none rfl hL (zFl.rf M)
  have h2 : M1.1 29 0 2 = σ 2 := by rw [hL1.1 2 (by decide), zrp_lo σ d k 2 (by decide)]
  obtain ⟨M2, m2, a2, b2, c2⟩ := st_i M1 29 (upd (M1.1 29 0) 2 (M1.1 29 0 2 + 1))
  have hL2 : zLS M2 (upd (zrp σ d k 5) 2 (σ 2 + 1)) U1 := hL1.g (by omega) a2 (by rw [b2, h2]) c2
  have hfl : zFl M M2 := f1.tr (zFl.of2 a2 (fun q m z => c2 q m (by omega)))
  have t : zXr σ (nI d) (nI k) (nI (zrpn σ d k 5)) (upd (zrp σ d k 5) 2 (σ 2 + 1)) := Or.inr ⟨d, k, hd, hk, rfl, rfl, rfl, rfl⟩
  have hT2 : zLtt M2 := fun q hq => by rw [hfl.2.1 40 0 (by omega)]; exact hT q hq
  obtain ⟨M3, p', P', e3, hC3, fc⟩ := cl_repair (B := B) (by omega) hT2 hW (hfl.cs hC) t
  have hW3 := (W_repair (show B < 2 ^ 25 by omega) hW t).mono (show B ≤ B + 1 by omega)
  refine ⟨M3, ?_, li_behind hW3 hT h5 hfl hL2 fc hC3, zFy.of hfl fc⟩
  rw [bk_L_discs_171]
  refine Eq.trans e1 ?_
  rw [bk_L_discs_251, m2, bk_L_discs_258, zbi e3, bk_L_discs_266, if_pos rfl, bk_L_discs_271, bk_L_discs_276, if_pos (Or.inr rfl)]
/-- a blind is blank -/
theorem lw_blank {B : Nat} {M : zM} (hB : B ≤ 60) (h : zLI B M) {d : Nat} (hd : d < 2) (d2 d3 d8 d9 d11 d12 d13 d14 d15 : Option zV) : ∃ M', zev zC_L_discs 283 ([some (zR 7 0), some (zR 29 0), d2, d3, some (zR 32 0), some (zR 33 0), some (zR 34 0), some (zR 35 0), d8, d9, some (zI (nI d)), d11, d12, d13, d14, d15], [], M) = zs 1 M' ∧ zLI (B + 1) M' ∧ zFy M M' := by
  obtain ⟨σ, U, p, P, hW, hT, hL, hC, h5⟩ := h
  obtain ⟨M1, U1, e1, hL1, f1⟩ := lw_want (x := 0) (s := 0) (G := fun _ => 0) (g := fun _ _ => false) (W := zwb 0 0) (show B ≤ 62 by omega) hd hW hL (fun r _ c => by rw [show ui ((fun _ => (0 : Int32)) r) = 0 from rfl, Nat.zero_testBit, Bool.and_false]) (zIn_0 d) (Or.inl ⟨rfl, fun _ _ => rfl⟩)
  have t : zXb σ (nI d) (nI (zhv (ztau σ d (zwb 0 0)) d 1)) (ztau σ d (zwb 0 0)) := Or.inr ⟨d, hd, rfl, ztau_wa σ d _, rfl⟩
  have hT1 : zLtt M1 := fun q hq => by rw [f1.2.1 40 0 (by omega)]; exact hT q hq
  obtain ⟨M3, p', P', e3, hC3, fc⟩ := cl_blank (B := B) (by omega) hT1 hW (f1.cs hC) t
  have hW3 := W_blank (show B < 2 ^ 25 by omega) hW t
  refine ⟨M3, ?_, li_behind hW3 hT h5 f1 hL1 fc hC3, zFy.of f1 fc⟩
  rw [bk_L_discs_283, zbv e1, bk_L_discs_299, zbi e3, bk_L_discs_305, zbi (lw_bright (hL1.fc fc) d hd), bk_L_discs_312, if_pos rfl, bk_L_discs_315, bk_L_discs_320, if_pos (Or.inr rfl)]
