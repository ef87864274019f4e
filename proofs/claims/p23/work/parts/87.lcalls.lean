-- ===== the law and the class side by side =====
theorem zFl.gsx {M M' : zM} {k : Nat} {σ : Nat → Int32} (h : zFl M M') (hG : zGS M k σ) : zGS M' k σ := hG.fr (fun c m z => h.2.1 c m (by unfold zOw at z; omega)) (fun c m z => h.2.2 c m (by unfold zOj at z; omega))
theorem zFl.cs {M M' : zM} {σ : Nat → Int32} {p : Nat} {P : Nat → Nat → Int32} (h : zFl M M') (hC : zCS M σ p P) : zCS M' σ p P := by
  obtain ⟨h1, h2, h3, ad, ⟨h4, h5, h6⟩, h7⟩ := hC
  exact ⟨h1, h.gsx h2, fun k hk b hb => by rw [h.2.1 0 _ (by omega)]; exact h3 k hk b hb, ad, ⟨by rw [h.2.1 2 0 (by omega)]; exact h4, fun i hi => by rw [h.1]; exact h5 i hi, h6⟩, fun i hi => h.gsx (h7 i hi)⟩
theorem zLS.fc {M M' : zM} {σ : Nat → Int32} {U : Nat → Nat} (h : zLS M σ U) (fc : zFC M M') : zLS M' σ U := h.fr (fun q h1 _ => fc.1 q 0 (by omega)) (fc.2 35 0 (by omega))
/-- what law and class agree on -/
def zLI (B : Nat) (M : zM) : Prop := ∃ σ U p P, zW B σ ∧ zLtt M ∧ zLS M σ U ∧ zCS M σ p P ∧ M.1 5 0 1 = 0
/-- behind a change that the law's rows tell already -/
theorem li_behind {B : Nat} {M M1 M2 : zM} {τ : Nat → Int32} {U : Nat → Nat} {p : Nat} {P : Nat → Nat → Int32} (hW : zW B τ) (hT : zLtt M) (h5 : M.1 5 0 1 = 0) (hl : zFl M M1) (hL : zLS M1 τ U) (fc : zFC M1 M2) (hC : zCS M2 τ p P) : zLI B M2 := by
  refine ⟨τ, U, p, P, hW, fun i hi => ?_, hL.fc fc, hC, ?_⟩
  · rw [fc.1 40 0 (by omega), hl.2.1 40 0 (by omega)]; exact hT i hi
  · rw [fc.1 5 0 (by omega), hl.2.1 5 0 (by omega)]; exact h5
/-- the script, its length and the count stay -/
def zFz (M M' : zM) : Prop := ∀ c m, 40 ≤ c → M'.1 c m = M.1 c m
theorem zFz.of {M M1 M2 : zM} (hl : zFl M M1) (fc : zFC M1 M2) : zFz M M2 := fun c m z => (fc.1 c m (by omega)).trans (hl.2.1 c m (by omega))
theorem cl_change {M : zM} {σ τ : Nat → Int32} {p : Nat} {P : Nat → Nat → Int32} {a : Int32} (f opc : zM → Option zQ) (hT : zLtt M) (hC : zCS M σ p P)
    (hopc : ∀ M1 M2 M3, zd_X2_prepare [zR 2 0, zR 4 0] M = some (none, M1) → f M1 = zs a M2 → zd_X7_kept [zR 7 0, zI a] M2 = zs a M3 → opc M = zs a M3)
    (hcls : ∀ M1, zGS M1 0 σ → zLtt M1 → ∃ M2, f M1 = zs a M2 ∧ zGS M2 0 τ ∧ zFS M1 M2 0) : ∃ M3 p' P', opc M = zs a M3 ∧ zCS M3 τ p' P' ∧ zFC M M3 := by
  obtain ⟨M1, M2, M3, e1, e2, e3, fc, c1, c2⟩ := ch_change f hC (fun M1 g1 fc _ => hcls M1 g1 (fun i hi => by rw [fc.1 40 0 (by omega)]; exact hT i hi))
  by_cases ha : a < 0
  · exact ⟨M3, _, _, hopc M1 M2 M3 e1 e2 e3, c1 ha, fc⟩
  · exact ⟨M3, _, _, hopc M1 M2 M3 e1 e2 e3, c2 ha, fc⟩
section CL
variable {B : Nat} {M : zM} {σ τ : Nat → Int32} {p : Nat} {P : Nat → Nat → Int32} {a : Int32}
theorem cl_word {x : Int32} (hT : zLtt M) (hW : zW B σ) (hC : zCS M σ p P) (t : zXw σ x a τ) : ∃ M3 p' P', zd_X7_word [zR 7 0, zI x] M = zs a M3 ∧ zCS M3 τ p' P' ∧ zFC M M3 :=
  cl_change (fun M => zd_X4_addWord [zR 4 0, zI x] M) (fun M => zd_X7_word [zR 7 0, zI x] M) hT hC (fun M1 M2 M3 e1 e2 e3 => by rw [en_X7_word, bk_X7_word_0, zbv e1, bk_X7_word_11, zbi e2, bk_X7_word_20, zbi e3, bk_X7_word_23]) (fun M1 g l => cs_word l hW g t)
theorem cl_unword {x : Int32} (hT : zLtt M) (hW : zW B σ) (hC : zCS M σ p P) (t : zXu σ x a τ) : ∃ M3 p' P', zd_X7_unword [zR 7 0, zI x] M = zs a M3 ∧ zCS M3 τ p' P' ∧ zFC M M3 :=
  cl_change (fun M => zd_X4_takeWord [zR 4 0, zI x] M) (fun M => zd_X7_unword [zR 7 0, zI x] M) hT hC (fun M1 M2 M3 e1 e2 e3 => by rw [en_X7_unword, bk_X7_unword_0, zbv e1, bk_X7_unword_11, zbi e2, bk_X7_unword_20, zbi e3, bk_X7_unword_23]) (fun M1 g l => cs_unword hW g t)
theorem cl_show {x y : Int32} (hB : B < 2 ^ 25) (hT : zLtt M) (hW : zW B σ) (hC : zCS M σ p P) (t : zXs σ x y a τ) : ∃ M3 p' P', zd_X7_show [zR 7 0, zI x, zI y] M = zs a M3 ∧ zCS M3 τ p' P' ∧ zFC M M3 :=
  cl_change (fun M => zd_X4_showWord [zR 4 0, zI x, zI y] M) (fun M => zd_X7_show [zR 7 0, zI x, zI y] M) hT hC (fun M1 M2 M3 e1 e2 e3 => by rw [en_X7_show, bk_X7_show_0, zbv e1, bk_X7_show_11, zbi e2, bk_X7_show_21, zbi e3, bk_X7_show_24]) (fun M1 g l => cs_show hB hW g t)
theorem cl_blank {x : Int32} (hB : B < 2 ^ 25) (hT : zLtt M) (hW : zW B σ) (hC : zCS M σ p P) (t : zXb σ x a τ) : ∃ M3 p' P', zd_X7_blank [zR 7 0, zI x] M = zs a M3 ∧ zCS M3 τ p' P' ∧ zFC M M3 :=
  cl_change (fun M => zd_X4_darken [zR 4 0, zI x] M) (fun M => zd_X7_blank [zR 7 0, zI x] M) hT hC (fun M1 M2 M3 e1 e2 e3 => by rw [en_X7_blank, bk_X7_blank_0, zbv e1, bk_X7_blank_11, zbi e2, bk_X7_blank_20, zbi e3, bk_X7_blank_23]) (fun M1 g l => cs_blank hB hW g t)
theorem cl_stick {x y z w : Int32} (hB : B < 2 ^ 25) (hT : zLtt M) (hW : zW B σ) (hC : zCS M σ p P) (t : zXk σ x y z w a τ) : ∃ M3 p' P', zd_X7_stick [zR 7 0, zI x, zI y, zI z, zI w] M = zs a M3 ∧ zCS M3 τ p' P' ∧ zFC M M3 :=
  cl_change (fun M => zd_X4_stickDisc [zR 4 0, zI x, zI y, zI z, zI w] M) (fun M => zd_X7_stick [zR 7 0, zI x, zI y, zI z, zI w] M) hT hC (fun M1 M2 M3 e1 e2 e3 => by rw [en_X7_stick, bk_X7_stick_0, zbv e1, bk_X7_stick_11, zbi e2, bk_X7_stick_24, zbi e3, bk_X7_stick_27]) (fun M1 g l => cs_stick hB hW g t)
theorem cl_repair {x y : Int32} (hB : B < 2 ^ 25) (hT : zLtt M) (hW : zW B σ) (hC : zCS M σ p P) (t : zXr σ x y a τ) : ∃ M3 p' P', zd_X7_repair [zR 7 0, zI x, zI y] M = zs a M3 ∧ zCS M3 τ p' P' ∧ zFC M M3 :=
  cl_change (fun M => zd_X4_repairColumn [zR 4 0, zI x, zI y] M) (fun M => zd_X7_repair [zR 7 0, zI x, zI y] M) hT hC (fun M1 M2 M3 e1 e2 e3 => by rw [en_X7_repair, bk_X7_repair_0, zbv e1, bk_X7_repair_11, zbi e2, bk_X7_repair_21, zbi e3, bk_X7_repair_24]) (fun M1 g l => cs_repair hB hW g t)
theorem cl_set {x y : Int32} (hT : zLtt M) (hW : zW B σ) (hC : zCS M σ p P) (t : zXe σ x y a τ) : ∃ M3 p' P', zd_X7_set [zR 7 0, zI x, zI y] M = zs a M3 ∧ zCS M3 τ p' P' ∧ zFC M M3 :=
  cl_change (fun M => zd_X4_change [zR 4 0, zI x, zI y] M) (fun M => zd_X7_set [zR 7 0, zI x, zI y] M) hT hC (fun M1 M2 M3 e1 e2 e3 => by rw [en_X7_set, bk_X7_set_0, zbv e1, bk_X7_set_11, zbi e2, bk_X7_set_21, zbi e3, bk_X7_set_24]) (fun M1 g l => cs_set hW g t)
end CL
theorem lw_sum_32 (d : Nat) (hd : d < 2) (M : zM) : zd_L_sum [zR 32 0, zI (nI d)] M = zs (nI (zsm (fun r => zq (M.1 32 0 (5 * d + r))) 5)) M := by
  have loop : ∀ (j r : Nat), r + j = 5 → zev zC_L_sum 4 ([some (zR 32 0), some (zI (nI d)), some (zI (nI (zsm (fun r => zq (M.1 32 0 (5 * d + r))) r))), some (zI (nI r))], [], M) = zs (nI (zsm (fun r => zq (M.1 32 0 (5 * d + r))) 5)) M := by
    intro j
    induction j with
    | zero =>
      intro r e
      have er : r = 5 := by omega
      subst er
      rw [bk_L_sum_32_4, show (5 : Int32) = nI 5 from rfl, if_pos (nI_le (Nat.le_refl _) (by decide)), bk_L_sum_32_28]
    | succ j ih =>
      intro r e
      have ep : (5 * nI d) + nI r = nI (5 * d + r) := by rw [show (5 : Int32) = nI 5 from rfl, pk_mul, nI_add]
      rw [bk_L_sum_32_4, show (5 : Int32) = nI 5 from rfl, if_neg (nI_ge (by omega) (by decide)), bk_L_sum_32_9, ep, if_neg (ix_in (show 5 * d + r < 10 by omega) (by decide)), ix_cl (by omega), bk_L_sum_32_17, zbi (lw_ones _ M), bk_L_sum_32_20, nI_add, nI_1]
      exact ih (r + 1) (by omega)
  rw [en_L_sum_32, bk_L_sum_32_0]
  exact loop 5 0 rfl
theorem lw_sum_33 (d : Nat) (hd : d < 2) (M : zM) : zd_L_sum [zR 33 0, zI (nI d)] M = zs (nI (zsm (fun r => zq (M.1 33 0 (5 * d + r))) 5)) M := by
  have loop : ∀ (j r : Nat), r + j = 5 → zev zC_L_sum 4 ([some (zR 33 0), some (zI (nI d)), some (zI (nI (zsm (fun r => zq (M.1 33 0 (5 * d + r))) r))), some (zI (nI r))], [], M) = zs (nI (zsm (fun r => zq (M.1 33 0 (5 * d + r))) 5)) M := by
    intro j
    induction j with
    | zero =>
      intro r e
      have er : r = 5 := by omega
      subst er
      rw [bk_L_sum_33_4, show (5 : Int32) = nI 5 from rfl, if_pos (nI_le (Nat.le_refl _) (by decide)), bk_L_sum_33_28]
    | succ j ih =>
      intro r e
      have ep : (5 * nI d) + nI r = nI (5 * d + r) := by rw [show (5 : Int32) = nI 5 from rfl, pk_mul, nI_add]
      rw [bk_L_sum_33_4, show (5 : Int32) = nI 5 from rfl, if_neg (nI_ge (by omega) (by decide)), bk_L_sum_33_9, ep, if_neg (ix_in (show 5 * d + r < 10 by omega) (by decide)), ix_cl (by omega), bk_L_sum_33_17, zbi (lw_ones _ M), bk_L_sum_33_20, nI_add, nI_1]
      exact ih (r + 1) (by omega)
  rw [en_L_sum_33, bk_L_sum_33_0]
  exact loop 5 0 rfl
theorem lw_bright {M : zM} {σ : Nat → Int32} {U : Nat → Nat} (h : zLS M σ U) (d : Nat) (hd : d < 2) : zd_L_sum [zR 32 0, zI (nI d)] M = zs (nI (zhv σ d 1)) M := by
  rw [lw_sum_32 d hd]
  exact congrArg (fun z => zs (nI z) M) (zsm_congr (fun r hr => by rw [(h.2.2.1 d r hd hr).1]))
theorem lw_stuck {M : zM} {σ : Nat → Int32} {U : Nat → Nat} (h : zLS M σ U) (d : Nat) (hd : d < 2) : zd_L_sum [zR 33 0, zI (nI d)] M = zs (nI (zhv σ d 2)) M := by
  rw [lw_sum_33 d hd]
  exact congrArg (fun z => zs (nI z) M) (zsm_congr (fun r hr => by rw [(h.2.2.1 d r hd hr).2.1]))
/-- one disc is changed -/
theorem zLS.up {M M' : zM} {σ : Nat → Int32} {U U' : Nat → Nat} {d i k u x' s' w u' : Nat} {xb sb wb xb' sb' : Bool} (h : zLS M σ U) (hd : d < 2) (hi : i < 5) (hk : k < zcol d) (hu : u < 2 ^ 27) (hu' : u' < 2 ^ 27) (e : σ (zat d i k) = zDv u xb sb wb) {y1 y2 : Int32}
    (h32 : M'.1 32 0 = upd (M.1 32 0) (5 * d + i) y1) (h33 : M'.1 33 0 = upd (M.1 33 0) (5 * d + i) y2) (hy1 : ∀ c, (ui y1).testBit c = if c = k then xb' else (ui (M.1 32 0 (5 * d + i))).testBit c) (hy2 : ∀ c, (ui y2).testBit c = if c = k then sb' else (ui (M.1 33 0 (5 * d + i))).testBit c)
    (hX : zXx M' U') (hU : ∀ j, U' j = if j = zat d i k - 28 then u' else U j) (h29 : M'.1 29 0 = M.1 29 0) (h30 : M'.1 30 0 = M.1 30 0) (h31 : M'.1 31 0 = M.1 31 0) (h34 : M'.1 34 0 = M.1 34 0) : zLS M' (upd σ (zat d i k) (zDv u' xb' sb' wb)) U' := by
  obtain ⟨L1, ⟨N, N1, N2, N3⟩, L3, L4, L5⟩ := h
  have hcl := zcol_le d
  have hlo : ∀ j, j < 28 → upd σ (zat d i k) (zDv u' xb' sb' wb) j = σ j := fun j hj => upd_n (by have := zat_ge (b := d) (r := i) (c := k); omega)
  obtain ⟨o1, o2, o3⟩ := zfD_dv hk hu e
  obtain ⟨n1, n2, n3⟩ := zfD_dv (σ := upd σ (zat d i k) (zDv u' xb' sb' wb)) hk hu' (upd_s _ _ _)
  have other : ∀ d' r c, d' < 2 → r < 5 → c < zcol d' → ¬ (d' = d ∧ r = i ∧ c = k) → upd σ (zat d i k) (zDv u' xb' sb' wb) (zat d' r c) = σ (zat d' r c) := fun d' r c hd' hr hc z => upd_n (fun z2 => z (zat_inj hd' hr hc hd hi hk z2))
  have ofd : ∀ m c, c ≠ k → zfD (upd σ (zat d i k) (zDv u' xb' sb' wb)) d m c i = zfD σ d m c i := fun m c hc => by
    unfold zfD
    by_cases z : c < zcol d
    · rw [other d i c hd hi z (fun z2 => hc z2.2.2)]
    · rw [decide_eq_false z, Bool.false_and, Bool.false_and]
  refine ⟨fun j hj => by rw [h29, hlo j (by omega)]; exact L1 j hj, ⟨N, N1, by rw [hlo 0 (by omega)]; exact N2, fun v hv => by rw [h30, h31, hlo _ (by omega), hlo _ (by omega)]; exact N3 v hv⟩, fun d' r hd' hr => ?_, hX, fun d' r c hd' hr hc => ?_⟩
  · by_cases z : d' = d ∧ r = i
    · obtain ⟨rfl, rfl⟩ := z
      obtain ⟨p1, p2, p3⟩ := L3 d' r hd' hr
      rw [h32, h33, h34, upd_s, upd_s]
      refine ⟨ui_inj (Nat.eq_of_testBit_eq (fun c => ?_)), ui_inj (Nat.eq_of_testBit_eq (fun c => ?_)), ?_⟩
      · have a1 := zRw_disc (upd σ (zat d' r k) (zDv u' xb' sb' wb)) d' 1 r hr c
        have a2 := zRw_disc σ d' 1 r hr c
        dsimp only at a1 a2
        rw [a1, hy1 c, p1, a2]
        by_cases z : c = k
        · subst z; rw [if_pos rfl, n1, decide_eq_true (show c < 24 by omega), Bool.true_and]
        · rw [if_neg z, ofd 1 c z]
      · have a1 := zRw_disc (upd σ (zat d' r k) (zDv u' xb' sb' wb)) d' 2 r hr c
        have a2 := zRw_disc σ d' 2 r hr c
        dsimp only at a1 a2
        rw [a1, hy2 c, p2, a2]
        by_cases z : c = k
        · subst z; rw [if_pos rfl, n2, decide_eq_true (show c < 24 by omega), Bool.true_and]
        · rw [if_neg z, ofd 2 c z]
      · rw [p3]
        refine ui_inj (Nat.eq_of_testBit_eq (fun c => ?_))
        have a1 := zRw_disc (upd σ (zat d' r k) (zDv u' xb' sb' wb)) d' 4 r hr c
        have a2 := zRw_disc σ d' 4 r hr c
        dsimp only at a1 a2
        rw [a1, a2]
        by_cases z : c = k
        · subst z; rw [n3, o3]
        · rw [ofd 4 c z]
    · have hne : 5 * d' + r ≠ 5 * d + i := fun z2 => z (by omega)
      have hcg : ∀ c, c < zcol d' → upd σ (zat d i k) (zDv u' xb' sb' wb) (zat d' r c) = σ (zat d' r c) := fun c hc => other d' r c hd' hr hc (fun z2 => z ⟨z2.1, z2.2.1⟩)
      obtain ⟨p1, p2, p3⟩ := L3 d' r hd' hr
      rw [h32, h33, h34, upd_n hne, upd_n hne, p1, p2, p3]
      exact ⟨(zdcl_cg 1 _ hcg).symm, (zdcl_cg 2 _ hcg).symm, (zdcl_cg 4 _ hcg).symm⟩
  · by_cases z : d' = d ∧ r = i ∧ c = k
    · obtain ⟨rfl, rfl, rfl⟩ := z
      rw [hU, if_pos rfl, upd_s, dv_div _ _ _ hu']
    · rw [other d' r c hd' hr hc z, hU, if_neg (fun z2 => z (zat_inj hd' hr hc hd hi hk (by
        have g1 := zat_ge (b := d') (r := r) (c := c)
        have g2 := zat_ge (b := d) (r := i) (c := k)
        omega)))]
      exact L5 d' r c hd' hr hc
