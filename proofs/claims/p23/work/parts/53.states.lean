-- ===== the class: a state; what belongs to it; copies =====
def zOw (c m k : Nat) : Prop := ((c = 4 ∨ c = 6 ∨ c = 20 ∨ c = 21 ∨ c = 22) ∧ m = k) ∨ ((c = 0 ∨ c = 25) ∧ m / 2 = k)
def zOj (c m k : Nat) : Prop := ((c = 23 ∨ c = 24) ∧ m = k) ∨ (c = 1 ∧ m / 8 = k)
/-- only state k differs -/
def zFS (M M' : zM) (k : Nat) : Prop := M'.2.2 = M.2.2 ∧ (∀ c m, ¬ zOw c m k → M'.1 c m = M.1 c m) ∧ ∀ c m, ¬ zOj c m k → M'.2.1 c m = M.2.1 c m
theorem zFS.rf (M : zM) (k : Nat) : zFS M M k := ⟨rfl, fun _ _ _ => rfl, fun _ _ _ => rfl⟩
theorem zFS.tr {M M' M'' : zM} {k : Nat} (h : zFS M M' k) (h' : zFS M' M'' k) : zFS M M'' k := ⟨h'.1.trans h.1, fun c m a => (h'.2.1 c m a).trans (h.2.1 c m a), fun c m a => (h'.2.2 c m a).trans (h.2.2 c m a)⟩
theorem zFW.fs {M M' : zM} {k : Nat} (h : zFW M M' k) : zFS M M' k := ⟨h.1, fun c m a => h.2.1 c m (fun z => a (Or.inl ⟨by omega, z.2⟩)), fun c m a => h.2.2 c m (fun z => a (Or.inl z))⟩
theorem zFB.fs {M M' : zM} {k b : Nat} (hb : b < 2) (h : zFB M M' (2 * k + b)) : zFS M M' k := ⟨h.1, fun c m a => h.2.1 c m (fun z => a (Or.inr (by omega))) (fun z => a (Or.inr (by omega))), fun c m a => h.2.2 c m (fun z => a (Or.inr (by omega)))⟩
theorem zFS.i (M : zM) (k : Nat) (f : Nat → Int32) : zFS M (zst M.1 4 k f, M.2) k := ⟨rfl, fun c m a => zst_ne M.1 f (fun z => a (Or.inl ⟨Or.inl z.1, z.2⟩)), fun _ _ _ => rfl⟩
/-- state k of the class is s -/
def zGS (M : zM) (k : Nat) (σ : Nat → Int32) : Prop := ∃ N, N ≤ 10 ∧ σ 0 = nI N ∧ zGW M k σ N ∧ (∀ b, b < 2 → zGB M (2 * k + b) b σ) ∧ M.1 4 k 3 = σ 6 ∧ M.1 4 k 4 = σ 7 ∧ M.1 4 k 5 = σ 1 ∧ M.1 4 k 6 = σ 2 ∧ M.1 4 k 7 = σ 3
theorem zGB.mv {M M' : zM} {n n' b : Nat} {σ : Nat → Int32} (h : zGB M n b σ) (h0 : M'.1 0 n' 0 = nI (zcol b)) (h6 : M'.1 0 n' 6 = M.1 0 n 6) (hj : ∀ i, i < 3 → M'.2.1 1 (4 * n' + i) 0 = M.2.1 1 (4 * n + i) 0 ∧ M'.2.1 1 (4 * n' + i) 1 = M.2.1 1 (4 * n + i) 1) (hw : ∀ j, j < 120 → M'.1 25 n' j = M.1 25 n j) : zGB M' n' b σ := by
  obtain ⟨a0, a6, a1, a2, a3, a4⟩ := h
  have hl := zcol_le b
  have e : ∀ i f, i < 3 → zDt M (4 * n + i) f → zDt M' (4 * n' + i) f := fun i f hi hd => by
    unfold zDt
    rw [(hj i hi).1, (hj i hi).2]
    exact hd
  exact ⟨h0, h6.trans a6, e 0 _ (by omega) a1, e 1 _ (by omega) a2, e 2 _ (by omega) a3, fun c r hc hr => (hw _ (by omega)).trans (a4 c r hc hr)⟩
theorem zGW.mv {M M' : zM} {k k' N : Nat} {σ : Nat → Int32} (hN : N ≤ 10) (h : zGW M k σ N) (h6 : M'.1 6 k' 0 = M.1 6 k 0) (h20 : ∀ j, j < 10 → M'.1 20 k' j = M.1 20 k j ∧ M'.1 21 k' j = M.1 21 k j ∧ M'.1 22 k' j = M.1 22 k j) (hj : ∀ j, j < 220 → M'.2.1 23 k' j = M.2.1 23 k j ∧ M'.2.1 24 k' j = M.2.1 24 k j) : zGW M' k' σ N := by
  refine ⟨h6.trans h.1, fun w hw => ?_⟩
  obtain ⟨a1, a2, a3, a4⟩ := h.2 w hw
  obtain ⟨b1, b2, b3⟩ := h20 w (by omega)
  refine ⟨b1.trans a1, b2.trans a2, b3.trans a3, fun s hs => ?_⟩
  obtain ⟨c1, c2⟩ := hj (22 * w + s) (by omega)
  rw [c1, c2]
  exact a4 s hs
/-- a change elsewhere -/
theorem zGS.fr {M M' : zM} {k : Nat} {σ : Nat → Int32} (h : zGS M k σ) (hi : ∀ c m, zOw c m k → M'.1 c m = M.1 c m) (hj : ∀ c m, zOj c m k → M'.2.1 c m = M.2.1 c m) : zGS M' k σ := by
  obtain ⟨N, hN, hs, hW, hB, h3, h4, h5, h6, h7⟩ := h
  have e4 := hi 4 k (Or.inl ⟨by omega, rfl⟩)
  refine ⟨N, hN, hs, hW.mv hN (by rw [hi 6 k (Or.inl ⟨by omega, rfl⟩)]) (fun j _ => ⟨by rw [hi 20 k (Or.inl ⟨by omega, rfl⟩)], by rw [hi 21 k (Or.inl ⟨by omega, rfl⟩)], by rw [hi 22 k (Or.inl ⟨by omega, rfl⟩)]⟩) (fun j _ => ⟨by rw [hj 23 k (Or.inl ⟨by omega, rfl⟩)], by rw [hj 24 k (Or.inl ⟨by omega, rfl⟩)]⟩), fun b hb => (hB b hb).mv (by rw [hi 0 (2 * k + b) (Or.inr ⟨by omega, by omega⟩)]; exact (hB b hb).1) (by rw [hi 0 (2 * k + b) (Or.inr ⟨by omega, by omega⟩)]) (fun i hi' => by rw [hj 1 (4 * (2 * k + b) + i) (Or.inr ⟨rfl, by omega⟩)]; exact ⟨rfl, rfl⟩) (fun j _ => by rw [hi 25 (2 * k + b) (Or.inr ⟨by omega, by omega⟩)]), by rw [e4]; exact h3, by rw [e4]; exact h4, by rw [e4]; exact h5, by rw [e4]; exact h6, by rw [e4]; exact h7⟩
theorem zFS.gs {M M' : zM} {k k' : Nat} {σ : Nat → Int32} (h : zFS M M' k') (hk : k ≠ k') (hG : zGS M k σ) : zGS M' k σ :=
  hG.fr (fun c m z => h.2.1 c m (fun z' => by unfold zOw at z z'; omega)) (fun c m z => h.2.2 c m (fun z' => by unfold zOj at z z'; omega))
/-- s counts up to 228 alone -/
theorem zGS.cg {M : zM} {k : Nat} {σ τ : Nat → Int32} (h : zGS M k σ) (e : ∀ j, j < 228 → τ j = σ j) : zGS M k τ := by
  obtain ⟨N, hN, hs, hW, hB, h3, h4, h5, h6, h7⟩ := h
  refine ⟨N, hN, (e 0 (by omega)).trans hs, ⟨hW.1, fun w hw => ?_⟩, fun b hb => (hB b hb).cg (e _ (by omega)) (fun c r hc hr => e _ (zat_lt hb hr hc)), h3.trans (e 6 (by omega)).symm, h4.trans (e 7 (by omega)).symm, h5.trans (e 1 (by omega)).symm, h6.trans (e 2 (by omega)).symm, h7.trans (e 3 (by omega)).symm⟩
  rw [e (8 + 2 * w) (by omega), e (9 + 2 * w) (by omega)]
  exact hW.2 w hw
-- copies
theorem cp_blind_copy {M : zM} {n n2 b : Nat} {σ : Nat → Int32} (hn : n ≠ n2) (h0 : M.1 0 n 0 = nI (zcol b)) (hG : zGB M n2 b σ) : ∃ M', zd_X0_copyFrom [zR 0 n, zR 0 n2] M = some (none, M') ∧ zGB M' n b σ ∧ zFB M M' n := by
  obtain ⟨M1, e1, j1⟩ := cp_copyFrom1 M (4 * n) (4 * n2) (by omega)
  obtain ⟨M2, e2, j2⟩ := cp_copyFrom1 M1 (4 * n + 1) (4 * n2 + 1) (by omega)
  obtain ⟨M3, e3, j3⟩ := cp_copyFrom1 M2 (4 * n + 2) (4 * n2 + 2) (by omega)
  have i3 : M3.1 = M.1 := (j3.1.trans j2.1).trans j1.1
  have f3 : zFB M M3 n := ((j1.fb (by omega) (by omega)).tr (j2.fb (by omega) (by omega))).tr (j3.fb (by omega) (by omega))
  have s4 : ∃ M4, zev zC_X0_copyFrom 33 ([some (zR 0 n), some (zR 0 n2)], [], M3) = some (none, M4) ∧ zFB M3 M4 n ∧ M4.2 = M3.2 ∧ M4.1 0 n 0 = M3.1 0 n 0 ∧ M4.1 0 n 6 = M3.1 0 n2 6 ∧ ∀ j, j < 120 → M4.1 25 n j = M3.1 25 n2 j := by
    have e0 : ∀ q, (zst M3.1 25 n (va_cpy (M3.1 25 n2) (M3.1 25 n) 0 0 120)) 0 q = M3.1 0 q := fun q => zw_ne M3 25 n _ 0 q (by omega)
    refine ⟨(zst (zst M3.1 25 n (va_cpy (M3.1 25 n2) (M3.1 25 n) 0 0 120)) 0 n (upd ((zst M3.1 25 n (va_cpy (M3.1 25 n2) (M3.1 25 n) 0 0 120)) 0 n) 6 ((zst M3.1 25 n (va_cpy (M3.1 25 n2) (M3.1 25 n) 0 0 120)) 0 n2 6)), M3.2), ?_, ⟨rfl, fun c m a1 a2 => ?_, fun _ _ _ => rfl⟩, rfl, ?_, ?_, fun j hj => ?_⟩
    · rw [bk_X0_copyFrom_33, bk_X0_copyFrom_51, bk_X0_copyFrom_59]
    · dsimp only; rw [zst_ne _ _ a1, zst_ne _ _ a2]
    · dsimp only; rw [zst_self, upd_n (by decide), e0]
    · dsimp only; rw [zst_self, upd_s, e0]
    · dsimp only; rw [zst_ne (c := 0) (n := n) (c' := 25) (n' := n) _ _ (by omega), zst_self, pk_cpy_in (by omega) (by omega)]
      rw [show 0 + (j - 0) = j by omega]
  obtain ⟨M4, e4, f4, t4, q0, q6, q25⟩ := s4
  refine ⟨M4, by rw [en_X0_copyFrom, bk_X0_copyFrom_0, zbv e1, bk_X0_copyFrom_11, zbv e2, bk_X0_copyFrom_22, zbv e3]; exact e4, hG.mv (q0.trans (by rw [i3]; exact h0)) (q6.trans (by rw [i3])) (fun i hi => ?_) (fun j hj => (q25 j hj).trans (by rw [i3])), f3.tr f4⟩
  rw [t4]
  rcases (show i = 0 ∨ i = 1 ∨ i = 2 by omega) with rfl | rfl | rfl
  · rw [Nat.add_zero, Nat.add_zero, j3.2.2.1 1 (4 * n) (by omega), j2.2.2.1 1 (4 * n) (by omega), j1.2.2.2.1, j1.2.2.2.2]
    exact ⟨rfl, rfl⟩
  · rw [j3.2.2.1 1 (4 * n + 1) (by omega), j2.2.2.2.1, j2.2.2.2.2, j1.2.2.1 1 (4 * n2 + 1) (by omega)]
    exact ⟨rfl, rfl⟩
  · rw [j3.2.2.2.1, j3.2.2.2.2, j2.2.2.1 1 (4 * n2 + 2) (by omega), j1.2.2.1 1 (4 * n2 + 2) (by omega)]
    exact ⟨rfl, rfl⟩
theorem cp_words_copy {M : zM} {k k2 N : Nat} {σ : Nat → Int32} (hk : k ≠ k2) (hN : N ≤ 10) (hG : zGW M k2 σ N) : ∃ M', zd_X6_copyFrom [zR 6 k, zR 6 k2] M = some (none, M') ∧ zGW M' k σ N ∧ zFW M M' k := by
  have s1 : ∃ Ma, zd_X6_copyFrom [zR 6 k, zR 6 k2] M = zev zC_X6_copyFrom 8 ([some (zR 6 k), some (zR 6 k2)], [], Ma) ∧ zFW M Ma k ∧ Ma.1 6 k 0 = M.1 6 k2 0 := ⟨_, by rw [en_X6_copyFrom, bk_X6_copyFrom_0], zFW.i M 6 k (upd (M.1 6 k) 0 (M.1 6 k2 0)) (by omega), by dsimp only; rw [zst_self, upd_s]⟩
  obtain ⟨Ma, a1, af, ag⟩ := s1
  have s2 : ∃ Mb, zev zC_X6_copyFrom 8 ([some (zR 6 k), some (zR 6 k2)], [], Ma) = zev zC_X6_copyFrom 23 ([some (zR 6 k), some (zR 6 k2)], [], Mb) ∧ zFW Ma Mb k ∧ Mb.1 6 k = Ma.1 6 k ∧ ∀ j, j < 10 → Mb.1 20 k j = Ma.1 20 k2 j := ⟨_, by rw [bk_X6_copyFrom_8], zFW.i Ma 20 k (va_cpy (Ma.1 20 k2) (Ma.1 20 k) 0 0 10) (by omega), zw_ne Ma 20 k (va_cpy (Ma.1 20 k2) (Ma.1 20 k) 0 0 10) 6 k (by omega), fun j hj => by dsimp only; rw [zst_self, pk_cpy_in (by omega) (by omega), show 0 + (j - 0) = j by omega]⟩
  obtain ⟨Mb, b1, bf, b6, bg⟩ := s2
  have s3 : ∃ Mc, zev zC_X6_copyFrom 23 ([some (zR 6 k), some (zR 6 k2)], [], Mb) = zev zC_X6_copyFrom 38 ([some (zR 6 k), some (zR 6 k2)], [], Mc) ∧ zFW Mb Mc k ∧ Mc.1 6 k = Mb.1 6 k ∧ Mc.1 20 k = Mb.1 20 k ∧ ∀ j, j < 10 → Mc.1 21 k j = Mb.1 21 k2 j := ⟨_, by rw [bk_X6_copyFrom_23], zFW.i Mb 21 k (va_cpy (Mb.1 21 k2) (Mb.1 21 k) 0 0 10) (by omega), zw_ne Mb 21 k (va_cpy (Mb.1 21 k2) (Mb.1 21 k) 0 0 10) 6 k (by omega), zw_ne Mb 21 k (va_cpy (Mb.1 21 k2) (Mb.1 21 k) 0 0 10) 20 k (by omega), fun j hj => by dsimp only; rw [zst_self, pk_cpy_in (by omega) (by omega), show 0 + (j - 0) = j by omega]⟩
  obtain ⟨Mc, c1, cf, c6, c20, cg⟩ := s3
  have s4 : ∃ Md, zev zC_X6_copyFrom 38 ([some (zR 6 k), some (zR 6 k2)], [], Mc) = zev zC_X6_copyFrom 53 ([some (zR 6 k), some (zR 6 k2)], [], Md) ∧ zFW Mc Md k ∧ Md.1 6 k = Mc.1 6 k ∧ Md.1 20 k = Mc.1 20 k ∧ Md.1 21 k = Mc.1 21 k ∧ ∀ j, j < 10 → Md.1 22 k j = Mc.1 22 k2 j := ⟨_, by rw [bk_X6_copyFrom_38], zFW.i Mc 22 k (va_cpy (Mc.1 22 k2) (Mc.1 22 k) 0 0 10) (by omega), zw_ne Mc 22 k (va_cpy (Mc.1 22 k2) (Mc.1 22 k) 0 0 10) 6 k (by omega), zw_ne Mc 22 k (va_cpy (Mc.1 22 k2) (Mc.1 22 k) 0 0 10) 20 k (by omega), zw_ne Mc 22 k (va_cpy (Mc.1 22 k2) (Mc.1 22 k) 0 0 10) 21 k (by omega), fun j hj => by dsimp only; rw [zst_self, pk_cpy_in (by omega) (by omega), show 0 + (j - 0) = j by omega]⟩
  obtain ⟨Md, d1, df, d6, d20, d21, dg⟩ := s4
  have s5 : ∃ Me, zev zC_X6_copyFrom 53 ([some (zR 6 k), some (zR 6 k2)], [], Md) = zev zC_X6_copyFrom 71 ([some (zR 6 k), some (zR 6 k2)], [], Me) ∧ zFW Md Me k ∧ Me.1 = Md.1 ∧ ∀ j, j < 220 → Me.2.1 23 k j = Md.2.1 23 k2 j := ⟨_, by rw [bk_X6_copyFrom_53], zFW.j Md 23 k (va_cpy (Md.2.1 23 k2) (Md.2.1 23 k) 0 0 220) (by omega), rfl, fun j hj => by dsimp only; rw [zst_self, pk_cpy_in (by omega) (by omega), show 0 + (j - 0) = j by omega]⟩
  obtain ⟨Me, e1, ef, ei, eg⟩ := s5
  have s6 : ∃ Mf, zev zC_X6_copyFrom 71 ([some (zR 6 k), some (zR 6 k2)], [], Me) = some (none, Mf) ∧ zFW Me Mf k ∧ Mf.1 = Me.1 ∧ Mf.2.1 23 k = Me.2.1 23 k ∧ ∀ j, j < 220 → Mf.2.1 24 k j = Me.2.1 24 k2 j := ⟨_, by rw [bk_X6_copyFrom_71, bk_X6_copyFrom_89], zFW.j Me 24 k (va_cpy (Me.2.1 24 k2) (Me.2.1 24 k) 0 0 220) (by omega), rfl, zst_ne (c := 24) (n := k) (c' := 23) (n' := k) Me.2.1 (va_cpy (Me.2.1 24 k2) (Me.2.1 24 k) 0 0 220) (by omega), fun j hj => by dsimp only; rw [zst_self, pk_cpy_in (by omega) (by omega), show 0 + (j - 0) = j by omega]⟩
  obtain ⟨Mf, f1, ff, fi, f23, fg⟩ := s6
  have hb := af.tr bf
  have hc := hb.tr cf
  have hd := hc.tr df
  have he := hd.tr ef
  refine ⟨Mf, ((((a1.trans b1).trans c1).trans d1).trans e1).trans f1, hG.mv hN ?_ (fun j hj => ⟨?_, ?_, ?_⟩) (fun j hj => ⟨?_, ?_⟩), he.tr ff⟩
  · rw [fi, ei, d6, c6, b6, ag]
  · rw [fi, ei, d20, c20, bg j hj, af.2.1 20 k2 (by omega)]
  · rw [fi, ei, d21, cg j hj, hb.2.1 21 k2 (by omega)]
  · rw [fi, ei, dg j hj, hc.2.1 22 k2 (by omega)]
  · rw [f23, eg j hj, hd.2.2 23 k2 (by omega)]
  · rw [fg j hj, he.2.2 24 k2 (by omega)]
theorem cp_state_copy {M : zM} {k k2 : Nat} {σ : Nat → Int32} (hk : k ≠ k2) (h0 : ∀ b, b < 2 → M.1 0 (2 * k + b) 0 = nI (zcol b)) (hG : zGS M k2 σ) : ∃ M', zd_X4_copyFrom [zR 4 k, zR 4 k2] M = some (none, M') ∧ zGS M' k σ ∧ zFS M M' k := by
  obtain ⟨N, hN, hs, hW, hB, h3, h4, h5, h6, h7⟩ := hG
  obtain ⟨M1, e1, g1, f1⟩ := cp_words_copy hk hN hW
  have b1 : ∀ b, b < 2 → zGB M1 (2 * k2 + b) b σ := fun b hb => (hB b hb).mv (by rw [f1.2.1 0 _ (by omega)]; exact (hB b hb).1) (by rw [f1.2.1 0 _ (by omega)]) (fun i hi => by rw [f1.2.2 1 _ (by omega)]; exact ⟨rfl, rfl⟩) (fun j _ => by rw [f1.2.1 25 _ (by omega)])
  obtain ⟨M2, e2, g2, f2⟩ := cp_blind_copy (n := 2 * k + 0) (n2 := 2 * k2 + 0) (by omega) (by rw [f1.2.1 0 _ (by omega)]; exact h0 0 (by omega)) (b1 0 (by omega))
  have b2 : zGB M2 (2 * k2 + 1) 1 σ := (b1 1 (by omega)).mv (by rw [f2.2.1 0 _ (by omega) (by omega)]; exact (b1 1 (by omega)).1) (by rw [f2.2.1 0 _ (by omega) (by omega)]) (fun i hi => by rw [f2.2.2 1 _ (by omega)]; exact ⟨rfl, rfl⟩) (fun j _ => by rw [f2.2.1 25 _ (by omega) (by omega)])
  obtain ⟨M3, e3, g3, f3⟩ := cp_blind_copy (n := 2 * k + 1) (n2 := 2 * k2 + 1) (by omega) (by rw [f2.2.1 0 _ (by omega) (by omega), f1.2.1 0 _ (by omega)]; exact h0 1 (by omega)) b2
  have g2' : zGB M3 (2 * k + 0) 0 σ := g2.mv (by rw [f3.2.1 0 _ (by omega) (by omega)]; exact g2.1) (by rw [f3.2.1 0 _ (by omega) (by omega)]) (fun i hi => by rw [f3.2.2 1 _ (by omega)]; exact ⟨rfl, rfl⟩) (fun j _ => by rw [f3.2.1 25 _ (by omega) (by omega)])
  have g1' : zGW M3 k σ N := g1.mv hN (by rw [f3.2.1 6 _ (by omega) (by omega), f2.2.1 6 _ (by omega) (by omega)]) (fun j _ => by rw [f3.2.1 20 _ (by omega) (by omega), f2.2.1 20 _ (by omega) (by omega), f3.2.1 21 _ (by omega) (by omega), f2.2.1 21 _ (by omega) (by omega), f3.2.1 22 _ (by omega) (by omega), f2.2.1 22 _ (by omega) (by omega)]; exact ⟨rfl, rfl, rfl⟩) (fun j _ => by rw [f3.2.2 23 _ (by omega), f2.2.2 23 _ (by omega), f3.2.2 24 _ (by omega), f2.2.2 24 _ (by omega)]; exact ⟨rfl, rfl⟩)
  have hfs := (f1.fs.tr (f2.fs (by omega))).tr (f3.fs (by omega))
  have h4M : ∀ j, M3.1 4 k2 j = M.1 4 k2 j := fun j => by rw [hfs.2.1 4 k2 (fun z => by unfold zOw at z; omega)]
  -- the settings and counters
  have st : ∀ (Ma : zM) (i : Nat), zFS M3 Ma k → Ma.2 = M3.2 → (∀ c m, ¬ (c = 4 ∧ m = k) → Ma.1 c m = M3.1 c m) → ∃ Mb, Mb = (zst Ma.1 4 k (upd (Ma.1 4 k) i (Ma.1 4 k2 i)), Ma.2) ∧ zFS M3 Mb k ∧ Mb.2 = M3.2 ∧ (∀ c m, ¬ (c = 4 ∧ m = k) → Mb.1 c m = M3.1 c m) ∧ Mb.1 4 k i = M.1 4 k2 i ∧ ∀ j, j ≠ i → Mb.1 4 k j = Ma.1 4 k j := by
    intro Ma i hf h2 ho
    refine ⟨_, rfl, hf.tr (zFS.i Ma k _), h2, fun c m a => (zst_ne Ma.1 _ a).trans (ho c m a), ?_, fun j hj => ?_⟩
    · dsimp only; rw [zst_self, upd_s, ho 4 k2 (by omega), h4M]
    · dsimp only; rw [zst_self, upd_n hj]
  obtain ⟨Ma, qa, fa, ta, oa, va, na⟩ := st M3 3 (zFS.rf M3 k) rfl (fun _ _ _ => rfl)
  obtain ⟨Mb, qb, fb, tb, ob, vb, nb⟩ := st Ma 4 fa ta oa
  obtain ⟨Mc, qc, fc, tc, oc, vc, nc⟩ := st Mb 5 fb tb ob
  obtain ⟨Md, qd, fd, td, od, vd, nd⟩ := st Mc 6 fc tc oc
  obtain ⟨Me, qe, fe, te, oe, ve, ne⟩ := st Md 7 fd td od
  refine ⟨Me, ?_, ⟨N, hN, hs, g1'.mv hN (by rw [oe 6 k (by omega)]) (fun j _ => by rw [oe 20 k (by omega), oe 21 k (by omega), oe 22 k (by omega)]; exact ⟨rfl, rfl, rfl⟩) (fun j _ => by rw [te]; exact ⟨rfl, rfl⟩), fun b hb => ?_, ?_, ?_, ?_, ?_, ?_⟩, hfs.tr fe⟩
  · rw [en_X4_copyFrom, bk_X4_copyFrom_0, zbv e1, bk_X4_copyFrom_11]
    rw [show 2 * k = 2 * k + 0 from rfl, show 2 * k2 = 2 * k2 + 0 from rfl, zbv e2, bk_X4_copyFrom_22, zbv e3, bk_X4_copyFrom_33, ← qa, bk_X4_copyFrom_41, ← qb, bk_X4_copyFrom_49, ← qc, bk_X4_copyFrom_57, ← qd, bk_X4_copyFrom_65, ← qe, bk_X4_copyFrom_73]
  · have hb3 : zGB M3 (2 * k + b) b σ := by
      rcases (show b = 0 ∨ b = 1 by omega) with rfl | rfl
      · exact g2'
      · exact g3
    exact hb3.mv (by rw [oe 0 _ (by omega)]; exact hb3.1) (by rw [oe 0 _ (by omega)]) (fun i _ => by rw [te]; exact ⟨rfl, rfl⟩) (fun j _ => by rw [oe 25 _ (by omega)])
  · rw [ne 3 (by decide), nd 3 (by decide), nc 3 (by decide), nb 3 (by decide), va]; exact h3
  · rw [ne 4 (by decide), nd 4 (by decide), nc 4 (by decide), vb]; exact h4
  · rw [ne 5 (by decide), nd 5 (by decide), vc]; exact h5
  · rw [ne 6 (by decide), vd]; exact h6
  · rw [ve]; exact h7
