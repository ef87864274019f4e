-- ===== the class: one disc of a blind changes; flips that would be =====
theorem zfD_upd {σ : Nat → Int32} {b r0 c0 : Nat} (hb : b < 2) (hr0 : r0 < 5) (hc0 : c0 < zcol b) (v w : Int32) (c r : Nat) (hr : r < 5) : zfD (upd σ (zat b r0 c0) v) b w c r = if c = c0 ∧ r = r0 then !decide (v &&& w = 0) else zfD σ b w c r := by
  by_cases hc : c < zcol b
  · unfold zfD
    rw [decide_eq_true hc, Bool.true_and, Bool.true_and]
    by_cases e : c = c0 ∧ r = r0
    · rw [if_pos e, e.1, e.2, upd_s]
    · rw [if_neg e, upd_n (fun z => by
        obtain ⟨-, q1, q2⟩ := zat_inj hb hr hc hb hr0 hc0 z
        exact e ⟨q2, q1⟩)]
  · rw [zfD_out _ _ _ _ _ hc, zfD_out _ _ _ _ _ hc, if_neg (fun z => hc (by rw [z.1]; exact hc0))]
theorem gb_up {M M' : zM} {n b r0 c0 u u' : Nat} {ρ : Nat → Int32} {x s w x' s' : Bool} (hb : b < 2) (hr0 : r0 < 5) (hc0 : c0 < zcol b) (hu : u < 2 ^ 27) (hu' : u' < 2 ^ 27) (hG : zGB M n b ρ) (e : ρ (zat b r0 c0) = zDv u x s w) (h0 : M'.1 0 n = M.1 0 n)
    (d1 : zDt M' (4 * n) (fun c r => if c = c0 ∧ r = r0 then x' else zfD ρ b 1 c r)) (d2 : zDt M' (4 * n + 1) (fun c r => if c = c0 ∧ r = r0 then s' else zfD ρ b 2 c r)) (d3 : zDt M' (4 * n + 2) (zfD ρ b 4))
    (hv : ∀ c r, c < zcol b → r < 5 → M'.1 25 n (5 * c + r) = if c = c0 ∧ r = r0 then nI u' else ρ (zat b r c) / 8) : zGB M' n b (upd ρ (zat b r0 c0) (zDv u' x' s' w)) := by
  obtain ⟨g0, g6, -, -, -, -⟩ := hG
  have hz := zat_ge (b := b) (r := r0) (c := c0)
  have hd := zfD_dv hc0 hu e
  refine ⟨by rw [h0]; exact g0, by rw [h0, upd_n (by omega)]; exact g6, d1.cg (fun c r _ hr => ?_), d2.cg (fun c r _ hr => ?_), d3.cg (fun c r _ hr => ?_), fun c r hc hr => ?_⟩
  · rw [zfD_upd hb hr0 hc0 _ _ c r hr, dv_1 x' s' w hu', show (!decide (zbI x' = 0)) = x' by cases x' <;> rfl]
  · rw [zfD_upd hb hr0 hc0 _ _ c r hr, dv_2 x' s' w hu', show (!decide (nI (2 * s'.toNat) = 0)) = s' by cases s' <;> rfl]
  · rw [zfD_upd hb hr0 hc0 _ _ c r hr, dv_4 x' s' w hu', show (!decide (nI (4 * w.toNat) = 0)) = w by cases w <;> rfl]
    by_cases q : c = c0 ∧ r = r0
    · rw [if_pos q, q.1, q.2]; exact hd.2.2
    · rw [if_neg q]
  · rw [hv c r hc hr]
    by_cases q : c = c0 ∧ r = r0
    · rw [if_pos q, q.1, q.2, upd_s, dv_div _ _ _ hu']
    · rw [if_neg q, upd_n (fun z => by
        obtain ⟨-, q1, q2⟩ := zat_inj hb hr hc hb hr0 hc0 z
        exact q ⟨q2, q1⟩)]
theorem if_same {p : Prop} [Decidable p] {x y : Bool} (h : p → x = y) : (if p then x else y) = y := by split; exact h ‹_›; rfl
/-- zGB looks at one blind's part of s alone -/
theorem zGB.cg {M : zM} {n b : Nat} {σ τ : Nat → Int32} (h : zGB M n b σ) (e4 : τ (4 + b) = σ (4 + b)) (e : ∀ c r, c < zcol b → r < 5 → τ (zat b r c) = σ (zat b r c)) : zGB M n b τ := by
  have hz : ∀ w c r, r < 5 → zfD σ b w c r = zfD τ b w c r := fun w c r hr => by
    by_cases hc : c < zcol b
    · unfold zfD; rw [e c r hc hr]
    · rw [zfD_out _ _ _ _ _ hc, zfD_out _ _ _ _ _ hc]
  obtain ⟨a1, a2, a3, a4, a5, a6⟩ := h
  exact ⟨a1, a2.trans e4.symm, a3.cg (fun c r _ hr => hz _ c r hr), a4.cg (fun c r _ hr => hz _ c r hr), a5.cg (fun c r _ hr => hz _ c r hr), fun c r hc hr => by rw [e c r hc hr]; exact a6 c r hc hr⟩
theorem zrp_o (σ : Nat → Int32) (b c : Nat) (j : Nat) : ∀ r, (∀ r', r' < r → j ≠ zat b r' c) → zrp σ b c r j = σ j := by
  intro r
  induction r with
  | zero => intro _; rfl
  | succ r ih => intro h; rw [zrp, upd_n (h r (by omega))]; exact ih (fun r' h' => h r' (by omega))
theorem cp_mend_loop {n b c B : Nat} {σ : Nat → Int32} (hb : b < 2) (hc : c < zcol b) (hB : B < 2 ^ 25) (hW : zW B σ) (M0 : zM) : ∀ (j r : Nat) (M : zM), r + j = 5 → zGB M n b (zrp σ b c r) → zFB M0 M n →
    ∃ M', zev zC_X0_mend 4 ([some (zR 0 n), some (zI (nI c)), some (zI (nI (zrpn σ b c r))), some (zI (nI r))], [], M) = zs (nI (zrpn σ b c 5)) M' ∧ zGB M' n b (zrp σ b c 5) ∧ zFB M0 M' n := by
  have hl := zcol_le b
  intro j
  induction j with
  | zero =>
    intro r M e hG hF
    have er : r = 5 := by omega
    subst er
    exact ⟨M, by rw [bk_X0_mend_4, if_pos (by decide), bk_X0_mend_56], hG, hF⟩
  | succ j ih =>
    intro r M e hG hF
    obtain ⟨u, x, s, w, hu, ev⟩ := hW.2.2.2 b r c hb (by omega) hc
    have ev' : zrp σ b c r (zat b r c) = zDv u x s w := (zrp_at σ hb hc r (by omega) r (Nat.le_refl _) (by omega)).trans ev
    have hdv := zfD_dv hc (by omega) ev'
    have hat := cp_at hG.2.2.2.1 c r (by omega) (by omega)
    obtain ⟨M2, L, R, e2, j2, p2⟩ := cp_put hG.2.2.2.1 c r (by omega) (by omega) false
    have hcnt : nI (zrpn σ b c r) + zbI s = nI (zrpn σ b c (r + 1)) := by
      show _ = nI (zrpn σ b c r + (!decide ((σ (zat b r c) &&& 2) = 0)).toNat)
      rw [ev, dv_2 x s w (by omega), zbI_nI, nI_add]
      cases s <;> rfl
    rw [bk_X0_mend_4, show (5 : Int32) = nI 5 from rfl, if_neg (nI_ge (by omega) (by omega)), bk_X0_mend_9, zbi (cp_hasColumn n _ M), bk_X0_mend_14, if_neg (zne0 ⟨nI_pos' (by omega), by rw [hG.1]; exact nI_lt hc (by omega)⟩), bk_X0_mend_17, zbi hat, bk_X0_mend_27, show (0 : Int32) = zbI false from rfl, zbv e2, hdv.2.1, hcnt, bk_X0_mend_39, show (5 : Int32) = nI 5 from rfl, pk_mul, nI_add, show c * 5 + r = 5 * c + r by omega, if_neg (ix_in (by omega) (by decide)), ix_cl (by omega), bk_X0_mend_50, nI_1]
    have hG2 : zGB (zst M2.1 25 n (upd (M2.1 25 n) (5 * c + r) 0), M2.2) n b (zrp σ b c (r + 1)) := by
      rw [zrp, ev, dv_5 x s w (by omega)]
      refine gb_up hb (by omega) hc (by omega) (by decide) hG ev' ?_ ?_ ?_ ?_ ?_
      · dsimp only; rw [zst_ne (c := 25) (n := n) (c' := 0) (n' := n) M2.1 _ (by omega), j2.1]
      · exact zDt.cg (j2.ne (by omega) hG.2.2.1) (fun c' r' _ _ => (if_same (fun z => by rw [z.1, z.2]; exact hdv.1.symm)).symm)
      · exact j2.dt p2
      · exact j2.ne (by omega) hG.2.2.2.2.1
      · intro c' r' hc' hr'
        dsimp only
        rw [zst_self, j2.1]
        by_cases q : c' = c ∧ r' = r
        · rw [if_pos q, q.1, q.2, upd_s]; rfl
        · rw [if_neg q, upd_n (by omega)]; exact hG.2.2.2.2.2 c' r' hc' hr'
    exact ih (r + 1) _ (by omega) hG2 (hF.tr ((j2.fb (by omega) (by omega)).tr ⟨rfl, fun c m _ b => zst_ne M2.1 _ b, fun _ _ _ => rfl⟩))
theorem cp_mend {M : zM} {n b c B : Nat} {σ : Nat → Int32} (hb : b < 2) (hc : c < zcol b) (hB : B < 2 ^ 25) (hW : zW B σ) (hG : zGB M n b σ) : ∃ M', zd_X0_mend [zR 0 n, zI (nI c)] M = zs (nI (zrpn σ b c 5)) M' ∧ zGB M' n b (zrp σ b c 5) ∧ zFB M M' n := by
  obtain ⟨M', e, h⟩ := cp_mend_loop (n := n) hb hc hB hW M 5 0 M rfl hG (zFB.rf M n)
  exact ⟨M', by rw [en_X0_mend, bk_X0_mend_0]; exact e, h⟩
