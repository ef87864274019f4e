-- ===== the law: its rows tell a state =====
theorem zdcl_cg {σ τ : Nat → Int32} {b r : Nat} (w : Int32) : ∀ n, (∀ c, c < n → τ (zat b r c) = σ (zat b r c)) → zdcl τ b r w n = zdcl σ b r w n := by
  intro n
  induction n with
  | zero => intro _; rfl
  | succ n ih => intro h; rw [zdcl, zdcl, ih (fun c hc => h c (by omega)), h n (by omega)]
/-- g, l, n, b, k, w and the wear tell s -/
def zLS (M : zM) (σ : Nat → Int32) (U : Nat → Nat) : Prop :=
  (∀ i, i < 8 → M.1 29 0 i = σ i) ∧ (∃ N, N ≤ 10 ∧ σ 0 = nI N ∧ ∀ w, w < N → M.1 30 0 w = σ (8 + 2 * w) ∧ M.1 31 0 w = σ (9 + 2 * w)) ∧
  (∀ d r, d < 2 → r < 5 → M.1 32 0 (5 * d + r) = zdc σ d r 1 ∧ M.1 33 0 (5 * d + r) = zdc σ d r 2 ∧ M.1 34 0 (5 * d + r) = zdc σ d r 4) ∧ zXx M U ∧
  ∀ d r c, d < 2 → r < 5 → c < zcol d → σ (zat d r c) / 8 = nI (U (zat d r c - 28))
/-- only rows of the law's differ -/
def zFl (M M' : zM) : Prop := M'.2.2 = M.2.2 ∧ (∀ q m, ¬ (29 ≤ q ∧ q ≤ 34) → M'.1 q m = M.1 q m) ∧ ∀ q m, q ≠ 35 → M'.2.1 q m = M.2.1 q m
theorem zFl.rf (M : zM) : zFl M M := ⟨rfl, fun _ _ _ => rfl, fun _ _ _ => rfl⟩
theorem zFl.tr {M M' M'' : zM} (h : zFl M M') (h' : zFl M' M'') : zFl M M'' := ⟨h'.1.trans h.1, fun q m z => (h'.2.1 q m z).trans (h.2.1 q m z), fun q m z => (h'.2.2 q m z).trans (h.2.2 q m z)⟩
/-- s when a picture was wanted -/
def ztau (σ : Nat → Int32) (d : Nat) (W : Nat → Nat → Bool) : Nat → Int32 := fun j =>
  if 28 + 120 * d ≤ j ∧ j < 28 + 120 * d + zcol d * 5 then zvn (σ j) (W ((j - (28 + 120 * d)) / zcol d) ((j - (28 + 120 * d)) % zcol d)) (σ 7)
  else if j = 4 + d then σ (4 + d) + nI (zwF σ d W 5 0) else if j = 1 then σ 1 + nI (zwW σ d W 5 0) else σ j
theorem zat_in {d r c : Nat} (hr : r < 5) (hc : c < zcol d) : 28 + 120 * d ≤ zat d r c ∧ zat d r c < 28 + 120 * d + zcol d * 5 ∧ (zat d r c - (28 + 120 * d)) / zcol d = r ∧ (zat d r c - (28 + 120 * d)) % zcol d = c := by
  have h1 : zcol d * (r + 1) ≤ zcol d * 5 := Nat.mul_le_mul_left _ hr
  rw [Nat.mul_succ] at h1
  unfold zat
  refine ⟨by omega, by omega, ?_, ?_⟩
  · rw [show 28 + 120 * d + zcol d * r + c - (28 + 120 * d) = c + zcol d * r by omega, Nat.add_mul_div_left _ _ (by omega), Nat.div_eq_of_lt hc, Nat.zero_add]
  · rw [show 28 + 120 * d + zcol d * r + c - (28 + 120 * d) = c + zcol d * r by omega, Nat.add_mul_mod_self_left, Nat.mod_eq_of_lt hc]
theorem ztau_wa (σ : Nat → Int32) (d : Nat) (W : Nat → Nat → Bool) : zWA σ d W 5 0 (ztau σ d W) := by
  have hcg := zcol_ge d
  refine ⟨fun r c hr hc _ => ?_, fun j hj h4 h1 => ?_, ?_, ?_⟩
  · obtain ⟨a1, a2, a3, a4⟩ := zat_in (d := d) hr hc
    unfold ztau
    rw [if_pos ⟨a1, a2⟩, a3, a4]
  · unfold ztau
    rw [if_neg (fun z => ?_), if_neg h4, if_neg h1]
    have e : j - (28 + 120 * d) < 5 * zcol d := by omega
    refine hj ((j - (28 + 120 * d)) / zcol d) ((j - (28 + 120 * d)) % zcol d) ((Nat.div_lt_iff_lt_mul (by omega)).mpr e) (Nat.mod_lt _ (by omega)) (Or.inl ((Nat.div_lt_iff_lt_mul (by omega)).mpr e)) ?_
    have := Nat.div_add_mod (j - (28 + 120 * d)) (zcol d)
    unfold zat
    omega
  · unfold ztau
    rw [if_neg (by omega), if_pos rfl]
  · unfold ztau
    rw [if_neg (by omega), if_neg (by omega), if_pos rfl]
theorem ztau_lo {σ : Nat → Int32} {d : Nat} {W : Nat → Nat → Bool} {j : Nat} (h : j < 28) (h4 : j ≠ 4 + d) (h1 : j ≠ 1) : ztau σ d W j = σ j := by
  unfold ztau
  rw [if_neg (by omega), if_neg h4, if_neg h1]
theorem ztau_o {σ : Nat → Int32} {d d' r c : Nat} {W : Nat → Nat → Bool} (hd : d < 2) (hd' : d' < 2) (h : d' ≠ d) (hr : r < 5) (hc : c < zcol d') : ztau σ d W (zat d' r c) = σ (zat d' r c) := by
  have hg := zat_ge (b := d') (r := r) (c := c)
  exact (ztau_wa σ d W).2.1 _ (fun r' c' hr' hc' _ z => h (zat_inj hd' hr hc hd hr' hc' z).1) (by omega) (by omega)
theorem zq_ct (x : Int32) (n : Nat) (f : Nat → Bool) (hn : n ≤ 32) (h : ∀ i, (ui x).testBit i = (decide (i < n) && f i)) : zq x = zsm (fun i => (f i).toNat) n := by
  have hs : ∀ n, zct n f = zsm (fun i => (f i).toNat) n := by
    intro n
    induction n with
    | zero => rfl
    | succ n ih => rw [zct_1, zsm, ih]
  rw [zq_eq, zpc_ct, show 32 = n + (32 - n) by omega, zct_add, zct_false (32 - n) _ (fun i hi => by rw [h, decide_eq_false (by omega), Bool.false_and]), Nat.add_zero, ← hs]
  exact zct_congr n _ _ (fun i hi => by rw [h, decide_eq_true hi, Bool.true_and])
theorem lw_want {B d : Nat} {M : zM} {σ : Nat → Int32} {U : Nat → Nat} {x s : Int32} {G : Nat → Int32} {g W : Nat → Nat → Bool} (hB : B ≤ 62) (hd : d < 2) (hW : zW B σ) (hL : zLS M σ U) (hg : zRw G g) (hi : zIn g W d)
    (hG : (x = 0 ∧ ∀ r, r < 5 → G r = 0) ∨ (¬ x = 0 ∧ ∀ r, r < 5 → ∀ M, zd_L_picture [zI x, zI (nI r), zI s] M = zs (G r) M)) :
    ∃ M' U', zd_L_want [zR 29 0, zR 32 0, zR 33 0, zR 34 0, zR 35 0, zI (nI d), zI x, zI s] M = some (none, M') ∧ zLS M' (ztau σ d W) U' ∧ zFl M M' := by
  obtain ⟨L1, ⟨N, N1, N2, N3⟩, L3, L4, L5⟩ := hL
  have hcl := zcol_le d
  have t := ztau_wa σ d W
  have hb := fun c r (hc : c < zcol d) (hr : r < 5) => wa_bits hd (show B < 2 ^ 25 by omega) hW t c r hc hr
  have h32 : zRw (fun r => M.1 32 0 (5 * d + r)) (zfD σ d 1) := fun r hr c => by
    show (ui (M.1 32 0 (5 * d + r))).testBit c = _
    rw [(L3 d r hd hr).1]; exact zRw_disc σ d 1 r hr c
  have h33 : zRw (fun r => M.1 33 0 (5 * d + r)) (zfD σ d 2) := fun r hr c => by
    show (ui (M.1 33 0 (5 * d + r))).testBit c = _
    rw [(L3 d r hd hr).2.1]; exact zRw_disc σ d 2 r hr c
  have hF := (h32.xor hg).nd h33
  have hfc : ∀ r c, r < 5 → c < zcol d → ((zfD σ d 1 c r ^^ g c r) && !zfD σ d 2 c r) = zfl (σ (zat d r c)) (W r c) := fun r c hr hc => by
    rw [(hb c r hc hr).2.2.2.2, (hi c r hr).1 hc]
  have hfo : ∀ r c, r < 5 → ¬ c < zcol d → ((zfD σ d 1 c r ^^ g c r) && !zfD σ d 2 c r) = false := fun r c hr hc => by
    rw [(hi c r hr).2 hc, zfD_out _ _ _ _ _ hc]; rfl
  have hu : ∀ r c, r < 5 → c < zcol d → U ((120 * d + zcol d * r) + c) ≤ B ∧ σ (zat d r c) / 8 = nI (U ((120 * d + zcol d * r) + c)) ∧ zwn (σ (zat d r c)) (W r c) (σ 7) = (zfl (σ (zat d r c)) (W r c) && decide (σ 7 ≤ nI (U ((120 * d + zcol d * r) + c) + 1))) ∧ ztau σ d W (zat d r c) / 8 = nI (U ((120 * d + zcol d * r) + c) + (zfl (σ (zat d r c)) (W r c)).toNat) := fun r c hr hc => by
    obtain ⟨u, u1, u2, u3, u4⟩ := (hb c r hc hr).2.2.2.1
    have e := L5 d r c hd hr hc
    rw [zat_c] at e
    have hlt := L4.1 ((120 * d + zcol d * r) + c)
    have e2 : U ((120 * d + zcol d * r) + c) = u := (nI_eq (by omega) (by omega)).mp (e.symm.trans u2)
    rw [e2]
    exact ⟨u1, u2, u4, u3⟩
  obtain ⟨M', e1, o1, o2, o3, o4, o5, o6, o7, o8, o9⟩ := lw_want_out (M0 := M) (U0 := U) (d := d) (x := x) (s := s) (life := σ 7) (FR := fun r => (M.1 32 0 (5 * d + r) ^^^ G r) &&& (M.1 33 0 (5 * d + r) ^^^ (-1))) (G := G) (F := fun r c => zfl (σ (zat d r c)) (W r c)) (S := fun r c => zwn (σ (zat d r c)) (W r c) (σ 7)) hd (L1 7 (by decide)) (fun r hr => rfl)
    (fun r c hr hc => by rw [hF r hr c, decide_eq_true (show c < 24 by omega), Bool.true_and]; exact hfc r c hr hc) (fun r hr => Nat.lt_of_lt_of_le (zRw_lt hF r hr) (by decide)) (fun r c hr hc => (hu r c hr hc).2.2.1) (fun r c hr hc => by have := (hu r c hr hc).1; omega) hG 5 0 none none none none M (by omega)
    ⟨rfl, fun _ _ _ => rfl, fun _ _ _ => rfl, fun _ _ _ => rfl, by rw [zsm]; exact (Int32.add_zero _).symm, by rw [zsm]; exact (Int32.add_zero _).symm, fun _ _ => ⟨rfl, rfl, rfl⟩, fun q hq => absurd hq (Nat.not_lt_zero q), by rw [zwV_0]; exact L4⟩
  refine ⟨M', _, by rw [en_L_want, bk_L_want_0]; exact e1, ⟨fun i hi' => ?_, ⟨N, N1, ?_, fun w hw => ?_⟩, fun d' r hd' hr => ?_, o9, fun d' r c hd' hr hc => ?_⟩, o1, fun q m z => o2 q m (by omega), fun q m z => o3 q m (by omega)⟩
  · by_cases z1 : i = 1
    · subst z1
      rw [o5, L1 1 (by decide), t.2.2.2]
      rfl
    · by_cases z4 : i = 4 + d
      · subst z4
        rw [o6, L1 (4 + d) hi', t.2.2.1]
        refine congrArg (fun z => σ (4 + d) + nI z) ?_
        show _ = zsm (fun r => zsm (fun c => (zfl (σ (zat d r c)) (W r c)).toNat) (zcol d)) 5 + 0
        rw [Nat.add_zero]
        refine zsm_congr (fun r hr => ?_)
        rw [zq_ct _ (zcol d) (fun c => (zfD σ d 1 c r ^^ g c r) && !zfD σ d 2 c r) (by omega) (fun i => ?_)]
        · exact zsm_congr (fun c hc => by rw [hfc r c hr hc])
        · rw [hF r hr i]
          by_cases z : i < zcol d
          · rw [decide_eq_true z, decide_eq_true (show i < 24 by omega)]
          · have h0 := hfo r i hr z
            show (decide (i < 24) && ((zfD σ d 1 i r ^^ g i r) && !zfD σ d 2 i r)) = _
            rw [h0, Bool.and_false, Bool.and_false]
      · rw [o4 i z1 z4, L1 i hi', ztau_lo (by omega) z4 z1]
  · rw [ztau_lo (by omega) (by omega) (by omega)]; exact N2
  · rw [o2 30 0 (by decide), o2 31 0 (by decide), ztau_lo (by omega) (by omega) (by omega), ztau_lo (by omega) (by omega) (by omega)]
    exact N3 w hw
  · by_cases z : d' = d
    · subst z
      obtain ⟨p1, p2, p3⟩ := o8 r hr
      refine ⟨ui_inj (Nat.eq_of_testBit_eq (fun c => ?_)), ui_inj (Nat.eq_of_testBit_eq (fun c => ?_)), ui_inj (Nat.eq_of_testBit_eq (fun c => ?_))⟩
      · rw [p1]
        have h1 := (h32.xor hF) r hr c
        dsimp only at h1
        rw [h1, zRw_disc (ztau σ d' W) d' 1 r hr c]
        by_cases hc : c < zcol d'
        · rw [(hb c r hc hr).1, ← (hi c r hr).1 hc]
        · rw [hfo r c hr hc, zfD_out _ _ _ _ _ hc, zfD_out _ _ _ _ _ hc]; rfl
      · rw [p3 c, zRw_disc (ztau σ d' W) d' 2 r hr c]
        have h1 := h33 r hr c
        dsimp only at h1
        rw [h1]
        by_cases hc : c < zcol d'
        · rw [(hb c r hc hr).2.1, decide_eq_true hc, decide_eq_true (show c < 24 by omega), Bool.true_and, Bool.true_and, Bool.true_and]
        · rw [decide_eq_false hc, zfD_out _ _ _ _ _ hc, zfD_out _ _ _ _ _ hc]; simp
      · rw [p2, hg r hr c, zRw_disc (ztau σ d' W) d' 4 r hr c]
        by_cases hc : c < zcol d'
        · rw [(hb c r hc hr).2.2.1, ← (hi c r hr).1 hc]
        · rw [(hi c r hr).2 hc, zfD_out _ _ _ _ _ hc]
    · obtain ⟨p1, p2, p3⟩ := o7 (5 * d' + r) (by omega)
      obtain ⟨q1, q2, q3⟩ := L3 d' r hd' hr
      have hcg : ∀ c, c < zcol d' → ztau σ d W (zat d' r c) = σ (zat d' r c) := fun c hc => ztau_o hd hd' z hr hc
      exact ⟨by rw [p1, q1]; exact (zdcl_cg 1 _ hcg).symm, by rw [p2, q2]; exact (zdcl_cg 2 _ hcg).symm, by rw [p3, q3]; exact (zdcl_cg 4 _ hcg).symm⟩
  · by_cases z : d' = d
    · subst z
      rw [(hu r c hr hc).2.2.2, zat_c, zwV_i hr hc]
    · rw [ztau_o hd hd' z hr hc, L5 d' r c hd' hr hc, zat_c, zwV_o]
      have h5 : zcol d' * (r + 1) ≤ zcol d' * 5 := Nat.mul_le_mul_left _ hr
      rw [Nat.mul_succ] at h5
      have hcl' := zcol_le d'
      omega
