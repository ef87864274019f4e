-- ===== the law: wear, six bits a disc =====
/-- the first n discs of a long -/
def zpk (U : Nat → Nat) (j : Nat) : Nat → Nat
  | 0 => 0
  | n + 1 => zpk U j n + U (10 * j + n) * 64 ^ n
theorem zpk_lt {U : Nat → Nat} (hU : ∀ a, U a < 64) (j : Nat) : ∀ n, zpk U j n < 64 ^ n := by
  intro n
  induction n with
  | zero => exact Nat.zero_lt_one
  | succ n ih =>
    rw [zpk, Nat.pow_succ]
    have := Nat.mul_le_mul_right (64 ^ n) (show U (10 * j + n) ≤ 63 by have := hU (10 * j + n); omega)
    omega
theorem zpk_at {U : Nat → Nat} (hU : ∀ a, U a < 64) (j i : Nat) : ∀ n, i < n → zpk U j n / 64 ^ i % 64 = U (10 * j + i) := by
  intro n
  induction n with
  | zero => intro h; omega
  | succ n ih =>
    intro h
    rw [zpk]
    by_cases e : i = n
    · subst e
      have hp : 0 < 64 ^ i := Nat.pow_pos (by decide)
      rw [Nat.add_mul_div_right _ _ hp, Nat.div_eq_of_lt (zpk_lt hU j i), Nat.zero_add, Nat.mod_eq_of_lt (hU _)]
    · have hp : 0 < 64 ^ i := Nat.pow_pos (by decide)
      obtain ⟨k, rfl⟩ : ∃ k, n = i + (k + 1) := ⟨n - i - 1, by omega⟩
      have e2 : U (10 * j + (i + (k + 1))) * 64 ^ (i + (k + 1)) = (64 * (U (10 * j + (i + (k + 1))) * 64 ^ k)) * 64 ^ i := by
        rw [Nat.pow_add, Nat.pow_succ]
        simp only [Nat.mul_comm, Nat.mul_left_comm, Nat.mul_assoc]
      rw [e2, Nat.add_mul_div_right _ _ hp, Nat.add_mul_mod_self_left]
      exact ih (by omega)
def zup (U : Nat → Nat) (a v : Nat) : Nat → Nat := fun i => if i = a then v else U i
theorem zup_s (U : Nat → Nat) (a v : Nat) : zup U a v a = v := if_pos rfl
theorem zup_n {U : Nat → Nat} {a v i : Nat} (h : i ≠ a) : zup U a v i = U i := if_neg h
theorem zpk_up (U : Nat → Nat) (j i v : Nat) : ∀ n, zpk (zup U (10 * j + i) v) j n + (if i < n then U (10 * j + i) * 64 ^ i else 0) = zpk U j n + (if i < n then v * 64 ^ i else 0) := by
  intro n
  induction n with
  | zero => rfl
  | succ n ih =>
    rw [zpk, zpk]
    by_cases e : i = n
    · subst e
      rw [if_neg (Nat.lt_irrefl _), if_neg (Nat.lt_irrefl _)] at ih
      rw [if_pos (Nat.lt_succ_self _), if_pos (Nat.lt_succ_self _), zup_s]
      omega
    · rw [zup_n (show 10 * j + n ≠ 10 * j + i by omega)]
      by_cases c : i < n
      · rw [if_pos c, if_pos c] at ih
        rw [if_pos (by omega), if_pos (by omega)]
        omega
      · rw [if_neg c, if_neg c] at ih
        rw [if_neg (by omega), if_neg (by omega)]
        omega
theorem zpk_un (U : Nat → Nat) (j a v : Nat) (h : ∀ i, i < 10 → a ≠ 10 * j + i) : ∀ n, n ≤ 10 → zpk (zup U a v) j n = zpk U j n := by
  intro n
  induction n with
  | zero => intro _; rfl
  | succ n ih => intro hn; rw [zpk, zpk, ih (by omega), zup_n (fun z => h n (by omega) z.symm)]
/-- the longs tell the wear U -/
def zXx (M : zM) (U : Nat → Nat) : Prop := (∀ a, U a < 64) ∧ ∀ j, j < 20 → M.2.1 35 0 j = lN (zpk U j 10)
theorem j_shr {a d : Nat} {D : Int64} (hD : (D.toBitVec.smod 64).toNat = d) (h : a < 2 ^ 62) : lN a >>> D = lN (a / 2 ^ d) := by
  have hd : a / 2 ^ d ≤ a := Nat.div_le_self _ _
  apply Int64.toInt_inj.mp
  have e : (lN a >>> D).toInt = (lN a).toInt >>> d := by
    rw [← hD]
    exact BitVec.toInt_sshiftRight ..
  have l1 : (lN a).toInt = (a : Int) := lg_ofNat_toInt (show a < 2 ^ 63 by omega)
  have l2 : (lN (a / 2 ^ d)).toInt = ((a / 2 ^ d : Nat) : Int) := lg_ofNat_toInt (show a / 2 ^ d < 2 ^ 63 by omega)
  rw [e, Int.shiftRight_eq_div_pow, l1, l2]
  rfl
theorem j_smod : ∀ k, k < 64 → (((nI k).toInt64 &&& 63).toBitVec.smod 64).toNat = k := by decide +kernel
theorem zlsr_lN {a k : Nat} (hk : k < 64) (h : a < 2 ^ 62) : zlsr (lN a) (nI k) = lN (a / 2 ^ k) := j_shr (j_smod k hk) h
theorem p64 (i : Nat) : (64 : Nat) ^ i = 2 ^ (6 * i) := by rw [Nat.pow_mul]
theorem zat_idx (d r c : Nat) : ((120 * nI d) + (nI (zcol d) * nI r)) + nI c = nI (zat d r c - 28) := by
  rw [show (120 : Int32) = nI 120 from rfl, pk_mul, pk_mul, nI_add, nI_add]
  refine congrArg nI ?_
  unfold zat
  omega
theorem zat_200 {d r c : Nat} (hd : d < 2) (hr : r < 5) (hc : c < zcol d) : zat d r c - 28 < 200 := by
  unfold zat
  rcases (show d = 0 ∨ d = 1 by omega) with rfl | rfl
  · have e : zcol 0 = 24 := rfl
    rw [e] at hc ⊢
    omega
  · have e : zcol 1 = 16 := rfl
    rw [e] at hc ⊢
    omega
theorem lw_wear {M : zM} {U : Nat → Nat} (h : zXx M U) {d r c : Nat} (hd : d < 2) (hr : r < 5) (hc : c < zcol d) : zd_L_wear [zR 35 0, zI (nI d), zI (nI r), zI (nI c)] M = zs (nI (U (zat d r c - 28))) M := by
  have ha := zat_200 hd hr hc
  rw [en_L_wear, bk_L_wear_0, zbi (lw_columns d hd M), bk_L_wear_8, zat_idx]
  generalize zat d r c - 28 = a at ha ⊢
  have e10 : nI a / 10 = nI (a / 10) := pk_div (by omega) (by decide) (by decide)
  have er : zrm (nI a) 10 = nI (a % 10) := pk_rem (by omega) (by decide) (by decide)
  have hlt := zpk_lt h.1 (a / 10) 10
  have hP : zpk U (a / 10) 10 < 2 ^ 60 := by rw [p64] at hlt; exact hlt
  rw [e10, if_neg (ix_in (show a / 10 < 20 by omega) (by decide)), ix_cl (by omega), h.2 (a / 10) (by omega), bk_L_wear_22, er, show (6 : Int32) = nI 6 from rfl, pk_mul, zlsr_lN (by omega) (by omega), ← p64]
  have e : (lN (zpk U (a / 10) 10 / 64 ^ (a % 10)) &&& 63) = lN (zpk U (a / 10) 10 / 64 ^ (a % 10) % 64) := by
    apply uj_inj
    have hq : zpk U (a / 10) 10 / 64 ^ (a % 10) ≤ zpk U (a / 10) 10 := Nat.div_le_self _ _
    rw [uj_and, uj_lN (by omega), uj_lN (by omega), show uj 63 = 2 ^ 6 - 1 from rfl, Nat.and_two_pow_sub_one_eq_mod]
  rw [e, zpk_at h.1 (a / 10) (a % 10) 10 (by omega), show 10 * (a / 10) + a % 10 = a by omega, lN_i]
/-- only the wear differs -/
def zF35 (M M' : zM) : Prop := M'.1 = M.1 ∧ M'.2.2 = M.2.2 ∧ ∀ c m, ¬ (c = 35 ∧ m = 0) → M'.2.1 c m = M.2.1 c m
theorem zXx.put {M : zM} {U : Nat → Nat} (h : zXx M U) {a v : Nat} (ha : a < 200) (hv : v < 64) {y : Int64} (hy : M.2.1 35 0 (a / 10) + y = lN (zpk (zup U a v) (a / 10) 10)) : zXx (M.1, zst M.2.1 35 0 (vp_updL (M.2.1 35 0) (a / 10) (M.2.1 35 0 (a / 10) + y)), M.2.2) (zup U a v) ∧ zF35 M (M.1, zst M.2.1 35 0 (vp_updL (M.2.1 35 0) (a / 10) (M.2.1 35 0 (a / 10) + y)), M.2.2) := by
  refine ⟨⟨fun i => ?_, fun j hj => ?_⟩, rfl, rfl, fun c m z => zst_ne _ _ z⟩
  · by_cases e : i = a
    · rw [e, zup_s]; exact hv
    · rw [zup_n e]; exact h.1 i
  · dsimp only
    rw [zst_self]
    by_cases e : j = a / 10
    · rw [e, pk_uLs]; exact hy
    · rw [pk_uLn e, h.2 j hj, zpk_un U j a v (fun i hi z => e (by omega)) 10 (Nat.le_refl _)]
theorem uj_neg : ∀ u, u < 64 → uj (-(nI u)).toInt64 = (2 ^ 64 - u) % 2 ^ 64 := by decide +kernel
theorem lw_wears_1 {M : zM} {U : Nat → Nat} (h : zXx M U) {d r c : Nat} (hd : d < 2) (hr : r < 5) (hc : c < zcol d) (hu : U (zat d r c - 28) < 63) : ∃ M', zd_L_wears [zR 35 0, zI (nI d), zI (nI r), zI (nI c), zI 1] M = some (none, M') ∧ zXx M' (zup U (zat d r c - 28) (U (zat d r c - 28) + 1)) ∧ zF35 M M' := by
  have ha := zat_200 hd hr hc
  rw [en_L_wears, bk_L_wears_0, zbi (lw_columns d hd M), bk_L_wears_8, zat_idx]
  generalize zat d r c - 28 = a at ha hu ⊢
  have e10 : nI a / 10 = nI (a / 10) := pk_div (by omega) (by decide) (by decide)
  have er : zrm (nI a) 10 = nI (a % 10) := pk_rem (by omega) (by decide) (by decide)
  rw [e10, if_neg (ix_in (show a / 10 < 20 by omega) (by decide)), ix_cl (by omega), bk_L_wears_23, if_neg (ix_in (show a / 10 < 20 by omega) (by decide)), ix_cl (by omega), bk_L_wears_37, er, show (6 : Int32) = nI 6 from rfl, pk_mul]
  refine ⟨_, rfl, h.put ha (by omega) ?_⟩
  have hp := zpk_up U (a / 10) (a % 10) (U a + 1) 10
  rw [show 10 * (a / 10) + a % 10 = a by omega, if_pos (by omega), if_pos (by omega), Nat.succ_mul] at hp
  have hlt : zpk (zup U a (U a + 1)) (a / 10) 10 < 64 ^ 10 := zpk_lt (fun i => by
    by_cases e : i = a
    · rw [e, zup_s]; omega
    · rw [zup_n e]; exact h.1 i) _ _
  rw [p64] at hlt
  have hk : 64 ^ (a % 10) ≤ 64 ^ 9 := Nat.pow_le_pow_right (by decide) (by omega)
  rw [h.2 _ (by omega)]
  have e1 : zlsl ((1 : Int32).toInt64) (nI (6 * (a % 10))) = lN (64 ^ (a % 10)) := by
    apply uj_inj
    rw [uj_shl _ _ (by omega), show uj ((1 : Int32).toInt64) = 1 from rfl, Nat.one_mul, ← p64, uj_lN (by omega), Nat.mod_eq_of_lt (by omega)]
  rw [e1, lN_add]
  refine congrArg lN ?_
  omega
theorem lw_wears_0 {M : zM} {U : Nat → Nat} (h : zXx M U) {d r c : Nat} (hd : d < 2) (hr : r < 5) (hc : c < zcol d) : ∃ M', zd_L_wears [zR 35 0, zI (nI d), zI (nI r), zI (nI c), zI (-(nI (U (zat d r c - 28))))] M = some (none, M') ∧ zXx M' (zup U (zat d r c - 28) 0) ∧ zF35 M M' := by
  have ha := zat_200 hd hr hc
  rw [en_L_wears, bk_L_wears_0, zbi (lw_columns d hd M), bk_L_wears_8, zat_idx]
  generalize zat d r c - 28 = a at ha ⊢
  have e10 : nI a / 10 = nI (a / 10) := pk_div (by omega) (by decide) (by decide)
  have er : zrm (nI a) 10 = nI (a % 10) := pk_rem (by omega) (by decide) (by decide)
  rw [e10, if_neg (ix_in (show a / 10 < 20 by omega) (by decide)), ix_cl (by omega), bk_L_wears_23, if_neg (ix_in (show a / 10 < 20 by omega) (by decide)), ix_cl (by omega), bk_L_wears_37, er, show (6 : Int32) = nI 6 from rfl, pk_mul]
  refine ⟨_, rfl, h.put ha (by omega) ?_⟩
  have hp := zpk_up U (a / 10) (a % 10) 0 10
  rw [show 10 * (a / 10) + a % 10 = a by omega, if_pos (by omega), if_pos (by omega), Nat.zero_mul] at hp
  have hlt := zpk_lt h.1 (a / 10) 10
  rw [p64] at hlt
  have hk : 64 ^ (a % 10) ≤ 64 ^ 9 := Nat.pow_le_pow_right (by decide) (by omega)
  have hu := h.1 a
  rw [h.2 _ (by omega)]
  generalize zpk U (a / 10) 10 = P at hp hlt ⊢
  generalize zpk (zup U a 0) (a / 10) 10 = P' at hp ⊢
  have e1 : uj (zlsl (-(nI (U a))).toInt64 (nI (6 * (a % 10)))) = (2 ^ 64 - U a * 64 ^ (a % 10)) % 2 ^ 64 := by
    rw [uj_shl _ _ (by omega), uj_neg _ hu, ← p64, Nat.mod_mul_mod, Nat.mul_sub_right_distrib]
    have hq : 1 ≤ 64 ^ (a % 10) := Nat.pow_pos (by decide)
    obtain ⟨k, hk2⟩ : ∃ k, 64 ^ (a % 10) = k + 1 := ⟨64 ^ (a % 10) - 1, by omega⟩
    generalize U a * 64 ^ (a % 10) = q at hp ⊢
    rw [hk2, Nat.mul_succ]
    have : 2 ^ 64 * k + 2 ^ 64 - q = (2 ^ 64 - q) + 2 ^ 64 * k := by omega
    rw [this, Nat.add_mul_mod_self_left]
  apply uj_inj
  have ea : ∀ x y : Int64, uj (x + y) = (uj x + uj y) % 2 ^ 64 := fun x y => BitVec.toNat_add _ _
  rw [ea, e1, uj_lN (by omega), uj_lN (by omega)]
  generalize U a * 64 ^ (a % 10) = q at hp ⊢
  by_cases z : q = 0
  · subst z
    rw [Nat.sub_zero, Nat.mod_self, Nat.add_zero, Nat.mod_eq_of_lt (by omega)]
    omega
  · rw [Nat.mod_eq_of_lt (show 2 ^ 64 - q < 2 ^ 64 by omega), show P + (2 ^ 64 - q) = P' + 2 ^ 64 by omega, Nat.add_mod_right, Nat.mod_eq_of_lt (by omega)]
