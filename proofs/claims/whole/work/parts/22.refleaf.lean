-- ===== the reference: small methods =====
abbrev zs (x : Int32) (M : zM) : Option zQ := some (some (zI x), M)
theorem zite (c : Prop) [Decidable c] (a b : Int32) (M : zM) : (if c then (some (some (zI a), M) : Option zQ) else some (some (zI b), M)) = some (some (zI (if c then a else b)), M) := by split <;> rfl
theorem zbi {o : Option zQ} {v : zV} {M' : zM} {st : List zV} {C : Nat → zX} {pc : Nat} {L : List (Option zV)} (h : o = some (some v, M')) : o.bind (fun r => zev C pc (L, zpush r.1 st, r.2)) = zev C pc (L, v :: st, M') := by rw [h]; rfl
theorem zbv {o : Option zQ} {M' : zM} {st : List zV} {C : Nat → zX} {pc : Nat} {L : List (Option zV)} (h : o = some (none, M')) : o.bind (fun r => zev C pc (L, zpush r.1 st, r.2)) = zev C pc (L, st, M') := by rw [h]; rfl
def zb (p : Prop) [Decidable p] : Int32 := if p then 1 else 0
theorem zb_t {p : Prop} [Decidable p] (h : p) : zb p = 1 := if_pos h
theorem zb_f {p : Prop} [Decidable p] (h : ¬ p) : zb p = 0 := if_neg h
theorem zb_01 (p : Prop) [Decidable p] : zb p = 0 ∨ zb p = 1 := by unfold zb; split <;> simp
theorem zb_0 {p : Prop} [Decidable p] : zb p = 0 ↔ ¬ p := by
  by_cases h : p
  · rw [zb_t h]; exact ⟨fun z => absurd z (by decide), fun z => absurd h z⟩
  · rw [zb_f h]; exact ⟨fun _ => h, fun _ => rfl⟩
theorem zb_congr {p q : Prop} [Decidable p] [Decidable q] (h : p ↔ q) : zb p = zb q := by
  by_cases hp : p
  · rw [zb_t hp, zb_t (h.mp hp)]
  · rw [zb_f hp, zb_f (fun z => hp (h.mpr z))]
theorem i_le {a b : Int32} : a ≤ b ↔ ¬ b < a := Int32.not_lt.symm
theorem sp_in (a l h : Int32) (M : zM) : zd_X8_in [zI a, zI l, zI h] M = zs (zb (l ≤ a ∧ a ≤ h)) M := by
  rw [en_X8_in, bk_X8_in_0]
  by_cases h1 : a < l
  · rw [if_pos h1, bk_X8_in_14, bk_X8_in_15, if_pos (Or.inl rfl), zb_f (fun z => i_le.mp z.1 h1)]
  · rw [if_neg h1, bk_X8_in_5]
    by_cases h2 : h < a
    · rw [if_pos h2, bk_X8_in_14, bk_X8_in_15, if_pos (Or.inl rfl), zb_f (fun z => i_le.mp z.2 h2)]
    · rw [if_neg h2, bk_X8_in_10, bk_X8_in_15, if_pos (Or.inr rfl), zb_t ⟨i_le.mpr h1, i_le.mpr h2⟩]
theorem sp_isBlind (a : Int32) (M : zM) : zd_X8_isBlind [zI a] M = zs (zb (0 ≤ a ∧ a ≤ 1)) M := by
  rw [en_X8_isBlind, bk_X8_isBlind_0, zbi (sp_in _ _ _ _), bk_X8_isBlind_6, if_pos (zb_01 _)]
def zcolI (b : Int32) : Int32 := if b = 0 then 24 else 16
def zcol (b : Nat) : Nat := if b = 0 then 24 else 16
theorem sp_columns (b : Int32) (M : zM) : zd_X8_columns [zI b] M = zs (zcolI b) M := by
  rw [en_X8_columns, bk_X8_columns_0]
  unfold zcolI
  by_cases h : b = 0
  · rw [if_pos h, if_pos h, bk_X8_columns_4, bk_X8_columns_11]
  · rw [if_neg h, if_neg h, bk_X8_columns_9, bk_X8_columns_11]
theorem zcol_eq : ∀ b, b < 2 → zcolI (nI b) = nI (zcol b) := by decide
theorem zcol_le (b : Nat) : zcol b ≤ 24 := by unfold zcol; split <;> omega
theorem zcol_ge (b : Nat) : 16 ≤ zcol b := by unfold zcol; split <;> omega
theorem sp_isWord (w : Int32) (n : Nat) (M : zM) : zd_X8_isWord [zR 8 n, zI w] M = zs (zb (0 ≤ w ∧ w < M.1 29 0 0)) M := by
  rw [en_X8_isWord, bk_X8_isWord_0]
  by_cases h1 : w < 0
  · rw [if_pos h1, bk_X8_isWord_18, bk_X8_isWord_19, if_pos (Or.inl rfl), zb_f (fun z => i_le.mp z.1 h1)]
  · rw [if_neg h1, bk_X8_isWord_4]
    by_cases h2 : M.1 29 0 0 ≤ w
    · rw [if_pos h2, bk_X8_isWord_18, bk_X8_isWord_19, if_pos (Or.inl rfl), zb_f (fun z => i_le.mp h2 z.2)]
    · rw [if_neg h2, bk_X8_isWord_14, bk_X8_isWord_19, if_pos (Or.inr rfl), zb_t ⟨i_le.mpr h1, Int32.not_le.mp h2⟩]
/-- an index within bounds -/
theorem ix_in {n N : Nat} (h : n < N) (hN : N < 2 ^ 31) : ¬ (nI n < 0 ∨ N ≤ (nI n).toNatClampNeg) := nI_in h hN
theorem ix_cl {n : Nat} (h : n < 2 ^ 31) : (nI n).toNatClampNeg = n := nI_clamp h
theorem sp_letters (k n : Nat) (hk : k < 10) (M : zM) : zd_X8_letters [zR 8 n, zI (nI k)] M = zs (M.1 29 0 (8 + 2 * k)) M := by
  have e : (8 : Int32) + 2 * nI k = nI (8 + 2 * k) := by
    rw [← nI_add, ← pk_mul]; rfl
  rw [en_X8_letters, bk_X8_letters_0, e, if_neg (ix_in (by omega) (by decide)), ix_cl (by omega), bk_X8_letters_11]
/-- how many letters -/
def zmn : Nat → Nat → Nat
  | 0, _ => 0
  | n + 1, u => if u = 0 then 0 else zmn n (u / 32) + 1
abbrev mny (x : Int32) : Nat := zmn 7 (ui x)
theorem ui_s5 (x : Int32) : ui (zus x 5) = ui x / 32 := (rfl : ui (zus x 5) = ui x >>> 5).trans (Nat.shiftRight_eq_div_pow _ _)
theorem zmn_le (n u : Nat) : zmn n u ≤ n := by
  induction n generalizing u with
  | zero => exact Nat.le_refl 0
  | succ n ih => rw [zmn]; have := ih (u / 32); split <;> omega
theorem ui_0 {x : Int32} : x = 0 ↔ ui x = 0 := ⟨fun h => by rw [h]; rfl, fun h => ui_inj h⟩
theorem sp_many_loop (M : zM) : ∀ (k : Nat) (d : Option zV) (a x : Int32), ui x < 32 ^ k → zev zC_X8_many 4 ([d, some (zI a), some (zI x)], [], M) = zs (a + nI (zmn k (ui x))) M := by
  intro k
  induction k with
  | zero =>
    intro d a x h
    rw [Nat.pow_zero] at h
    rw [bk_X8_many_4, if_pos (ui_0.mpr (by omega)), bk_X8_many_18]
    rw [show zmn 0 (ui x) = 0 from rfl, show a + nI 0 = a from Int32.add_zero a]
  | succ k ih =>
    intro d a x h
    rw [bk_X8_many_4]
    by_cases hx : x = 0
    · rw [if_pos hx, bk_X8_many_18, zmn, if_pos (ui_0.mp hx), show a + nI 0 = a from Int32.add_zero a]
    · rw [if_neg hx, bk_X8_many_8, ih, ui_s5, zmn, if_neg (fun z => hx (ui_0.mpr z)), Int32.add_assoc]
      · rw [show (1 : Int32) + nI (zmn k (ui x / 32)) = nI (zmn k (ui x / 32) + 1) by rw [Int32.add_comm]; exact nI_1 _]
      · rw [ui_s5]
        rw [Nat.pow_succ] at h
        omega
theorem sp_many (x : Int32) (M : zM) : zd_X8_many [zI x] M = zs (nI (mny x)) M := by
  have h : ui x < 32 ^ 7 := Nat.lt_trans (ui_lt x) (by decide)
  rw [en_X8_many, bk_X8_many_0, sp_many_loop M 7 _ _ _ h]
  rw [show (0 : Int32) + nI (zmn 7 (ui x)) = nI (zmn 7 (ui x)) from Int32.zero_add _]
theorem sp_wide (x : Int32) (M : zM) : zd_X8_wide [zI x] M = zs (4 * nI (mny x) - 1) M := by
  rw [en_X8_wide, bk_X8_wide_0, zbi (sp_many _ _), bk_X8_wide_5]
/-- at how many shifts a word of m letters can stand on a blind -/
def zshf (m b : Nat) : Nat := zcol b + 2 - 4 * m
theorem zshf_I : ∀ m, m < 8 → ∀ b, b < 2 → (if 0 ≤ (nI (zcol b) - (4 * nI m - 1)) + 1 then (nI (zcol b) - (4 * nI m - 1)) + 1 else 0) = nI (zshf m b) := by decide +kernel
theorem sp_shifts (k b n : Nat) (hk : k < 10) (hb : b < 2) (M : zM) : zd_X8_shifts [zR 8 n, zI (nI k), zI (nI b)] M = zs (nI (zshf (mny (M.1 29 0 (8 + 2 * k))) b)) M := by
  rw [en_X8_shifts, bk_X8_shifts_0, zbi (sp_columns _ _), bk_X8_shifts_4, zbi (sp_letters k n hk M), bk_X8_shifts_9, zbi (sp_wide _ _), bk_X8_shifts_12, zcol_eq b hb, ← zshf_I _ (Nat.lt_of_le_of_lt (zmn_le 7 _) (by decide)) b hb]
  split
  · rw [bk_X8_shifts_24, bk_X8_shifts_25]
  · rw [bk_X8_shifts_20, bk_X8_shifts_25]
/-- where a disc stands in s -/
def zat (b r c : Nat) : Nat := 28 + 120 * b + zcol b * r + c
theorem sp_at (b r c : Nat) (hb : b < 2) (M : zM) : zd_X8_at [zI (nI b), zI (nI r), zI (nI c)] M = zs (nI (zat b r c)) M := by
  rw [en_X8_at, bk_X8_at_0, zbi (sp_columns _ _), bk_X8_at_11, zcol_eq b hb]
  have e : ((28 + (120 * nI b)) + (nI (zcol b) * nI r)) + nI c = nI (zat b r c) := by
    unfold zat
    rw [← nI_add, ← nI_add, ← nI_add, ← pk_mul, ← pk_mul]
    rfl
  rw [e]
theorem zat_lt {b r c : Nat} (hb : b < 2) (hr : r < 5) (hc : c < zcol b) : zat b r c < 228 := by
  unfold zat
  have e : b = 0 ∨ b = 1 := by omega
  rcases e with rfl | rfl
  · simp only [zcol] at *
    simp at hc ⊢
    omega
  · simp only [zcol] at *
    simp at hc ⊢
    omega
theorem zat_ge {b r c : Nat} : 28 ≤ zat b r c := by unfold zat; omega
theorem zat_inj {b r c b' r' c' : Nat} (hb : b < 2) (hr : r < 5) (hc : c < zcol b) (hb' : b' < 2) (hr' : r' < 5) (hc' : c' < zcol b') (h : zat b r c = zat b' r' c') : b = b' ∧ r = r' ∧ c = c' := by
  unfold zat at h
  have e : b = 0 ∨ b = 1 := by omega
  have e' : b' = 0 ∨ b' = 1 := by omega
  rcases e with rfl | rfl <;> rcases e' with rfl | rfl <;> simp [zcol] at hc hc' h ⊢ <;> omega
theorem sp_isColumn (a c : Int32) (M : zM) : zd_X8_isColumn [zI a, zI c] M = zs (zb ((0 ≤ a ∧ a ≤ 1) ∧ 0 ≤ c ∧ c ≤ zcolI a - 1)) M := by
  rw [en_X8_isColumn, bk_X8_isColumn_0, zbi (sp_isBlind _ _), bk_X8_isColumn_4]
  by_cases h1 : 0 ≤ a ∧ a ≤ 1
  · rw [if_neg (by rw [zb_0]; exact fun z => z h1), bk_X8_isColumn_7, zbi (sp_columns _ _), bk_X8_isColumn_13, zbi (sp_in _ _ _ _), bk_X8_isColumn_18]
    by_cases h2 : 0 ≤ c ∧ c ≤ zcolI a - 1
    · rw [if_neg (by rw [zb_0]; exact fun z => z h2), bk_X8_isColumn_21, bk_X8_isColumn_26, if_pos (Or.inr rfl), zb_t ⟨h1, h2⟩]
    · rw [if_pos (zb_0.mpr h2), bk_X8_isColumn_25, bk_X8_isColumn_26, if_pos (Or.inl rfl), zb_f (fun z => h2 z.2)]
  · rw [if_pos (zb_0.mpr h1), bk_X8_isColumn_25, bk_X8_isColumn_26, if_pos (Or.inl rfl), zb_f (fun z => h1 z.1)]
/-- the discs of a row that have something, as bits, up to column n -/
def zdcl (σ : Nat → Int32) (b r : Nat) (w : Int32) : Nat → Int32
  | 0 => 0
  | c + 1 => zdcl σ b r w c ||| (if σ (zat b r c) &&& w = 0 then (0 : Int32) else (1 : Int32) <<< (nI c &&& (31 : Int32)))
abbrev zdc (σ : Nat → Int32) (b r : Nat) (w : Int32) : Int32 := zdcl σ b r w (zcol b)
theorem sp_discs_loop (n b r : Nat) (w : Int32) (hb : b < 2) (hr : r < 5) (M : zM) : ∀ (k c : Nat), c + k = zcol b → zev zC_X8_discs 6 ([some (zR 8 n), some (zI (nI b)), some (zI (nI r)), some (zI w), some (zI (zdcl (M.1 29 0) b r w c)), some (zI (nI c))], [], M) = zs (zdc (M.1 29 0) b r w) M := by
  intro k
  induction k with
  | zero =>
    intro c hc
    rw [bk_X8_discs_6, zbi (sp_columns _ _), bk_X8_discs_12, zcol_eq b hb, if_pos (nI_le (by omega) (by have := zcol_le b; omega)), bk_X8_discs_51, show c = zcol b by omega]
  | succ k ih =>
    intro c hc
    have hcl := zcol_le b
    have hat := zat_lt hb hr (show c < zcol b by omega)
    rw [bk_X8_discs_6, zbi (sp_columns _ _), bk_X8_discs_12, zcol_eq b hb, if_neg (nI_ge (by omega) (by omega)), bk_X8_discs_15, zbi (sp_at b r c hb M), bk_X8_discs_28, if_neg (ix_in hat (by decide)), ix_cl (by omega), bk_X8_discs_29]
    have h := ih (c + 1) (by omega)
    rw [zdcl] at h
    split
    · rename_i h0
      rw [if_pos h0] at h
      rw [bk_X8_discs_41, bk_X8_discs_42, nI_1]
      exact h
    · rename_i h0
      rw [if_neg h0] at h
      rw [bk_X8_discs_34, bk_X8_discs_42, nI_1]
      exact h
theorem sp_discs (n b r : Nat) (w : Int32) (hb : b < 2) (hr : r < 5) (M : zM) : zd_X8_discs [zR 8 n, zI (nI b), zI (nI r), zI w] M = zs (zdc (M.1 29 0) b r w) M := by
  rw [en_X8_discs, bk_X8_discs_0]
  exact sp_discs_loop n b r w hb hr M (zcol b) 0 (by omega)
def zsm (f : Nat → Nat) : Nat → Nat
  | 0 => 0
  | n + 1 => zsm f n + f n
noncomputable abbrev zhv (σ : Nat → Int32) (b : Nat) (w : Int32) : Nat := zsm (fun r => zq (zdc σ b r w)) 5
theorem sp_have_loop (n b : Nat) (w : Int32) (hb : b < 2) (M : zM) : ∀ (k r : Nat), r + k = 5 → zev zC_X8_have 5 ([some (zR 8 n), some (zI (nI b)), some (zI w), some (zI (nI (zsm (fun r => zq (zdc (M.1 29 0) b r w)) r))), some (zI (nI r))], [], M) = zs (nI (zhv (M.1 29 0) b w)) M := by
  intro k
  induction k with
  | zero =>
    intro r hr
    rw [bk_X8_have_5, show (5 : Int32) = nI 5 from rfl, if_pos (nI_le (by omega) (by omega)), bk_X8_have_31, show r = 5 by omega]
  | succ k ih =>
    intro r hr
    rw [bk_X8_have_5, show (5 : Int32) = nI 5 from rfl, if_neg (nI_ge (by omega) (by omega)), bk_X8_have_11, zbi (sp_discs n b r w hb (by omega) M), bk_X8_have_20, zbi (sp_ones _ _), bk_X8_have_23, nI_add, nI_1]
    exact ih (r + 1) (by omega)
theorem sp_have (n b : Nat) (w : Int32) (hb : b < 2) (M : zM) : zd_X8_have [zR 8 n, zI (nI b), zI w] M = zs (nI (zhv (M.1 29 0) b w)) M := by
  rw [en_X8_have, bk_X8_have_0]
  exact sp_have_loop n b w hb M 5 0 rfl
