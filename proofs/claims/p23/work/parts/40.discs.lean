-- ===== a disc's number: wear, bright, stuck, wanted =====
theorem zor8 {u t j : Nat} (ht : t < 8) (hj : j < 8) : (8 * u + t) ||| j = 8 * u + (t ||| j) := by
  have hq : t ||| j < 2 ^ 3 := Nat.or_lt_two_pow (by omega) (by omega)
  apply Nat.eq_of_testBit_eq
  intro i
  rw [Nat.testBit_or, show 8 * u + t = 2 ^ 3 * u + t from rfl, show 8 * u + (t ||| j) = 2 ^ 3 * u + (t ||| j) from rfl, Nat.testBit_two_pow_mul_add _ (by omega), Nat.testBit_two_pow_mul_add _ hq, Nat.testBit_or]
  split
  · rfl
  · rw [Nat.testBit_lt_two_pow (x := j) (i := i) (Nat.lt_of_lt_of_le (by omega : j < 2 ^ 3) (Nat.pow_le_pow_right (by decide) (by omega))), Bool.or_false]
theorem zxor8 {u t j : Nat} (ht : t < 8) (hj : j < 8) : (8 * u + t) ^^^ j = 8 * u + (t ^^^ j) := by
  have hq : t ^^^ j < 2 ^ 3 := Nat.xor_lt_two_pow (by omega) (by omega)
  apply Nat.eq_of_testBit_eq
  intro i
  rw [Nat.testBit_xor, show 8 * u + t = 2 ^ 3 * u + t from rfl, show 8 * u + (t ^^^ j) = 2 ^ 3 * u + (t ^^^ j) from rfl, Nat.testBit_two_pow_mul_add _ (by omega), Nat.testBit_two_pow_mul_add _ hq, Nat.testBit_xor]
  split
  · rfl
  · rw [Nat.testBit_lt_two_pow (x := j) (i := i) (Nat.lt_of_lt_of_le (by omega : j < 2 ^ 3) (Nat.pow_le_pow_right (by decide) (by omega))), Bool.xor_false]
theorem zan8 {u t j : Nat} (ht : t < 8) (hj : j < 8) : (8 * u + t) &&& j = t &&& j := by
  rw [zand4 3 (8 * u + t) j, show (8 * u + t) % 2 ^ 3 = t by omega, show j % 2 ^ 3 = j by omega, show j / 2 ^ 3 = 0 by omega, Nat.and_zero, Nat.mul_zero, Nat.add_zero]
theorem zan8h {u t j : Nat} (ht : t < 8) (hj : j < 8) (hu : u < 2 ^ 29) : (8 * u + t) &&& (4294967288 + j) = 8 * u + (t &&& j) := by
  rw [zand4 3 (8 * u + t) (4294967288 + j), show (8 * u + t) % 2 ^ 3 = t by omega, show (4294967288 + j) % 2 ^ 3 = j by omega, show (4294967288 + j) / 2 ^ 3 = 2 ^ 29 - 1 by omega, show (8 * u + t) / 2 ^ 3 = u by omega, Nat.and_two_pow_sub_one_eq_mod, Nat.mod_eq_of_lt hu]
  omega
def zdt (b s w : Bool) : Nat := b.toNat + 2 * s.toNat + 4 * w.toNat
theorem zdt_lt (b s w : Bool) : zdt b s w < 8 := by cases b <;> cases s <;> cases w <;> decide
def zDv (u : Nat) (b s w : Bool) : Int32 := nI (8 * u + zdt b s w)
theorem dv_and {u : Nat} (b s w : Bool) (hu : u < 2 ^ 27) (m : Int32) (j : Nat) (hj : j < 8) (hm : ui m = j) : zDv u b s w &&& m = nI (zdt b s w &&& j) := by
  have ht := zdt_lt b s w
  have hl : zdt b s w &&& j < 2 ^ 3 := Nat.and_lt_two_pow _ (by omega)
  apply ui_inj
  rw [ui_and, hm, zDv, ui_nI (by omega), zan8 ht hj, ui_nI (by omega)]
theorem dv_andh {u : Nat} (b s w : Bool) (hu : u < 2 ^ 27) (m : Int32) (j : Nat) (hj : j < 8) (hm : ui m = 4294967288 + j) : zDv u b s w &&& m = nI (8 * u + (zdt b s w &&& j)) := by
  have ht := zdt_lt b s w
  have hl : zdt b s w &&& j < 2 ^ 3 := Nat.and_lt_two_pow _ (by omega)
  apply ui_inj
  rw [ui_and, hm, zDv, ui_nI (by omega), zan8h ht hj (by omega), ui_nI (by omega)]
theorem dv_or {u t : Nat} (ht : t < 8) (hu : u < 2 ^ 27) (m : Int32) (j : Nat) (hj : j < 8) (hm : ui m = j) : nI (8 * u + t) ||| m = nI (8 * u + (t ||| j)) := by
  have hl : t ||| j < 2 ^ 3 := Nat.or_lt_two_pow (by omega) (by omega)
  apply ui_inj
  rw [ui_or, hm, ui_nI (by omega), zor8 ht hj, ui_nI (by omega)]
theorem dv_xor {u t : Nat} (ht : t < 8) (hu : u < 2 ^ 27) (m : Int32) (j : Nat) (hj : j < 8) (hm : ui m = j) : nI (8 * u + t) ^^^ m = nI (8 * u + (t ^^^ j)) := by
  have hl : t ^^^ j < 2 ^ 3 := Nat.xor_lt_two_pow (by omega) (by omega)
  apply ui_inj
  rw [ui_xor, hm, ui_nI (by omega), zxor8 ht hj, ui_nI (by omega)]
theorem dv_1 {u : Nat} (b s w : Bool) (hu : u < 2 ^ 27) : zDv u b s w &&& 1 = zbI b := by rw [dv_and b s w hu 1 1 (by decide) rfl]; cases b <;> cases s <;> cases w <;> rfl
theorem dv_2 {u : Nat} (b s w : Bool) (hu : u < 2 ^ 27) : zDv u b s w &&& 2 = nI (2 * s.toNat) := by rw [dv_and b s w hu 2 2 (by decide) rfl]; cases b <;> cases s <;> cases w <;> rfl
theorem dv_4 {u : Nat} (b s w : Bool) (hu : u < 2 ^ 27) : zDv u b s w &&& 4 = nI (4 * w.toNat) := by rw [dv_and b s w hu 4 4 (by decide) rfl]; cases b <;> cases s <;> cases w <;> rfl
theorem dv_5 {u : Nat} (b s w : Bool) (hu : u < 2 ^ 27) : zDv u b s w &&& 5 = zDv 0 b false w := by rw [dv_and b s w hu 5 5 (by decide) rfl]; cases b <;> cases s <;> cases w <;> rfl
theorem dv_div {u : Nat} (b s w : Bool) (hu : u < 2 ^ 27) : zDv u b s w / 8 = nI u := by
  have ht := zdt_lt b s w
  rw [zDv, show (8 : Int32) = nI 8 from rfl, pk_div (by omega) (by decide) (by decide), show (8 * u + zdt b s w) / 8 = u by omega]
theorem dv_v1 {u : Nat} (b s w : Bool) (hu : u < 2 ^ 27) (x : Bool) : zv1 (zDv u b s w) x = zDv u b s x := by
  rw [zv1, dv_andh b s w hu (-5) 3 (by decide) rfl]
  cases x
  · rw [if_neg (by decide), dv_or (Nat.lt_of_le_of_lt Nat.and_le_right (by decide)) hu 0 0 (by decide) rfl, zDv]
    cases b <;> cases s <;> cases w <;> rfl
  · rw [if_pos rfl, dv_or (Nat.lt_of_le_of_lt Nat.and_le_right (by decide)) hu 4 4 (by decide) rfl, zDv]
    cases b <;> cases s <;> cases w <;> rfl
theorem dv_fl {u : Nat} (b s w : Bool) (hu : u < 2 ^ 27) (x : Bool) : zfl (zDv u b s w) x = (!s && (b ^^ x)) := by
  rw [zfl, dv_v1 b s w hu x, dv_2 b s x hu, dv_1 b s x hu]
  cases b <;> cases s <;> cases x <;> rfl
theorem dv_v2 {u : Nat} (b s w : Bool) (hu : u < 2 ^ 27) (x : Bool) : zv2 (zDv u b s w) x = zDv (u + 1) (!b) s x := by
  rw [zv2, dv_v1 b s w hu x, zDv, dv_xor (zdt_lt b s x) hu 1 1 (by decide) rfl, show (8 : Int32) = nI 8 from rfl, nI_add, zDv]
  cases b <;> cases s <;> cases x <;> (refine congrArg nI ?_; rw [show ∀ a, 8 * (u + 1) + a = 8 * u + a + 8 from fun a => by omega]; rfl)
theorem dv_wn {u : Nat} (b s w : Bool) (hu : u < 2 ^ 26) (x : Bool) (life : Int32) : zwn (zDv u b s w) x life = (!s && (b ^^ x) && decide (life ≤ nI (u + 1))) := by
  rw [zwn, dv_fl b s w (by omega) x, dv_v2 b s w (by omega) x, dv_div _ _ _ (by omega)]
  refine congrArg (fun z => (!s && (b ^^ x)) && z) ?_
  by_cases c : nI (u + 1) < life
  · rw [decide_eq_true c, decide_eq_false (Int32.not_le.mpr c)]; rfl
  · rw [decide_eq_false c, decide_eq_true (Int32.not_lt.mp c)]; rfl
theorem dv_vn {u : Nat} (b s w : Bool) (hu : u < 2 ^ 26) (x : Bool) (life : Int32) : zvn (zDv u b s w) x life = if (!s && (b ^^ x)) = true then zDv (u + 1) x (decide (life ≤ nI (u + 1))) x else zDv u b s x := by
  rw [zvn, dv_fl b s w (by omega) x, dv_wn b s w hu x life, dv_v2 b s w (by omega) x, dv_v1 b s w (by omega) x]
  cases s with
  | true => rfl
  | false =>
    cases b <;> cases x
    · rfl
    · have e1 : (!false && (false ^^ true)) = true := rfl
      rw [if_pos e1, if_pos e1]
      by_cases c : life ≤ nI (u + 1)
      · rw [if_pos (by rw [decide_eq_true c]; rfl), zDv, dv_or (zdt_lt _ _ _) (by omega) 2 2 (by decide) rfl, decide_eq_true c]; rfl
      · rw [if_neg (by rw [decide_eq_false c]; decide), decide_eq_false c]; rfl
    · have e1 : (!false && (true ^^ false)) = true := rfl
      rw [if_pos e1, if_pos e1]
      by_cases c : life ≤ nI (u + 1)
      · rw [if_pos (by rw [decide_eq_true c]; rfl), zDv, dv_or (zdt_lt _ _ _) (by omega) 2 2 (by decide) rfl, decide_eq_true c]; rfl
      · rw [if_neg (by rw [decide_eq_false c]; decide), decide_eq_false c]; rfl
    · rfl
theorem dv_sk {u : Nat} (b s w : Bool) (hu : u < 2 ^ 27) (k : Nat) (hk : k < 3) : zsk (zDv u b s w) k = if k = 2 then zDv u b false w else zDv u (decide (k = 1)) true w := by
  unfold zsk
  by_cases c : k = 2
  · rw [if_pos c, if_pos c, dv_andh b s w hu (-3) 5 (by decide) rfl]
    cases b <;> cases s <;> cases w <;> rfl
  · rw [if_neg c, if_neg c, dv_andh b s w hu (-2) 6 (by decide) rfl, dv_or (Nat.lt_of_le_of_lt Nat.and_le_right (by decide)) hu 2 2 (by decide) rfl]
    have ho : ∀ j, j < 8 → (zdt b s w &&& 6) ||| j < 8 := fun j hj => Nat.or_lt_two_pow (n := 3) (Nat.lt_of_le_of_lt Nat.and_le_right (by decide)) hj
    by_cases d : k = 1
    · rw [if_pos d, dv_or (ho 2 (by decide)) hu 1 1 (by decide) rfl, decide_eq_true d, zDv]
      cases b <;> cases s <;> cases w <;> rfl
    · rw [if_neg d, dv_or (ho 2 (by decide)) hu 0 0 (by decide) rfl, decide_eq_false d, zDv]
      cases b <;> cases s <;> cases w <;> rfl
/-- what holds of s: words, settings, discs worn at most B times -/
def zW (B : Nat) (σ : Nat → Int32) : Prop := (∃ N, N ≤ 10 ∧ σ 0 = nI N ∧ ∀ w, w < N → zVL (σ (8 + 2 * w))) ∧ (∃ m, 1 ≤ m ∧ m ≤ 9 ∧ σ 6 = nI m) ∧ (∃ l, 2 ≤ l ∧ l ≤ 99 ∧ σ 7 = nI l) ∧ ∀ b r c, b < 2 → r < 5 → c < zcol b → ∃ u x s w, u ≤ B ∧ σ (zat b r c) = zDv u x s w
theorem zW.mono {B B' : Nat} {σ : Nat → Int32} (h : zW B σ) (hB : B ≤ B') : zW B' σ := ⟨h.1, h.2.1, h.2.2.1, fun b r c hb hr hc => by
  obtain ⟨u, x, s, w, h1, h2⟩ := h.2.2.2 b r c hb hr hc
  exact ⟨u, x, s, w, by omega, h2⟩⟩
theorem zW.cg {B : Nat} {σ τ : Nat → Int32} (h : zW B σ) (e : ∀ j, j < 228 → τ j = σ j) : zW B τ := by
  obtain ⟨⟨N, a1, a2, a3⟩, ⟨m, b1, b2, b3⟩, ⟨l, c1, c2, c3⟩, d⟩ := h
  exact ⟨⟨N, a1, (e 0 (by omega)).trans a2, fun w hw => by rw [e _ (by omega)]; exact a3 w hw⟩, ⟨m, b1, b2, (e 6 (by omega)).trans b3⟩, ⟨l, c1, c2, (e 7 (by omega)).trans c3⟩, fun b r c hb hr hc => by rw [e _ (zat_lt hb hr hc)]; exact d b r c hb hr hc⟩
theorem W_word {B : Nat} {σ τ : Nat → Int32} {x a : Int32} (h : zW B σ) (t : zXw σ x a τ) : zW B τ := by
  rcases t with ⟨-, -, rfl⟩ | ⟨hx, N, hN, hs, ⟨-, -, rfl⟩ | ⟨-, -, -, rfl⟩ | ⟨-, hN2, -, rfl⟩⟩
  · exact h
  · exact h
  · exact h
  · obtain ⟨⟨N', a1, a2, a3⟩, ⟨m, b1, b2, b3⟩, ⟨l, c1, c2, c3⟩, d⟩ := h
    have e : N' = N := by rw [hs, nI_eq (by omega) (by omega)] at a2; omega
    subst e
    unfold zwd
    refine ⟨⟨N' + 1, by omega, upd_s _ _ _, fun w hw => ?_⟩, ⟨m, b1, b2, ?_⟩, ⟨l, c1, c2, ?_⟩, fun b r c hb hr hc => ?_⟩
    · rw [upd_n (by omega), upd_n (by omega)]
      by_cases e : w = N'
      · rw [e, upd_s]; exact hx
      · rw [upd_n (by omega)]; exact a3 w (by omega)
    · rw [upd_n (by omega), upd_n (by omega), upd_n (by omega)]; exact b3
    · rw [upd_n (by omega), upd_n (by omega), upd_n (by omega)]; exact c3
    · have := zat_ge (b := b) (r := r) (c := c)
      rw [upd_n (by omega), upd_n (by omega), upd_n (by omega)]
      exact d b r c hb hr hc
theorem W_unword {B : Nat} {σ τ : Nat → Int32} {w a : Int32} (h : zW B σ) (t : zXu σ w a τ) : zW B τ := by
  rcases t with ⟨-, -, rfl⟩ | ⟨k, n, hn, hk, -, hs, -, rfl⟩
  · exact h
  · obtain ⟨⟨N', a1, a2, a3⟩, ⟨m, b1, b2, b3⟩, ⟨l, c1, c2, c3⟩, d⟩ := h
    have e : N' = n + 1 := by rw [hs, nI_eq (by omega) (by omega)] at a2; omega
    subst e
    have hk' : ∀ j, ¬ (8 + 2 * k ≤ j ∧ j < 8 + 2 * n) → j ≠ 0 → zuw σ k n j = σ j := fun j h1 h2 => by unfold zuw; rw [if_neg h2, if_neg h1]
    refine ⟨⟨n, by omega, if_pos rfl, fun w hw => ?_⟩, ⟨m, b1, b2, ?_⟩, ⟨l, c1, c2, ?_⟩, fun b r c hb hr hc => ?_⟩
    · by_cases e : 8 + 2 * k ≤ 8 + 2 * w ∧ 8 + 2 * w < 8 + 2 * n
      · unfold zuw
        rw [if_neg (by omega), if_pos e, show 8 + 2 * w + 2 = 8 + 2 * (w + 1) by omega]
        exact a3 _ (by omega)
      · rw [hk' _ e (by omega)]; exact a3 w (by omega)
    · rw [hk' _ (by omega) (by omega)]; exact b3
    · rw [hk' _ (by omega) (by omega)]; exact c3
    · have := zat_ge (b := b) (r := r) (c := c)
      rw [hk' _ (by omega) (by omega)]
      exact d b r c hb hr hc
theorem W_wa {B b : Nat} {σ τ : Nat → Int32} {F : Nat → Nat → Bool} (hb : b < 2) (hB : B < 2 ^ 25) (h : zW B σ) (t : zWA σ b F 5 0 τ) : zW (B + 1) τ := by
  obtain ⟨⟨N', a1, a2, a3⟩, ⟨m, b1, b2, b3⟩, ⟨l, c1, c2, c3⟩, d⟩ := h
  obtain ⟨t1, t2, t3, t4⟩ := t
  have lo : ∀ j, j < 28 → j ≠ 4 + b → j ≠ 1 → τ j = σ j := fun j h1 h2 h3 => t2 j (fun r' c' _ _ _ z => by have := zat_ge (b := b) (r := r') (c := c'); omega) h2 h3
  refine ⟨⟨N', a1, (lo 0 (by omega) (by omega) (by omega)).trans a2, fun w hw => by rw [lo _ (by omega) (by omega) (by omega)]; exact a3 w hw⟩, ⟨m, b1, b2, (lo 6 (by omega) (by omega) (by omega)).trans b3⟩, ⟨l, c1, c2, (lo 7 (by omega) (by omega) (by omega)).trans c3⟩, fun b' r c hb' hr hc => ?_⟩
  obtain ⟨u, x, s, w, h1, h2⟩ := d b' r c hb' hr hc
  by_cases e : b' = b
  · subst e
    rw [t1 r c hr hc (Or.inl hr), h2, dv_vn x s w (by omega)]
    split
    · exact ⟨u + 1, _, _, _, by omega, rfl⟩
    · exact ⟨u, _, _, _, by omega, rfl⟩
  · have := zat_ge (b := b') (r := r) (c := c)
    rw [t2 _ (fun r' c' hr' hc' _ z => e (zat_inj hb' hr hc hb hr' hc' z).1) (by omega) (by omega)]
    exact ⟨u, x, s, w, by omega, h2⟩
theorem W_show {B : Nat} {σ τ : Nat → Int32} {w b a : Int32} (hB : B < 2 ^ 25) (h : zW B σ) (t : zXs σ w b a τ) : zW (B + 1) τ := by
  rcases t with ⟨-, -, rfl⟩ | ⟨N, v, d, hN, hv, hd, hs, -, -, ⟨-, -, rfl⟩ | ⟨k, ρ, -, -, -, t, rfl⟩⟩
  · exact h.mono (by omega)
  · exact h.mono (by omega)
  · obtain ⟨⟨N', a1, a2, a3⟩, ⟨m, b1, b2, b3⟩, ⟨l, c1, c2, c3⟩, d⟩ := W_wa hd hB h t
    have hk : ∀ j, j ≠ 3 → j ≠ 9 + 2 * v → zsw' ρ v j = ρ j := fun j h1 h2 => by unfold zsw'; rw [if_neg h1, if_neg h2]
    refine ⟨⟨N', a1, (hk 0 (by omega) (by omega)).trans a2, fun w hw => by rw [hk _ (by omega) (by omega)]; exact a3 w hw⟩, ⟨m, b1, b2, (hk 6 (by omega) (by omega)).trans b3⟩, ⟨l, c1, c2, (hk 7 (by omega) (by omega)).trans c3⟩, fun b r c hb hr hc => ?_⟩
    have := zat_ge (b := b) (r := r) (c := c)
    rw [hk _ (by omega) (by omega)]
    exact d b r c hb hr hc
theorem W_blank {B : Nat} {σ τ : Nat → Int32} {b a : Int32} (hB : B < 2 ^ 25) (h : zW B σ) (t : zXb σ b a τ) : zW (B + 1) τ := by
  rcases t with ⟨-, -, rfl⟩ | ⟨d, hd, -, t, -⟩
  · exact h.mono (by omega)
  · exact W_wa hd hB h t
theorem W_up {B : Nat} {σ : Nat → Int32} (h : zW B σ) (b r c : Nat) (hb : b < 2) (hr : r < 5) (hc : c < zcol b) (v : Int32) (hv : ∃ u x s w, u ≤ B ∧ v = zDv u x s w) : zW B (upd σ (zat b r c) v) := by
  obtain ⟨⟨N', a1, a2, a3⟩, ⟨m, b1, b2, b3⟩, ⟨l, c1, c2, c3⟩, d⟩ := h
  have := zat_ge (b := b) (r := r) (c := c)
  refine ⟨⟨N', a1, (upd_n (by omega)).trans a2, fun w hw => by rw [upd_n (by omega)]; exact a3 w hw⟩, ⟨m, b1, b2, (upd_n (by omega)).trans b3⟩, ⟨l, c1, c2, (upd_n (by omega)).trans c3⟩, fun b' r' c' hb' hr' hc' => ?_⟩
  by_cases e : zat b' r' c' = zat b r c
  · rw [e, upd_s]; exact hv
  · rw [upd_n e]; exact d b' r' c' hb' hr' hc'
theorem W_lo {B : Nat} {σ : Nat → Int32} (h : zW B σ) (k : Nat) (v : Int32) (hk : k = 1 ∨ k = 2 ∨ k = 3 ∨ k = 4 ∨ k = 5) : zW B (upd σ k v) := by
  obtain ⟨⟨N', a1, a2, a3⟩, ⟨m, b1, b2, b3⟩, ⟨l, c1, c2, c3⟩, d⟩ := h
  refine ⟨⟨N', a1, (upd_n (by omega)).trans a2, fun w hw => by rw [upd_n (by omega)]; exact a3 w hw⟩, ⟨m, b1, b2, (upd_n (by omega)).trans b3⟩, ⟨l, c1, c2, (upd_n (by omega)).trans c3⟩, fun b' r' c' hb' hr' hc' => ?_⟩
  have := zat_ge (b := b') (r := r') (c := c')
  rw [upd_n (by omega)]; exact d b' r' c' hb' hr' hc'
theorem W_stick {B : Nat} {σ τ : Nat → Int32} {b c r s a : Int32} (hB : B < 2 ^ 25) (h : zW B σ) (t : zXk σ b c r s a τ) : zW B τ := by
  rcases t with ⟨-, -, rfl⟩ | ⟨d, k, i, j, hd, hk, hi, hj, -, -, -, -, rfl, -⟩
  · exact h
  · obtain ⟨u, x, s, w, h1, h2⟩ := h.2.2.2 d i k hd hi hk
    refine W_up h d i k hd hi hk _ ?_
    rw [h2, dv_sk x s w (by omega) j hj]
    split
    · exact ⟨u, _, _, _, h1, rfl⟩
    · exact ⟨u, _, _, _, h1, rfl⟩
theorem W_zrp {B : Nat} {σ : Nat → Int32} (hB : B < 2 ^ 25) (h : zW B σ) (d k : Nat) (hd : d < 2) (hk : k < zcol d) : ∀ r, r ≤ 5 → zW B (zrp σ d k r) := by
  intro r
  induction r with
  | zero => intro _; exact h
  | succ r ih =>
    intro hr
    obtain ⟨u, x, s, w, h1, h2⟩ := h.2.2.2 d r k hd (by omega) hk
    refine W_up (ih (by omega)) d r k hd (by omega) hk _ ?_
    rw [h2, dv_5 x s w (by omega)]
    exact ⟨0, _, _, _, by omega, rfl⟩
theorem W_repair {B : Nat} {σ τ : Nat → Int32} {b c a : Int32} (hB : B < 2 ^ 25) (h : zW B σ) (t : zXr σ b c a τ) : zW B τ := by
  rcases t with ⟨-, -, rfl⟩ | ⟨d, k, hd, hk, -, -, -, rfl⟩
  · exact h
  · exact W_lo (W_zrp hB h d k hd hk 5 (by omega)) 2 _ (by omega)
theorem W_set {B : Nat} {σ τ : Nat → Int32} {i v a : Int32} (h : zW B σ) (t : zXe σ i v a τ) : zW B τ := by
  rcases t with ⟨-, -, rfl⟩ | ⟨k, hk, -, ⟨v1, v2⟩, -, rfl⟩
  · exact h
  · obtain ⟨⟨N', a1, a2, a3⟩, ⟨m, b1, b2, b3⟩, ⟨l, c1, c2, c3⟩, d⟩ := h
    have vI : ∃ j, v = nI j ∧ k + 1 ≤ j ∧ j ≤ (if k = 0 then 9 else 99) := by
      have hv : 0 ≤ v := by
        rw [i_lei] at v1 ⊢
        have : (nI k + 1 : Int32).toInt = k + 1 := by rw [nI_1, nI_toInt (by omega)]; omega
        rw [this] at v1
        have : (0 : Int32).toInt = 0 := rfl
        omega
      obtain ⟨j, j1, rfl⟩ := nI_of (i_le.mp hv)
      rw [nI_1, nI_leI (by omega) j1] at v1
      refine ⟨j, rfl, v1, ?_⟩
      split at v2
      · rename_i e; rw [if_pos e]; rw [show (9 : Int32) = nI 9 from rfl, nI_leI j1 (by omega)] at v2; exact v2
      · rename_i e; rw [if_neg e]; rw [show (99 : Int32) = nI 99 from rfl, nI_leI j1 (by omega)] at v2; exact v2
    obtain ⟨j, rfl, j1, j2⟩ := vI
    refine ⟨⟨N', a1, (upd_n (by omega)).trans a2, fun w hw => by rw [upd_n (by omega)]; exact a3 w hw⟩, ?_, ?_, fun b' r' c' hb' hr' hc' => ?_⟩
    · by_cases e : k = 0
      · subst e; exact ⟨j, by omega, by rw [if_pos rfl] at j2; exact j2, upd_s _ _ _⟩
      · exact ⟨m, b1, b2, (upd_n (by omega)).trans b3⟩
    · by_cases e : k = 1
      · subst e; exact ⟨j, by omega, by rw [if_neg (by decide)] at j2; exact j2, upd_s _ _ _⟩
      · exact ⟨l, c1, c2, (upd_n (by omega)).trans c3⟩
    · have := zat_ge (b := b') (r := r') (c := c')
      rw [upd_n (by omega)]; exact d b' r' c' hb' hr' hc'
