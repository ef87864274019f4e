-- ===== sets of dots: two longs, or five rows =====
def zPr (L R : Int64) (f : Nat → Nat → Bool) : Prop := (∀ i, (uj L).testBit i = (decide (i < 60) && f (i / 5) (i % 5))) ∧ ∀ i, (uj R).testBit i = (decide (i < 60) && f (12 + i / 5) (i % 5))
def zRw (g : Nat → Int32) (f : Nat → Nat → Bool) : Prop := ∀ r, r < 5 → ∀ c, (ui (g r)).testBit c = (decide (c < 24) && f c r)
/-- how many dots -/
def zc2 (f : Nat → Nat → Bool) : Nat := zct 120 (fun i => f (i / 5) (i % 5))
theorem zPr.xor {L R L' R' : Int64} {f g : Nat → Nat → Bool} (h : zPr L R f) (h' : zPr L' R' g) : zPr (L ^^^ L') (R ^^^ R') (fun c r => f c r ^^ g c r) := by
  constructor
  · intro i; rw [uj_xor, Nat.testBit_xor, h.1, h'.1]; cases decide (i < 60) <;> rfl
  · intro i; rw [uj_xor, Nat.testBit_xor, h.2, h'.2]; cases decide (i < 60) <;> rfl
theorem zPr.and {L R L' R' : Int64} {f g : Nat → Nat → Bool} (h : zPr L R f) (h' : zPr L' R' g) : zPr (L &&& L') (R &&& R') (fun c r => f c r && g c r) := by
  constructor
  · intro i; rw [uj_and, Nat.testBit_and, h.1, h'.1]; cases decide (i < 60) <;> rfl
  · intro i; rw [uj_and, Nat.testBit_and, h.2, h'.2]; cases decide (i < 60) <;> rfl
theorem zPr.or {L R L' R' : Int64} {f g : Nat → Nat → Bool} (h : zPr L R f) (h' : zPr L' R' g) : zPr (L ||| L') (R ||| R') (fun c r => f c r || g c r) := by
  constructor
  · intro i; rw [uj_or, Nat.testBit_or, h.1, h'.1]; cases decide (i < 60) <;> rfl
  · intro i; rw [uj_or, Nat.testBit_or, h.2, h'.2]; cases decide (i < 60) <;> rfl
theorem uj_m1 : uj (-1 : Int64) = 2 ^ 64 - 1 := rfl
theorem uj_not (x : Int64) (i : Nat) (hi : i < 64) : (uj (x ^^^ (-1))).testBit i = !(uj x).testBit i := by
  rw [uj_xor, Nat.testBit_xor, uj_m1, Nat.testBit_two_pow_sub_one, decide_eq_true hi, Bool.xor_true]
theorem zPr.nd {L R L' R' : Int64} {f g : Nat → Nat → Bool} (h : zPr L R f) (h' : zPr L' R' g) : zPr (L &&& (L' ^^^ (-1))) (R &&& (R' ^^^ (-1))) (fun c r => f c r && !g c r) := by
  constructor
  · intro i
    rw [uj_and, Nat.testBit_and, h.1]
    by_cases hi : i < 60
    · rw [uj_not _ _ (by omega), h'.1, decide_eq_true hi]; rfl
    · rw [decide_eq_false hi]; rfl
  · intro i
    rw [uj_and, Nat.testBit_and, h.2]
    by_cases hi : i < 60
    · rw [uj_not _ _ (by omega), h'.2, decide_eq_true hi]; rfl
    · rw [decide_eq_false hi]; rfl
theorem zPr.cg {L R : Int64} {f g : Nat → Nat → Bool} (h : zPr L R f) (e : ∀ c r, c < 24 → r < 5 → f c r = g c r) : zPr L R g := by
  constructor
  · intro i
    rw [h.1]
    by_cases hi : i < 60
    · rw [e _ _ (by omega) (by omega)]
    · rw [decide_eq_false hi]; rfl
  · intro i
    rw [h.2]
    by_cases hi : i < 60
    · rw [e _ _ (by omega) (by omega)]
    · rw [decide_eq_false hi]; rfl
theorem zPr.z : zPr 0 0 (fun _ _ => false) := ⟨fun i => by rw [show uj 0 = 0 from rfl, Nat.zero_testBit, Bool.and_false], fun i => by rw [show uj 0 = 0 from rfl, Nat.zero_testBit, Bool.and_false]⟩
theorem zPr.bit {L R : Int64} {f g : Nat → Nat → Bool} (h : zPr L R f) (h' : zPr L R g) (c r : Nat) (hc : c < 24) (hr : r < 5) : f c r = g c r := by
  by_cases e : c < 12
  · have a := h.1 (5 * c + r)
    rw [h'.1, decide_eq_true (by omega), show (5 * c + r) / 5 = c by omega, show (5 * c + r) % 5 = r by omega] at a
    exact a.symm
  · have a := h.2 (5 * (c - 12) + r)
    rw [h'.2, decide_eq_true (by omega), show 12 + (5 * (c - 12) + r) / 5 = c by omega, show (5 * (c - 12) + r) % 5 = r by omega] at a
    exact a.symm
theorem zc2_congr {f g : Nat → Nat → Bool} (e : ∀ c r, c < 24 → r < 5 → f c r = g c r) : zc2 f = zc2 g := zct_congr 120 _ _ (fun i hi => e _ _ (by omega) (by omega))
theorem zqj_60 (x : Int64) (g : Nat → Bool) (h : ∀ i, (uj x).testBit i = (decide (i < 60) && g i)) : zqj x = zct 60 g := by
  rw [zqj_eq, zpc_ct]
  show zct (60 + 4) _ = _
  rw [zct_add, zct_false 4 _ (fun i hi => by rw [h, decide_eq_false (by omega)]; rfl), Nat.add_zero]
  exact zct_congr 60 _ _ (fun i hi => by rw [h, decide_eq_true hi, Bool.true_and])
theorem zPr.q {L R : Int64} {f : Nat → Nat → Bool} (h : zPr L R f) : zqj L + zqj R = zc2 f := by
  rw [zqj_60 L (fun i => f (i / 5) (i % 5)) h.1, zqj_60 R (fun i => f (12 + i / 5) (i % 5)) h.2]
  have e := zct_add 60 60 (fun i => f (i / 5) (i % 5))
  rw [zct_congr 60 (fun i => f ((60 + i) / 5) ((60 + i) % 5)) (fun i => f (12 + i / 5) (i % 5)) (fun i hi => by rw [show (60 + i) / 5 = 12 + i / 5 by omega, show (60 + i) % 5 = i % 5 by omega])] at e
  exact e.symm
theorem zc2_le (f : Nat → Nat → Bool) : zc2 f ≤ 120 := by
  have : ∀ n (g : Nat → Bool), zct n g ≤ n := by
    intro n
    induction n with
    | zero => intro g; exact Nat.le_refl _
    | succ n ih => intro g; rw [zct]; have := ih (fun i => g (i + 1)); have := Bool.toNat_le (g 0); omega
  exact this 120 _
theorem zct_1 (n : Nat) (g : Nat → Bool) : zct (n + 1) g = zct n g + (g n).toNat := by
  rw [zct_add n 1, zct, zct]; rfl
theorem zsm_add (f g : Nat → Nat) (n : Nat) : zsm (fun r => f r + g r) n = zsm f n + zsm g n := by
  induction n with
  | zero => rfl
  | succ n ih => rw [zsm, zsm, zsm, ih]; omega
/-- columns first, or rows first -/
theorem zct_rows (f : Nat → Nat → Bool) : ∀ n, zct (5 * n) (fun i => f (i / 5) (i % 5)) = zsm (fun r => zct n (fun c => f c r)) 5 := by
  intro n
  induction n with
  | zero => rfl
  | succ n ih =>
    rw [show 5 * (n + 1) = 5 * n + 5 by omega, zct_add, ih, show (fun r => zct (n + 1) (fun c => f c r)) = (fun r => zct n (fun c => f c r) + (f n r).toNat) from funext fun r => zct_1 n _, zsm_add]
    refine congrArg (fun z => zsm (fun r => zct n (fun c => f c r)) 5 + z) ?_
    rw [zct_congr 5 _ (fun i => f n i) (fun i hi => by rw [show (5 * n + i) / 5 = n by omega, show (5 * n + i) % 5 = i by omega])]
    simp only [zct, zsm, Nat.zero_add, Nat.reduceAdd]
    omega
theorem zc2_rows (f : Nat → Nat → Bool) : zc2 f = zsm (fun r => zct 24 (fun c => f c r)) 5 := zct_rows f 24
theorem zRw.q {g : Nat → Int32} {f : Nat → Nat → Bool} (h : zRw g f) : zsm (fun r => zq (g r)) 5 = zc2 f := by
  rw [zc2_rows]
  refine zsm_congr (fun r hr => ?_)
  rw [zq_eq, zpc_ct, show 32 = 24 + 8 from rfl, zct_add, zct_false 8 _ (fun i hi => by rw [h r hr, decide_eq_false (by omega)]; rfl), Nat.add_zero]
  exact zct_congr 24 _ _ (fun c hc => by rw [h r hr, decide_eq_true hc]; rfl)
theorem zRw.xor {g g' : Nat → Int32} {f f' : Nat → Nat → Bool} (h : zRw g f) (h' : zRw g' f') : zRw (fun r => g r ^^^ g' r) (fun c r => f c r ^^ f' c r) := by
  intro r hr c
  rw [ui_xor, Nat.testBit_xor, h r hr, h' r hr]; cases decide (c < 24) <;> rfl
theorem zRw.and {g g' : Nat → Int32} {f f' : Nat → Nat → Bool} (h : zRw g f) (h' : zRw g' f') : zRw (fun r => g r &&& g' r) (fun c r => f c r && f' c r) := by
  intro r hr c
  rw [ui_and, Nat.testBit_and, h r hr, h' r hr]; cases decide (c < 24) <;> rfl
theorem zRw.or {g g' : Nat → Int32} {f f' : Nat → Nat → Bool} (h : zRw g f) (h' : zRw g' f') : zRw (fun r => g r ||| g' r) (fun c r => f c r || f' c r) := by
  intro r hr c
  rw [ui_or, Nat.testBit_or, h r hr, h' r hr]; cases decide (c < 24) <;> rfl
theorem ui_not (x : Int32) (i : Nat) (hi : i < 32) : (ui (x ^^^ (-1))).testBit i = !(ui x).testBit i := by
  rw [ui_xor, Nat.testBit_xor, show ui (-1 : Int32) = 2 ^ 32 - 1 from rfl, Nat.testBit_two_pow_sub_one, decide_eq_true hi, Bool.xor_true]
theorem zRw.nd {g g' : Nat → Int32} {f f' : Nat → Nat → Bool} (h : zRw g f) (h' : zRw g' f') : zRw (fun r => g r &&& (g' r ^^^ (-1))) (fun c r => f c r && !f' c r) := by
  intro r hr c
  rw [ui_and, Nat.testBit_and, h r hr]
  by_cases hc : c < 24
  · rw [ui_not _ _ (by omega), h' r hr, decide_eq_true hc]; rfl
  · rw [decide_eq_false hc]; rfl
theorem zRw.cg {g : Nat → Int32} {f f' : Nat → Nat → Bool} (h : zRw g f) (e : ∀ c r, c < 24 → r < 5 → f c r = f' c r) : zRw g f' := by
  intro r hr c
  rw [h r hr]
  by_cases hc : c < 24
  · rw [e c r hc hr]
  · rw [decide_eq_false hc]; rfl
-- pictures
def zfP (x : Int32) (k c r : Nat) : Bool := decide (k ≤ c) && (zrw (mny x) (ui x) r).testBit (c - k)
theorem zrw_lt2 (n u r : Nat) (hr : r < 5) (hn : 0 < n) : zrw n u r < 2 ^ (4 * n - 1) := by
  obtain ⟨m, rfl⟩ : ∃ m, n = m + 1 := ⟨n - 1, by omega⟩
  rw [zrw, show 4 * (m + 1) - 1 = 4 * m + 3 by omega]
  refine Nat.or_lt_two_pow ?_ ?_
  · rw [Nat.pow_add, Nat.mul_comm]
    exact Nat.mul_lt_mul_of_pos_left (zrv_lt _ (Nat.mod_lt _ (by decide)) r hr) (Nat.two_pow_pos _)
  · exact Nat.lt_of_lt_of_le (zrw_lt m (u / 32) r hr) (Nat.pow_le_pow_right (by decide) (by omega))
theorem ui_shl (x : Int32) (k : Nat) (hk : k < 32) (c : Nat) : (ui (x <<< (nI k &&& (31 : Int32)))).testBit c = (decide (c < 32) && (decide (k ≤ c) && (ui x).testBit (c - k))) := by
  rw [show ui (x <<< (nI k &&& (31 : Int32))) = ui x * 2 ^ k % 2 ^ 32 from pk_shl _ _ k (zsmod k hk), Nat.testBit_mod_two_pow, Nat.mul_comm, Nat.testBit_two_pow_mul]
theorem zrow_ui (x : Int32) (r : Nat) (hr : r < 5) : ui (zrow x r) = zrw (mny x) (ui x) r := by
  have h1 := zrw_lt (mny x) (ui x) r hr
  have h2 : mny x ≤ 7 := zmn_le 7 (ui x)
  have h3 : 2 ^ (4 * mny x) ≤ 2 ^ 28 := Nat.pow_le_pow_right (by decide) (by omega)
  exact ui_nI (by omega)
theorem zRw_pic (x : Int32) (k : Nat) (hm : 0 < mny x) (h : k + 4 * mny x ≤ 25) : zRw (fun r => zrow x r <<< (nI k &&& (31 : Int32))) (zfP x k) := by
  intro r hr c
  rw [ui_shl _ _ (by omega), zrow_ui x r hr]
  unfold zfP
  by_cases hc : c < 24
  · rw [decide_eq_true hc, decide_eq_true (show c < 32 by omega)]
  · rw [decide_eq_false hc, Bool.false_and]
    by_cases hk : k ≤ c
    · rw [Nat.testBit_lt_two_pow (Nat.lt_of_lt_of_le (zrw_lt2 (mny x) (ui x) r hr hm) (Nat.pow_le_pow_right (by decide) (show 4 * mny x - 1 ≤ c - k by omega))), Bool.and_false, Bool.and_false]
    · rw [decide_eq_false hk, Bool.false_and, Bool.and_false]
-- discs
def zfD (σ : Nat → Int32) (b : Nat) (w : Int32) (c r : Nat) : Bool := decide (c < zcol b) && !decide (σ (zat b r c) &&& w = 0)
theorem zdcl_bit (σ : Nat → Int32) (b r : Nat) (w : Int32) : ∀ n, n ≤ 24 → ∀ c, (ui (zdcl σ b r w n)).testBit c = (decide (c < n) && !decide (σ (zat b r c) &&& w = 0)) := by
  intro n
  induction n with
  | zero => intro _ c; rw [zdcl, show ui 0 = 0 from rfl, Nat.zero_testBit]; rfl
  | succ n ih =>
    intro hn c
    rw [zdcl, ui_or, Nat.testBit_or, ih (by omega)]
    have e1 : (ui ((1 : Int32) <<< (nI n &&& (31 : Int32)))).testBit c = decide (n = c) := by
      rw [show (1 : Int32) = nI 1 from rfl, zshl (by omega) (by rw [Nat.one_mul]; exact Nat.pow_lt_pow_right (by decide) (by omega)), Nat.one_mul, ui_nI (Nat.pow_lt_pow_right (by decide) (by omega)), Nat.testBit_two_pow]
    by_cases e : c = n
    · subst e
      rw [decide_eq_false (show ¬ c < c by omega), decide_eq_true (show c < c + 1 by omega)]
      by_cases d : σ (zat b r c) &&& w = 0
      · rw [if_pos d, decide_eq_true d, show ui 0 = 0 from rfl, Nat.zero_testBit]; rfl
      · rw [if_neg d, decide_eq_false d, e1, decide_eq_true rfl]; rfl
    · have e2 : (ui (if σ (zat b r n) &&& w = 0 then (0 : Int32) else (1 : Int32) <<< (nI n &&& (31 : Int32)))).testBit c = false := by
        split
        · rw [show ui 0 = 0 from rfl, Nat.zero_testBit]
        · rw [e1, decide_eq_false (fun z => e z.symm)]
      rw [e2, Bool.or_false]
      by_cases d : c < n
      · rw [decide_eq_true d, decide_eq_true (show c < n + 1 by omega)]
      · rw [decide_eq_false d, decide_eq_false (show ¬ c < n + 1 by omega)]
theorem zRw_disc (σ : Nat → Int32) (b : Nat) (w : Int32) : zRw (fun r => zdc σ b r w) (zfD σ b w) := by
  intro r hr c
  have := zcol_le b
  rw [zdcl_bit σ b r w (zcol b) this]
  unfold zfD
  by_cases hc : c < zcol b
  · rw [decide_eq_true hc, decide_eq_true (show c < 24 by omega)]; rfl
  · rw [decide_eq_false hc, Bool.false_and, Bool.and_false]
/-- the discs that count as stuck -/
def zfF (fr : Int32) (c : Nat) : Bool := decide (0 ≤ fr) && decide (fr = nI c)
theorem zRw_stk (σ : Nat → Int32) (b : Nat) (fr : Int32) (hf : fr < 0 ∨ ∃ k, k < 24 ∧ fr = nI k) : zRw (fun r => zstk σ fr b r) (fun c r => zfD σ b 2 c r && !zfF fr c) := by
  have h := zRw_disc σ b 2
  rcases hf with hf | ⟨k, hk, rfl⟩
  · have e : ∀ r, zstk σ fr b r = zdc σ b r 2 := fun r => by
      unfold zstk
      rw [if_neg (fun z => by rw [i_le] at z; exact z hf), Int32.and_neg_one]
    have hz : decide ((0 : Int32) ≤ fr) = false := decide_eq_false (fun z => by rw [i_le] at z; exact z hf)
    intro r hr c
    dsimp only
    rw [e, h r hr c, zfF, hz, Bool.false_and, Bool.not_false, Bool.and_true]
  · have hs : zRw (fun _ => (1 : Int32) <<< (nI k &&& (31 : Int32))) (fun c _ => decide (k = c)) := by
      intro r hr c
      rw [show (1 : Int32) = nI 1 from rfl, zshl (by omega) (by rw [Nat.one_mul]; exact Nat.pow_lt_pow_right (by decide) (by omega)), Nat.one_mul, ui_nI (Nat.pow_lt_pow_right (by decide) (by omega)), Nat.testBit_two_pow]
      dsimp only
      by_cases e : k = c
      · rw [decide_eq_true e, decide_eq_true (show c < 24 by omega)]; rfl
      · rw [decide_eq_false e, Bool.and_false]
    have h2 := h.nd hs
    have e : (fun r => zstk σ (nI k) b r) = fun r => zdc σ b r 2 &&& (((1 : Int32) <<< (nI k &&& (31 : Int32))) ^^^ (-1)) := funext fun r => by
      unfold zstk
      rw [if_pos (nI_pos' (by omega))]
    rw [e]
    refine h2.cg (fun c r hc hr => ?_)
    unfold zfF
    rw [decide_eq_true (nI_pos' (show k < 2 ^ 31 by omega)), Bool.true_and]
    by_cases e : k = c
    · rw [e, decide_eq_true rfl, decide_eq_true rfl]
    · rw [decide_eq_false e, decide_eq_false (fun z => e ((nI_eq (by omega) (by omega)).mp z))]
