-- ===== the class: sets of dots =====
theorem zshj : ∀ n, n < 64 → (((nI n).toInt64 &&& (63 : Int64)).toBitVec.smod 64).toNat = n := by decide +kernel
theorem uj_shl (x : Int64) (k : Nat) (hk : k < 64) : uj (zlsl x (nI k)) = uj x * 2 ^ k % 2 ^ 64 := by
  show (x.toBitVec <<< (((nI k).toInt64 &&& (63 : Int64)).toBitVec.smod 64).toNat).toNat = _
  rw [zshj k hk, BitVec.toNat_shiftLeft, Nat.shiftLeft_eq]
def zlb (c : Nat) (d : Int64) : Int64 := if c < 12 then zlsl d (nI (c * 5)) else 0
def zrb (c : Nat) (d : Int64) : Int64 := if 12 ≤ c ∧ c < 24 then zlsl d (nI ((c - 12) * 5)) else 0
theorem cp_leftBits (c : Nat) (hc : c < 2 ^ 20) (d : Int64) (M : zM) : zd_X7_leftBits [zI (nI c), zJ d] M = some (some (zJ (zlb c d)), M) := by
  rw [en_X7_leftBits, bk_X7_leftBits_0, if_neg (nI_pos (by omega)), bk_X7_leftBits_4, show (12 : Int32) = nI 12 from rfl]
  unfold zlb
  by_cases h : c < 12
  · rw [if_neg (nI_ge h (by omega)), if_pos h, bk_X7_leftBits_10, bk_X7_leftBits_19, show (5 : Int32) = nI 5 from rfl, pk_mul]
  · rw [if_pos (nI_le (by omega) (by omega)), if_neg h, bk_X7_leftBits_18, bk_X7_leftBits_19]
theorem cp_leftBits_n (d : Int64) (M : zM) : zd_X7_leftBits [zI (-1), zJ d] M = some (some (zJ 0), M) := by
  rw [en_X7_leftBits, bk_X7_leftBits_0, if_pos (by decide), bk_X7_leftBits_18, bk_X7_leftBits_19]
theorem cp_rightBits (c : Nat) (hc : c < 2 ^ 20) (d : Int64) (M : zM) : zd_X7_rightBits [zI (nI c), zJ d] M = some (some (zJ (zrb c d)), M) := by
  rw [en_X7_rightBits, bk_X7_rightBits_0, show (12 : Int32) = nI 12 from rfl]
  unfold zrb
  by_cases h : c < 12
  · rw [if_pos (pk_sneg (by omega) h), if_neg (fun z => by omega), bk_X7_rightBits_23, bk_X7_rightBits_24]
  · rw [pk_sub (by omega), if_neg (nI_pos (by omega)), bk_X7_rightBits_9, show (12 : Int32) = nI 12 from rfl]
    by_cases h2 : c < 24
    · rw [if_neg (nI_ge (by omega) (by omega)), if_pos ⟨by omega, h2⟩, bk_X7_rightBits_15, bk_X7_rightBits_24, show (5 : Int32) = nI 5 from rfl, pk_mul]
    · rw [if_pos (nI_le (by omega) (by omega)), if_neg (fun z => h2 z.2), bk_X7_rightBits_23, bk_X7_rightBits_24]
theorem cp_rightBits_n (d : Int64) (M : zM) : zd_X7_rightBits [zI (-1), zJ d] M = some (some (zJ 0), M) := by
  rw [en_X7_rightBits, bk_X7_rightBits_0, if_pos (by decide), bk_X7_rightBits_23, bk_X7_rightBits_24]
theorem uj_shb (d : Int64) (hd : uj d < 32) (j : Nat) (hj : j < 12) (i : Nat) : (uj (zlsl d (nI (j * 5)))).testBit i = (decide (i < 60) && (decide (i / 5 = j) && (uj d).testBit (i % 5))) := by
  have hp : uj d * 2 ^ (j * 5) < 2 ^ 60 := by
    have h1 : uj d * 2 ^ (j * 5) < 32 * 2 ^ (j * 5) := Nat.mul_lt_mul_of_pos_right hd (Nat.two_pow_pos _)
    have h2 : 32 * 2 ^ (j * 5) = 2 ^ (5 + j * 5) := by rw [Nat.pow_add]
    have h3 : 2 ^ (5 + j * 5) ≤ 2 ^ 60 := Nat.pow_le_pow_right (by decide) (by omega)
    omega
  rw [uj_shl d _ (by omega), Nat.mod_eq_of_lt (by omega), Nat.mul_comm, Nat.testBit_two_pow_mul]
  by_cases e : i / 5 = j
  · rw [decide_eq_true e, decide_eq_true (show j * 5 ≤ i by omega), decide_eq_true (show i < 60 by omega), show i - j * 5 = i % 5 by omega]; rfl
  · rw [decide_eq_false e, Bool.false_and, Bool.and_false]
    by_cases h : j * 5 ≤ i
    · rw [Nat.testBit_lt_two_pow (i := i - j * 5) (Nat.lt_of_lt_of_le hd (show 32 ≤ 2 ^ (i - j * 5) from Nat.pow_le_pow_right (n := 2) (by decide) (show 5 ≤ i - j * 5 by omega))), Bool.and_false]
    · rw [decide_eq_false h, Bool.false_and]
theorem zPr_bits (c : Nat) (d : Int64) (hd : uj d < 32) : zPr (zlb c d) (zrb c d) (fun c' r' => decide (c' = c) && (uj d).testBit r') := by
  unfold zlb zrb
  constructor
  · intro i
    dsimp only
    by_cases h : c < 12
    · rw [if_pos h, uj_shb d hd c h]
    · rw [if_neg h, show uj 0 = 0 from rfl, Nat.zero_testBit]
      by_cases hi : i < 60
      · rw [decide_eq_false (show ¬ i / 5 = c by omega), Bool.false_and, Bool.and_false]
      · rw [decide_eq_false hi, Bool.false_and]
  · intro i
    dsimp only
    by_cases h : 12 ≤ c ∧ c < 24
    · rw [if_pos h, uj_shb d hd (c - 12) (by omega)]
      by_cases e : i / 5 = c - 12
      · rw [decide_eq_true e, decide_eq_true (show 12 + i / 5 = c by omega)]
      · rw [decide_eq_false e, decide_eq_false (show ¬ 12 + i / 5 = c by omega)]
    · rw [if_neg h, show uj 0 = 0 from rfl, Nat.zero_testBit]
      by_cases hi : i < 60
      · rw [decide_eq_false (show ¬ 12 + i / 5 = c by omega), Bool.false_and, Bool.and_false]
      · rw [decide_eq_false hi, Bool.false_and]
/-- one dot as a long -/
theorem uj_dot (r : Nat) (hr : r < 5) : uj (zlsl 1 (nI r)) = 2 ^ r := by
  rw [uj_shl 1 r (by omega), show uj (1 : Int64) = 1 from rfl, Nat.one_mul, Nat.mod_eq_of_lt (Nat.pow_lt_pow_right (by decide) (by omega))]
theorem uj_dot_lt (r : Nat) (hr : r < 5) : uj (zlsl 1 (nI r)) < 32 := by rw [uj_dot r hr]; exact Nat.pow_lt_pow_right (n := 5) (by decide) hr
theorem zPr_dot (c r : Nat) (hr : r < 5) : zPr (zlb c (zlsl 1 (nI r))) (zrb c (zlsl 1 (nI r))) (fun c' r' => decide (c' = c) && decide (r' = r)) := by
  refine (zPr_bits c _ (uj_dot_lt r hr)).cg (fun c' r' _ _ => ?_)
  rw [uj_dot r hr, Nat.testBit_two_pow]
  by_cases e : r' = r
  · rw [decide_eq_true e, decide_eq_true e.symm]
  · rw [decide_eq_false e, decide_eq_false (show ¬ r = r' from fun z => e z.symm)]
theorem uj_0 {x : Int64} : x = 0 ↔ uj x = 0 := ⟨fun h => by rw [h]; rfl, fun h => uj_inj h⟩
theorem zPr_or0 {A B : Int64} {g : Nat → Nat → Bool} (h : zPr A B g) : (A ||| B) = 0 ↔ ∀ c r, c < 24 → r < 5 → g c r = false := by
  rw [uj_0, uj_or]
  constructor
  · intro e c r hc hr
    have hb : ∀ i, (uj A).testBit i = false ∧ (uj B).testBit i = false := fun i => by
      have : (uj A ||| uj B).testBit i = false := by rw [e, Nat.zero_testBit]
      rw [Nat.testBit_or, Bool.or_eq_false_iff] at this
      exact this
    by_cases k : c < 12
    · have a := (hb (5 * c + r)).1
      rw [h.1, decide_eq_true (by omega), show (5 * c + r) / 5 = c by omega, show (5 * c + r) % 5 = r by omega] at a
      exact a
    · have a := (hb (5 * (c - 12) + r)).2
      rw [h.2, decide_eq_true (by omega), show 12 + (5 * (c - 12) + r) / 5 = c by omega, show (5 * (c - 12) + r) % 5 = r by omega] at a
      exact a
  · intro e
    apply Nat.eq_of_testBit_eq
    intro i
    rw [Nat.testBit_or, h.1, h.2, Nat.zero_testBit]
    by_cases hi : i < 60
    · rw [e _ _ (by omega) (by omega), e _ _ (by omega) (by omega), Bool.and_false]; rfl
    · rw [decide_eq_false hi]; rfl
theorem lg_0 (x : Int64) : lg_cmp x 0 = 0 ↔ x = 0 := by
  unfold lg_cmp
  split
  · rename_i h
    exact ⟨fun z => absurd z (by decide), fun z => by subst z; exact absurd h (by decide)⟩
  · split
    · rename_i h; exact ⟨fun _ => h, fun _ => rfl⟩
    · rename_i h; exact ⟨fun z => absurd z (by decide), fun z => absurd z h⟩
/-- the set that stands in Dots n -/
def zDt (M : zM) (n : Nat) (f : Nat → Nat → Bool) : Prop := zPr (M.2.1 1 n 0) (M.2.1 1 n 1) f
theorem cp_at {M : zM} {n : Nat} {f : Nat → Nat → Bool} (h : zDt M n f) (c r : Nat) (hc : c < 24) (hr : r < 5) : zd_X1_at [zR 1 n, zI (nI c), zI (nI r)] M = zs (zbI (f c r)) M := by
  have hp := h.and (zPr_dot c r hr)
  have h0 := zPr_or0 hp
  rw [en_X1_at, bk_X1_at_0]
  rw [cp_leftBits c (by omega)]
  show zev _ _ _ = _
  rw [zpush, bk_X1_at_13, cp_rightBits c (by omega)]
  show zev _ _ _ = _
  rw [zpush, bk_X1_at_23]
  cases e : f c r with
  | true =>
    rw [if_neg (fun z => by
      have := h0.mp ((lg_0 _).mp z) c r hc hr
      rw [e, decide_eq_true rfl, decide_eq_true rfl] at this
      exact absurd this (by decide)), bk_X1_at_38, bk_X1_at_39]
    rfl
  | false =>
    rw [if_pos ((lg_0 _).mpr (h0.mpr (fun c' r' _ _ => by
      by_cases ec : c' = c
      · by_cases er : r' = r
        · rw [ec, er, e]; rfl
        · rw [decide_eq_false er, Bool.and_false, Bool.and_false]
      · rw [decide_eq_false ec, Bool.false_and, Bool.and_false]))), bk_X1_at_34, bk_X1_at_39]
    rfl
/-- only Dots n differs, and is the two longs now -/
def zJs (M M' : zM) (n : Nat) (L R : Int64) : Prop := M'.1 = M.1 ∧ M'.2.2 = M.2.2 ∧ (∀ c m, ¬ (c = 1 ∧ m = n) → M'.2.1 c m = M.2.1 c m) ∧ M'.2.1 1 n 0 = L ∧ M'.2.1 1 n 1 = R
theorem uL_s (f : Nat → Int64) (k : Nat) (x : Int64) : vp_updL f k x k = x := pk_uLs
theorem uL_n {f : Nat → Int64} {k j : Nat} {x : Int64} (h : j ≠ k) : vp_updL f k x j = f j := pk_uLn h
theorem zJs_2 (M : zM) (n : Nat) (L R : Int64) : zJs M (M.1, zst (zst M.2.1 1 n (vp_updL (M.2.1 1 n) 0 L)) 1 n (vp_updL ((zst M.2.1 1 n (vp_updL (M.2.1 1 n) 0 L)) 1 n) 1 R), M.2.2) n L R := by
  refine ⟨rfl, rfl, fun c m h => ?_, ?_, ?_⟩
  · dsimp only; rw [zst_ne _ _ h, zst_ne _ _ h]
  · dsimp only; rw [zst_self, zst_self, uL_n (by decide), uL_s]
  · dsimp only; rw [zst_self, uL_s]
theorem zJs.dt {M M' : zM} {n : Nat} {L R : Int64} {f : Nat → Nat → Bool} (h : zJs M M' n L R) (hp : zPr L R f) : zDt M' n f := by
  unfold zDt; rw [h.2.2.2.1, h.2.2.2.2]; exact hp
theorem zJs.ne {M M' : zM} {n m : Nat} {L R : Int64} {f : Nat → Nat → Bool} (h : zJs M M' n L R) (hm : m ≠ n) (hp : zDt M m f) : zDt M' m f := by
  unfold zDt; rw [h.2.2.1 1 m (fun z => hm z.2)]; exact hp
theorem cp_put {M : zM} {n : Nat} {f : Nat → Nat → Bool} (h : zDt M n f) (c r : Nat) (hc : c < 24) (hr : r < 5) (x : Bool) : ∃ M' L R, zd_X1_put [zR 1 n, zI (nI c), zI (nI r), zI (zbI x)] M = some (none, M') ∧ zJs M M' n L R ∧ zPr L R (fun c' r' => if c' = c ∧ r' = r then x else f c' r') := by
  rw [en_X1_put, bk_X1_put_0, cp_leftBits c (by omega)]
  have hd := zPr_dot c r hr
  cases x with
  | true =>
    refine ⟨_, _, _, ?_, zJs_2 M n (M.2.1 1 n 0 ||| zlb c (zlsl 1 (nI r))) (M.2.1 1 n 1 ||| zrb c (zlsl 1 (nI r))), (h.or hd).cg (fun c' r' _ _ => ?_)⟩
    · show zev _ _ _ = _
      rw [zpush, bk_X1_put_11, cp_rightBits c (by omega)]
      show zev _ _ _ = _
      rw [zpush, bk_X1_put_19, if_neg zbI_n, bk_X1_put_26, bk_X1_put_47, bk_X1_put_50, if_neg zbI_n, bk_X1_put_55, bk_X1_put_76, bk_X1_put_79]
      dsimp only
      rw [zst_self, uL_n (by decide)]
    · by_cases e : c' = c ∧ r' = r
      · rw [if_pos e, decide_eq_true e.1, decide_eq_true e.2, Bool.and_true, Bool.or_true]
      · rw [if_neg e]
        by_cases e1 : c' = c
        · rw [decide_eq_false (show ¬ r' = r from fun z => e ⟨e1, z⟩), Bool.and_false, Bool.or_false]
        · rw [decide_eq_false e1, Bool.false_and, Bool.or_false]
  | false =>
    refine ⟨_, _, _, ?_, zJs_2 M n (M.2.1 1 n 0 &&& (zlb c (zlsl 1 (nI r)) ^^^ (-1))) (M.2.1 1 n 1 &&& (zrb c (zlsl 1 (nI r)) ^^^ (-1))), (h.nd hd).cg (fun c' r' _ _ => ?_)⟩
    · show zev _ _ _ = _
      rw [zpush, bk_X1_put_11, cp_rightBits c (by omega)]
      show zev _ _ _ = _
      rw [zpush, bk_X1_put_19, if_pos zbI_f, bk_X1_put_36, bk_X1_put_47, bk_X1_put_50, if_pos zbI_f, bk_X1_put_65, bk_X1_put_76, bk_X1_put_79]
      dsimp only
      rw [zst_self, uL_n (by decide)]
    · by_cases e : c' = c ∧ r' = r
      · rw [if_pos e, decide_eq_true e.1, decide_eq_true e.2, Bool.and_true, Bool.not_true, Bool.and_false]
      · rw [if_neg e]
        by_cases e1 : c' = c
        · rw [decide_eq_false (show ¬ r' = r from fun z => e ⟨e1, z⟩), Bool.and_false, Bool.not_false, Bool.and_true]
        · rw [decide_eq_false e1, Bool.false_and, Bool.not_false, Bool.and_true]
theorem cp_size {M : zM} {n : Nat} {f : Nat → Nat → Bool} (h : zDt M n f) : zd_X1_size [zR 1 n] M = zs (nI (zc2 f)) M := by
  rw [en_X1_size, bk_X1_size_0, zbi (sp_bitCount _ _), bk_X1_size_7, zbi (sp_bitCount _ _), bk_X1_size_14, nI_add, h.q]
theorem cp_far {M : zM} {n : Nat} {f g : Nat → Nat → Bool} {L R : Int64} (h : zDt M n f) (h' : zPr L R g) : zd_X1_far [zR 1 n, zJ L, zJ R] M = zs (nI (zc2 (fun c r => f c r ^^ g c r))) M := by
  rw [en_X1_far, bk_X1_far_0, zbi (sp_bitCount _ _), bk_X1_far_9, zbi (sp_bitCount _ _), bk_X1_far_18, nI_add, (h.xor h').q]
theorem cp_copyFrom1 (M : zM) (n m : Nat) (hn : n ≠ m) : ∃ M', zd_X1_copyFrom [zR 1 n, zR 1 m] M = some (none, M') ∧ zJs M M' n (M.2.1 1 m 0) (M.2.1 1 m 1) := by
  refine ⟨_, ?_, zJs_2 M n (M.2.1 1 m 0) (M.2.1 1 m 1)⟩
  rw [en_X1_copyFrom, bk_X1_copyFrom_0, bk_X1_copyFrom_8, bk_X1_copyFrom_16]
  dsimp only
  rw [zst_ne (c := 1) (n := n) (c' := 1) (n' := m) M.2.1 _ (fun z => hn z.2.symm)]
theorem cp_markFlips {M : zM} {n : Nat} {f s g : Nat → Nat → Bool} {L R : Int64} (hf : zDt M (4 * n) f) (hs : zDt M (4 * n + 1) s) (h' : zPr L R g) : ∃ M' L' R', zd_X0_markFlips [zR 0 n, zJ L, zJ R] M = some (none, M') ∧ zJs M M' (4 * n + 3) L' R' ∧ zPr L' R' (fun c r => (f c r ^^ g c r) && !s c r) := by
  refine ⟨_, _, _, ?_, zJs_2 M (4 * n + 3) (((M.2.1 1 (4 * n) 0) ^^^ L) &&& ((M.2.1 1 (4 * n + 1) 0) ^^^ (-1))) (((M.2.1 1 (4 * n) 1) ^^^ R) &&& ((M.2.1 1 (4 * n + 1) 1) ^^^ (-1))), (hf.xor h').nd hs⟩
  rw [en_X0_markFlips, bk_X0_markFlips_0, bk_X0_markFlips_28, bk_X0_markFlips_56]
  dsimp only
  rw [zst_ne (c := 1) (n := 4 * n + 3) (c' := 1) (n' := 4 * n) M.2.1 _ (by omega), zst_ne (c := 1) (n := 4 * n + 3) (c' := 1) (n' := 4 * n + 1) M.2.1 _ (by omega)]
