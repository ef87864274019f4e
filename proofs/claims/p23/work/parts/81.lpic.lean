-- ===== the law: a row of a picture =====
def zpt (r : Nat) : Int32 := if r = 0 then 10000 else if r = 1 then 1000 else if r = 2 then 100 else if r = 3 then 10 else 1
theorem zpt_nz : ∀ r, r < 5 → ¬ zpt r = 0 := by decide
theorem pic_bit : ∀ a, a < 17 → ∀ r, r < 5 → ∀ j, j < 3 → (decide (((zrm (zlf (nI a) / zpt r) 10 >>> ((2 - nI j) &&& (31 : Int32))) &&& 1) = 1)) = (zrv a r).testBit j := by decide +kernel
theorem or_1 (S : Int32) (k : Nat) (hk : k < 31) (i : Nat) : (ui (S ||| ((1 : Int32) <<< (nI k &&& (31 : Int32))))).testBit i = ((ui S).testBit i || decide (i = k)) := by
  rw [ui_or, Nat.testBit_or]
  refine congrArg (fun z => (ui S).testBit i || z) ?_
  rw [show (1 : Int32) = nI 1 from rfl, ui_shl _ _ (by omega), ui_nI (by decide)]
  by_cases h : i = k
  · subst h
    rw [decide_eq_true (show i < 32 by omega), decide_eq_true (Nat.le_refl i), decide_eq_true rfl, Nat.sub_self]
    rfl
  · rw [decide_eq_false h]
    by_cases h2 : k ≤ i
    · rw [show Nat.testBit 1 (i - k) = false from Nat.testBit_lt_two_pow (Nat.lt_of_lt_of_le (show 1 < 2 ^ 1 by decide) (Nat.pow_le_pow_right (by decide) (by omega))), Bool.and_false, Bool.and_false]
    · rw [decide_eq_false h2, Bool.false_and, Bool.and_false]
/-- the picture's columns ahead of c -/
def zpS (x : Int32) (r s c : Nat) (S : Int32) : Prop := ∀ i, (ui S).testBit i = (decide (s ≤ i ∧ i < s + c) && (zrw (mny x) (ui x) r).testBit (i - s))
theorem pic_loop {x : Int32} (hx : zVL x) (r s : Nat) (hr : r < 5) (hs : s + 4 * mny x ≤ 25) (M : zM) : ∀ (j c : Nat) (d1 d7 d8 : Option zV) (S : Int32), c + j + 1 = 4 * mny x → zpS x r s c S → ∃ S', zpS x r s (4 * mny x - 1) S' ∧
    zev zC_L_picture 55 ([some (zI x), d1, some (zI (nI s)), some (zI S), some (zI (nI (mny x))), some (zI (zpt r)), some (zI (nI c)), d7, d8], [], M) = zs S' M := by
  have hm := VL_m hx
  have hu := VL_31 hx
  intro j
  induction j with
  | zero =>
    intro c d1 d7 d8 S hc hS
    refine ⟨S, by rw [show 4 * mny x - 1 = c by omega]; exact hS, ?_⟩
    rw [bk_L_picture_55, show (4 : Int32) = nI 4 from rfl, pk_mul, show (1 : Int32) = nI 1 from rfl, pk_sub (by omega), if_pos (nI_le (by omega) (by omega)), bk_L_picture_139]
  | succ j ih =>
    intro c d1 d7 d8 S hc hS
    have hi : c / 4 < mny x := by omega
    obtain ⟨l1, l2⟩ := VL_at hx (i := mny x - 1 - c / 4) (by omega)
    have hlet : (x >>> ((5 * ((nI (mny x) - 1) - (nI c / 4))) &&& (31 : Int32))) &&& 31 = nI (ui x / 32 ^ (mny x - 1 - c / 4) % 32) := by
      rw [show (1 : Int32) = nI 1 from rfl, pk_sub (by omega), show (4 : Int32) = nI 4 from rfl, pk_div (by omega) (by decide) (by decide), pk_sub (by omega), show (5 : Int32) = nI 5 from rfl, pk_mul]
      have e : x >>> (nI (5 * (mny x - 1 - c / 4)) &&& (31 : Int32)) = nI (ui x / 2 ^ (5 * (mny x - 1 - c / 4))) := by
        have h0 := shr_nI (u := ui x) (k := 5 * (mny x - 1 - c / 4)) hu (by omega)
        rw [nI_ui] at h0
        exact h0
      rw [e, pk_andN (Nat.lt_of_le_of_lt (Nat.div_le_self _ _) (by omega)) 5 rfl, p32, Nat.mul_comm 5]
    have hrm : zrm (nI c) 4 = nI (c % 4) := pk_rem (by omega) (by decide) (by decide)
    have hbit := fun q (hq : q < 4) => zrw_at r hr (mny x) (ui x) (c / 4) q hi hq
    have hc4 : 4 * (c / 4) + c % 4 = c := by omega
    have zero : c % 4 = 3 → (zrw (mny x) (ui x) r).testBit c = false := fun h3 => by
      have := hbit 3 (by omega)
      rw [zrv_3 _ _ (by omega) hr, show 4 * (c / 4) + 3 = c by omega] at this
      exact this
    rw [bk_L_picture_55, show (4 : Int32) = nI 4 from rfl, pk_mul, show (1 : Int32) = nI 1 from rfl, pk_sub (show 1 ≤ 4 * mny x by omega), if_neg (nI_ge (by omega) (by omega)), bk_L_picture_66, hlet, zbi (lw_font _ l1 l2 M), bk_L_picture_89, if_neg (zpt_nz r hr), bk_L_picture_92, hrm]
    have done : ∀ (b : Bool), (zrw (mny x) (ui x) r).testBit c = b → ∀ (y : Int32), (∀ i, (ui (S ||| y)).testBit i = ((ui S).testBit i || (b && decide (i = s + c)))) → zpS x r s (c + 1) (S ||| y) := by
      intro b hb y hy i
      rw [hy i, hS i]
      by_cases q : i = s + c
      · subst q
        rw [decide_eq_false (show ¬ (s ≤ s + c ∧ s + c < s + c) by omega), decide_eq_true (show s ≤ s + c ∧ s + c < s + (c + 1) by omega), decide_eq_true rfl, show s + c - s = c by omega, hb]
        cases b <;> rfl
      · rw [decide_eq_false q, Bool.and_false, Bool.or_false]
        refine congrArg (fun z => z && _) ?_
        exact decide_eq_decide.mpr ⟨fun z => ⟨z.1, by omega⟩, fun z => ⟨z.1, by omega⟩⟩
    have or0 : ∀ i, (ui (S ||| 0)).testBit i = ((ui S).testBit i || (false && decide (i = s + c))) := fun i => by
      rw [show S ||| 0 = S from Int32.or_zero, Bool.false_and, Bool.or_false]
    by_cases h3 : c % 4 = 3
    · rw [show (3 : Int32) = nI 3 from rfl, if_pos (nI_le (by omega) (by omega)), bk_L_picture_130, bk_L_picture_131, nI_1]
      exact ih (c + 1) _ _ _ _ (by omega) (done false (zero h3) 0 or0)
    · have hb := hbit (c % 4) (by omega)
      rw [hc4, ← pic_bit _ l2 r hr (c % 4) (by omega)] at hb
      rw [show (3 : Int32) = nI 3 from rfl, if_neg (nI_ge (by omega) (by omega)), bk_L_picture_106, hrm]
      by_cases h1 : ((zrm (zlf (nI (ui x / 32 ^ (mny x - 1 - c / 4) % 32)) / zpt r) 10 >>> ((2 - nI (c % 4)) &&& (31 : Int32))) &&& 1) = 1
      · rw [if_pos h1, bk_L_picture_121, bk_L_picture_131, nI_1, nI_add]
        rw [decide_eq_true h1] at hb
        exact ih (c + 1) _ _ _ _ (by omega) (done true hb _ (fun i => by rw [or_1 S (s + c) (by omega) i, Bool.true_and]))
      · rw [if_neg h1, bk_L_picture_130, bk_L_picture_131, nI_1]
        rw [decide_eq_false h1] at hb
        exact ih (c + 1) _ _ _ _ (by omega) (done false hb 0 or0)
/-- a row of the picture of a word at a shift -/
abbrev zpx (x : Int32) (s r : Nat) : Int32 := zrow x r <<< (nI s &&& (31 : Int32))
theorem lw_picture {x : Int32} (hx : zVL x) (r s : Nat) (hr : r < 5) (hs : s + 4 * mny x ≤ 25) (M : zM) : zd_L_picture [zI x, zI (nI r), zI (nI s)] M = zs (zpx x s r) M := by
  have hm := VL_m hx
  have head : zd_L_picture [zI x, zI (nI r), zI (nI s)] M = zev zC_L_picture 55 ([some (zI x), none, some (zI (nI s)), some (zI 0), some (zI (nI (mny x))), some (zI (zpt r)), some (zI (nI 0)), none, none], [], M) := by
    rw [en_L_picture, bk_L_picture_0, zbi (lw_size hx M), bk_L_picture_6]
    rcases (show r = 0 ∨ r = 1 ∨ r = 2 ∨ r = 3 ∨ r = 4 by omega) with rfl | rfl | rfl | rfl | rfl
    · rw [if_pos (by decide), bk_L_picture_12, bk_L_picture_50]; rfl
    · rw [if_neg (by decide), bk_L_picture_18, if_pos (by decide), bk_L_picture_23, bk_L_picture_50]; rfl
    · rw [if_neg (by decide), bk_L_picture_18, if_neg (by decide), bk_L_picture_29, if_pos (by decide), bk_L_picture_34, bk_L_picture_50]; rfl
    · rw [if_neg (by decide), bk_L_picture_18, if_neg (by decide), bk_L_picture_29, if_neg (by decide), bk_L_picture_39, if_pos (by decide), bk_L_picture_44, bk_L_picture_50]; rfl
    · rw [if_neg (by decide), bk_L_picture_18, if_neg (by decide), bk_L_picture_29, if_neg (by decide), bk_L_picture_39, if_neg (by decide), bk_L_picture_49, bk_L_picture_50]; rfl
  obtain ⟨S, h1, h2⟩ := pic_loop hx r s hr hs M (4 * mny x - 1) 0 none none none 0 (by omega) (fun i => by
    rw [show ui 0 = 0 from rfl, Nat.zero_testBit, decide_eq_false (show ¬ (s ≤ i ∧ i < s + 0) by omega), Bool.false_and])
  rw [head, h2]
  refine congrArg (fun z => zs z M) (ui_inj (Nat.eq_of_testBit_eq (fun i => ?_)))
  rw [h1 i, ui_shl _ _ (by omega), zrow_ui x r hr]
  have hl := zrw_lt2 (mny x) (ui x) r hr (by omega)
  by_cases c1 : s ≤ i
  · by_cases c2 : i < s + (4 * mny x - 1)
    · rw [decide_eq_true (show s ≤ i ∧ i < s + (4 * mny x - 1) from ⟨c1, c2⟩), decide_eq_true c1, decide_eq_true (show i < 32 by omega)]
      simp only [Bool.true_and]
    · rw [show (zrw (mny x) (ui x) r).testBit (i - s) = false from Nat.testBit_lt_two_pow (Nat.lt_of_lt_of_le hl (Nat.pow_le_pow_right (by decide) (by omega))), Bool.and_false, Bool.and_false, Bool.and_false]
  · rw [decide_eq_false (fun z => c1 z.1), decide_eq_false c1]
    simp only [Bool.false_and, Bool.and_false]
