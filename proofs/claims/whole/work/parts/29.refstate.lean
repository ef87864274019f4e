-- ===== the reference: what changes =====
theorem zst_zst {α : Type} (f : Nat → Nat → α) (c n : Nat) (g h : α) : zst (zst f c n g) c n h = zst f c n h := by
  funext a b
  unfold zst
  split <;> rfl
theorem zst_eta {α : Type} (f : Nat → Nat → α) (c n : Nat) : zst f c n (f c n) = f := by
  funext a b
  unfold zst
  split
  · rename_i h; rw [h.1, h.2]
  · rfl
theorem upd_eta (f : Nat → Int32) (k : Nat) : upd f k (f k) = f := by
  funext j
  by_cases h : j = k
  · subst h; exact upd_s _ _ _
  · exact upd_n h
/-- the first n places out of another row -/
def zcy (f g : Nat → Int32) (n : Nat) : Nat → Int32 := fun j => if j < n then f j else g j
theorem zcy_s (f g : Nat → Int32) (n : Nat) : upd (zcy f g n) n (f n) = zcy f g (n + 1) := by
  funext j
  by_cases h : j = n
  · subst h; rw [upd_s]; unfold zcy; rw [if_pos (by omega)]
  · rw [upd_n h]
    unfold zcy
    by_cases h1 : j < n
    · rw [if_pos h1, if_pos (by omega)]
    · rw [if_neg h1, if_neg (by omega)]
theorem zcy_0 (f g : Nat → Int32) : zcy f g 0 = g := by funext j; unfold zcy; rw [if_neg (by omega)]

theorem sp_copies_29_31 (M0 : zM) : zd_X8_copies [zR 29 0, zR 31 0] M0 = some (none, (zst M0.1 31 0 (zcy (M0.1 29 0) (M0.1 31 0) 228), M0.2)) := by
  have key : ∀ (j k : Nat), k + j = 228 → zev zC_X8_copies 2 ([some (zR 29 0), some (zR 31 0), some (zI (nI k))], [], (zst M0.1 31 0 (zcy (M0.1 29 0) (M0.1 31 0) k), M0.2)) = some (none, (zst M0.1 31 0 (zcy (M0.1 29 0) (M0.1 31 0) 228), M0.2)) := by
    intro j
    induction j with
    | zero =>
      intro k hk
      rw [bk_X8_copies_29_31_2, show (228 : Int32) = nI 228 from rfl, if_pos (nI_le (by omega) (by omega)), bk_X8_copies_29_31_21, show k = 228 by omega]
    | succ j ih =>
      intro k hk
      have e1 : (zst M0.1 31 0 (zcy (M0.1 29 0) (M0.1 31 0) k)) 29 0 = M0.1 29 0 := zst_ne _ _ (by decide)
      rw [bk_X8_copies_29_31_2, show (228 : Int32) = nI 228 from rfl, if_neg (nI_ge (by omega) (by omega)), bk_X8_copies_29_31_9, if_neg (ix_in (by omega) (by decide)), ix_cl (by omega), bk_X8_copies_29_31_14, if_neg (ix_in (by omega) (by decide)), ix_cl (by omega), bk_X8_copies_29_31_15, nI_1]
      dsimp only
      rw [zst_zst, zst_self, e1, zcy_s]
      exact ih (k + 1) (by omega)
  rw [en_X8_copies_29_31, bk_X8_copies_29_31_0]
  have h := key 228 0 rfl
  rw [zcy_0, zst_eta] at h
  exact h
theorem sp_copies_31_29 (M0 : zM) : zd_X8_copies [zR 31 0, zR 29 0] M0 = some (none, (zst M0.1 29 0 (zcy (M0.1 31 0) (M0.1 29 0) 228), M0.2)) := by
  have key : ∀ (j k : Nat), k + j = 228 → zev zC_X8_copies 2 ([some (zR 31 0), some (zR 29 0), some (zI (nI k))], [], (zst M0.1 29 0 (zcy (M0.1 31 0) (M0.1 29 0) k), M0.2)) = some (none, (zst M0.1 29 0 (zcy (M0.1 31 0) (M0.1 29 0) 228), M0.2)) := by
    intro j
    induction j with
    | zero =>
      intro k hk
      rw [bk_X8_copies_31_29_2, show (228 : Int32) = nI 228 from rfl, if_pos (nI_le (by omega) (by omega)), bk_X8_copies_31_29_21, show k = 228 by omega]
    | succ j ih =>
      intro k hk
      have e1 : (zst M0.1 29 0 (zcy (M0.1 31 0) (M0.1 29 0) k)) 31 0 = M0.1 31 0 := zst_ne _ _ (by decide)
      rw [bk_X8_copies_31_29_2, show (228 : Int32) = nI 228 from rfl, if_neg (nI_ge (by omega) (by omega)), bk_X8_copies_31_29_9, if_neg (ix_in (by omega) (by decide)), ix_cl (by omega), bk_X8_copies_31_29_14, if_neg (ix_in (by omega) (by decide)), ix_cl (by omega), bk_X8_copies_31_29_15, nI_1]
      dsimp only
      rw [zst_zst, zst_self, e1, zcy_s]
      exact ih (k + 1) (by omega)
  rw [en_X8_copies_31_29, bk_X8_copies_31_29_0]
  have h := key 228 0 rfl
  rw [zcy_0, zst_eta] at h
  exact h
theorem sp_copies_29_35 (M0 : zM) : zd_X8_copies [zR 29 0, zR 35 0] M0 = some (none, (zst M0.1 35 0 (zcy (M0.1 29 0) (M0.1 35 0) 228), M0.2)) := by
  have key : ∀ (j k : Nat), k + j = 228 → zev zC_X8_copies 2 ([some (zR 29 0), some (zR 35 0), some (zI (nI k))], [], (zst M0.1 35 0 (zcy (M0.1 29 0) (M0.1 35 0) k), M0.2)) = some (none, (zst M0.1 35 0 (zcy (M0.1 29 0) (M0.1 35 0) 228), M0.2)) := by
    intro j
    induction j with
    | zero =>
      intro k hk
      rw [bk_X8_copies_29_35_2, show (228 : Int32) = nI 228 from rfl, if_pos (nI_le (by omega) (by omega)), bk_X8_copies_29_35_21, show k = 228 by omega]
    | succ j ih =>
      intro k hk
      have e1 : (zst M0.1 35 0 (zcy (M0.1 29 0) (M0.1 35 0) k)) 29 0 = M0.1 29 0 := zst_ne _ _ (by decide)
      rw [bk_X8_copies_29_35_2, show (228 : Int32) = nI 228 from rfl, if_neg (nI_ge (by omega) (by omega)), bk_X8_copies_29_35_9, if_neg (ix_in (by omega) (by decide)), ix_cl (by omega), bk_X8_copies_29_35_14, if_neg (ix_in (by omega) (by decide)), ix_cl (by omega), bk_X8_copies_29_35_15, nI_1]
      dsimp only
      rw [zst_zst, zst_self, e1, zcy_s]
      exact ih (k + 1) (by omega)
  rw [en_X8_copies_29_35, bk_X8_copies_29_35_0]
  have h := key 228 0 rfl
  rw [zcy_0, zst_eta] at h
  exact h
theorem sp_copies_35_29 (M0 : zM) : zd_X8_copies [zR 35 0, zR 29 0] M0 = some (none, (zst M0.1 29 0 (zcy (M0.1 35 0) (M0.1 29 0) 228), M0.2)) := by
  have key : ∀ (j k : Nat), k + j = 228 → zev zC_X8_copies 2 ([some (zR 35 0), some (zR 29 0), some (zI (nI k))], [], (zst M0.1 29 0 (zcy (M0.1 35 0) (M0.1 29 0) k), M0.2)) = some (none, (zst M0.1 29 0 (zcy (M0.1 35 0) (M0.1 29 0) 228), M0.2)) := by
    intro j
    induction j with
    | zero =>
      intro k hk
      rw [bk_X8_copies_35_29_2, show (228 : Int32) = nI 228 from rfl, if_pos (nI_le (by omega) (by omega)), bk_X8_copies_35_29_21, show k = 228 by omega]
    | succ j ih =>
      intro k hk
      have e1 : (zst M0.1 29 0 (zcy (M0.1 35 0) (M0.1 29 0) k)) 35 0 = M0.1 35 0 := zst_ne _ _ (by decide)
      rw [bk_X8_copies_35_29_2, show (228 : Int32) = nI 228 from rfl, if_neg (nI_ge (by omega) (by omega)), bk_X8_copies_35_29_9, if_neg (ix_in (by omega) (by decide)), ix_cl (by omega), bk_X8_copies_35_29_14, if_neg (ix_in (by omega) (by decide)), ix_cl (by omega), bk_X8_copies_35_29_15, nI_1]
      dsimp only
      rw [zst_zst, zst_self, e1, zcy_s]
      exact ih (k + 1) (by omega)
  rw [en_X8_copies_35_29, bk_X8_copies_35_29_0]
  have h := key 228 0 rfl
  rw [zcy_0, zst_eta] at h
  exact h
-- one disc
def zv1 (v : Int32) (w : Bool) : Int32 := (v &&& (-5)) ||| (if w = true then 4 else 0)
/-- is the disc flipped -/
def zfl (v : Int32) (w : Bool) : Bool := decide ((zv1 v w &&& 2) = 0) && !decide ((zv1 v w &&& 1) = (if w = true then 1 else 0))
def zv2 (v : Int32) (w : Bool) : Int32 := (zv1 v w ^^^ 1) + 8
/-- is it stuck by that -/
def zwn (v : Int32) (w : Bool) (life : Int32) : Bool := zfl v w && !decide (zv2 v w / 8 < life)
/-- the disc then -/
def zvn (v : Int32) (w : Bool) (life : Int32) : Int32 := if zfl v w = true then (if zwn v w life = true then zv2 v w ||| 2 else zv2 v w) else zv1 v w
def zbI (b : Bool) : Int32 := if b = true then 1 else 0
theorem zbI_nI (b : Bool) : zbI b = nI b.toNat := by cases b <;> rfl
def zwnt (σ : Nat → Int32) (b p : Nat) (w : Bool) : Nat → Int32 := fun j => if j = p then zvn (σ p) w (σ 7) else if j = 4 + b then σ j + zbI (zfl (σ p) w) else if j = 1 then σ j + zbI (zwn (σ p) w (σ 7)) else σ j
theorem sp_wants (b p : Nat) (w : Bool) (hb : b < 2) (hp : 28 ≤ p) (hp2 : p < 228) (M : zM) : zd_X8_wants [zR 8 0, zI (nI b), zI (nI p), zI (zbI w)] M = some (none, (zst M.1 29 0 (zwnt (M.1 29 0) b p w), M.2)) := by
  have hw0 : zbI w = 0 ↔ w = false := by cases w <;> simp [zbI]
  have e4 : (4 : Int32) + nI b = nI (4 + b) := by rw [← nI_add]; rfl
  have h18 : zd_X8_wants [zR 8 0, zI (nI b), zI (nI p), zI (zbI w)] M = zev zC_X8_wants 18 ([some (zR 8 0), some (zI (nI b)), some (zI (nI p)), some (zI (zbI w)), none], [zI (if w = true then 4 else 0), zI (M.1 29 0 p &&& (-5))], M) := by
    rw [en_X8_wants, bk_X8_wants_0, if_neg (ix_in hp2 (by decide)), ix_cl (by omega), bk_X8_wants_6]
    cases w with
    | false => rw [if_pos (hw0.mpr rfl), bk_X8_wants_17]; rfl
    | true => rw [if_neg (fun z => by have := hw0.mp z; cases this), bk_X8_wants_13]; rfl
  have h96 : ∀ (d1 d3 : Option zV) (x : Int32) (N : zM), zev zC_X8_wants 96 ([some (zR 8 0), d1, some (zI (nI p)), d3, some (zI x)], [], N) = some (none, (zst N.1 29 0 (upd (N.1 29 0) p x), N.2)) := by
    intro d1 d3 x N
    rw [bk_X8_wants_96, if_neg (ix_in hp2 (by decide)), ix_cl (by omega), bk_X8_wants_104]
  rw [h18, bk_X8_wants_18]
  have e1 : (M.1 29 0 p &&& (-5)) ||| (if w = true then 4 else 0) = zv1 (M.1 29 0 p) w := rfl
  rw [e1]
  have fin0 : zfl (M.1 29 0 p) w = false → upd (M.1 29 0) p (zv1 (M.1 29 0 p) w) = zwnt (M.1 29 0) b p w := by
    intro hf
    have hwn : zwn (M.1 29 0 p) w (M.1 29 0 7) = false := by unfold zwn; rw [hf]; rfl
    funext j
    unfold zwnt zvn
    rw [hf, hwn]
    by_cases hj : j = p
    · subst hj; rw [upd_s, if_pos rfl]; rfl
    · rw [upd_n hj, if_neg hj]
      have z : ∀ x : Int32, x + zbI false = x := fun x => Int32.add_zero x
      rw [z]
      split
      · rfl
      · split <;> rfl
  by_cases c1 : (zv1 (M.1 29 0 p) w &&& 2) = 0
  · rw [if_pos c1, bk_X8_wants_28]
    have h41 : (if zbI w = 0 then zev zC_X8_wants 40 ([some (zR 8 0), some (zI (nI b)), some (zI (nI p)), some (zI (zbI w)), some (zI (zv1 (M.1 29 0 p) w))], [zI (zv1 (M.1 29 0 p) w &&& 1)], M) else zev zC_X8_wants 36 ([some (zR 8 0), some (zI (nI b)), some (zI (nI p)), some (zI (zbI w)), some (zI (zv1 (M.1 29 0 p) w))], [zI (zv1 (M.1 29 0 p) w &&& 1)], M)) = zev zC_X8_wants 41 ([some (zR 8 0), some (zI (nI b)), some (zI (nI p)), none, some (zI (zv1 (M.1 29 0 p) w))], [zI (if w = true then 1 else 0), zI (zv1 (M.1 29 0 p) w &&& 1)], M) := by
      cases w with
      | false => rw [if_pos (hw0.mpr rfl), bk_X8_wants_40]; rfl
      | true => rw [if_neg (fun z => by have := hw0.mp z; cases this), bk_X8_wants_36]; rfl
    rw [h41, bk_X8_wants_41]
    by_cases c2 : (zv1 (M.1 29 0 p) w &&& 1) = (if w = true then 1 else 0)
    · have hf : zfl (M.1 29 0 p) w = false := by unfold zfl; rw [decide_eq_true c1, decide_eq_true c2]; rfl
      rw [if_pos c2, h96, fin0 hf]
    · have hf : zfl (M.1 29 0 p) w = true := by unfold zfl; rw [decide_eq_true c1, decide_eq_false c2]; rfl
      rw [if_neg c2, bk_X8_wants_44, e4, if_neg (ix_in (by omega) (by decide)), ix_cl (by omega), bk_X8_wants_62, if_neg (ix_in (by omega) (by decide)), ix_cl (by omega), bk_X8_wants_65]
      have e7 : (zst M.1 29 0 (upd (M.1 29 0) (4 + b) (M.1 29 0 (4 + b) + 1))) 29 0 7 = M.1 29 0 7 := by
        rw [zst_self, upd_n (by omega)]
      have e2 : (zv1 (M.1 29 0 p) w ^^^ 1) + 8 = zv2 (M.1 29 0 p) w := rfl
      dsimp only
      simp only [e7, e2]
      by_cases c3 : zv2 (M.1 29 0 p) w / 8 < M.1 29 0 7
      · have hwn : zwn (M.1 29 0 p) w (M.1 29 0 7) = false := by unfold zwn; rw [hf, decide_eq_true c3]; rfl
        rw [if_pos c3, h96]
        dsimp only
        rw [zst_zst, zst_self]
        congr 4
        funext j
        unfold zwnt zvn
        rw [hf, hwn]
        by_cases hj : j = p
        · subst hj; rw [upd_s, if_pos rfl]; rfl
        · rw [upd_n hj, if_neg hj]
          by_cases hj4 : j = 4 + b
          · subst hj4; rw [upd_s, if_pos rfl]; rfl
          · rw [upd_n hj4, if_neg hj4]
            have z : ∀ x : Int32, x + zbI false = x := fun x => Int32.add_zero x
            rw [z]
            split <;> rfl
      · have hwn : zwn (M.1 29 0 p) w (M.1 29 0 7) = true := by unfold zwn; rw [hf, decide_eq_false c3]; rfl
        rw [if_neg c3, bk_X8_wants_80, h96]
        dsimp only
        rw [zst_zst, zst_self, zst_zst, zst_self]
        congr 4
        funext j
        unfold zwnt zvn
        rw [hf, hwn]
        by_cases hj : j = p
        · subst hj; rw [upd_s, if_pos rfl]; rfl
        · rw [upd_n hj, if_neg hj]
          by_cases hj1 : j = 1
          · subst hj1
            rw [upd_s, if_neg (by omega), if_pos rfl, upd_n (by omega)]; rfl
          · rw [upd_n hj1]
            by_cases hj4 : j = 4 + b
            · subst hj4; rw [upd_s, if_pos rfl]; rfl
            · rw [upd_n hj4, if_neg hj4, if_neg hj1]
  · have hf : zfl (M.1 29 0 p) w = false := by unfold zfl; rw [decide_eq_false c1]; rfl
    rw [if_neg c1, h96, fin0 hf]

