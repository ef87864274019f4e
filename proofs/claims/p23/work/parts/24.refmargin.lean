-- ===== the reference: margins =====
/-- only scratch differs -/
def zRf (M M' : zM) : Prop := M'.2 = M.2 ∧ (∀ c n, c ≠ 33 → c ≠ 31 → c ≠ 31 → c ≠ 33 → c ≠ 8 → M'.1 c n = M.1 c n) ∧ ∀ k, k ≠ 9 → M'.1 8 0 k = M.1 8 0 k
theorem zRf.rf (M : zM) : zRf M M := ⟨rfl, fun _ _ _ _ _ _ _ => rfl, fun _ _ => rfl⟩
theorem zRf.tr {M M' M'' : zM} (h : zRf M M') (h' : zRf M' M'') : zRf M M'' :=
  ⟨h'.1.trans h.1, fun c n a b d e f => (h'.2.1 c n a b d e f).trans (h.2.1 c n a b d e f), fun k hk => (h'.2.2 k hk).trans (h.2.2 k hk)⟩
/-- only what is seen differs -/
def zR3 (M M' : zM) : Prop := M'.2 = M.2 ∧ ∀ c n, c ≠ 33 → M'.1 c n = M.1 c n
theorem zR3.rf (M : zM) : zR3 M M := ⟨rfl, fun _ _ _ => rfl⟩
theorem zR3.tr {M M' M'' : zM} (h : zR3 M M') (h' : zR3 M' M'') : zR3 M M'' := ⟨h'.1.trans h.1, fun c n a => (h'.2 c n a).trans (h.2 c n a)⟩
theorem upd_s (f : Nat → Int32) (k : Nat) (x : Int32) : upd f k x k = x := pk_us
theorem upd_n {f : Nat → Int32} {k j : Nat} {x : Int32} (h : j ≠ k) : upd f k x j = f j := pk_un h
/-- the stuck discs of a row, without a column that counts as free -/
def zstk (σ : Nat → Int32) (fr : Int32) (b r : Nat) : Int32 := zdc σ b r 2 &&& (if 0 ≤ fr then (1 <<< (fr &&& (31 : Int32))) ^^^ (-1) else -1)
def zsee (σ : Nat → Int32) (fr : Int32) (x : Int32) (b k r : Nat) : Int32 := ((zrow x r <<< (nI k &&& (31 : Int32))) &&& (zstk σ fr b r ^^^ (-1))) ||| (zdc σ b r 1 &&& zstk σ fr b r)
theorem zsm_congr {f g : Nat → Nat} : ∀ {n : Nat}, (∀ i, i < n → f i = g i) → zsm f n = zsm g n := by
  intro n
  induction n with
  | zero => intro _; rfl
  | succ n ih => intro h; rw [zsm, zsm, ih (fun i hi => h i (by omega)), h n (by omega)]
/-- the least distance over the first n shifts -/
noncomputable def zmi (f : Nat → Int32) (x : Int32) : Nat → Nat
  | 0 => 1000
  | n + 1 => Nat.min (zmi f x n) (zap f x n)
theorem zmi_le (f : Nat → Int32) (x : Int32) (n : Nat) : zmi f x n ≤ 1000 := by
  induction n with
  | zero => exact Nat.le_refl _
  | succ n ih => rw [zmi]; exact Nat.le_trans (Nat.min_le_left _ _) ih
/-- the least over the first words but one -/
noncomputable def zmo' (σ : Nat → Int32) (f : Nat → Int32) (w b : Nat) : Nat → Nat
  | 0 => 1000
  | o + 1 => if o = w then zmo' σ f w b o else Nat.min (zmo' σ f w b o) (zmi f (σ (8 + 2 * o)) (zshf (mny (σ (8 + 2 * o))) b))
theorem zmo'_le (σ f : Nat → Int32) (w b n : Nat) : zmo' σ f w b n ≤ 1000 := by
  induction n with
  | zero => exact Nat.le_refl _
  | succ n ih =>
    rw [zmo']
    split
    · exact ih
    · exact Nat.le_trans (Nat.min_le_left _ _) ih
noncomputable def zmg (σ : Nat → Int32) (f : Nat → Int32) (w b k : Nat) : Int32 := if zmo' σ f w b (σ 0).toNatClampNeg = 1000 then 99 else nI (zmo' σ f w b (σ 0).toNatClampNeg) - nI (zap f (σ (8 + 2 * w)) k)
theorem zshf_le (m b : Nat) : zshf m b ≤ 26 := by unfold zshf; have := zcol_le b; omega
/-- the margin of a word at a shift -/
noncomputable def zmar (σ : Nat → Int32) (fr : Int32) (w b k : Nat) : Int32 := zmg σ (zsee σ fr (σ (8 + 2 * w)) b k) w b k
