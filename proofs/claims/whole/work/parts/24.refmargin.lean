-- ===== the reference: margins =====
/-- only scratch differs -/
def zRf (M M' : zM) : Prop := M'.2 = M.2 ∧ (∀ c n, c ≠ 33 → c ≠ 31 → c ≠ 31 → c ≠ 33 → c ≠ 8 → M'.1 c n = M.1 c n) ∧ ∀ k, k ≠ 9 → M'.1 8 0 k = M.1 8 0 k
theorem zRf.rf (M : zM) : zRf M M := ⟨rfl, fun _ _ _ _ _ _ _ => rfl, fun _ _ => rfl⟩
theorem zRf.tr {M M' M'' : zM} (h : zRf M M') (h' : zRf M' M'') : zRf M M'' :=
  ⟨h'.1.trans h.1, fun c n a b d e f => (h'.2.1 c n a b d e f).trans (h.2.1 c n a b d e f), fun k hk => (h'.2.2 k hk).trans (h.2.2 k hk)⟩
theorem zRf.s {M M' : zM} (h : zRf M M') : M'.1 29 0 = M.1 29 0 := h.2.1 29 0 (by decide) (by decide) (by decide) (by decide) (by decide)
theorem zRf.s33 {M M' : zM} (h : zRf M M') (f : Nat → Int32) : zRf M (zst M'.1 33 0 f, M'.2) :=
  ⟨h.1, fun c n a b d e g => (zst_ne _ _ (fun z => a z.1)).trans (h.2.1 c n a b d e g), fun k hk => (congrFun (zst_ne M'.1 f (c := 33) (n := 0) (c' := 8) (n' := 0) (by decide)) k).trans (h.2.2 k hk)⟩
theorem zRf.s8 {M M' : zM} (h : zRf M M') {k : Nat} (hk : k = 9) (v : Int32) : zRf M (zst M'.1 8 0 (upd (M'.1 8 0) k v), M'.2) :=
  ⟨h.1, fun c n a b d e g => (zst_ne _ _ (fun z => g z.1)).trans (h.2.1 c n a b d e g), fun j hj => by
    show zst M'.1 8 0 (upd (M'.1 8 0) k v) 8 0 j = _
    rw [zst_self, pk_un (by omega)]
    exact h.2.2 j hj⟩
/-- only what is seen differs -/
def zR3 (M M' : zM) : Prop := M'.2 = M.2 ∧ ∀ c n, c ≠ 33 → M'.1 c n = M.1 c n
theorem zR3.rf (M : zM) : zR3 M M := ⟨rfl, fun _ _ _ => rfl⟩
theorem zR3.tr {M M' M'' : zM} (h : zR3 M M') (h' : zR3 M' M'') : zR3 M M'' := ⟨h'.1.trans h.1, fun c n a => (h'.2 c n a).trans (h.2 c n a)⟩
theorem zR3.s {M M' : zM} (h : zR3 M M') : M'.1 29 0 = M.1 29 0 := h.2 29 0 (by decide)
theorem zR3.k {M M' : zM} (h : zR3 M M') : M'.1 8 0 = M.1 8 0 := h.2 8 0 (by decide)
theorem zR3.s33 {M M' : zM} (h : zR3 M M') (f : Nat → Int32) : zR3 M (zst M'.1 33 0 f, M'.2) := ⟨h.1, fun c n a => (zst_ne _ _ (fun z => a z.1)).trans (h.2 c n a)⟩
theorem zR3.f {M M' : zM} (h : zR3 M M') : zRf M M' := ⟨h.1, fun c n a _ _ _ _ => h.2 c n a, fun k _ => congrFun h.k k⟩
theorem upd_s (f : Nat → Int32) (k : Nat) (x : Int32) : upd f k x k = x := pk_us
theorem upd_n {f : Nat → Int32} {k j : Nat} {x : Int32} (h : j ≠ k) : upd f k x j = f j := pk_un h
/-- the stuck discs of a row, without a column that counts as free -/
def zstk (σ : Nat → Int32) (fr : Int32) (b r : Nat) : Int32 := zdc σ b r 2 &&& (if 0 ≤ fr then (1 <<< (fr &&& (31 : Int32))) ^^^ (-1) else -1)
def zsee (σ : Nat → Int32) (fr : Int32) (x : Int32) (b k r : Nat) : Int32 := ((zrow x r <<< (nI k &&& (31 : Int32))) &&& (zstk σ fr b r ^^^ (-1))) ||| (zdc σ b r 1 &&& zstk σ fr b r)
theorem sp_sees_loop (w b k : Nat) (hw : w < 10) (hb : b < 2) (M0 : zM) : ∀ (j r : Nat) (d : Option zV) (M : zM), r + j = 5 → zR3 M0 M → (∀ i, i < r → M.1 33 0 i = zsee (M0.1 29 0) (M0.1 8 0 8) (M0.1 29 0 (8 + 2 * w)) b k i) →
    ∃ M', zev zC_X8_sees 3 ([some (zR 8 0), some (zI (nI w)), some (zI (nI b)), some (zI (nI k)), some (zI (nI r)), d], [], M) = some (none, M') ∧ zR3 M0 M' ∧ ∀ i, i < 5 → M'.1 33 0 i = zsee (M0.1 29 0) (M0.1 8 0 8) (M0.1 29 0 (8 + 2 * w)) b k i := by
  intro j
  induction j with
  | zero =>
    intro r d M hr hf hs
    refine ⟨M, ?_, hf, fun i hi => hs i (by omega)⟩
    rw [bk_X8_sees_3, show (5 : Int32) = nI 5 from rfl, if_pos (nI_le (by omega) (by omega)), bk_X8_sees_81]
  | succ j ih =>
    intro r d M hr hf hs
    have h8 : M.1 8 0 8 = M0.1 8 0 8 := congrFun hf.k 8
    obtain ⟨M', h1, h2, h3⟩ := ih (r + 1) (some (zI (zstk (M0.1 29 0) (M0.1 8 0 8) b r))) (zst M.1 33 0 (upd (M.1 33 0) r (zsee (M0.1 29 0) (M0.1 8 0 8) (M0.1 29 0 (8 + 2 * w)) b k r)), M.2) (by omega) (hf.s33 _) (fun i hi => by
      have e := congrFun (zst_self M.1 33 0 (upd (M.1 33 0) r (zsee (M0.1 29 0) (M0.1 8 0 8) (M0.1 29 0 (8 + 2 * w)) b k r))) i
      refine Eq.trans e ?_
      by_cases hir : i = r
      · subst hir; exact upd_s _ _ _
      · rw [upd_n hir]; exact hs i (by omega))
    refine ⟨M', ?_, h2, h3⟩
    rw [← h1, bk_X8_sees_3, show (5 : Int32) = nI 5 from rfl, if_neg (nI_ge (by omega) (by omega)), bk_X8_sees_9, zbi (sp_discs 0 b r 2 hb (by omega) M), bk_X8_sees_17, h8, hf.s]
    have key : ∀ t : Int32, zev zC_X8_sees 36 ([some (zR 8 0), some (zI (nI w)), some (zI (nI b)), some (zI (nI k)), some (zI (nI r)), none], [zI t, zI (zdc (M0.1 29 0) b r 2)], M) = zev zC_X8_sees 3 ([some (zR 8 0), some (zI (nI w)), some (zI (nI b)), some (zI (nI k)), some (zI (nI (r + 1))), some (zI (zdc (M0.1 29 0) b r 2 &&& t))], [], (zst M.1 33 0 (upd (M.1 33 0) r (((zrow (M0.1 29 0 (8 + 2 * w)) r <<< (nI k &&& (31 : Int32))) &&& ((zdc (M0.1 29 0) b r 2 &&& t) ^^^ (-1))) ||| (zdc (M0.1 29 0) b r 1 &&& (zdc (M0.1 29 0) b r 2 &&& t)))), M.2)) := by
      intro t
      rw [bk_X8_sees_36, zbi (sp_letters w 0 hw M), bk_X8_sees_50, zbi (sp_rowOf _ r (by omega) M), bk_X8_sees_55, zbi (sp_discs 0 b r 1 hb (by omega) M), bk_X8_sees_70, if_neg (ix_in (show r < 5 by omega) (by decide)), ix_cl (by omega), bk_X8_sees_75, nI_1, hf.s]
    by_cases hfr : 0 ≤ M0.1 8 0 8
    · rw [if_pos hfr, bk_X8_sees_28, h8, key]
      unfold zsee zstk
      rw [if_pos hfr]
    · rw [if_neg hfr, bk_X8_sees_24, key]
      unfold zsee zstk
      rw [if_neg hfr]
theorem sp_sees (w b k : Nat) (hw : w < 10) (hb : b < 2) (M : zM) : ∃ M', zd_X8_sees [zR 8 0, zI (nI w), zI (nI b), zI (nI k)] M = some (none, M') ∧ zR3 M M' ∧ ∀ i, i < 5 → M'.1 33 0 i = zsee (M.1 29 0) (M.1 8 0 8) (M.1 29 0 (8 + 2 * w)) b k i := by
  obtain ⟨M', h1, h2, h3⟩ := sp_sees_loop w b k hw hb M 5 0 none M rfl (zR3.rf M) (fun i hi => by omega)
  exact ⟨M', by rw [en_X8_sees, bk_X8_sees_0]; exact h1, h2, h3⟩
theorem zsm_congr {f g : Nat → Nat} : ∀ {n : Nat}, (∀ i, i < n → f i = g i) → zsm f n = zsm g n := by
  intro n
  induction n with
  | zero => intro _; rfl
  | succ n ih => intro h; rw [zsm, zsm, ih (fun i hi => h i (by omega)), h n (by omega)]
theorem zap_congr {f g : Nat → Int32} (h : ∀ i, i < 5 → f i = g i) (x : Int32) (k : Nat) : zap f x k = zap g x k :=
  zsm_congr (fun i hi => by rw [h i hi])
/-- the least distance over the first n shifts -/
noncomputable def zmi (f : Nat → Int32) (x : Int32) : Nat → Nat
  | 0 => 1000
  | n + 1 => Nat.min (zmi f x n) (zap f x n)
theorem zmi_le (f : Nat → Int32) (x : Int32) (n : Nat) : zmi f x n ≤ 1000 := by
  induction n with
  | zero => exact Nat.le_refl _
  | succ n ih => rw [zmi]; exact Nat.le_trans (Nat.min_le_left _ _) ih
/-- the least over the first words but one -/
noncomputable def zmo' (σ : Nat → Int32) (f : Nat → Int32) (w b : Nat) : Nat → Nat
  | 0 => 1000
  | o + 1 => if o = w then zmo' σ f w b o else Nat.min (zmo' σ f w b o) (zmi f (σ (8 + 2 * o)) (zshf (mny (σ (8 + 2 * o))) b))
theorem zmo'_le (σ f : Nat → Int32) (w b n : Nat) : zmo' σ f w b n ≤ 1000 := by
  induction n with
  | zero => exact Nat.le_refl _
  | succ n ih =>
    rw [zmo']
    split
    · exact ih
    · exact Nat.le_trans (Nat.min_le_left _ _) ih
noncomputable def zmg (σ : Nat → Int32) (f : Nat → Int32) (w b k : Nat) : Int32 := if zmo' σ f w b (σ 0).toNatClampNeg = 1000 then 99 else nI (zmo' σ f w b (σ 0).toNatClampNeg) - nI (zap f (σ (8 + 2 * w)) k)
theorem zshf_le (m b : Nat) : zshf m b ≤ 26 := by unfold zshf; have := zcol_le b; omega
theorem sp_margin_in (w b k o : Nat) (hb : b < 2) (ho : o < 10) (how : o ≠ w) (hw : w < 10) (M : zM) (a : Nat) (ha : a ≤ 1000) : ∀ (j i : Nat), i + j = zshf (mny (M.1 29 0 (8 + 2 * o))) b →
    ∀ d7, zev zC_X8_marginAt 29 ([some (zR 8 0), some (zI (nI w)), some (zI (nI b)), some (zI (nI k)), some (zI (nI (Nat.min a (zmi (M.1 33 0) (M.1 29 0 (8 + 2 * o)) i)))), some (zI (nI o)), some (zI (nI i)), d7], [], M) = zev zC_X8_marginAt 15 ([some (zR 8 0), some (zI (nI w)), some (zI (nI b)), some (zI (nI k)), some (zI (nI (Nat.min a (zmi (M.1 33 0) (M.1 29 0 (8 + 2 * o)) (zshf (mny (M.1 29 0 (8 + 2 * o))) b))))), some (zI (nI (o + 1))), none, none], [], M) := by
  intro j
  induction j with
  | zero =>
    intro i hi d7
    have hl := zshf_le (mny (M.1 29 0 (8 + 2 * o))) b
    rw [bk_X8_marginAt_29, zbi (sp_shifts o b 0 ho hb M), bk_X8_marginAt_38, if_pos (nI_le (by omega) (by omega)), bk_X8_marginAt_79, nI_1, show zshf (mny (M.1 29 0 (8 + 2 * o))) b = i by omega]
  | succ j ih =>
    intro i hi d7
    have hl := zshf_le (mny (M.1 29 0 (8 + 2 * o))) b
    have hne : ¬ nI o = nI w := fun z => how ((nI_eq (by omega) (by omega)).mp z)
    have hap := zap_le (M.1 33 0) (M.1 29 0 (8 + 2 * o)) i
    have hmm : Nat.min a (zmi (M.1 33 0) (M.1 29 0 (8 + 2 * o)) i) ≤ 1000 := Nat.le_trans (Nat.min_le_left _ _) ha
    rw [bk_X8_marginAt_29, zbi (sp_shifts o b 0 ho hb M), bk_X8_marginAt_38, if_neg (nI_ge (by omega) (by omega)), bk_X8_marginAt_41, if_neg hne, bk_X8_marginAt_47, zbi (sp_apart 0 o i ho M), bk_X8_marginAt_55, ← ih (i + 1) (by omega) none]
    have e : Nat.min a (zmi (M.1 33 0) (M.1 29 0 (8 + 2 * o)) (i + 1)) = Nat.min (Nat.min a (zmi (M.1 33 0) (M.1 29 0 (8 + 2 * o)) i)) (zap (M.1 33 0) (M.1 29 0 (8 + 2 * o)) i) := by
      rw [zmi]; exact (Nat.min_assoc _ _ _).symm
    rw [e]
    by_cases hc : Nat.min a (zmi (M.1 33 0) (M.1 29 0 (8 + 2 * o)) i) ≤ zap (M.1 33 0) (M.1 29 0 (8 + 2 * o)) i
    · rw [if_pos (nI_le hc (by omega)), bk_X8_marginAt_69, bk_X8_marginAt_71, nI_1, show Nat.min (Nat.min a (zmi (M.1 33 0) (M.1 29 0 (8 + 2 * o)) i)) (zap (M.1 33 0) (M.1 29 0 (8 + 2 * o)) i) = Nat.min a (zmi (M.1 33 0) (M.1 29 0 (8 + 2 * o)) i) from Nat.min_eq_left hc]
    · rw [if_neg (nI_ge (by omega) (by omega)), bk_X8_marginAt_64, bk_X8_marginAt_71, nI_1, show Nat.min (Nat.min a (zmi (M.1 33 0) (M.1 29 0 (8 + 2 * o)) i)) (zap (M.1 33 0) (M.1 29 0 (8 + 2 * o)) i) = zap (M.1 33 0) (M.1 29 0 (8 + 2 * o)) i from Nat.min_eq_right (by omega)]
theorem sp_margin_out (w b k N : Nat) (hb : b < 2) (hw : w < 10) (hN : N ≤ 10) (M : zM) (hs : M.1 29 0 0 = nI N) : ∀ (j o : Nat), o + j = N → ∀ d6 d7,
    zev zC_X8_marginAt 15 ([some (zR 8 0), some (zI (nI w)), some (zI (nI b)), some (zI (nI k)), some (zI (nI (zmo' (M.1 29 0) (M.1 33 0) w b o))), some (zI (nI o)), d6, d7], [], M) = zs (zmg (M.1 29 0) (M.1 33 0) w b k) M := by
  intro j
  induction j with
  | zero =>
    intro o ho d6 d7
    have hl := zmo'_le (M.1 29 0) (M.1 33 0) w b o
    rw [bk_X8_marginAt_15, hs, if_pos (nI_le (by omega) (by omega)), bk_X8_marginAt_85, show (1000 : Int32) = nI 1000 from rfl]
    have eN : (M.1 29 0 0).toNatClampNeg = o := by rw [hs, ix_cl (by omega)]; omega
    unfold zmg
    rw [eN]
    by_cases h : zmo' (M.1 29 0) (M.1 33 0) w b o = 1000
    · rw [if_pos (by rw [h]), if_pos h, bk_X8_marginAt_93, bk_X8_marginAt_107]
    · rw [if_neg (fun z => h ((nI_eq (by omega) (by omega)).mp z)), if_neg h, bk_X8_marginAt_98, zbi (sp_apart 0 w k hw M), bk_X8_marginAt_106, bk_X8_marginAt_107]
  | succ j ih =>
    intro o ho d6 d7
    have hl := zmo'_le (M.1 29 0) (M.1 33 0) w b o
    rw [bk_X8_marginAt_15, hs, if_neg (nI_ge (by omega) (by omega)), bk_X8_marginAt_26]
    by_cases how : o = w
    · subst how
      have h := ih (o + 1) (by omega) none none
      rw [zmo', if_pos rfl] at h
      rw [bk_X8_marginAt_29, zbi (sp_shifts o b 0 (by omega) hb M), bk_X8_marginAt_38]
      split
      · rw [bk_X8_marginAt_79, nI_1]; exact h
      · rw [bk_X8_marginAt_41, if_pos rfl, bk_X8_marginAt_79, nI_1]; exact h
    · have h := ih (o + 1) (by omega) none none
      rw [zmo', if_neg how] at h
      have h2 := sp_margin_in w b k o hb (by omega) how hw M _ hl (zshf (mny (M.1 29 0 (8 + 2 * o))) b) 0 (by omega) none
      rw [show Nat.min (zmo' (M.1 29 0) (M.1 33 0) w b o) (zmi (M.1 33 0) (M.1 29 0 (8 + 2 * o)) 0) = zmo' (M.1 29 0) (M.1 33 0) w b o from Nat.min_eq_left hl] at h2
      rw [show (0 : Int32) = nI 0 from rfl, h2]
      exact h
theorem zmi_congr {f g : Nat → Int32} (h : ∀ i, i < 5 → f i = g i) (x : Int32) (n : Nat) : zmi f x n = zmi g x n := by
  induction n with
  | zero => rfl
  | succ n ih => rw [zmi, zmi, ih, zap_congr h]
theorem zmo'_congr {f g : Nat → Int32} (h : ∀ i, i < 5 → f i = g i) (σ : Nat → Int32) (w b n : Nat) : zmo' σ f w b n = zmo' σ g w b n := by
  induction n with
  | zero => rfl
  | succ n ih => rw [zmo', zmo', ih, zmi_congr h]
theorem zmg_congr {f g : Nat → Int32} (h : ∀ i, i < 5 → f i = g i) (σ : Nat → Int32) (w b k : Nat) : zmg σ f w b k = zmg σ g w b k := by
  unfold zmg
  rw [zmo'_congr h, zap_congr h]
/-- the margin of a word at a shift -/
noncomputable def zmar (σ : Nat → Int32) (fr : Int32) (w b k : Nat) : Int32 := zmg σ (zsee σ fr (σ (8 + 2 * w)) b k) w b k
theorem sp_marginAt (w b k N : Nat) (hb : b < 2) (hw : w < 10) (hN : N ≤ 10) (M : zM) (hs : M.1 29 0 0 = nI N) : ∃ M', zd_X8_marginAt [zR 8 0, zI (nI w), zI (nI b), zI (nI k)] M = zs (zmar (M.1 29 0) (M.1 8 0 8) w b k) M' ∧ zR3 M M' := by
  obtain ⟨M', h1, h2, h3⟩ := sp_sees w b k hw hb M
  refine ⟨M', ?_, h2⟩
  have h := sp_margin_out w b k N hb hw hN M' (by rw [h2.s]; exact hs) N 0 (by omega) none none
  rw [en_X8_marginAt, bk_X8_marginAt_0, zbv h1, bk_X8_marginAt_7, show (1000 : Int32) = nI 1000 from rfl, show (0 : Int32) = nI 0 from rfl]
  refine Eq.trans h ?_
  rw [zmg_congr h3, h2.s]
  rfl
