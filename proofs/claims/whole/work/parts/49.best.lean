-- ===== the class: what is best, read, closest =====
/-- words k and blind n of the class stand for s -/
def zQk (M : zM) (k n b B : Nat) (σ : Nat → Int32) (N : Nat) : Prop := zW B σ ∧ N ≤ 10 ∧ σ 0 = nI N ∧ zGW M k σ N ∧ zGB M n b σ
def zoC : Option Nat → Int32
  | none => -1
  | some k => nI k
theorem cp_best_loop {M : zM} {k n b B N w : Nat} {σ : Nat → Int32} {rp fr : Int32} (hr : zRep rp fr) (h : zQk M k n b B σ N) (hw : w < N) (g : Int32) : ∀ (j s : Nat) (d4 d9 : Option zV), s + j = zshf (mny (σ (8 + 2 * w))) b →
    zev zC_X6_bestShift 23 ([some (zR 6 k), some (zI (nI w)), some (zR 0 n), some (zI rp), d4, some (zI (nI (zshf (mny (σ (8 + 2 * w))) b))), some (zI (zoC (zbf (fun s => zmar σ fr w b s) g s).1)), some (zI (zbf (fun s => zmar σ fr w b s) g s).2), some (zI (nI s)), d9], [], M) = zs (zoC (zbf (fun s => zmar σ fr w b s) g (zshf (mny (σ (8 + 2 * w))) b)).1) M := by
  have hz := zshf_le (mny (σ (8 + 2 * w))) b
  intro j
  induction j with
  | zero =>
    intro s d4 d9 e
    have es : s = zshf (mny (σ (8 + 2 * w))) b := by omega
    rw [bk_X6_bestShift_23, if_pos (nI_le (by omega) (by omega)), bk_X6_bestShift_62, es]
  | succ j ih =>
    intro s d4 d9 e
    have h1 := ih (s + 1) none none (by omega)
    rw [zbf] at h1
    rw [bk_X6_bestShift_23, if_neg (nI_ge (by omega) (by omega)), bk_X6_bestShift_30, zbi (cp_marginAt hr h.1 h.2.1 h.2.2.1 h.2.2.2.1 h.2.2.2.2 hw (by omega)), bk_X6_bestShift_39]
    by_cases c : zmar σ fr w b s ≤ (zbf (fun s => zmar σ fr w b s) g s).2
    · rw [if_pos c, bk_X6_bestShift_56, nI_1]
      rw [if_neg (Int32.not_lt.mpr c)] at h1
      exact h1
    · rw [if_neg c, bk_X6_bestShift_48, bk_X6_bestShift_56, nI_1]
      rw [if_pos (Int32.not_le.mp c)] at h1
      exact h1
theorem cp_bestShift {M : zM} {k n b B N w : Nat} {σ : Nat → Int32} {rp fr : Int32} (hr : zRep rp fr) (h : zQk M k n b B σ N) (hw : w < N) (nd : Int32) :
    zd_X6_bestShift [zR 6 k, zI (nI w), zR 0 n, zI rp, zI nd] M = zs (zoC (zbf (fun s => zmar σ fr w b s) (nd - 1) (zshf (mny (σ (8 + 2 * w))) b)).1) M := by
  rw [en_X6_bestShift, bk_X6_bestShift_0, h.2.2.2.2.1, zbi (cp_shiftsOn h.1 h.2.1 h.2.2.1 h.2.2.2.1 hw), bk_X6_bestShift_9]
  exact cp_best_loop hr h hw (nd - 1) (zshf (mny (σ (8 + 2 * w))) b) 0 _ _ (by omega)
/-- the best shift, if it is good enough -/
theorem can_some {B : Nat} {σ : Nat → Int32} (hW : zW B σ) (fr : Int32) (w b : Nat) : (zcan σ fr w b → (zbf (fun s => zmar σ fr w b s) (σ 6 - 1) (zshf (mny (σ (8 + 2 * w))) b)).1 = (zbst σ fr w b).1) ∧ (¬ zcan σ fr w b → (zbf (fun s => zmar σ fr w b s) (σ 6 - 1) (zshf (mny (σ (8 + 2 * w))) b)).1 = none) := by
  obtain ⟨m, m1, m2, em⟩ := hW.2.1
  have e1 : σ 6 - 1 = nI (m - 1) := by rw [em, show (1 : Int32) = nI 1 from rfl, pk_sub m1]
  rw [e1, zbf_start (fun s => zmar σ fr w b s) (-1000) (nI (m - 1)) (by rw [i_lei, nI_toInt (by omega), show (-1000 : Int32).toInt = -1000 from rfl]; omega)]
  have hc : zcan σ fr w b ↔ nI (m - 1) < (zbst σ fr w b).2 := by
    have hlt : nI (m - 1) < (zbst σ fr w b).2 ↔ σ 6 ≤ (zbst σ fr w b).2 := by
      rw [em, i_lt, i_lei, nI_toInt (by omega), nI_toInt (by omega)]; omega
    rw [hlt]
    refine ⟨fun z => z.2, fun z => ⟨fun z0 => ?_, z⟩⟩
    have := zbf_none _ _ _ z0
    rw [show (zbst σ fr w b).2 = -1000 from this, em, i_lei, nI_toInt (by omega), show (-1000 : Int32).toInt = -1000 from rfl] at z
    omega
  rw [show zbf (fun s => zmar σ fr w b s) (-1000) (zshf (mny (σ (8 + 2 * w))) b) = zbst σ fr w b from rfl]
  constructor
  · intro c; rw [if_pos (hc.mp c)]
  · intro c; rw [if_neg (fun z => c (hc.mpr z))]
theorem bst_some (σ : Nat → Int32) (fr : Int32) (w b : Nat) (h : 0 < zshf (mny (σ (8 + 2 * w))) b) : ∃ s, s < zshf (mny (σ (8 + 2 * w))) b ∧ (zbst σ fr w b).1 = some s ∧ (zbst σ fr w b).2 = zmar σ fr w b s ∧ (zbf (fun s => zmar σ fr w b s) (-1001) (zshf (mny (σ (8 + 2 * w))) b)).1 = some s := by
  have hs := zbf_start (fun s => zmar σ fr w b s) (-1001) (-1000) (by decide) (zshf (mny (σ (8 + 2 * w))) b)
  have hgt : ∀ n, 0 < n → (-1000 : Int32) < (zbf (fun s => zmar σ fr w b s) (-1001) n).2 := by
    intro n
    induction n with
    | zero => intro z; omega
    | succ n ih =>
      intro _
      rw [zbf]
      split
      · exact (zmar_gt σ fr w b n).1
      · rename_i c
        rcases Nat.eq_zero_or_pos n with e | e
        · subst e
          exfalso
          refine c ?_
          have := (zmar_gt σ fr w b 0).1
          show (-1001 : Int32) < _
          rw [i_lt] at this ⊢
          rw [show (-1000 : Int32).toInt = -1000 from rfl] at this
          rw [show (-1001 : Int32).toInt = -1001 from rfl]
          omega
        · exact ih e
  rw [if_pos (hgt _ h)] at hs
  have hb : zbst σ fr w b = zbf (fun s => zmar σ fr w b s) (-1001) (zshf (mny (σ (8 + 2 * w))) b) := hs
  cases e : (zbst σ fr w b).1 with
  | none =>
    have := zbf_none _ _ _ (show (zbf (fun s => zmar σ fr w b s) (-1000) (zshf (mny (σ (8 + 2 * w))) b)).1 = none from e)
    have h2 := hgt _ h
    rw [← hs, this] at h2
    exact absurd h2 (by decide)
  | some s =>
    refine ⟨s, zbst_lt _ _ _ _ _ e, rfl, (zbf_some _ _ _ s e).1, by rw [← hb]; exact e⟩
theorem cp_greatestMargin {M : zM} {k n b B N w : Nat} {σ : Nat → Int32} {rp fr : Int32} (hr : zRep rp fr) (h : zQk M k n b B σ N) (hw : w < N) (hz : 0 < zshf (mny (σ (8 + 2 * w))) b) :
    zd_X6_greatestMargin [zR 6 k, zI (nI w), zR 0 n, zI rp] M = zs (zbst σ fr w b).2 M := by
  obtain ⟨s, s1, s2, s3, s4⟩ := bst_some σ fr w b hz
  rw [en_X6_greatestMargin, bk_X6_greatestMargin_0, zbi (cp_bestShift hr h hw (-1000)), show (-1000 : Int32) - 1 = -1001 from rfl, s4, bk_X6_greatestMargin_10]
  show (zd_X6_marginAt [zR 6 k, zI (nI w), zI (nI s), zR 0 n, zI rp] M).bind _ = _
  rw [zbi (cp_marginAt hr h.1 h.2.1 h.2.2.1 h.2.2.2.1 h.2.2.2.2 hw s1), bk_X6_greatestMargin_21, s3]
theorem zRw_inj {g g' : Nat → Int32} {f : Nat → Nat → Bool} (h : zRw g f) (h' : zRw g' f) (r : Nat) (hr : r < 5) : g r = g' r := ui_inj (Nat.eq_of_testBit_eq (fun c => by rw [h r hr c, h' r hr c]))
/-- a column without stuck discs needs no repair -/
theorem bst_same {B : Nat} {σ : Nat → Int32} (hW : zW B σ) {N w b c : Nat} (hN : N ≤ 10) (hs : σ 0 = nI N) (hw : w < N) (hc : c < 24) (h : ∀ r, r < 5 → zfD σ b 2 c r = false) : zbst σ (nI c) w b = zbst σ zNF w b := by
  have hm := VL_m (W_vl hW hN hs hw)
  refine zbf_congr _ _ (fun s hsl => ?_)
  unfold zmar
  refine zmg_congr (fun r hr => ?_) σ w b s
  have h25 := zs_lt hsl
  have r1 := zRw_see σ (nI c) b (σ (8 + 2 * w)) s (Or.inr ⟨c, hc, rfl⟩) hm.1 h25
  have r2 := zRw_see σ zNF b (σ (8 + 2 * w)) s (Or.inl (by decide)) hm.1 h25
  refine zRw_inj (r1.cg (fun c' r' hc' hr' => ?_)) r2 r hr
  unfold zV'
  have e : (zfD σ b 2 c' r' && !zfF (nI c) c') = (zfD σ b 2 c' r' && !zfF zNF c') := by
    unfold zfF
    rw [decide_eq_true (nI_pos' (show c < 2 ^ 31 by omega)), decide_eq_false (show ¬ (0 : Int32) ≤ zNF by decide), Bool.true_and, Bool.false_and]
    by_cases q : c' = c
    · rw [q, h r' hr']; rfl
    · rw [decide_eq_false (fun z => q ((nI_eq (by omega) (by omega)).mp z).symm)]
  rw [e]
theorem zbr'_nI (f : Nat → Option Nat × Int32) : ∀ c, ∃ j, j ≤ c ∧ (zbr' f c).1 = nI j := by
  intro c
  induction c with
  | zero => exact ⟨0, Nat.le_refl _, rfl⟩
  | succ c ih =>
    rw [zbr']
    split
    · obtain ⟨j, h1, h2⟩ := ih; exact ⟨j, by omega, h2⟩
    · exact ⟨c, by omega, rfl⟩
theorem cp_column_loop {M : zM} {k n b B N w : Nat} {σ : Nat → Int32} (h : zQk M k n b B σ N) (hw : w < N) (hz : 0 < zshf (mny (σ (8 + 2 * w))) b) : ∀ (j c : Nat) (d7 : Option zV) (l4 l5 : Int32), c + j = zcol b → (if c = 0 then l4 = -1 else l4 = (zbr' (fun c => zbst σ (nI c) w b) c).1 ∧ l5 = (zbr' (fun c => zbst σ (nI c) w b) c).2) →
    zev zC_X6_bestColumn 17 ([some (zR 6 k), some (zI (nI w)), some (zR 0 n), some (zI (zbst σ zNF w b).2), some (zI l4), some (zI l5), some (zI (nI c)), d7], [], M) = zs (zbr' (fun c => zbst σ (nI c) w b) (zcol b)).1 M := by
  have hl := zcol_le b
  have hl2 := zcol_ge b
  intro j
  induction j with
  | zero =>
    intro c d7 l4 l5 e hc
    rw [if_neg (by omega)] at hc
    rw [bk_X6_bestColumn_17, h.2.2.2.2.1, if_pos (nI_le (by omega) (by omega)), bk_X6_bestColumn_76, hc.1, show c = zcol b by omega]
  | succ j ih =>
    intro c d7 l4 l5 e hc
    have hval : ∀ d7, zev zC_X6_bestColumn 26 ([some (zR 6 k), some (zI (nI w)), some (zR 0 n), some (zI (zbst σ zNF w b).2), some (zI l4), some (zI l5), some (zI (nI c)), d7], [], M) = zev zC_X6_bestColumn 47 ([some (zR 6 k), some (zI (nI w)), some (zR 0 n), some (zI (zbst σ zNF w b).2), some (zI l4), some (zI l5), some (zI (nI c)), none], [zI (zbst σ (nI c) w b).2], M) := by
      intro d7
      obtain ⟨v, v1, v2⟩ := cp_hasStuckIn h.2.2.2.2.2.2.2.1 c (by omega)
      rw [bk_X6_bestColumn_26, zbi v1, bk_X6_bestColumn_32]
      by_cases q : v = 0
      · rw [if_pos q, bk_X6_bestColumn_46, bst_same h.1 h.2.1 h.2.2.1 hw (by omega) (v2.mp q)]
      · rw [if_neg q, bk_X6_bestColumn_35, zbi (cp_greatestMargin (Or.inr ⟨c, by omega, rfl, rfl⟩) h hw hz), bk_X6_bestColumn_43]
    obtain ⟨s, s1, s2, s3, -⟩ := bst_some σ (nI c) w b hz
    rw [bk_X6_bestColumn_17, h.2.2.2.2.1, if_neg (nI_ge (by omega) (by omega)), hval, bk_X6_bestColumn_47]
    by_cases c0 : c = 0
    · subst c0
      rw [if_pos rfl] at hc
      rw [if_pos hc, bk_X6_bestColumn_62, bk_X6_bestColumn_70, nI_1]
      refine ih (0 + 1) _ _ _ (by omega) ?_
      rw [if_neg (by omega), zbr']
      have hgt : ¬ (zbst σ (nI 0) w b).2 ≤ -1000 := by rw [s3, i_le]; exact fun z => z (zmar_gt σ (nI 0) w b s).1
      rw [if_neg (fun z => by
        rcases z with z | z
        · rw [s2] at z; cases z
        · exact hgt z)]
      exact ⟨rfl, rfl⟩
    · rw [if_neg c0] at hc
      obtain ⟨i, i1, i2⟩ := zbr'_nI (fun c => zbst σ (nI c) w b) c
      have hne : ¬ l4 = -1 := by
        rw [hc.1, i2]
        intro z
        have := nI_pos (n := i) (by omega)
        rw [z] at this
        exact this (by decide)
      rw [if_neg hne, bk_X6_bestColumn_55]
      by_cases q : (zbst σ (nI c) w b).2 ≤ l5
      · rw [if_pos q, bk_X6_bestColumn_70, nI_1]
        refine ih (c + 1) _ _ _ (by omega) ?_
        rw [if_neg (by omega), zbr', if_pos (Or.inr (by rw [← hc.2]; exact q))]
        exact hc
      · rw [if_neg q, bk_X6_bestColumn_62, bk_X6_bestColumn_70, nI_1]
        refine ih (c + 1) _ _ _ (by omega) ?_
        rw [if_neg (by omega), zbr', if_neg (fun z => by
          rcases z with z | z
          · rw [s2] at z; cases z
          · rw [← hc.2] at z; exact q z)]
        exact ⟨rfl, rfl⟩
theorem cp_bestColumn {M : zM} {k n b B N w : Nat} {σ : Nat → Int32} (h : zQk M k n b B σ N) (hw : w < N) (hz : 0 < zshf (mny (σ (8 + 2 * w))) b) : zd_X6_bestColumn [zR 6 k, zI (nI w), zR 0 n] M = zs (zbr' (fun c => zbst σ (nI c) w b) (zcol b)).1 M := by
  rw [en_X6_bestColumn, bk_X6_bestColumn_0, zbi (cp_greatestMargin (Or.inl ⟨rfl, rfl⟩) h hw hz), bk_X6_bestColumn_7]
  exact cp_column_loop h hw hz (zcol b) 0 _ _ _ (by omega) (by rw [if_pos rfl])
theorem zbr'_max (f : Nat → Option Nat × Int32) (hf : ∀ c, (f c).1 ≠ none ∧ (-1000 : Int32) < (f c).2) : ∀ c, 0 < c → ∃ j, j < c ∧ (zbr' f c).1 = nI j ∧ (zbr' f c).2 = (f j).2 := by
  intro c
  induction c with
  | zero => intro z; omega
  | succ c ih =>
    intro _
    rw [zbr']
    split
    · rename_i q
      rcases Nat.eq_zero_or_pos c with e | e
      · subst e
        exfalso
        rcases q with q | q
        · exact (hf 0).1 q
        · exact i_le.mp q (hf 0).2
      · obtain ⟨j, h1, h2, h3⟩ := ih e
        exact ⟨j, by omega, h2, h3⟩
    · exact ⟨c, by omega, rfl, rfl⟩
