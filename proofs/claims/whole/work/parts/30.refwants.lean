-- ===== the reference: a picture is wanted =====
/-- only s differs -/
def zR9 (M M' : zM) : Prop := M'.2 = M.2 ∧ ∀ c n, ¬ (c = 29 ∧ n = 0) → M'.1 c n = M.1 c n
theorem zR9.rf (M : zM) : zR9 M M := ⟨rfl, fun _ _ _ => rfl⟩
theorem zR9.tr {M M' M'' : zM} (h : zR9 M M') (h' : zR9 M' M'') : zR9 M M'' := ⟨h'.1.trans h.1, fun c n a => (h'.2 c n a).trans (h.2 c n a)⟩
theorem zR9.st {M M' : zM} (h : zR9 M M') (f : Nat → Int32) : zR9 M (zst M'.1 29 0 f, M'.2) := ⟨h.1, fun c n a => (zst_ne _ _ a).trans (h.2 c n a)⟩
/-- is a dot wanted bright -/
def zwb (x : Int32) (k r c : Nat) : Bool := decide ((((if x = 0 then 0 else zrow x r <<< (nI k &&& (31 : Int32))) >>> (nI c &&& (31 : Int32))) &&& 1) = 1)
def zwF (σ : Nat → Int32) (b : Nat) (W : Nat → Nat → Bool) (r c : Nat) : Nat := zsm (fun r => zsm (fun c => (zfl (σ (zat b r c)) (W r c)).toNat) (zcol b)) r + zsm (fun c => (zfl (σ (zat b r c)) (W r c)).toNat) c
def zwW (σ : Nat → Int32) (b : Nat) (W : Nat → Nat → Bool) (r c : Nat) : Nat := zsm (fun r => zsm (fun c => (zwn (σ (zat b r c)) (W r c) (σ 7)).toNat) (zcol b)) r + zsm (fun c => (zwn (σ (zat b r c)) (W r c) (σ 7)).toNat) c
/-- the discs ahead of row r, column c are done -/
def zWA (σ : Nat → Int32) (b : Nat) (W : Nat → Nat → Bool) (r c : Nat) (τ : Nat → Int32) : Prop :=
  (∀ r' c', r' < 5 → c' < zcol b → (r' < r ∨ (r' = r ∧ c' < c)) → τ (zat b r' c') = zvn (σ (zat b r' c')) (W r' c') (σ 7)) ∧
  (∀ j, (∀ r' c', r' < 5 → c' < zcol b → (r' < r ∨ (r' = r ∧ c' < c)) → j ≠ zat b r' c') → j ≠ 4 + b → j ≠ 1 → τ j = σ j) ∧
  τ (4 + b) = σ (4 + b) + nI (zwF σ b W r c) ∧ τ 1 = σ 1 + nI (zwW σ b W r c)
theorem zWA_0 (σ : Nat → Int32) (b : Nat) (W : Nat → Nat → Bool) : zWA σ b W 0 0 σ := by
  refine ⟨fun r' c' _ _ h => by omega, fun j _ _ _ => rfl, ?_, ?_⟩
  · show σ (4 + b) = σ (4 + b) + nI 0
    exact (Int32.add_zero _).symm
  · show σ 1 = σ 1 + nI 0
    exact (Int32.add_zero _).symm
theorem zWA_s {σ : Nat → Int32} {b : Nat} {W : Nat → Nat → Bool} {r c : Nat} {τ : Nat → Int32} (hb : b < 2) (hr : r < 5) (hc : c < zcol b) (h : zWA σ b W r c τ) : zWA σ b W r (c + 1) (zwnt τ b (zat b r c) (W r c)) := by
  obtain ⟨h1, h2, h3, h4⟩ := h
  have hge : ∀ r' c', 28 ≤ zat b r' c' := fun _ _ => zat_ge
  have e : τ (zat b r c) = σ (zat b r c) := h2 _ (fun r' c' hr' hc' hp z => by
    obtain ⟨-, q1, q2⟩ := zat_inj hb hr hc hb hr' hc' z
    omega) (by have := hge r c; omega) (by have := hge r c; omega)
  have e7 : τ 7 = σ 7 := h2 7 (fun r' c' _ _ _ z => by have := hge r' c'; omega) (by omega) (by omega)
  have n4 : 4 + b ≠ zat b r c := by have := hge r c; omega
  have n1 : 1 ≠ zat b r c := by have := hge r c; omega
  refine ⟨fun r' c' hr' hc' hp => ?_, fun j hj hj4 hj1 => ?_, ?_, ?_⟩
  · unfold zwnt
    by_cases hq : zat b r' c' = zat b r c
    · obtain ⟨-, q1, q2⟩ := zat_inj hb hr' hc' hb hr hc hq
      rw [if_pos hq, e, e7, q1, q2]
    · rw [if_neg hq, if_neg (by have := hge r' c'; omega), if_neg (by have := hge r' c'; omega)]
      refine h1 r' c' hr' hc' ?_
      rcases hp with hp | ⟨hp1, hp2⟩
      · exact Or.inl hp
      · refine Or.inr ⟨hp1, ?_⟩
        rcases Nat.lt_or_ge c' c with q | q
        · exact q
        · exact absurd (by rw [hp1, show c' = c by omega]) hq
  · unfold zwnt
    rw [if_neg (hj r c hr hc (Or.inr ⟨rfl, by omega⟩)), if_neg hj4, if_neg hj1]
    exact h2 j (fun r' c' hr' hc' hp => hj r' c' hr' hc' (by omega)) hj4 hj1
  · unfold zwnt
    rw [if_neg n4, if_pos rfl, h3, e, zbI_nI, Int32.add_assoc, nI_add]
    unfold zwF
    rw [zsm, Nat.add_assoc]
  · unfold zwnt
    rw [if_neg n1, if_neg (by omega), if_pos rfl, h4, e, e7, zbI_nI, Int32.add_assoc, nI_add]
    unfold zwW
    rw [zsm, Nat.add_assoc]
theorem zWA_r {σ : Nat → Int32} {b : Nat} {W : Nat → Nat → Bool} {r : Nat} {τ : Nat → Int32} (h : zWA σ b W r (zcol b) τ) : zWA σ b W (r + 1) 0 τ := by
  obtain ⟨h1, h2, h3, h4⟩ := h
  refine ⟨fun r' c' hr' hc' hp => h1 r' c' hr' hc' (by omega), fun j hj => h2 j (fun r' c' hr' hc' hp => hj r' c' hr' hc' (by omega)), ?_, ?_⟩
  · rw [h3]; unfold zwF; rw [zsm, zsm]; rfl
  · rw [h4]; unfold zwW; rw [zsm, zsm]; rfl
theorem sp_wa_in (b k r : Nat) (x : Int32) (hb : b < 2) (hr : r < 5) (M0 : zM) : ∀ (j c : Nat) (M : zM), c + j = zcol b → zR9 M0 M → zWA (M0.1 29 0) b (zwb x k) r c (M.1 29 0) →
    ∃ M', zev zC_X8_wantsAll 30 ([some (zR 8 0), some (zI (nI b)), some (zI x), some (zI (nI k)), some (zI (nI r)), some (zI (if x = 0 then 0 else zrow x r <<< (nI k &&& (31 : Int32)))), some (zI (nI c))], [], M) = zev zC_X8_wantsAll 3 ([some (zR 8 0), some (zI (nI b)), some (zI x), some (zI (nI k)), some (zI (nI (r + 1))), none, none], [], M') ∧ zR9 M0 M' ∧ zWA (M0.1 29 0) b (zwb x k) (r + 1) 0 (M'.1 29 0) := by
  intro j
  induction j with
  | zero =>
    intro c M hc hf hw
    have hl := zcol_le b
    refine ⟨M, ?_, hf, zWA_r (by rw [show zcol b = c by omega]; exact hw)⟩
    rw [bk_X8_wantsAll_30, zbi (sp_columns _ _), bk_X8_wantsAll_36, zcol_eq b hb, if_pos (nI_le (by omega) (by omega)), bk_X8_wantsAll_74, nI_1]
  | succ j ih =>
    intro c M hc hf hw
    have hl := zcol_le b
    have hat := zat_lt hb hr (show c < zcol b by omega)
    obtain ⟨M', e1, e2, e3⟩ := ih (c + 1) (zst M.1 29 0 (zwnt (M.1 29 0) b (zat b r c) (zwb x k r c)), M.2) (by omega) (hf.st _) (by
      have e : (zst M.1 29 0 (zwnt (M.1 29 0) b (zat b r c) (zwb x k r c))) 29 0 = zwnt (M.1 29 0) b (zat b r c) (zwb x k r c) := zst_self _ _ _ _
      show zWA _ _ _ _ _ ((zst M.1 29 0 (zwnt (M.1 29 0) b (zat b r c) (zwb x k r c))) 29 0)
      rw [e]
      exact zWA_s hb hr (by omega) hw)
    refine ⟨M', ?_, e2, e3⟩
    have h65 : zev zC_X8_wantsAll 65 ([some (zR 8 0), some (zI (nI b)), some (zI x), some (zI (nI k)), some (zI (nI r)), some (zI (if x = 0 then 0 else zrow x r <<< (nI k &&& (31 : Int32)))), some (zI (nI c))], [zI (zbI (zwb x k r c)), zI (nI (zat b r c)), zI (nI b), zR 8 0], M) = zev zC_X8_wantsAll 30 ([some (zR 8 0), some (zI (nI b)), some (zI x), some (zI (nI k)), some (zI (nI r)), some (zI (if x = 0 then 0 else zrow x r <<< (nI k &&& (31 : Int32)))), some (zI (nI (c + 1)))], [], (zst M.1 29 0 (zwnt (M.1 29 0) b (zat b r c) (zwb x k r c)), M.2)) := by
      rw [bk_X8_wantsAll_65, zbv (sp_wants b (zat b r c) _ hb zat_ge hat M), bk_X8_wantsAll_68, nI_1]
    rw [← e1, ← h65, bk_X8_wantsAll_30, zbi (sp_columns _ _), bk_X8_wantsAll_36, zcol_eq b hb, if_neg (nI_ge (by omega) (by omega)), bk_X8_wantsAll_39, zbi (sp_at b r c hb M), bk_X8_wantsAll_49]
    by_cases hc2 : (((if x = 0 then 0 else zrow x r <<< (nI k &&& (31 : Int32))) >>> (nI c &&& (31 : Int32))) &&& 1) = 1
    · have hz : zwb x k r c = true := decide_eq_true hc2
      rw [if_pos hc2, bk_X8_wantsAll_60, hz]
      rfl
    · have hz : zwb x k r c = false := decide_eq_false hc2
      rw [if_neg hc2, bk_X8_wantsAll_64, hz]
      rfl
theorem sp_wa_out (b k : Nat) (x : Int32) (hb : b < 2) (M0 : zM) : ∀ (j r : Nat) (d5 d6 : Option zV) (M : zM), r + j = 5 → zR9 M0 M → zWA (M0.1 29 0) b (zwb x k) r 0 (M.1 29 0) →
    ∃ M', zev zC_X8_wantsAll 3 ([some (zR 8 0), some (zI (nI b)), some (zI x), some (zI (nI k)), some (zI (nI r)), d5, d6], [], M) = some (none, M') ∧ zR9 M0 M' ∧ zWA (M0.1 29 0) b (zwb x k) 5 0 (M'.1 29 0) := by
  intro j
  induction j with
  | zero =>
    intro r d5 d6 M hr hf hw
    refine ⟨M, ?_, hf, by rw [show 5 = r by omega]; exact hw⟩
    rw [bk_X8_wantsAll_3, show (5 : Int32) = nI 5 from rfl, if_pos (nI_le (by omega) (by omega)), bk_X8_wantsAll_80]
  | succ j ih =>
    intro r d5 d6 M hr hf hw
    obtain ⟨M1, e1, e2, e3⟩ := sp_wa_in b k r x hb (by omega) M0 (zcol b) 0 M (by omega) hf hw
    obtain ⟨M', f1, f2, f3⟩ := ih (r + 1) none none M1 (by omega) e2 e3
    refine ⟨M', ?_, f2, f3⟩
    rw [← f1, ← e1, bk_X8_wantsAll_3, show (5 : Int32) = nI 5 from rfl, if_neg (nI_ge (by omega) (by omega)), bk_X8_wantsAll_9]
    by_cases hx : x = 0
    · rw [if_pos hx, bk_X8_wantsAll_13, bk_X8_wantsAll_25, if_pos hx]
      rfl
    · rw [if_neg hx, bk_X8_wantsAll_17, zbi (sp_rowOf x r (by omega) M), bk_X8_wantsAll_23, bk_X8_wantsAll_25, if_neg hx]
      rfl
theorem sp_wantsAll (b k : Nat) (x : Int32) (hb : b < 2) (M : zM) : ∃ M', zd_X8_wantsAll [zR 8 0, zI (nI b), zI x, zI (nI k)] M = some (none, M') ∧ zR9 M M' ∧ zWA (M.1 29 0) b (zwb x k) 5 0 (M'.1 29 0) := by
  obtain ⟨M', h1, h2, h3⟩ := sp_wa_out b k x hb M 5 0 none none M rfl (zR9.rf M) (zWA_0 _ _ _)
  exact ⟨M', by rw [en_X8_wantsAll, bk_X8_wantsAll_0]; exact h1, h2, h3⟩
