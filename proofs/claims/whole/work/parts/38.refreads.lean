-- ===== the reference: letters, numbers, a whole order =====
def zlL (T : Nat → Int32) (n : Nat) : Nat → Nat → Int32 → Int32 × Nat
  | 0, q, v => (v, q)
  | k + 1, q, v => if zis T n 97 112 q = true then zlL T n k (q + 1) (((32 * v + T q) - 97) + 1) else (v, q)
theorem zlL_le (T : Nat → Int32) (n : Nat) : ∀ (k q : Nat) (v : Int32), q ≤ n → q ≤ (zlL T n k q v).2 ∧ (zlL T n k q v).2 ≤ n ∧ (zlL T n k q v).2 ≤ q + k := by
  intro k
  induction k with
  | zero => intro q v h; exact ⟨Nat.le_refl _, h, Nat.le_refl _⟩
  | succ k ih =>
    intro q v h
    rw [zlL]
    split
    · rename_i c
      have := zis_lt c
      have := ih (q + 1) (((32 * v + T q) - 97) + 1) this
      omega
    · exact ⟨Nat.le_refl _, h, by omega⟩
theorem sp_lettered_loop (n p : Nat) (hn : n ≤ 60) (M0 : zM) (f : Nat → Int32) (o : Int32) (h6 : M0.1 8 0 6 = nI n) : ∀ (k i : Nat) (v : Int32) (M : zM), i + k = 6 → p + i ≤ n → zRd M0 M (p + i) (upd f 0 v) o → ∃ M', zev zC_X8_lettered 12 ([some (zR 8 0), some (zI (nI p))], [], M) = zev zC_X8_lettered 77 ([some (zR 8 0), some (zI (nI p))], [], M') ∧ zRd M0 M' (zlL (M0.1 32 0) n k (p + i) v).2 (upd f 0 (zlL (M0.1 32 0) n k (p + i) v).1) o := by
  intro k
  induction k with
  | zero =>
    intro i v M e hp h
    refine ⟨M, ?_, h⟩
    rw [bk_X8_lettered_12, zbi (h.isAt hn h6 hp 97 112), bk_X8_lettered_20]
    cases zis (M0.1 32 0) n 97 112 (p + i)
    · exact if_pos zbI_f
    · rw [if_neg zbI_n, bk_X8_lettered_23, h.p, pk_sub (by omega), show (6 : Int32) = nI 6 from rfl, if_pos (nI_le (by omega) (by omega))]
  | succ k ih =>
    intro i v M e hp h
    rw [bk_X8_lettered_12, zbi (h.isAt hn h6 hp 97 112), bk_X8_lettered_20, zlL]
    cases c : zis (M0.1 32 0) n 97 112 (p + i)
    · exact ⟨M, if_pos zbI_f, h⟩
    · have l1 := zis_lt c
      rw [if_neg zbI_n, bk_X8_lettered_23, h.p, pk_sub (by omega), show (6 : Int32) = nI 6 from rfl, if_neg (nI_ge (by omega) (by omega)), bk_X8_lettered_34, h.p, if_neg (ix_in (by omega) (by decide)), ix_cl (by omega), bk_X8_lettered_57, if_neg (by decide), bk_X8_lettered_64, bk_X8_lettered_74, if_pos rfl]
      have h1 := h.tl 0 (((32 * v + M0.1 32 0 (p + i)) - 97) + 1)
      rw [upd_u] at h1
      have h2 := h1.sp (M.1 8 0 10 + 1) (p + i + 1) (by rw [h.p, nI_1])
      dsimp only
      rw [zst_ne (c := 34) (n := 0) (c' := 8) (n' := 0) _ _ (by decide), h.T, h.f, upd_s]
      rw [h.f] at h2
      exact ih (i + 1) _ _ (by omega) (by omega) (by rw [show (Int32.toNatClampNeg 0) = 0 from rfl]; exact h2)
/-- letters and the sign behind them: is it so, where it ends, the letters -/
def zld (T : Nat → Int32) (n p : Nat) : Bool × Nat × Int32 := if p < (zlL T n 6 p 0).2 then (zis T n 59 59 (zlL T n 6 p 0).2, (zlL T n 6 p 0).2 + (zis T n 59 59 (zlL T n 6 p 0).2).toNat, (zlL T n 6 p 0).1) else (false, (zlL T n 6 p 0).2, (zlL T n 6 p 0).1)
theorem sp_lettered (n p : Nat) (hn : n ≤ 60) (hp : p ≤ n) (M0 M : zM) (f : Nat → Int32) (o : Int32) (h6 : M0.1 8 0 6 = nI n) (h : zRd M0 M p f o) : ∃ M', zd_X8_lettered [zR 8 0] M = zs (zbI (zld (M0.1 32 0) n p).1) M' ∧ zRd M0 M' (zld (M0.1 32 0) n p).2.1 (upd f 0 (zld (M0.1 32 0) n p).2.2) o := by
  obtain ⟨M1, e1, h1⟩ := sp_lettered_loop n p hn M0 f o h6 6 0 0 _ rfl hp (h.tl 0 0)
  have hl := zlL_le (M0.1 32 0) n 6 p 0 hp
  rw [en_X8_lettered, bk_X8_lettered_0, h.p, e1, bk_X8_lettered_77, h1.p]
  unfold zld
  by_cases c : p < (zlL (M0.1 32 0) n 6 p 0).2
  · obtain ⟨M2, e2, h2⟩ := sp_sign n _ 59 hn hl.2.1 M0 M1 _ o h6 h1
    refine ⟨M2, ?_, by rw [if_pos c]; exact h2⟩
    rw [Nat.add_zero, if_neg (nI_ge c (by omega)), if_pos c, bk_X8_lettered_85, zbi e2, bk_X8_lettered_91]
    dsimp only
    cases zis (M0.1 32 0) n 59 59 (zlL (M0.1 32 0) n 6 p 0).2
    · rw [if_pos zbI_f, bk_X8_lettered_98, bk_X8_lettered_99, if_pos (Or.inl rfl)]; rfl
    · rw [if_neg zbI_n, bk_X8_lettered_94, bk_X8_lettered_99, if_pos (Or.inr rfl)]; rfl
  · refine ⟨M1, ?_, by rw [if_neg c]; exact h1⟩
    rw [Nat.add_zero, if_pos (nI_le (by omega) (by omega)), if_neg c, bk_X8_lettered_98, bk_X8_lettered_99, if_pos (Or.inl rfl)]; rfl
/-- how many numbers an order has -/
def zNo (o : Int32) : Nat := if o = 115 then 2 else if o = 114 then 2 else if o = 98 then 1 else if o = 107 then 4 else 0
theorem sp_numbersOf (o : Int32) (M : zM) : zd_X8_numbersOf [zI o] M = zs (nI (zNo o)) M := by
  rw [en_X8_numbersOf, bk_X8_numbersOf_0]
  unfold zNo
  split
  · rw [bk_X8_numbersOf_12, bk_X8_numbersOf_37]; rfl
  · rw [bk_X8_numbersOf_6]
    split
    · rw [bk_X8_numbersOf_12, bk_X8_numbersOf_37]; rfl
    · rw [bk_X8_numbersOf_16]
      split
      · rw [bk_X8_numbersOf_22, bk_X8_numbersOf_37]; rfl
      · rw [bk_X8_numbersOf_26]
        split
        · rw [bk_X8_numbersOf_32, bk_X8_numbersOf_37]; rfl
        · rw [bk_X8_numbersOf_36, bk_X8_numbersOf_37]; rfl
theorem zNo_le (o : Int32) : zNo o ≤ 4 := by unfold zNo; repeat (first | omega | split)
/-- numbers k, k + 1 .. : is it so, where it ends, the numbers -/
def zns (T : Nat → Int32) (n : Nat) : Nat → Nat → Bool × Nat × (Nat → Int32) → Bool × Nat × (Nat → Int32)
  | 0, _, s => s
  | j + 1, k, s => if s.1 = true then (if zis T n 44 44 s.2.1 = true then zns T n j (k + 1) (decide (s.2.1 + 1 < (znu T n (s.2.1 + 1)).2), (znu T n (s.2.1 + 1)).2, upd s.2.2 k (znu T n (s.2.1 + 1)).1) else (false, s.2.1, s.2.2)) else s
theorem zns_f (T : Nat → Int32) (n j k p : Nat) (f : Nat → Int32) : zns T n j k (false, p, f) = (false, p, f) := by
  cases j with
  | zero => rfl
  | succ j => rw [zns, if_neg (show ¬ false = true by decide)]
theorem zns_le (T : Nat → Int32) (n : Nat) : ∀ (j k : Nat) (s : Bool × Nat × (Nat → Int32)), s.2.1 ≤ n → s.2.1 ≤ (zns T n j k s).2.1 ∧ (zns T n j k s).2.1 ≤ n := by
  intro j
  induction j with
  | zero => intro k s h; exact ⟨Nat.le_refl _, h⟩
  | succ j ih =>
    intro k s h
    rw [zns]
    split
    · split
      · rename_i c
        have := zis_lt c
        have a := znu_le T n (s.2.1 + 1) this
        have := ih (k + 1) (decide (s.2.1 + 1 < (znu T n (s.2.1 + 1)).2), (znu T n (s.2.1 + 1)).2, upd s.2.2 k (znu T n (s.2.1 + 1)).1) a.2
        dsimp only at this
        omega
      · exact ⟨Nat.le_refl _, h⟩
    · exact ⟨Nat.le_refl _, h⟩
theorem sp_nums_loop (n m : Nat) (hn : n ≤ 60) (hm : m ≤ 4) (M0 : zM) (o : Int32) (h6 : M0.1 8 0 6 = nI n) : ∀ (j k : Nat) (b : Bool) (p : Nat) (f : Nat → Int32) (M : zM), k + j = m → p ≤ n → zRd M0 M p f o → ∃ M' l3, zev zC_X8_reads 83 ([some (zR 8 0), some (zI (nI m)), some (zI (zbI b)), some (zI (nI k))], [], M) = zev zC_X8_reads 121 ([some (zR 8 0), some (zI (nI m)), some (zI (zbI (zns (M0.1 32 0) n j k (b, p, f)).1)), some (zI l3)], [], M') ∧ zRd M0 M' (zns (M0.1 32 0) n j k (b, p, f)).2.1 (zns (M0.1 32 0) n j k (b, p, f)).2.2 o := by
  intro j
  induction j with
  | zero =>
    intro k b p f M e hp h
    refine ⟨M, nI k, ?_, h⟩
    rw [bk_X8_reads_83, if_pos (nI_le (by omega) (by omega))]
    rfl
  | succ j ih =>
    intro k b p f M e hp h
    rw [bk_X8_reads_83, if_neg (nI_ge (by omega) (by omega)), bk_X8_reads_88]
    cases b with
    | false =>
      rw [zns_f]
      exact ⟨M, nI k, if_pos zbI_f, h⟩
    | true =>
      obtain ⟨M1, e1, h1⟩ := sp_sign n p 44 hn hp M0 M f o h6 h
      rw [if_neg zbI_n, bk_X8_reads_92, zbi e1, bk_X8_reads_98, zns, if_pos rfl]
      cases c : zis (M0.1 32 0) n 44 44 p with
      | false =>
        rw [c] at h1
        rw [if_pos (show zbI false = 0 from rfl), bk_X8_reads_113, bk_X8_reads_114, nI_1]
        obtain ⟨M2, l3, e2, h2⟩ := ih (k + 1) false p f M1 (by omega) hp h1
        rw [zns_f] at e2 h2
        exact ⟨M2, l3, e2, h2⟩
      | true =>
        rw [c] at h1
        have l1 := zis_lt c
        obtain ⟨M2, e2, h2⟩ := sp_number k n (p + 1) (by omega) hn l1 M0 M1 f o h6 h1
        rw [if_neg (show ¬ zbI true = 0 by decide), bk_X8_reads_101, zbi e2, bk_X8_reads_106]
        have e3 : ∀ (c : Bool), (if zbI c = 0 then zev zC_X8_reads 113 ([some (zR 8 0), some (zI (nI m)), none, some (zI (nI k))], [], M2) else zev zC_X8_reads 109 ([some (zR 8 0), some (zI (nI m)), none, some (zI (nI k))], [], M2)) = zev zC_X8_reads 83 ([some (zR 8 0), some (zI (nI m)), some (zI (zbI c)), some (zI (nI (k + 1)))], [], M2) := by
          intro c
          cases c
          · rw [if_pos zbI_f, bk_X8_reads_113, bk_X8_reads_114, nI_1]; rfl
          · rw [if_neg zbI_n, bk_X8_reads_109, bk_X8_reads_114, nI_1]; rfl
        rw [e3]
        exact ih (k + 1) _ _ _ M2 (by omega) (znu_le (M0.1 32 0) n (p + 1) l1).2 h2
/-- what is read at p: is it an order, where it ends, numbers or letters, of which kind -/
def zko (T : Nat → Int32) (n p : Nat) : Int32 := if zis T n 33 126 p = true then T p else 0
def znp (T : Nat → Int32) (n p m : Nat) (f : Nat → Int32) : Bool × Nat × (Nat → Int32) := zns T n (m - 1) 1 (decide (p < (znu T n p).2), (znu T n p).2, upd f 0 (znu T n p).1)
def zps (T : Nat → Int32) (n : Nat) (s : Bool × Nat × (Nat → Int32)) : Bool × Nat × (Nat → Int32) := if s.1 = true then (zis T n 59 59 s.2.1, s.2.1 + (zis T n 59 59 s.2.1).toNat, s.2.2) else s
def zpa (T : Nat → Int32) (n p : Nat) (f : Nat → Int32) : Bool × Nat × (Nat → Int32) :=
  if zko T n p = 119 then ((zld T n (p + 1)).1, (zld T n (p + 1)).2.1, upd f 0 (zld T n (p + 1)).2.2)
  else if zNo (zko T n p) = 0 then (false, p, f) else zps T n (znp T n (p + 1) (zNo (zko T n p)) f)
theorem sp_reads (n p : Nat) (hn : n ≤ 60) (hp : p < n) (M0 M : zM) (f : Nat → Int32) (o : Int32) (h6 : M0.1 8 0 6 = nI n) (h : zRd M0 M p f o) : ∃ M', zd_X8_reads [zR 8 0] M = zs (zbI (zpa (M0.1 32 0) n p f).1) M' ∧ zRd M0 M' (zpa (M0.1 32 0) n p f).2.1 (zpa (M0.1 32 0) n p f).2.2 (zko (M0.1 32 0) n p) := by
  have h0 := h.od (zko (M0.1 32 0) n p)
  have ent : zd_X8_reads [zR 8 0] M = zev zC_X8_reads 28 ([some (zR 8 0), none, none, none], [], (zst M.1 8 0 (upd (M.1 8 0) 15 (zko (M0.1 32 0) n p)), M.2)) := by
    rw [en_X8_reads, bk_X8_reads_0, zbi (h.isAt hn h6 (by omega) 33 126), bk_X8_reads_9]
    unfold zko
    cases zis (M0.1 32 0) n 33 126 p
    · rw [if_pos (show zbI false = 0 from rfl), bk_X8_reads_24, bk_X8_reads_25]; rfl
    · rw [if_neg (show ¬ zbI true = 0 by decide), bk_X8_reads_12, h.p, if_neg (ix_in (by omega) (by decide)), ix_cl (by omega), h.T, bk_X8_reads_21, bk_X8_reads_25]; rfl
  rw [ent]
  revert h0
  generalize (zst M.1 8 0 (upd (M.1 8 0) 15 (zko (M0.1 32 0) n p)), M.2) = N
  intro h0
  rw [bk_X8_reads_28, h0.o, zbi (sp_numbersOf _ _), bk_X8_reads_35]
  unfold zpa
  have h1 := h0.sp (N.1 8 0 10 + 1) (p + 1) (by rw [h0.p, nI_1])
  have hnl := zNo_le (zko (M0.1 32 0) n p)
  have go : ∀ l1, zev zC_X8_reads 51 ([some (zR 8 0), some (zI l1), none, none], [], N) = zev zC_X8_reads 61 ([some (zR 8 0), some (zI l1), none, none], [], (zst N.1 8 0 (upd (N.1 8 0) 10 (N.1 8 0 10 + 1)), N.2)) := fun l1 => bk_X8_reads_51 _ _ _ _ _
  revert h1 go
  generalize (zst N.1 8 0 (upd (N.1 8 0) 10 (N.1 8 0 10 + 1)), N.2) = N1
  intro h1 go
  by_cases cw : zko (M0.1 32 0) n p = 119
  · rw [if_pos cw]
    obtain ⟨M2, e2, h2⟩ := sp_lettered n (p + 1) hn hp M0 N1 f _ h6 h1
    refine ⟨M2, ?_, h2⟩
    have z0 : zNo (zko (M0.1 32 0) n p) = 0 := by rw [cw]; decide
    rw [z0, if_pos (show nI 0 = 0 from rfl), bk_X8_reads_40, h0.o, if_pos cw, go, bk_X8_reads_61, h1.o, if_pos cw, bk_X8_reads_70, zbi e2, bk_X8_reads_74]
    cases (zld (M0.1 32 0) n (p + 1)).1
    · exact if_pos (Or.inl zbI_f)
    · exact if_pos (Or.inr zbI_t)
  · rw [if_neg cw]
    by_cases c0 : zNo (zko (M0.1 32 0) n p) = 0
    · rw [if_pos c0]
      refine ⟨N, ?_, h0⟩
      rw [c0, if_pos (show nI 0 = 0 from rfl), bk_X8_reads_40, h0.o, if_neg cw, bk_X8_reads_49]; rfl
    · rw [if_neg c0, if_neg (nI_ne0 (Nat.pos_of_ne_zero c0) (by omega)), go, bk_X8_reads_61, h1.o, if_neg cw]
      obtain ⟨M2, e2, h2⟩ := sp_number 0 n (p + 1) (by omega) hn hp M0 N1 f _ h6 h1
      rw [bk_X8_reads_75, show (0 : Int32) = nI 0 from rfl, zbi e2, bk_X8_reads_80]
      have hz := znu_le (M0.1 32 0) n (p + 1) hp
      obtain ⟨M3, l3, e3, h3⟩ := sp_nums_loop n (zNo (zko (M0.1 32 0) n p)) hn hnl M0 _ h6 (zNo (zko (M0.1 32 0) n p) - 1) 1 _ _ _ M2 (by omega) hz.2 h2
      have hl3 := zns_le (M0.1 32 0) n (zNo (zko (M0.1 32 0) n p) - 1) 1 (decide (p + 1 < (znu (M0.1 32 0) n (p + 1)).2), (znu (M0.1 32 0) n (p + 1)).2, upd f 0 (znu (M0.1 32 0) n (p + 1)).1) hz.2
      rw [show (1 : Int32) = nI 1 from rfl, e3]
      unfold zps znp
      revert hl3 h3
      generalize zns (M0.1 32 0) n (zNo (zko (M0.1 32 0) n p) - 1) 1 (decide (p + 1 < (znu (M0.1 32 0) n (p + 1)).2), (znu (M0.1 32 0) n (p + 1)).2, upd f 0 (znu (M0.1 32 0) n (p + 1)).1) = S
      intro h3 hl3
      obtain ⟨b, q, g⟩ := S
      rw [bk_X8_reads_121]
      cases b with
      | false =>
        rw [if_pos (show zbI false = 0 from rfl), bk_X8_reads_138, bk_X8_reads_139, if_pos (Or.inl rfl)]
        exact ⟨M3, rfl, h3⟩
      | true =>
        obtain ⟨M4, e4, h4⟩ := sp_sign n q 59 hn hl3.2 M0 M3 g _ h6 h3
        rw [if_neg (show ¬ zbI true = 0 by decide), bk_X8_reads_125, zbi e4, bk_X8_reads_131, if_pos rfl]
        refine ⟨M4, ?_, h4⟩
        cases zis (M0.1 32 0) n 59 59 q
        · rw [if_pos (show zbI false = 0 from rfl), bk_X8_reads_138, bk_X8_reads_139, if_pos (Or.inl rfl)]; rfl
        · rw [if_neg (show ¬ zbI true = 0 by decide), bk_X8_reads_134, bk_X8_reads_139, if_pos (Or.inr rfl)]; rfl
