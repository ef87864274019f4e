-- ===== the class: the text is tried =====
theorem co_numbersOf (o : Int32) (M : zM) : zd_X3_numbersOf [zI o] M = zs (if o = 119 then 0 else if zNo o = 0 then -1 else nI (zNo o)) M := by
  rw [en_X3_numbersOf, bk_X3_numbersOf_0]
  by_cases c1 : o = 98
  · subst c1; rw [if_pos rfl, bk_X3_numbersOf_54]; rfl
  rw [if_neg c1]
  by_cases c2 : o = 107
  · subst c2; rw [if_pos rfl, bk_X3_numbersOf_58]; rfl
  rw [if_neg c2]
  by_cases c3 : o = 114
  · subst c3; rw [if_pos rfl, bk_X3_numbersOf_56]; rfl
  rw [if_neg c3]
  by_cases c4 : o = 115
  · subst c4; rw [if_pos rfl, bk_X3_numbersOf_56]; rfl
  rw [if_neg c4]
  by_cases c5 : o = 119
  · subst c5; rw [if_pos rfl, bk_X3_numbersOf_52]; rfl
  have : zNo o = 0 := by unfold zNo; rw [if_neg c4, if_neg c3, if_neg c1, if_neg c2]
  rw [if_neg c5, bk_X3_numbersOf_60, if_neg c5, if_pos this]
theorem kd_rng {o : Int32} (h : o = 119 ∨ ¬ zNo o = 0) : (33 : Int32) ≤ o ∧ o ≤ 126 := by
  rcases h with rfl | h
  · decide
  · unfold zNo at h
    split at h
    · rename_i e; rw [e]; decide
    · split at h
      · rename_i e; rw [e]; decide
      · split at h
        · rename_i e; rw [e]; decide
        · split at h
          · rename_i e; rw [e]; decide
          · exact absurd rfl h
theorem co_tail {n st : Nat} {T : Nat → Int32} (M0 M : zM) (hT : zTx M0 n T) (kd : Int32) (q : Nat) (hst : st ≤ q) (hq : q ≤ n) (h : zCr M0 M st q 0 kd) (d1 d2 : Option zV) :
    ∃ M', zev zC_X3_read 70 ([some (zR 3 0), some (zR 5 0), some (zI (nI st)), d1, d2], [], M) = some (none, M') ∧ zCr M0 M' st (q + (zis T n 59 59 q).toNat) (zbI (zis T n 59 59 q)) kd ∧ M'.1 27 0 = M.1 27 0 ∧ M'.1 3 0 1 = M.1 3 0 1 := by
  have hn := hT.1
  have h59 := zis_eq (T := T) (n := n) (p := q) (c := 59) (by decide)
  rw [bk_X3_read_70, h.pos hst, zbi (co_at (h.tx hT) q (by omega)), bk_X3_read_80]
  cases c : zis T n 59 59 q with
  | false =>
    rw [if_neg (fun z => by have := h59.mp z; rw [c] at this; cases this), bk_X3_read_100]
    exact ⟨M, rfl, h, rfl, rfl⟩
  | true =>
    refine ⟨_, by rw [if_pos (h59.mpr c), bk_X3_read_85, bk_X3_read_95, bk_X3_read_100], (h.len hst).wh 1, ?_, ?_⟩
    · dsimp only; rw [zst_ne (c := 3) (n := 0) (c' := 27) (n' := 0) _ _ (by omega), zst_ne (c := 3) (n := 0) (c' := 27) (n' := 0) _ _ (by omega)]
    · dsimp only; rw [zst_self, upd_n (by decide), zst_self, upd_n (by decide)]
theorem co_read {n p : Nat} {T : Nat → Int32} (M : zM) (hT : zTx M n T) (hp : p < n) (f : Nat → Int32) : ∃ M', zd_X3_read [zR 3 0, zR 5 0, zI (nI p)] M = some (none, M') ∧ zCr M M' p (zpa T n p f).2.1 (zbI (zpa T n p f).1) (T p) ∧
    ((zpa T n p f).1 = true → T p = zko T n p ∧ (zko T n p = 119 ∨ ¬ zNo (zko T n p) = 0) ∧ (zko T n p = 119 → M'.1 3 0 1 = (zpa T n p f).2.2 0) ∧ zAg (zko T n p) (M'.1 27 0) (zpa T n p f).2.2) := by
  have hn := hT.1
  have ez : zta T n p = T p := by unfold zta; rw [if_pos hp]
  have s1 : ∃ M1, zd_X3_read [zR 3 0, zR 5 0, zI (nI p)] M = zev zC_X3_read 19 ([some (zR 3 0), some (zR 5 0), some (zI (nI p)), none, none], [], M1) ∧ zCr M M1 p p 0 (T p) := by
    refine ⟨(zst (zst (zst M.1 3 0 (upd (M.1 3 0) 0 (T p))) 3 0 (upd (upd (M.1 3 0) 0 (T p)) 3 0)) 3 0 (upd (upd (upd (M.1 3 0) 0 (T p)) 3 0) 4 0), M.2), ?_, ⟨rfl, fun c m a b => ?_, ?_, ?_, ?_⟩⟩
    · rw [en_X3_read, bk_X3_read_0, zbi (co_at hT p (by omega)), ez, bk_X3_read_6, bk_X3_read_9, bk_X3_read_14]
      dsimp only
      rw [zst_self, zst_self]
    · dsimp only; rw [zst_ne _ _ a, zst_ne _ _ a, zst_ne _ _ a]
    · dsimp only; rw [zst_self, upd_n (by decide), upd_s, Nat.sub_self]; rfl
    · dsimp only; rw [zst_self, upd_s]
    · dsimp only; rw [zst_self, upd_n (by decide), upd_n (by decide), upd_s]
  obtain ⟨M1, e1, r1⟩ := s1
  have hko : (T p = 119 ∨ ¬ zNo (T p) = 0) → zko T n p = T p := fun h => by
    unfold zko
    rw [if_pos (by unfold zis; rw [decide_eq_true_iff]; exact ⟨hp, kd_rng h⟩)]
  rw [e1, bk_X3_read_19, r1.2.2.2.2, zbi (co_numbersOf _ _), bk_X3_read_26]
  -- the length is 1
  have r2 : zCr M (zst M1.1 3 0 (upd (M1.1 3 0) 3 1), M1.2) p (p + 1) 0 (T p) := by
    have := r1.len (Nat.le_refl _)
    rw [r1.2.2.1, Nat.sub_self, show nI 0 + 1 = (1 : Int32) from rfl] at this
    exact this
  by_cases c1 : T p = 119
  · have ek := hko (Or.inl c1)
    have ek9 : zko T n p = 119 := ek.trans c1
    obtain ⟨M3, e3, r3, l3⟩ := co_letters M _ hT 0 (T p) (p + 1) (by omega) hp r2
    have hle := zlL_le T n 6 (p + 1) 0 hp
    unfold zpa
    rw [if_pos ek9, if_pos c1, if_neg (show ¬ (0 : Int32) = -1 by decide), bk_X3_read_33, bk_X3_read_38, r2.2.2.2.2, if_pos c1, bk_X3_read_47, zbi e3, bk_X3_read_53, bk_X3_read_63]
    unfold zld
    by_cases c2 : p + 1 < (zlL T n 6 (p + 1) 0).2
    · rw [decide_eq_true c2, if_neg zbI_n, if_pos c2]
      obtain ⟨M4, e4, r4, n4, l4⟩ := co_tail M M3 hT (T p) _ (by omega) hle.2.1 r3 none (some (zI (zbI true)))
      refine ⟨M4, e4, r4, fun hk => ⟨ek.symm, Or.inl ek9, fun _ => ?_, ?_⟩⟩
      · dsimp only; rw [upd_s, l4, l3]
      · intro i hi
        rw [ek9, show zNo 119 = 0 by decide] at hi
        omega
    · rw [decide_eq_false c2, if_pos zbI_f, if_neg c2, bk_X3_read_100]
      exact ⟨M3, rfl, r3, fun z => by cases z⟩
  · rw [if_neg c1]
    by_cases c2 : zNo (T p) = 0
    · have hpa : zpa T n p f = (false, p, f) := by
        unfold zpa
        have hz : ¬ zko T n p = 119 ∧ zNo (zko T n p) = 0 := by
          unfold zko
          split
          · exact ⟨c1, c2⟩
          · exact ⟨by decide, by decide⟩
        rw [if_neg hz.1, if_pos hz.2]
      rw [if_pos c2, if_pos rfl, bk_X3_read_32, hpa]
      exact ⟨M1, rfl, r1, fun z => by cases z⟩
    · have ek := hko (Or.inr c2)
      have hnl := zNo_le (T p)
      rw [if_neg c2, if_neg (fun z => by have := nI_pos (n := zNo (T p)) (by omega); rw [z] at this; exact this (by decide)), bk_X3_read_33, bk_X3_read_38, r2.2.2.2.2, if_neg c1, bk_X3_read_56]
      obtain ⟨M3, e3, r3, n3⟩ := co_nums (nd := zNo (T p)) M _ hT 0 (T p) hnl (by omega) (p + 1) f (by omega) hp r2
      rw [zbi e3, bk_X3_read_63]
      unfold zpa
      rw [ek, if_neg c1, if_neg c2]
      have a := znu_le T n (p + 1) hp
      have hle := zns_le T n (zNo (T p) - 1) 1 (decide (p + 1 < (znu T n (p + 1)).2), (znu T n (p + 1)).2, upd f 0 (znu T n (p + 1)).1) a.2
      have hle1 : p + 1 ≤ (znp T n (p + 1) (zNo (T p)) f).2.1 := Nat.le_trans a.1 hle.1
      have hle2 : (znp T n (p + 1) (zNo (T p)) f).2.1 ≤ n := hle.2
      unfold zps
      revert hle1 hle2 r3 n3
      generalize znp T n (p + 1) (zNo (T p)) f = S
      intro r3 n3 hle1 hle2
      obtain ⟨b, q, g⟩ := S
      cases b with
      | false =>
        rw [if_pos zbI_f, if_neg (show ¬ false = true by decide), bk_X3_read_100]
        exact ⟨M3, rfl, r3, fun z => by cases z⟩
      | true =>
        obtain ⟨M4, e4, r4, n4, l4⟩ := co_tail M M3 hT (T p) q (by dsimp only at hle1; omega) hle2 r3 none (some (zI (zbI true)))
        rw [if_neg zbI_n, if_pos rfl]
        refine ⟨M4, e4, r4, fun hk => ⟨rfl, Or.inr c2, fun z => absurd z c1, fun i hi => ?_⟩⟩
        rw [n4]
        exact n3 rfl i hi
/-- what trying a text may change -/
def zFT (M M' : zM) : Prop := M'.2.2 = M.2.2 ∧ (∀ c m, ¬ zOw c m 1 → ¬ (c = 3 ∧ m = 0) → ¬ (c = 27 ∧ m = 0) → ¬ (c = 7 ∧ m = 0) → M'.1 c m = M.1 c m) ∧ ∀ c m, ¬ zOj c m 1 → M'.2.1 c m = M.2.1 c m
theorem zFT.rf (M : zM) : zFT M M := ⟨rfl, fun _ _ _ _ _ _ => rfl, fun _ _ _ => rfl⟩
theorem zFT.tr {M M' M'' : zM} (h : zFT M M') (h' : zFT M' M'') : zFT M M'' := ⟨h'.1.trans h.1, fun c m a b d e => (h'.2.1 c m a b d e).trans (h.2.1 c m a b d e), fun c m a => (h'.2.2 c m a).trans (h.2.2 c m a)⟩
theorem zCr.ft {M M' : zM} {st q : Nat} {wh kd : Int32} (h : zCr M M' st q wh kd) : zFT M M' := ⟨by rw [h.1], fun c m _ b d _ => h.2.1 c m b d, fun c m _ => by rw [h.1]⟩
theorem zFS.ft {M M' : zM} (h : zFS M M' 1) : zFT M M' := ⟨h.1, fun c m a _ _ _ => h.2.1 c m a, h.2.2⟩
theorem zFT.seven (M : zM) (f : Nat → Int32) : zFT M (zst M.1 7 0 f, M.2) := ⟨rfl, fun c m _ _ _ e => zst_ne M.1 f e, fun _ _ _ => rfl⟩
theorem zFT.tx {M M' : zM} {n : Nat} {T : Nat → Int32} (h : zFT M M') (hT : zTx M n T) : zTx M' n T := ⟨hT.1, by rw [h.2.1 5 0 (by unfold zOw; omega) (by omega) (by omega) (by omega)]; exact hT.2.1, fun i hi => by rw [h.2.1 26 0 (by unfold zOw; omega) (by omega) (by omega) (by omega)]; exact hT.2.2 i hi⟩
theorem zFT.lt {M M' : zM} (h : zFT M M') (hT : zLtt M) : zLtt M' := fun i hi => by rw [h.2.1 40 0 (by unfold zOw; omega) (by omega) (by omega) (by omega)]; exact hT i hi
theorem zCr.gs {M M' : zM} {st q k : Nat} {wh kd : Int32} {σ : Nat → Int32} (h : zCr M M' st q wh kd) (hG : zGS M k σ) : zGS M' k σ := hG.fr (fun c m z => h.2.1 c m (by unfold zOw at z; omega) (by unfold zOw at z; omega)) (fun c m _ => by rw [h.1])
theorem gs7 {M : zM} {k : Nat} {σ : Nat → Int32} (f : Nat → Int32) (hG : zGS M k σ) : zGS (zst M.1 7 0 f, M.2) k σ := hG.fr (fun c m z => zst_ne M.1 f (by unfold zOw at z; omega)) (fun _ _ _ => rfl)
/-- the fault as the class keeps it -/
def zFk (M : zM) (R : Option (Nat × Int32 × Int32)) : Prop := (R = none → M.1 7 0 6 = 0) ∧ ∀ q, R = some q → M.1 7 0 5 = nI q.1 ∧ M.1 7 0 6 = q.2.1 ∧ M.1 7 0 7 = q.2.2 ∧ ¬ q.2.1 = 0
theorem co_fault (p c : Nat) (a : Int32) (wh : Bool) (M : zM) (σ : Nat → Int32) (hG : zGS M 1 σ) (h4 : M.1 3 0 4 = zbI wh) (d3 : Option zV) : ∃ M', zev zC_X7_tryText 95 ([some (zR 7 0), some (zI (nI p)), some (zI (nI c)), some (zI a)], [], M) = zs (nI c) M' ∧ zFk M' (some (p, (if wh = true then 2 else 1), a)) ∧ zGS M' 1 σ ∧ zFT M M' := by
  have e3 : ∀ f, ((zst M.1 7 0 f, M.2) : zM).1 3 0 4 = zbI wh := fun f => by dsimp only; rw [zw_ne M 7 0 f 3 0 (by omega), h4]
  have hr : (if wh = true then zev zC_X7_tryText 111 ([some (zR 7 0), some (zI (nI p)), some (zI (nI c)), some (zI a)], [zR 7 0], (zst M.1 7 0 (upd (M.1 7 0) 5 (nI p)), M.2)) else zev zC_X7_tryText 115 ([some (zR 7 0), some (zI (nI p)), some (zI (nI c)), some (zI a)], [zR 7 0], (zst M.1 7 0 (upd (M.1 7 0) 5 (nI p)), M.2))) = zs (nI c) (zst (zst (zst M.1 7 0 (upd (M.1 7 0) 5 (nI p))) 7 0 (upd (upd (M.1 7 0) 5 (nI p)) 6 (if wh = true then 2 else 1))) 7 0 (upd (upd (upd (M.1 7 0) 5 (nI p)) 6 (if wh = true then 2 else 1)) 7 a), M.2) := by
    cases wh
    · rw [if_neg (by decide), if_neg (by decide), bk_X7_tryText_115, bk_X7_tryText_116, bk_X7_tryText_119, bk_X7_tryText_124]
      dsimp only
      rw [zst_self, zst_self]
    · rw [if_pos rfl, if_pos rfl, bk_X7_tryText_111, bk_X7_tryText_116, bk_X7_tryText_119, bk_X7_tryText_124]
      dsimp only
      rw [zst_self, zst_self]
  refine ⟨(zst (zst (zst M.1 7 0 (upd (M.1 7 0) 5 (nI p))) 7 0 (upd (upd (M.1 7 0) 5 (nI p)) 6 (if wh = true then 2 else 1))) 7 0 (upd (upd (upd (M.1 7 0) 5 (nI p)) 6 (if wh = true then 2 else 1)) 7 a), M.2), ?_, ⟨fun z => (by cases z), fun q z => ?_⟩, gs7 (M := (zst (zst M.1 7 0 (upd (M.1 7 0) 5 (nI p))) 7 0 (upd (upd (M.1 7 0) 5 (nI p)) 6 (if wh = true then 2 else 1)), M.2)) (upd (upd (upd (M.1 7 0) 5 (nI p)) 6 (if wh = true then 2 else 1)) 7 a) (gs7 (M := (zst M.1 7 0 (upd (M.1 7 0) 5 (nI p)), M.2)) (upd (upd (M.1 7 0) 5 (nI p)) 6 (if wh = true then 2 else 1)) (gs7 (upd (M.1 7 0) 5 (nI p)) hG)), ((zFT.seven M (upd (M.1 7 0) 5 (nI p))).tr (zFT.seven (zst M.1 7 0 (upd (M.1 7 0) 5 (nI p)), M.2) (upd (upd (M.1 7 0) 5 (nI p)) 6 (if wh = true then 2 else 1)))).tr (zFT.seven (zst (zst M.1 7 0 (upd (M.1 7 0) 5 (nI p))) 7 0 (upd (upd (M.1 7 0) 5 (nI p)) 6 (if wh = true then 2 else 1)), M.2) (upd (upd (upd (M.1 7 0) 5 (nI p)) 6 (if wh = true then 2 else 1)) 7 a))⟩
  · rw [bk_X7_tryText_95, bk_X7_tryText_100]
    rw [e3, ← hr]
    cases wh
    · rw [if_pos zbI_f, if_neg (by decide)]
    · rw [if_neg zbI_n, if_pos rfl]
  · cases z
    dsimp only
    rw [zst_self, upd_n (by decide), upd_n (by decide), upd_s, upd_n (by decide), upd_s, upd_s]
    refine ⟨rfl, rfl, rfl, ?_⟩
    cases wh <;> decide
theorem co_try_loop {n : Nat} {T : Nat → Int32} : ∀ (k p c B : Nat) (σ f : Nat → Int32) (M : zM) (R : Option (Nat × Int32 × Int32)) (c' : Nat) (τ : Nat → Int32) (d3 : Option zV), zPl T n k p f σ c R c' τ → p ≤ n → c ≤ p → zW B σ → B + k < 2 ^ 25 → zGS M 1 σ → zTx M n T → zLtt M → M.1 7 0 6 = 0 →
    ∃ M' x, zev zC_X7_tryText 20 ([some (zR 7 0), some (zI (nI p)), some (zI (nI c)), d3], [], M) = zs (nI x) M' ∧ (R = none → x = c') ∧ x ≤ 60 ∧ zFk M' R ∧ zGS M' 1 τ ∧ zFT M M' := by
  intro k
  induction k with
  | zero => intro p c B σ f M R c' τ d3 h; exact absurd h id
  | succ k ih =>
    intro p c B σ f M R c' τ d3 h hp hc hW hB hG hT hL h6
    have hn := hT.1
    rcases h with ⟨h1, rfl, rfl, rfl⟩ | ⟨h1, h⟩
    · refine ⟨M, c', ?_, fun _ => rfl, by omega, ⟨fun _ => h6, fun q z => (by cases z)⟩, hG, zFT.rf M⟩
      rw [bk_X7_tryText_20]
      by_cases c1 : 60 ≤ c'
      · rw [show (60 : Int32) = nI 60 from rfl, if_pos (nI_le c1 (by omega)), bk_X7_tryText_142]
      · rw [show (60 : Int32) = nI 60 from rfl, if_neg (nI_ge (by omega) (by omega)), bk_X7_tryText_26, hT.2.1, if_pos (nI_le h1 (by omega)), bk_X7_tryText_142]
    · obtain ⟨M1, e1, r1, k1⟩ := co_read M hT h1 f
      have g1 := r1.gs hG
      have hle := zpa_le T n p f h1
      have head : zev zC_X7_tryText 20 ([some (zR 7 0), some (zI (nI p)), some (zI (nI c)), d3], [], M) = if zbI (zpa T n p f).1 = 0 then zev zC_X7_tryText 73 ([some (zR 7 0), some (zI (nI p)), some (zI (nI c)), none], [], M1) else zev zC_X7_tryText 59 ([some (zR 7 0), some (zI (nI p)), some (zI (nI c)), none], [], M1) := by
        rw [bk_X7_tryText_20, show (60 : Int32) = nI 60 from rfl, if_neg (nI_ge (by omega) (by omega)), bk_X7_tryText_26, hT.2.1, if_neg (nI_ge h1 (by omega)), bk_X7_tryText_37, zbv e1, bk_X7_tryText_49, r1.2.2.2.1]
      rcases h with ⟨ho, rfl, rfl⟩ | ⟨ho, a, ρ, t, h⟩
      · obtain ⟨M2, e2, f2, g2, t2⟩ := co_fault p c (nI ((zpa T n p f).2.1 - p)) false M1 τ g1 (by rw [r1.2.2.2.1, ho]) none
        refine ⟨M2, c, ?_, (fun z => by cases z), by omega, f2, g2, r1.ft.tr t2⟩
        rw [head, ho, if_pos zbI_f, bk_X7_tryText_73, bk_X7_tryText_80, r1.2.2.2.1, ho, if_pos zbI_f, r1.2.2.1]
        exact e2
      · obtain ⟨q1, q2, q3, q4⟩ := k1 ho
        obtain ⟨M2, e2, g2, f2⟩ := cs_obey (k := 1) (by omega) (r1.ft.lt hL) hW g1 (r1.2.2.2.2.trans q1) q2 q3 q4 t
        have W2 := W_o (by omega) hW t
        have m3 : M2.1 3 0 = M1.1 3 0 := f2.2.1 3 0 (by unfold zOw; omega)
        have m7 : M2.1 7 0 = M.1 7 0 := (f2.2.1 7 0 (by unfold zOw; omega)).trans (r1.2.1 7 0 (by omega) (by omega))
        have t02 : zFT M M2 := r1.ft.tr f2.ft
        have head2 : zev zC_X7_tryText 20 ([some (zR 7 0), some (zI (nI p)), some (zI (nI c)), d3], [], M) = if 0 ≤ a then zev zC_X7_tryText 126 ([some (zR 7 0), some (zI (nI p)), some (zI (nI c)), some (zI a)], [], M2) else zev zC_X7_tryText 95 ([some (zR 7 0), some (zI (nI p)), some (zI (nI c)), some (zI a)], [], M2) := by
          rw [head, ho, if_neg zbI_n, bk_X7_tryText_59, zbi e2, bk_X7_tryText_70, bk_X7_tryText_80, m3, r1.2.2.2.1, ho, if_neg zbI_n, bk_X7_tryText_91]
        rcases h with ⟨ha, rfl, rfl⟩ | ⟨ha, h⟩
        · obtain ⟨M3, e3, f3, g3, t3⟩ := co_fault p c a true M2 τ g2 (by rw [m3, r1.2.2.2.1, ho]) none
          refine ⟨M3, c, ?_, (fun z => by cases z), by omega, f3, g3, t02.tr t3⟩
          rw [head2, if_neg (fun z => i_le.mp z ha)]
          exact e3
        · have hlt := hle.2.2 ho
          obtain ⟨M', x, x1, x2, x3, x4, x5, x6⟩ := ih (zpa T n p f).2.1 (c + 1) (B + 1) ρ (zpa T n p f).2.2 M2 R c' τ none h hle.2.1 (by omega) W2 (by omega) g2 (t02.tx hT) (t02.lt hL) (by rw [m7]; exact h6)
          refine ⟨M', x, ?_, x2, x3, x4, x5, t02.tr x6⟩
          rw [head2, if_pos (i_le.mpr ha), bk_X7_tryText_126, m3, r1.2.2.1, nI_add, show p + ((zpa T n p f).2.1 - p) = (zpa T n p f).2.1 by omega, nI_1]
          exact x1
/-- the columns of all blinds stand -/
def zCo (M : zM) : Prop := ∀ k, k < 7 → ∀ b, b < 2 → M.1 0 (2 * k + b) 0 = nI (zcol b)
theorem co_try {n B : Nat} {T σ f τ : Nat → Int32} {M : zM} {R : Option (Nat × Int32 × Int32)} {c' : Nat} (h : zPl T n (n + 1) 0 f σ 0 R c' τ) (hW : zW B σ) (hB : B + 61 < 2 ^ 25) (hC : zCo M) (hG : zGS M 0 σ) (hT : zTx M n T) (hL : zLtt M) :
    ∃ M' x, zd_X7_tryText [zR 7 0] M = zs (nI x) M' ∧ (R = none → x = c') ∧ x ≤ 60 ∧ zFk M' R ∧ zGS M' 1 τ ∧ zFT M M' := by
  have hn := hT.1
  obtain ⟨M1, e1, g1, f1⟩ := cp_state_copy (k := 1) (by decide) (fun b hb => hC 1 (by decide) b hb) hG
  have g1' := gs7 (upd (M1.1 7 0) 6 0) g1
  have t1 := f1.ft.tr (zFT.seven M1 (upd (M1.1 7 0) 6 0))
  obtain ⟨M', x, x1, x2, x3, x4, x5, x6⟩ := co_try_loop (n + 1) 0 0 B σ f (zst M1.1 7 0 (upd (M1.1 7 0) 6 0), M1.2) R c' τ none h (by omega) (by omega) hW (by omega) g1' (t1.tx hT) (t1.lt hL) (by dsimp only; rw [zst_self, upd_s])
  exact ⟨M', x, by rw [en_X7_tryText, bk_X7_tryText_0, zbv e1, bk_X7_tryText_11, bk_X7_tryText_16]; exact x1, x2, x3, x4, x5, t1.tr x6⟩
