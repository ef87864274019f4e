-- ===== the reference: the text is played =====
theorem zld_le (T : Nat → Int32) (n p : Nat) (hp : p ≤ n) : p ≤ (zld T n p).2.1 ∧ (zld T n p).2.1 ≤ n := by
  have h := zlL_le T n 6 p 0 hp
  unfold zld
  split
  · cases c : zis T n 59 59 (zlL T n 6 p 0).2
    · exact ⟨h.1, h.2.1⟩
    · have := zis_lt c
      exact ⟨Nat.le_trans h.1 (Nat.le_succ _), this⟩
  · exact ⟨h.1, h.2.1⟩
theorem zpa_le (T : Nat → Int32) (n p : Nat) (f : Nat → Int32) (hp : p < n) : p ≤ (zpa T n p f).2.1 ∧ (zpa T n p f).2.1 ≤ n ∧ ((zpa T n p f).1 = true → p < (zpa T n p f).2.1) := by
  unfold zpa
  split
  · have h := zld_le T n (p + 1) hp
    exact ⟨by dsimp only; omega, h.2, fun _ => by dsimp only; omega⟩
  · split
    · exact ⟨Nat.le_refl _, by dsimp only; omega, fun z => by cases z⟩
    · have a := znu_le T n (p + 1) hp
      have h := zns_le T n (zNo (zko T n p) - 1) 1 (decide (p + 1 < (znu T n (p + 1)).2), (znu T n (p + 1)).2, upd f 0 (znu T n (p + 1)).1) a.2
      unfold zps znp
      revert h
      generalize zns T n (zNo (zko T n p) - 1) 1 (decide (p + 1 < (znu T n (p + 1)).2), (znu T n (p + 1)).2, upd f 0 (znu T n (p + 1)).1) = S
      intro h
      split
      · cases c : zis T n 59 59 S.2.1
        · exact ⟨by dsimp only at h ⊢; simp only [Bool.toNat_false]; omega, h.2, fun z => by cases z⟩
        · have := zis_lt c
          exact ⟨by dsimp only at h ⊢; omega, this, fun _ => by dsimp only at h ⊢; omega⟩
      · rename_i c
        exact ⟨by dsimp only at h ⊢; omega, h.2, fun z => absurd z c⟩
/-- what playing a text from p makes of s: no fault or a place, a reason and a cause; how many orders -/
def zPl (T : Nat → Int32) (n : Nat) : Nat → Nat → (Nat → Int32) → (Nat → Int32) → Nat → Option (Nat × Int32 × Int32) → Nat → (Nat → Int32) → Prop
  | 0, _, _, _, _, _, _, _ => False
  | k + 1, p, f, σ, c, R, c', τ => (n ≤ p ∧ R = none ∧ c' = c ∧ τ = σ) ∨ (p < n ∧ (((zpa T n p f).1 = false ∧ R = some (p, 1, nI ((zpa T n p f).2.1 - p)) ∧ τ = σ) ∨ ((zpa T n p f).1 = true ∧ ∃ a ρ, zXo (zko T n p) (zpa T n p f).2.2 σ a ρ ∧ ((a < 0 ∧ R = some (p, 2, a) ∧ τ = ρ) ∨ (¬ a < 0 ∧ zPl T n k (zpa T n p f).2.1 (zpa T n p f).2.2 ρ (c + 1) R c' τ)))))
theorem sl_s (M : zM) (k : Nat) (v : Int32) : (zst M.1 8 0 (upd (M.1 8 0) k v)) 8 0 k = v := by rw [zst_self, upd_s]
theorem sl_n (M : zM) (k j : Nat) (v : Int32) (h : j ≠ k) : (zst M.1 8 0 (upd (M.1 8 0) k v)) 8 0 j = M.1 8 0 j := by rw [zst_self, upd_n h]
theorem sl_o (M : zM) (k : Nat) (v : Int32) (c n : Nat) (h : c ≠ 8) : (zst M.1 8 0 (upd (M.1 8 0) k v)) c n = M.1 c n := zst_ne M.1 _ (fun z => h z.1)
/-- while a text is played -/
def zPm (M0 M : zM) (r : Int32) : Prop := M.2 = M0.2 ∧ (∀ c n, c ≠ 29 → c ≠ 30 → c ≠ 33 → c ≠ 31 → c ≠ 34 → c ≠ 8 → M.1 c n = M0.1 c n) ∧ M.1 30 0 = M0.1 30 0 ∧ M.1 8 0 4 = r ∧ ∀ k, k = 3 ∨ k = 6 ∨ k = 8 → M.1 8 0 k = M0.1 8 0 k
theorem zPm.sl {M0 M : zM} {r : Int32} (h : zPm M0 M r) (k : Nat) (v : Int32) (hk : 9 ≤ k) : zPm M0 (zst M.1 8 0 (upd (M.1 8 0) k v), M.2) r := by
  obtain ⟨h1, h2, h3, h4, h5⟩ := h
  have e : (zst M.1 8 0 (upd (M.1 8 0) k v)) 8 0 = upd (M.1 8 0) k v := zst_self M.1 8 0 _
  refine ⟨h1, fun c n a b d e' f g => (sl_o M k v c n g).trans (h2 c n a b d e' f g), (sl_o M k v 30 0 (by decide)).trans h3, ?_, fun j hj => ?_⟩
  · dsimp only; rw [e, upd_n (by omega)]; exact h4
  · dsimp only; rw [e, upd_n (by omega)]; exact h5 j hj
theorem zPm.rd {M0 M M' : zM} {r : Int32} {p : Nat} {f : Nat → Int32} {o : Int32} (h : zPm M0 M r) (h' : zRd M M' p f o) : zPm M0 M' r := by
  obtain ⟨h1, h2, h3, h4, h5⟩ := h
  obtain ⟨a1, a2, a3, -⟩ := h'
  refine ⟨a1.trans h1, fun c n q1 q2 q3 q4 q5 q6 => (a2 c n (fun z => q5 z.1) (fun z => q6 z.1)).trans (h2 c n q1 q2 q3 q4 q5 q6), (a2 30 0 (by decide) (by decide)).trans h3, (a3 4 (by decide) (by decide)).trans h4, fun k hk => (a3 k (by omega) (by omega)).trans (h5 k hk)⟩
theorem zOQ.fr {M M' : zM} {a : Int32} (h : zOQ M M' a) (h4 : ¬ M.1 8 0 4 = 0) : M'.2 = M.2 ∧ (∀ c n, c ≠ 29 → c ≠ 30 → c ≠ 33 → c ≠ 31 → c ≠ 8 → M'.1 c n = M.1 c n) ∧ M'.1 30 0 = M.1 30 0 ∧ ∀ k, k ≠ 9 → M'.1 8 0 k = M.1 8 0 k := by
  rcases h with ⟨-, h1, h2, h3⟩ | ⟨-, h1, h2, h3, h5⟩
  · exact ⟨h1, fun c n _ _ d e g => h2 c n d e e d g, h2 30 0 (by decide) (by decide) (by decide) (by decide) (by decide), h3⟩
  · rcases h5 with ⟨-, b1, b2⟩ | ⟨b1, -⟩
    · refine ⟨h1, fun c n a b d e g => h2 c n a b d e e d g, b2, fun k hk => ?_⟩
      by_cases e : k = 3
      · rw [e]; exact b1
      · exact h3 k hk e
    · exact absurd b1 h4
theorem zPm.oq {M0 M M' : zM} {a r : Int32} (h : zPm M0 M r) (hr : ¬ r = 0) (h' : zOQ M M' a) : zPm M0 M' r := by
  obtain ⟨h1, h2, h3, h4, h5⟩ := h
  obtain ⟨a1, a2, a3, a4⟩ := h'.fr (by rw [h4]; exact hr)
  exact ⟨a1.trans h1, fun c n q1 q2 q3 q4 q5 q6 => (a2 c n q1 q2 q3 q4 q6).trans (h2 c n q1 q2 q3 q4 q5 q6), a3.trans h3, (a4 4 (by decide)).trans h4, fun k hk => (a4 k (by omega)).trans (h5 k hk)⟩
theorem zRd.rf (M : zM) (p : Nat) (h : M.1 8 0 10 = nI p) : zRd M M p (M.1 34 0) (M.1 8 0 15) := ⟨rfl, fun _ _ _ _ => rfl, fun _ _ _ => rfl, h, rfl, rfl⟩
theorem pl_fin (b : Bool) (M : zM) (d2 d3 : Option zV) : zev zC_X8_plays 124 ([some (zR 8 0), some (zI (zbI b)), d2, d3], [], M) = zs (zbI b) (zst M.1 8 0 (upd (M.1 8 0) 4 0), M.2) := by
  rw [bk_X8_plays_124, bk_X8_plays_129]
  cases b
  · exact if_pos (Or.inl zbI_f)
  · exact if_pos (Or.inr zbI_t)
theorem zPm.z {M0 M : zM} (h : zPm M0 M 1) : zPm M0 (zst M.1 8 0 (upd (M.1 8 0) 4 0), M.2) 0 := by
  obtain ⟨h1, h2, h3, h4, h5⟩ := h
  refine ⟨h1, fun c n a b d e' f g => (sl_o M 4 0 c n g).trans (h2 c n a b d e' f g), (sl_o M 4 0 30 0 (by decide)).trans h3, sl_s M 4 0, fun j hj => ?_⟩
  dsimp only
  rw [sl_n M 4 j 0 (by omega)]
  exact h5 j hj
/-- what is written after an order -/
def zt3 (M : zM) (x y : Int32) : zM := (zst (zst (zst M.1 8 0 (upd (M.1 8 0) 12 x)) 8 0 (upd (upd (M.1 8 0) 12 x) 13 y)) 8 0 (upd (upd (upd (M.1 8 0) 12 x) 13 y) 14 (M.1 8 0 14 + 1)), M.2)
theorem zt3_k (M : zM) (x y : Int32) : (zt3 M x y).1 8 0 = upd (upd (upd (M.1 8 0) 12 x) 13 y) 14 (M.1 8 0 14 + 1) := by unfold zt3; dsimp only; rw [zst_self]
theorem zt3_o (M : zM) (x y : Int32) (c n : Nat) (h : c ≠ 8) : (zt3 M x y).1 c n = M.1 c n := by
  unfold zt3
  dsimp only
  rw [zst_ne _ _ (fun z => h z.1), zst_ne _ _ (fun z => h z.1), zst_ne _ _ (fun z => h z.1)]
theorem zPm.t3 {M0 M : zM} {r : Int32} (h : zPm M0 M r) (x y : Int32) : zPm M0 (zt3 M x y) r := by
  obtain ⟨h1, h2, h3, h4, h5⟩ := h
  refine ⟨h1, fun c n a b d e' f g => (zt3_o M x y c n g).trans (h2 c n a b d e' f g), (zt3_o M x y 30 0 (by decide)).trans h3, ?_, fun j hj => ?_⟩
  · rw [zt3_k, upd_n (by decide), upd_n (by decide), upd_n (by decide)]; exact h4
  · rw [zt3_k, upd_n (by omega), upd_n (by omega), upd_n (by omega)]; exact h5 j hj
theorem pl_tail (ok : Bool) (its : Int32) (M : zM) (d1 d3 : Option zV) : zev zC_X8_plays 62 ([some (zR 8 0), d1, some (zI (zbI ok)), d3], [zI its], M) = zev zC_X8_plays 22 ([some (zR 8 0), some (zI (zbI (ok && !decide (its < 0)))), none, none], [], zt3 M (if ok = true then 2 else 1) (if ok = true then its else M.1 8 0 10 - M.1 8 0 11)) := by
  have e1 : ∀ x, (zst M.1 8 0 (upd (M.1 8 0) 12 x)) 8 0 = upd (M.1 8 0) 12 x := fun x => zst_self M.1 8 0 _
  have e2 : ∀ x y, (zst (zst M.1 8 0 (upd (M.1 8 0) 12 x)) 8 0 (upd (upd (M.1 8 0) 12 x) 13 y)) 8 0 = upd (upd (M.1 8 0) 12 x) 13 y := fun x y => zst_self _ 8 0 _
  rw [bk_X8_plays_62]
  cases ok with
  | false =>
    rw [if_pos zbI_f, bk_X8_plays_75, bk_X8_plays_76, if_pos zbI_f, bk_X8_plays_86, bk_X8_plays_87, bk_X8_plays_90, if_pos zbI_f, bk_X8_plays_99, bk_X8_plays_108, bk_X8_plays_111, bk_X8_plays_121]
    dsimp only
    rw [e1, e2, upd_n (by decide), upd_n (by decide), upd_n (by decide), upd_n (by decide)]
    rfl
  | true =>
    rw [if_neg zbI_n, bk_X8_plays_67]
    by_cases c : its < 0
    · rw [if_pos c, bk_X8_plays_75, bk_X8_plays_76, if_neg zbI_n, bk_X8_plays_82, bk_X8_plays_87, bk_X8_plays_90, if_neg zbI_n, bk_X8_plays_95, bk_X8_plays_108, bk_X8_plays_111, bk_X8_plays_121, decide_eq_true c]
      dsimp only
      rw [e1, e2, upd_n (by decide), upd_n (by decide)]
      rfl
    · rw [if_neg c, bk_X8_plays_71, bk_X8_plays_76, if_neg zbI_n, bk_X8_plays_82, bk_X8_plays_87, bk_X8_plays_90, if_neg zbI_n, bk_X8_plays_95, bk_X8_plays_108, bk_X8_plays_111, bk_X8_plays_121, decide_eq_false c]
      dsimp only
      rw [e1, e2, upd_n (by decide), upd_n (by decide)]
      rfl
theorem pl_stop (M : zM) (d2 d3 : Option zV) : zev zC_X8_plays 22 ([some (zR 8 0), some (zI (zbI false)), d2, d3], [], M) = zs (zbI false) (zst M.1 8 0 (upd (M.1 8 0) 4 0), M.2) := by
  rw [bk_X8_plays_22]
  by_cases c : M.1 8 0 6 ≤ M.1 8 0 10
  · rw [if_pos c]; exact pl_fin false M _ _
  · rw [if_neg c, bk_X8_plays_33, if_pos zbI_f]; exact pl_fin false M _ _
theorem sp_plays_loop (n : Nat) (hn : n ≤ 60) (M0 : zM) (h6 : M0.1 8 0 6 = nI n) (h8 : M0.1 8 0 8 = zNF) : ∀ (k p c B : Nat) (M : zM) (d2 d3 : Option zV), p ≤ n → n - p < k → B + k < 2 ^ 25 → zPm M0 M 1 → M.1 8 0 10 = nI p → M.1 8 0 14 = nI c → zW B (M.1 29 0) →
    ∃ M' R c', zev zC_X8_plays 22 ([some (zR 8 0), some (zI (zbI true)), d2, d3], [], M) = zs (zbI (Option.isNone R)) M' ∧ zPm M0 M' 0 ∧ zPl (M0.1 32 0) n k p (M.1 34 0) (M.1 29 0) c R c' (M'.1 29 0) ∧ (R = none → M'.1 8 0 14 = nI c') ∧ ∀ q, R = some q → M'.1 8 0 11 = nI q.1 ∧ M'.1 8 0 12 = q.2.1 ∧ M'.1 8 0 13 = q.2.2 := by
  intro k
  induction k with
  | zero => intro p c B M d2 d3 _ h; omega
  | succ k ih =>
    intro p c B M d2 d3 hp hk hB hm h10 h14 hW
    have e6 : M.1 8 0 6 = nI n := (hm.2.2.2.2 6 (by omega)).trans h6
    rw [bk_X8_plays_22, e6, h10]
    by_cases c0 : n ≤ p
    · refine ⟨_, none, c, ?_, hm.z, Or.inl ⟨c0, rfl, rfl, sl_o M 4 0 29 0 (by decide)⟩, fun _ => (sl_n M 4 14 0 (by decide)).trans h14, fun q z => by cases z⟩
      rw [if_pos (nI_le c0 (by omega))]
      exact pl_fin true M _ _
    · rw [if_neg (nI_ge (by omega) (by omega)), bk_X8_plays_33, if_neg zbI_n, bk_X8_plays_37]
      have body : ∀ (Ma : zM), zPm M0 Ma 1 → Ma.1 8 0 11 = nI p → Ma.1 8 0 10 = nI p → Ma.1 8 0 14 = nI c → zW B (Ma.1 29 0) → ∃ M' R c', zev zC_X8_plays 45 ([some (zR 8 0), none, none, none], [], Ma) = zs (zbI (Option.isNone R)) M' ∧ zPm M0 M' 0 ∧ zPl (M0.1 32 0) n (k + 1) p (Ma.1 34 0) (Ma.1 29 0) c R c' (M'.1 29 0) ∧ (R = none → M'.1 8 0 14 = nI c') ∧ ∀ q, R = some q → M'.1 8 0 11 = nI q.1 ∧ M'.1 8 0 12 = q.2.1 ∧ M'.1 8 0 13 = q.2.2 := by
        intro Ma hma g11 g10 g14 gW
        have g6 : Ma.1 8 0 6 = nI n := (hma.2.2.2.2 6 (by omega)).trans h6
        have gT : Ma.1 32 0 = M0.1 32 0 := hma.2.1 32 0 (by decide) (by decide) (by decide) (by decide) (by decide) (by decide)
        obtain ⟨M1, e1, r1⟩ := sp_reads n p hn (by omega) Ma Ma _ _ g6 (zRd.rf Ma p g10)
        have hle := zpa_le (M0.1 32 0) n p (Ma.1 34 0) (by omega)
        rw [gT] at e1 r1
        have hm1 := hma.rd r1
        have s29 : M1.1 29 0 = Ma.1 29 0 := r1.2.1 29 0 (by decide) (by decide)
        have s11 : M1.1 8 0 11 = nI p := (r1.2.2.1 11 (by decide) (by decide)).trans g11
        have s14 : M1.1 8 0 14 = nI c := (r1.2.2.1 14 (by decide) (by decide)).trans g14
        rw [bk_X8_plays_45, zbi e1, bk_X8_plays_49]
        cases ok : (zpa (M0.1 32 0) n p (Ma.1 34 0)).1 with
        | false =>
          refine ⟨_, some (p, 1, nI ((zpa (M0.1 32 0) n p (Ma.1 34 0)).2.1 - p)), 0, ?_, ((hm1.t3 1 (M1.1 8 0 10 - M1.1 8 0 11)).z), Or.inr ⟨by omega, Or.inl ⟨ok, rfl, ?_⟩⟩, (fun z => by cases z), fun q z => ?_⟩
          · rw [if_pos zbI_f, bk_X8_plays_61, pl_tail]
            exact pl_stop _ _ _
          · dsimp only; rw [sl_o _ 4 0 29 0 (by decide), zt3_o _ _ _ 29 0 (by decide), s29]
          · cases z
            dsimp only
            rw [sl_n _ 4 11 0 (by decide), sl_n _ 4 12 0 (by decide), sl_n _ 4 13 0 (by decide), zt3_k, upd_n (by decide), upd_n (by decide), upd_n (by decide), upd_n (by decide), upd_n (by decide), upd_s, upd_n (by decide), upd_s, r1.p, s11, pk_sub hle.1]
            exact ⟨rfl, rfl, rfl⟩
        | true =>
          have hsl : p < (zpa (M0.1 32 0) n p (Ma.1 34 0)).2.1 := hle.2.2 ok
          obtain ⟨N, hN, hN2, -⟩ := gW.1
          have hrn : zRN M1 := ⟨(hm1.2.2.2.2 8 (by omega)).trans h8, Or.inl (by rw [hm1.2.2.2.1]; decide), N, hN, by rw [s29]; exact hN2⟩
          obtain ⟨a, M2, e2, q2, t2⟩ := tr_calls M1 hrn
          rw [r1.o, r1.f, s29] at t2
          have hm2 := hm1.oq (by decide) q2
          have fr := q2.fr (by rw [hm1.2.2.2.1]; decide)
          have W2 := W_o (by omega) gW t2
          have u10 : M2.1 8 0 10 = nI (zpa (M0.1 32 0) n p (Ma.1 34 0)).2.1 := (fr.2.2.2 10 (by decide)).trans r1.p
          have u11 : M2.1 8 0 11 = nI p := (fr.2.2.2 11 (by decide)).trans s11
          have u14 : M2.1 8 0 14 = nI c := (fr.2.2.2 14 (by decide)).trans s14
          have u34 : M2.1 34 0 = (zpa (M0.1 32 0) n p (Ma.1 34 0)).2.2 := (fr.2.1 34 0 (by decide) (by decide) (by decide) (by decide) (by decide)).trans r1.f
          rw [if_neg zbI_n, bk_X8_plays_54, zbi e2, bk_X8_plays_58, show zI (zbI true) = zI (zbI true) from rfl, pl_tail, if_pos rfl, if_pos rfl, Bool.true_and]
          by_cases ca : a < 0
          · refine ⟨_, some (p, 2, a), 0, ?_, ((hm2.t3 2 a).z), Or.inr ⟨by omega, Or.inr ⟨ok, a, M2.1 29 0, t2, Or.inl ⟨ca, rfl, ?_⟩⟩⟩, (fun z => by cases z), fun q z => ?_⟩
            · rw [decide_eq_true ca]
              exact pl_stop _ _ _
            · dsimp only; rw [sl_o _ 4 0 29 0 (by decide), zt3_o _ _ _ 29 0 (by decide)]
            · cases z
              dsimp only
              rw [sl_n _ 4 11 0 (by decide), sl_n _ 4 12 0 (by decide), sl_n _ 4 13 0 (by decide), zt3_k, upd_n (by decide), upd_n (by decide), upd_n (by decide), upd_n (by decide), upd_n (by decide), upd_s, upd_n (by decide), upd_s]
              exact ⟨u11, rfl, rfl⟩
          · have z29 : (zt3 M2 2 a).1 29 0 = M2.1 29 0 := zt3_o M2 2 a 29 0 (by decide)
            have z34 : (zt3 M2 2 a).1 34 0 = M2.1 34 0 := zt3_o M2 2 a 34 0 (by decide)
            have z10 : (zt3 M2 2 a).1 8 0 10 = nI (zpa (M0.1 32 0) n p (Ma.1 34 0)).2.1 := by rw [zt3_k, upd_n (by decide), upd_n (by decide), upd_n (by decide)]; exact u10
            have z14 : (zt3 M2 2 a).1 8 0 14 = nI (c + 1) := by rw [zt3_k, upd_s, u14, nI_1]
            obtain ⟨M', R, c', x1, x2, x3, x4, x5⟩ := ih _ (c + 1) (B + 1) (zt3 M2 2 a) none none hle.2.1 (by omega) (by omega) (hm2.t3 2 a) z10 z14 (by rw [z29]; exact W2)
            rw [z29, z34, u34] at x3
            refine ⟨M', R, c', ?_, x2, Or.inr ⟨by omega, Or.inr ⟨ok, a, M2.1 29 0, t2, Or.inr ⟨ca, x3⟩⟩⟩, x4, x5⟩
            rw [decide_eq_false ca]
            exact x1
      have g29 := sl_o M 11 (nI p) 29 0 (by decide)
      have g34 := sl_o M 11 (nI p) 34 0 (by decide)
      obtain ⟨M', R, c', x⟩ := body (zst M.1 8 0 (upd (M.1 8 0) 11 (nI p)), M.2) (hm.sl 11 (nI p) (by decide)) (sl_s M 11 (nI p)) ((sl_n M 11 10 (nI p) (by decide)).trans h10) ((sl_n M 11 14 (nI p) (by decide)).trans h14) (by dsimp only; rw [g29]; exact hW)
      dsimp only at x
      rw [g29, g34] at x
      rw [h10]
      exact ⟨M', R, c', x⟩
theorem sp_plays (n B : Nat) (hn : n ≤ 60) (hB : B + 61 < 2 ^ 25) (M : zM) (h6 : M.1 8 0 6 = nI n) (h8 : M.1 8 0 8 = zNF) (hW : zW B (M.1 29 0)) :
    ∃ M' R c', zd_X8_plays [zR 8 0] M = zs (zbI (Option.isNone R)) M' ∧ zPm M M' 0 ∧ zPl (M.1 32 0) n (n + 1) 0 (M.1 34 0) (M.1 29 0) 0 R c' (M'.1 29 0) ∧ (R = none → M'.1 8 0 14 = nI c') ∧ ∀ q, R = some q → M'.1 8 0 11 = nI q.1 ∧ M'.1 8 0 12 = q.2.1 ∧ M'.1 8 0 13 = q.2.2 := by
  rw [en_X8_plays, bk_X8_plays_0]
  have h1 : zPm M (zst M.1 8 0 (upd (M.1 8 0) 4 1), M.2) 1 := ⟨rfl, fun c n _ _ _ _ _ g => sl_o M 4 1 c n g, sl_o M 4 1 30 0 (by decide), sl_s M 4 1, fun j hj => sl_n M 4 j 1 (by omega)⟩
  have e29 := sl_o M 4 1 29 0 (by decide)
  have e34 := sl_o M 4 1 34 0 (by decide)
  revert h1 e29 e34
  generalize (zst M.1 8 0 (upd (M.1 8 0) 4 1)) = F
  intro h1 e29 e34
  have key : ∀ (Ma Mb Mc : zM), Ma = (zst F 8 0 (upd (F 8 0) 10 0), M.2) → Mb = (zst Ma.1 8 0 (upd (Ma.1 8 0) 11 0), Ma.2) → Mc = (zst Mb.1 8 0 (upd (Mb.1 8 0) 14 0), Mb.2) → zPm M Mc 1 ∧ Mc.1 8 0 10 = nI 0 ∧ Mc.1 8 0 14 = nI 0 ∧ Mc.1 29 0 = M.1 29 0 ∧ Mc.1 34 0 = M.1 34 0 := by
    intro Ma Mb Mc ha hb hc
    have a1 : zPm M Ma 1 := by rw [ha]; exact h1.sl 10 0 (by decide)
    have b1 : zPm M Mb 1 := by rw [hb]; exact a1.sl 11 0 (by decide)
    have c1 : zPm M Mc 1 := by rw [hc]; exact b1.sl 14 0 (by decide)
    refine ⟨c1, ?_, ?_, ?_, ?_⟩
    · rw [hc]; dsimp only; rw [sl_n Mb 14 10 0 (by decide), hb]; dsimp only; rw [sl_n Ma 11 10 0 (by decide), ha]; exact sl_s (F, M.2) 10 0
    · rw [hc]; exact sl_s Mb 14 0
    · rw [hc]; dsimp only; rw [sl_o Mb 14 0 29 0 (by decide), hb]; dsimp only; rw [sl_o Ma 11 0 29 0 (by decide), ha]; dsimp only; exact (sl_o (F, M.2) 10 0 29 0 (by decide)).trans e29
    · rw [hc]; dsimp only; rw [sl_o Mb 14 0 34 0 (by decide), hb]; dsimp only; rw [sl_o Ma 11 0 34 0 (by decide), ha]; dsimp only; exact (sl_o (F, M.2) 10 0 34 0 (by decide)).trans e34
  obtain ⟨k1, k2, k3, k4, k5⟩ := key _ _ _ rfl rfl rfl
  rw [bk_X8_plays_5, bk_X8_plays_10, bk_X8_plays_15, bk_X8_plays_20]
  obtain ⟨M', R, c', x⟩ := sp_plays_loop n hn M h6 h8 (n + 1) 0 0 B _ none none (by omega) (by omega) (by omega) k1 k2 k3 (by rw [k4]; exact hW)
  rw [k4, k5] at x
  exact ⟨M', R, c', x⟩
