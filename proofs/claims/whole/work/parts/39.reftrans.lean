-- ===== the reference: what each call makes of s =====
abbrev zNF : Int32 := -1000004
def zXw (σ : Nat → Int32) (x a : Int32) (τ : Nat → Int32) : Prop := (¬ zVL x ∧ a = -1000001 ∧ τ = σ) ∨ (zVL x ∧ ∃ N, N ≤ 10 ∧ σ 0 = nI N ∧ ((zfw σ x N = true ∧ a = -1000002 ∧ τ = σ) ∨ (zfw σ x N = false ∧ N = 10 ∧ a = -1000003 ∧ τ = σ) ∨ (zfw σ x N = false ∧ N < 10 ∧ a = nI N ∧ τ = zwd σ x N)))
def zXu (σ : Nat → Int32) (w a : Int32) (τ : Nat → Int32) : Prop := (¬ (0 ≤ w ∧ w < σ 0) ∧ a = -1000001 ∧ τ = σ) ∨ ∃ k n, n < 10 ∧ k ≤ n ∧ w = nI k ∧ σ 0 = nI (n + 1) ∧ a = nI n ∧ τ = zuw σ k n
def zXs (σ : Nat → Int32) (w b a : Int32) (τ : Nat → Int32) : Prop := ((¬ (0 ≤ w ∧ w < σ 0) ∨ ¬ zVB b) ∧ a = -1000001 ∧ τ = σ) ∨ ∃ N v d, N ≤ 10 ∧ v < N ∧ d < 2 ∧ σ 0 = nI N ∧ w = nI v ∧ b = nI d ∧ ((¬ zcan σ zNF v d ∧ a = -1000002 ∧ τ = σ) ∨ ∃ k ρ, zcan σ zNF v d ∧ (zbst σ zNF v d).1 = some k ∧ a = nI k ∧ zWA σ d (zwb (σ (8 + 2 * v)) k) 5 0 ρ ∧ τ = zsw' ρ v)
def zXb (σ : Nat → Int32) (b a : Int32) (τ : Nat → Int32) : Prop := (¬ zVB b ∧ a = -1000001 ∧ τ = σ) ∨ ∃ d, d < 2 ∧ b = nI d ∧ zWA σ d (zwb 0 0) 5 0 τ ∧ a = nI (zhv τ d 1)
def zCB (a c : Int32) : Prop := (0 ≤ a ∧ a ≤ 1) ∧ 0 ≤ c ∧ c ≤ zcolI a - 1
theorem zCB_of {a c : Int32} (h : zCB a c) : ∃ b k, b < 2 ∧ k < zcol b ∧ a = nI b ∧ c = nI k := by
  obtain ⟨h1, h2, h3⟩ := h
  obtain ⟨b, b1, rfl⟩ := zVB_of h1
  rw [zcol_eq b b1] at h3
  obtain ⟨k, k1, k2⟩ := nI_of (i_le.mp h2)
  have hc := zcol_ge b
  have hd := zcol_le b
  rw [k2, show (1 : Int32) = nI 1 from rfl, pk_sub (by omega), nI_leI k1 (by omega)] at h3
  exact ⟨b, k, b1, by omega, rfl, k2⟩
theorem zI_of {a : Int32} {n : Nat} (m : Int32) (hm : m.toInt = n) (h : 0 ≤ a ∧ a ≤ m) : ∃ k, k ≤ n ∧ a = nI k := nI_of2 hm (i_le.mp h.1) h.2
def zXk (σ : Nat → Int32) (b c r s a : Int32) (τ : Nat → Int32) : Prop := ((¬ zCB b c ∨ ¬ (0 ≤ r ∧ r ≤ 4) ∨ ¬ (0 ≤ s ∧ s ≤ 2)) ∧ a = -1000001 ∧ τ = σ) ∨ ∃ d k i j, d < 2 ∧ k < zcol d ∧ i < 5 ∧ j < 3 ∧ b = nI d ∧ c = nI k ∧ r = nI i ∧ s = nI j ∧ τ = upd σ (zat d i k) (zsk (σ (zat d i k)) j) ∧ a = nI (zhv τ d 2)
def zXr (σ : Nat → Int32) (b c a : Int32) (τ : Nat → Int32) : Prop := (¬ zCB b c ∧ a = -1000001 ∧ τ = σ) ∨ ∃ d k, d < 2 ∧ k < zcol d ∧ b = nI d ∧ c = nI k ∧ a = nI (zrpn σ d k 5) ∧ τ = upd (zrp σ d k 5) 2 (σ 2 + 1)
def zSB (i v : Int32) : Prop := (0 ≤ i ∧ i ≤ 1) ∧ i + 1 ≤ v ∧ v ≤ (if i = 0 then 9 else 99)
def zXe (σ : Nat → Int32) (i v a : Int32) (τ : Nat → Int32) : Prop := (¬ zSB i v ∧ a = -1000001 ∧ τ = σ) ∨ ∃ k, k < 2 ∧ i = nI k ∧ (nI k + 1 ≤ v ∧ v ≤ (if k = 0 then 9 else 99)) ∧ a = σ (6 + k) ∧ τ = upd σ (6 + k) v
/-- an error changes nothing that counts; else it is one change -/
def zOQ (M M' : zM) (a : Int32) : Prop := (a < 0 ∧ zRf M M') ∨ (¬ a < 0 ∧ zOp M M')
/-- what is known of the reference -/
def zRN (M : zM) : Prop := M.1 8 0 8 = zNF ∧ zHx M ∧ ∃ N, N ≤ 10 ∧ M.1 29 0 0 = nI N
theorem tr_word (x : Int32) (M : zM) (h : zRN M) : ∃ a M', zd_X8_word [zR 8 0, zI x] M = zs a M' ∧ zOQ M M' a ∧ zXw (M.1 29 0) x a (M'.1 29 0) := by
  obtain ⟨-, hh, N, hN, hs⟩ := h
  by_cases c : zVL x
  · cases hf : zfw (M.1 29 0) x N with
    | true => exact ⟨_, M, sp_word_same x N hN M hs c hf, Or.inl ⟨by decide, zRf.rf M⟩, Or.inr ⟨c, N, hN, hs, Or.inl ⟨hf, rfl, rfl⟩⟩⟩
    | false =>
      by_cases e : N = 10
      · subst e
        exact ⟨_, M, sp_word_full x M hs c hf, Or.inl ⟨by decide, zRf.rf M⟩, Or.inr ⟨c, 10, hN, hs, Or.inr (Or.inl ⟨hf, rfl, rfl, rfl⟩)⟩⟩
      · obtain ⟨M', e1, e2, e3⟩ := sp_word x N (by omega) M hs c hf hh
        exact ⟨_, M', e1, Or.inr ⟨nI_pos (by omega), e2⟩, Or.inr ⟨c, N, hN, hs, Or.inr (Or.inr ⟨hf, by omega, rfl, e3⟩)⟩⟩
  · exact ⟨_, M, sp_word_bad x M c, Or.inl ⟨by decide, zRf.rf M⟩, Or.inl ⟨c, rfl, rfl⟩⟩
theorem tr_unword (w : Int32) (M : zM) (h : zRN M) : ∃ a M', zd_X8_unword [zR 8 0, zI w] M = zs a M' ∧ zOQ M M' a ∧ zXu (M.1 29 0) w a (M'.1 29 0) := by
  obtain ⟨-, hh, N, hN, hs⟩ := h
  by_cases c : zVW M w
  · have c' : 0 ≤ w ∧ w < nI N := ⟨c.1, by rw [← hs]; exact c.2⟩
    obtain ⟨k, k1, rfl⟩ := z_of (by omega) c'
    obtain ⟨n, rfl⟩ : ∃ n, N = n + 1 := ⟨N - 1, by omega⟩
    obtain ⟨M', e1, e2, e3⟩ := sp_unword k n (by omega) (by omega) M hs hh
    exact ⟨_, M', e1, Or.inr ⟨nI_pos (by omega), e2⟩, Or.inr ⟨k, n, by omega, by omega, rfl, hs, rfl, e3⟩⟩
  · exact ⟨_, M, sp_unword_bad w M c, Or.inl ⟨by decide, zRf.rf M⟩, Or.inl ⟨c, rfl, rfl⟩⟩
theorem tr_show (w b : Int32) (M : zM) (h : zRN M) : ∃ a M', zd_X8_show [zR 8 0, zI w, zI b] M = zs a M' ∧ zOQ M M' a ∧ zXs (M.1 29 0) w b a (M'.1 29 0) := by
  obtain ⟨h8, hh, N, hN, hs⟩ := h
  by_cases c : zVW M w
  · by_cases c2 : zVB b
    · have c' : 0 ≤ w ∧ w < nI N := ⟨c.1, by rw [← hs]; exact c.2⟩
      obtain ⟨k, k1, rfl⟩ := z_of (by omega) c'
      obtain ⟨d, d1, rfl⟩ := zVB_of c2
      by_cases c3 : zcan (M.1 29 0) (M.1 8 0 8) k d
      · obtain ⟨g, hg⟩ := Option.ne_none_iff_exists'.mp c3.1
        obtain ⟨M', τ, e1, e2, e3, e4⟩ := sp_show k d g N d1 hN k1 M hs c3 hg hh
        have hl := zbst_lt _ _ _ _ _ hg
        have hl2 := zshf_le (mny (M.1 29 0 (8 + 2 * k))) d
        rw [h8] at c3 hg
        exact ⟨_, M', e1, Or.inr ⟨nI_pos (by omega), e2⟩, Or.inr ⟨N, k, d, hN, k1, d1, hs, rfl, rfl, Or.inr ⟨g, τ, c3, hg, rfl, e3, e4⟩⟩⟩
      · obtain ⟨M', e1, e2⟩ := sp_show_not k d N d1 hN k1 M hs c3
        rw [h8] at c3
        exact ⟨_, M', e1, Or.inl ⟨by decide, e2⟩, Or.inr ⟨N, k, d, hN, k1, d1, hs, rfl, rfl, Or.inl ⟨c3, rfl, e2.s⟩⟩⟩
    · exact ⟨_, M, sp_show_bad w b M (Or.inr c2), Or.inl ⟨by decide, zRf.rf M⟩, Or.inl ⟨Or.inr c2, rfl, rfl⟩⟩
  · exact ⟨_, M, sp_show_bad w b M (Or.inl c), Or.inl ⟨by decide, zRf.rf M⟩, Or.inl ⟨Or.inl c, rfl, rfl⟩⟩
theorem zsm_le2 (f : Nat → Nat) (B n : Nat) (h : ∀ i, f i ≤ B) : zsm f n ≤ n * B := zsm_le f B h n
theorem zhv_le (σ : Nat → Int32) (b : Nat) (w : Int32) : zhv σ b w ≤ 160 := zsm_le (fun r => zq (zdc σ b r w)) 32 (fun i => zq_le _) 5
theorem tr_blank (b : Int32) (M : zM) (h : zRN M) : ∃ a M', zd_X8_blank [zR 8 0, zI b] M = zs a M' ∧ zOQ M M' a ∧ zXb (M.1 29 0) b a (M'.1 29 0) := by
  obtain ⟨h8, hh, N, hN, hs⟩ := h
  by_cases c2 : zVB b
  · obtain ⟨d, d1, rfl⟩ := zVB_of c2
    obtain ⟨M', e1, e2, e3⟩ := sp_blank d d1 M hh
    have := zhv_le (M'.1 29 0) d 1
    exact ⟨_, M', e1, Or.inr ⟨nI_pos (by omega), e2⟩, Or.inr ⟨d, d1, rfl, e3, rfl⟩⟩
  · exact ⟨_, M, sp_blank_bad b M c2, Or.inl ⟨by decide, zRf.rf M⟩, Or.inl ⟨c2, rfl, rfl⟩⟩
theorem tr_stick (b c r s : Int32) (M : zM) (h : zRN M) : ∃ a M', zd_X8_stick [zR 8 0, zI b, zI c, zI r, zI s] M = zs a M' ∧ zOQ M M' a ∧ zXk (M.1 29 0) b c r s a (M'.1 29 0) := by
  obtain ⟨h8, hh, N, hN, hs⟩ := h
  by_cases c1 : zCB b c
  · by_cases c2 : 0 ≤ r ∧ r ≤ 4
    · by_cases c3 : 0 ≤ s ∧ s ≤ 2
      · obtain ⟨d, k, d1, k1, rfl, rfl⟩ := zCB_of c1
        obtain ⟨i, i1, rfl⟩ := zI_of (n := 4) 4 rfl c2
        obtain ⟨j, j1, rfl⟩ := zI_of (n := 2) 2 rfl c3
        obtain ⟨M', e1, e2, e3⟩ := sp_stick d k i j d1 k1 (by omega) (by omega) M hh
        have := zhv_le (M'.1 29 0) d 2
        exact ⟨_, M', e1, Or.inr ⟨nI_pos (by omega), e2⟩, Or.inr ⟨d, k, i, j, d1, k1, by omega, by omega, rfl, rfl, rfl, rfl, e3, rfl⟩⟩
      · exact ⟨_, M, sp_stick_bad b c r s M (Or.inr (Or.inr c3)), Or.inl ⟨by decide, zRf.rf M⟩, Or.inl ⟨Or.inr (Or.inr c3), rfl, rfl⟩⟩
    · exact ⟨_, M, sp_stick_bad b c r s M (Or.inr (Or.inl c2)), Or.inl ⟨by decide, zRf.rf M⟩, Or.inl ⟨Or.inr (Or.inl c2), rfl, rfl⟩⟩
  · exact ⟨_, M, sp_stick_bad b c r s M (Or.inl c1), Or.inl ⟨by decide, zRf.rf M⟩, Or.inl ⟨Or.inl c1, rfl, rfl⟩⟩
theorem tr_repair (b c : Int32) (M : zM) (h : zRN M) : ∃ a M', zd_X8_repair [zR 8 0, zI b, zI c] M = zs a M' ∧ zOQ M M' a ∧ zXr (M.1 29 0) b c a (M'.1 29 0) := by
  obtain ⟨h8, hh, N, hN, hs⟩ := h
  by_cases c1 : zCB b c
  · obtain ⟨d, k, d1, k1, rfl, rfl⟩ := zCB_of c1
    obtain ⟨M', e1, e2, e3⟩ := sp_repair d k d1 k1 M hh
    have : zrpn (M.1 29 0) d k 5 ≤ 5 * 1 := zsm_le _ 1 (fun i => by cases (!decide ((M.1 29 0 (zat d i k) &&& 2) = 0)) <;> decide) 5
    exact ⟨_, M', e1, Or.inr ⟨nI_pos (by omega), e2⟩, Or.inr ⟨d, k, d1, k1, rfl, rfl, rfl, e3⟩⟩
  · exact ⟨_, M, sp_repair_bad b c M c1, Or.inl ⟨by decide, zRf.rf M⟩, Or.inl ⟨c1, rfl, rfl⟩⟩
theorem tr_set (i v : Int32) (M : zM) (h : zRN M) (h6 : ∀ k, k < 2 → ¬ M.1 29 0 (6 + k) < 0) : ∃ a M', zd_X8_set [zR 8 0, zI i, zI v] M = zs a M' ∧ zOQ M M' a ∧ zXe (M.1 29 0) i v a (M'.1 29 0) := by
  obtain ⟨h8, hh, N, hN, hs⟩ := h
  by_cases c1 : zSB i v
  · obtain ⟨k, k1, rfl⟩ := zVB_of c1.1
    have hv : nI k + 1 ≤ v ∧ v ≤ (if k = 0 then 9 else 99) := by
      have := c1.2
      rcases (show k = 0 ∨ k = 1 by omega) with e | e <;> (subst e; exact this)
    obtain ⟨M', e1, e2, e3⟩ := sp_set k v k1 M hv hh
    exact ⟨_, M', e1, Or.inr ⟨h6 k k1, e2⟩, Or.inr ⟨k, k1, rfl, hv, rfl, e3⟩⟩
  · exact ⟨_, M, sp_set_bad i v M c1, Or.inl ⟨by decide, zRf.rf M⟩, Or.inl ⟨c1, rfl, rfl⟩⟩
/-- an order that was read -/
def zXo (o : Int32) (f : Nat → Int32) (σ : Nat → Int32) (a : Int32) (τ : Nat → Int32) : Prop :=
  if o = 98 then zXb σ (f 0) a τ else if o = 107 then zXk σ (f 0) (f 1) (f 2) (f 3) a τ else if o = 115 then zXs σ (f 0) (f 1) a τ else if o = 119 then zXw σ (f 0) a τ else zXr σ (f 0) (f 1) a τ
theorem tr_calls (M : zM) (h : zRN M) : ∃ a M', zd_X8_calls [zR 8 0] M = zs a M' ∧ zOQ M M' a ∧ zXo (M.1 8 0 15) (M.1 34 0) (M.1 29 0) a (M'.1 29 0) := by
  rw [en_X8_calls, bk_X8_calls_0]
  unfold zXo
  by_cases c1 : M.1 8 0 15 = 98
  · obtain ⟨a, M', e, q⟩ := tr_blank (M.1 34 0 0) M h
    exact ⟨a, M', by rw [if_pos c1, bk_X8_calls_76, zbi e, bk_X8_calls_86], q.1, by rw [if_pos c1]; exact q.2⟩
  · rw [if_neg c1]
    by_cases c2 : M.1 8 0 15 = 107
    · obtain ⟨a, M', e, q⟩ := tr_stick (M.1 34 0 0) (M.1 34 0 1) (M.1 34 0 2) (M.1 34 0 3) M h
      exact ⟨a, M', by rw [if_pos c2, bk_X8_calls_87, zbi e, bk_X8_calls_115], q.1, by rw [if_neg c1, if_pos c2]; exact q.2⟩
    · rw [if_neg c2]
      by_cases c3 : M.1 8 0 15 = 115
      · obtain ⟨a, M', e, q⟩ := tr_show (M.1 34 0 0) (M.1 34 0 1) M h
        exact ⟨a, M', by rw [if_pos c3, bk_X8_calls_59, zbi e, bk_X8_calls_75], q.1, by rw [if_neg c1, if_neg c2, if_pos c3]; exact q.2⟩
      · rw [if_neg c3]
        by_cases c4 : M.1 8 0 15 = 119
        · obtain ⟨a, M', e, q⟩ := tr_word (M.1 34 0 0) M h
          exact ⟨a, M', by rw [if_pos c4, bk_X8_calls_48, zbi e, bk_X8_calls_58], q.1, by rw [if_neg c1, if_neg c2, if_neg c3, if_pos c4]; exact q.2⟩
        · obtain ⟨a, M', e, q⟩ := tr_repair (M.1 34 0 0) (M.1 34 0 1) M h
          exact ⟨a, M', by rw [if_neg c4, bk_X8_calls_116, zbi e, bk_X8_calls_132], q.1, by rw [if_neg c1, if_neg c2, if_neg c3, if_neg c4]; exact q.2⟩
