-- ===== both sides: undo, the text, fault and play =====
theorem zcy_lt (f g : Nat → Int32) (n j : Nat) (h : j < n) : zcy f g n j = f j := if_pos h
theorem iv_undo {B : Nat} {M : zM} (h : zInv B M) : ∃ a M2 M3, zd_X7_undo [zR 7 0] M = zs a M2 ∧ zd_X8_undo [zR 8 0] M2 = zs a M3 ∧ zLw M M2 ∧ zInv (B + 1) M3 ∧ zLw M M3 := by
  obtain ⟨hWM, hL, h8, h4, ⟨n, h6, hT⟩, p, h3, hC, hP⟩ := id h
  obtain ⟨u0, u1⟩ := ch_undo hC
  rcases Nat.eq_zero_or_pos p with e | e
  · subst e
    exact ⟨-1000002, M, M, u0 rfl, sp_undo_0 M h3, fun _ _ _ => rfl, ⟨hWM.mono (by omega), hL, h8, h4, ⟨n, h6, hT⟩, 0, h3, hC, fun i hi => by omega⟩, fun _ _ _ => rfl⟩
  · obtain ⟨q, rfl⟩ : ∃ q, p = q + 1 := ⟨p - 1, by omega⟩
    have hq := hC.1
    obtain ⟨M2, e2, c2, fc⟩ := u1 q rfl
    have e8 : M2.1 8 0 = M.1 8 0 := fc 8 0 (by omega)
    have e30 : M2.1 30 0 = M.1 30 0 := fc 30 0 (by omega)
    have er := sp_undo q (by omega) M2 (by rw [e8]; exact h3)
    have o : ∀ c m, ¬ (c = 8 ∧ m = 0) → ¬ (c = 29 ∧ m = 0) → (zst (zst M2.1 8 0 (upd (M2.1 8 0) 3 (nI q))) 29 0 (zcy (fun j => M2.1 30 0 (228 * q + j)) (M2.1 29 0) 228)) c m = M2.1 c m := fun c m a b => (zst_ne _ _ b).trans (zst_ne _ _ a)
    have o29 : (zst (zst M2.1 8 0 (upd (M2.1 8 0) 3 (nI q))) 29 0 (zcy (fun j => M2.1 30 0 (228 * q + j)) (M2.1 29 0) 228)) 29 0 = zcy (fun j => M2.1 30 0 (228 * q + j)) (M2.1 29 0) 228 := zst_self _ 29 0 _
    have o8 : (zst (zst M2.1 8 0 (upd (M2.1 8 0) 3 (nI q))) 29 0 (zcy (fun j => M2.1 30 0 (228 * q + j)) (M2.1 29 0) 228)) 8 0 = upd (M.1 8 0) 3 (nI q) := by rw [zst_ne _ _ (by decide), zst_self, e8]
    revert o o29 o8 er
    generalize (zst (zst M2.1 8 0 (upd (M2.1 8 0) 3 (nI q))) 29 0 (zcy (fun j => M2.1 30 0 (228 * q + j)) (M2.1 29 0) 228)) = F
    intro er o o29 o8
    have f8 : zFr8 M2 (F, M2.2) := ⟨rfl, fun c m a b => o c m (by omega) (by omega)⟩
    have hsl : ∀ j, j < 228 → F 29 0 j = zSl M q j := fun j hj => by rw [o29, zcy_lt _ _ _ _ hj, e30]; rfl
    refine ⟨nI q, M2, (F, M2.2), e2, er, fc.lw, ⟨((hP q (by omega)).mono (by omega)).cg hsl, fun i hi => by dsimp only; rw [o 40 0 (by omega) (by omega), fc 40 0 (by omega)]; exact hL i hi, by dsimp only; rw [o8, upd_n (by decide)]; exact h8, by dsimp only; rw [o8, upd_n (by decide)]; exact h4, ⟨n, by dsimp only; rw [o8, upd_n (by decide)]; exact h6, hT.1, by dsimp only; rw [o 5 0 (by omega) (by omega), fc 5 0 (by omega)]; exact hT.2.1, fun i hi => by dsimp only; rw [o 26 0 (by omega) (by omega), fc 26 0 (by omega), o 32 0 (by omega) (by omega), fc 32 0 (by omega)]; exact hT.2.2 i hi⟩, q, by dsimp only; rw [o8, upd_s], ?_, fun i hi => ?_⟩, fc.lw.tr f8.lw⟩
    · exact (f8.cs c2).cg (fun j hj => hsl j hj) (fun i j _ _ => by unfold zSl; dsimp only; rw [o 30 0 (by omega) (by omega), e30])
    · exact ((hP i (by omega)).mono (by omega)).cg (fun j _ => by unfold zSl; dsimp only; rw [o 30 0 (by omega) (by omega), e30])
theorem char_ok : ∀ n, n < 127 → vp_nar .char (zi2cf (nI n)) = nI n := by decide +kernel
/-- a step of the texts alone -/
theorem inv_text {B : Nat} {M M' : zM} (h : zInv B M) (h2 : M'.2 = M.2) (hi : ∀ c m, ¬ (c = 5 ∧ m = 0) → ¬ (c = 26 ∧ m = 0) → ¬ (c = 32 ∧ m = 0) → ¬ (c = 8 ∧ m = 0) → M'.1 c m = M.1 c m) (h8 : ∀ k, k ≠ 6 → M'.1 8 0 k = M.1 8 0 k) (ht : ∃ n, M'.1 8 0 6 = nI n ∧ zTx M' n (M'.1 32 0)) : zInv (B + 1) M' := by
  obtain ⟨hWM, hL, h8', h4, -, p, h3, hC, hP⟩ := h
  have e29 : M'.1 29 0 = M.1 29 0 := hi 29 0 (by omega) (by omega) (by omega) (by omega)
  have e30 : M'.1 30 0 = M.1 30 0 := hi 30 0 (by omega) (by omega) (by omega) (by omega)
  have gs : ∀ k σ, zGS M k σ → zGS M' k σ := fun k σ g => g.fr (fun c m z => hi c m (by unfold zOw at z; omega) (by unfold zOw at z; omega) (by unfold zOw at z; omega) (by unfold zOw at z; omega)) (fun c m _ => by rw [h2])
  obtain ⟨c1, c2, c3, ad, ⟨c4, c5, c6⟩, c7⟩ := hC
  refine ⟨by rw [e29]; exact hWM.mono (by omega), fun i hi' => by rw [hi 40 0 (by omega) (by omega) (by omega) (by omega)]; exact hL i hi', (h8 8 (by decide)).trans h8', (h8 4 (by decide)).trans h4, ht, p, (h8 3 (by decide)).trans h3, ⟨c1, by rw [e29]; exact gs 0 _ c2, fun k hk b hb => by rw [hi 0 _ (by omega) (by omega) (by omega) (by omega)]; exact c3 k hk b hb, ad, ⟨by rw [hi 2 0 (by omega) (by omega) (by omega) (by omega)]; exact c4, fun i hi' => by rw [h2]; exact c5 i hi', c6⟩, fun i hi' => ?_⟩, fun i hi' => ?_⟩
  · have := gs _ _ (c7 i hi')
    unfold zSl at this ⊢
    rw [e30]; exact this
  · have := (hP i hi').mono (B' := B + 1) (by omega)
    unfold zSl at this ⊢
    rw [e30]; exact this
theorem iv_type {B : Nat} {M : zM} (h : zInv B M) (x : Int32) : ∃ a M2 M3, zd_X7_type [zR 7 0, zI x] M = zs a M2 ∧ zd_X8_type [zR 8 0, zI x] M2 = zs a M3 ∧ zLw M M2 ∧ zInv (B + 1) M3 ∧ zLw M M3 := by
  obtain ⟨hWM, hL, h8, h4, ⟨n, h6, hT⟩, p, h3, hC, hP⟩ := id h
  obtain ⟨t1, t2, t3⟩ := hT
  by_cases c : 32 ≤ x ∧ x ≤ 126
  · have head : zd_X7_type [zR 7 0, zI x] M = (zd_X5_add [zR 5 0, zI (zi2cf x)] M).bind (fun r => zev zC_X7_type 24 ([some (zR 7 0), some (zI x)], zpush r.1 [], r.2)) := by
      rw [en_X7_type, bk_X7_type_0, if_neg (i_le.mp c.1), bk_X7_type_6, if_pos c.2, bk_X7_type_15]
    have i32 : (32 : Int32).toInt = 32 := rfl
    have hx0 : ¬ x < 0 := fun z => by
      have := c.1
      rw [i_lei, i32] at this
      rw [i_lt, show (0 : Int32).toInt = 0 from rfl] at z
      omega
    obtain ⟨v, v1, rfl⟩ := nI_of hx0
    have hv : v < 127 := by
      have := c.2
      rw [show (126 : Int32) = nI 126 from rfl, nI_leI v1 (by decide)] at this
      omega
    by_cases q : n = 60
    · subst q
      have ha : zd_X5_add [zR 5 0, zI (zi2cf (nI v))] M = zs 0 M := by
        rw [en_X5_add, bk_X5_add_0, t2, if_neg (by decide), bk_X5_add_7, t2, if_neg (by decide), bk_X5_add_16]
      exact ⟨-1000003, M, M, by rw [head, zbi ha, bk_X7_type_24, if_pos rfl, bk_X7_type_37, bk_X7_type_39], sp_type_full _ M c h6, fun _ _ _ => rfl, inv_text h rfl (fun _ _ _ _ _ _ => rfl) (fun _ _ => rfl) ⟨60, h6, t1, t2, t3⟩, fun _ _ _ => rfl⟩
    · have hn : n < 60 := by omega
      have s1 : ∃ M2, zd_X5_add [zR 5 0, zI (zi2cf (nI v))] M = zs 1 M2 ∧ M2.2 = M.2 ∧ (∀ c m, ¬ (c = 5 ∧ m = 0) → ¬ (c = 26 ∧ m = 0) → M2.1 c m = M.1 c m) ∧ M2.1 26 0 = upd (M.1 26 0) n (nI v) ∧ M2.1 5 0 1 = nI (n + 1) := by
        refine ⟨(zst (zst M.1 26 0 (upd (M.1 26 0) n (nI v))) 5 0 (upd (M.1 5 0) 1 (nI (n + 1))), M.2), ?_, rfl, fun c m a b => (zst_ne _ _ a).trans (zst_ne M.1 _ b), ?_, ?_⟩
        · have e5 : (zst M.1 26 0 (upd (M.1 26 0) n (nI v))) 5 0 = M.1 5 0 := zw_ne M 26 0 _ 5 0 (by omega)
          rw [en_X5_add, bk_X5_add_0, t2, if_neg (nI_pos (by omega)), bk_X5_add_7, t2, show (60 : Int32) = nI 60 from rfl, if_pos (nI_lt hn (by omega)), bk_X5_add_18, t2, if_neg (ix_in hn (by decide)), ix_cl (by omega), char_ok v hv, bk_X5_add_28]
          dsimp only
          rw [e5, t2, nI_1, bk_X5_add_38]
        · dsimp only; rw [zst_ne (c := 5) (n := 0) (c' := 26) (n' := 0) _ _ (by omega), zst_self]
        · dsimp only; rw [zst_self, upd_s]
      obtain ⟨M2, e2, j2, o2, c26, c5⟩ := s1
      have e8 : M2.1 8 0 = M.1 8 0 := o2 8 0 (by omega) (by omega)
      have e32 : M2.1 32 0 = M.1 32 0 := o2 32 0 (by omega) (by omega)
      have er := sp_type (nI v) n hn M2 c (by rw [e8]; exact h6)
      have oo : ∀ c m, ¬ (c = 32 ∧ m = 0) → ¬ (c = 8 ∧ m = 0) → (zst (zst M2.1 32 0 (upd (M2.1 32 0) n (nI v))) 8 0 (upd (M2.1 8 0) 6 (nI (n + 1)))) c m = M2.1 c m := fun c m a b => (zst_ne _ _ b).trans (zst_ne M2.1 _ a)
      have o32 : (zst (zst M2.1 32 0 (upd (M2.1 32 0) n (nI v))) 8 0 (upd (M2.1 8 0) 6 (nI (n + 1)))) 32 0 = upd (M.1 32 0) n (nI v) := by rw [zst_ne _ _ (by decide), zst_self, e32]
      have o8 : (zst (zst M2.1 32 0 (upd (M2.1 32 0) n (nI v))) 8 0 (upd (M2.1 8 0) 6 (nI (n + 1)))) 8 0 = upd (M.1 8 0) 6 (nI (n + 1)) := by rw [zst_self, e8]
      refine ⟨nI (n + 1), M2, _, by rw [head, zbi e2, bk_X7_type_24, if_neg (by decide), bk_X7_type_27, c5, bk_X7_type_39], er, fun c m z => o2 c m (by omega) (by omega), inv_text h j2 (fun c m a b d e => (oo c m d e).trans (o2 c m a b)) (fun k hk => by dsimp only; rw [o8, upd_n hk]) ⟨n + 1, by dsimp only; rw [o8, upd_s], by omega, by dsimp only; rw [oo 5 0 (by omega) (by omega), c5], fun i hi => ?_⟩, fun c m z => (oo c m (by omega) (by omega)).trans (o2 c m (by omega) (by omega))⟩
      dsimp only
      rw [oo 26 0 (by omega) (by omega), c26, o32]
      by_cases e : i = n
      · rw [e, upd_s, upd_s]
      · rw [upd_n e, upd_n e]; exact t3 i (by omega)
  · refine ⟨-1000001, M, M, ?_, sp_type_bad x M c, fun _ _ _ => rfl, inv_text h rfl (fun _ _ _ _ _ _ => rfl) (fun _ _ => rfl) ⟨n, h6, t1, t2, t3⟩, fun _ _ _ => rfl⟩
    rw [en_X7_type, bk_X7_type_0]
    by_cases c1 : x < 32
    · rw [if_pos c1, bk_X7_type_12]
    · rw [if_neg c1, bk_X7_type_6, if_neg (fun z => c ⟨i_le.mpr c1, z⟩), bk_X7_type_12]
theorem iv_clear {B : Nat} {M : zM} (h : zInv B M) : ∃ a M2 M3, zd_X7_clearText [zR 7 0] M = zs a M2 ∧ zd_X8_clearText [zR 8 0] M2 = zs a M3 ∧ zLw M M2 ∧ zInv (B + 1) M3 ∧ zLw M M3 := by
  obtain ⟨hWM, hL, h8, h4, ⟨n, h6, hT⟩, p, h3, hC, hP⟩ := id h
  obtain ⟨t1, t2, t3⟩ := hT
  have e1 : zd_X7_clearText [zR 7 0] M = zs (nI n) (zst M.1 5 0 (upd (M.1 5 0) 1 0), M.2) := by rw [en_X7_clearText, bk_X7_clearText_0, bk_X7_clearText_16, t2]
  have e8 : (zst M.1 5 0 (upd (M.1 5 0) 1 0)) 8 0 = M.1 8 0 := zw_ne M 5 0 _ 8 0 (by omega)
  have e2 := sp_clearText ((zst M.1 5 0 (upd (M.1 5 0) 1 0)), M.2)
  dsimp only at e2
  rw [e8, h6] at e2
  refine ⟨nI n, _, _, e1, e2, fun c m z => zst_ne M.1 _ (by omega), inv_text h rfl (fun c m a _ _ d => (zst_ne _ _ d).trans (zst_ne M.1 _ a)) (fun k hk => by dsimp only; rw [zst_self, upd_n hk]) ⟨0, by dsimp only; rw [zst_self, upd_s]; rfl, by omega, by dsimp only; rw [zst_ne _ _ (by decide), zst_self, upd_s]; rfl, fun i hi => by omega⟩, fun c m z => (zst_ne _ _ (by omega)).trans (zst_ne M.1 _ (by omega))⟩
