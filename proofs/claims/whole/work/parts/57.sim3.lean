-- ===== the class: settings, words that can be shown, orders =====
theorem cs_set {M : zM} {k B : Nat} {σ τ : Nat → Int32} {i v a : Int32} (hW : zW B σ) (hG : zGS M k σ) (t : zXe σ i v a τ) : ∃ M', zd_X4_change [zR 4 k, zI i, zI v] M = zs a M' ∧ zGS M' k τ ∧ zFS M M' k := by
  obtain ⟨N, hN, hs, gW, gB, g3, g4, g5, g6, g7⟩ := id hG
  have i1 : (1 : Int32).toInt = 1 := rfl
  have i2 : (2 : Int32).toInt = 2 := rfl
  have i9 : (9 : Int32).toInt = 9 := rfl
  have i99 : (99 : Int32).toInt = 99 := rfl
  rcases t with ⟨hb, rfl, rfl⟩ | ⟨q, hq, rfl, ⟨hv1, hv2⟩, rfl, rfl⟩
  · refine ⟨M, ?_, hG, zFS.rf M k⟩
    have b27 : (i = 1 → ¬ (2 ≤ v ∧ v ≤ 99)) → zev zC_X4_change 27 ([some (zR 4 k), some (zI i), some (zI v), none], [], M) = zs (-1000001) M := by
      intro h
      rw [bk_X4_change_27]
      by_cases c1 : i = 1
      · rw [if_pos c1, bk_X4_change_32]
        by_cases c2 : v < 2
        · rw [if_pos c2, bk_X4_change_55]
        · rw [if_neg c2, bk_X4_change_37]
          by_cases c3 : 99 < v
          · rw [if_pos c3, bk_X4_change_55]
          · exact absurd ⟨i_le.mpr c2, i_le.mpr c3⟩ (h c1)
      · rw [if_neg c1, bk_X4_change_55]
    have n1 : i = 1 → ¬ (2 ≤ v ∧ v ≤ 99) := fun e z => hb ⟨by rw [e]; decide, by rw [e]; exact z.1, by rw [e]; exact z.2⟩
    rw [en_X4_change, bk_X4_change_0]
    by_cases c0 : i = 0
    · rw [if_pos c0, bk_X4_change_4]
      by_cases c2 : v < 1
      · rw [if_pos c2]; exact b27 n1
      · rw [if_neg c2, bk_X4_change_9]
        by_cases c3 : 9 < v
        · rw [if_pos c3]; exact b27 n1
        · exact absurd ⟨by rw [c0]; decide, by rw [c0]; exact i_le.mpr c2, by rw [c0]; exact i_le.mpr c3⟩ hb
    · rw [if_neg c0]; exact b27 n1
  · have up : ∀ (M1 : zM) (x : Nat), M1 = (zst M.1 4 k (upd (M.1 4 k) (3 + q) v), M.2) → zGS M1 k (upd σ (6 + q) v) ∧ zFS M M1 k := by
      rintro M1 - rfl
      have c4 : (zst M.1 4 k (upd (M.1 4 k) (3 + q) v)) 4 k = upd (M.1 4 k) (3 + q) v := zst_self M.1 4 k _
      have hz : ∀ j, j ≠ 6 + q → upd σ (6 + q) v j = σ j := fun j h => upd_n h
      refine ⟨⟨N, hN, (hz 0 (by omega)).trans hs, (gW.zi hN (by omega)).cg (fun w hw => ⟨hz _ (by omega), hz _ (by omega)⟩), fun b hb => ((gB b hb).zi (by omega)).cg (hz _ (by omega)) (fun c r _ _ => hz _ (by have := zat_ge (b := b) (r := r) (c := c); omega)), ?_, ?_, ?_, ?_, ?_⟩, zFS.i M k _⟩
      · dsimp only
        rw [c4]
        by_cases e : q = 0
        · subst e; rw [upd_s, upd_s]
        · rw [upd_n (by omega), hz 6 (by omega)]; exact g3
      · dsimp only
        rw [c4]
        by_cases e : q = 1
        · subst e; rw [upd_s, upd_s]
        · rw [upd_n (by omega), hz 7 (by omega)]; exact g4
      · dsimp only; rw [c4, upd_n (by omega), hz 1 (by omega)]; exact g5
      · dsimp only; rw [c4, upd_n (by omega), hz 2 (by omega)]; exact g6
      · dsimp only; rw [c4, upd_n (by omega), hz 3 (by omega)]; exact g7
    rcases (show q = 0 ∨ q = 1 by omega) with rfl | rfl
    · rw [if_pos rfl] at hv2
      have hv1' : ¬ v < 1 := fun z => by rw [show nI 0 + 1 = (1 : Int32) from rfl, i_le] at hv1; exact hv1 z
      obtain ⟨u1, u2⟩ := up _ 0 rfl
      refine ⟨_, ?_, u1, u2⟩
      rw [en_X4_change, bk_X4_change_0, if_pos (show nI 0 = 0 from rfl), bk_X4_change_4, if_neg hv1', bk_X4_change_9, if_neg (fun z => i_le.mp hv2 z), bk_X4_change_15, bk_X4_change_25, g3]
    · rw [if_neg (by decide)] at hv2
      have hv1' : ¬ v < 2 := fun z => by rw [show nI 1 + 1 = (2 : Int32) from rfl, i_le] at hv1; exact hv1 z
      obtain ⟨u1, u2⟩ := up _ 0 rfl
      refine ⟨_, ?_, u1, u2⟩
      rw [en_X4_change, bk_X4_change_0, if_neg (show ¬ nI 1 = 0 by decide), bk_X4_change_27, if_pos (show nI 1 = 1 from rfl), bk_X4_change_32, if_neg hv1', bk_X4_change_37, if_neg (fun z => i_le.mp hv2 z), bk_X4_change_43, bk_X4_change_53, g4]
theorem cs_toshow_loop {M : zM} {k b B N : Nat} {σ : Nat → Int32} (h : zQk M k (2 * k + b) b B σ N) (h3 : M.1 4 k 3 = σ 6) : ∀ (j w : Nat), w + j = N → zev zC_X4_wordsToShow 4 ([some (zR 4 k), some (zR 0 (2 * k + b)), some (zI (zsho σ zNF b w)), some (zI (nI w))], [], M) = zs (zsho σ zNF b N) M := by
  have hN := h.2.1
  intro j
  induction j with
  | zero =>
    intro w e
    rw [bk_X4_wordsToShow_4, h.2.2.2.1.1, if_pos (nI_le (by omega) (by omega)), bk_X4_wordsToShow_45, show w = N by omega]
  | succ j ih =>
    intro w e
    have h1 := ih (w + 1) (by omega)
    have hcs := can_some h.1 zNF w b
    rw [zsho] at h1
    rw [bk_X4_wordsToShow_4, h.2.2.2.1.1, if_neg (nI_ge (by omega) (by omega)), bk_X4_wordsToShow_15, h3, zbi (cp_bestShift (Or.inl ⟨rfl, rfl⟩) h (show w < N by omega) _), bk_X4_wordsToShow_29]
    by_cases c : zcan σ zNF w b
    · have hcb : zcb σ zNF w b = true := zcb_t.mpr c
      obtain ⟨s, hs⟩ := Option.ne_none_iff_exists'.mp c.1
      have hsl := zbst_lt _ _ _ _ _ hs
      have hz := zshf_le (mny (σ (8 + 2 * w))) b
      rw [hcs.1 c, hs, show zoC (some s) = nI s from rfl, if_neg (fun z => by have := nI_pos (n := s) (by omega); rw [z] at this; exact this (by decide)), bk_X4_wordsToShow_33, bk_X4_wordsToShow_39, nI_1]
      rw [if_pos hcb] at h1
      exact h1
    · have hcb : ¬ zcb σ zNF w b = true := fun z => c (zcb_t.mp z)
      rw [hcs.2 c, if_pos (show zoC none = -1 from rfl), bk_X4_wordsToShow_39, nI_1]
      rw [if_neg hcb, show zsho σ zNF b w ||| 0 = zsho σ zNF b w from Int32.or_zero] at h1
      exact h1
theorem cs_toshow {M : zM} {k b B N : Nat} {σ : Nat → Int32} (h : zQk M k (2 * k + b) b B σ N) (h3 : M.1 4 k 3 = σ 6) : zd_X4_wordsToShow [zR 4 k, zR 0 (2 * k + b)] M = zs (zsho σ zNF b N) M := by
  rw [en_X4_wordsToShow, bk_X4_wordsToShow_0]
  exact cs_toshow_loop h h3 N 0 (by omega)
/-- the numbers of an order that count -/
def zAg (o : Int32) (f g : Nat → Int32) : Prop := ∀ i, i < zNo o → f i = g i
theorem cs_obey {M : zM} {k B : Nat} {σ τ : Nat → Int32} {o a : Int32} {f : Nat → Int32} (hB : B < 2 ^ 25) (hT : zLtt M) (hW : zW B σ) (hG : zGS M k σ) (ho : M.1 3 0 0 = o) (hk : o = 119 ∨ ¬ zNo o = 0) (hw : o = 119 → M.1 3 0 1 = f 0) (hf : zAg o (M.1 27 0) f) (t : zXo o f σ a τ) : ∃ M', zd_X4_obey [zR 4 k, zR 3 0] M = zs a M' ∧ zGS M' k τ ∧ zFS M M' k := by
  unfold zXo at t
  unfold zAg zNo at hf
  rw [en_X4_obey, bk_X4_obey_0, ho]
  by_cases c1 : o = 98
  · subst c1
    rw [if_pos rfl] at t ⊢
    rw [if_neg (by decide), if_neg (by decide), if_pos rfl] at hf
    obtain ⟨M', e, q⟩ := cs_blank hB hW hG t
    exact ⟨M', by rw [bk_X4_obey_80, hf 0 (by decide), zbi e, bk_X4_obey_87], q⟩
  rw [if_neg c1] at t ⊢
  by_cases c2 : o = 107
  · subst c2
    rw [if_pos rfl] at t ⊢
    rw [if_neg (by decide), if_neg (by decide), if_neg (by decide), if_pos rfl] at hf
    obtain ⟨M', e, q⟩ := cs_stick hB hW hG t
    exact ⟨M', by rw [bk_X4_obey_88, hf 0 (by decide), hf 1 (by decide), hf 2 (by decide), hf 3 (by decide), zbi e, bk_X4_obey_104], q⟩
  rw [if_neg c2] at t ⊢
  by_cases c3 : o = 115
  · subst c3
    rw [if_pos rfl] at t
    rw [if_neg (by decide), if_pos rfl]
    rw [if_pos rfl] at hf
    obtain ⟨M', e, q⟩ := cs_show hB hW hG t
    exact ⟨M', by rw [bk_X4_obey_69, hf 0 (by decide), hf 1 (by decide), zbi e, bk_X4_obey_79], q⟩
  rw [if_neg c3] at t
  by_cases c4 : o = 119
  · subst c4
    rw [if_pos rfl] at t
    rw [if_neg (by decide), if_neg (by decide), if_pos rfl]
    obtain ⟨M', e, q⟩ := cs_word hT hW hG t
    exact ⟨M', by rw [bk_X4_obey_60, hw rfl, zbi e, bk_X4_obey_68], q⟩
  rw [if_neg c4] at t
  by_cases c5 : o = 114
  · subst c5
    rw [if_pos rfl]
    rw [if_neg (by decide), if_pos rfl] at hf
    obtain ⟨M', e, q⟩ := cs_repair hB hW hG t
    exact ⟨M', by rw [bk_X4_obey_105, hf 0 (by decide), hf 1 (by decide), zbi e, bk_X4_obey_115], q⟩
  exfalso
  rcases hk with h | h
  · exact c4 h
  · apply h
    unfold zNo
    rw [if_neg c3, if_neg c5, if_neg c1, if_neg c2]
