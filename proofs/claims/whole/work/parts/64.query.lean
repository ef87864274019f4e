-- ===== both sides: calls that only tell =====
theorem fin_q {B : Nat} {M M2 M3 : zM} (h : zInv B M) (fc : zFC M M2) (hc : ∀ p, zCS M (M.1 29 0) p (zSl M) → zCS M2 (M.1 29 0) p (zSl M)) (rf : zRf M2 M3) : zLw M M2 ∧ zInv (B + 1) M3 ∧ zLw M M3 := by
  obtain ⟨hWM, hL, h8, h4, ⟨n, h6, hT⟩, p, h3, hC, hP⟩ := h
  have f8 := rf.f8
  have e29 : M3.1 29 0 = M.1 29 0 := by rw [rf.s, fc 29 0 (by omega)]
  have e30 : M3.1 30 0 = M.1 30 0 := by rw [rf.2.1 30 0 (by decide) (by decide) (by decide) (by decide) (by decide), fc 30 0 (by omega)]
  have e32 : M3.1 32 0 = M.1 32 0 := by rw [rf.2.1 32 0 (by decide) (by decide) (by decide) (by decide) (by decide), fc 32 0 (by omega)]
  have e8 : ∀ k, k ≠ 9 → M3.1 8 0 k = M.1 8 0 k := fun k hk => by rw [rf.2.2 k hk, fc 8 0 (by omega)]
  refine ⟨fc.lw, ⟨by rw [e29]; exact hWM.mono (by omega), fun i hi => by rw [f8.2 40 0 (by omega) (by omega), fc 40 0 (by omega)]; exact hL i hi, (e8 8 (by omega)).trans h8, (e8 4 (by omega)).trans h4, ⟨n, (e8 6 (by omega)).trans h6, hT.1, by rw [f8.2 5 0 (by omega) (by omega), fc 5 0 (by omega)]; exact hT.2.1, fun i hi => by rw [f8.2 26 0 (by omega) (by omega), fc 26 0 (by omega), e32]; exact hT.2.2 i hi⟩, p, (e8 3 (by omega)).trans h3, (f8.cs (hc p hC)).cg (fun j _ => by rw [e29]) (fun i j _ _ => by unfold zSl; rw [e30]), fun i hi => ((hP i hi).mono (by omega)).cg (fun j _ => by unfold zSl; rw [e30])⟩, fc.lw.tr f8.lw⟩
theorem fin_r {B : Nat} {M M3 : zM} (h : zInv B M) (rf : zRf M M3) : zLw M M ∧ zInv (B + 1) M3 ∧ zLw M M3 := fin_q h (zFC.rf M) (fun _ c => c) rf
/-- what is at hand for a call that tells -/
theorem inv_q {B : Nat} {M : zM} (h : zInv B M) : ∃ N, N ≤ 10 ∧ M.1 29 0 0 = nI N ∧ zGW M 0 (M.1 29 0) N ∧ (∀ b, b < 2 → zQk M 0 (2 * 0 + b) b B (M.1 29 0) N) ∧ M.1 4 0 3 = M.1 29 0 6 ∧ M.1 4 0 4 = M.1 29 0 7 ∧ M.1 4 0 5 = M.1 29 0 1 ∧ M.1 4 0 6 = M.1 29 0 2 ∧ M.1 4 0 7 = M.1 29 0 3 := by
  obtain ⟨hWM, -, -, -, -, p, -, hC, -⟩ := h
  obtain ⟨N, hN, hs, gW, gB, g3, g4, g5, g6, g7⟩ := hC.2.1
  exact ⟨N, hN, hs, gW, fun b hb => ⟨hWM, hN, hs, gW, gB b hb⟩, g3, g4, g5, g6, g7⟩
theorem dv_sh1 {u : Nat} (b s w : Bool) (hu : u < 2 ^ 27) : (zDv u b s w >>> (1 : Int32)) &&& 1 = zbI s := by
  have ht := zdt_lt b s w
  have e : zDv u b s w >>> (1 : Int32) = nI ((8 * u + zdt b s w) / 2 ^ 1) := pk_shrN (by omega) 1 1 (by decide)
  rw [e, pk_andN (by omega) 1 rfl, show (8 * u + zdt b s w) / 2 ^ 1 % 2 ^ 1 = zdt b s w / 2 % 2 by omega]
  cases b <;> cases s <;> cases w <;> rfl
theorem dv_sh2 {u : Nat} (b s w : Bool) (hu : u < 2 ^ 27) : (zDv u b s w >>> (2 : Int32)) &&& 1 = zbI w := by
  have ht := zdt_lt b s w
  have e : zDv u b s w >>> (2 : Int32) = nI ((8 * u + zdt b s w) / 2 ^ 2) := pk_shrN (by omega) 2 2 (by decide)
  rw [e, pk_andN (by omega) 1 rfl, show (8 * u + zdt b s w) / 2 ^ 2 % 2 ^ 1 = zdt b s w / 4 % 2 by omega]
  cases b <;> cases s <;> cases w <;> rfl
theorem iv_disc {B : Nat} {M : zM} (hB : B < 2 ^ 25) (h : zInv B M) (a c r i : Int32) : ∃ v M2 M3, zd_X7_disc [zR 7 0, zI a, zI c, zI r, zI i] M = zs v M2 ∧ zd_X8_disc [zR 8 0, zI a, zI c, zI r, zI i] M2 = zs v M3 ∧ zLw M M2 ∧ zInv (B + 1) M3 ∧ zLw M M3 := by
  obtain ⟨N, hN, hs, gW, hq, -⟩ := inv_q h
  have bad : ∀ (e : zd_X7_disc [zR 7 0, zI a, zI c, zI r, zI i] M = zs (-1000001) M) (hb : ¬ zCB a c ∨ ¬ (0 ≤ r ∧ r ≤ 4) ∨ ¬ (0 ≤ i ∧ i ≤ 3)), ∃ v M2 M3, zd_X7_disc [zR 7 0, zI a, zI c, zI r, zI i] M = zs v M2 ∧ zd_X8_disc [zR 8 0, zI a, zI c, zI r, zI i] M2 = zs v M3 ∧ zLw M M2 ∧ zInv (B + 1) M3 ∧ zLw M M3 :=
    fun e hb => ⟨_, M, M, e, sp_disc_bad a c r i M hb, fin_r h (zRf.rf M)⟩
  by_cases c0 : zVB a
  · obtain ⟨d, hd, rfl⟩ := zVB_of c0
    have hG := (hq d hd).2.2.2.2
    have head : zd_X7_disc [zR 7 0, zI (nI d), zI c, zI r, zI i] M = if zb ((0 ≤ c ∧ c < nI (zcol d)) ∧ 0 ≤ r ∧ r < 5) = 0 then zev zC_X7_disc 25 ([none, none, some (zI c), some (zI r), some (zI i), some (zR 0 (2 * 0 + d))], [], M) else zev zC_X7_disc 28 ([none, none, some (zI c), some (zI r), some (zI i), some (zR 0 (2 * 0 + d))], [], M) := by
      rw [en_X7_disc, bk_X7_disc_0, zbi (cs_blindAt 0 d hd M), bk_X7_disc_8r, bk_X7_disc_15r, zbi (cp_hasDisc _ _ _ M), hG.1, bk_X7_disc_22r]
    have r4 : (0 ≤ r ∧ r < 5) ↔ (0 ≤ r ∧ r ≤ 4) := by
      rw [i_lt, i_lei, i_lei, show (5 : Int32).toInt = 5 from rfl, show (4 : Int32).toInt = 4 from rfl]
      exact ⟨fun z => ⟨z.1, by omega⟩, fun z => ⟨z.1, by omega⟩⟩
    by_cases c1 : (0 ≤ c ∧ c < nI (zcol d)) ∧ 0 ≤ r ∧ r < 5
    · have hcl := zcol_le d
      obtain ⟨q, hq1, rfl⟩ := z_of (by omega) c1.1
      obtain ⟨j, hj, rfl⟩ := zI_of (n := 4) 4 rfl (r4.mp c1.2)
      rw [if_neg (zne0 c1)] at head
      by_cases c2 : 0 ≤ i ∧ i ≤ 3
      · obtain ⟨t, ht, rfl⟩ := zI_of (n := 3) 3 rfl c2
        refine ⟨zdiA (M.1 29 0 (zat d j q)) (nI t), M, M, ?_, sp_disc d q j (nI t) hd hq1 (by omega) c2 M, fin_r h (zRf.rf M)⟩
        obtain ⟨u, x, s, w, hu, ev⟩ := h.1.2.2.2 d j q hd (by omega) hq1
        obtain ⟨v1, v2, v3⟩ := zfD_dv hq1 (by omega) ev
        rw [head, bk_X7_disc_28r]
        unfold zdiA
        rcases (show t = 0 ∨ t = 1 ∨ t = 2 ∨ t = 3 by omega) with rfl | rfl | rfl | rfl
        · rw [if_pos (show nI 0 = 0 from rfl), if_pos (show nI 0 = 0 from rfl), bk_X7_disc_60r, zbi (cp_at hG.2.2.1 q j (by omega) (by omega)), bk_X7_disc_70r, v1, ev, dv_1 x s w (by omega)]
        · rw [if_neg (show ¬ nI 1 = 0 by decide), if_neg (show ¬ nI 1 = 0 by decide), if_pos (show nI 1 = 1 from rfl), if_pos (show nI 1 = 1 from rfl), bk_X7_disc_71r, zbi (cp_at hG.2.2.2.1 q j (by omega) (by omega)), bk_X7_disc_81r, v2, ev, dv_sh1 x s w (by omega)]
        · rw [if_neg (show ¬ nI 2 = 0 by decide), if_neg (show ¬ nI 2 = 0 by decide), if_neg (show ¬ nI 2 = 1 by decide), if_neg (show ¬ nI 2 = 1 by decide), if_pos (show nI 2 = 2 from rfl), if_pos (show nI 2 = 2 from rfl), bk_X7_disc_82r, zbi (cp_wearAt _ d q j hq1 (by omega) M hG.1), bk_X7_disc_89r, hG.2.2.2.2.2 q j hq1 (by omega)]
        · rw [if_neg (show ¬ nI 3 = 0 by decide), if_neg (show ¬ nI 3 = 0 by decide), if_neg (show ¬ nI 3 = 1 by decide), if_neg (show ¬ nI 3 = 1 by decide), if_neg (show ¬ nI 3 = 2 by decide), if_neg (show ¬ nI 3 = 2 by decide), if_pos (show nI 3 = 3 from rfl), bk_X7_disc_90r, zbi (cp_at hG.2.2.2.2.1 q j (by omega) (by omega)), bk_X7_disc_100r, v3, ev, dv_sh2 x s w (by omega)]
      · refine bad ?_ (Or.inr (Or.inr c2))
        rw [head, bk_X7_disc_28r, if_neg (fun z => c2 (by rw [z]; decide)), if_neg (fun z => c2 (by rw [z]; decide)), if_neg (fun z => c2 (by rw [z]; decide)), if_neg (fun z => c2 (by rw [z]; decide)), bk_X7_disc_101]
    · refine bad ?_ ?_
      · rw [head, if_pos (zb_0.mpr c1), bk_X7_disc_25]
      · by_cases c3 : 0 ≤ c ∧ c < nI (zcol d)
        · exact Or.inr (Or.inl (fun z => c1 ⟨c3, r4.mpr z⟩))
        · exact Or.inl (fun z => c3 ((cb_iff d hd c).mp z))
  · refine bad ?_ (Or.inl (fun z => c0 z.1))
    rw [en_X7_disc, bk_X7_disc_0, zbi (cs_blindAt_n 0 a c0 M), bk_X7_disc_8n, bk_X7_disc_25]
theorem zfi_val {P : Nat × Nat → Nat → Prop} (D : Nat → Nat) (key : Nat → Nat × Nat) (S : Option (Nat × Nat) × Nat) : ∀ n, (∀ q, S.1 = some q → P q S.2) → (∀ k, k < n → P (key k) (D k)) → ∀ q, (zfi D key S n).1 = some q → P q (zfi D key S n).2 := by
  intro n
  induction n with
  | zero => intro hS _ q h; exact hS q h
  | succ n ih =>
    intro hS hk q h
    rw [zfi] at h ⊢
    split at h
    · rename_i c
      rw [if_pos c]
      have e := Option.some.inj h
      rw [← e]
      exact hk n (by omega)
    · rename_i c
      rw [if_neg c]
      exact ih hS (fun k hk' => hk k (by omega)) q h
theorem zfo_val {P : Nat × Nat → Nat → Prop} (D : Nat → Nat → Nat) (key : Nat → Nat → Nat × Nat) (cnt : Nat → Nat) : ∀ n, (∀ w k, w < n → k < cnt w → P (key w k) (D w k)) → ∀ q, (zfo D key cnt n).1 = some q → P q (zfo D key cnt n).2 := by
  intro n
  induction n with
  | zero => intro _ q h; cases h
  | succ n ih =>
    intro hk q h
    rw [zfo] at h ⊢
    exact zfi_val (D n) (key n) (zfo D key cnt n) (cnt n) (ih (fun w k hw hc => hk w k (by omega) hc)) (fun k hc => hk n k (by omega) hc) q h
theorem cq_readOf {M : zM} {b B N : Nat} {σ : Nat → Int32} (h : zQk M 0 (2 * 0 + b) b B σ N) (i : Int32) : zd_X7_readOf [zR 7 0, zR 0 (2 * 0 + b), zI i] M = zs (zrdA (zrdS σ (fun r => zdc σ b r 1) b N) i) M := by
  have hN := h.2.1
  have hv := zfo_val (P := fun q v => q.1 < N ∧ q.2 < zrdc σ b q.1 ∧ v = zap (fun r => zdc σ b r 1) (σ (8 + 2 * q.1)) q.2) (zrdD σ (fun r => zdc σ b r 1)) (fun w k => (w, k)) (zrdc σ b) N (fun w k hw hk => ⟨hw, hk, rfl⟩)
  rw [en_X7_readOf, bk_X7_readOf_0, zbi (cp_readAt h), bk_X7_readOf_11]
  unfold zrdA
  rw [show zfo (zrdD σ (fun r => zdc σ b r 1)) (fun w k => (w, k)) (zrdc σ b) N = zrdS σ (fun r => zdc σ b r 1) b N from rfl] at hv
  revert hv
  generalize zrdS σ (fun r => zdc σ b r 1) b N = S
  intro hv
  obtain ⟨o, v⟩ := S
  cases o with
  | none => rw [if_pos (show zoP none = -1 from rfl), if_pos (Or.inl rfl), bk_X7_readOf_17]; rfl
  | some q =>
    obtain ⟨q1, q2, q3⟩ := hv q rfl
    have hm := VL_m (W_vl h.1 h.2.1 h.2.2.1 q1)
    have q22 : q.2 < 22 := zs_22 q2 hm.1
    have q25 := zs_lt q2
    dsimp only
    rw [show zoP (some q) = nI (22 * q.1 + q.2) from rfl, if_neg (fun z => by have := nI_pos (n := 22 * q.1 + q.2) (by omega); rw [z] at this; exact this (by decide)), bk_X7_readOf_20]
    by_cases c4 : i = 4
    · rw [if_pos c4, if_pos (Or.inr c4), bk_X7_readOf_48, show (22 : Int32) = nI 22 from rfl, pk_div (by omega) (by decide) (by decide), show (22 * q.1 + q.2) / 22 = q.1 by omega]
      rfl
    · rw [if_neg c4, if_neg (show ¬ (some q = none ∨ i = 4) from not_or.mpr ⟨(fun z => by cases z), c4⟩)]
      by_cases c5 : i = 5
      · rw [if_pos c5, if_pos c5, bk_X7_readOf_53, show zrm (nI (22 * q.1 + q.2)) 22 = nI ((22 * q.1 + q.2) % 22) from pk_rem (by omega) (by decide) (by decide), show (22 * q.1 + q.2) % 22 = q.2 by omega]
        rfl
      · have hpic := (h.2.2.2.1.2 q.1 q1).2.2.2 q.2 q22
        have hf := cp_far h.2.2.2.2.2.2.1 hpic
        rw [← zap_c (zRw_disc σ b 1) (σ (8 + 2 * q.1)) q.2 hm.1 q25, ← q3] at hf
        rw [if_neg c5, if_neg c5, bk_X7_readOf_58, if_neg (ix_in (by omega) (by decide)), ix_cl (by omega), bk_X7_readOf_74, if_neg (ix_in (by omega) (by decide)), ix_cl (by omega), bk_X7_readOf_86, zbi hf, bk_X7_readOf_89]
theorem iv_blindOf {B : Nat} {M : zM} (h : zInv B M) (a i : Int32) : ∃ v M2 M3, zd_X7_blindOf [zR 7 0, zI a, zI i] M = zs v M2 ∧ zd_X8_blindOf [zR 8 0, zI a, zI i] M2 = zs v M3 ∧ zLw M M2 ∧ zInv (B + 1) M3 ∧ zLw M M3 := by
  obtain ⟨N, hN, hs, gW, hq, g3, -⟩ := inv_q h
  by_cases c0 : zVB a
  · obtain ⟨b, hb, rfl⟩ := zVB_of c0
    have hQ := hq b hb
    have hG := hQ.2.2.2.2
    have head : zd_X7_blindOf [zR 7 0, zI (nI b), zI i] M = zev zC_X7_blindOf 16 ([some (zR 7 0), some (zI (nI b)), some (zI i), some (zR 0 (2 * 0 + b))], [], M) := by
      rw [en_X7_blindOf, bk_X7_blindOf_0, zbi (cs_blindAt 0 b hb M), bk_X7_blindOf_8r]
    by_cases c2 : 0 ≤ i ∧ i ≤ 8
    · obtain ⟨M3, e3, r3⟩ := sp_blindOf b N i hb hN c2 M hs
      refine ⟨_, M, M3, ?_, e3, fin_r h r3⟩
      rw [h.2.2.1, head, bk_X7_blindOf_16r]
      unfold zbdA
      by_cases k0 : i = 0
      · rw [if_pos k0, if_pos k0, bk_X7_blindOf_68r, zbi (cp_size hG.2.2.1), bk_X7_blindOf_75r, hv_q]
      rw [if_neg k0, if_neg k0]
      by_cases k1 : i = 1
      · rw [if_pos k1, if_pos k1, bk_X7_blindOf_76r, zbi (cp_size hG.2.2.2.1), bk_X7_blindOf_83r, hv_q]
      rw [if_neg k1, if_neg k1]
      by_cases k2 : i = 2
      · rw [if_pos k2, if_pos k2, bk_X7_blindOf_84r, zbi (cp_far hG.2.2.1 hG.2.2.2.2.1), bk_X7_blindOf_105r]
        refine congrArg (fun z => zs (nI z) M) ?_
        unfold zul
        exact ((zRw_disc (M.1 29 0) b 1).xor (zRw_disc (M.1 29 0) b 4)).q.symm
      rw [if_neg k2, if_neg k2]
      by_cases k3 : i = 3
      · rw [if_pos k3, if_pos k3, bk_X7_blindOf_106r, hG.2.1]
      rw [if_neg k3, if_neg k3]
      by_cases k4 : i = 4
      · rw [if_pos k4, if_pos (Or.inl k4), bk_X7_blindOf_111r, zbi (cq_readOf hQ i), bk_X7_blindOf_117r]
      rw [if_neg k4]
      by_cases k5 : i = 5
      · rw [if_pos k5, if_pos (Or.inr (Or.inl k5)), bk_X7_blindOf_111r, zbi (cq_readOf hQ i), bk_X7_blindOf_117r]
      rw [if_neg k5]
      by_cases k6 : i = 6
      · rw [if_pos k6, if_pos (Or.inr (Or.inr k6)), bk_X7_blindOf_111r, zbi (cq_readOf hQ i), bk_X7_blindOf_117r]
      rw [if_neg k6, if_neg (show ¬ (i = 4 ∨ i = 5 ∨ i = 6) from not_or.mpr ⟨k4, not_or.mpr ⟨k5, k6⟩⟩)]
      by_cases k7 : i = 7
      · rw [if_pos k7, if_pos k7, bk_X7_blindOf_118r, zbi (cs_toshow hQ g3), bk_X7_blindOf_126r]
      rw [if_neg k7, if_neg k7]
      have k8 : i = 8 := by
        obtain ⟨t, ht, rfl⟩ := zI_of (n := 8) 8 rfl c2
        have n0 : t ≠ 0 := fun z => k0 (by rw [z]; rfl)
        have n1 : t ≠ 1 := fun z => k1 (by rw [z]; rfl)
        have n2 : t ≠ 2 := fun z => k2 (by rw [z]; rfl)
        have n3 : t ≠ 3 := fun z => k3 (by rw [z]; rfl)
        have n4 : t ≠ 4 := fun z => k4 (by rw [z]; rfl)
        have n5 : t ≠ 5 := fun z => k5 (by rw [z]; rfl)
        have n6 : t ≠ 6 := fun z => k6 (by rw [z]; rfl)
        have n7 : t ≠ 7 := fun z => k7 (by rw [z]; rfl)
        have : t = 8 := by omega
        rw [this]; rfl
      rw [if_pos k8, bk_X7_blindOf_127r, hG.1]
    · refine ⟨-1000001, M, M, ?_, sp_blindOf_bad _ i M (Or.inr c2), fin_r h (zRf.rf M)⟩
      rw [head, bk_X7_blindOf_16r]
      iterate 9 rw [if_neg (fun z => c2 (by rw [z]; decide))]
      rw [bk_X7_blindOf_132]
  · refine ⟨-1000001, M, M, ?_, sp_blindOf_bad a i M (Or.inl c0), fin_r h (zRf.rf M)⟩
    rw [en_X7_blindOf, bk_X7_blindOf_0, zbi (cs_blindAt_n 0 a c0 M), bk_X7_blindOf_8n, bk_X7_blindOf_13]
theorem iv_wordOf {B : Nat} {M : zM} (h : zInv B M) (w i : Int32) : ∃ v M2 M3, zd_X7_wordOf [zR 7 0, zI w, zI i] M = zs v M2 ∧ zd_X8_wordOf [zR 8 0, zI w, zI i] M2 = zs v M3 ∧ zLw M M2 ∧ zInv (B + 1) M3 ∧ zLw M M3 := by
  obtain ⟨N, hN, hs, gW, hq, g3, -⟩ := inv_q h
  have head : zd_X7_wordOf [zR 7 0, zI w, zI i] M = if zb (0 ≤ w ∧ w < nI N) = 0 then zev zC_X7_wordOf 16 ([some (zR 7 0), some (zI w), some (zI i), some (zR 6 0)], [], M) else zev zC_X7_wordOf 19 ([some (zR 7 0), some (zI w), some (zI i), some (zR 6 0)], [], M) := by
    rw [en_X7_wordOf, bk_X7_wordOf_0, zbi (cp_has 0 w M), gW.1, bk_X7_wordOf_13]
  by_cases c1 : 0 ≤ w ∧ w < nI N
  · rw [if_neg (zne0 c1)] at head
    obtain ⟨v, hv, rfl⟩ := z_of (by omega) c1
    have hvl := W_vl h.1 hN hs hv
    have hm := VL_m hvl
    obtain ⟨a1, a2, a3, -⟩ := gW.2 v hv
    by_cases c2 : 0 ≤ i ∧ i ≤ 4
    · refine ⟨_, M, M, ?_, sp_wordOf v N i hN hv c2 M hs, fin_r h (zRf.rf M)⟩
      rw [head, bk_X7_wordOf_19]
      unfold zwoA
      by_cases k0 : i = 0
      · rw [if_pos k0, if_pos k0, bk_X7_wordOf_56, if_neg (ix_in (by omega) (by decide)), ix_cl (by omega), bk_X7_wordOf_62, a1]
      rw [if_neg k0, if_neg k0]
      by_cases k1 : i = 1
      · rw [if_pos k1, if_pos k1, bk_X7_wordOf_63, if_neg (ix_in (by omega) (by decide)), ix_cl (by omega), bk_X7_wordOf_69, a1, zbi (cp_lettersIn hvl M), bk_X7_wordOf_72]
      rw [if_neg k1, if_neg k1]
      by_cases k2 : i = 2
      · rw [if_pos k2, if_pos k2, bk_X7_wordOf_73, if_neg (ix_in (by omega) (by decide)), ix_cl (by omega), bk_X7_wordOf_79, a2, show (4 : Int32) = nI 4 from rfl, pk_mul, show (1 : Int32) = nI 1 from rfl, pk_sub (by omega)]
      rw [if_neg k2, if_neg k2]
      by_cases k3 : i = 3
      · rw [if_pos k3, if_pos k3, bk_X7_wordOf_80, zbi (cp_dotsOf h.1 hN hs gW hv), bk_X7_wordOf_85]
      rw [if_neg k3, if_neg k3]
      have k4 : i = 4 := by
        obtain ⟨t, ht, rfl⟩ := zI_of (n := 4) 4 rfl c2
        have n0 : t ≠ 0 := fun z => k0 (by rw [z]; rfl)
        have n1 : t ≠ 1 := fun z => k1 (by rw [z]; rfl)
        have n2 : t ≠ 2 := fun z => k2 (by rw [z]; rfl)
        have n3 : t ≠ 3 := fun z => k3 (by rw [z]; rfl)
        have : t = 4 := by omega
        rw [this]; rfl
      rw [if_pos k4, bk_X7_wordOf_86, if_neg (ix_in (by omega) (by decide)), ix_cl (by omega), bk_X7_wordOf_92, a3]
    · refine ⟨-1000001, M, M, ?_, sp_wordOf_bad _ i M (Or.inr c2), fin_r h (zRf.rf M)⟩
      rw [head, bk_X7_wordOf_19]
      iterate 5 rw [if_neg (fun z => c2 (by rw [z]; decide))]
      rw [bk_X7_wordOf_93]
  · rw [if_pos (zb_0.mpr c1)] at head
    exact ⟨-1000001, M, M, by rw [head, bk_X7_wordOf_16], sp_wordOf_bad w i M (Or.inl (fun z => c1 ⟨z.1, by rw [← hs]; exact z.2⟩)), fin_r h (zRf.rf M)⟩
theorem iv_count {B : Nat} {M : zM} (h : zInv B M) (i : Int32) : ∃ v M2 M3, zd_X7_count [zR 7 0, zI i] M = zs v M2 ∧ zd_X8_count [zR 8 0, zI i] M2 = zs v M3 ∧ zLw M M2 ∧ zInv (B + 1) M3 ∧ zLw M M3 := by
  obtain ⟨N, hN, hs, gW, hq, g3, g4, g5, g6, g7⟩ := inv_q h
  obtain ⟨-, -, -, -, ⟨n, h6, hT⟩, p, h3, hC, -⟩ := id h
  obtain ⟨-, -, -, ad, hH, -⟩ := hC
  refine ⟨_, M, M, ?_, sp_count i M, fin_r h (zRf.rf M)⟩
  rw [en_X7_count, bk_X7_count_0]
  unfold zcoA
  by_cases k0 : i = 0
  · rw [if_pos k0, if_pos k0, bk_X7_count_104, gW.1, hs]
  rw [if_neg k0, if_neg k0]
  by_cases k1 : i = 1
  · rw [if_pos k1, if_pos k1, bk_X7_count_115]
    have b0 := (hq 0 (by omega)).2.2.2.2.2.1
    have b1 := (hq 1 (by omega)).2.2.2.2.2.1
    rw [show 2 * 0 + 0 = 2 * 0 from rfl] at b0
    rw [b0, b1]
  rw [if_neg k1, if_neg k1]
  by_cases k2 : i = 2
  · rw [if_pos k2, if_pos k2, bk_X7_count_137, g5]
  rw [if_neg k2, if_neg k2]
  by_cases k3 : i = 3
  · rw [if_pos k3, if_pos k3, bk_X7_count_145, g6]
  rw [if_neg k3, if_neg k3]
  by_cases k4 : i = 4
  · rw [if_pos k4, if_pos k4, bk_X7_count_153, g7]
  rw [if_neg k4, if_neg k4]
  by_cases k5 : i = 5
  · rw [if_pos k5, if_pos k5, bk_X7_count_161, hH.1, h3]
  rw [if_neg k5, if_neg k5]
  by_cases k6 : i = 6
  · rw [if_pos k6, if_pos k6, bk_X7_count_169, hT.2.1, h6]
  rw [if_neg k6, if_neg k6]
  by_cases k20 : i = 20
  · rw [if_pos k20]
    iterate 13 rw [if_neg (by rw [k20]; decide)]
    rw [if_pos k20, bk_X7_count_177, g3]
  rw [if_neg k20]
  by_cases k21 : i = 21
  · rw [if_pos k21]
    iterate 13 rw [if_neg (by rw [k21]; decide)]
    rw [if_neg k20, if_pos k21, bk_X7_count_185, g4]
  rw [if_neg k21]
  have e193 : zev zC_X7_count 193 ([some (zR 7 0), some (zI i)], [], M) = zs (-1000001) M := bk_X7_count_193 _ _ _
  rw [if_neg k20, if_neg k21]
  simp only [e193, ite_self]
