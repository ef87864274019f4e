-- ===== both sides: margin, would, closest, bestRepair =====
theorem cp_stands {M : zM} {k N b B : Nat} {σ : Nat → Int32} (w s : Int32) (hW : zW B σ) (hN : N ≤ 10) (hs : σ 0 = nI N) (hG : zGW M k σ N) : ∃ v, zd_X6_stands [zR 6 k, zI w, zI s, zI (nI (zcol b))] M = zs v M ∧ (v = 0 ↔ ¬ ∃ x t, x < N ∧ t < zrdc σ b x ∧ w = nI x ∧ s = nI t) := by
  rw [en_X6_stands, bk_X6_stands_0]
  by_cases c1 : s < 0
  · refine ⟨0, by rw [if_pos c1, bk_X6_stands_18, bk_X6_stands_19, if_pos (Or.inl rfl)], fun _ => ?_, fun _ => rfl⟩
    rintro ⟨x, t, hx, ht, rfl, rfl⟩
    have : zrdc σ b x ≤ 26 := zshf_le _ _
    exact nI_pos (by omega) c1
  · rw [if_neg c1, bk_X6_stands_4]
    obtain ⟨t, ht, rfl⟩ := nI_of c1
    by_cases c2 : 0 ≤ w ∧ w < nI N
    · obtain ⟨x, hx, rfl⟩ := z_of (by omega) c2
      have hz : zrdc σ b x ≤ 26 := zshf_le _ _
      rw [zbi (cp_shiftsOn hW hN hs hG hx), bk_X6_stands_11]
      by_cases c3 : t < zrdc σ b x
      · exact ⟨1, by rw [if_neg (nI_ge (show t < zshf (mny (σ (8 + 2 * x))) b from c3) (show zshf (mny (σ (8 + 2 * x))) b < 2 ^ 31 from Nat.lt_of_le_of_lt hz (by decide))), bk_X6_stands_14, bk_X6_stands_19, if_pos (Or.inr rfl)], fun z => absurd z (by decide), fun z => absurd ⟨x, t, hx, c3, rfl, rfl⟩ z⟩
      · refine ⟨0, by rw [if_pos (nI_le (show zshf (mny (σ (8 + 2 * x))) b ≤ t from Nat.le_of_not_lt c3) ht), bk_X6_stands_18, bk_X6_stands_19, if_pos (Or.inl rfl)], fun _ => ?_, fun _ => rfl⟩
        rintro ⟨x', t', hx', ht', e1, e2⟩
        have e3 : x = x' := (nI_eq (by omega) (by omega)).mp e1
        subst e3
        have e4 : t = t' := (nI_eq ht (by omega)).mp e2
        omega
    · rw [zbi (cp_shiftsOn_bad k w _ M (by rw [hG.1]; exact c2)), bk_X6_stands_11]
      refine ⟨0, by rw [if_pos (nI_pos' ht), bk_X6_stands_18, bk_X6_stands_19, if_pos (Or.inl rfl)], fun _ => ?_, fun _ => rfl⟩
      rintro ⟨x', t', hx', ht', rfl, e2⟩
      exact c2 ⟨nI_pos' (by omega), nI_lt hx' (by omega)⟩
theorem iv_margin {B : Nat} {M : zM} (h : zInv B M) (w a s : Int32) : ∃ v M2 M3, zd_X7_margin [zR 7 0, zI w, zI a, zI s] M = zs v M2 ∧ zd_X8_margin [zR 8 0, zI w, zI a, zI s] M2 = zs v M3 ∧ zLw M M2 ∧ zInv (B + 1) M3 ∧ zLw M M3 := by
  obtain ⟨N, hN, hs, gW, hq, g3, -⟩ := inv_q h
  by_cases c0 : zVB a
  · obtain ⟨b, hb, rfl⟩ := zVB_of c0
    have hQ := hq b hb
    obtain ⟨v, e1, e2⟩ := cp_stands (b := b) w s h.1 hN hs gW
    have head : zd_X7_margin [zR 7 0, zI w, zI (nI b), zI s] M = if v = 0 then zev zC_X7_margin 35 ([some (zR 7 0), some (zI w), none, some (zI s), some (zR 0 (2 * 0 + b))], [], M) else zev zC_X7_margin 38 ([some (zR 7 0), some (zI w), none, some (zI s), some (zR 0 (2 * 0 + b))], [], M) := by
      rw [en_X7_margin, bk_X7_margin_0, zbi (cs_blindAt 0 b hb M), bk_X7_margin_8r, bk_X7_margin_15r, hQ.2.2.2.2.1, zbi e1, bk_X7_margin_32r]
    by_cases c1 : v = 0
    · have hno := e2.mp c1
      have e0 : zd_X7_margin [zR 7 0, zI w, zI (nI b), zI s] M = zs (-1000001) M := by rw [head, if_pos c1, bk_X7_margin_35]
      refine ⟨-1000001, M, M, e0, ?_, fin_r h (zRf.rf M)⟩
      by_cases c2 : zVW M w
      · obtain ⟨x, hx, rfl⟩ := z_of (n := N) (by omega) ⟨c2.1, by rw [← hs]; exact c2.2⟩
        refine sp_margin_out2 x b N s hb hN hx M hs ?_
        by_cases c3 : s < 0
        · exact Or.inl c3
        · obtain ⟨t, ht, rfl⟩ := nI_of c3
          refine Or.inr (nI_le ?_ ht)
          refine Nat.le_of_not_lt (fun z => hno ⟨x, t, hx, z, rfl, rfl⟩)
      · exact sp_margin_bad w _ s M (Or.inl c2)
    · have hex : ∃ x t, x < N ∧ t < zrdc (M.1 29 0) b x ∧ w = nI x ∧ s = nI t := Classical.byContradiction (fun z => c1 (e2.mpr z))
      obtain ⟨x, t, hx, ht, rfl, rfl⟩ := hex
      obtain ⟨M3, e3, r3⟩ := sp_margin x b t N hb hN hx M hs ht
      refine ⟨_, M, M3, ?_, e3, fin_r h r3⟩
      rw [h.2.2.1, head, if_neg c1, bk_X7_margin_38r, zbi (cp_marginAt (Or.inl ⟨rfl, rfl⟩) h.1 hN hs gW hQ.2.2.2.2 hx ht), bk_X7_margin_53r]
  · refine ⟨-1000001, M, M, ?_, sp_margin_bad w a s M (Or.inr c0), fin_r h (zRf.rf M)⟩
    rw [en_X7_margin, bk_X7_margin_0, zbi (cs_blindAt_n 0 a c0 M), bk_X7_margin_8n, bk_X7_margin_35]
theorem iv_closest {B : Nat} {M : zM} (h : zInv B M) (a i : Int32) : ∃ v M2 M3, zd_X7_closest [zR 7 0, zI a, zI i] M = zs v M2 ∧ zd_X8_closest [zR 8 0, zI a, zI i] M2 = zs v M3 ∧ zLw M M2 ∧ zInv (B + 1) M3 ∧ zLw M M3 := by
  obtain ⟨N, hN, hs, gW, hq, g3, -⟩ := inv_q h
  by_cases c0 : zVB a
  · obtain ⟨b, hb, rfl⟩ := zVB_of c0
    have hQ := hq b hb
    by_cases c2 : 0 ≤ i ∧ i ≤ 2
    · obtain ⟨M3, e3, r3⟩ := sp_closest b N i hb c2 hN M hs
      refine ⟨_, M, M3, ?_, e3, fin_r h r3⟩
      have hv := zfo_val (P := fun q v => q.1 < N ∧ q.2 < N ∧ v = zbtw (M.1 29 0) q.1 q.2 b) (fun w j => zbtw (M.1 29 0) w (w + 1 + j) b) (fun w j => (w, w + 1 + j)) (fun w => N - (w + 1)) N (fun w k hw hk => ⟨hw, by dsimp only; omega, rfl⟩)
      rw [show zfo (fun w j => zbtw (M.1 29 0) w (w + 1 + j) b) (fun w j => (w, w + 1 + j)) (fun w => N - (w + 1)) N = zclS (M.1 29 0) b N N from rfl] at hv
      rw [en_X7_closest, bk_X7_closest_0, zbi (cs_blindAt 0 b hb M), bk_X7_closest_8r, bk_X7_closest_13r, if_neg (i_le.mp c2.1), bk_X7_closest_17r, if_pos c2.2, bk_X7_closest_25r, hQ.2.2.2.2.1, zbi (cp_closestPair hQ), bk_X7_closest_39r]
      unfold zclA
      revert hv
      generalize zclS (M.1 29 0) b N N = S
      intro hv
      obtain ⟨o, v⟩ := S
      cases o with
      | none => rw [if_pos (show zoQ none = -1 from rfl), if_pos (Or.inl rfl), bk_X7_closest_47]; rfl
      | some q =>
        obtain ⟨q1, q2, q3⟩ := hv q rfl
        dsimp only
        rw [show zoQ (some q) = nI (10 * q.1 + q.2) from rfl, if_neg (fun z => by have := nI_pos (n := 10 * q.1 + q.2) (by omega); rw [z] at this; exact this (by decide)), bk_X7_closest_50r, show (10 : Int32) = nI 10 from rfl, pk_div (by omega) (by decide) (by decide), show (10 * q.1 + q.2) / 10 = q.1 by omega, show zrm (nI (10 * q.1 + q.2)) (nI 10) = nI ((10 * q.1 + q.2) % 10) from pk_rem (by omega) (by decide) (by decide), show (10 * q.1 + q.2) % 10 = q.2 by omega]
        by_cases c3 : i = 0
        · rw [if_pos c3, if_pos (Or.inr c3), bk_X7_closest_92]; rfl
        · rw [if_neg c3, if_neg (show ¬ (some q = none ∨ i = 0) from not_or.mpr ⟨(fun z => by cases z), c3⟩)]
          by_cases c4 : i = 1
          · rw [if_pos c4, if_pos c4, bk_X7_closest_95]; rfl
          · rw [if_neg c4, if_neg c4, bk_X7_closest_98r, hQ.2.2.2.2.1, zbi (cp_pairFar hQ q1 q2), bk_X7_closest_116r]
            dsimp only at q3
            rw [q3]
    · refine ⟨-1000001, M, M, ?_, sp_closest_bad _ i M (fun z => c2 z.2), fin_r h (zRf.rf M)⟩
      rw [en_X7_closest, bk_X7_closest_0, zbi (cs_blindAt 0 b hb M), bk_X7_closest_8r, bk_X7_closest_13r]
      by_cases c3 : i < 0
      · rw [if_pos c3, bk_X7_closest_22]
      · rw [if_neg c3, bk_X7_closest_17r, if_neg (fun z => c2 ⟨i_le.mpr c3, z⟩), bk_X7_closest_22]
  · refine ⟨-1000001, M, M, ?_, sp_closest_bad a i M (fun z => c0 z.1), fin_r h (zRf.rf M)⟩
    rw [en_X7_closest, bk_X7_closest_0, zbi (cs_blindAt_n 0 a c0 M), bk_X7_closest_8n, bk_X7_closest_22]
theorem iv_bestRepair {B : Nat} {M : zM} (h : zInv B M) (w a i : Int32) : ∃ v M2 M3, zd_X7_bestRepair [zR 7 0, zI w, zI a, zI i] M = zs v M2 ∧ zd_X8_bestRepair [zR 8 0, zI w, zI a, zI i] M2 = zs v M3 ∧ zLw M M2 ∧ zInv (B + 1) M3 ∧ zLw M M3 := by
  obtain ⟨N, hN, hs, gW, hq, g3, -⟩ := inv_q h
  by_cases c0 : zVB a
  · obtain ⟨b, hb, rfl⟩ := zVB_of c0
    have hQ := hq b hb
    have head : zd_X7_bestRepair [zR 7 0, zI w, zI (nI b), zI i] M = if zb (0 ≤ w ∧ w < nI N) = 0 then zev zC_X7_bestRepair 38 ([some (zR 7 0), some (zI w), none, some (zI i), some (zR 0 (2 * 0 + b)), none], [], M) else zev zC_X7_bestRepair 29 ([some (zR 7 0), some (zI w), none, some (zI i), some (zR 0 (2 * 0 + b)), none], [], M) := by
      rw [en_X7_bestRepair, bk_X7_bestRepair_0, zbi (cs_blindAt 0 b hb M), bk_X7_bestRepair_8r, bk_X7_bestRepair_15r, zbi (cp_has 0 w M), gW.1, bk_X7_bestRepair_26r]
    by_cases c1 : 0 ≤ w ∧ w < nI N
    · rw [if_neg (zne0 c1), bk_X7_bestRepair_29r] at head
      obtain ⟨x, hx, rfl⟩ := z_of (by omega) c1
      by_cases c2 : 0 ≤ i ∧ i ≤ 1
      · obtain ⟨M3, e3, r3⟩ := sp_bestRepair x b N i hb hN hx c2 M hs h.2.2.1
        refine ⟨_, M, M3, ?_, e3, fin_r h r3⟩
        have hz := zshf_le (mny (M.1 29 0 (8 + 2 * x))) b
        rw [head, if_neg (i_le.mp c2.1), bk_X7_bestRepair_33r, if_pos c2.2, bk_X7_bestRepair_41r, hQ.2.2.2.2.1, zbi (cp_shiftsOn h.1 hN hs gW hx), bk_X7_bestRepair_57r]
        by_cases c3 : zshf (mny (M.1 29 0 (8 + 2 * x))) b = 0
        · rw [c3, if_pos (show nI 0 = 0 from rfl), if_pos rfl, bk_X7_bestRepair_60]
        · have hpos : 0 < zshf (mny (M.1 29 0 (8 + 2 * x))) b := Nat.pos_of_ne_zero c3
          rw [if_neg (nI_ne0 hpos (by omega)), if_neg c3, bk_X7_bestRepair_63r, zbi (cp_bestColumn hQ hx hpos), bk_X7_bestRepair_76r]
          unfold zbrA
          by_cases c4 : i = 0
          · rw [if_pos c4, if_pos c4, bk_X7_bestRepair_82]
          · have hcg := zcol_ge b
            have hcl := zcol_le b
            obtain ⟨j, j1, j2, j3⟩ := zbr'_max (fun c => zbst (M.1 29 0) (nI c) x b) (fun c => by
              obtain ⟨s, s1, s2, s3, -⟩ := bst_some (M.1 29 0) (nI c) x b hpos
              exact ⟨(by rw [s2]; exact fun z => (by cases z)), by rw [s3]; exact (zmar_gt _ _ _ _ _).1⟩) (zcol b) (by omega)
            rw [if_neg c4, if_neg c4, bk_X7_bestRepair_85r, j2, zbi (cp_greatestMargin (Or.inr ⟨j, by omega, rfl, rfl⟩) hQ hx hpos), bk_X7_bestRepair_100r, j3]
      · refine ⟨-1000001, M, M, ?_, sp_bestRepair_bad _ _ i M (Or.inr (Or.inr c2)), fin_r h (zRf.rf M)⟩
        rw [head]
        by_cases c3 : i < 0
        · rw [if_pos c3, bk_X7_bestRepair_38]
        · rw [if_neg c3, bk_X7_bestRepair_33r, if_neg (fun z => c2 ⟨i_le.mpr c3, z⟩), bk_X7_bestRepair_38]
    · rw [if_pos (zb_0.mpr c1), bk_X7_bestRepair_38] at head
      exact ⟨-1000001, M, M, head, sp_bestRepair_bad w _ i M (Or.inl (fun z => c1 ⟨z.1, by rw [← hs]; exact z.2⟩)), fin_r h (zRf.rf M)⟩
  · refine ⟨-1000001, M, M, ?_, sp_bestRepair_bad w a i M (Or.inr (Or.inl c0)), fin_r h (zRf.rf M)⟩
    rw [en_X7_bestRepair, bk_X7_bestRepair_0, zbi (cs_blindAt_n 0 a c0 M), bk_X7_bestRepair_8n, bk_X7_bestRepair_38]
theorem zul_wa {B b : Nat} {σ τ : Nat → Int32} {F g : Nat → Nat → Bool} (hb : b < 2) (hB : B < 2 ^ 25) (h : zW B σ) (hg : zIn g F b) (t : zWA σ b F 5 0 τ) : zul τ b = zc2 (fun c r => (zfD σ b 1 c r ^^ g c r) && zfD σ b 2 c r) := by
  unfold zul
  rw [((zRw_disc τ b 1).xor (zRw_disc τ b 4)).q]
  refine zc2_congr (fun c r hc hr => ?_)
  by_cases hcl : c < zcol b
  · obtain ⟨w1, -, w3, -⟩ := wa_bits hb hB h t c r hcl hr
    rw [w1, w3, (hg c r hr).1 hcl]
    cases zfD σ b 1 c r <;> cases zfD σ b 2 c r <;> cases F r c <;> rfl
  · rw [zfD_out τ b 1 c r hcl, zfD_out τ b 4 c r hcl, zfD_out σ b 1 c r hcl, (hg c r hr).2 hcl]; rfl
theorem zJs.cs {M M' : zM} {b : Nat} {L R : Int64} {σ : Nat → Int32} {p : Nat} {P : Nat → Nat → Int32} (hb : b < 2) (h : zJs M M' (4 * (2 * 0 + b) + 3) L R) (hC : zCS M σ p P) : zCS M' σ p P := by
  obtain ⟨c1, ⟨N, hN, hs, gW, gB, g3, g4, g5, g6, g7⟩, c3, ad, ⟨c4, c5, c6, c7⟩, c8⟩ := hC
  have hi := h.1
  have hr := h.2.1
  refine ⟨c1, ⟨N, hN, hs, gW.mv hN (by rw [hi]) (fun j _ => by rw [hi]; exact ⟨rfl, rfl, rfl⟩) (fun j _ => by rw [h.2.2.1 23 _ (by omega), h.2.2.1 24 _ (by omega)]; exact ⟨rfl, rfl⟩), fun b' hb' => (gB b' hb').mv (by rw [hi]; exact (gB b' hb').1) (by rw [hi]) (fun i hi' => by rw [h.2.2.1 1 _ (by omega)]; exact ⟨rfl, rfl⟩) (fun j _ => by rw [hi]), by rw [hi]; exact g3, by rw [hi]; exact g4, by rw [hi]; exact g5, by rw [hi]; exact g6, by rw [hi]; exact g7⟩, fun k hk b' hb' => by rw [hi]; exact c3 k hk b' hb', ad, ⟨by rw [hi]; exact c4, fun i hi' => by rw [hr]; exact c5 i hi', c6, c7⟩, fun i hi' => (c8 i hi').fr (fun c m _ => by rw [hi]) (fun c m z => h.2.2.1 c m (by have := c6 i (by omega); unfold zOj at z; omega))⟩
theorem iv_would {B : Nat} {M : zM} (hB : B < 2 ^ 25) (h : zInv B M) (w a i : Int32) : ∃ v M2 M3, zd_X7_would [zR 7 0, zI w, zI a, zI i] M = zs v M2 ∧ zd_X8_would [zR 8 0, zI w, zI a, zI i] M2 = zs v M3 ∧ zLw M M2 ∧ zInv (B + 1) M3 ∧ zLw M M3 := by
  obtain ⟨N, hN, hs, gW, hq, g3, g4, -⟩ := inv_q h
  by_cases c0 : zVB a
  · obtain ⟨b, hb, rfl⟩ := zVB_of c0
    have hQ := hq b hb
    have hG := hQ.2.2.2.2
    have head : zd_X7_would [zR 7 0, zI w, zI (nI b), zI i] M = if zb (0 ≤ w ∧ w < nI N) = 0 then zev zC_X7_would 38 ([some (zR 7 0), some (zI w), none, some (zI i), some (zR 0 (2 * 0 + b)), none, none, none, none, none, none], [], M) else zev zC_X7_would 29 ([some (zR 7 0), some (zI w), none, some (zI i), some (zR 0 (2 * 0 + b)), none, none, none, none, none, none], [], M) := by
      rw [en_X7_would, bk_X7_would_0, zbi (cs_blindAt 0 b hb M), bk_X7_would_8r, bk_X7_would_15r, zbi (cp_has 0 w M), gW.1, bk_X7_would_26r]
    by_cases c1 : 0 ≤ w ∧ w < nI N
    · rw [if_neg (zne0 c1), bk_X7_would_29r] at head
      obtain ⟨x, hx, rfl⟩ := z_of (by omega) c1
      have hvl := W_vl h.1 hN hs hx
      have hm := VL_m hvl
      by_cases c2 : 0 ≤ i ∧ i ≤ 4
      · have hcs := can_some h.1 zNF x b
        rw [if_neg (i_le.mp c2.1), bk_X7_would_33r, if_pos c2.2, bk_X7_would_41r, g3, zbi (cp_bestShift (Or.inl ⟨rfl, rfl⟩) hQ hx _), bk_X7_would_62r] at head
        by_cases c3 : zcan (M.1 29 0) zNF x b
        · obtain ⟨s, hsm⟩ := Option.ne_none_iff_exists'.mp c3.1
          have hsl := zbst_lt _ _ _ _ _ hsm
          have h22 := zs_22 hsl hm.1
          have hpic := (gW.2 x hx).2.2.2 s h22
          have hin := zIn_pic (b := b) hvl hsl
          rw [hcs.1 c3, hsm, show zoC (some s) = nI s from rfl, if_neg (fun z => by have := nI_pos (n := s) (by omega); rw [z] at this; exact this (by decide)), bk_X7_would_73r, zbi (cp_placeOf x s M), bk_X7_would_79r, if_neg (ix_in (by omega) (by decide)), ix_cl (by omega), bk_X7_would_94r, if_neg (ix_in (by omega) (by decide)), ix_cl (by omega), bk_X7_would_109r] at head
          -- the reference on this memory, for what is wanted
          obtain ⟨Mx, τ0, -, -, t0⟩ := sp_would x b s N i hb hN hx c2 M hs (by rw [h.2.2.1]; exact c3) (by rw [h.2.2.1]; exact hsm)
          obtain ⟨u0, -, hu0⟩ : ∃ l, 2 ≤ l ∧ l ≤ 99 ∧ (M.1 29 0) 7 = nI l := h.1.2.2.1
          have goal : ∀ (v : Int32) (M2 : zM), zd_X7_would [zR 7 0, zI (nI x), zI (nI b), zI i] M = zs v M2 → zFC M M2 → (∀ p, zCS M (M.1 29 0) p (zSl M) → zCS M2 (M.1 29 0) p (zSl M)) → v = zwuA (M.1 29 0) τ0 (zbst (M.1 29 0) zNF x b).2 b s (zwb (M.1 29 0 (8 + 2 * x)) s) i → ∃ v M2 M3, zd_X7_would [zR 7 0, zI (nI x), zI (nI b), zI i] M = zs v M2 ∧ zd_X8_would [zR 8 0, zI (nI x), zI (nI b), zI i] M2 = zs v M3 ∧ zLw M M2 ∧ zInv (B + 1) M3 ∧ zLw M M3 := by
            intro v M2 e2 fc hcs2 hv
            have x29 : M2.1 29 0 = M.1 29 0 := fc 29 0 (by omega)
            have x8 : M2.1 8 0 = M.1 8 0 := fc 8 0 (by omega)
            obtain ⟨M3, τ, e3, r3, t3⟩ := sp_would x b s N i hb hN hx c2 M2 (by rw [x29]; exact hs) (by rw [x29, x8, h.2.2.1]; exact c3) (by rw [x29, x8, h.2.2.1]; exact hsm)
            rw [x29, x8, h.2.2.1] at e3
            rw [x29] at t3
            have ez : zwuA (M.1 29 0) τ (zbst (M.1 29 0) zNF x b).2 b s (zwb (M.1 29 0 (8 + 2 * x)) s) i = v := by
              rw [hv]
              unfold zwuA
              rw [zul_wa hb hB h.1 hin t3, zul_wa hb hB h.1 hin t0]
            rw [ez] at e3
            exact ⟨v, M2, M3, e2, e3, fin_q h fc hcs2 r3⟩
          by_cases k0 : i = 0
          · rw [if_pos k0, bk_X7_would_144] at head
            exact goal _ M head (zFC.rf M) (fun _ c => c) (by unfold zwuA; rw [if_pos k0])
          rw [if_neg k0] at head
          by_cases k1 : i = 1
          · rw [if_pos k1, bk_X7_would_147r, zbi (cp_marginAt (Or.inl ⟨rfl, rfl⟩) h.1 hN hs gW hG hx hsl), bk_X7_would_163r] at head
            exact goal _ M head (zFC.rf M) (fun _ c => c) (by unfold zwuA; rw [if_neg k0, if_pos k1]; exact ((zbf_some _ _ _ s hsm).1).symm)
          rw [if_neg k1] at head
          by_cases k2 : i = 2
          · obtain ⟨M2, L2, R2, e2, j2⟩ := cp_flipsFor hb hB h.1 hG hpic hin t0 0
            rw [if_pos k2, bk_X7_would_164r, zbi e2, bk_X7_would_174r] at head
            refine goal _ M2 head (fun c m _ => by rw [j2.1]) (fun _ c => j2.cs hb c) ?_
            unfold zwuA
            rw [if_neg k0, if_neg k1, if_pos k2]
            refine congrArg nI ?_
            show _ = zsm (fun r => zsm (fun c => (zfl (M.1 29 0 (zat b r c)) (zwb (M.1 29 0 (8 + 2 * x)) s r c)).toNat) (zcol b)) 5 + 0
            rw [Nat.add_zero]
            refine zsm_congr (fun r hr => zsm_congr (fun c hc => ?_))
            obtain ⟨u, u1, u2, -⟩ := (wa_bits hb hB h.1 t0 c r hc hr).2.2.2.1
            rw [u2, decide_eq_true (nI_pos' (show u < 2 ^ 31 by omega)), Bool.true_and]
          rw [if_neg k2] at head
          by_cases k3 : i = 3
          · obtain ⟨M2, L2, R2, e2, j2⟩ := cp_flipsFor hb hB h.1 hG hpic hin t0 (M.1 29 0 7 - 1)
            rw [if_pos k3, bk_X7_would_175r, g4, zbi e2, bk_X7_would_193r] at head
            refine goal _ M2 head (fun c m _ => by rw [j2.1]) (fun _ c => j2.cs hb c) ?_
            unfold zwuA
            rw [if_neg k0, if_neg k1, if_neg k2, if_pos k3]
            refine congrArg nI ?_
            show _ = zsm (fun r => zsm (fun c => (zwn (M.1 29 0 (zat b r c)) (zwb (M.1 29 0 (8 + 2 * x)) s r c) (M.1 29 0 7)).toNat) (zcol b)) 5 + 0
            rw [Nat.add_zero]
            refine zsm_congr (fun r hr => zsm_congr (fun c hc => ?_))
            obtain ⟨u, u1, u2, -, u4⟩ := (wa_bits hb hB h.1 t0 c r hc hr).2.2.2.1
            obtain ⟨l, l1, l2, l3⟩ := h.1.2.2.1
            rw [u4, u2, l3, show (1 : Int32) = nI 1 from rfl, pk_sub (by omega), Bool.and_comm]
            refine congrArg (fun z => (zfl (M.1 29 0 (zat b r c)) (zwb (M.1 29 0 (8 + 2 * x)) s r c) && z).toNat) ?_
            have e : nI (l - 1) ≤ nI u ↔ nI l ≤ nI (u + 1) := by rw [nI_leI (by omega) (by omega), nI_leI (by omega) (by omega)]; omega
            by_cases q : nI l ≤ nI (u + 1)
            · rw [decide_eq_true q, decide_eq_true (e.mpr q)]
            · rw [decide_eq_false q, decide_eq_false (fun z => q (e.mp z))]
          rw [if_neg k3, bk_X7_would_194r, zbi (cp_stuckUnlike hG.2.2.1 hG.2.2.2.1 hpic), bk_X7_would_203r] at head
          exact goal _ M head (zFC.rf M) (fun _ c => c) (by unfold zwuA; rw [if_neg k0, if_neg k1, if_neg k2, if_neg k3, zul_wa hb hB h.1 hin t0])
        · rw [hcs.2 c3, if_pos (show zoC none = -1 from rfl), bk_X7_would_70] at head
          obtain ⟨M3, e3, r3⟩ := sp_would_not x b N i hb hN hx c2 M hs (by rw [h.2.2.1]; exact c3)
          exact ⟨-1000002, M, M3, head, e3, fin_r h r3⟩
      · refine ⟨-1000001, M, M, ?_, sp_would_bad _ _ i M (Or.inr (Or.inr c2)), fin_r h (zRf.rf M)⟩
        rw [head]
        by_cases c3 : i < 0
        · rw [if_pos c3, bk_X7_would_38]
        · rw [if_neg c3, bk_X7_would_33r, if_neg (fun z => c2 ⟨i_le.mpr c3, z⟩), bk_X7_would_38]
    · rw [if_pos (zb_0.mpr c1), bk_X7_would_38] at head
      exact ⟨-1000001, M, M, head, sp_would_bad w _ i M (Or.inl (fun z => c1 ⟨z.1, by rw [← hs]; exact z.2⟩)), fin_r h (zRf.rf M)⟩
  · refine ⟨-1000001, M, M, ?_, sp_would_bad w a i M (Or.inr (Or.inl c0)), fin_r h (zRf.rf M)⟩
    rw [en_X7_would, bk_X7_would_0, zbi (cs_blindAt_n 0 a c0 M), bk_X7_would_8n, bk_X7_would_38]
