-- ===== the class: what a change makes of a state =====
theorem cs_blindAt (k b : Nat) (hb : b < 2) (M : zM) : zd_X4_blindAt [zR 4 k, zI (nI b)] M = some (some (zR 0 (2 * k + b)), M) := by
  rcases (show b = 0 ∨ b = 1 by omega) with rfl | rfl
  · rw [en_X4_blindAt, bk_X4_blindAt_0, if_pos (show nI 0 = 0 from rfl), bk_X4_blindAt_4]
    rfl
  · rw [en_X4_blindAt, bk_X4_blindAt_0, if_neg (by decide), bk_X4_blindAt_9, if_pos (show nI 1 = 1 from rfl), bk_X4_blindAt_14, bk_X4_blindAt_22r]
theorem cs_blindAt_n (k : Nat) (a : Int32) (h : ¬ zVB a) (M : zM) : zd_X4_blindAt [zR 4 k, zI a] M = some (some zN, M) := by
  rw [en_X4_blindAt, bk_X4_blindAt_0, if_neg (fun z => h (by rw [z]; decide)), bk_X4_blindAt_9, if_neg (fun z => h (by rw [z]; decide)), bk_X4_blindAt_21, bk_X4_blindAt_22n]
theorem zGW.cg {M : zM} {k N : Nat} {σ τ : Nat → Int32} (h : zGW M k σ N) (e : ∀ w, w < N → τ (8 + 2 * w) = σ (8 + 2 * w) ∧ τ (9 + 2 * w) = σ (9 + 2 * w)) : zGW M k τ N := ⟨h.1, fun w hw => by rw [(e w hw).1, (e w hw).2]; exact h.2 w hw⟩
theorem zGW.fb {M M' : zM} {k n N : Nat} {σ : Nat → Int32} (hN : N ≤ 10) (h : zGW M k σ N) (hf : zFB M M' n) : zGW M' k σ N :=
  h.mv hN (by rw [hf.2.1 6 _ (by omega) (by omega)]) (fun j _ => by rw [hf.2.1 20 _ (by omega) (by omega), hf.2.1 21 _ (by omega) (by omega), hf.2.1 22 _ (by omega) (by omega)]; exact ⟨rfl, rfl, rfl⟩) (fun j _ => by rw [hf.2.2 23 _ (by omega), hf.2.2 24 _ (by omega)]; exact ⟨rfl, rfl⟩)
theorem zGB.fb {M M' : zM} {n m b : Nat} {σ : Nat → Int32} (h : zGB M n b σ) (hf : zFB M M' m) (hm : n ≠ m) : zGB M' n b σ :=
  h.mv (by rw [hf.2.1 0 _ (by omega) (by omega)]; exact h.1) (by rw [hf.2.1 0 _ (by omega) (by omega)]) (fun i hi => by rw [hf.2.2 1 _ (by omega)]; exact ⟨rfl, rfl⟩) (fun j _ => by rw [hf.2.1 25 _ (by omega) (by omega)])
theorem zGB.fw {M M' : zM} {n k b : Nat} {σ : Nat → Int32} (h : zGB M n b σ) (hf : zFW M M' k) : zGB M' n b σ :=
  h.mv (by rw [hf.2.1 0 _ (by omega)]; exact h.1) (by rw [hf.2.1 0 _ (by omega)]) (fun i hi => by rw [hf.2.2 1 _ (by omega)]; exact ⟨rfl, rfl⟩) (fun j _ => by rw [hf.2.1 25 _ (by omega)])
/-- only ints of a row that is no blind's and no word's differ -/
theorem zGB.zi {M : zM} {n b c m : Nat} {σ : Nat → Int32} {f : Nat → Int32} (h : zGB M n b σ) (hc : c ≠ 0 ∧ c ≠ 25) : zGB (zst M.1 c m f, M.2) n b σ :=
  h.mv (by dsimp only; rw [zst_ne M.1 f (fun z => hc.1 z.1.symm)]; exact h.1) (by dsimp only; rw [zst_ne M.1 f (fun z => hc.1 z.1.symm)]) (fun _ _ => ⟨rfl, rfl⟩) (fun j _ => by dsimp only; rw [zst_ne M.1 f (fun z => hc.2 z.1.symm)])
theorem zGW.zi {M : zM} {k N c m : Nat} {σ : Nat → Int32} {f : Nat → Int32} (hN : N ≤ 10) (h : zGW M k σ N) (hc : c ≠ 6 ∧ c ≠ 20 ∧ c ≠ 21 ∧ c ≠ 22) : zGW (zst M.1 c m f, M.2) k σ N :=
  h.mv hN (by dsimp only; rw [zst_ne M.1 f (fun z => hc.1 z.1.symm)]) (fun j _ => by dsimp only; rw [zst_ne M.1 f (fun z => hc.2.1 z.1.symm), zst_ne M.1 f (fun z => hc.2.2.1 z.1.symm), zst_ne M.1 f (fun z => hc.2.2.2 z.1.symm)]; exact ⟨rfl, rfl, rfl⟩) (fun _ _ => ⟨rfl, rfl⟩)
-- pictures that are wanted
theorem sh_bit (y : Int32) (c : Nat) (hy : ui y < 2 ^ 31) (hc : c < 24) : decide (((y >>> (nI c &&& (31 : Int32))) &&& 1) = 1) = (ui y).testBit c := by
  have e : y >>> (nI c &&& (31 : Int32)) = nI (ui y / 2 ^ c) := by
    have := pk_shrN hy (nI c &&& (31 : Int32)) c (zsmod c (by omega))
    rw [nI_ui] at this
    exact this
  have hd : ui y / 2 ^ c < 2 ^ 32 := Nat.lt_of_le_of_lt (Nat.div_le_self _ _) (by omega)
  rw [e, pk_andN hd 1 rfl, Nat.testBit_eq_decide_div_mod_eq]
  by_cases h : ui y / 2 ^ c % 2 ^ 1 = 1
  · rw [h]; rfl
  · have h0 : ui y / 2 ^ c % 2 ^ 1 = 0 := by omega
    rw [h0]; rfl
theorem zRw_lt {g : Nat → Int32} {f : Nat → Nat → Bool} (h : zRw g f) (r : Nat) (hr : r < 5) : ui (g r) < 2 ^ 24 := Nat.lt_pow_two_of_testBit _ (fun i hi => by rw [h r hr i, decide_eq_false (by omega), Bool.false_and])
theorem zIn_pic {x : Int32} (hx : zVL x) {s b : Nat} (hs : s < zshf (mny x) b) : zIn (zfP x s) (zwb x s) b := by
  have hm := VL_m hx
  have h25 := zs_lt hs
  have hl := zcol_le b
  intro c r hr
  constructor
  · intro hc
    have hrw := zRw_pic x s hm.1 h25
    have hlt := zRw_lt hrw r hr
    unfold zwb
    rw [if_neg (fun z => by rw [z] at hx; exact absurd hx.1 (by decide)), sh_bit _ c (by omega) (by omega), hrw r hr c, decide_eq_true (show c < 24 by omega), Bool.true_and]
  · intro hc
    unfold zfP
    by_cases h : s ≤ c
    · rw [Nat.testBit_lt_two_pow (Nat.lt_of_lt_of_le (zrw_lt2 (mny x) (ui x) r hr hm.1) (Nat.pow_le_pow_right (by decide) (show 4 * mny x - 1 ≤ c - s by unfold zshf at hs; omega))), Bool.and_false]
    · rw [decide_eq_false h, Bool.false_and]
theorem zIn_0 (b : Nat) : zIn (fun _ _ => false) (zwb 0 0) b := by
  intro c r hr
  have hl := zcol_le b
  refine ⟨fun hc => ?_, fun _ => rfl⟩
  unfold zwb
  rw [if_pos rfl, sh_bit 0 c (by decide) (by omega)]
  rw [show ui 0 = 0 from rfl, Nat.zero_testBit]
theorem hv_q (σ : Nat → Int32) (b : Nat) (w : Int32) : zc2 (zfD σ b w) = zhv σ b w := ((zRw_disc σ b w).q).symm
theorem cs_show {M : zM} {k B : Nat} {σ τ : Nat → Int32} {w b a : Int32} (hB : B < 2 ^ 25) (hW : zW B σ) (hG : zGS M k σ) (t : zXs σ w b a τ) : ∃ M', zd_X4_showWord [zR 4 k, zI w, zI b] M = zs a M' ∧ zGS M' k τ ∧ zFS M M' k := by
  obtain ⟨N, hN, hs, gW, gB, g3, g4, g5, g6, g7⟩ := id hG
  rcases t with ⟨hbad, rfl, rfl⟩ | ⟨N', v, d, hN', hv, hd, hs', rfl, rfl, t⟩
  · refine ⟨M, ?_, hG, zFS.rf M k⟩
    by_cases c2 : zVB b
    · obtain ⟨d, hd, rfl⟩ := zVB_of c2
      have c1 : ¬ (0 ≤ w ∧ w < M.1 6 k 0) := by rw [gW.1, ← hs]; exact hbad.resolve_right (fun z => z c2)
      rw [en_X4_showWord, bk_X4_showWord_0, zbi (cs_blindAt k d hd M), bk_X4_showWord_5r, bk_X4_showWord_10r, zbi (cp_has k w M), bk_X4_showWord_18r, if_pos (zb_0.mpr c1), bk_X4_showWord_21]
    · rw [en_X4_showWord, bk_X4_showWord_0, zbi (cs_blindAt_n k b c2 M), bk_X4_showWord_5n, bk_X4_showWord_21]
  · have eN : N' = N := by rw [hs', nI_eq (by omega) (by omega)] at hs; exact hs
    subst eN
    have hq : zQk M k (2 * k + d) d B σ N' := ⟨hW, hN, hs, gW, gB d hd⟩
    have hcs := can_some hW zNF v d
    have head : zd_X4_showWord [zR 4 k, zI (nI v), zI (nI d)] M = zev zC_X4_showWord 38 ([some (zR 4 k), some (zI (nI v)), none, some (zR 0 (2 * k + d)), none, none], [zI (zoC (zbf (fun s => zmar σ zNF v d s) (σ 6 - 1) (zshf (mny (σ (8 + 2 * v))) d)).1)], M) := by
      rw [en_X4_showWord, bk_X4_showWord_0, zbi (cs_blindAt k d hd M), bk_X4_showWord_5r, bk_X4_showWord_10r, zbi (cp_has k _ M), bk_X4_showWord_18r, if_neg (zne0 ⟨nI_pos' (by omega), by rw [gW.1]; exact nI_lt hv (by omega)⟩), bk_X4_showWord_24r, g3, zbi (cp_bestShift (Or.inl ⟨rfl, rfl⟩) hq hv _)]
    rcases t with ⟨hc, rfl, rfl⟩ | ⟨s, ρ, hc, hsm, rfl, hwa, rfl⟩
    · refine ⟨M, ?_, hG, zFS.rf M k⟩
      rw [head, hcs.2 hc, bk_X4_showWord_38r, if_pos (show zoC none = -1 from rfl), bk_X4_showWord_46]
    · have hsl := zbst_lt _ _ _ _ _ hsm
      have hvl := W_vl hW hN hs hv
      have hm := VL_m hvl
      have h22 := zs_22 hsl hm.1
      have hpic := (gW.2 v hv).2.2.2 s h22
      obtain ⟨M1, e1, b1, f1⟩ := cp_want hd hB hW (gB d hd) hpic (zIn_pic hvl hsl) hwa
      obtain ⟨wa1, wa2, wa3, wa4⟩ := hwa
      have lo : ∀ j, j < 28 → j ≠ 4 + d → j ≠ 1 → ρ j = σ j := fun j h1 h2 h3 => wa2 j (fun r' c' _ _ _ z => by have := zat_ge (b := d) (r := r') (c := c'); omega) h2 h3
      have k41 : M1.1 4 k = M.1 4 k := f1.2.1 4 k (by omega) (by omega)
      have k221 : M1.1 22 k = M.1 22 k := f1.2.1 22 k (by omega) (by omega)
      have m15 : M1.1 4 k 5 = σ 1 := by rw [k41]; exact g5
      -- the counters
      have s2 : ∃ M2, zev zC_X4_showWord 90 ([some (zR 4 k), some (zI (nI v)), none, some (zR 0 (2 * k + d)), some (zI (nI s)), some (zI (nI (22 * v + s)))], [zI (nI (zwW σ d (zwb (σ (8 + 2 * v)) s) 5 0)), zI (M.1 4 k 5), zR 4 k], M1) = zev zC_X4_showWord 94 ([some (zR 4 k), some (zI (nI v)), none, some (zR 0 (2 * k + d)), some (zI (nI s)), some (zI (nI (22 * v + s)))], [], M2) ∧ M2.2 = M1.2 ∧ (∀ c m, ¬ (c = 4 ∧ m = k) → M2.1 c m = M1.1 c m) ∧ M2.1 4 k = upd (M.1 4 k) 5 (ρ 1) := by
        refine ⟨(zst M1.1 4 k (upd (M1.1 4 k) 5 (M.1 4 k 5 + nI (zwW σ d (zwb (σ (8 + 2 * v)) s) 5 0))), M1.2), by rw [bk_X4_showWord_90r], rfl, fun c m h => zst_ne M1.1 _ h, ?_⟩
        dsimp only
        rw [zst_self, k41, g5, wa4]
      obtain ⟨M2, e2, i2, o2, c2⟩ := s2
      have m22 : M2.1 22 k = M.1 22 k := (o2 22 k (by omega)).trans k221
      have s3 : ∃ M3, zev zC_X4_showWord 94 ([some (zR 4 k), some (zI (nI v)), none, some (zR 0 (2 * k + d)), some (zI (nI s)), some (zI (nI (22 * v + s)))], [], M2) = zev zC_X4_showWord 107 ([some (zR 4 k), some (zI (nI v)), none, some (zR 0 (2 * k + d)), some (zI (nI s)), some (zI (nI (22 * v + s)))], [], M3) ∧ M3.2 = M2.2 ∧ (∀ c m, ¬ (c = 22 ∧ m = k) → M3.1 c m = M2.1 c m) ∧ M3.1 22 k = upd (M.1 22 k) v (σ (9 + 2 * v) + 1) := by
        refine ⟨(zst M2.1 22 k (upd (M2.1 22 k) v (M2.1 22 k v + 1)), M2.2), ?_, rfl, fun c m h => zst_ne M2.1 _ h, ?_⟩
        · rw [bk_X4_showWord_94r, if_neg (ix_in (by omega) (by decide)), ix_cl (by omega), bk_X4_showWord_104r, if_neg (ix_in (by omega) (by decide)), ix_cl (by omega)]
        · dsimp only
          rw [zst_self, m22, (gW.2 v hv).2.2.1]
      obtain ⟨M3, e3, i3, o3, c3⟩ := s3
      have m43 : M3.1 4 k = upd (M.1 4 k) 5 (ρ 1) := (o3 4 k (by omega)).trans c2
      have s4 : ∃ M4, zev zC_X4_showWord 107 ([some (zR 4 k), some (zI (nI v)), none, some (zR 0 (2 * k + d)), some (zI (nI s)), some (zI (nI (22 * v + s)))], [], M3) = zs (nI s) M4 ∧ M4.2 = M3.2 ∧ (∀ c m, ¬ (c = 4 ∧ m = k) → M4.1 c m = M3.1 c m) ∧ M4.1 4 k = upd (upd (M.1 4 k) 5 (ρ 1)) 7 (σ 3 + 1) := by
        refine ⟨(zst M3.1 4 k (upd (M3.1 4 k) 7 (M3.1 4 k 7 + 1)), M3.2), ?_, rfl, fun c m h => zst_ne M3.1 _ h, ?_⟩
        · rw [bk_X4_showWord_107r, bk_X4_showWord_117r]
        · dsimp only
          rw [zst_self, m43, upd_n (by decide), g7]
      obtain ⟨M4, e4, i4, o4, c4⟩ := s4
      have i42 : M4.2 = M1.2 := (i4.trans i3).trans i2
      have o42 : ∀ c m, ¬ (c = 4 ∧ m = k) → ¬ (c = 22 ∧ m = k) → M4.1 c m = M1.1 c m := fun c m h1 h2 => (o4 c m h1).trans ((o3 c m h2).trans (o2 c m h1))
      have hsw : ∀ j, j ≠ 3 → j ≠ 9 + 2 * v → zsw' ρ v j = ρ j := fun j h1 h2 => by unfold zsw'; rw [if_neg h1, if_neg h2]
      have tz : ∀ j, 28 ≤ j → zsw' ρ v j = ρ j := fun j hj => hsw j (by omega) (by omega)
      refine ⟨M4, ?_, ⟨N', hN, by rw [hsw 0 (by omega) (by omega), lo 0 (by omega) (by omega) (by omega)]; exact hs', ?_, ?_, ?_, ?_, ?_, ?_, ?_⟩, ?_⟩
      · rw [head, hcs.1 hc, hsm, show zoC (some s) = nI s from rfl, bk_X4_showWord_38r, if_neg (fun z => by have := nI_pos (n := s) (by omega); rw [z] at this; exact this (by decide)), bk_X4_showWord_49r, zbi (cp_placeOf v s M), bk_X4_showWord_55r, if_neg (ix_in (by omega) (by decide)), ix_cl (by omega), bk_X4_showWord_73rr, if_neg (ix_in (by omega) (by decide)), ix_cl (by omega), bk_X4_showWord_83rr, g4, zbi e1]
        exact ((e2.trans e3).trans e4)
      · refine ⟨?_, fun w hw => ?_⟩
        · rw [o42 6 k (by omega) (by omega), f1.2.1 6 k (by omega) (by omega)]; exact gW.1
        · obtain ⟨a1, a2, a3, a4⟩ := gW.2 w hw
          rw [hsw (8 + 2 * w) (by omega) (by omega), lo (8 + 2 * w) (by omega) (by omega) (by omega), o42 20 k (by omega) (by omega), o42 21 k (by omega) (by omega), f1.2.1 20 k (by omega) (by omega), f1.2.1 21 k (by omega) (by omega), o4 22 k (by omega), c3, i42, f1.2.2 23 k (by omega), f1.2.2 24 k (by omega)]
          refine ⟨a1, a2, ?_, a4⟩
          by_cases q : w = v
          · rw [q, upd_s]
            unfold zsw'
            rw [if_neg (by omega), if_pos rfl, lo (9 + 2 * v) (by omega) (by omega) (by omega)]
          · rw [upd_n q, hsw (9 + 2 * w) (by omega) (by omega), lo (9 + 2 * w) (by omega) (by omega) (by omega)]
            exact a3
      · intro b' hb'
        have hcol : zGB M1 (2 * k + b') b' (zsw' ρ v) := by
          by_cases q : b' = d
          · subst q
            exact b1.cg (hsw _ (by omega) (by omega)) (fun c r _ _ => tz _ zat_ge)
          · refine ((gB b' hb').fb f1 (by omega)).cg ?_ (fun c r hc' hr' => ?_)
            · rw [hsw _ (by omega) (by omega), lo _ (by omega) (by omega) (by omega)]
            · have hz := zat_ge (b := b') (r := r) (c := c)
              rw [tz _ hz, wa2 _ (fun r' c' hr2 hc2 _ z => q (zat_inj hb' hr' hc' hd hr2 hc2 z).1) (by omega) (by omega)]
        exact hcol.mv (by rw [o42 0 _ (by omega) (by omega)]; exact hcol.1) (by rw [o42 0 _ (by omega) (by omega)]) (fun i _ => by rw [i42]; exact ⟨rfl, rfl⟩) (fun j _ => by rw [o42 25 _ (by omega) (by omega)])
      · rw [c4, upd_n (by decide), upd_n (by decide), hsw 6 (by omega) (by omega), lo 6 (by omega) (by omega) (by omega)]; exact g3
      · rw [c4, upd_n (by decide), upd_n (by decide), hsw 7 (by omega) (by omega), lo 7 (by omega) (by omega) (by omega)]; exact g4
      · rw [c4, upd_n (by decide), upd_s, hsw 1 (by omega) (by omega)]
      · rw [c4, upd_n (by decide), upd_n (by decide), hsw 2 (by omega) (by omega), lo 2 (by omega) (by omega) (by omega)]; exact g6
      · rw [c4, upd_s]
        unfold zsw'
        rw [if_pos rfl, lo 3 (by omega) (by omega) (by omega)]
      · refine (f1.fs hd).tr ⟨by rw [i42], fun c m h => o42 c m (fun z => h (by unfold zOw; omega)) (fun z => h (by unfold zOw; omega)), fun c m _ => by rw [i42]⟩
