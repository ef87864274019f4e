-- ===== the class: a blind wants a picture; a column is mended =====
/-- only blind n differs -/
def zFB (M M' : zM) (n : Nat) : Prop := M'.2.2 = M.2.2 ∧ (∀ c m, ¬ (c = 0 ∧ m = n) → ¬ (c = 25 ∧ m = n) → M'.1 c m = M.1 c m) ∧ ∀ c m, ¬ (c = 1 ∧ 4 * n ≤ m ∧ m < 4 * n + 4) → M'.2.1 c m = M.2.1 c m
theorem zFB.rf (M : zM) (n : Nat) : zFB M M n := ⟨rfl, fun _ _ _ _ => rfl, fun _ _ _ => rfl⟩
theorem zFB.tr {M M' M'' : zM} {n : Nat} (h : zFB M M' n) (h' : zFB M' M'' n) : zFB M M'' n := ⟨h'.1.trans h.1, fun c m a b => (h'.2.1 c m a b).trans (h.2.1 c m a b), fun c m a => (h'.2.2 c m a).trans (h.2.2 c m a)⟩
theorem zJs.fb {M M' : zM} {n m : Nat} {L R : Int64} (h : zJs M M' m L R) (h1 : 4 * n ≤ m) (h2 : m < 4 * n + 4) : zFB M M' n := ⟨h.2.1, fun c q _ _ => congrFun (congrFun h.1 c) q, fun c q a => h.2.2.1 c q (fun z => a (by omega))⟩
theorem zFL.fb {M M' : zM} {n : Nat} (h : zFL M M' n) : zFB M M' n := ⟨h.1, fun c m _ b => h.2.1 c m b, fun c m a => h.2.2 c m (fun z => a (by omega))⟩
/-- a picture inside a blind -/
def zIn (g : Nat → Nat → Bool) (F : Nat → Nat → Bool) (b : Nat) : Prop := ∀ c r, r < 5 → (c < zcol b → g c r = F r c) ∧ (¬ c < zcol b → g c r = false)
theorem cp_want {M : zM} {n b B : Nat} {σ τ : Nat → Int32} {g F : Nat → Nat → Bool} {L R : Int64} (hb : b < 2) (hB : B < 2 ^ 25) (hW : zW B σ) (hG : zGB M n b σ) (hp : zPr L R g) (hg : zIn g F b) (t : zWA σ b F 5 0 τ) :
    ∃ M', zd_X0_want [zR 0 n, zJ L, zJ R, zI (σ 7)] M = zs (nI (zwW σ b F 5 0)) M' ∧ zGB M' n b τ ∧ zFB M M' n := by
  have hl := zcol_le b
  obtain ⟨g0, g6, gb, gs, gw, gv⟩ := hG
  -- wanted
  have s1 : ∃ M1, zd_X0_want [zR 0 n, zJ L, zJ R, zI (σ 7)] M = zev zC_X0_want 16 ([some (zR 0 n), some (zJ L), none, some (zJ R), none, some (zI (σ 7)), none, none, none, none, none], [], M1) ∧ zJs M M1 (4 * n + 2) L R := by
    refine ⟨_, ?_, zJs_2 M (4 * n + 2) L R⟩
    rw [en_X0_want, bk_X0_want_0, bk_X0_want_8]
  obtain ⟨M1, e1, j1⟩ := s1
  -- what is to flip
  obtain ⟨M2, L2, R2, e2, j2, p2⟩ := cp_markFlips (j1.ne (by omega) gb) (j1.ne (by omega) gs) hp
  have b2 : zDt M2 (4 * n) (zfD σ b 1) := j2.ne (by omega) (j1.ne (by omega) gb)
  have f2 := j2.dt p2
  have s3 : ∃ M3, zev zC_X0_want 22 ([some (zR 0 n), some (zJ L), none, some (zJ R), none, some (zI (σ 7)), none, none, none, none, none], [], M2) = zev zC_X0_want 60 ([some (zR 0 n), some (zJ L), none, some (zJ R), none, some (zI (σ 7)), none, none, none, none, none], [], M3) ∧ zJs M2 M3 (4 * n) (M2.2.1 1 (4 * n) 0 ^^^ M2.2.1 1 (4 * n + 3) 0) (M2.2.1 1 (4 * n) 1 ^^^ M2.2.1 1 (4 * n + 3) 1) := by
    refine ⟨_, ?_, zJs_2 M2 (4 * n) (M2.2.1 1 (4 * n) 0 ^^^ M2.2.1 1 (4 * n + 3) 0) (M2.2.1 1 (4 * n) 1 ^^^ M2.2.1 1 (4 * n + 3) 1)⟩
    rw [bk_X0_want_22, bk_X0_want_41]
    dsimp only
    rw [zst_self, uL_n (by decide), zst_ne (c := 1) (n := 4 * n) (c' := 1) (n' := 4 * n + 3) M2.2.1 _ (by omega)]
  obtain ⟨M3, e3, j3⟩ := s3
  have b3 := j3.dt (b2.xor f2)
  have f3 := j3.ne (m := 4 * n + 3) (by omega) f2
  have s3' : zDt M3 (4 * n + 1) (zfD σ b 2) := j3.ne (by omega) (j2.ne (by omega) (j1.ne (by omega) gs))
  have w3 : zDt M3 (4 * n + 2) g := j3.ne (by omega) (j2.ne (by omega) (j1.dt hp))
  have i3 : M3.1 = M.1 := (j3.1.trans j2.1).trans j1.1
  have hfb3 : zFB M M3 n := ((j1.fb (by omega) (by omega)).tr (j2.fb (by omega) (by omega))).tr (j3.fb (by omega) (by omega))
  -- the set to flip against s
  have hfl : ∀ c r, c < zcol b → r < 5 → ((zfD σ b 1 c r ^^ g c r) && !zfD σ b 2 c r) = zfl (σ (zat b r c)) (F r c) := fun c r hc hr => by
    rw [(hg c r hr).1 hc, (wa_bits hb hB hW t c r hc hr).2.2.2.2]
  have hfo : ∀ c r, r < 5 → ¬ c < zcol b → ((zfD σ b 1 c r ^^ g c r) && !zfD σ b 2 c r) = false := fun c r hr hc => by
    rw [(hg c r hr).2 hc, zfD_out _ _ _ _ _ hc]; rfl
  have hcnt : zc2 (fun c r => (zfD σ b 1 c r ^^ g c r) && !zfD σ b 2 c r) = zwF σ b F 5 0 := by
    rw [zc2_blind _ b hfo]
    show _ = zsm (fun r => zsm (fun c => (zfl (σ (zat b r c)) (F r c)).toNat) (zcol b)) 5 + 0
    rw [Nat.add_zero]
    exact zsm_congr (fun r hr => zsm_congr (fun c hc => by rw [hfl c r hc hr]))
  have hs4 : zev zC_X0_want 60 ([some (zR 0 n), some (zJ L), none, some (zJ R), none, some (zI (σ 7)), none, none, none, none, none], [], M3) = zev zC_X0_want 82 ([some (zR 0 n), some (zJ L), none, some (zJ R), none, some (zI (σ 7)), some (zI (nI (zct 0 (fun i => ((zfD σ b 1 (i / 5) (i % 5) ^^ g (i / 5) (i % 5)) && !zfD σ b 2 (i / 5) (i % 5)) && decide (σ 7 ≤ nI ((if i / 5 < zcol b ∧ i % 5 < 5 then (σ (zat b (i % 5) (i / 5)) / 8).toNatClampNeg % 2 ^ 29 else 0) + 1)))))), some (zI (nI 0)), none, none, none], [], (zst M3.1 0 n (upd (M3.1 0 n) 6 (τ (4 + b))), M3.2)) := by
    rw [bk_X0_want_60, zbi (cp_size f3), bk_X0_want_72, bk_X0_want_76, hcnt, i3, g6, ← t.2.2.1]
    rfl
  have hu0 : ∀ c r, c < zcol b → r < 5 → ∃ v, v ≤ B ∧ σ (zat b r c) / 8 = nI v ∧ (σ (zat b r c) / 8).toNatClampNeg % 2 ^ 29 = v := fun c r hc hr => by
    obtain ⟨v, v1, v2, -⟩ := (wa_bits hb hB hW t c r hc hr).2.2.2.1
    exact ⟨v, v1, v2, by rw [v2, ix_cl (by omega), Nat.mod_eq_of_lt (by omega)]⟩
  obtain ⟨M5, e5, l5, q5, w5⟩ := cp_want_loop n b (σ 7) (fun c r => (zfD σ b 1 c r ^^ g c r) && !zfD σ b 2 c r) (zfD σ b 2) (fun c r => if c < zcol b ∧ r < 5 then (σ (zat b r c) / 8).toNatClampNeg % 2 ^ 29 else 0)
    (fun c r => by split; exact Nat.mod_lt _ (by decide); decide) (zst M3.1 0 n (upd (M3.1 0 n) 6 (τ (4 + b))), M3.2) (by dsimp only; rw [zst_self, upd_n (by decide), i3]; exact g0) f3 (5 * zcol b) 0 (some (zJ L)) none (some (zJ R)) none none none none (zst M3.1 0 n (upd (M3.1 0 n) 6 (τ (4 + b))), M3.2) (by omega) (zFL.rf _ n)
    (zDt.cg s3' (fun c r _ _ => by rw [decide_eq_false (by omega)]; exact (Bool.or_false _).symm)) (fun c r hc hr => by
      dsimp only
      rw [zst_ne (c := 0) (n := n) (c' := 25) (n' := n) M3.1 _ (by omega), i3, gv c r hc hr, if_pos ⟨hc, hr⟩, if_neg (by omega), Nat.add_zero]
      obtain ⟨v, -, v2, v3⟩ := hu0 c r hc hr
      rw [v3, v2])
  have i5 : M5.1 0 n = upd (M3.1 0 n) 6 (τ (4 + b)) := (l5.2.1 0 n (by omega)).trans (zst_self M3.1 0 n _)
  refine ⟨M5, ?_, ⟨?_, ?_, ?_, ?_, ?_, ?_⟩, ?_⟩
  · rw [e1, bk_X0_want_16, zbv e2, e3, hs4]
    refine e5.trans ?_
    refine congrArg (fun z => zs (nI z) M5) ?_
    rw [zct_blind (fun c r => ((zfD σ b 1 c r ^^ g c r) && !zfD σ b 2 c r) && decide (σ 7 ≤ nI ((if c < zcol b ∧ r < 5 then (σ (zat b r c) / 8).toNatClampNeg % 2 ^ 29 else 0) + 1))) b]
    show _ = zsm (fun r => zsm (fun c => (zwn (σ (zat b r c)) (F r c) (σ 7)).toNat) (zcol b)) 5 + 0
    rw [Nat.add_zero]
    refine zsm_congr (fun r hr => zsm_congr (fun c hc => ?_))
    obtain ⟨v, -, v2, -, v4⟩ := (wa_bits hb hB hW t c r hc hr).2.2.2.1
    obtain ⟨v', -, v2', v3'⟩ := hu0 c r hc hr
    rw [hfl c r hc hr, if_pos ⟨hc, hr⟩, v4, v3']
    have := nI_ui (nI v)
    have e : nI v' = nI v := v2'.symm.trans v2
    rw [← nI_1, ← nI_1, e]
  · rw [i5, upd_n (by decide), i3]; exact g0
  · rw [i5, upd_s]
  · exact (l5.dt (by omega) (zDt.w b3 _)).cg (fun c r _ hr => by
      by_cases hc : c < zcol b
      · rw [(wa_bits hb hB hW t c r hc hr).1, (hg c r hr).1 hc]
      · rw [hfo c r hr hc, zfD_out _ _ _ _ _ hc, zfD_out _ _ _ _ _ hc]; rfl)
  · exact q5.cg (fun c r _ hr => by
      by_cases hc : c < zcol b
      · obtain ⟨v, -, v2, -, v4⟩ := (wa_bits hb hB hW t c r hc hr).2.2.2.1
        obtain ⟨v', -, v2', v3'⟩ := hu0 c r hc hr
        have e : nI v' = nI v := v2'.symm.trans v2
        rw [(wa_bits hb hB hW t c r hc hr).2.1, hfl c r hc hr, if_pos ⟨hc, hr⟩, v4, v3', decide_eq_true (show 5 * c + r < 5 * zcol b by omega), Bool.true_and, ← nI_1, ← nI_1, e]
      · rw [hfo c r hr hc, zfD_out _ _ _ _ _ hc, zfD_out _ _ _ _ _ hc, Bool.false_and, Bool.and_false]; rfl)
  · exact (l5.dt (by omega) (zDt.w w3 _)).cg (fun c r _ hr => by
      by_cases hc : c < zcol b
      · rw [(wa_bits hb hB hW t c r hc hr).2.2.1, (hg c r hr).1 hc]
      · rw [(hg c r hr).2 hc, zfD_out _ _ _ _ _ hc])
  · intro c r hc hr
    obtain ⟨v, -, v2, v3, v4⟩ := (wa_bits hb hB hW t c r hc hr).2.2.2.1
    obtain ⟨v', -, v2', v3'⟩ := hu0 c r hc hr
    have e : nI v' = nI v := v2'.symm.trans v2
    rw [w5 c r hc hr, v3, if_pos ⟨hc, hr⟩, v3', hfl c r hc hr, ← nI_add, ← nI_add, e]
  · refine hfb3.tr (zFB.tr ?_ l5.fb)
    exact ⟨rfl, fun c m a _ => zst_ne M3.1 _ a, fun _ _ _ => rfl⟩
