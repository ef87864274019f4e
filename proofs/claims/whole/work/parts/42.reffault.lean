-- ===== the reference: fault and play =====
/-- all that counts is as before -/
def zRz (M M' : zM) : Prop := M'.2 = M.2 ∧ (∀ c n, c ≠ 29 → c ≠ 30 → c ≠ 33 → c ≠ 31 → c ≠ 34 → c ≠ 35 → c ≠ 8 → M'.1 c n = M.1 c n) ∧ M'.1 30 0 = M.1 30 0 ∧ (∀ k, k = 3 ∨ k = 4 ∨ k = 6 ∨ k = 8 → M'.1 8 0 k = M.1 8 0 k) ∧ ∀ j, j < 228 → M'.1 29 0 j = M.1 29 0 j
theorem pl_try (n B : Nat) (hn : n ≤ 60) (hB : B + 61 < 2 ^ 25) (M : zM) (h6 : M.1 8 0 6 = nI n) (h8 : M.1 8 0 8 = zNF) (h4 : M.1 8 0 4 = 0) (hW : zW B (M.1 29 0)) :
    ∃ Mb Mc R c' τ f, zd_X8_plays [zR 8 0] (zst M.1 35 0 (zcy (M.1 29 0) (M.1 35 0) 228), M.2) = zs (zbI (Option.isNone R)) Mb ∧ zd_X8_copies [zR 35 0, zR 29 0] Mb = some (none, Mc) ∧ zPl (M.1 32 0) n (n + 1) 0 f (M.1 29 0) 0 R c' τ ∧ zRz M Mc ∧ (R = none → Mc.1 8 0 14 = nI c') ∧ ∀ q, R = some q → Mc.1 8 0 11 = nI q.1 ∧ Mc.1 8 0 12 = q.2.1 ∧ Mc.1 8 0 13 = q.2.2 := by
  have e : ∀ c n, c ≠ 35 → (zst M.1 35 0 (zcy (M.1 29 0) (M.1 35 0) 228)) c n = M.1 c n := fun c n h => zst_ne M.1 _ (fun z => h z.1)
  have e35 : (zst M.1 35 0 (zcy (M.1 29 0) (M.1 35 0) 228)) 35 0 = zcy (M.1 29 0) (M.1 35 0) 228 := zst_self M.1 35 0 _
  revert e e35
  generalize (zst M.1 35 0 (zcy (M.1 29 0) (M.1 35 0) 228)) = F
  intro e e35
  obtain ⟨Mb, R, c', a1, ⟨b1, b2, b3, b4, b5⟩, a3, a4, a5⟩ := sp_plays n B hn hB (F, M.2) (by dsimp only; rw [e 8 0 (by decide)]; exact h6) (by dsimp only; rw [e 8 0 (by decide)]; exact h8) (by dsimp only; rw [e 29 0 (by decide)]; exact hW)
  dsimp only at a3 b2 b3 b4 b5
  rw [e 32 0 (by decide), e 29 0 (by decide)] at a3
  have f : ∀ c n, c ≠ 29 → (zst Mb.1 29 0 (zcy (Mb.1 35 0) (Mb.1 29 0) 228)) c n = Mb.1 c n := fun c n h => zst_ne Mb.1 _ (fun z => h z.1)
  have f29 : (zst Mb.1 29 0 (zcy (Mb.1 35 0) (Mb.1 29 0) 228)) 29 0 = zcy (Mb.1 35 0) (Mb.1 29 0) 228 := zst_self Mb.1 29 0 _
  have b35 : Mb.1 35 0 = zcy (M.1 29 0) (M.1 35 0) 228 := (b2 35 0 (by decide) (by decide) (by decide) (by decide) (by decide) (by decide)).trans e35
  refine ⟨Mb, _, R, c', _, _, a1, sp_copies_35_29 Mb, a3, ⟨b1, fun c n q1 q2 q3 q4 q5 q6 q7 => ?_, ?_, fun k hk => ?_, fun j hj => ?_⟩, fun h => ?_, fun q h => ?_⟩
  · dsimp only; rw [f c n q1, b2 c n q1 q2 q3 q4 q5 q7, e c n q6]
  · dsimp only; rw [f 30 0 (by decide), b3, e 30 0 (by decide)]
  · dsimp only
    rw [f 8 0 (by decide)]
    rcases Nat.decEq k 4 with h | h
    · rw [b5 k (by omega), e 8 0 (by decide)]
    · rw [h, b4, h4]
  · dsimp only
    rw [f29, zcy, if_pos hj, b35, zcy, if_pos hj]
  · dsimp only; rw [f 8 0 (by decide)]; exact a4 h
  · dsimp only; rw [f 8 0 (by decide)]; exact a5 q h
def zFv (R : Option (Nat × Int32 × Int32)) (i : Int32) : Int32 := match R with
  | none => -1000004
  | some q => if i = 0 then nI q.1 else if i = 1 then q.2.1 else q.2.2
def zFa (T : Nat → Int32) (n : Nat) (σ : Nat → Int32) (i a : Int32) : Prop := (¬ (0 ≤ i ∧ i ≤ 2) ∧ a = -1000001) ∨ ((0 ≤ i ∧ i ≤ 2) ∧ ∃ f R c' τ, zPl T n (n + 1) 0 f σ 0 R c' τ ∧ a = zFv R i)
theorem sp_fault (n B : Nat) (i : Int32) (hn : n ≤ 60) (hB : B + 61 < 2 ^ 25) (M : zM) (h6 : M.1 8 0 6 = nI n) (h8 : M.1 8 0 8 = zNF) (h4 : M.1 8 0 4 = 0) (hW : zW B (M.1 29 0)) :
    ∃ a M', zd_X8_fault [zR 8 0, zI i] M = zs a M' ∧ zRz M M' ∧ zFa (M.1 32 0) n (M.1 29 0) i a := by
  rw [en_X8_fault, bk_X8_fault_0, zbi (sp_in _ _ _ _), bk_X8_fault_6]
  by_cases c : 0 ≤ i ∧ i ≤ 2
  · obtain ⟨Mb, Mc, R, c', τ, f, a1, a2, a3, a4, a5, a6⟩ := pl_try n B hn hB M h6 h8 h4 hW
    rw [if_neg (zne0 c), bk_X8_fault_12, zbv (sp_copies_29_35 M), bk_X8_fault_23, zbi a1, bk_X8_fault_27, zbv a2, bk_X8_fault_39]
    refine ⟨zFv R i, Mc, ?_, a4, Or.inr ⟨c, f, R, c', τ, a3, rfl⟩⟩
    cases R with
    | none =>
      rw [if_neg (show ¬ zbI (Option.isNone (none : Option (Nat × Int32 × Int32))) = 0 by decide), bk_X8_fault_43, bk_X8_fault_75]
      rfl
    | some q =>
      obtain ⟨q1, q2, q3⟩ := a6 q rfl
      rw [if_pos (show zbI (Option.isNone (some q)) = 0 from rfl), bk_X8_fault_48]
      unfold zFv
      dsimp only
      by_cases c1 : i = 0
      · rw [if_pos c1, if_pos c1, bk_X8_fault_52, bk_X8_fault_75, q1]
      · rw [if_neg c1, if_neg c1, bk_X8_fault_59]
        by_cases c2 : i = 1
        · rw [if_pos c2, if_pos c2, bk_X8_fault_64, bk_X8_fault_75, q2]
        · rw [if_neg c2, if_neg c2, bk_X8_fault_71, bk_X8_fault_75, q3]
  · exact ⟨_, M, by rw [if_pos (zb_0.mpr c), bk_X8_fault_9], ⟨rfl, fun _ _ _ _ _ _ _ _ _ => rfl, rfl, fun _ _ => rfl, fun _ _ => rfl⟩, Or.inl ⟨c, rfl⟩⟩
/-- what play is -/
def zPy (T : Nat → Int32) (n : Nat) (σ : Nat → Int32) (a : Int32) (ch : Bool) (τ : Nat → Int32) : Prop := ∃ f R c' ρ, zPl T n (n + 1) 0 f σ 0 R c' ρ ∧
  ((R ≠ none ∧ ch = false ∧ a = -1000002 ∧ ∀ j, j < 228 → τ j = σ j) ∨ (R = none ∧ ch = true ∧ ∃ σ' f' R' c'', (∀ j, j < 228 → σ' j = σ j) ∧ zPl T n (n + 1) 0 f' σ' 0 R' c'' τ ∧ a = if R' = none then nI c'' else -1000004))
/-- a change or none, as far as it counts -/
def zCq (M M' : zM) (ch : Bool) : Prop := M'.2 = M.2 ∧ (∀ c n, c ≠ 29 → c ≠ 30 → c ≠ 33 → c ≠ 31 → c ≠ 34 → c ≠ 35 → c ≠ 8 → M'.1 c n = M.1 c n) ∧ (∀ k, k = 4 ∨ k = 6 ∨ k = 8 → M'.1 8 0 k = M.1 8 0 k) ∧ (if ch = true then zHi M M' else M'.1 8 0 3 = M.1 8 0 3 ∧ M'.1 30 0 = M.1 30 0)
theorem sp_play (n B p : Nat) (hn : n ≤ 60) (hB : B + 61 < 2 ^ 25) (hp : p ≤ 4) (M : zM) (h3 : M.1 8 0 3 = nI p) (h6 : M.1 8 0 6 = nI n) (h8 : M.1 8 0 8 = zNF) (h4 : M.1 8 0 4 = 0) (hW : zW B (M.1 29 0)) :
    ∃ a M' ch, zd_X8_play [zR 8 0] M = zs a M' ∧ zCq M M' ch ∧ zPy (M.1 32 0) n (M.1 29 0) a ch (M'.1 29 0) := by
  obtain ⟨Mb, Mc, R, c', τ, f, a1, a2, a3, ⟨r1, r2, r3, r4, r5⟩, a5, a6⟩ := pl_try n B hn hB M h6 h8 h4 hW
  rw [en_X8_play, bk_X8_play_0, zbv (sp_copies_29_35 M), bk_X8_play_11, zbi a1, bk_X8_play_15, zbv a2, bk_X8_play_27]
  cases R with
  | some q =>
    refine ⟨-1000002, Mc, false, ?_, ⟨r1, r2, fun k hk => r4 k (by omega), by rw [if_neg (by decide)]; exact ⟨r4 3 (by omega), r3⟩⟩, f, some q, c', τ, a3, Or.inl ⟨(fun z => by cases z), rfl, rfl, r5⟩⟩
    rw [if_pos (show zbI (Option.isNone (some q)) = 0 from rfl), bk_X8_play_31]
  | none =>
    have g3 : Mc.1 8 0 3 = nI p := (r4 3 (by omega)).trans h3
    have g4 : Mc.1 8 0 4 = 0 := (r4 4 (by omega)).trans h4
    have g6 : Mc.1 8 0 6 = nI n := (r4 6 (by omega)).trans h6
    have g8 : Mc.1 8 0 8 = zNF := (r4 8 (by omega)).trans h8
    obtain ⟨Md, e2, k1, k2, k3, k4⟩ := sp_chg Mc (Or.inr ⟨g4, p, hp, g3⟩)
    have d29 : Md.1 29 0 = Mc.1 29 0 := k2 29 0 (by decide) (by decide)
    have d32 : Md.1 32 0 = M.1 32 0 := (k2 32 0 (by decide) (by decide)).trans (r2 32 0 (by decide) (by decide) (by decide) (by decide) (by decide) (by decide) (by decide))
    obtain ⟨Me, R', c'', x1, ⟨b1, b2, b3, b4, b5⟩, x3, x4, x5⟩ := sp_plays n B hn hB Md ((k3 6 (by decide)).trans g6) ((k3 8 (by decide)).trans g8) (by rw [d29]; exact hW.cg r5)
    rw [d32, d29] at x3
    have hi : zHi M Me := by
      rcases k4 with ⟨z, -⟩ | ⟨-, q, hq, z3, z5, z6, z7⟩
      · exact absurd g4 z
      · have e : q = p := by rw [g3, nI_eq (by omega) (by omega)] at z3; exact z3.symm
        subst e
        refine Or.inr ⟨h4, q, hq, h3, (b5 3 (by omega)).trans z5, fun j hj => ?_, fun i j hi hj => ?_⟩
        · rw [b3, z6 j hj]; exact r5 j hj
        · rw [b3, z7 i j hi hj, r3]
    refine ⟨if R' = none then nI c'' else -1000004, Me, true, ?_, ⟨(b1.trans k1).trans r1, fun c n q1 q2 q3 q4 q5 q6 q7 => (b2 c n q1 q2 q3 q4 q5 q7).trans ((k2 c n q2 q7).trans (r2 c n q1 q2 q3 q4 q5 q6 q7)), fun k hk => ?_, by rw [if_pos rfl]; exact hi⟩, f, none, c', τ, a3, Or.inr ⟨rfl, rfl, Mc.1 29 0, Md.1 34 0, R', c'', r5, x3, rfl⟩⟩
    · rw [if_neg (show ¬ zbI (Option.isNone (none : Option (Nat × Int32 × Int32))) = 0 by decide), bk_X8_play_34, zbv e2, bk_X8_play_38, zbi x1, bk_X8_play_42]
      cases R' with
      | none => rw [if_neg (show ¬ zbI (Option.isNone (none : Option (Nat × Int32 × Int32))) = 0 by decide), if_pos rfl, bk_X8_play_45, bk_X8_play_54, x4 rfl]
      | some q => rw [if_pos (show zbI (Option.isNone (some q)) = 0 from rfl), if_neg (fun z => by cases z), bk_X8_play_52, bk_X8_play_54]
    · rcases Nat.decEq k 4 with h | h
      · rw [b5 k (by omega), k3 k (by omega), r4 k (by omega)]
      · rw [h, b4, h4]
