-- ===== both sides: fault and play =====
theorem zFT.cs {M M' : zM} {σ τ : Nat → Int32} {p : Nat} {P : Nat → Nat → Int32} (h : zFT M M') (h1 : zGS M' 1 τ) (hC : zCS M σ p P) : zCS M' σ p P := by
  obtain ⟨c1, c2, c3, ad, ⟨c4, c5, c6, c7⟩, c8⟩ := hC
  have gs : ∀ k ρ, k ≠ 1 → zGS M k ρ → zGS M' k ρ := fun k ρ hk g => g.fr (fun c m z => h.2.1 c m (by unfold zOw at z ⊢; omega) (by unfold zOw at z; omega) (by unfold zOw at z; omega) (by unfold zOw at z; omega)) (fun c m z => h.2.2 c m (by unfold zOj at z ⊢; omega))
  refine ⟨c1, gs 0 _ (by decide) c2, fun k hk b hb => ?_, ad, ⟨by rw [h.2.1 2 0 (by unfold zOw; omega) (by omega) (by omega) (by omega)]; exact c4, fun i hi => by rw [h.1]; exact c5 i hi, c6, c7⟩, fun i hi => gs _ _ (by have := c6 i (by omega); omega) (c8 i hi)⟩
  by_cases e : k = 1
  · subst e
    obtain ⟨N, -, -, -, hB, -⟩ := h1
    exact (hB b hb).1
  · rw [h.2.1 0 _ (by unfold zOw; omega) (by omega) (by omega) (by omega)]
    exact c3 k hk b hb
theorem cf_fault {n B : Nat} {T σ f τ : Nat → Int32} {M : zM} {R : Option (Nat × Int32 × Int32)} {c' : Nat} {i : Int32} (hi : 0 ≤ i ∧ i ≤ 2) (h : zPl T n (n + 1) 0 f σ 0 R c' τ) (hW : zW B σ) (hB : B + 61 < 2 ^ 25) (hC : zCo M) (hG : zGS M 0 σ) (hT : zTx M n T) (hL : zLtt M) :
    ∃ M', zd_X7_fault [zR 7 0, zI i] M = zs (zFv R i) M' ∧ zGS M' 1 τ ∧ zFT M M' := by
  obtain ⟨M', x, e1, -, -, ⟨k0, k1⟩, g, t⟩ := co_try h hW hB hC hG hT hL
  refine ⟨M', ?_, g, t⟩
  rw [en_X7_fault, bk_X7_fault_0, if_neg (i_le.mp hi.1), bk_X7_fault_4, if_pos hi.2, bk_X7_fault_12, zbi e1, bk_X7_fault_16]
  cases R with
  | none => rw [if_pos (k0 rfl), bk_X7_fault_24]; rfl
  | some q =>
    obtain ⟨a1, a2, a3, a4⟩ := k1 q rfl
    rw [if_neg (by rw [a2]; exact a4), bk_X7_fault_27]
    unfold zFv
    dsimp only
    by_cases c1 : i = 0
    · rw [if_pos c1, if_pos c1, bk_X7_fault_56, a1]
    · rw [if_neg c1, if_neg c1]
      by_cases c2 : i = 1
      · rw [if_pos c2, if_pos c2, bk_X7_fault_61, a2]
      · rw [if_neg c2, if_neg c2, bk_X7_fault_66, a3]
theorem iv_fault {B : Nat} {M : zM} (hB : B + 61 < 2 ^ 25) (h : zInv B M) (i : Int32) : ∃ a M2 M3, zd_X7_fault [zR 7 0, zI i] M = zs a M2 ∧ zd_X8_fault [zR 8 0, zI i] M2 = zs a M3 ∧ zLw M M2 ∧ zInv (B + 61) M3 ∧ zLw M M3 := by
  obtain ⟨hWM, hL, h8, h4, ⟨n, h6, hT⟩, p, h3, hC, hP⟩ := id h
  have fin : ∀ (M2 M3 : zM), zFC M M2 → zCS M2 (M.1 29 0) p (zSl M) → zRz M2 M3 → zLw M M2 ∧ zInv (B + 61) M3 ∧ zLw M M3 := by
    intro M2 M3 fc c2 rz
    have f8 := rz.f8
    have e29 : ∀ j, j < 228 → M3.1 29 0 j = M.1 29 0 j := fun j hj => by rw [rz.2.2.2.2 j hj, fc 29 0 (by omega)]
    have e30 : M3.1 30 0 = M.1 30 0 := by rw [rz.2.2.1, fc 30 0 (by omega)]
    have e8 : ∀ k, k = 3 ∨ k = 4 ∨ k = 6 ∨ k = 8 → M3.1 8 0 k = M.1 8 0 k := fun k hk => by rw [rz.2.2.2.1 k hk, fc 8 0 (by omega)]
    have e32 : M3.1 32 0 = M.1 32 0 := by rw [rz.2.1 32 0 (by decide) (by decide) (by decide) (by decide) (by decide) (by decide) (by decide), fc 32 0 (by omega)]
    refine ⟨fc.lw, ⟨(hWM.mono (by omega)).cg e29, fun i hi => by rw [f8.2 40 0 (by omega) (by omega), fc 40 0 (by omega)]; exact hL i hi, (e8 8 (by omega)).trans h8, (e8 4 (by omega)).trans h4, ⟨n, (e8 6 (by omega)).trans h6, hT.1, by rw [f8.2 5 0 (by omega) (by omega), fc 5 0 (by omega)]; exact hT.2.1, fun i hi => by rw [f8.2 26 0 (by omega) (by omega), fc 26 0 (by omega), e32]; exact hT.2.2 i hi⟩, p, (e8 3 (by omega)).trans h3, (f8.cs c2).cg e29 (fun i j _ _ => by unfold zSl; rw [e30]), fun i hi => ((hP i hi).mono (by omega)).cg (fun j _ => by unfold zSl; rw [e30])⟩, fc.lw.tr f8.lw⟩
  have hn := hT.1
  by_cases c : 0 ≤ i ∧ i ≤ 2
  · have cls : ∀ a, zFa (M.1 32 0) n (M.1 29 0) i a → ∃ M2, zd_X7_fault [zR 7 0, zI i] M = zs a M2 ∧ zFC M M2 ∧ zCS M2 (M.1 29 0) p (zSl M) := by
      intro a fa
      rcases fa with ⟨z, -⟩ | ⟨-, f, R, c', τ, hp, rfl⟩
      · exact absurd c z
      · obtain ⟨M2, e, g, t⟩ := cf_fault c hp hWM hB hC.2.2.1 hC.2.1 hT hL
        exact ⟨M2, e, t.fc, t.cs g hC⟩
    obtain ⟨a0, Mx, -, -, fa0⟩ := sp_fault n B i hn hB M h6 h8 h4 hWM
    obtain ⟨M2, e2, fc, c2⟩ := cls a0 fa0
    have x8 : M2.1 8 0 = M.1 8 0 := fc 8 0 (by omega)
    have x29 : M2.1 29 0 = M.1 29 0 := fc 29 0 (by omega)
    have x32 : M2.1 32 0 = M.1 32 0 := fc 32 0 (by omega)
    obtain ⟨a, M3, e3, rz, fa⟩ := sp_fault n B i hn hB M2 (by rw [x8]; exact h6) (by rw [x8]; exact h8) (by rw [x8]; exact h4) (by rw [x29]; exact hWM)
    rw [x29, x32] at fa
    obtain ⟨M2', e2', -, -⟩ := cls a fa
    obtain ⟨ea, em⟩ := zs_inj (e2.symm.trans e2')
    subst ea
    exact ⟨a0, M2, M3, e2, e3, fin M2 M3 fc c2 rz⟩
  · have e2 : zd_X7_fault [zR 7 0, zI i] M = zs (-1000001) M := by
      rw [en_X7_fault, bk_X7_fault_0]
      by_cases c1 : i < 0
      · rw [if_pos c1, bk_X7_fault_9]
      · rw [if_neg c1, bk_X7_fault_4, if_neg (fun z => c ⟨i_le.mpr c1, z⟩), bk_X7_fault_9]
    obtain ⟨a, M3, e3, rz, fa⟩ := sp_fault n B i hn hB M h6 h8 h4 hWM
    rcases fa with ⟨-, rfl⟩ | ⟨z, -⟩
    · exact ⟨-1000001, M, M3, e2, e3, fin M M3 (zFC.rf M) hC rz⟩
    · exact absurd z c
theorem pl_W {T : Nat → Int32} {n : Nat} : ∀ (k p c B : Nat) (f σ τ : Nat → Int32) (R : Option (Nat × Int32 × Int32)) (c' : Nat), zPl T n k p f σ c R c' τ → zW B σ → B + k < 2 ^ 25 → zW (B + k) τ := by
  intro k
  induction k with
  | zero => intro p c B f σ τ R c' h; exact absurd h id
  | succ k ih =>
    intro p c B f σ τ R c' h hW hB
    rcases h with ⟨-, -, -, rfl⟩ | ⟨-, ⟨-, -, rfl⟩ | ⟨-, a, ρ, t, ⟨-, -, rfl⟩ | ⟨-, h⟩⟩⟩
    · exact hW.mono (by omega)
    · exact hW.mono (by omega)
    · exact (W_o (by omega) hW t).mono (by omega)
    · exact (ih _ _ (B + 1) _ _ _ _ _ h (W_o (by omega) hW t) (by omega)).mono (by omega)
/-- a call without an answer, then an answer -/
def zcna (a : Int32) (o : Option zQ) : Option zQ := match o with
  | some (none, M) => zs a M
  | _ => none
theorem zcn_of {a : Int32} {o : Option zQ} {M : zM} (h : zcna a o = zs a M) : o = some (none, M) := by
  unfold zcna at h
  split at h
  · rw [(zs_inj h).2]
  · cases h
theorem cp_play {n B p : Nat} {T σ τ : Nat → Int32} {P : Nat → Nat → Int32} {M : zM} {a : Int32} {ch : Bool} (h : zPy T n σ a ch τ) (hW : zW B σ) (hB : B + 61 < 2 ^ 25) (hC : zCS M σ p P) (hT : zTx M n T) (hL : zLtt M) :
    ∃ M', zd_X7_play [zR 7 0] M = zs a M' ∧ zFC M M' ∧ (ch = false → zCS M' τ p P) ∧ (ch = true → zCS M' τ (Nat.min (p + 1) 4) (zPs p P σ)) := by
  obtain ⟨f, R, c', ρ, hp, h⟩ := h
  obtain ⟨M1, x, e1, x1, x2, ⟨k0, k1⟩, g1, t1⟩ := co_try hp hW hB hC.2.2.1 hC.2.1 hT hL
  have C1 := t1.cs g1 hC
  rcases h with ⟨hR, rfl, rfl, ht⟩ | ⟨hR, rfl, σ', f', R', c'', hs, hp', rfl⟩
  · obtain ⟨q, rfl⟩ := Option.ne_none_iff_exists'.mp hR
    obtain ⟨-, a2, -, a4⟩ := k1 q rfl
    refine ⟨M1, by rw [en_X7_play, bk_X7_play_0, zbi e1, bk_X7_play_4, if_neg (by rw [a2]; exact a4), bk_X7_play_12], t1.fc, fun _ => C1.cg ht (fun _ _ _ _ => rfl), fun z => by cases z⟩
  · subst hR
    obtain ⟨M1', x', e1', x1', -, ⟨k0', k1'⟩, g1', -⟩ := co_try hp' (hW.cg hs) hB hC.2.2.1 (hC.2.1.cg hs) hT hL
    obtain ⟨ex, em⟩ := zs_inj (e1.symm.trans e1')
    subst em
    have hR' : R' = none := by
      cases R' with
      | none => rfl
      | some q =>
        obtain ⟨-, a2, -, a4⟩ := k1' q rfl
        exact absurd (a2.symm.trans (k0 rfl)) a4
    rw [if_pos hR', ← x1' hR', ← ex]
    obtain ⟨Ma, Mb, Mc, b1, b2, b3, fc, -, c2⟩ := ch_change (a := nI x) (τ := τ) (fun N => zcna (nI x) (zd_X4_copyFrom [zR 4 0, zR 4 1] N)) C1 (fun N gN _ k1N => by
      obtain ⟨N', e, g, f⟩ := cp_state_copy (k := 0) (k2 := 1) (by decide) (fun b hb => by
        obtain ⟨N0, -, -, -, hBN, -⟩ := gN
        exact (hBN b hb).1) (k1N τ g1')
      exact ⟨N', by rw [e]; rfl, g, f⟩)
    have e3 : zd_X4_copyFrom [zR 4 0, zR 4 1] Ma = some (none, Mb) := zcn_of b2
    refine ⟨Mc, ?_, t1.fc.tr fc, fun z => (by cases z), fun _ => c2 (nI_pos (by omega))⟩
    rw [en_X7_play, bk_X7_play_0, zbi e1, bk_X7_play_4, if_pos (k0 rfl), bk_X7_play_15, zbv b1, bk_X7_play_26, zbv e3, bk_X7_play_37, zbi b3, bk_X7_play_42]
theorem iv_play {B : Nat} {M : zM} (hB : B + 61 < 2 ^ 25) (h : zInv B M) : ∃ a M2 M3, zd_X7_play [zR 7 0] M = zs a M2 ∧ zd_X8_play [zR 8 0] M2 = zs a M3 ∧ zLw M M2 ∧ zInv (B + 61) M3 ∧ zLw M M3 := by
  obtain ⟨hWM, hL, h8, h4, ⟨n, h6, hT⟩, p, h3, hC, hP⟩ := id h
  have hn := hT.1
  have hp := hC.1
  obtain ⟨a0, Mx, ch0, -, -, py0⟩ := sp_play n B p hn hB hp M h3 h6 h8 h4 hWM
  obtain ⟨M2, e2, fc, -, -⟩ := cp_play py0 hWM hB hC hT hL
  have x8 : M2.1 8 0 = M.1 8 0 := fc 8 0 (by omega)
  have x29 : M2.1 29 0 = M.1 29 0 := fc 29 0 (by omega)
  have x30 : M2.1 30 0 = M.1 30 0 := fc 30 0 (by omega)
  have x32 : M2.1 32 0 = M.1 32 0 := fc 32 0 (by omega)
  obtain ⟨a, M3, ch, e3, q3, py⟩ := sp_play n B p hn hB hp M2 (by rw [x8]; exact h3) (by rw [x8]; exact h6) (by rw [x8]; exact h8) (by rw [x8]; exact h4) (by rw [x29]; exact hWM)
  rw [x29, x32] at py
  obtain ⟨M2', e2', -, k1, k2⟩ := cp_play py hWM hB hC hT hL
  obtain ⟨ea, em⟩ := zs_inj (e2.symm.trans e2')
  subst ea em
  have f8 := q3.f8
  obtain ⟨-, q2, q8, qh⟩ := q3
  have e8 : ∀ k, k = 4 ∨ k = 6 ∨ k = 8 → M3.1 8 0 k = M.1 8 0 k := fun k hk => by rw [q8 k hk, x8]
  have e32 : M3.1 32 0 = M.1 32 0 := by rw [q2 32 0 (by decide) (by decide) (by decide) (by decide) (by decide) (by decide) (by decide), x32]
  have hW3 : zW (B + 61) (M3.1 29 0) := by
    obtain ⟨f, R, c', ρ, hpl, hh⟩ := py
    rcases hh with ⟨-, -, -, ht⟩ | ⟨-, -, σ', f', R', c'', hs, hp', -⟩
    · exact (hWM.mono (by omega)).cg ht
    · exact (pl_W _ _ _ _ _ _ _ _ _ hp' (hWM.cg hs) (by omega)).mono (by omega)
  refine ⟨a0, M2, M3, e2, e3, fc.lw, ⟨hW3, fun i hi => by rw [f8.2 40 0 (by omega) (by omega), fc 40 0 (by omega)]; exact hL i hi, (e8 8 (by omega)).trans h8, (e8 4 (by omega)).trans h4, ⟨n, (e8 6 (by omega)).trans h6, hT.1, by rw [f8.2 5 0 (by omega) (by omega), fc 5 0 (by omega)]; exact hT.2.1, fun i hi => by rw [f8.2 26 0 (by omega) (by omega), fc 26 0 (by omega), e32]; exact hT.2.2 i hi⟩, ?_⟩, fc.lw.tr f8.lw⟩
  cases ch with
  | false =>
    rw [if_neg (by decide)] at qh
    have e30 : M3.1 30 0 = M.1 30 0 := qh.2.trans x30
    exact ⟨p, by rw [qh.1, x8]; exact h3, (f8.cs (k1 rfl)).cg (fun _ _ => rfl) (fun i j _ _ => by unfold zSl; rw [e30]), fun i hi => ((hP i hi).mono (by omega)).cg (fun j _ => by unfold zSl; rw [e30])⟩
  | true =>
    rw [if_pos rfl] at qh
    rcases qh with ⟨z, -⟩ | ⟨-, p', hp', z3, z5, z6, z7⟩
    · exact absurd (by rw [x8]; exact h4) z
    · have ep : p' = p := by
        rw [x8, h3, nI_eq (by omega) (by omega)] at z3
        exact z3.symm
      subst ep
      have hm : 1 ≤ Nat.min (p' + 1) 4 := Nat.le_min.mpr ⟨by omega, by omega⟩
      have hm2 : Nat.min (p' + 1) 4 ≤ p' + 1 := Nat.min_le_left _ _
      have hsl : ∀ i j, i < Nat.min (p' + 1) 4 → j < 228 → zSl M3 i j = zPs p' (zSl M) (M.1 29 0) i j := by
        intro i j hi hj
        unfold zSl zPs
        by_cases q : i + 1 = Nat.min (p' + 1) 4
        · rw [if_pos q]
          have := z6 j hj
          rw [show Nat.min (p' + 1) 4 - 1 = i by omega, x29] at this
          exact this
        · rw [if_neg q, z7 i j (by omega) hj, x30]
      refine ⟨Nat.min (p' + 1) 4, z5, (f8.cs (k2 rfl)).cg (fun _ _ => rfl) (fun i j hi hj => hsl i j hi hj), fun i hi => ?_⟩
      have hw : zW (B + 61) (zPs p' (zSl M) (M.1 29 0) i) := by
        unfold zPs
        split
        · exact hWM.mono (by omega)
        · exact (hP _ (by omega)).mono (by omega)
      exact hw.cg (fun j hj => hsl i j hi hj)
