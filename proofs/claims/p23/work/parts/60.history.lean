-- ===== the class: the history =====
/-- the history holds p states, the places ad -/
def zHs (M : zM) (p : Nat) (ad : Nat → Nat) : Prop := M.1 2 0 1 = nI p ∧ (∀ i, i < 5 → M.2.2 i = some (ad i)) ∧ (∀ i, i < 5 → 2 ≤ ad i ∧ ad i < 7) ∧ ∀ i j, i < 5 → j < 5 → ad i = ad j → i = j
theorem ch_prepare {M : zM} {p : Nat} {ad : Nat → Nat} {σ : Nat → Int32} (hp : p ≤ 4) (hH : zHs M p ad) (hC : zCo M) (hG : zGS M 0 σ) : ∃ M', zd_X2_prepare [zR 2 0, zR 4 0] M = some (none, M') ∧ zGS M' (ad p) σ ∧ zFS M M' (ad p) := by
  obtain ⟨h1, h2, h3, h4⟩ := hH
  have ha := h3 p (by omega)
  obtain ⟨M', e, g, f⟩ := cp_state_copy (k := ad p) (k2 := 0) (by omega) (fun b hb => hC (ad p) ha.2 b hb) hG
  refine ⟨M', ?_, g, f⟩
  have em : (if (4 : Int32) < nI p then (4 : Int32) else nI p) = nI p := if_neg (by rw [show (4 : Int32) = nI 4 from rfl]; exact nI_nlt hp (by omega))
  have hM : zd_X2_prepare [zR 2 0, zR 4 0] M = zev zC_X2_prepare 13 ([some (zR 2 0), some (zR 4 0), none], [.inr (.inr ((M.2.2 p).map (fun q => (4, q))))], M) := by
    rw [en_X2_prepare, bk_X2_prepare_0, h1, em, if_neg (ix_in (show p < 5 by omega) (by decide)), ix_cl (by omega)]
  rw [hM, h2 p (by omega)]
  show zev zC_X2_prepare 13 ([some (zR 2 0), some (zR 4 0), none], [zR 4 (ad p)], M) = _
  rw [bk_X2_prepare_13r, bk_X2_prepare_18r, zbv e, bk_X2_prepare_23]
theorem ch_drop_loop (a0 : Nat) (ad : Nat → Nat) (A : (Nat → Nat → Nat → Int32)) (J : Nat → Nat → Nat → Int64) : ∀ (j i : Nat) (r : Nat → Option Nat), i + j = 4 → (∀ t, t < 5 → r t = some (if t < i then ad (t + 1) else ad t)) →
    ∃ r', zev zC_X2_dropOldest 9 ([some (zR 2 0), some (zR 4 a0), some (zI (nI i))], [], (A, J, r)) = zev zC_X2_dropOldest 34 ([some (zR 2 0), some (zR 4 a0), some (zI (nI 4))], [], (A, J, r')) ∧ ∀ t, t < 5 → r' t = some (if t < 4 then ad (t + 1) else ad t) := by
  intro j
  induction j with
  | zero =>
    intro i r e h
    have ei : i = 4 := by omega
    subst ei
    exact ⟨r, by rw [bk_X2_dropOldest_9r, if_pos (by decide)], h⟩
  | succ j ih =>
    intro i r e h
    have hr := h (i + 1) (by omega)
    rw [if_neg (by omega)] at hr
    have step : zev zC_X2_dropOldest 9 ([some (zR 2 0), some (zR 4 a0), some (zI (nI i))], [], (A, J, r)) = zev zC_X2_dropOldest 9 ([some (zR 2 0), some (zR 4 a0), some (zI (nI (i + 1)))], [], (A, J, va_up r i (some (ad (i + 1))))) := by
      rw [bk_X2_dropOldest_9r, show (4 : Int32) = nI 4 from rfl, if_neg (nI_ge (by omega) (by omega)), bk_X2_dropOldest_14r, nI_1, if_neg (ix_in (show i + 1 < 5 by omega) (by decide)), ix_cl (by omega)]
      dsimp only
      rw [hr]
      show zev zC_X2_dropOldest 27 ([some (zR 2 0), some (zR 4 a0), some (zI (nI i))], [zR 4 (ad (i + 1)), zI (nI i), zR 28 0], (A, J, r)) = _
      rw [bk_X2_dropOldest_27rr, if_neg (ix_in (show i < 5 by omega) (by decide)), ix_cl (by omega), bk_X2_dropOldest_28r, nI_1]
    obtain ⟨r', e1, e2⟩ := ih (i + 1) (va_up r i (some (ad (i + 1)))) (by omega) (fun t ht => by
      by_cases q : t = i
      · rw [q, va_up_self, if_pos (by omega)]
      · rw [va_up_ne r _ q, h t ht]
        by_cases q2 : t < i
        · rw [if_pos q2, if_pos (by omega)]
        · rw [if_neg q2, if_neg (by omega)])
    exact ⟨r', step.trans e1, e2⟩
/-- one more state is kept -/
theorem ch_keep {M : zM} {p : Nat} {ad : Nat → Nat} (hp : p ≤ 4) (hH : zHs M p ad) : ∃ M' ad', zd_X2_keep [zR 2 0] M = some (none, M') ∧ zHs M' (Nat.min (p + 1) 4) ad' ∧ (∀ i, i < Nat.min (p + 1) 4 → ad' i = ad (i + (p + 1 - Nat.min (p + 1) 4))) ∧ M'.2.1 = M.2.1 ∧ ∀ c m, ¬ (c = 2 ∧ m = 0) → M'.1 c m = M.1 c m := by
  obtain ⟨h1, h2, h3, h4⟩ := hH
  have s1 : (zst M.1 2 0 (upd (M.1 2 0) 1 (nI (p + 1)))) 2 0 1 = nI (p + 1) := by rw [zst_self, upd_s]
  have e0 : zd_X2_keep [zR 2 0] M = zev zC_X2_keep 10 ([some (zR 2 0)], [], (zst M.1 2 0 (upd (M.1 2 0) 1 (nI (p + 1))), M.2)) := by rw [en_X2_keep, bk_X2_keep_0, h1, nI_1]
  by_cases c : p < 4
  · have em : Nat.min (p + 1) 4 = p + 1 := Nat.min_eq_left (by omega)
    rw [em]
    refine ⟨(zst M.1 2 0 (upd (M.1 2 0) 1 (nI (p + 1))), M.2), ad, ?_, ⟨s1, h2, h3, h4⟩, fun i hi => by rw [show i + (p + 1 - (p + 1)) = i by omega], rfl, fun c m h => zst_ne M.1 _ h⟩
    have hle : nI (p + 1) ≤ nI 4 := nI_le (by omega) (by decide)
    rw [e0, bk_X2_keep_10]
    simp only [s1]
    rw [if_pos (show nI (p + 1) ≤ 4 from hle), bk_X2_keep_22]
  · have ep : p = 4 := by omega
    subst ep
    obtain ⟨r', e1, e2⟩ := ch_drop_loop (ad 0) ad (zst M.1 2 0 (upd (M.1 2 0) 1 (nI (4 + 1)))) M.2.1 4 0 M.2.2 rfl (fun t ht => by rw [if_neg (by omega)]; exact h2 t ht)
    have ea : ∀ t, t < 5 → va_up r' 4 (some (ad 0)) t = some (if t = 4 then ad 0 else ad (t + 1)) := fun t ht => by
      by_cases q : t = 4
      · rw [q, va_up_self, if_pos rfl]
      · rw [va_up_ne r' _ q, e2 t ht, if_pos (by omega), if_neg q]
    refine ⟨(zst (zst M.1 2 0 (upd (M.1 2 0) 1 (nI (4 + 1)))) 2 0 (upd ((zst M.1 2 0 (upd (M.1 2 0) 1 (nI (4 + 1)))) 2 0) 1 (nI 4)), M.2.1, va_up r' 4 (some (ad 0))), fun t => if t = 4 then ad 0 else ad (t + 1), ?_, ⟨by dsimp only; rw [zst_self, upd_s]; rfl, ea, fun i hi => ?_, fun i j hi hj q => ?_⟩, fun i hi => ?_, rfl, fun c m h => (zst_ne _ _ h).trans (zst_ne M.1 _ h)⟩
    · rw [e0, bk_X2_keep_10]
      simp only [s1]
      rw [if_neg (show ¬ nI (4 + 1) ≤ 4 by decide), bk_X2_keep_18]
      have hd : zd_X2_dropOldest [zR 2 0] (zst M.1 2 0 (upd (M.1 2 0) 1 (nI (4 + 1))), M.2) = some (none, (zst (zst M.1 2 0 (upd (M.1 2 0) 1 (nI (4 + 1)))) 2 0 (upd ((zst M.1 2 0 (upd (M.1 2 0) 1 (nI (4 + 1)))) 2 0) 1 (nI 4)), M.2.1, va_up r' 4 (some (ad 0)))) := by
        rw [en_X2_dropOldest, bk_X2_dropOldest_0]
        dsimp only
        rw [h2 0 (by omega)]
        show zev zC_X2_dropOldest 6 ([some (zR 2 0), none, none], [zR 4 (ad 0)], _) = _
        rw [bk_X2_dropOldest_6r]
        refine Eq.trans e1 ?_
        rw [bk_X2_dropOldest_34r, bk_X2_dropOldest_41r, bk_X2_dropOldest_51r]
        dsimp only
        rw [s1]
        rfl
      rw [zbv hd, bk_X2_keep_22]
    · dsimp only
      split
      · exact h3 0 (by omega)
      · exact h3 (i + 1) (by omega)
    · dsimp only at q
      by_cases qi : i = 4
      · by_cases qj : j = 4
        · omega
        · rw [if_pos qi, if_neg qj] at q
          have := h4 0 (j + 1) (by omega) (by omega) q
          omega
      · by_cases qj : j = 4
        · rw [if_neg qi, if_pos qj] at q
          have := h4 (i + 1) 0 (by omega) (by omega) q
          omega
        · rw [if_neg qi, if_neg qj] at q
          have := h4 (i + 1) (j + 1) (by omega) (by omega) q
          omega
    · have em : Nat.min (4 + 1) 4 = 4 := rfl
      rw [em] at hi ⊢
      dsimp only
      rw [if_neg (by omega)]
theorem ch_kept {M : zM} {p : Nat} {ad : Nat → Nat} {a : Int32} (ha : ¬ a < 0) (hp : p ≤ 4) (hH : zHs M p ad) : ∃ M' ad', zd_X7_kept [zR 7 0, zI a] M = zs a M' ∧ zHs M' (Nat.min (p + 1) 4) ad' ∧ (∀ i, i < Nat.min (p + 1) 4 → ad' i = ad (i + (p + 1 - Nat.min (p + 1) 4))) ∧ M'.2.1 = M.2.1 ∧ ∀ c m, ¬ (c = 2 ∧ m = 0) → M'.1 c m = M.1 c m := by
  obtain ⟨M', ad', e, h⟩ := ch_keep hp hH
  exact ⟨M', ad', by rw [en_X7_kept, bk_X7_kept_0, if_neg ha, bk_X7_kept_4, zbv e, bk_X7_kept_11], h⟩
theorem ch_kept_n {M : zM} {a : Int32} (ha : a < 0) : zd_X7_kept [zR 7 0, zI a] M = zs a M := by
  rw [en_X7_kept, bk_X7_kept_0, if_pos ha, bk_X7_kept_11]
/-- the states that the class remembers are those of the past -/
def zPa (M : zM) (p : Nat) (ad : Nat → Nat) (P : Nat → Nat → Int32) : Prop := ∀ i, i < p → zGS M (ad i) (P i)
/-- what a call on the class leaves alone -/
def zFC (M M' : zM) : Prop := (∀ c m, c = 5 ∨ c = 8 ∨ c = 26 ∨ 29 ≤ c → M'.1 c m = M.1 c m) ∧ ∀ c m, 29 ≤ c → M'.2.1 c m = M.2.1 c m
theorem zFC.rf (M : zM) : zFC M M := ⟨fun _ _ _ => rfl, fun _ _ _ => rfl⟩
theorem zFC.tr {M M' M'' : zM} (h : zFC M M') (h' : zFC M' M'') : zFC M M'' := ⟨fun c m z => (h'.1 c m z).trans (h.1 c m z), fun c m z => (h'.2 c m z).trans (h.2 c m z)⟩
theorem zFS.fc {M M' : zM} {k : Nat} (h : zFS M M' k) : zFC M M' := ⟨fun c m z => h.2.1 c m (by unfold zOw; omega), fun c m z => h.2.2 c m (by unfold zOj; omega)⟩
theorem zGS.k2 {M M' : zM} {k : Nat} {σ : Nat → Int32} (hG : zGS M k σ) (hj : M'.2.1 = M.2.1) (hi : ∀ c m, ¬ (c = 2 ∧ m = 0) → M'.1 c m = M.1 c m) : zGS M' k σ := hG.fr (fun c m z => hi c m (by unfold zOw at z; omega)) (fun c m _ => by rw [hj])
theorem zFS.hs {M M' : zM} {p k : Nat} {ad : Nat → Nat} (h : zFS M M' k) (hH : zHs M p ad) : zHs M' p ad := ⟨by rw [h.2.1 2 0 (by unfold zOw; omega)]; exact hH.1, fun i hi => by rw [h.1]; exact hH.2.1 i hi, hH.2.2⟩
theorem zFS.co {M M' : zM} {k : Nat} {σ : Nat → Int32} (h : zFS M M' k) (hG : zGS M' k σ) (hC : zCo M) : zCo M' := fun i hi b hb => by
  by_cases e : i = k
  · subst e
    obtain ⟨N, -, -, -, hB, -⟩ := hG
    exact (hB b hb).1
  · rw [h.2.1 0 _ (by unfold zOw; omega)]; exact hC i hi b hb
/-- what the class is: now σ, p states of the past -/
def zCS (M : zM) (σ : Nat → Int32) (p : Nat) (P : Nat → Nat → Int32) : Prop := p ≤ 4 ∧ zGS M 0 σ ∧ zCo M ∧ ∃ ad, zHs M p ad ∧ zPa M p ad P
/-- a change of the class: the answer is no error -/
def zPs (p : Nat) (P : Nat → Nat → Int32) (σ : Nat → Int32) : Nat → Nat → Int32 := fun i => if i + 1 = Nat.min (p + 1) 4 then σ else P (i + (p + 1 - Nat.min (p + 1) 4))
theorem ch_change {M : zM} {σ τ : Nat → Int32} {p : Nat} {P : Nat → Nat → Int32} {a : Int32} (f : zM → Option zQ) (h : zCS M σ p P) (hf : ∀ M1, zGS M1 0 σ → zFC M M1 → (∀ ρ, zGS M 1 ρ → zGS M1 1 ρ) → ∃ M2, f M1 = zs a M2 ∧ zGS M2 0 τ ∧ zFS M1 M2 0) :
    ∃ M1 M2 M3, zd_X2_prepare [zR 2 0, zR 4 0] M = some (none, M1) ∧ f M1 = zs a M2 ∧ zd_X7_kept [zR 7 0, zI a] M2 = zs a M3 ∧ zFC M M3 ∧ (a < 0 → zCS M3 τ p P) ∧ (¬ a < 0 → zCS M3 τ (Nat.min (p + 1) 4) (zPs p P σ)) := by
  obtain ⟨hp, hG, hC, ad, hH, hP⟩ := h
  have had := hH.2.2.1
  have hinj := hH.2.2.2
  obtain ⟨M1, e1, g1, f1⟩ := ch_prepare hp hH hC hG
  have hG1 : zGS M1 0 σ := f1.gs (by have := had p (by omega); omega) hG
  obtain ⟨M2, e2, g2, f2⟩ := hf M1 hG1 f1.fc (fun ρ g => f1.gs (by have := had p (by omega); omega) g)
  have C1 := f1.co g1 hC
  have C2 := f2.co g2 C1
  have H1 := f1.hs hH
  have H2 := f2.hs H1
  have P1 : ∀ i, i < p → zGS M2 (ad i) (P i) := fun i hi => f2.gs (by have := had i (by omega); omega) (f1.gs (fun z => by have := hinj i p (by omega) (by omega) z; omega) (hP i hi))
  have S1 : zGS M2 (ad p) σ := f2.gs (by have := had p (by omega); omega) g1
  by_cases ha : a < 0
  · exact ⟨M1, M2, M2, e1, e2, ch_kept_n ha, f1.fc.tr f2.fc, fun _ => ⟨hp, g2, C2, ad, H2, P1⟩, fun z => absurd ha z⟩
  · obtain ⟨M3, ad', e3, H3, ea, j3, i3⟩ := ch_kept ha hp H2
    have hm : Nat.min (p + 1) 4 ≤ 4 := Nat.min_le_right _ _
    have hm1 : Nat.min (p + 1) 4 ≤ p + 1 := Nat.min_le_left _ _
    refine ⟨M1, M2, M3, e1, e2, e3, (f1.fc.tr f2.fc).tr ⟨fun c m z => i3 c m (by omega), fun c m _ => by rw [j3]⟩, fun z => absurd z ha, fun _ => ⟨hm, g2.k2 j3 i3, fun k hk b hb => by rw [i3 0 _ (by omega)]; exact C2 k hk b hb, ad', H3, fun i hi => ?_⟩⟩
    rw [ea i hi]
    unfold zPs
    by_cases q : i + 1 = Nat.min (p + 1) 4
    · rw [if_pos q, show i + (p + 1 - Nat.min (p + 1) 4) = p by omega]
      exact S1.k2 j3 i3
    · rw [if_neg q]
      exact (P1 _ (by omega)).k2 j3 i3
