-- ===== both objects side by side =====
/-- a step of the reference -/
def zFr8 (M M' : zM) : Prop := M'.2 = M.2 ∧ ∀ c m, c ≠ 8 → ¬ (29 ≤ c ∧ c ≤ 35) → M'.1 c m = M.1 c m
theorem zRf.f8 {M M' : zM} (h : zRf M M') : zFr8 M M' := ⟨h.1, fun c m a b => h.2.1 c m (by omega) (by omega) (by omega) (by omega) a⟩
theorem zOp.f8 {M M' : zM} (h : zOp M M') : zFr8 M M' := ⟨h.1, fun c m a b => h.2.1 c m (by omega) (by omega) (by omega) (by omega) (by omega) (by omega) a⟩
theorem zRz.f8 {M M' : zM} (h : zRz M M') : zFr8 M M' := ⟨h.1, fun c m a b => h.2.1 c m (by omega) (by omega) (by omega) (by omega) (by omega) (by omega) a⟩
theorem zCq.f8 {M M' : zM} {ch : Bool} (h : zCq M M' ch) : zFr8 M M' := ⟨h.1, fun c m a b => h.2.1 c m (by omega) (by omega) (by omega) (by omega) (by omega) (by omega) a⟩
theorem zFr8.gs {M M' : zM} {k : Nat} {σ : Nat → Int32} (h : zFr8 M M') (hG : zGS M k σ) : zGS M' k σ := hG.fr (fun c m z => h.2 c m (by unfold zOw at z; omega) (by unfold zOw at z; omega)) (fun c m _ => by rw [h.1])
theorem zFr8.cs {M M' : zM} {σ : Nat → Int32} {p : Nat} {P : Nat → Nat → Int32} (h : zFr8 M M') (hC : zCS M σ p P) : zCS M' σ p P := by
  obtain ⟨h1, h2, h3, ad, ⟨h4, h5, h6⟩, h7⟩ := hC
  exact ⟨h1, h.gs h2, fun k hk b hb => by rw [h.2 0 _ (by omega) (by omega)]; exact h3 k hk b hb, ad, ⟨by rw [h.2 2 0 (by omega) (by omega)]; exact h4, fun i hi => by rw [h.1]; exact h5 i hi, h6⟩, fun i hi => h.gs (h7 i hi)⟩
theorem zCS.cg {M : zM} {σ σ' : Nat → Int32} {p : Nat} {P P' : Nat → Nat → Int32} (h : zCS M σ p P) (e : ∀ j, j < 228 → σ' j = σ j) (e2 : ∀ i j, i < p → j < 228 → P' i j = P i j) : zCS M σ' p P' := by
  obtain ⟨h1, h2, h3, ad, h4, h7⟩ := h
  exact ⟨h1, h2.cg e, h3, ad, h4, fun i hi => (h7 i hi).cg (fun j hj => e2 i j hi hj)⟩
/-- what the reference remembers -/
def zSl (M : zM) : Nat → Nat → Int32 := fun i j => M.1 30 0 (228 * i + j)
/-- class and reference agree -/
def zInv (B : Nat) (M : zM) : Prop := zW B (M.1 29 0) ∧ zLtt M ∧ M.1 8 0 8 = zNF ∧ M.1 8 0 4 = 0 ∧ (∃ n, M.1 8 0 6 = nI n ∧ zTx M n (M.1 32 0)) ∧ ∃ p, M.1 8 0 3 = nI p ∧ zCS M (M.1 29 0) p (zSl M) ∧ ∀ i, i < p → zW B (zSl M i)
/-- the script stays as it is -/
def zLw (M M' : zM) : Prop := ∀ c m, 40 ≤ c → M'.1 c m = M.1 c m
theorem zFC.lw {M M' : zM} (h : zFC M M') : zLw M M' := fun c m z => h c m (by omega)
theorem zFr8.lw {M M' : zM} (h : zFr8 M M') : zLw M M' := fun c m z => h.2 c m (by omega) (by omega)
theorem zLw.tr {M M' M'' : zM} (h : zLw M M') (h' : zLw M' M'') : zLw M M'' := fun c m z => (h' c m z).trans (h c m z)
theorem zInv.rn {B : Nat} {M : zM} (h : zInv B M) : zRN M := by
  obtain ⟨hW, -, h8, h4, -, p, h3, hC, -⟩ := h
  obtain ⟨N, n1, n2, -⟩ := hW.1
  exact ⟨h8, Or.inr ⟨h4, p, hC.1, h3⟩, N, n1, n2⟩
theorem zFC.rn {M M' : zM} (h : zFC M M') (hr : zRN M) : zRN M' := by
  unfold zRN zHx at hr ⊢
  rw [h 8 0 (by omega), h 29 0 (by omega)]
  exact hr
theorem zs_inj {a a' : Int32} {M M' : zM} (h : zs a M = zs a' M') : a = a' ∧ M = M' := by
  have h1 := Option.some.inj h
  have h2 := (Prod.mk.inj h1).1
  have h3 := (Prod.mk.inj h1).2
  exact ⟨Sum.inl.inj (Option.some.inj h2), h3⟩
/-- a change on both sides -/
theorem inv_change {B : Nat} {M : zM} (h : zInv B M) (T : (Nat → Int32) → Int32 → (Nat → Int32) → Prop) (f opc opr : zM → Option zQ)
    (hopc : ∀ M1 M2 M3 a, zd_X2_prepare [zR 2 0, zR 4 0] M = some (none, M1) → f M1 = zs a M2 → zd_X7_kept [zR 7 0, zI a] M2 = zs a M3 → opc M = zs a M3)
    (hcls : ∀ M1 a τ, zGS M1 0 (M.1 29 0) → zLtt M1 → T (M.1 29 0) a τ → ∃ M2, f M1 = zs a M2 ∧ zGS M2 0 τ ∧ zFS M1 M2 0)
    (href : ∀ M', zRN M' → M'.1 29 0 = M.1 29 0 → ∃ a M'', opr M' = zs a M'' ∧ zOQ M' M'' a ∧ T (M'.1 29 0) a (M''.1 29 0))
    (hW : ∀ a τ, T (M.1 29 0) a τ → zW (B + 1) τ) : ∃ a M2 M3, opc M = zs a M2 ∧ opr M2 = zs a M3 ∧ zLw M M2 ∧ zInv (B + 1) M3 ∧ zLw M M3 := by
  obtain ⟨hWM, hL, h8, h4, ⟨n, h6, hT⟩, p, h3, hC, hP⟩ := id h
  have cls : ∀ a τ, T (M.1 29 0) a τ → ∃ M3, opc M = zs a M3 ∧ zFC M M3 ∧ (a < 0 → zCS M3 τ p (zSl M)) ∧ (¬ a < 0 → zCS M3 τ (Nat.min (p + 1) 4) (zPs p (zSl M) (M.1 29 0))) := by
    intro a τ t
    obtain ⟨M1, M2, M3, e1, e2, e3, fc, c1, c2⟩ := ch_change f hC (fun M1 g1 fc _ => hcls M1 a τ g1 (fun i hi => by rw [fc 40 0 (by omega)]; exact hL i hi) t)
    exact ⟨M3, hopc M1 M2 M3 a e1 e2 e3, fc, c1, c2⟩
  obtain ⟨a0, Mx, -, -, t0⟩ := href M h.rn rfl
  obtain ⟨Mc, ec, fc, -, -⟩ := cls a0 _ t0
  have e29 : Mc.1 29 0 = M.1 29 0 := fc 29 0 (by omega)
  have e8 : Mc.1 8 0 = M.1 8 0 := fc 8 0 (by omega)
  have e30 : Mc.1 30 0 = M.1 30 0 := fc 30 0 (by omega)
  obtain ⟨a, Mr, er, qr, tr⟩ := href Mc (fc.rn h.rn) e29
  rw [e29] at tr
  obtain ⟨Mc', ec', fc', k1, k2⟩ := cls a _ tr
  obtain ⟨ea, em⟩ := zs_inj (ec.symm.trans ec')
  subst ea em
  refine ⟨a0, Mc, Mr, ec, er, fc.lw, ?_, ?_⟩
  · have hTc : zTx Mc n (M.1 32 0) := ⟨hT.1, by rw [fc 5 0 (by omega)]; exact hT.2.1, fun i hi => by rw [fc 26 0 (by omega)]; exact hT.2.2 i hi⟩
    have e32 : Mc.1 32 0 = M.1 32 0 := fc 32 0 (by omega)
    have hLc : zLtt Mc := fun i hi => by rw [fc 40 0 (by omega)]; exact hL i hi
    have f8 : zFr8 Mc Mr := by
      rcases qr with ⟨-, q⟩ | ⟨-, q⟩
      · exact q.f8
      · exact q.f8
    have hTr : zTx Mr n (M.1 32 0) := ⟨hT.1, by rw [f8.2 5 0 (by omega) (by omega)]; exact hTc.2.1, fun i hi => by rw [f8.2 26 0 (by omega) (by omega)]; exact hTc.2.2 i hi⟩
    have hLr : zLtt Mr := fun i hi => by rw [f8.2 40 0 (by omega) (by omega)]; exact hLc i hi
    have sl : ∀ k, k = 4 ∨ k = 6 ∨ k = 8 → Mr.1 8 0 k = M.1 8 0 k := by
      intro k hk
      rcases qr with ⟨-, q⟩ | ⟨-, q⟩
      · rw [q.2.2 k (by omega), e8]
      · rw [q.2.2.1 k (by omega) (by omega), e8]
    have r32 : Mr.1 32 0 = M.1 32 0 := by
      rcases qr with ⟨-, q⟩ | ⟨-, q⟩
      · rw [q.2.1 32 0 (by decide) (by decide) (by decide) (by decide) (by decide), e32]
      · rw [q.2.1 32 0 (by decide) (by decide) (by decide) (by decide) (by decide) (by decide) (by decide), e32]
    refine ⟨hW _ _ tr, hLr, (sl 8 (by omega)).trans h8, (sl 4 (by omega)).trans h4, ⟨n, (sl 6 (by omega)).trans h6, by rw [r32]; exact hTr⟩, ?_⟩
    rcases qr with ⟨qa, q⟩ | ⟨qa, q⟩
    · have r30 : Mr.1 30 0 = M.1 30 0 := (q.2.1 30 0 (by decide) (by decide) (by decide) (by decide) (by decide)).trans e30
      refine ⟨p, by rw [q.2.2 3 (by omega), e8]; exact h3, (f8.cs (k1 qa)).cg (fun _ _ => rfl) (fun i j _ _ => by unfold zSl; rw [r30]), fun i hi => ?_⟩
      exact ((hP i hi).mono (by omega)).cg (fun j _ => by unfold zSl; rw [r30])
    · obtain ⟨-, -, -, hi⟩ := q
      rcases hi with ⟨z, -⟩ | ⟨-, p', hp', z3, z5, z6, z7⟩
      · exact absurd (by rw [e8]; exact h4) z
      · have ep : p' = p := by
          have := hC.1
          rw [e8, h3, nI_eq (by omega) (by omega)] at z3
          exact z3.symm
        subst ep
        have hm : 1 ≤ Nat.min (p' + 1) 4 := Nat.le_min.mpr ⟨by omega, by omega⟩
        have hm2 : Nat.min (p' + 1) 4 ≤ p' + 1 := Nat.min_le_left _ _
        have hsl : ∀ i j, i < Nat.min (p' + 1) 4 → j < 228 → zSl Mr i j = zPs p' (zSl M) (M.1 29 0) i j := by
          intro i j hi hj
          unfold zSl zPs
          by_cases q : i + 1 = Nat.min (p' + 1) 4
          · rw [if_pos q]
            have := z6 j hj
            rw [show Nat.min (p' + 1) 4 - 1 = i by omega, e29] at this
            exact this
          · rw [if_neg q, z7 i j (by omega) hj, e30]
        refine ⟨Nat.min (p' + 1) 4, z5, (f8.cs (k2 qa)).cg (fun _ _ => rfl) (fun i j hi hj => hsl i j hi hj), fun i hi => ?_⟩
        have hw : zW (B + 1) (zPs p' (zSl M) (M.1 29 0) i) := by
          unfold zPs
          split
          · exact hWM.mono (by omega)
          · exact (hP _ (by omega)).mono (by omega)
        exact hw.cg (fun j hj => hsl i j hi hj)
  · refine fc.lw.tr ?_
    rcases qr with ⟨-, q⟩ | ⟨-, q⟩
    · exact q.f8.lw
    · exact q.f8.lw
theorem iv_word {B : Nat} {M : zM} (h : zInv B M) (x : Int32) : ∃ a M2 M3, zd_X7_word [zR 7 0, zI x] M = zs a M2 ∧ zd_X8_word [zR 8 0, zI x] M2 = zs a M3 ∧ zLw M M2 ∧ zInv (B + 1) M3 ∧ zLw M M3 :=
  inv_change h (fun σ a τ => zXw σ x a τ) (fun M => zd_X4_addWord [zR 4 0, zI x] M) (fun M => zd_X7_word [zR 7 0, zI x] M) (fun M => zd_X8_word [zR 8 0, zI x] M)
    (fun M1 M2 M3 a e1 e2 e3 => by rw [en_X7_word, bk_X7_word_0, zbv e1, bk_X7_word_11, zbi e2, bk_X7_word_20, zbi e3, bk_X7_word_23])
    (fun M1 a τ g l t => cs_word l h.1 g t) (fun M' r _ => tr_word x M' r) (fun a τ t => (W_word h.1 t).mono (by omega))
theorem iv_unword {B : Nat} {M : zM} (h : zInv B M) (x : Int32) : ∃ a M2 M3, zd_X7_unword [zR 7 0, zI x] M = zs a M2 ∧ zd_X8_unword [zR 8 0, zI x] M2 = zs a M3 ∧ zLw M M2 ∧ zInv (B + 1) M3 ∧ zLw M M3 :=
  inv_change h (fun σ a τ => zXu σ x a τ) (fun M => zd_X4_takeWord [zR 4 0, zI x] M) (fun M => zd_X7_unword [zR 7 0, zI x] M) (fun M => zd_X8_unword [zR 8 0, zI x] M)
    (fun M1 M2 M3 a e1 e2 e3 => by rw [en_X7_unword, bk_X7_unword_0, zbv e1, bk_X7_unword_11, zbi e2, bk_X7_unword_20, zbi e3, bk_X7_unword_23])
    (fun M1 a τ g l t => cs_unword h.1 g t) (fun M' r _ => tr_unword x M' r) (fun a τ t => (W_unword h.1 t).mono (by omega))
theorem iv_show {B : Nat} {M : zM} (hB : B < 2 ^ 25) (h : zInv B M) (x y : Int32) : ∃ a M2 M3, zd_X7_show [zR 7 0, zI x, zI y] M = zs a M2 ∧ zd_X8_show [zR 8 0, zI x, zI y] M2 = zs a M3 ∧ zLw M M2 ∧ zInv (B + 1) M3 ∧ zLw M M3 :=
  inv_change h (fun σ a τ => zXs σ x y a τ) (fun M => zd_X4_showWord [zR 4 0, zI x, zI y] M) (fun M => zd_X7_show [zR 7 0, zI x, zI y] M) (fun M => zd_X8_show [zR 8 0, zI x, zI y] M)
    (fun M1 M2 M3 a e1 e2 e3 => by rw [en_X7_show, bk_X7_show_0, zbv e1, bk_X7_show_11, zbi e2, bk_X7_show_21, zbi e3, bk_X7_show_24])
    (fun M1 a τ g l t => cs_show hB h.1 g t) (fun M' r _ => tr_show x y M' r) (fun a τ t => W_show hB h.1 t)
theorem iv_blank {B : Nat} {M : zM} (hB : B < 2 ^ 25) (h : zInv B M) (x : Int32) : ∃ a M2 M3, zd_X7_blank [zR 7 0, zI x] M = zs a M2 ∧ zd_X8_blank [zR 8 0, zI x] M2 = zs a M3 ∧ zLw M M2 ∧ zInv (B + 1) M3 ∧ zLw M M3 :=
  inv_change h (fun σ a τ => zXb σ x a τ) (fun M => zd_X4_darken [zR 4 0, zI x] M) (fun M => zd_X7_blank [zR 7 0, zI x] M) (fun M => zd_X8_blank [zR 8 0, zI x] M)
    (fun M1 M2 M3 a e1 e2 e3 => by rw [en_X7_blank, bk_X7_blank_0, zbv e1, bk_X7_blank_11, zbi e2, bk_X7_blank_20, zbi e3, bk_X7_blank_23])
    (fun M1 a τ g l t => cs_blank hB h.1 g t) (fun M' r _ => tr_blank x M' r) (fun a τ t => W_blank hB h.1 t)
theorem iv_stick {B : Nat} {M : zM} (hB : B < 2 ^ 25) (h : zInv B M) (x y z w : Int32) : ∃ a M2 M3, zd_X7_stick [zR 7 0, zI x, zI y, zI z, zI w] M = zs a M2 ∧ zd_X8_stick [zR 8 0, zI x, zI y, zI z, zI w] M2 = zs a M3 ∧ zLw M M2 ∧ zInv (B + 1) M3 ∧ zLw M M3 :=
  inv_change h (fun σ a τ => zXk σ x y z w a τ) (fun M => zd_X4_stickDisc [zR 4 0, zI x, zI y, zI z, zI w] M) (fun M => zd_X7_stick [zR 7 0, zI x, zI y, zI z, zI w] M) (fun M => zd_X8_stick [zR 8 0, zI x, zI y, zI z, zI w] M)
    (fun M1 M2 M3 a e1 e2 e3 => by rw [en_X7_stick, bk_X7_stick_0, zbv e1, bk_X7_stick_11, zbi e2, bk_X7_stick_24, zbi e3, bk_X7_stick_27])
    (fun M1 a τ g l t => cs_stick hB h.1 g t) (fun M' r _ => tr_stick x y z w M' r) (fun a τ t => (W_stick hB h.1 t).mono (by omega))
theorem iv_repair {B : Nat} {M : zM} (hB : B < 2 ^ 25) (h : zInv B M) (x y : Int32) : ∃ a M2 M3, zd_X7_repair [zR 7 0, zI x, zI y] M = zs a M2 ∧ zd_X8_repair [zR 8 0, zI x, zI y] M2 = zs a M3 ∧ zLw M M2 ∧ zInv (B + 1) M3 ∧ zLw M M3 :=
  inv_change h (fun σ a τ => zXr σ x y a τ) (fun M => zd_X4_repairColumn [zR 4 0, zI x, zI y] M) (fun M => zd_X7_repair [zR 7 0, zI x, zI y] M) (fun M => zd_X8_repair [zR 8 0, zI x, zI y] M)
    (fun M1 M2 M3 a e1 e2 e3 => by rw [en_X7_repair, bk_X7_repair_0, zbv e1, bk_X7_repair_11, zbi e2, bk_X7_repair_21, zbi e3, bk_X7_repair_24])
    (fun M1 a τ g l t => cs_repair hB h.1 g t) (fun M' r _ => tr_repair x y M' r) (fun a τ t => (W_repair hB h.1 t).mono (by omega))
theorem iv_set {B : Nat} {M : zM} (h : zInv B M) (x y : Int32) : ∃ a M2 M3, zd_X7_set [zR 7 0, zI x, zI y] M = zs a M2 ∧ zd_X8_set [zR 8 0, zI x, zI y] M2 = zs a M3 ∧ zLw M M2 ∧ zInv (B + 1) M3 ∧ zLw M M3 :=
  inv_change h (fun σ a τ => zXe σ x y a τ) (fun M => zd_X4_change [zR 4 0, zI x, zI y] M) (fun M => zd_X7_set [zR 7 0, zI x, zI y] M) (fun M => zd_X8_set [zR 8 0, zI x, zI y] M)
    (fun M1 M2 M3 a e1 e2 e3 => by rw [en_X7_set, bk_X7_set_0, zbv e1, bk_X7_set_11, zbi e2, bk_X7_set_21, zbi e3, bk_X7_set_24])
    (fun M1 a τ g l t => cs_set h.1 g t) (fun M' r e => tr_set x y M' r (fun k hk => by
      obtain ⟨-, ⟨m, -, m2, m3⟩, ⟨l, -, l2, l3⟩, -⟩ := h.1
      rw [e]
      rcases (show k = 0 ∨ k = 1 by omega) with rfl | rfl
      · rw [m3]; exact nI_pos (by omega)
      · rw [l3]; exact nI_pos (by omega))) (fun a τ t => (W_set h.1 t).mono (by omega))
