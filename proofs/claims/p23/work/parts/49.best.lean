-- ===== the class: what is best, read, closest =====
/-- words k and blind n of the class stand for s -/
def zQk (M : zM) (k n b B : Nat) (σ : Nat → Int32) (N : Nat) : Prop := zW B σ ∧ N ≤ 10 ∧ σ 0 = nI N ∧ zGW M k σ N ∧ zGB M n b σ
def zoC : Option Nat → Int32
  | none => -1
  | some k => nI k
theorem cp_best_loop {M : zM} {k n b B N w : Nat} {σ : Nat → Int32} {rp fr : Int32} (hr : zRep rp fr) (h : zQk M k n b B σ N) (hw : w < N) (g : Int32) : ∀ (j s : Nat) (d4 d9 : Option zV), s + j = zshf (mny (σ (8 + 2 * w))) b →
    zev zC_X6_bestShift 23 ([some (zR 6 k), some (zI (nI w)), some (zR 0 n), some (zI rp), d4, some (zI (nI (zshf (mny (σ (8 + 2 * w))) b))), some (zI (zoC (zbf (fun s => zmar σ fr w b s) g s).1)), some (zI (zbf (fun s => zmar σ fr w b s) g s).2), some (zI (nI s)), d9], [], M) = zs (zoC (zbf (fun s => zmar σ fr w b s) g (zshf (mny (σ (8 + 2 * w))) b)).1) M := by
  have hz := zshf_le (mny (σ (8 + 2 * w))) b
  intro j
  induction j with
  | zero =>
    intro s d4 d9 e
    have es : s = zshf (mny (σ (8 + 2 * w))) b := by omega
    rw [bk_X6_bestShift_23, if_pos (nI_le (by omega) (by omega)), bk_X6_bestShift_62, es]
  | succ j ih =>
    intro s d4 d9 e
    have h1 := ih (s + 1) none none (by omega)
    rw [zbf] at h1
    rw [bk_X6_bestShift_23, if_neg (nI_ge (by omega) (by omega)), bk_X6_bestShift_30, zbi (cp_marginAt hr h.1 h.2.1 h.2.2.1 h.2.2.2.1 h.2.2.2.2 hw (by omega)), bk_X6_bestShift_39]
    by_cases c : zmar σ fr w b s ≤ (zbf (fun s => zmar σ fr w b s) g s).2
    · rw [if_pos c, bk_X6_bestShift_56, nI_1]
      rw [if_neg (Int32.not_lt.mpr c)] at h1
      exact h1
    · rw [if_neg c, bk_X6_bestShift_48, bk_X6_bestShift_56, nI_1]
      rw [if_pos (Int32.not_le.mp c)] at h1
      exact h1
theorem cp_bestShift {M : zM} {k n b B N w : Nat} {σ : Nat → Int32} {rp fr : Int32} (hr : zRep rp fr) (h : zQk M k n b B σ N) (hw : w < N) (nd : Int32) :
    zd_X6_bestShift [zR 6 k, zI (nI w), zR 0 n, zI rp, zI nd] M = zs (zoC (zbf (fun s => zmar σ fr w b s) (nd - 1) (zshf (mny (σ (8 + 2 * w))) b)).1) M := by
  rw [en_X6_bestShift, bk_X6_bestShift_0, h.2.2.2.2.1, zbi (cp_shiftsOn h.1 h.2.1 h.2.2.1 h.2.2.2.1 hw), bk_X6_bestShift_9]
  exact cp_best_loop hr h hw (nd - 1) (zshf (mny (σ (8 + 2 * w))) b) 0 _ _ (by omega)
/-- the best shift, if it is good enough -/
theorem can_some {B : Nat} {σ : Nat → Int32} (hW : zW B σ) (fr : Int32) (w b : Nat) : (zcan σ fr w b → (zbf (fun s => zmar σ fr w b s) (σ 6 - 1) (zshf (mny (σ (8 + 2 * w))) b)).1 = (zbst σ fr w b).1) ∧ (¬ zcan σ fr w b → (zbf (fun s => zmar σ fr w b s) (σ 6 - 1) (zshf (mny (σ (8 + 2 * w))) b)).1 = none) := by
  obtain ⟨m, m1, m2, em⟩ := hW.2.1
  have e1 : σ 6 - 1 = nI (m - 1) := by rw [em, show (1 : Int32) = nI 1 from rfl, pk_sub m1]
  rw [e1, zbf_start (fun s => zmar σ fr w b s) (-1000) (nI (m - 1)) (by rw [i_lei, nI_toInt (by omega), show (-1000 : Int32).toInt = -1000 from rfl]; omega)]
  have hc : zcan σ fr w b ↔ nI (m - 1) < (zbst σ fr w b).2 := by
    have hlt : nI (m - 1) < (zbst σ fr w b).2 ↔ σ 6 ≤ (zbst σ fr w b).2 := by
      rw [em, i_lt, i_lei, nI_toInt (by omega), nI_toInt (by omega)]; omega
    rw [hlt]
    refine ⟨fun z => z.2, fun z => ⟨fun z0 => ?_, z⟩⟩
    have := zbf_none _ _ _ z0
    rw [show (zbst σ fr w b).2 = -1000 from this, em, i_lei, nI_toInt (by omega), show (-1000 : Int32).toInt = -1000 from rfl] at z
    omega
  rw [show zbf (fun s => zmar σ fr w b s) (-1000) (zshf (mny (σ (8 + 2 * w))) b) = zbst σ fr w b from rfl]
  constructor
  · intro c; rw [if_pos (hc.mp c)]
  · intro c; rw [if_neg (fun z => c (hc.mpr z))]
