-- ===== the reference: blinds =====
/-- s behind a show: the discs, and what is counted -/
def zsw' (τ : Nat → Int32) (w : Nat) : Nat → Int32 := fun j => if j = 3 then τ 3 + 1 else if j = 9 + 2 * w then τ (9 + 2 * w) + 1 else τ j
/-- a disc that is stuck, or free -/
def zsk (v : Int32) (s : Nat) : Int32 := if s = 2 then v &&& (-3) else ((v &&& (-2)) ||| 2) ||| (if s = 1 then 1 else 0)
/-- s with r rows of a column repaired -/
def zrp (σ : Nat → Int32) (b c : Nat) : Nat → Nat → Int32
  | 0 => σ
  | r + 1 => upd (zrp σ b c r) (zat b r c) (σ (zat b r c) &&& 5)
theorem zrp_at (σ : Nat → Int32) {b c : Nat} (hb : b < 2) (hc : c < zcol b) : ∀ r, r ≤ 5 → ∀ r', r ≤ r' → r' < 5 → zrp σ b c r (zat b r' c) = σ (zat b r' c) := by
  intro r
  induction r with
  | zero => intro _ r' _ _; rfl
  | succ r ih =>
    intro hr r' h1 h2
    have hne : zat b r' c ≠ zat b r c := fun z => by
      have := (zat_inj hb h2 hc hb (by omega) hc z).2.1
      omega
    rw [zrp, upd_n hne]
    exact ih (by omega) r' (by omega) h2
def zrpn (σ : Nat → Int32) (b c : Nat) (r : Nat) : Nat := zsm (fun r => (!decide ((σ (zat b r c) &&& 2) = 0)).toNat) r
