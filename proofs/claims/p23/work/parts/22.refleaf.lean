-- ===== the reference: small methods =====
abbrev zs (x : Int32) (M : zM) : Option zQ := some (some (zI x), M)
theorem zbi {o : Option zQ} {v : zV} {M' : zM} {st : List zV} {C : Nat → zX} {pc : Nat} {L : List (Option zV)} (h : o = some (some v, M')) : o.bind (fun r => zev C pc (L, zpush r.1 st, r.2)) = zev C pc (L, v :: st, M') := by rw [h]; rfl
theorem zbv {o : Option zQ} {M' : zM} {st : List zV} {C : Nat → zX} {pc : Nat} {L : List (Option zV)} (h : o = some (none, M')) : o.bind (fun r => zev C pc (L, zpush r.1 st, r.2)) = zev C pc (L, st, M') := by rw [h]; rfl
def zb (p : Prop) [Decidable p] : Int32 := if p then 1 else 0
theorem zb_t {p : Prop} [Decidable p] (h : p) : zb p = 1 := if_pos h
theorem zb_f {p : Prop} [Decidable p] (h : ¬ p) : zb p = 0 := if_neg h
theorem zb_0 {p : Prop} [Decidable p] : zb p = 0 ↔ ¬ p := by
  by_cases h : p
  · rw [zb_t h]; exact ⟨fun z => absurd z (by decide), fun z => absurd h z⟩
  · rw [zb_f h]; exact ⟨fun _ => h, fun _ => rfl⟩
theorem i_le {a b : Int32} : a ≤ b ↔ ¬ b < a := Int32.not_lt.symm
def zcolI (b : Int32) : Int32 := if b = 0 then 24 else 16
def zcol (b : Nat) : Nat := if b = 0 then 24 else 16
theorem zcol_eq : ∀ b, b < 2 → zcolI (nI b) = nI (zcol b) := by decide
theorem zcol_le (b : Nat) : zcol b ≤ 24 := by unfold zcol; split <;> omega
theorem zcol_ge (b : Nat) : 16 ≤ zcol b := by unfold zcol; split <;> omega
/-- an index within bounds -/
theorem ix_in {n N : Nat} (h : n < N) (hN : N < 2 ^ 31) : ¬ (nI n < 0 ∨ N ≤ (nI n).toNatClampNeg) := nI_in h hN
theorem ix_cl {n : Nat} (h : n < 2 ^ 31) : (nI n).toNatClampNeg = n := nI_clamp h
/-- how many letters -/
def zmn : Nat → Nat → Nat
  | 0, _ => 0
  | n + 1, u => if u = 0 then 0 else zmn n (u / 32) + 1
abbrev mny (x : Int32) : Nat := zmn 7 (ui x)
theorem ui_s5 (x : Int32) : ui (zus x 5) = ui x / 32 := (rfl : ui (zus x 5) = ui x >>> 5).trans (Nat.shiftRight_eq_div_pow _ _)
theorem zmn_le (n u : Nat) : zmn n u ≤ n := by
  induction n generalizing u with
  | zero => exact Nat.le_refl 0
  | succ n ih => rw [zmn]; have := ih (u / 32); split <;> omega
theorem ui_0 {x : Int32} : x = 0 ↔ ui x = 0 := ⟨fun h => by rw [h]; rfl, fun h => ui_inj h⟩
/-- at how many shifts a word of m letters can stand on a blind -/
def zshf (m b : Nat) : Nat := zcol b + 2 - 4 * m
/-- where a disc stands in s -/
def zat (b r c : Nat) : Nat := 28 + 120 * b + zcol b * r + c
theorem zat_lt {b r c : Nat} (hb : b < 2) (hr : r < 5) (hc : c < zcol b) : zat b r c < 228 := by
  unfold zat
  have e : b = 0 ∨ b = 1 := by omega
  rcases e with rfl | rfl
  · simp only [zcol] at *
    simp at hc ⊢
    omega
  · simp only [zcol] at *
    simp at hc ⊢
    omega
theorem zat_ge {b r c : Nat} : 28 ≤ zat b r c := by unfold zat; omega
theorem zat_inj {b r c b' r' c' : Nat} (hb : b < 2) (hr : r < 5) (hc : c < zcol b) (hb' : b' < 2) (hr' : r' < 5) (hc' : c' < zcol b') (h : zat b r c = zat b' r' c') : b = b' ∧ r = r' ∧ c = c' := by
  unfold zat at h
  have e : b = 0 ∨ b = 1 := by omega
  have e' : b' = 0 ∨ b' = 1 := by omega
  rcases e with rfl | rfl <;> rcases e' with rfl | rfl <;> simp [zcol] at hc hc' h ⊢ <;> omega
/-- the discs of a row that have something, as bits, up to column n -/
def zdcl (σ : Nat → Int32) (b r : Nat) (w : Int32) : Nat → Int32
  | 0 => 0
  | c + 1 => zdcl σ b r w c ||| (if σ (zat b r c) &&& w = 0 then (0 : Int32) else (1 : Int32) <<< (nI c &&& (31 : Int32)))
abbrev zdc (σ : Nat → Int32) (b r : Nat) (w : Int32) : Int32 := zdcl σ b r w (zcol b)
def zsm (f : Nat → Nat) : Nat → Nat
  | 0 => 0
  | n + 1 => zsm f n + f n
noncomputable abbrev zhv (σ : Nat → Int32) (b : Nat) (w : Int32) : Nat := zsm (fun r => zq (zdc σ b r w)) 5
