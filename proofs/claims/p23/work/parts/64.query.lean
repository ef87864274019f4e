-- ===== both sides: calls that only tell =====
theorem dv_sh1 {u : Nat} (b s w : Bool) (hu : u < 2 ^ 27) : (zDv u b s w >>> (1 : Int32)) &&& 1 = zbI s := by
  have ht := zdt_lt b s w
  have e : zDv u b s w >>> (1 : Int32) = nI ((8 * u + zdt b s w) / 2 ^ 1) := pk_shrN (by omega) 1 1 (by decide)
  rw [e, pk_andN (by omega) 1 rfl, show (8 * u + zdt b s w) / 2 ^ 1 % 2 ^ 1 = zdt b s w / 2 % 2 by omega]
  cases b <;> cases s <;> cases w <;> rfl
theorem dv_sh2 {u : Nat} (b s w : Bool) (hu : u < 2 ^ 27) : (zDv u b s w >>> (2 : Int32)) &&& 1 = zbI w := by
  have ht := zdt_lt b s w
  have e : zDv u b s w >>> (2 : Int32) = nI ((8 * u + zdt b s w) / 2 ^ 2) := pk_shrN (by omega) 2 2 (by decide)
  rw [e, pk_andN (by omega) 1 rfl, show (8 * u + zdt b s w) / 2 ^ 2 % 2 ^ 1 = zdt b s w / 4 % 2 by omega]
  cases b <;> cases s <;> cases w <;> rfl
