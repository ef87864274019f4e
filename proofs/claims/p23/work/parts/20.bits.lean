-- ===== counting ones =====
/-- how many of the lowest n bits are ones -/
def zpc : Nat → Nat → Nat
  | 0, _ => 0
  | n + 1, x => x % 2 + zpc n (x / 2)
theorem zpc_z (n : Nat) : zpc n 0 = 0 := by
  induction n with
  | zero => rfl
  | succ n ih => rw [zpc]; simpa using ih
theorem zpc_le (n x : Nat) : zpc n x ≤ n := by
  induction n generalizing x with
  | zero => exact Nat.le_refl 0
  | succ n ih => rw [zpc]; have := ih (x / 2); omega
theorem zand2 (a b : Nat) : a &&& b = (a % 2) * (b % 2) + 2 * (a / 2 &&& b / 2) := by
  have h1 : (a &&& b) % 2 = (a % 2) * (b % 2) := by
    have h := Nat.and_mod_two_pow (a := a) (b := b) (n := 1)
    rw [Nat.pow_one] at h
    rw [h]
    rcases Nat.mod_two_eq_zero_or_one a with e | e <;> rcases Nat.mod_two_eq_zero_or_one b with e' | e' <;> rw [e, e'] <;> rfl
  have h2 : (a &&& b) / 2 = a / 2 &&& b / 2 := by
    have h := Nat.and_div_two_pow (a := a) (b := b) (n := 1)
    rw [Nat.pow_one] at h
    exact h
  rw [← h1, ← h2]
  omega
/-- the lowest one goes -/
theorem zpc_k : ∀ (n x : Nat), x < 2 ^ n → 0 < x → zpc n (x &&& (x - 1)) + 1 = zpc n x := by
  intro n
  induction n with
  | zero => intro x h h0; rw [Nat.pow_zero] at h; omega
  | succ n ih =>
    intro x h h0
    rw [Nat.pow_succ] at h
    have e := zand2 x (x - 1)
    rcases Nat.mod_two_eq_zero_or_one x with hx | hx
    · have h1 : (x - 1) / 2 = x / 2 - 1 := by omega
      have h2 := ih (x / 2) (by omega) (by omega)
      rw [e, hx, h1, zpc, zpc, hx]
      have h3 : (0 * ((x - 1) % 2) + 2 * (x / 2 &&& (x / 2 - 1))) % 2 = 0 := by omega
      have h4 : (0 * ((x - 1) % 2) + 2 * (x / 2 &&& (x / 2 - 1))) / 2 = (x / 2 &&& (x / 2 - 1)) := by omega
      rw [h3, h4]
      omega
    · have h1 : (x - 1) / 2 = x / 2 := by omega
      have h2 : (x - 1) % 2 = 0 := by omega
      rw [e, hx, h1, h2, Nat.and_self, zpc, zpc, hx]
      have h3 : (1 * 0 + 2 * (x / 2)) % 2 = 0 := by omega
      have h4 : (1 * 0 + 2 * (x / 2)) / 2 = x / 2 := by omega
      rw [h3, h4]
      omega
/-- how many of f 0 .. f (n - 1) hold -/
def zct : Nat → (Nat → Bool) → Nat
  | 0, _ => 0
  | n + 1, f => (f 0).toNat + zct n (fun i => f (i + 1))
theorem zpc_ct : ∀ (n x : Nat), zpc n x = zct n (fun i => x.testBit i) := by
  intro n
  induction n with
  | zero => intro x; rfl
  | succ n ih =>
    intro x
    rw [zpc, zct, ih (x / 2)]
    congr 1
    · rw [Nat.testBit_zero]
      rcases Nat.mod_two_eq_zero_or_one x with hx | hx <;> rw [hx] <;> rfl
    · congr 1
      funext i
      rw [Nat.testBit_add_one]
theorem zct_congr : ∀ (n : Nat) (f g : Nat → Bool), (∀ i, i < n → f i = g i) → zct n f = zct n g := by
  intro n
  induction n with
  | zero => intro f g h; rfl
  | succ n ih =>
    intro f g h
    rw [zct, zct, h 0 (by omega), ih _ _ (fun i hi => h (i + 1) (by omega))]
theorem zct_add (a b : Nat) (f : Nat → Bool) : zct (a + b) f = zct a f + zct b (fun i => f (a + i)) := by
  induction a generalizing f with
  | zero => simp [zct]
  | succ a ih =>
    rw [show a + 1 + b = (a + b) + 1 by omega, zct, zct, ih]
    rw [zct_congr b (fun i => f (a + i + 1)) (fun i => f (a + 1 + i)) (fun i _ => by rw [show a + i + 1 = a + 1 + i by omega])]
    omega
theorem zct_false (n : Nat) (f : Nat → Bool) (h : ∀ i, i < n → f i = false) : zct n f = 0 := by
  induction n generalizing f with
  | zero => rfl
  | succ n ih => rw [zct, h 0 (by omega), ih _ (fun i hi => h (i + 1) (by omega))]; rfl
-- sums over the side by side count of a long
theorem zand4 (k a b : Nat) : a &&& b = ((a % 2 ^ k) &&& (b % 2 ^ k)) + 2 ^ k * (a / 2 ^ k &&& b / 2 ^ k) := by
  rw [← Nat.and_mod_two_pow, ← Nat.and_div_two_pow]
  exact (Nat.mod_add_div _ _).symm
/-- the counts of m pieces of w bits, side by side -/
def zpw (w : Nat) : Nat → Nat → Nat
  | 0, _ => 0
  | m + 1, x => zpc w (x % 2 ^ w) + 2 ^ w * zpw w m (x / 2 ^ w)
def zmk (w c : Nat) : Nat → Nat
  | 0 => 0
  | m + 1 => c + 2 ^ w * zmk w c m
theorem zsw1 : ∀ (m x : Nat), x < 4 ^ m → (x / 2 &&& zmk 2 1 m) ≤ x ∧ x - (x / 2 &&& zmk 2 1 m) = zpw 2 m x := by
  intro m
  induction m with
  | zero => intro x h; rw [Nat.pow_zero] at h; simp [zmk, zpw]; omega
  | succ m ih =>
    intro x h
    rw [Nat.pow_succ] at h
    obtain ⟨h1, h2⟩ := ih (x / 4) (by omega)
    have e := zand4 2 (x / 2) (zmk 2 1 (m + 1))
    have e1 : zmk 2 1 (m + 1) % 2 ^ 2 = 1 := by rw [zmk]; omega
    have e2 : zmk 2 1 (m + 1) / 2 ^ 2 = zmk 2 1 m := by rw [zmk]; omega
    have e3 : x / 2 / 2 ^ 2 = x / 4 / 2 := by omega
    have e4 : (x / 2 % 2 ^ 2) &&& 1 = x / 2 % 2 := by
      have q := zand2 (x / 2 % 2 ^ 2) 1
      have q2 : (x / 2 % 2 ^ 2) / 2 &&& 1 / 2 = 0 := by simp
      rw [q, q2]; omega
    rw [e1, e2, e3, e4] at e
    rw [e, zpw]
    have e5 : zpc 2 (x % 2 ^ 2) = x % 4 - x / 2 % 2 := by
      simp only [zpc]; omega
    rw [e5, show (2 : Nat) ^ 2 = 4 from rfl, ← h2]
    omega
theorem zpc_split (a b x : Nat) : zpc (a + b) x = zpc a (x % 2 ^ a) + zpc b (x / 2 ^ a) := by
  induction a generalizing x with
  | zero => simp [zpc]
  | succ a ih =>
    rw [show a + 1 + b = (a + b) + 1 by omega, zpc, zpc, ih (x / 2)]
    have h1 : x % 2 ^ (a + 1) % 2 = x % 2 := by rw [Nat.pow_succ, Nat.mul_comm, Nat.mod_mul_right_mod]
    have h2 : x % 2 ^ (a + 1) / 2 = x / 2 % 2 ^ a := by rw [Nat.pow_succ, Nat.mul_comm, Nat.mod_mul_right_div_self]
    have h3 : x / 2 / 2 ^ a = x / 2 ^ (a + 1) := by rw [Nat.div_div_eq_div_mul, Nat.pow_succ, Nat.mul_comm]
    rw [h1, h2, h3]
    omega
theorem zpc4s (x : Nat) : zpc 4 (x % 16) = zpc 2 (x % 4) + zpc 2 (x / 4 % 4) := by
  have h := zpc_split 2 2 (x % 16)
  rw [show (2 : Nat) ^ 2 = 4 from rfl] at h
  rw [show 4 = 2 + 2 from rfl, h, show x % 16 % (2 + 2) = x % 4 by omega, show x % 16 / (2 + 2) = x / 4 % 4 by omega]
theorem zsw2 : ∀ (m x : Nat), x < 16 ^ m → (zpw 2 (2 * m) x &&& zmk 4 3 m) + (zpw 2 (2 * m) x / 4 &&& zmk 4 3 m) = zpw 4 m x := by
  intro m
  induction m with
  | zero => intro x h; simp [zmk, zpw]
  | succ m ih =>
    intro x h
    rw [Nat.pow_succ] at h
    have ih := ih (x / 16) (by omega)
    have hy : zpw 2 (2 * (m + 1)) x = zpc 2 (x % 4) + 4 * zpc 2 (x / 4 % 4) + 16 * zpw 2 (2 * m) (x / 16) := by
      rw [show 2 * (m + 1) = (2 * m + 1) + 1 by omega, zpw, zpw, show (2 : Nat) ^ 2 = 4 from rfl, show x / 4 / 4 = x / 16 by omega]
      omega
    have l1 := zpc_le 2 (x % 4)
    have l2 := zpc_le 2 (x / 4 % 4)
    have hx := zpc4s x
    rw [hy]
    generalize zpc 2 (x % 4) = p at *
    generalize zpc 2 (x / 4 % 4) = q at *
    have hx4 : zpc 4 (x % 2 ^ 4) = p + q := hx
    generalize zpw 2 (2 * m) (x / 16) = Y at *
    have e1 : zmk 4 3 (m + 1) % 2 ^ 4 = 3 := by rw [zmk]; omega
    have e2 : zmk 4 3 (m + 1) / 2 ^ 4 = zmk 4 3 m := by rw [zmk]; omega
    rw [zand4 4 (p + 4 * q + 16 * Y) (zmk 4 3 (m + 1)), zand4 4 ((p + 4 * q + 16 * Y) / 4) (zmk 4 3 (m + 1)), e1, e2, zpw, hx4, show (2 : Nat) ^ 4 = 16 from rfl, ← ih]
    have a1 : (p + 4 * q + 16 * Y) % 16 = p + 4 * q := by omega
    have a2 : (p + 4 * q + 16 * Y) / 16 = Y := by omega
    have a3 : (p + 4 * q + 16 * Y) / 4 / 16 = Y / 4 := by omega
    have a4 : (p + 4 * q + 16 * Y) / 4 % 16 = q + 4 * (Y % 4) := by omega
    have b3 : ∀ z, z &&& 3 = z % 4 := fun z => Nat.and_two_pow_sub_one_eq_mod z 2
    rw [a1, a2, a3, a4, b3, b3]
    omega
theorem zpc8s (x : Nat) : zpc 8 (x % 256) = zpc 4 (x % 16) + zpc 4 (x / 16 % 16) := by
  have h := zpc_split 4 4 (x % 256)
  rw [show (2 : Nat) ^ 4 = 16 from rfl] at h
  rw [show 8 = 4 + 4 from rfl, h, show x % 256 % 16 = x % 16 by omega, show x % 256 / 16 = x / 16 % 16 by omega]
theorem zpw4_mod (m x : Nat) : zpw 4 m x % 16 ≤ 4 := by
  cases m with
  | zero => simp [zpw]
  | succ m =>
    rw [zpw, show (2 : Nat) ^ 4 = 16 from rfl]
    have := zpc_le 4 (x % 16)
    omega
theorem zsw3 : ∀ (m x : Nat), x < 256 ^ m → (zpw 4 (2 * m) x + zpw 4 (2 * m) x / 16) &&& zmk 8 15 m = zpw 8 m x := by
  intro m
  induction m with
  | zero => intro x h; simp [zmk, zpw]
  | succ m ih =>
    intro x h
    rw [Nat.pow_succ] at h
    have ih := ih (x / 256) (by omega)
    have hy : zpw 4 (2 * (m + 1)) x = zpc 4 (x % 16) + 16 * zpc 4 (x / 16 % 16) + 256 * zpw 4 (2 * m) (x / 256) := by
      rw [show 2 * (m + 1) = (2 * m + 1) + 1 by omega, zpw, zpw, show (2 : Nat) ^ 4 = 16 from rfl, show x / 16 / 16 = x / 256 by omega]
      omega
    have l1 := zpc_le 4 (x % 16)
    have l2 := zpc_le 4 (x / 16 % 16)
    have l3 := zpw4_mod (2 * m) (x / 256)
    have hx := zpc8s x
    rw [hy]
    generalize zpc 4 (x % 16) = p at *
    generalize zpc 4 (x / 16 % 16) = q at *
    generalize zpw 4 (2 * m) (x / 256) = Y at *
    have e1 : zmk 8 15 (m + 1) % 2 ^ 8 = 15 := by rw [zmk]; omega
    have e2 : zmk 8 15 (m + 1) / 2 ^ 8 = zmk 8 15 m := by rw [zmk]; omega
    rw [zand4 8 _ (zmk 8 15 (m + 1)), e1, e2, zpw, show (2 : Nat) ^ 8 = 256 from rfl, hx, ← ih]
    have a2 : (p + 16 * q + 256 * Y + (p + 16 * q + 256 * Y) / 16) / 256 = Y + Y / 16 := by omega
    have b3 : ∀ z, z &&& 15 = z % 16 := fun z => Nat.and_two_pow_sub_one_eq_mod z 4
    rw [a2, b3]
    omega
def zbs : Nat → (Nat → Nat) → Nat
  | 0, _ => 0
  | m + 1, f => f 0 + 256 * zbs m (fun i => f (i + 1))
def zss : Nat → (Nat → Nat) → Nat
  | 0, _ => 0
  | m + 1, f => f 0 + zss m (fun i => f (i + 1))
theorem zby : ∀ (m x : Nat), zpw 8 m x = zbs m (fun i => zpc 8 (x / 256 ^ i % 256)) ∧ zpc (8 * m) x = zss m (fun i => zpc 8 (x / 256 ^ i % 256)) := by
  intro m
  induction m with
  | zero => intro x; exact ⟨rfl, rfl⟩
  | succ m ih =>
    intro x
    obtain ⟨h1, h2⟩ := ih (x / 256)
    have e : ∀ i, x / 256 / 256 ^ i = x / 256 ^ (i + 1) := fun i => by rw [Nat.div_div_eq_div_mul, Nat.pow_succ, Nat.mul_comm]
    have e2 : (fun i => zpc 8 (x / 256 / 256 ^ i % 256)) = (fun i => zpc 8 (x / 256 ^ (i + 1) % 256)) := funext fun i => by rw [e]
    rw [e2] at h1 h2
    have hs := zpc_split 8 (8 * m) x
    rw [show (2 : Nat) ^ 8 = 256 from rfl] at hs
    constructor
    · rw [zpw, zbs, show (2 : Nat) ^ 8 = 256 from rfl, h1, Nat.pow_zero, Nat.div_one]
    · rw [show 8 * (m + 1) = 8 + 8 * m by omega, hs, zss, h2, Nat.pow_zero, Nat.div_one]
theorem zbs_add (m : Nat) (f g : Nat → Nat) : zbs m f + zbs m g = zbs m (fun i => f i + g i) := by
  induction m generalizing f g with
  | zero => rfl
  | succ m ih =>
    rw [zbs, zbs, zbs, ← ih]
    omega
theorem zbs_last (m : Nat) (f : Nat → Nat) (h : f m = 0) : zbs (m + 1) f = zbs m f := by
  induction m generalizing f with
  | zero => rw [zbs, zbs, zbs, h]
  | succ m ih =>
    rw [zbs, ih (fun i => f (i + 1)) h]
    rfl
theorem zbs_lt (m : Nat) (f : Nat → Nat) (h : ∀ i, f i ≤ 255) : zbs m f < 256 ^ m := by
  induction m generalizing f with
  | zero => rw [zbs, Nat.pow_zero]; omega
  | succ m ih =>
    rw [zbs, Nat.pow_succ]
    have h1 := ih (fun i => f (i + 1)) (fun i => h (i + 1))
    have h2 := h 0
    omega
theorem zbs_div (f : Nat → Nat) (h : ∀ i, f i ≤ 255) (h8 : ∀ i, 8 ≤ i → f i = 0) : zbs 8 f / 256 = zbs 8 (fun i => f (i + 1)) := by
  have e : zbs 8 f = f 0 + 256 * zbs 7 (fun i => f (i + 1)) := rfl
  rw [e, zbs_last 7 (fun i => f (i + 1)) (h8 8 (Nat.le_refl 8))]
  have := h 0
  omega
theorem zbs_divk (k : Nat) (f : Nat → Nat) (h : ∀ i, f i ≤ 255) (h8 : ∀ i, 8 ≤ i → f i = 0) : zbs 8 f / 256 ^ k = zbs 8 (fun i => f (i + k)) := by
  induction k with
  | zero => rw [Nat.pow_zero, Nat.div_one]; rfl
  | succ k ih =>
    rw [Nat.pow_succ, ← Nat.div_div_eq_div_mul, ih, zbs_div _ (fun i => h (i + k)) (fun i hi => h8 (i + k) (by omega))]
    congr 1
    funext i
    rw [show i + 1 + k = i + (k + 1) by omega]
theorem zsw4a (f : Nat → Nat) (hf : ∀ i, f i ≤ 8) (h8 : ∀ i, 8 ≤ i → f i = 0) :
    ∃ V W T : Nat, V = zbs 8 f + zbs 8 f / 256 ^ 1 ∧ W = V + V / 256 ^ 2 ∧ T = W + W / 256 ^ 4 ∧ zbs 8 f < 256 ^ 8 ∧ V < 256 ^ 8 ∧ W < 256 ^ 8 ∧ T < 256 ^ 8 ∧ T % 128 = zss 8 f := by
  have g1 : ∀ i, f i + f (i + 1) ≤ 16 := fun i => by have := hf i; have := hf (i + 1); omega
  have g2 : ∀ i, f i + f (i + 1) + (f (i + 2) + f (i + 2 + 1)) ≤ 32 := fun i => by have := g1 i; have := g1 (i + 2); omega
  have g3 : ∀ i, f i + f (i + 1) + (f (i + 2) + f (i + 2 + 1)) + (f (i + 4) + f (i + 4 + 1) + (f (i + 4 + 2) + f (i + 4 + 2 + 1))) ≤ 64 := fun i => by have := g2 i; have := g2 (i + 4); omega
  have z1 : ∀ i, 8 ≤ i → f i + f (i + 1) = 0 := fun i hi => by rw [h8 i hi, h8 (i + 1) (by omega)]
  have z2 : ∀ i, 8 ≤ i → f i + f (i + 1) + (f (i + 2) + f (i + 2 + 1)) = 0 := fun i hi => by rw [z1 i hi, z1 (i + 2) (by omega)]
  have eV : zbs 8 f + zbs 8 f / 256 ^ 1 = zbs 8 (fun i => f i + f (i + 1)) := by
    rw [zbs_divk 1 f (fun i => Nat.le_trans (hf i) (by decide)) h8, zbs_add]
  have eW : zbs 8 (fun i => f i + f (i + 1)) + zbs 8 (fun i => f i + f (i + 1)) / 256 ^ 2 = zbs 8 (fun i => f i + f (i + 1) + (f (i + 2) + f (i + 2 + 1))) := by
    rw [zbs_divk 2 _ (fun i => Nat.le_trans (g1 i) (by decide)) z1, zbs_add]
  have eT : zbs 8 (fun i => f i + f (i + 1) + (f (i + 2) + f (i + 2 + 1))) + zbs 8 (fun i => f i + f (i + 1) + (f (i + 2) + f (i + 2 + 1))) / 256 ^ 4 = zbs 8 (fun i => f i + f (i + 1) + (f (i + 2) + f (i + 2 + 1)) + (f (i + 4) + f (i + 4 + 1) + (f (i + 4 + 2) + f (i + 4 + 2 + 1)))) := by
    rw [zbs_divk 4 _ (fun i => Nat.le_trans (g2 i) (by decide)) z2, zbs_add]
  refine ⟨_, _, _, rfl, rfl, rfl, ?_, ?_, ?_, ?_, ?_⟩
  · exact zbs_lt 8 _ (fun i => Nat.le_trans (hf i) (by decide))
  · rw [eV]; exact zbs_lt 8 _ (fun i => Nat.le_trans (g1 i) (by decide))
  · rw [eV, eW]; exact zbs_lt 8 _ (fun i => Nat.le_trans (g2 i) (by decide))
  · rw [eV, eW, eT]; exact zbs_lt 8 _ (fun i => Nat.le_trans (g3 i) (by decide))
  · rw [eV, eW, eT]
    have e : ∀ g : Nat → Nat, zbs 8 g = g 0 + 256 * zbs 7 (fun i => g (i + 1)) := fun g => rfl
    rw [e]
    have h0 := g3 0
    have hs : zss 8 f = f 0 + f (0 + 1) + (f (0 + 2) + f (0 + 2 + 1)) + (f (0 + 4) + f (0 + 4 + 1) + (f (0 + 4 + 2) + f (0 + 4 + 2 + 1))) := by
      simp only [zss, Nat.zero_add, Nat.add_zero, Nat.reduceAdd]
      omega
    rw [hs]
    omega
