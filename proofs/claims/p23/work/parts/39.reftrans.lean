-- ===== the reference: what each call makes of s =====
abbrev zNF : Int32 := -1000004
def zXw (σ : Nat → Int32) (x a : Int32) (τ : Nat → Int32) : Prop := (¬ zVL x ∧ a = -1000001 ∧ τ = σ) ∨ (zVL x ∧ ∃ N, N ≤ 10 ∧ σ 0 = nI N ∧ ((zfw σ x N = true ∧ a = -1000002 ∧ τ = σ) ∨ (zfw σ x N = false ∧ N = 10 ∧ a = -1000003 ∧ τ = σ) ∨ (zfw σ x N = false ∧ N < 10 ∧ a = nI N ∧ τ = zwd σ x N)))
def zXu (σ : Nat → Int32) (w a : Int32) (τ : Nat → Int32) : Prop := (¬ (0 ≤ w ∧ w < σ 0) ∧ a = -1000001 ∧ τ = σ) ∨ ∃ k n, n < 10 ∧ k ≤ n ∧ w = nI k ∧ σ 0 = nI (n + 1) ∧ a = nI n ∧ τ = zuw σ k n
def zXs (σ : Nat → Int32) (w b a : Int32) (τ : Nat → Int32) : Prop := ((¬ (0 ≤ w ∧ w < σ 0) ∨ ¬ zVB b) ∧ a = -1000001 ∧ τ = σ) ∨ ∃ N v d, N ≤ 10 ∧ v < N ∧ d < 2 ∧ σ 0 = nI N ∧ w = nI v ∧ b = nI d ∧ ((¬ zcan σ zNF v d ∧ a = -1000002 ∧ τ = σ) ∨ ∃ k ρ, zcan σ zNF v d ∧ (zbst σ zNF v d).1 = some k ∧ a = nI k ∧ zWA σ d (zwb (σ (8 + 2 * v)) k) 5 0 ρ ∧ τ = zsw' ρ v)
def zXb (σ : Nat → Int32) (b a : Int32) (τ : Nat → Int32) : Prop := (¬ zVB b ∧ a = -1000001 ∧ τ = σ) ∨ ∃ d, d < 2 ∧ b = nI d ∧ zWA σ d (zwb 0 0) 5 0 τ ∧ a = nI (zhv τ d 1)
def zCB (a c : Int32) : Prop := (0 ≤ a ∧ a ≤ 1) ∧ 0 ≤ c ∧ c ≤ zcolI a - 1
theorem zI_of {a : Int32} {n : Nat} (m : Int32) (hm : m.toInt = n) (h : 0 ≤ a ∧ a ≤ m) : ∃ k, k ≤ n ∧ a = nI k := nI_of2 hm (i_le.mp h.1) h.2
def zXk (σ : Nat → Int32) (b c r s a : Int32) (τ : Nat → Int32) : Prop := ((¬ zCB b c ∨ ¬ (0 ≤ r ∧ r ≤ 4) ∨ ¬ (0 ≤ s ∧ s ≤ 2)) ∧ a = -1000001 ∧ τ = σ) ∨ ∃ d k i j, d < 2 ∧ k < zcol d ∧ i < 5 ∧ j < 3 ∧ b = nI d ∧ c = nI k ∧ r = nI i ∧ s = nI j ∧ τ = upd σ (zat d i k) (zsk (σ (zat d i k)) j) ∧ a = nI (zhv τ d 2)
def zXr (σ : Nat → Int32) (b c a : Int32) (τ : Nat → Int32) : Prop := (¬ zCB b c ∧ a = -1000001 ∧ τ = σ) ∨ ∃ d k, d < 2 ∧ k < zcol d ∧ b = nI d ∧ c = nI k ∧ a = nI (zrpn σ d k 5) ∧ τ = upd (zrp σ d k 5) 2 (σ 2 + 1)
def zSB (i v : Int32) : Prop := (0 ≤ i ∧ i ≤ 1) ∧ i + 1 ≤ v ∧ v ≤ (if i = 0 then 9 else 99)
def zXe (σ : Nat → Int32) (i v a : Int32) (τ : Nat → Int32) : Prop := (¬ zSB i v ∧ a = -1000001 ∧ τ = σ) ∨ ∃ k, k < 2 ∧ i = nI k ∧ (nI k + 1 ≤ v ∧ v ≤ (if k = 0 then 9 else 99)) ∧ a = σ (6 + k) ∧ τ = upd σ (6 + k) v
/-- an error changes nothing that counts; else it is one change -/
def zOQ (M M' : zM) (a : Int32) : Prop := (a < 0 ∧ zRf M M') ∨ (¬ a < 0 ∧ zOp M M')
