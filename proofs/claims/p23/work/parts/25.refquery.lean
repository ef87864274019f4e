-- ===== the reference: what is best, what is read, what is closest =====
theorem i_lt {a b : Int32} : a < b ↔ a.toInt < b.toInt := Int32.lt_iff_toInt_lt
theorem i_lei {a b : Int32} : a ≤ b ↔ a.toInt ≤ b.toInt := Int32.le_iff_toInt_le
/-- the first place with the greatest of m 0 .., if it is greater than g -/
def zbf (m : Nat → Int32) (g : Int32) : Nat → Option Nat × Int32
  | 0 => (none, g)
  | k + 1 => if (zbf m g k).2 < m k then (some k, m k) else zbf m g k
theorem zbf_lt (m : Nat → Int32) (g : Int32) (n : Nat) : ∀ k, (zbf m g n).1 = some k → k < n := by
  induction n with
  | zero => intro k h; cases h
  | succ n ih =>
    intro k h
    rw [zbf] at h
    split at h
    · cases h; exact Nat.lt_succ_self _
    · exact Nat.lt_succ_of_lt (ih k h)
theorem zbf_none (m : Nat → Int32) (g : Int32) (n : Nat) (h : (zbf m g n).1 = none) : (zbf m g n).2 = g := by
  induction n with
  | zero => rfl
  | succ n ih =>
    rw [zbf] at h ⊢
    split at h
    · cases h
    · rename_i hc; rw [if_neg hc]; exact ih h
/-- a higher start keeps the best, if it is high enough -/
theorem zbf_start (m : Nat → Int32) (g g' : Int32) (hg : g ≤ g') (n : Nat) : zbf m g' n = if g' < (zbf m g n).2 then zbf m g n else (none, g') := by
  induction n with
  | zero =>
    show (none, g') = if g' < g then (none, g) else (none, g')
    rw [if_neg (show ¬ g' < g from i_le.mp hg)]
  | succ n ih =>
    rw [zbf, ih]
    by_cases h1 : g' < (zbf m g n).2
    · rw [if_pos h1]
      show (if (zbf m g n).2 < m n then (some n, m n) else zbf m g n) = if g' < (zbf m g (n + 1)).2 then zbf m g (n + 1) else (none, g')
      have e : zbf m g (n + 1) = if (zbf m g n).2 < m n then (some n, m n) else zbf m g n := rfl
      rw [← e]
      have : g' < (zbf m g (n + 1)).2 := by
        rw [e]
        split
        · rename_i h2; show g' < m n; rw [i_lt] at *; omega
        · exact h1
      rw [if_pos this]
    · rw [if_neg h1]
      have e : zbf m g (n + 1) = if (zbf m g n).2 < m n then (some n, m n) else zbf m g n := rfl
      show (if g' < m n then (some n, m n) else (none, g')) = _
      rw [e]
      by_cases h2 : g' < m n
      · have h3 : (zbf m g n).2 < m n := by rw [i_lt] at *; omega
        rw [if_pos h2, if_pos h3, if_pos h2]
      · by_cases h3 : (zbf m g n).2 < m n
        · rw [if_neg h2, if_pos h3, if_neg h2]
        · rw [if_neg h2, if_neg h3, if_neg h1]
/-- the best shift of a word, and its margin -/
noncomputable def zbst (σ : Nat → Int32) (fr : Int32) (w b : Nat) : Option Nat × Int32 := zbf (fun k => zmar σ fr w b k) (-1000) (zshf (mny (σ (8 + 2 * w))) b)
/-- a word can be shown -/
def zcan (σ : Nat → Int32) (fr : Int32) (w b : Nat) : Prop := (zbst σ fr w b).1 ≠ none ∧ σ 6 ≤ (zbst σ fr w b).2
theorem zbst_lt (σ : Nat → Int32) (fr : Int32) (w b k : Nat) (h : (zbst σ fr w b).1 = some k) : k < zshf (mny (σ (8 + 2 * w))) b := zbf_lt _ _ _ k h
