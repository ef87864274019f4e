-- ===== the reference: a picture is wanted =====
/-- only s differs -/
def zR9 (M M' : zM) : Prop := M'.2 = M.2 ∧ ∀ c n, ¬ (c = 29 ∧ n = 0) → M'.1 c n = M.1 c n
theorem zR9.rf (M : zM) : zR9 M M := ⟨rfl, fun _ _ _ => rfl⟩
theorem zR9.tr {M M' M'' : zM} (h : zR9 M M') (h' : zR9 M' M'') : zR9 M M'' := ⟨h'.1.trans h.1, fun c n a => (h'.2 c n a).trans (h.2 c n a)⟩
/-- is a dot wanted bright -/
def zwb (x : Int32) (k r c : Nat) : Bool := decide ((((if x = 0 then 0 else zrow x r <<< (nI k &&& (31 : Int32))) >>> (nI c &&& (31 : Int32))) &&& 1) = 1)
def zwF (σ : Nat → Int32) (b : Nat) (W : Nat → Nat → Bool) (r c : Nat) : Nat := zsm (fun r => zsm (fun c => (zfl (σ (zat b r c)) (W r c)).toNat) (zcol b)) r + zsm (fun c => (zfl (σ (zat b r c)) (W r c)).toNat) c
def zwW (σ : Nat → Int32) (b : Nat) (W : Nat → Nat → Bool) (r c : Nat) : Nat := zsm (fun r => zsm (fun c => (zwn (σ (zat b r c)) (W r c) (σ 7)).toNat) (zcol b)) r + zsm (fun c => (zwn (σ (zat b r c)) (W r c) (σ 7)).toNat) c
/-- the discs ahead of row r, column c are done -/
def zWA (σ : Nat → Int32) (b : Nat) (W : Nat → Nat → Bool) (r c : Nat) (τ : Nat → Int32) : Prop :=
  (∀ r' c', r' < 5 → c' < zcol b → (r' < r ∨ (r' = r ∧ c' < c)) → τ (zat b r' c') = zvn (σ (zat b r' c')) (W r' c') (σ 7)) ∧
  (∀ j, (∀ r' c', r' < 5 → c' < zcol b → (r' < r ∨ (r' = r ∧ c' < c)) → j ≠ zat b r' c') → j ≠ 4 + b → j ≠ 1 → τ j = σ j) ∧
  τ (4 + b) = σ (4 + b) + nI (zwF σ b W r c) ∧ τ 1 = σ 1 + nI (zwW σ b W r c)
