-- ===== a small machine over pictures of the heap, and that the real one follows it =====
def zTs : List Cond := lw_tbl.filter goodWord
theorem zTs_good : ∀ w ∈ zTs, (w.onTables && w.keeps) = true ∨ ∃ ty, w = .arrayClass ty := fun w h => good_of_word (List.mem_filter.mp h).2
theorem zTs_in : ∀ w ∈ zTs, w ∈ lw_tbl := fun w h => (List.mem_filter.mp h).1
theorem zTs_of {w : Cond} (h : w ∈ lw_tbl) (g : goodWord w = true) : w ∈ zTs := List.mem_filter.mpr ⟨h, g⟩
abbrev zV : Type := Int32 ⊕ Int64 ⊕ Option (Nat × Nat)
abbrev zI (x : Int32) : zV := .inl x
abbrev zJ (x : Int64) : zV := .inr (.inl x)
abbrev zR (c n : Nat) : zV := .inr (.inr (some (c, n)))
abbrev zN : zV := .inr (.inr none)
abbrev zM : Type := (Nat → Nat → Nat → Int32) × (Nat → Nat → Nat → Int64) × (Nat → Option Nat)
abbrev zF : Type := List (Option zV) × List zV × zM
abbrev zQ : Type := Option zV × zM
abbrev zT : Type := Option (zQ ⊕ (Nat × zF))
abbrev zX : Type := Nat → zF → zT
def zrun (C : Nat → zX) : Nat → Nat → zF → Option zQ
  | 0, _, _ => none
  | n + 1, pc, f => match C pc pc f with
    | none => none
    | some (.inl r) => some r
    | some (.inr q) => zrun C n q.1 q.2
theorem zrun_s {C : Nat → zX} : ∀ (n pc : Nat) (f : zF) (r : zQ), zrun C n pc f = some r → zrun C (n + 1) pc f = some r := by
  intro n
  induction n with
  | zero => intro pc f r h; cases h
  | succ n ih =>
    intro pc f r h
    rw [zrun] at h ⊢
    cases hc : C pc pc f with
    | none => rw [hc] at h; cases h
    | some t =>
      rw [hc] at h
      cases t with
      | inl q => exact h
      | inr q => exact ih _ _ _ h
theorem zrun_m {C : Nat → zX} {n k pc : Nat} {f : zF} {r : zQ} (h : zrun C n pc f = some r) : zrun C (n + k) pc f = some r := by
  induction k with
  | zero => exact h
  | succ k ih => exact zrun_s _ _ _ _ ih
theorem zrun_u {C : Nat → zX} {n k pc : Nat} {f : zF} {r r' : zQ} (h : zrun C n pc f = some r) (h' : zrun C k pc f = some r') : r = r' := by
  have a := zrun_m (k := k) h
  have b := zrun_m (k := n) h'
  rw [Nat.add_comm] at b
  exact Option.some.inj (a.symm.trans b)
noncomputable def zev (C : Nat → zX) (pc : Nat) (f : zF) : Option zQ := Classical.epsilon (fun o : Option zQ => (∃ n r, zrun C n pc f = some r ∧ o = some r) ∨ ((¬ ∃ n r, zrun C n pc f = some r) ∧ o = none))
theorem zev_spec (C : Nat → zX) (pc : Nat) (f : zF) : (∃ n r, zrun C n pc f = some r ∧ zev C pc f = some r) ∨ ((¬ ∃ n r, zrun C n pc f = some r) ∧ zev C pc f = none) := by
  refine Classical.epsilon_spec (p := fun o : Option zQ => (∃ n r, zrun C n pc f = some r ∧ o = some r) ∨ ((¬ ∃ n r, zrun C n pc f = some r) ∧ o = none)) ?_
  by_cases h : ∃ n r, zrun C n pc f = some r
  · obtain ⟨n, r, h⟩ := h
    exact ⟨some r, Or.inl ⟨n, r, h, rfl⟩⟩
  · exact ⟨none, Or.inr ⟨h, rfl⟩⟩
theorem zev_iff {C : Nat → zX} {pc : Nat} {f : zF} {r : zQ} : zev C pc f = some r ↔ ∃ n, zrun C n pc f = some r := by
  rcases zev_spec C pc f with ⟨n, r', h1, h2⟩ | ⟨h1, h2⟩
  · constructor
    · intro h
      exact ⟨n, by rw [h1, ← h2, h]⟩
    · intro ⟨k, h⟩
      rw [h2, zrun_u h1 h]
  · constructor
    · intro h
      rw [h2] at h; cases h
    · intro ⟨k, h⟩
      exact absurd ⟨k, r, h⟩ h1
theorem zev_eq (C : Nat → zX) (pc : Nat) (f : zF) : zev C pc f = match C pc pc f with
    | none => none
    | some (.inl r) => some r
    | some (.inr q) => zev C q.1 q.2 := by
  refine Option.ext fun r => ?_
  rw [zev_iff]
  constructor
  · intro ⟨n, h⟩
    cases n with
    | zero => cases h
    | succ n =>
      rw [zrun] at h
      cases hc : C pc pc f with
      | none => rw [hc] at h; cases h
      | some t =>
        rw [hc] at h
        cases t with
        | inl q => exact h
        | inr q => exact zev_iff.mpr ⟨n, h⟩
  · intro h
    cases hc : C pc pc f with
    | none => rw [hc] at h; cases h
    | some t =>
      rw [hc] at h
      cases t with
      | inl q => exact ⟨1, by rw [zrun, hc]; exact h⟩
      | inr q =>
        obtain ⟨n, h⟩ := zev_iff.mp h
        exact ⟨n + 1, by rw [zrun, hc]; exact h⟩
/-- k steps on -/
noncomputable def zevk (C : Nat → zX) : Nat → Nat → zF → Option zQ
  | 0, pc, f => zev C pc f
  | k + 1, pc, f => match C pc pc f with
    | none => none
    | some (.inl r) => some r
    | some (.inr q) => zevk C k q.1 q.2
theorem zev_k (C : Nat → zX) (k pc : Nat) (f : zF) : zev C pc f = zevk C k pc f := by
  induction k generalizing pc f with
  | zero => rfl
  | succ k ih =>
    rw [zev_eq, zevk]
    cases C pc pc f with
    | none => rfl
    | some t =>
      cases t with
      | inl q => rfl
      | inr q => exact ih _ _
def zfind : List (Nat × zX) → Nat → zX
  | [], _ => fun _ _ => none
  | (k, x) :: t, pc => match Nat.beq k pc with
    | true => x
    | false => zfind t pc
-- the frame with which a method begins
def zlay : List zV → List (Option zV)
  | [] => []
  | .inr (.inl x) :: t => some (zJ x) :: none :: zlay t
  | v :: t => some v :: zlay t
def zent (nL : Nat) (a : List zV) : List (Option zV) := zlay a ++ List.replicate (nL - (zlay a).length) none
noncomputable def zdn (C : Nat → zX) (nL : Nat) (a : List zV) (M : zM) : Option zQ := match Nat.ble (zlay a).length nL with
  | true => zev C 0 (zent nL a, [], M)
  | false => none
-- locals
def zget : List (Option zV) → Nat → Option zV
  | [], _ => none
  | v :: _, 0 => v
  | _ :: t, i + 1 => zget t i
def zput : List (Option zV) → Nat → Option zV → List (Option zV)
  | [], _, _ => []
  | _ :: t, 0, v => v :: t
  | w :: t, i + 1, v => w :: zput t i v
def zcat : zV → Nat
  | .inr (.inl _) => 2
  | _ => 1
def zcats : List zV → Nat
  | [] => 0
  | v :: t => zcat v + zcats t
/-- the slot before i, if it begins a long, is lost -/
def zkill (L : List (Option zV)) : Nat → List (Option zV)
  | 0 => L
  | i + 1 => match zget L i with
    | some (.inr (.inl _)) => zput L i none
    | _ => L
def zset1 (L : List (Option zV)) (i : Nat) (v : zV) : List (Option zV) := zput (zkill L i) i (some v)
def zset2 (L : List (Option zV)) (i : Nat) (v : zV) : List (Option zV) := zput (zput (zkill L i) i (some v)) (i + 1) none
theorem zget_put : ∀ (L : List (Option zV)) (i j : Nat) (v : Option zV), zget (zput L i v) j = if j = i ∧ i < L.length then v else zget L j
  | [], i, j, v => by simp [zput, zget]
  | w :: t, 0, 0, v => by simp [zput, zget]
  | w :: t, 0, j + 1, v => by simp [zput, zget]
  | w :: t, i + 1, 0, v => by simp [zput, zget]
  | w :: t, i + 1, j + 1, v => by
    simp only [zput, zget, List.length_cons]
    rw [zget_put t i j v]
    simp
theorem zput_len : ∀ (L : List (Option zV)) (i : Nat) (v : Option zV), (zput L i v).length = L.length
  | [], i, v => by simp [zput]
  | w :: t, 0, v => by simp [zput]
  | w :: t, i + 1, v => by simp [zput, zput_len t i v]
theorem zkill_len (L : List (Option zV)) (i : Nat) : (zkill L i).length = L.length := by
  cases i with
  | zero => rfl
  | succ i =>
    rw [zkill]
    cases h : zget L i with
    | none => rfl
    | some v =>
      rcases v with x | x | x
      · rfl
      · exact zput_len _ _ _
      · rfl
theorem zget_lt : ∀ (L : List (Option zV)) (i : Nat) (v : zV), zget L i = some v → i < L.length
  | [], i, v, h => by simp [zget] at h
  | w :: t, 0, v, h => by simp
  | w :: t, i + 1, v, h => by simpa using zget_lt t i v h

-- the instructions
def zst {α : Type} (f : Nat → Nat → α) (c n : Nat) (g : α) : Nat → Nat → α := fun a b => if a = c ∧ b = n then g else f a b
/-- roles of arrays: 20.. ; how long, and of what (0 int, 1 long, 2 char, 3 reference) -/
def zlt : Nat → Nat
  | 20 => 10 | 21 => 10 | 22 => 10 | 23 => 220 | 24 => 220 | 25 => 120 | 26 => 60 | 27 => 4 | 28 => 5
  | 29 => 8 | 30 => 10 | 31 => 10 | 32 => 10 | 33 => 10 | 34 => 10 | 35 => 20 | 36 => 5 | 40 => 17 | _ => 0
/-- what kind of cell: 0 ints, 1 longs, 2 chars, 3 references, 4 the letters, 5 the script, 9 an object -/
def zpr : Nat → Nat
  | 20 => 0 | 21 => 0 | 22 => 0 | 23 => 1 | 24 => 1 | 25 => 0 | 26 => 2 | 27 => 0 | 28 => 3
  | 29 => 0 | 30 => 0 | 31 => 0 | 32 => 0 | 33 => 0 | 34 => 0 | 35 => 1 | 36 => 0 | 40 => 4 | 41 => 5 | _ => 9
def zxc (v : zV) (k : Nat) : zX := fun pc f => some (.inr (pc + k, f.1, v :: f.2.1, f.2.2))
def ziload (i k : Nat) : zX := fun pc f => match zget f.1 i with
  | some (.inl x) => some (.inr (pc + k, f.1, zI x :: f.2.1, f.2.2))
  | _ => none
def zlload (i k : Nat) : zX := fun pc f => match zget f.1 i with
  | some (.inr (.inl x)) => some (.inr (pc + k, f.1, zJ x :: f.2.1, f.2.2))
  | _ => none
def zaload (i k : Nat) : zX := fun pc f => match zget f.1 i with
  | some (.inr (.inr x)) => some (.inr (pc + k, f.1, .inr (.inr x) :: f.2.1, f.2.2))
  | _ => none
def zistore (i k : Nat) : zX := fun pc f => match f.2.1 with
  | .inl x :: st => some (.inr (pc + k, zset1 f.1 i (zI x), st, f.2.2))
  | _ => none
def zlstore (i k : Nat) : zX := fun pc f => match f.2.1 with
  | .inr (.inl x) :: st => some (.inr (pc + k, zset2 f.1 i (zJ x), st, f.2.2))
  | _ => none
def zastore (i k : Nat) : zX := fun pc f => match f.2.1 with
  | .inr (.inr x) :: st => some (.inr (pc + k, zset1 f.1 i (.inr (.inr x)), st, f.2.2))
  | _ => none
def ziinc (i : Nat) (d : Int32) : zX := fun pc f => match zget f.1 i with
  | some (.inl x) => some (.inr (pc + 3, zset1 f.1 i (zI (x + d)), f.2.1, f.2.2))
  | _ => none
def zbin (g : Int32 → Int32 → Int32) : zX := fun pc f => match f.2.1 with
  | .inl y :: .inl x :: st => some (.inr (pc + 1, f.1, zI (g x y) :: st, f.2.2))
  | _ => none
def zdiv (g : Int32 → Int32 → Int32) : zX := fun pc f => match f.2.1 with
  | .inl y :: .inl x :: st => if y = 0 then none else some (.inr (pc + 1, f.1, zI (g x y) :: st, f.2.2))
  | _ => none
def zlbin (g : Int64 → Int64 → Int64) : zX := fun pc f => match f.2.1 with
  | .inr (.inl y) :: .inr (.inl x) :: st => some (.inr (pc + 1, f.1, zJ (g x y) :: st, f.2.2))
  | _ => none
def zlsh (g : Int64 → Int32 → Int64) : zX := fun pc f => match f.2.1 with
  | .inl y :: .inr (.inl x) :: st => some (.inr (pc + 1, f.1, zJ (g x y) :: st, f.2.2))
  | _ => none
def zun (g : Int32 → Int32) : zX := fun pc f => match f.2.1 with
  | .inl x :: st => some (.inr (pc + 1, f.1, zI (g x) :: st, f.2.2))
  | _ => none
def zi2l : zX := fun pc f => match f.2.1 with
  | .inl x :: st => some (.inr (pc + 1, f.1, zJ x.toInt64 :: st, f.2.2))
  | _ => none
def zl2i : zX := fun pc f => match f.2.1 with
  | .inr (.inl x) :: st => some (.inr (pc + 1, f.1, zI x.toInt32 :: st, f.2.2))
  | _ => none
def zi2c : zX := fun pc f => match f.2.1 with
  | .inl x :: st => some (.inr (pc + 1, f.1, zI (x.toUInt32 % 65536).toInt32 :: st, f.2.2))
  | _ => none
def zlcmp : zX := fun pc f => match f.2.1 with
  | .inr (.inl y) :: .inr (.inl x) :: st => some (.inr (pc + 1, f.1, zI (lg_cmp x y) :: st, f.2.2))
  | _ => none
def zdup : zX := fun pc f => match f.2.1 with
  | v :: st => match Nat.beq (zcat v) 1 with
    | true => some (.inr (pc + 1, f.1, v :: v :: st, f.2.2))
    | false => none
  | _ => none
def zdup2 : zX := fun pc f => match f.2.1 with
  | v :: w :: st => match Nat.beq (zcat v) 1 with
    | true => match Nat.beq (zcat w) 1 with
      | true => some (.inr (pc + 1, f.1, v :: w :: v :: w :: st, f.2.2))
      | false => none
    | false => none
  | _ => none
def zpop : zX := fun pc f => match f.2.1 with
  | v :: st => match Nat.beq (zcat v) 1 with
    | true => some (.inr (pc + 1, f.1, st, f.2.2))
    | false => none
  | _ => none
def zgoto (t : Nat) : zX := fun _ f => some (.inr (t, f))
def zifeq (t : Nat) : zX := fun pc f => match f.2.1 with
  | .inl x :: st => some (.inr (if x = 0 then t else pc + 3, f.1, st, f.2.2))
  | _ => none
def zifne (t : Nat) : zX := fun pc f => match f.2.1 with
  | .inl x :: st => some (.inr (if x = 0 then pc + 3 else t, f.1, st, f.2.2))
  | _ => none
def ziflt (t : Nat) : zX := fun pc f => match f.2.1 with
  | .inl x :: st => some (.inr (if x < 0 then t else pc + 3, f.1, st, f.2.2))
  | _ => none
def zifge (t : Nat) : zX := fun pc f => match f.2.1 with
  | .inl x :: st => some (.inr (if 0 ≤ x then t else pc + 3, f.1, st, f.2.2))
  | _ => none
def zifgt (t : Nat) : zX := fun pc f => match f.2.1 with
  | .inl x :: st => some (.inr (if 0 < x then t else pc + 3, f.1, st, f.2.2))
  | _ => none
def zifle (t : Nat) : zX := fun pc f => match f.2.1 with
  | .inl x :: st => some (.inr (if x ≤ 0 then t else pc + 3, f.1, st, f.2.2))
  | _ => none
def zceq (t : Nat) : zX := fun pc f => match f.2.1 with
  | .inl y :: .inl x :: st => some (.inr (if x = y then t else pc + 3, f.1, st, f.2.2))
  | _ => none
def zcne (t : Nat) : zX := fun pc f => match f.2.1 with
  | .inl y :: .inl x :: st => some (.inr (if x = y then pc + 3 else t, f.1, st, f.2.2))
  | _ => none
def zclt (t : Nat) : zX := fun pc f => match f.2.1 with
  | .inl y :: .inl x :: st => some (.inr (if x < y then t else pc + 3, f.1, st, f.2.2))
  | _ => none
def zcge (t : Nat) : zX := fun pc f => match f.2.1 with
  | .inl y :: .inl x :: st => some (.inr (if y ≤ x then t else pc + 3, f.1, st, f.2.2))
  | _ => none
def zcgt (t : Nat) : zX := fun pc f => match f.2.1 with
  | .inl y :: .inl x :: st => some (.inr (if y < x then t else pc + 3, f.1, st, f.2.2))
  | _ => none
def zcle (t : Nat) : zX := fun pc f => match f.2.1 with
  | .inl y :: .inl x :: st => some (.inr (if x ≤ y then t else pc + 3, f.1, st, f.2.2))
  | _ => none
def znull (t : Nat) : zX := fun pc f => match f.2.1 with
  | .inr (.inr none) :: st => some (.inr (t, f.1, st, f.2.2))
  | .inr (.inr (some _)) :: st => some (.inr (pc + 3, f.1, st, f.2.2))
  | _ => none
def znonnull (t : Nat) : zX := fun pc f => match f.2.1 with
  | .inr (.inr none) :: st => some (.inr (pc + 3, f.1, st, f.2.2))
  | .inr (.inr (some _)) :: st => some (.inr (t, f.1, st, f.2.2))
  | _ => none
def zswt : List (Int32 × Nat) → Nat → Int32 → Nat
  | [], d, _ => d
  | (k, t) :: r, d, x => if x = k then t else zswt r d x
def zsw (cs : List (Int32 × Nat)) (d : Nat) : zX := fun _ f => match f.2.1 with
  | .inl x :: st => some (.inr (zswt cs d x, f.1, st, f.2.2))
  | _ => none
def zgetI (c k : Nat) : zX := fun pc f => match f.2.1 with
  | .inr (.inr (some (c', n))) :: st => match Nat.beq c' c with
    | true => some (.inr (pc + 3, f.1, zI (f.2.2.1 c n k) :: st, f.2.2))
    | false => none
  | _ => none
def zgetJ (c k : Nat) : zX := fun pc f => match f.2.1 with
  | .inr (.inr (some (c', n))) :: st => match Nat.beq c' c with
    | true => some (.inr (pc + 3, f.1, zJ (f.2.2.2.1 c n k) :: st, f.2.2))
    | false => none
  | _ => none
def zgetR (c c2 : Nat) (g : Nat → Nat) : zX := fun pc f => match f.2.1 with
  | .inr (.inr (some (c', n))) :: st => match Nat.beq c' c with
    | true => some (.inr (pc + 3, f.1, zR c2 (g n) :: st, f.2.2))
    | false => none
  | _ => none
def zputI (c k : Nat) : zX := fun pc f => match f.2.1 with
  | .inl x :: .inr (.inr (some (c', n))) :: st => match Nat.beq c' c with
    | true => some (.inr (pc + 3, f.1, st, (zst f.2.2.1 c n (upd (f.2.2.1 c n) k x), f.2.2.2)))
    | false => none
  | _ => none
def zputZ (c k : Nat) : zX := fun pc f => match f.2.1 with
  | .inl x :: .inr (.inr (some (c', n))) :: st => match Nat.beq c' c with
    | true => if x = 0 ∨ x = 1 then some (.inr (pc + 3, f.1, st, (zst f.2.2.1 c n (upd (f.2.2.1 c n) k x), f.2.2.2))) else none
    | false => none
  | _ => none
def zputJ (c k : Nat) : zX := fun pc f => match f.2.1 with
  | .inr (.inl x) :: .inr (.inr (some (c', n))) :: st => match Nat.beq c' c with
    | true => some (.inr (pc + 3, f.1, st, (f.2.2.1, zst f.2.2.2.1 c n (vp_updL (f.2.2.2.1 c n) k x), f.2.2.2.2)))
    | false => none
  | _ => none
def ziald : zX := fun pc f => match f.2.1 with
  | .inl i :: .inr (.inr (some (c, n))) :: st => match zpr c with
    | 0 => if i < 0 ∨ zlt c ≤ i.toNatClampNeg then none else some (.inr (pc + 1, f.1, zI (f.2.2.1 c n i.toNatClampNeg) :: st, f.2.2))
    | 4 => if i < 0 ∨ 17 ≤ i.toNatClampNeg then none else some (.inr (pc + 1, f.1, zI (f.2.2.1 c n i.toNatClampNeg) :: st, f.2.2))
    | 5 => if i < 0 ∨ (f.2.2.1 42 0 0).toNatClampNeg ≤ i.toNatClampNeg then none else some (.inr (pc + 1, f.1, zI (f.2.2.1 c n i.toNatClampNeg) :: st, f.2.2))
    | _ => none
  | _ => none
def zcald : zX := fun pc f => match f.2.1 with
  | .inl i :: .inr (.inr (some (c, n))) :: st => match zpr c with
    | 2 => if i < 0 ∨ zlt c ≤ i.toNatClampNeg then none else some (.inr (pc + 1, f.1, zI (f.2.2.1 c n i.toNatClampNeg) :: st, f.2.2))
    | _ => none
  | _ => none
def zlald : zX := fun pc f => match f.2.1 with
  | .inl i :: .inr (.inr (some (c, n))) :: st => match zpr c with
    | 1 => if i < 0 ∨ zlt c ≤ i.toNatClampNeg then none else some (.inr (pc + 1, f.1, zJ (f.2.2.2.1 c n i.toNatClampNeg) :: st, f.2.2))
    | _ => none
  | _ => none
def zaald : zX := fun pc f => match f.2.1 with
  | .inl i :: .inr (.inr (some (c, n))) :: st => match zpr c with
    | 3 => if i < 0 ∨ zlt c ≤ i.toNatClampNeg then none else some (.inr (pc + 1, f.1, .inr (.inr ((f.2.2.2.2 i.toNatClampNeg).map (fun q => (4, q)))) :: st, f.2.2))
    | _ => none
  | _ => none
def ziast : zX := fun pc f => match f.2.1 with
  | .inl x :: .inl i :: .inr (.inr (some (c, n))) :: st => match zpr c with
    | 0 => if i < 0 ∨ zlt c ≤ i.toNatClampNeg then none else some (.inr (pc + 1, f.1, st, (zst f.2.2.1 c n (upd (f.2.2.1 c n) i.toNatClampNeg x), f.2.2.2)))
    | _ => none
  | _ => none
def zcast : zX := fun pc f => match f.2.1 with
  | .inl x :: .inl i :: .inr (.inr (some (c, n))) :: st => match zpr c with
    | 2 => if i < 0 ∨ zlt c ≤ i.toNatClampNeg then none else some (.inr (pc + 1, f.1, st, (zst f.2.2.1 c n (upd (f.2.2.1 c n) i.toNatClampNeg (vp_nar .char x)), f.2.2.2)))
    | _ => none
  | _ => none
def zlast : zX := fun pc f => match f.2.1 with
  | .inr (.inl x) :: .inl i :: .inr (.inr (some (c, n))) :: st => match zpr c with
    | 1 => if i < 0 ∨ zlt c ≤ i.toNatClampNeg then none else some (.inr (pc + 1, f.1, st, (f.2.2.1, zst f.2.2.2.1 c n (vp_updL (f.2.2.2.1 c n) i.toNatClampNeg x), f.2.2.2.2)))
    | _ => none
  | _ => none
def zaast : zX := fun pc f => match f.2.1 with
  | .inr (.inr (some (4, q))) :: .inl i :: .inr (.inr (some (c, n))) :: st => match zpr c with
    | 3 => if i < 0 ∨ zlt c ≤ i.toNatClampNeg then none else some (.inr (pc + 1, f.1, st, (f.2.2.1, f.2.2.2.1, va_up f.2.2.2.2 i.toNatClampNeg (some q))))
    | _ => none
  | _ => none
def zalen : zX := fun pc f => match f.2.1 with
  | .inr (.inr (some (c, n))) :: st => match zpr c with
    | 9 => none
    | 4 => none
    | 5 => some (.inr (pc + 1, f.1, zI (f.2.2.1 42 0 0) :: st, f.2.2))
    | _ => some (.inr (pc + 1, f.1, zI (Int32.ofNat (zlt c)) :: st, f.2.2))
  | _ => none
def zcopy : zX := fun pc f => match f.2.1 with
  | .inl n :: .inl dp :: .inr (.inr (some (c1, n1))) :: .inl sp :: .inr (.inr (some (c0, n0))) :: st => match Nat.ble (zcats st) 8 with
    | true => if n < 0 ∨ dp < 0 ∨ sp < 0 ∨ zlt c0 < sp.toNatClampNeg + n.toNatClampNeg ∨ zlt c1 < dp.toNatClampNeg + n.toNatClampNeg then none else
      match zpr c0, zpr c1 with
      | 0, 0 => some (.inr (pc + 3, f.1, st, (zst f.2.2.1 c1 n1 (va_cpy (f.2.2.1 c0 n0) (f.2.2.1 c1 n1) sp.toNatClampNeg dp.toNatClampNeg n.toNatClampNeg), f.2.2.2)))
      | 1, 1 => some (.inr (pc + 3, f.1, st, (f.2.2.1, zst f.2.2.2.1 c1 n1 (va_cpy (f.2.2.2.1 c0 n0) (f.2.2.2.1 c1 n1) sp.toNatClampNeg dp.toNatClampNeg n.toNatClampNeg), f.2.2.2.2)))
      | _, _ => none
    | false => none
  | _ => none
def zmin : zX := fun pc f => match f.2.1 with
  | .inl y :: .inl x :: st => match Nat.ble (zcats st) 8 with
    | true => some (.inr (pc + 3, f.1, zI (if y < x then y else x) :: st, f.2.2))
    | false => none
  | _ => none
def zpush (r : Option zV) (st : List zV) : List zV := match r with
  | none => st
  | some v => v :: st
/-- a call: k values, the last one on top; the answer comes onto the stack -/
def zcalls (k : Nat) (g : List zV → zM → Option zQ) : zX := fun pc f => match Nat.ble (zcats (f.2.1.drop k)) 8, Nat.ble k f.2.1.length with
  | true, true => (g (f.2.1.take k).reverse f.2.2).bind (fun r => some (.inr (pc + 3, f.1, zpush r.1 (f.2.1.drop k), r.2)))
  | _, _ => none
/-- a call of a method of an object: below the k values stands the object -/
def zcallv (c k : Nat) (g : List zV → zM → Option zQ) : zX := fun pc f => match f.2.1.drop k with
  | .inr (.inr (some (c', n))) :: st => match Nat.beq c' c, Nat.ble (zcats st) 8 with
    | true, true => (g (zR c n :: (f.2.1.take k).reverse) f.2.2).bind (fun r => some (.inr (pc + 3, f.1, zpush r.1 st, r.2)))
    | _, _ => none
  | _ => none
/-- how many charged calls so far -/
def zgh (M : zM) : Nat := (M.1 43 0 0).toNatClampNeg
def zgs (M : zM) (k : Nat) : zM := (zst M.1 43 0 (fun _ => nI k), M.2)
/-- a call that is charged: at most n of them -/
def zcallc (n k : Nat) (g : List zV → zM → Option zQ) : zX := fun pc f => match Nat.ble (zcats (f.2.1.drop k)) 8, Nat.ble k f.2.1.length with
  | true, true => if n ≤ zgh f.2.2 then none else (g (f.2.1.take k).reverse f.2.2).bind (fun r => some (.inr (pc + 3, f.1, zpush r.1 (f.2.1.drop k), zgs r.2 (zgh f.2.2 + 1))))
  | _, _ => none
/-- a new row of five ints: the sight -/
def znew5 : zX := fun pc f => match f.2.1 with
  | .inl x :: st => if x = 5 then some (.inr (pc + 2, f.1, zR 36 0 :: st, (zst f.2.2.1 36 0 (fun _ => 0), f.2.2.2))) else none
  | _ => none
theorem zev_callg {C : Nat → zX} {pc pc' : Nat} {f : zF} {n m : Nat} {o : Option zQ} {F : zQ → zF} (h : C pc pc f = if n ≤ m then none else o.bind (fun r => some (.inr (pc', F r)))) : zev C pc f = if n ≤ m then none else o.bind (fun r => zev C pc' (F r)) := by
  rw [zev_eq, h]
  by_cases c : n ≤ m
  · rw [if_pos c, if_pos c]
  · rw [if_neg c, if_neg c]; cases o <;> rfl
theorem zev_call {C : Nat → zX} {pc pc' : Nat} {f : zF} {o : Option zQ} {F : zQ → zF} (h : C pc pc f = o.bind (fun r => some (.inr (pc', F r)))) : zev C pc f = o.bind (fun r => zev C pc' (F r)) := by
  rw [zev_eq, h]
  cases o <;> rfl
def zvret : zX := fun _ f => match f.2.1 with
  | [] => some (.inl (none, f.2.2))
  | _ => none
def ziret : zX := fun _ f => match f.2.1 with
  | [.inl x] => some (.inl (some (zI x), f.2.2))
  | _ => none
def zzret : zX := fun _ f => match f.2.1 with
  | [.inl x] => if x = 0 ∨ x = 1 then some (.inl (some (zI x), f.2.2)) else none
  | _ => none
def zlret : zX := fun _ f => match f.2.1 with
  | [.inr (.inl x)] => some (.inl (some (zJ x), f.2.2))
  | _ => none
def zaret : zX := fun _ f => match f.2.1 with
  | [.inr (.inr x)] => some (.inl (some (.inr (.inr x)), f.2.2))
  | _ => none
/-- some locals are forgotten ahead of an instruction -/
def zdrs : List (Option zV) → List Bool → List (Option zV)
  | v :: L, b :: m => (match b with | true => none | false => v) :: zdrs L m
  | L, _ => L
def zdr (ks : List Bool) (x : zX) : zX := fun pc f => x pc (zdrs f.1 ks, f.2)
def zus (x y : Int32) : Int32 := (x.toUInt32 >>> (y.toUInt32 &&& Int32.toUInt32 31)).toInt32
def zrm (x y : Int32) : Int32 := x - x / y * y
def zlus (x : Int64) (y : Int32) : Int64 := (x.toUInt64 >>> (y.toInt64.toUInt64 &&& Int64.toUInt64 63)).toInt64
def zlsr (x : Int64) (y : Int32) : Int64 := x >>> (y.toInt64 &&& 63)
def zlsl (x : Int64) (y : Int32) : Int64 := x <<< (y.toInt64 &&& 63)
def zi2cf (x : Int32) : Int32 := (x.toUInt32 % 65536).toInt32
theorem zif_pc (C : Nat → zX) {c : Prop} [Decidable c] (a b : Nat) (f : zF) : zev C (if c then a else b) f = if c then zev C a f else zev C b f := apply_ite (fun pc => zev C pc f) c a b
theorem zev_grd {C : Nat → zX} {pc : Nat} {f : zF} {g : Prop} [Decidable g] {q : Nat × zF} (h : C pc pc f = if g then none else some (.inr q)) : zev C pc f = if g then none else zev C q.1 q.2 := by
  rw [zev_eq, h]
  by_cases hg : g
  · rw [if_pos hg, if_pos hg]
  · rw [if_neg hg, if_neg hg]
theorem zev_rt {C : Nat → zX} {pc : Nat} {f : zF} {g : Prop} [Decidable g] {r : zQ} (h : C pc pc f = if g then some (.inl r) else none) : zev C pc f = if g then some r else none := by
  rw [zev_eq, h]
  by_cases hg : g
  · rw [if_pos hg, if_pos hg]
  · rw [if_neg hg, if_neg hg]
theorem zev_s {C : Nat → zX} {pc pc' : Nat} {x : zX} {f f' : zF} (hc : C pc = x) (h : x pc f = some (.inr (pc', f'))) : zev C pc f = zev C pc' f' := by
  rw [zev_eq, hc, h]
theorem zev_r {C : Nat → zX} {pc : Nat} {x : zX} {f : zF} {r : zQ} (hc : C pc = x) (h : x pc f = some (.inl r)) : zev C pc f = some r := by
  rw [zev_eq, hc, h]
theorem zev_d {C : Nat → zX} {pc : Nat} {ks : List Bool} {x : zX} {L L' : List (Option zV)} {q : List zV × zM} {y : zT} (hc : C pc = zdr ks x) (hd : zdrs L ks = L') (h : x pc (L', q) = y) : C pc pc (L, q) = y := by
  rw [hc]; unfold zdr; rw [hd]; exact h
theorem zev_n {C : Nat → zX} {pc : Nat} {x : zX} {f : zF} {y : zT} (hc : C pc = x) (h : x pc f = y) : C pc pc f = y := by rw [hc]; exact h
theorem zev_s' {C : Nat → zX} {pc pc' : Nat} {f f' : zF} (h : C pc pc f = some (.inr (pc', f'))) : zev C pc f = zev C pc' f' := by
  rw [zev_eq, h]
theorem zev_r' {C : Nat → zX} {pc : Nat} {f : zF} {r : zQ} (h : C pc pc f = some (.inl r)) : zev C pc f = some r := by
  rw [zev_eq, h]

/-- a method that counts its charged calls from 0, and gives the count of before back -/
noncomputable def zdq (C : Nat → zX) (nL : Nat) (a : List zV) (M : zM) : Option zQ := (zdn C nL a (zgs M 0)).map (fun r => (r.1, (zst r.2.1 43 0 (M.1 43 0), r.2.2)))
