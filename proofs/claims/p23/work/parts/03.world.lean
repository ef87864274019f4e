-- ===== the heap's picture =====
def zob (c k : Nat) : List (Nat × Nat) := (List.range k).map (fun n => (c, n))
def zcn (b : Bool) : Nat → Nat
  | 0 => 14 | 1 => 56 | 2 => 1 | 3 => 1 | 4 => 7 | 5 => 1 | 6 => 7 | 7 => 1 | 20 => 7 | 21 => 7 | 22 => 7 | 23 => 7 | 24 => 7 | 25 => 14
  | 26 => 1 | 27 => 1 | 28 => 1 | 29 => 1 | 30 => 1 | 31 => 1 | 32 => 1 | 33 => 1 | 34 => 1 | 35 => 1 | 36 => b.toNat | _ => 0
def zcs : List Nat := [0, 1, 2, 3, 4, 5, 6, 7, 20, 21, 22, 23, 24, 25, 26, 27, 28, 29, 30, 31, 32, 33, 34, 35, 36]
def zobjs (b : Bool) : List (Nat × Nat) := zcs.flatMap (fun c => zob c (zcn b c))
theorem zob_mem {c k a n : Nat} : (a, n) ∈ zob c k ↔ a = c ∧ n < k := by
  simp only [zob, List.mem_map, List.mem_range, Prod.mk.injEq]
  constructor
  · rintro ⟨x, h1, h2, h3⟩
    exact ⟨h2.symm, h3 ▸ h1⟩
  · rintro ⟨h1, h2⟩
    exact ⟨n, h2, h1.symm, rfl⟩
theorem zcn_lt {b : Bool} {c : Nat} (h : 0 < zcn b c) : c < 37 := by
  unfold zcn at h
  split at h <;> omega
theorem zcn_in {b : Bool} {c : Nat} (h : 0 < zcn b c) : c ∈ zcs := by
  cases b with
  | true => exact (show ∀ c, c < 37 → 0 < zcn true c → c ∈ zcs by decide +kernel) c (zcn_lt h) h
  | false => exact (show ∀ c, c < 37 → 0 < zcn false c → c ∈ zcs by decide +kernel) c (zcn_lt h) h
theorem zobjs_mem {b : Bool} {c n : Nat} : (c, n) ∈ zobjs b ↔ n < zcn b c := by
  rw [zobjs, List.mem_flatMap]
  constructor
  · rintro ⟨a, -, h⟩
    obtain ⟨rfl, h⟩ := zob_mem.mp h
    exact h
  · intro h
    exact ⟨c, zcn_in (b := b) (by omega), zob_mem.mpr ⟨rfl, h⟩⟩
theorem zobjs_nd (b : Bool) : va_nd ((zobjs b).map (fun q => 100 * q.1 + q.2)) = true := by cases b <;> decide +kernel
theorem zobjs_inj {b : Bool} {i j : Nat} {q : Nat × Nat} (h : (zobjs b)[i]? = some q) (h' : (zobjs b)[j]? = some q) : i = j :=
  va_nd_inj _ (zobjs_nd b) i j (100 * q.1 + q.2) (by rw [List.getElem?_map, h]; rfl) (by rw [List.getElem?_map, h']; rfl)
theorem zobjs_t : zobjs true = zobjs false ++ [(36, 0)] := by decide +kernel
abbrev zG : Type := va_G × (Nat → Nat → Nat) × (ClassId × ClassId × ClassId × ClassId) × Nat × (Nat → Int32) × Bool × Nat
abbrev zsi (G : zG) : Bool := G.2.2.2.2.2.1
abbrev zgt (G : zG) (g : Nat) : zG := (G.1, G.2.1, G.2.2.1, G.2.2.2.1, G.2.2.2.2.1, G.2.2.2.2.2.1, g)
abbrev zad (G : zG) : Nat → Nat → Nat := G.2.1
def zc (G : zG) : zV → Value
  | .inl x => .int x
  | .inr (.inl x) => .long x
  | .inr (.inr none) => .null
  | .inr (.inr (some q)) => .ref (zad G q.1 q.2)
def zfs (ad : Nat → Nat → Nat) (a : Nat → Int32) (b : Nat → Int64) (n : Nat) : Nat → List Value
  | 0 => [.int (a 0), .ref (ad 1 (4 * n)), .ref (ad 1 (4 * n + 1)), .ref (ad 1 (4 * n + 2)), .ref (ad 1 (4 * n + 3)), .ref (ad 25 n), .int (a 6)]
  | 1 => [.long (b 0), .long (b 1)]
  | 2 => [.ref (ad 28 n), .int (a 1)]
  | 3 => [.int (a 0), .int (a 1), .ref (ad 27 n), .int (a 3), .int (a 4)]
  | 4 => [.ref (ad 6 n), .ref (ad 0 (2 * n)), .ref (ad 0 (2 * n + 1)), .int (a 3), .int (a 4), .int (a 5), .int (a 6), .int (a 7)]
  | 5 => [.ref (ad 26 n), .int (a 1)]
  | 6 => [.int (a 0), .ref (ad 20 n), .ref (ad 21 n), .ref (ad 22 n), .ref (ad 23 n), .ref (ad 24 n)]
  | 7 => [.ref (ad 4 0), .ref (ad 4 1), .ref (ad 2 0), .ref (ad 5 0), .ref (ad 3 0), .int (a 5), .int (a 6), .int (a 7)]
  | _ => []
def zce (G : zG) (c n : Nat) (a : Nat → Int32) (b : Nat → Int64) (r : Nat → Option Nat) : va_E := match zpr c with
  | 0 => .inl (G.2.2.1.1, zlt c, .inl a)
  | 1 => .inl (G.2.2.1.2.1, zlt c, .inr (.inl b))
  | 2 => .inl (G.2.2.1.2.2.1, zlt c, .inl a)
  | 3 => .inl (G.2.2.1.2.2.2, zlt c, .inr (.inr (.inr (.inr (fun i => (r i).map (fun q => zad G 4 q))))))
  | _ => .inr (c, zfs (zad G) a b n c)
abbrev zcell (G : zG) (M : zM) (c n : Nat) : va_E := zce G c n (M.1 c n) (M.2.1 c n) M.2.2
def zws (G : zG) (M : zM) : va_W := (zobjs (zsi G)).map (fun q => (zad G q.1 q.2, zcell G M q.1 q.2))
theorem zpr3 {c : Nat} (h : zpr c = 3) : c = 28 := by
  unfold zpr at h
  split at h <;> first | rfl | cases h
theorem zws_at (G : zG) (M : zM) {c n : Nat} (h : (c, n) ∈ zobjs (zsi G)) : ∃ k : Nat, (zws G M)[k]? = some (zad G c n, zcell G M c n) ∧
    ∀ M' : zM, (∀ c' n' : Nat, (c', n') ∈ zobjs (zsi G) → ¬ (c' = c ∧ n' = n) → zcell G M' c' n' = zcell G M c' n') → (zws G M).set k (zad G c n, zcell G M' c n) = zws G M' := by
  obtain ⟨k, hk⟩ := List.getElem?_of_mem h
  refine ⟨k, by rw [zws, List.getElem?_map, hk]; rfl, fun M' hM => ?_⟩
  have hl : k < (zws G M).length := by rw [zws, List.length_map]; exact (List.getElem?_eq_some_iff.mp hk).1
  refine List.ext_getElem? fun j => ?_
  by_cases hj : j = k
  · subst hj
    rw [List.getElem?_set_self hl, zws, List.getElem?_map, hk]
    rfl
  · rw [List.getElem?_set_ne (Ne.symm hj), zws, zws, List.getElem?_map, List.getElem?_map]
    cases hq : (zobjs (zsi G))[j]? with
    | none => rfl
    | some q =>
      have e := hM q.1 q.2 (List.mem_of_getElem? hq) (fun z => hj (zobjs_inj hq (by rw [hk, ← z.1, ← z.2])))
      show some (_, _) = some (_, _)
      rw [e]
theorem zst_self {α : Type} (f : Nat → Nat → α) (c n : Nat) (g : α) : zst f c n g c n = g := by simp [zst]
theorem zst_ne {α : Type} (f : Nat → Nat → α) {c n c' n' : Nat} (g : α) (h : ¬ (c' = c ∧ n' = n)) : zst f c n g c' n' = f c' n' := by simp [zst, h]
/-- one row of ints is another -/
theorem zws_i (G : zG) (M : zM) {c n : Nat} (h : (c, n) ∈ zobjs (zsi G)) (g : Nat → Int32) : ∃ k : Nat, (zws G M)[k]? = some (zad G c n, zcell G M c n) ∧ (zws G M).set k (zad G c n, zce G c n g (M.2.1 c n) M.2.2) = zws G (zst M.1 c n g, M.2) := by
  obtain ⟨k, h1, h2⟩ := zws_at G M h
  refine ⟨k, h1, ?_⟩
  rw [← h2 (zst M.1 c n g, M.2) (fun c' n' _ hn => by show zce G c' n' (zst M.1 c n g c' n') _ _ = _; rw [zst_ne _ _ hn])]
  show _ = (zws G M).set k (zad G c n, zce G c n (zst M.1 c n g c n) _ _)
  rw [zst_self]
theorem zws_j (G : zG) (M : zM) {c n : Nat} (h : (c, n) ∈ zobjs (zsi G)) (g : Nat → Int64) : ∃ k : Nat, (zws G M)[k]? = some (zad G c n, zcell G M c n) ∧ (zws G M).set k (zad G c n, zce G c n (M.1 c n) g M.2.2) = zws G (M.1, zst M.2.1 c n g, M.2.2) := by
  obtain ⟨k, h1, h2⟩ := zws_at G M h
  refine ⟨k, h1, ?_⟩
  rw [← h2 (M.1, zst M.2.1 c n g, M.2.2) (fun c' n' _ hn => by show zce G c' n' _ (zst M.2.1 c n g c' n') _ = _; rw [zst_ne _ _ hn])]
  show _ = (zws G M).set k (zad G c n, zce G c n _ (zst M.2.1 c n g c n) _)
  rw [zst_self]
theorem zws_r (G : zG) (M : zM) (g : Nat → Option Nat) : ∃ k : Nat, (zws G M)[k]? = some (zad G 28 0, zcell G M 28 0) ∧ (zws G M).set k (zad G 28 0, zce G 28 0 (M.1 28 0) (M.2.1 28 0) g) = zws G (M.1, M.2.1, g) := by
  obtain ⟨k, h1, h2⟩ := zws_at G M (c := 28) (n := 0) (zobjs_mem.mpr (show 0 < zcn (zsi G) 28 from Nat.zero_lt_one))
  refine ⟨k, h1, ?_⟩
  rw [← h2 (M.1, M.2.1, g) (fun c' n' hm hn => ?_)]
  show zce G c' n' _ _ _ = zce G c' n' _ _ _
  have h3 : zpr c' ≠ 3 := fun h3 => hn ⟨zpr3 h3, by
    have := zobjs_mem.mp hm
    rw [zpr3 h3] at this
    exact Nat.lt_one_iff.mp (show n' < 1 from this)⟩
  unfold zce
  split <;> first | rfl | (exact absurd (by assumption) h3)
