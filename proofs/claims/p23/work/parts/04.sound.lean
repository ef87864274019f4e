-- ===== the machine follows the small machine =====
def zlet (i : Nat) : Int32 := ([0, 153429, 415318, 214083, 415062, 476743, 476740, 214355, 350037, 467495, 69970, 349781, 279623, 358229, 415061, 152914, 415300] : List Int32).getD i 0
def zlv (G : zG) : Nat → List (Option zV) → List (Nat × Value)
  | _, [] => []
  | i, none :: t => zlv G (i + 1) t
  | i, some v :: t => (i, zc G v) :: zlv G (i + 1) t
theorem zlv_mem {G : zG} : ∀ (L : List (Option zV)) (i : Nat) (q : Nat × Value), q ∈ zlv G i L ↔ ∃ j v, zget L j = some v ∧ q = (i + j, zc G v)
  | [], i, q => by simp [zlv, zget]
  | none :: t, i, q => by
    rw [zlv, zlv_mem t (i + 1) q]
    constructor
    · rintro ⟨j, v, h, rfl⟩
      exact ⟨j + 1, v, h, by rw [Nat.add_assoc, Nat.add_comm 1 j]⟩
    · rintro ⟨j, v, h, rfl⟩
      cases j with
      | zero => cases h
      | succ j => exact ⟨j, v, h, by rw [Nat.add_assoc, Nat.add_comm 1 j]⟩
  | some w :: t, i, q => by
    rw [zlv, List.mem_cons, zlv_mem t (i + 1) q]
    constructor
    · rintro (rfl | ⟨j, v, h, rfl⟩)
      · exact ⟨0, w, rfl, rfl⟩
      · exact ⟨j + 1, v, h, by rw [Nat.add_assoc, Nat.add_comm 1 j]⟩
    · rintro ⟨j, v, h, rfl⟩
      cases j with
      | zero => cases h; exact Or.inl rfl
      | succ j => exact Or.inr ⟨j, v, h, by rw [Nat.add_assoc, Nat.add_comm 1 j]⟩
theorem zlv_at {G : zG} {ls : Array Slot} {nL i : Nat} {L : List (Option zV)} {v : zV} (h : lv_has ls nL (zlv G 0 L)) (hg : zget L i = some v) : ls[i]? = some (.val (zc G v)) := h.2.2 (i, zc G v) ((zlv_mem L 0 _).mpr ⟨i, v, hg, by rw [Nat.zero_add]⟩)
theorem zc_cat (G : zG) (v : zV) : (zc G v).category = zcat v := by
  rcases v with x | x | _ | x <;> rfl
theorem zc_cats (G : zG) : ∀ st : List zV, ((st.map (zc G)).map fun v => v.category).sum = zcats st
  | [] => rfl
  | v :: t => by
    have := zc_cats G t
    simp only [List.map_cons, List.sum_cons, zcats, zc_cat] at this ⊢
    omega
theorem zget_kill {L : List (Option zV)} {i j : Nat} {w : zV} (h : zget (zkill L i) j = some w) : zget L j = some w ∧ ¬ (j + 1 = i ∧ zcat w = 2) := by
  cases i with
  | zero => exact ⟨h, fun z => by omega⟩
  | succ i =>
    rw [zkill] at h
    cases hg : zget L i with
    | none =>
      rw [hg] at h
      exact ⟨h, fun z => by rw [show j = i by omega, hg] at h; cases h⟩
    | some v =>
      rw [hg] at h
      rcases v with x | x | x
      · exact ⟨h, fun z => by rw [show j = i by omega, hg] at h; cases h; exact absurd z.2 (fun q => by cases q)⟩
      · have h : zget (zput L i none) j = some w := h
        rw [zget_put] at h
        by_cases hj : j = i ∧ i < L.length
        · rw [if_pos hj] at h; cases h
        · rw [if_neg hj] at h
          exact ⟨h, fun z => hj ⟨by omega, zget_lt _ _ _ hg⟩⟩
      · exact ⟨h, fun z => by rw [show j = i by omega, hg] at h; cases h; exact absurd z.2 (fun q => by cases q)⟩
theorem zlv_set1 {G : zG} {ls : Array Slot} {nL i : Nat} {L : List (Option zV)} {v : zV} (hi : i < L.length) (h : lv_has ls nL ((i, zc G v) :: (zlv G 0 L).filter (fun q => !(q.1 == i) && !(q.1 + 1 == i && q.2.category == 2)))) : lv_has ls nL (zlv G 0 (zset1 L i v)) := by
  refine ⟨h.1, h.2.1, fun q hq => ?_⟩
  obtain ⟨j, u, hu, rfl⟩ := (zlv_mem _ _ _).mp hq
  rw [zset1, zget_put, zkill_len] at hu
  by_cases hj : j = i ∧ i < L.length
  · rw [if_pos hj] at hu
    cases hu
    obtain ⟨rfl, -⟩ := hj
    exact h.2.2 (0 + j, zc G v) (by simp)
  · rw [if_neg hj] at hu
    obtain ⟨h1, h2⟩ := zget_kill hu
    have hne : j ≠ i := fun z => hj ⟨z, hi⟩
    refine h.2.2 (0 + j, zc G u) (List.mem_cons_of_mem _ (List.mem_filter.mpr ⟨(zlv_mem _ _ _).mpr ⟨j, u, h1, rfl⟩, ?_⟩))
    simp only [Nat.zero_add, zc_cat]
    simp [hne]
    exact Classical.or_iff_not_imp_left.mpr (fun z z2 => h2 ⟨Classical.not_not.mp z, z2⟩)
theorem zlv_set2 {G : zG} {ls : Array Slot} {nL i : Nat} {L : List (Option zV)} {v : zV} (hi : i + 1 < L.length) (h : lv_has ls nL ((i, zc G v) :: (zlv G 0 L).filter (fun q => !(q.1 == i) && (!(q.1 == i + 1) && !(q.1 + 1 == i && q.2.category == 2))))) : lv_has ls nL (zlv G 0 (zset2 L i v)) := by
  refine ⟨h.1, h.2.1, fun q hq => ?_⟩
  obtain ⟨j, u, hu, rfl⟩ := (zlv_mem _ _ _).mp hq
  rw [zset2, zget_put, zput_len, zkill_len] at hu
  by_cases hj1 : j = i + 1 ∧ i + 1 < L.length
  · rw [if_pos hj1] at hu; cases hu
  rw [if_neg hj1, zget_put, zkill_len] at hu
  by_cases hj : j = i ∧ i < L.length
  · rw [if_pos hj] at hu
    cases hu
    obtain ⟨rfl, -⟩ := hj
    exact h.2.2 (0 + j, zc G v) (by simp)
  · rw [if_neg hj] at hu
    obtain ⟨h1, h2⟩ := zget_kill hu
    have hne : j ≠ i := fun z => hj ⟨z, by omega⟩
    have hne1 : j ≠ i + 1 := fun z => hj1 ⟨z, hi⟩
    refine h.2.2 (0 + j, zc G u) (List.mem_cons_of_mem _ (List.mem_filter.mpr ⟨(zlv_mem _ _ _).mpr ⟨j, u, h1, rfl⟩, ?_⟩))
    simp only [Nat.zero_add, zc_cat]
    simp [hne, hne1]
    exact Classical.or_iff_not_imp_left.mpr (fun z z2 => h2 ⟨Classical.not_not.mp z, z2⟩)
def zvr (G : zG) : zV → Prop
  | .inr (.inr (some q)) => q.2 < zcn (zsi G) q.1 ∨ q = (40, 0) ∨ q = (41, 0)
  | _ => True
def zok (G : zG) (L : List (Option zV)) (st : List zV) : Prop := (∀ i v, zget L i = some v → zvr G v) ∧ ∀ v ∈ st, zvr G v
theorem zok.d {G : zG} {L : List (Option zV)} {v : zV} {st : List zV} (h : zok G L (v :: st)) : zok G L st := ⟨h.1, fun w hw => h.2 w (List.mem_cons_of_mem _ hw)⟩
theorem zok.t {G : zG} {L : List (Option zV)} {v : zV} {st : List zV} (h : zok G L (v :: st)) : zvr G v := h.2 v List.mem_cons_self
theorem zok.p {G : zG} {L : List (Option zV)} {v : zV} {st : List zV} (h : zok G L st) (hv : zvr G v) : zok G L (v :: st) := ⟨h.1, fun w hw => (List.mem_cons.mp hw).elim (fun e => e ▸ hv) (h.2 w)⟩
theorem zok.s1 {G : zG} {L : List (Option zV)} {v : zV} {st : List zV} {i : Nat} (h : zok G L st) (hv : zvr G v) : zok G (zset1 L i v) st := by
  refine ⟨fun j w hw => ?_, h.2⟩
  rw [zset1, zget_put] at hw
  split at hw
  · cases hw; exact hv
  · exact h.1 j w (zget_kill hw).1
theorem zok.s2 {G : zG} {L : List (Option zV)} {v : zV} {st : List zV} {i : Nat} (h : zok G L st) (hv : zvr G v) : zok G (zset2 L i v) st := by
  refine ⟨fun j w hw => ?_, h.2⟩
  rw [zset2, zget_put] at hw
  split at hw
  · cases hw
  · rw [zget_put] at hw
    split at hw
    · cases hw; exact hv
    · exact h.1 j w (zget_kill hw).1
theorem zset1_len (L : List (Option zV)) (i : Nat) (v : zV) : (zset1 L i v).length = L.length := by rw [zset1, zput_len, zkill_len]
theorem zset2_len (L : List (Option zV)) (i : Nat) (v : zV) : (zset2 L i v).length = L.length := by rw [zset2, zput_len, zput_len, zkill_len]
abbrev zLn (G : zG) : Nat := G.2.2.2.1
abbrev zxs (G : zG) : Nat → Int32 := G.2.2.2.2.1
abbrev zgc (G : zG) : Nat := G.2.2.2.2.2.2
def zmo (G : zG) (M : zM) : Prop := (∀ i, i < 17 → M.1 40 0 i = zlet i) ∧ (∀ i, i < zLn G → M.1 41 0 i = zxs G i) ∧ M.1 42 0 0 = Int32.ofNat (zLn G) ∧ zLn G < 2 ^ 31 ∧ (∀ i q, M.2.2 i = some q → q < 7) ∧ M.1 43 0 0 = nI (zgc G)
theorem zmo.i {G : zG} {M : zM} (h : zmo G M) {c n : Nat} {g : Nat → Int32} (hc : c < 40) : zmo G (zst M.1 c n g, M.2) := by
  refine ⟨fun i hi => ?_, fun i hi => ?_, ?_, h.2.2.2.1, h.2.2.2.2.1, ?_⟩
  · show zst M.1 c n g 40 0 i = _
    rw [zst_ne _ _ (by omega)]; exact h.1 i hi
  · show zst M.1 c n g 41 0 i = _
    rw [zst_ne _ _ (by omega)]; exact h.2.1 i hi
  · show zst M.1 c n g 42 0 0 = _
    rw [zst_ne _ _ (by omega)]; exact h.2.2.1
  · show zst M.1 c n g 43 0 0 = _
    rw [zst_ne _ _ (by omega)]; exact h.2.2.2.2.2
def zA (G : zG) : Nat → Prop := fun a => ∃ c n, n < zcn (zsi G) c ∧ a = zad G c n
def zWd (G : zG) (A : Nat → Prop) (H0 : Heap) (M : zM) (H : Heap) (locs : List Loc) : Prop := va_P G.1 vwCl (zws G M) H ∧ va_D A (zws G M) ∧ va_S A H0 H locs ∧ zmo G M
/-- the array of the letters: at least 17 ints, and which -/
def zXl (b : Nat) (U : State) (H : Heap) : Prop := ∃ scr : Cell, H[b]? = some scr ∧ U.isArrayOf scr .int ∧ scr.vm ≠ .unknown ∧ 17 ≤ scr.slots.size ∧ ∀ j : Nat, j < 17 → scr.slots[j]? = some (.int (zlet j))
theorem zXl.kept {b : Nat} {U : State} {H H1 : Heap} (h : zXl b U H) (hq : H1[b]? = H[b]?) : zXl b U H1 := by
  obtain ⟨scr, h1, h2⟩ := h
  exact ⟨scr, by rw [hq]; exact h1, h2⟩
theorem zXl.moved {b : Nat} {u U : State} {H : Heap} (hvm : u.vm.Alike U.vm) (h : zXl b u H) : zXl b U H := by
  obtain ⟨scr, h1, h2, h3⟩ := h
  exact ⟨scr, h1, State.isArrayOf_alike hvm h2, h3⟩
def zro (G : zG) (A : Nat → Prop) (s : State) (H : Heap) : Prop := zXl (zad G 40 0) s H ∧ zad G 40 0 < H.size ∧ ¬ A (zad G 40 0) ∧ va_X (zad G 41 0) (zLn G) (zxs G) s H ∧ zad G 41 0 < H.size ∧ ¬ A (zad G 41 0) ∧ va_Z "FlippedBlinds" "LETTERS" "[I" (.ref (zad G 40 0)) A s H
def ztys (G : zG) : List (ClassId × FieldType) := [(G.2.2.1.1, .int), (G.2.2.1.2.1, .long), (G.2.2.1.2.2.1, .char), (G.2.2.1.2.2.2, .object RX4)]

def zNd : List (String × Nat × MethodName × String) := [("FlippedBlinds$Blind", 17, ⟨"FlippedBlinds$Dots", "<init>", "()V"⟩, "FlippedBlinds"), ("FlippedBlinds$Dots", 13, ⟨"FlippedBlinds", "leftBits", "(IJ)J"⟩, "FlippedBlinds"), ("FlippedBlinds$Dots", 22, ⟨"FlippedBlinds", "rightBits", "(IJ)J"⟩, "FlippedBlinds"), ("FlippedBlinds$State", 53, ⟨"FlippedBlinds", "areLetters", "(I)Z"⟩, "FlippedBlinds"), ("FlippedBlinds$State", 84, ⟨"FlippedBlinds", "placeOf", "(II)I"⟩, "FlippedBlinds"), ("FlippedBlinds$Words", 38, ⟨"FlippedBlinds", "lettersIn", "(I)I"⟩, "FlippedBlinds"), ("FlippedBlinds$Words", 42, ⟨"FlippedBlinds", "placeOf", "(II)I"⟩, "FlippedBlinds"), ("FlippedBlinds$Words", 50, ⟨"FlippedBlinds", "letterDots", "(II)J"⟩, "FlippedBlinds"), ("FlippedBlinds$Words", 54, ⟨"FlippedBlinds", "leftBits", "(IJ)J"⟩, "FlippedBlinds"), ("FlippedBlinds$Words", 58, ⟨"FlippedBlinds", "rightBits", "(IJ)J"⟩, "FlippedBlinds")]
def zne (U : State) : Prop := ∀ q ∈ zNd, va_Nw (.methodLinkNest q.1 q.2.1 q.2.2.1 q.2.2.2) U
def zGa (p : Program) (s : State) (m : MethodId) (args : Array Value) (c : Code) (cc : ByteArray) (nL : Nat) (own : String) (G : zG) (A : Nat → Prop) : Prop :=
  p.tables.exec = Jvm.exec ∧ c.code = cc ∧ c.maxLocals = nL ∧ s.vm.findClass own = some m.cls ∧ (∀ w ∈ zTs, w.before args s = true) ∧ va_K G.1 vwCl (ztys G) s ∧ zro G A s s.heap ∧ (∀ q, zA G q → A q) ∧ zne s
def zHo (s : State) (G : zG) (A : Nat → Prop) (nL : Nat) (f : zF) (H : Heap) (locs : List Loc) (ls : Array Slot) : Prop := lv_has ls nL (zlv G 0 f.1) ∧ f.1.length = nL ∧ zWd G A s.heap f.2.2 H locs ∧ zok G f.1 f.2.1
def zNx (p : Program) (l : Launch) (e : Env) (R : Room) (s : State) (m : MethodId) (args : Array Value) (below : List Frame) (meth : Method) (c : Code) (cells slots : Nat) (G : zG) (A : Nat → Prop) (nL pc : Nat) (x : zX) : Prop :=
  ∀ (f : zF) (pc' : Nat) (f' : zF), x pc f = some (.inr (pc', f')) → ∀ (H : Heap) (locs : List Loc) (ls : Array Slot) (Q : State → Prop), zHo s G A nL f H locs ls →
    (∀ (H' : Heap) (locs' : List Loc) (ls' : Array Slot), zHo s G A nL f' H' locs' ls' → W p l e R s m args below meth c H' locs' cells slots Q (F0 m pc' ls' (f'.2.1.map (zc G)))) → W p l e R s m args below meth c H locs cells slots Q (F0 m pc ls (f.2.1.map (zc G)))
section ZS
variable {p : Program} {l : Launch} {e : Env} {R : Room} {s : State} {m : MethodId} {args : Array Value} {below : List Frame} {meth : Method} {c : Code} {cells slots : Nat} {cc : ByteArray} {nL : Nat} {own : String} {G : zG} {A : Nat → Prop} {pc : Nat}

theorem zs_iconst (Γ : zGa p s m args c cc nL own G A) {n : Int} {v : Int32} (hd : decode cc pc = .ok (.iconst n, 1)) (hv : Int32.ofInt n = v) : zNx p l e R s m args below meth c cells slots G A nL pc (zxc (zI v) 1) := by
  intro f pc' f' hx H locs ls Q hH kk
  obtain ⟨L, st, M⟩ := f
  cases hx
  exact lv_iconst Γ.1 Γ.2.1 hd hv (kk H locs ls ⟨hH.1, hH.2.1, hH.2.2.1, (hH.2.2.2).p trivial⟩)
theorem zs_bipush (Γ : zGa p s m args c cc nL own G A) {n : Int} {v : Int32} (hd : decode cc pc = .ok (.bipush n, 2)) (hv : (Int8.ofInt n).toInt32 = v) : zNx p l e R s m args below meth c cells slots G A nL pc (zxc (zI v) 2) := by
  intro f pc' f' hx H locs ls Q hH kk
  obtain ⟨L, st, M⟩ := f
  cases hx
  exact lv_bipush Γ.1 Γ.2.1 hd hv (kk H locs ls ⟨hH.1, hH.2.1, hH.2.2.1, (hH.2.2.2).p trivial⟩)
theorem zs_sipush (Γ : zGa p s m args c cc nL own G A) {n : Int} {v : Int32} (hd : decode cc pc = .ok (.sipush n, 3)) (hv : (Int16.ofInt n).toInt32 = v) : zNx p l e R s m args below meth c cells slots G A nL pc (zxc (zI v) 3) := by
  intro f pc' f' hx H locs ls Q hH kk
  obtain ⟨L, st, M⟩ := f
  cases hx
  exact lv_sipush Γ.1 Γ.2.1 hd hv (kk H locs ls ⟨hH.1, hH.2.1, hH.2.2.1, (hH.2.2.2).p trivial⟩)
theorem zs_lconst (Γ : zGa p s m args c cc nL own G A) {n : Fin 2} {v : Int64} (hd : decode cc pc = .ok (.lconst n, 1)) (hv : Int64.ofNat (n : Nat) = v) : zNx p l e R s m args below meth c cells slots G A nL pc (zxc (zJ v) 1) := by
  intro f pc' f' hx H locs ls Q hH kk
  obtain ⟨L, st, M⟩ := f
  cases hx
  exact lv_lconst Γ.1 Γ.2.1 hd hv (kk H locs ls ⟨hH.1, hH.2.1, hH.2.2.1, (hH.2.2.2).p trivial⟩)
theorem zs_ldc (Γ : zGa p s m args c cc nL own G A) {i : Nat} {v : Int32} (hd : decode cc pc = .ok (.ldc i, 2)) (hw : Cond.constant own i v ∈ zTs) : zNx p l e R s m args below meth c cells slots G A nL pc (zxc (zI v) 2) := by
  intro f pc' f' hx H locs ls Q hH kk
  obtain ⟨L, st, M⟩ := f
  cases hx
  exact lv_ldc Γ.1 Γ.2.1 Γ.2.2.2.1 (Γ.2.2.2.2.1 _ hw) hd (kk H locs ls ⟨hH.1, hH.2.1, hH.2.2.1, (hH.2.2.2).p trivial⟩)
theorem zs_ldc2 (Γ : zGa p s m args c cc nL own G A) {i : Nat} {v : Int64} (hd : decode cc pc = .ok (.ldc2_w i, 3)) (hw : Cond.constantLong own i v ∈ zTs) : zNx p l e R s m args below meth c cells slots G A nL pc (zxc (zJ v) 3) := by
  intro f pc' f' hx H locs ls Q hH kk
  obtain ⟨L, st, M⟩ := f
  cases hx
  exact lv_ldc2 Γ.1 Γ.2.1 Γ.2.2.2.1 (Γ.2.2.2.2.1 _ hw) hd (kk H locs ls ⟨hH.1, hH.2.1, hH.2.2.1, (hH.2.2.2).p trivial⟩)
theorem zs_null (Γ : zGa p s m args c cc nL own G A) (hd : decode cc pc = .ok (.aconst_null, 1)) : zNx p l e R s m args below meth c cells slots G A nL pc (zxc zN 1) := by
  intro f pc' f' hx H locs ls Q hH kk
  obtain ⟨L, st, M⟩ := f
  cases hx
  exact lv_null Γ.1 Γ.2.1 hd (kk H locs ls ⟨hH.1, hH.2.1, hH.2.2.1, (hH.2.2.2).p trivial⟩)
theorem zs_iload_n (Γ : zGa p s m args c cc nL own G A) {k : Fin 4} (hd : decode cc pc = .ok (.iload_n k, 1)) : zNx p l e R s m args below meth c cells slots G A nL pc (ziload (k : Nat) 1) := by
  intro f pc' f' hx H locs ls Q hH kk
  obtain ⟨L, st, M⟩ := f
  obtain ⟨x, hg, hx⟩ : ∃ x, zget L (k : Nat) = some (.inl x) ∧ some (Sum.inr (pc + 1, L, (.inl x) :: st, M)) = some (Sum.inr (pc', f')) := by
    unfold ziload at hx
    dsimp only at hx
    split at hx
    · rename_i x hg; exact ⟨x, hg, hx⟩
    · cases hx
  cases hx
  exact lv_iload_n Γ.1 Γ.2.1 hd rfl (zlv_at hH.1 hg) (kk H locs ls ⟨hH.1, hH.2.1, hH.2.2.1, (hH.2.2.2).p trivial⟩)
theorem zs_iload (Γ : zGa p s m args c cc nL own G A) {k : Nat} (hd : decode cc pc = .ok (.iload k, 2)) : zNx p l e R s m args below meth c cells slots G A nL pc (ziload k 2) := by
  intro f pc' f' hx H locs ls Q hH kk
  obtain ⟨L, st, M⟩ := f
  obtain ⟨x, hg, hx⟩ : ∃ x, zget L k = some (.inl x) ∧ some (Sum.inr (pc + 2, L, (.inl x) :: st, M)) = some (Sum.inr (pc', f')) := by
    unfold ziload at hx
    dsimp only at hx
    split at hx
    · rename_i x hg; exact ⟨x, hg, hx⟩
    · cases hx
  cases hx
  exact lv_iload Γ.1 Γ.2.1 hd (zlv_at hH.1 hg) (kk H locs ls ⟨hH.1, hH.2.1, hH.2.2.1, (hH.2.2.2).p trivial⟩)
theorem zs_lload_n (Γ : zGa p s m args c cc nL own G A) {k : Fin 4} (hd : decode cc pc = .ok (.lload_n k, 1)) : zNx p l e R s m args below meth c cells slots G A nL pc (zlload (k : Nat) 1) := by
  intro f pc' f' hx H locs ls Q hH kk
  obtain ⟨L, st, M⟩ := f
  obtain ⟨x, hg, hx⟩ : ∃ x, zget L (k : Nat) = some (.inr (.inl x)) ∧ some (Sum.inr (pc + 1, L, (.inr (.inl x)) :: st, M)) = some (Sum.inr (pc', f')) := by
    unfold zlload at hx
    dsimp only at hx
    split at hx
    · rename_i x hg; exact ⟨x, hg, hx⟩
    · cases hx
  cases hx
  exact lv_lload_n Γ.1 Γ.2.1 hd rfl (zlv_at hH.1 hg) (kk H locs ls ⟨hH.1, hH.2.1, hH.2.2.1, (hH.2.2.2).p trivial⟩)
theorem zs_lload (Γ : zGa p s m args c cc nL own G A) {k : Nat} (hd : decode cc pc = .ok (.lload k, 2)) : zNx p l e R s m args below meth c cells slots G A nL pc (zlload k 2) := by
  intro f pc' f' hx H locs ls Q hH kk
  obtain ⟨L, st, M⟩ := f
  obtain ⟨x, hg, hx⟩ : ∃ x, zget L k = some (.inr (.inl x)) ∧ some (Sum.inr (pc + 2, L, (.inr (.inl x)) :: st, M)) = some (Sum.inr (pc', f')) := by
    unfold zlload at hx
    dsimp only at hx
    split at hx
    · rename_i x hg; exact ⟨x, hg, hx⟩
    · cases hx
  cases hx
  exact lv_lload Γ.1 Γ.2.1 hd (zlv_at hH.1 hg) (kk H locs ls ⟨hH.1, hH.2.1, hH.2.2.1, (hH.2.2.2).p trivial⟩)
theorem zs_aload_n (Γ : zGa p s m args c cc nL own G A) {k : Fin 4} (hd : decode cc pc = .ok (.aload_n k, 1)) : zNx p l e R s m args below meth c cells slots G A nL pc (zaload (k : Nat) 1) := by
  intro f pc' f' hx H locs ls Q hH kk
  obtain ⟨L, st, M⟩ := f
  obtain ⟨x, hg, hx⟩ : ∃ x, zget L (k : Nat) = some (.inr (.inr x)) ∧ some (Sum.inr (pc + 1, L, (.inr (.inr x)) :: st, M)) = some (Sum.inr (pc', f')) := by
    unfold zaload at hx
    dsimp only at hx
    split at hx
    · rename_i x hg; exact ⟨x, hg, hx⟩
    · cases hx
  cases hx
  have hv := hH.2.2.2.1 _ _ hg
  have k2 := kk H locs ls ⟨hH.1, hH.2.1, hH.2.2.1, (hH.2.2.2).p hv⟩
  cases x with
  | none => exact lv_aload_nN Γ.1 Γ.2.1 hd rfl (zlv_at hH.1 hg) k2
  | some q => exact lv_aload_n Γ.1 Γ.2.1 hd rfl (zlv_at hH.1 hg) k2
theorem zs_aload (Γ : zGa p s m args c cc nL own G A) {k : Nat} (hd : decode cc pc = .ok (.aload k, 2)) : zNx p l e R s m args below meth c cells slots G A nL pc (zaload k 2) := by
  intro f pc' f' hx H locs ls Q hH kk
  obtain ⟨L, st, M⟩ := f
  obtain ⟨x, hg, hx⟩ : ∃ x, zget L k = some (.inr (.inr x)) ∧ some (Sum.inr (pc + 2, L, (.inr (.inr x)) :: st, M)) = some (Sum.inr (pc', f')) := by
    unfold zaload at hx
    dsimp only at hx
    split at hx
    · rename_i x hg; exact ⟨x, hg, hx⟩
    · cases hx
  cases hx
  have hv := hH.2.2.2.1 _ _ hg
  have k2 := kk H locs ls ⟨hH.1, hH.2.1, hH.2.2.1, (hH.2.2.2).p hv⟩
  cases x with
  | none => exact lv_aloadN Γ.1 Γ.2.1 hd (zlv_at hH.1 hg) k2
  | some q => exact lv_aload Γ.1 Γ.2.1 hd (zlv_at hH.1 hg) k2
theorem zs_istore_n (Γ : zGa p s m args c cc nL own G A) {k : Fin 4} (hd : decode cc pc = .ok (.istore_n k, 1)) (hn : (k : Nat) < nL) : zNx p l e R s m args below meth c cells slots G A nL pc (zistore (k : Nat) 1) := by
  intro f pc' f' hx H locs ls Q hH kk
  obtain ⟨L, st, M⟩ := f
  obtain ⟨x, t, rfl, hx⟩ : ∃ x t, st = (.inl x) :: t ∧ some (Sum.inr (pc + 1, zset1 L (k : Nat) (.inl x), t, M)) = some (Sum.inr (pc', f')) := by
    unfold zistore at hx
    dsimp only at hx
    split at hx
    · rename_i x t; exact ⟨x, t, rfl, hx⟩
    · cases hx
  cases hx
  exact lv_istore_n Γ.1 Γ.2.1 hd rfl hH.1 hn rfl (fun ls' h' => kk H locs ls' ⟨zlv_set1 (by have := hH.2.1; dsimp only at this; omega) h', by rw [← hH.2.1]; exact zset1_len _ _ _, hH.2.2.1, (hH.2.2.2).d.s1 trivial⟩)
theorem zs_istore (Γ : zGa p s m args c cc nL own G A) {k : Nat} (hd : decode cc pc = .ok (.istore k, 2)) (hn : k < nL) : zNx p l e R s m args below meth c cells slots G A nL pc (zistore k 2) := by
  intro f pc' f' hx H locs ls Q hH kk
  obtain ⟨L, st, M⟩ := f
  obtain ⟨x, t, rfl, hx⟩ : ∃ x t, st = (.inl x) :: t ∧ some (Sum.inr (pc + 2, zset1 L k (.inl x), t, M)) = some (Sum.inr (pc', f')) := by
    unfold zistore at hx
    dsimp only at hx
    split at hx
    · rename_i x t; exact ⟨x, t, rfl, hx⟩
    · cases hx
  cases hx
  exact lv_istore Γ.1 Γ.2.1 hd hH.1 hn rfl (fun ls' h' => kk H locs ls' ⟨zlv_set1 (by have := hH.2.1; dsimp only at this; omega) h', by rw [← hH.2.1]; exact zset1_len _ _ _, hH.2.2.1, (hH.2.2.2).d.s1 trivial⟩)
theorem zs_lstore_n (Γ : zGa p s m args c cc nL own G A) {k : Fin 4} (hd : decode cc pc = .ok (.lstore_n k, 1)) (hn : (k : Nat) + 1 < nL) : zNx p l e R s m args below meth c cells slots G A nL pc (zlstore (k : Nat) 1) := by
  intro f pc' f' hx H locs ls Q hH kk
  obtain ⟨L, st, M⟩ := f
  obtain ⟨x, t, rfl, hx⟩ : ∃ x t, st = (.inr (.inl x)) :: t ∧ some (Sum.inr (pc + 1, zset2 L (k : Nat) (.inr (.inl x)), t, M)) = some (Sum.inr (pc', f')) := by
    unfold zlstore at hx
    dsimp only at hx
    split at hx
    · rename_i x t; exact ⟨x, t, rfl, hx⟩
    · cases hx
  cases hx
  exact lv_lstore_n Γ.1 Γ.2.1 hd rfl hH.1 hn rfl (fun ls' h' => kk H locs ls' ⟨zlv_set2 (by have := hH.2.1; dsimp only at this; omega) h', by rw [← hH.2.1]; exact zset2_len _ _ _, hH.2.2.1, (hH.2.2.2).d.s2 trivial⟩)
theorem zs_lstore (Γ : zGa p s m args c cc nL own G A) {k : Nat} (hd : decode cc pc = .ok (.lstore k, 2)) (hn : k + 1 < nL) : zNx p l e R s m args below meth c cells slots G A nL pc (zlstore k 2) := by
  intro f pc' f' hx H locs ls Q hH kk
  obtain ⟨L, st, M⟩ := f
  obtain ⟨x, t, rfl, hx⟩ : ∃ x t, st = (.inr (.inl x)) :: t ∧ some (Sum.inr (pc + 2, zset2 L k (.inr (.inl x)), t, M)) = some (Sum.inr (pc', f')) := by
    unfold zlstore at hx
    dsimp only at hx
    split at hx
    · rename_i x t; exact ⟨x, t, rfl, hx⟩
    · cases hx
  cases hx
  exact lv_lstore Γ.1 Γ.2.1 hd hH.1 hn rfl (fun ls' h' => kk H locs ls' ⟨zlv_set2 (by have := hH.2.1; dsimp only at this; omega) h', by rw [← hH.2.1]; exact zset2_len _ _ _, hH.2.2.1, (hH.2.2.2).d.s2 trivial⟩)
theorem zs_astore_n (Γ : zGa p s m args c cc nL own G A) {k : Fin 4} (hd : decode cc pc = .ok (.astore_n k, 1)) (hn : (k : Nat) < nL) : zNx p l e R s m args below meth c cells slots G A nL pc (zastore (k : Nat) 1) := by
  intro f pc' f' hx H locs ls Q hH kk
  obtain ⟨L, st, M⟩ := f
  obtain ⟨x, t, rfl, hx⟩ : ∃ x t, st = (.inr (.inr x)) :: t ∧ some (Sum.inr (pc + 1, zset1 L (k : Nat) (.inr (.inr x)), t, M)) = some (Sum.inr (pc', f')) := by
    unfold zastore at hx
    dsimp only at hx
    split at hx
    · rename_i x t; exact ⟨x, t, rfl, hx⟩
    · cases hx
  cases hx
  have hv := hH.2.2.2.t
  have k2 := fun ls' h' => kk H locs ls' ⟨zlv_set1 (G := G) (v := .inr (.inr x)) (i := (k : Nat)) (by have := hH.2.1; dsimp only at this; omega) h', by rw [← hH.2.1]; exact zset1_len _ _ _, hH.2.2.1, (hH.2.2.2).d.s1 hv⟩
  cases x with
  | none => exact lv_astore_nN Γ.1 Γ.2.1 hd rfl hH.1 hn rfl k2
  | some q => exact lv_astore_n Γ.1 Γ.2.1 hd rfl hH.1 hn rfl k2
theorem zs_astore (Γ : zGa p s m args c cc nL own G A) {k : Nat} (hd : decode cc pc = .ok (.astore k, 2)) (hn : k < nL) : zNx p l e R s m args below meth c cells slots G A nL pc (zastore k 2) := by
  intro f pc' f' hx H locs ls Q hH kk
  obtain ⟨L, st, M⟩ := f
  obtain ⟨x, t, rfl, hx⟩ : ∃ x t, st = (.inr (.inr x)) :: t ∧ some (Sum.inr (pc + 2, zset1 L k (.inr (.inr x)), t, M)) = some (Sum.inr (pc', f')) := by
    unfold zastore at hx
    dsimp only at hx
    split at hx
    · rename_i x t; exact ⟨x, t, rfl, hx⟩
    · cases hx
  cases hx
  have hv := hH.2.2.2.t
  have k2 := fun ls' h' => kk H locs ls' ⟨zlv_set1 (G := G) (v := .inr (.inr x)) (i := k) (by have := hH.2.1; dsimp only at this; omega) h', by rw [← hH.2.1]; exact zset1_len _ _ _, hH.2.2.1, (hH.2.2.2).d.s1 hv⟩
  cases x with
  | none => exact lv_astoreN Γ.1 Γ.2.1 hd hH.1 hn rfl k2
  | some q => exact lv_astore Γ.1 Γ.2.1 hd hH.1 hn rfl k2
theorem zs_iinc (Γ : zGa p s m args c cc nL own G A) {i : Nat} {n : Int} (hd : decode cc pc = .ok (.iinc i n, 3)) (hn : i < nL) : zNx p l e R s m args below meth c cells slots G A nL pc (ziinc i (Int32.ofInt n)) := by
  intro f pc' f' hx H locs ls Q hH kk
  obtain ⟨L, st, M⟩ := f
  obtain ⟨x, hg, hx⟩ : ∃ x, zget L i = some (.inl x) ∧ some (Sum.inr (pc + 3, zset1 L i (zI (x + Int32.ofInt n)), st, M)) = some (Sum.inr (pc', f')) := by
    unfold ziinc at hx
    dsimp only at hx
    split at hx
    · rename_i x hg; exact ⟨x, hg, hx⟩
    · cases hx
  cases hx
  obtain ⟨k, hk⟩ := List.getElem?_of_mem ((zlv_mem (G := G) L 0 (i, .int x)).mpr ⟨i, zI x, hg, by rw [Nat.zero_add]; rfl⟩)
  exact lv_iinc (v := x + Int32.ofInt n) (k := k) Γ.1 Γ.2.1 hd hH.1 hk rfl hn rfl (fun ls' h' => kk H locs ls' ⟨zlv_set1 (v := zI (x + Int32.ofInt n)) (by have := hH.2.1; dsimp only at this; omega) h', by rw [← hH.2.1]; exact zset1_len _ _ _, hH.2.2.1, (hH.2.2.2).s1 trivial⟩)
theorem zs_iadd (Γ : zGa p s m args c cc nL own G A) (hd : decode cc pc = .ok (.iadd, 1)) : zNx p l e R s m args below meth c cells slots G A nL pc (zbin (fun x y => x + y)) := by
  intro f pc' f' hx H locs ls Q hH kk
  obtain ⟨L, st, M⟩ := f
  obtain ⟨y, x, t, rfl, hx⟩ : ∃ y x t, st = (.inl y) :: (.inl x) :: t ∧ some (Sum.inr (pc + 1, L, (zI (x + y)) :: t, M)) = some (Sum.inr (pc', f')) := by
    unfold zbin at hx
    dsimp only at hx
    split at hx
    · rename_i y x t
      exact ⟨y, x, t, rfl, hx⟩

    · cases hx
  cases hx
  exact lv_iadd Γ.1 Γ.2.1 hd (kk H locs ls ⟨hH.1, hH.2.1, hH.2.2.1, (hH.2.2.2).d.d.p trivial⟩)
theorem zs_isub (Γ : zGa p s m args c cc nL own G A) (hd : decode cc pc = .ok (.isub, 1)) : zNx p l e R s m args below meth c cells slots G A nL pc (zbin (fun x y => x - y)) := by
  intro f pc' f' hx H locs ls Q hH kk
  obtain ⟨L, st, M⟩ := f
  obtain ⟨y, x, t, rfl, hx⟩ : ∃ y x t, st = (.inl y) :: (.inl x) :: t ∧ some (Sum.inr (pc + 1, L, (zI (x - y)) :: t, M)) = some (Sum.inr (pc', f')) := by
    unfold zbin at hx
    dsimp only at hx
    split at hx
    · rename_i y x t
      exact ⟨y, x, t, rfl, hx⟩

    · cases hx
  cases hx
  exact lv_isub Γ.1 Γ.2.1 hd (kk H locs ls ⟨hH.1, hH.2.1, hH.2.2.1, (hH.2.2.2).d.d.p trivial⟩)
theorem zs_imul (Γ : zGa p s m args c cc nL own G A) (hd : decode cc pc = .ok (.imul, 1)) : zNx p l e R s m args below meth c cells slots G A nL pc (zbin (fun x y => x * y)) := by
  intro f pc' f' hx H locs ls Q hH kk
  obtain ⟨L, st, M⟩ := f
  obtain ⟨y, x, t, rfl, hx⟩ : ∃ y x t, st = (.inl y) :: (.inl x) :: t ∧ some (Sum.inr (pc + 1, L, (zI (x * y)) :: t, M)) = some (Sum.inr (pc', f')) := by
    unfold zbin at hx
    dsimp only at hx
    split at hx
    · rename_i y x t
      exact ⟨y, x, t, rfl, hx⟩

    · cases hx
  cases hx
  exact lv_imul Γ.1 Γ.2.1 hd (kk H locs ls ⟨hH.1, hH.2.1, hH.2.2.1, (hH.2.2.2).d.d.p trivial⟩)
theorem zs_iand (Γ : zGa p s m args c cc nL own G A) (hd : decode cc pc = .ok (.iand, 1)) : zNx p l e R s m args below meth c cells slots G A nL pc (zbin (fun x y => x &&& y)) := by
  intro f pc' f' hx H locs ls Q hH kk
  obtain ⟨L, st, M⟩ := f
  obtain ⟨y, x, t, rfl, hx⟩ : ∃ y x t, st = (.inl y) :: (.inl x) :: t ∧ some (Sum.inr (pc + 1, L, (zI (x &&& y)) :: t, M)) = some (Sum.inr (pc', f')) := by
    unfold zbin at hx
    dsimp only at hx
    split at hx
    · rename_i y x t
      exact ⟨y, x, t, rfl, hx⟩

    · cases hx
  cases hx
  exact lv_iand Γ.1 Γ.2.1 hd (kk H locs ls ⟨hH.1, hH.2.1, hH.2.2.1, (hH.2.2.2).d.d.p trivial⟩)
theorem zs_ior (Γ : zGa p s m args c cc nL own G A) (hd : decode cc pc = .ok (.ior, 1)) : zNx p l e R s m args below meth c cells slots G A nL pc (zbin (fun x y => x ||| y)) := by
  intro f pc' f' hx H locs ls Q hH kk
  obtain ⟨L, st, M⟩ := f
  obtain ⟨y, x, t, rfl, hx⟩ : ∃ y x t, st = (.inl y) :: (.inl x) :: t ∧ some (Sum.inr (pc + 1, L, (zI (x ||| y)) :: t, M)) = some (Sum.inr (pc', f')) := by
    unfold zbin at hx
    dsimp only at hx
    split at hx
    · rename_i y x t
      exact ⟨y, x, t, rfl, hx⟩

    · cases hx
  cases hx
  exact lv_ior Γ.1 Γ.2.1 hd (kk H locs ls ⟨hH.1, hH.2.1, hH.2.2.1, (hH.2.2.2).d.d.p trivial⟩)
theorem zs_ixor (Γ : zGa p s m args c cc nL own G A) (hd : decode cc pc = .ok (.ixor, 1)) : zNx p l e R s m args below meth c cells slots G A nL pc (zbin (fun x y => x ^^^ y)) := by
  intro f pc' f' hx H locs ls Q hH kk
  obtain ⟨L, st, M⟩ := f
  obtain ⟨y, x, t, rfl, hx⟩ : ∃ y x t, st = (.inl y) :: (.inl x) :: t ∧ some (Sum.inr (pc + 1, L, (zI (x ^^^ y)) :: t, M)) = some (Sum.inr (pc', f')) := by
    unfold zbin at hx
    dsimp only at hx
    split at hx
    · rename_i y x t
      exact ⟨y, x, t, rfl, hx⟩

    · cases hx
  cases hx
  exact lv_ixor Γ.1 Γ.2.1 hd (kk H locs ls ⟨hH.1, hH.2.1, hH.2.2.1, (hH.2.2.2).d.d.p trivial⟩)
theorem zs_ishl (Γ : zGa p s m args c cc nL own G A) (hd : decode cc pc = .ok (.ishl, 1)) : zNx p l e R s m args below meth c cells slots G A nL pc (zbin (fun x y => x <<< (y &&& 31))) := by
  intro f pc' f' hx H locs ls Q hH kk
  obtain ⟨L, st, M⟩ := f
  obtain ⟨y, x, t, rfl, hx⟩ : ∃ y x t, st = (.inl y) :: (.inl x) :: t ∧ some (Sum.inr (pc + 1, L, (zI (x <<< (y &&& 31))) :: t, M)) = some (Sum.inr (pc', f')) := by
    unfold zbin at hx
    dsimp only at hx
    split at hx
    · rename_i y x t
      exact ⟨y, x, t, rfl, hx⟩

    · cases hx
  cases hx
  exact lv_ishl Γ.1 Γ.2.1 hd (kk H locs ls ⟨hH.1, hH.2.1, hH.2.2.1, (hH.2.2.2).d.d.p trivial⟩)
theorem zs_ishr (Γ : zGa p s m args c cc nL own G A) (hd : decode cc pc = .ok (.ishr, 1)) : zNx p l e R s m args below meth c cells slots G A nL pc (zbin (fun x y => x >>> (y &&& 31))) := by
  intro f pc' f' hx H locs ls Q hH kk
  obtain ⟨L, st, M⟩ := f
  obtain ⟨y, x, t, rfl, hx⟩ : ∃ y x t, st = (.inl y) :: (.inl x) :: t ∧ some (Sum.inr (pc + 1, L, (zI (x >>> (y &&& 31))) :: t, M)) = some (Sum.inr (pc', f')) := by
    unfold zbin at hx
    dsimp only at hx
    split at hx
    · rename_i y x t
      exact ⟨y, x, t, rfl, hx⟩

    · cases hx
  cases hx
  exact lv_ishr Γ.1 Γ.2.1 hd (kk H locs ls ⟨hH.1, hH.2.1, hH.2.2.1, (hH.2.2.2).d.d.p trivial⟩)
theorem zs_iushr (Γ : zGa p s m args c cc nL own G A) (hd : decode cc pc = .ok (.iushr, 1)) : zNx p l e R s m args below meth c cells slots G A nL pc (zbin (fun x y => (x.toUInt32 >>> (y.toUInt32 &&& Int32.toUInt32 31)).toInt32)) := by
  intro f pc' f' hx H locs ls Q hH kk
  obtain ⟨L, st, M⟩ := f
  obtain ⟨y, x, t, rfl, hx⟩ : ∃ y x t, st = (.inl y) :: (.inl x) :: t ∧ some (Sum.inr (pc + 1, L, (zI ((x.toUInt32 >>> (y.toUInt32 &&& Int32.toUInt32 31)).toInt32)) :: t, M)) = some (Sum.inr (pc', f')) := by
    unfold zbin at hx
    dsimp only at hx
    split at hx
    · rename_i y x t
      exact ⟨y, x, t, rfl, hx⟩

    · cases hx
  cases hx
  exact lv_iushr Γ.1 Γ.2.1 hd rfl (kk H locs ls ⟨hH.1, hH.2.1, hH.2.2.1, (hH.2.2.2).d.d.p trivial⟩)
theorem zs_idiv (Γ : zGa p s m args c cc nL own G A) (hd : decode cc pc = .ok (.idiv, 1)) : zNx p l e R s m args below meth c cells slots G A nL pc (zdiv (fun x y => x / y)) := by
  intro f pc' f' hx H locs ls Q hH kk
  obtain ⟨L, st, M⟩ := f
  obtain ⟨y, x, t, rfl, hne, hx⟩ : ∃ y x t, st = (.inl y) :: (.inl x) :: t ∧ ¬ y = 0 ∧ some (Sum.inr (pc + 1, L, (zI (x / y)) :: t, M)) = some (Sum.inr (pc', f')) := by
    unfold zdiv at hx
    dsimp only at hx
    split at hx
    · rename_i y x t
      dsimp only at hx
      by_cases hne : y = 0
      · rw [if_pos hne] at hx; cases hx
      · rw [if_neg hne] at hx; exact ⟨y, x, t, rfl, hne, hx⟩
    · cases hx
  cases hx
  exact lv_idiv Γ.1 Γ.2.1 hd hne (kk H locs ls ⟨hH.1, hH.2.1, hH.2.2.1, (hH.2.2.2).d.d.p trivial⟩)
theorem zs_irem (Γ : zGa p s m args c cc nL own G A) (hd : decode cc pc = .ok (.irem, 1)) : zNx p l e R s m args below meth c cells slots G A nL pc (zdiv (fun x y => x - x / y * y)) := by
  intro f pc' f' hx H locs ls Q hH kk
  obtain ⟨L, st, M⟩ := f
  obtain ⟨y, x, t, rfl, hne, hx⟩ : ∃ y x t, st = (.inl y) :: (.inl x) :: t ∧ ¬ y = 0 ∧ some (Sum.inr (pc + 1, L, (zI (x - x / y * y)) :: t, M)) = some (Sum.inr (pc', f')) := by
    unfold zdiv at hx
    dsimp only at hx
    split at hx
    · rename_i y x t
      dsimp only at hx
      by_cases hne : y = 0
      · rw [if_pos hne] at hx; cases hx
      · rw [if_neg hne] at hx; exact ⟨y, x, t, rfl, hne, hx⟩
    · cases hx
  cases hx
  exact lv_irem Γ.1 Γ.2.1 hd hne (kk H locs ls ⟨hH.1, hH.2.1, hH.2.2.1, (hH.2.2.2).d.d.p trivial⟩)
theorem zs_ladd (Γ : zGa p s m args c cc nL own G A) (hd : decode cc pc = .ok (.ladd, 1)) : zNx p l e R s m args below meth c cells slots G A nL pc (zlbin (fun x y => x + y)) := by
  intro f pc' f' hx H locs ls Q hH kk
  obtain ⟨L, st, M⟩ := f
  obtain ⟨y, x, t, rfl, hx⟩ : ∃ y x t, st = (.inr (.inl y)) :: (.inr (.inl x)) :: t ∧ some (Sum.inr (pc + 1, L, (zJ (x + y)) :: t, M)) = some (Sum.inr (pc', f')) := by
    unfold zlbin at hx
    dsimp only at hx
    split at hx
    · rename_i y x t
      exact ⟨y, x, t, rfl, hx⟩

    · cases hx
  cases hx
  exact lv_ladd Γ.1 Γ.2.1 hd (kk H locs ls ⟨hH.1, hH.2.1, hH.2.2.1, (hH.2.2.2).d.d.p trivial⟩)
theorem zs_lsub (Γ : zGa p s m args c cc nL own G A) (hd : decode cc pc = .ok (.lsub, 1)) : zNx p l e R s m args below meth c cells slots G A nL pc (zlbin (fun x y => x - y)) := by
  intro f pc' f' hx H locs ls Q hH kk
  obtain ⟨L, st, M⟩ := f
  obtain ⟨y, x, t, rfl, hx⟩ : ∃ y x t, st = (.inr (.inl y)) :: (.inr (.inl x)) :: t ∧ some (Sum.inr (pc + 1, L, (zJ (x - y)) :: t, M)) = some (Sum.inr (pc', f')) := by
    unfold zlbin at hx
    dsimp only at hx
    split at hx
    · rename_i y x t
      exact ⟨y, x, t, rfl, hx⟩

    · cases hx
  cases hx
  exact lv_lsub Γ.1 Γ.2.1 hd (kk H locs ls ⟨hH.1, hH.2.1, hH.2.2.1, (hH.2.2.2).d.d.p trivial⟩)
theorem zs_land (Γ : zGa p s m args c cc nL own G A) (hd : decode cc pc = .ok (.land, 1)) : zNx p l e R s m args below meth c cells slots G A nL pc (zlbin (fun x y => x &&& y)) := by
  intro f pc' f' hx H locs ls Q hH kk
  obtain ⟨L, st, M⟩ := f
  obtain ⟨y, x, t, rfl, hx⟩ : ∃ y x t, st = (.inr (.inl y)) :: (.inr (.inl x)) :: t ∧ some (Sum.inr (pc + 1, L, (zJ (x &&& y)) :: t, M)) = some (Sum.inr (pc', f')) := by
    unfold zlbin at hx
    dsimp only at hx
    split at hx
    · rename_i y x t
      exact ⟨y, x, t, rfl, hx⟩

    · cases hx
  cases hx
  exact lv_land Γ.1 Γ.2.1 hd (kk H locs ls ⟨hH.1, hH.2.1, hH.2.2.1, (hH.2.2.2).d.d.p trivial⟩)
theorem zs_lor (Γ : zGa p s m args c cc nL own G A) (hd : decode cc pc = .ok (.lor, 1)) : zNx p l e R s m args below meth c cells slots G A nL pc (zlbin (fun x y => x ||| y)) := by
  intro f pc' f' hx H locs ls Q hH kk
  obtain ⟨L, st, M⟩ := f
  obtain ⟨y, x, t, rfl, hx⟩ : ∃ y x t, st = (.inr (.inl y)) :: (.inr (.inl x)) :: t ∧ some (Sum.inr (pc + 1, L, (zJ (x ||| y)) :: t, M)) = some (Sum.inr (pc', f')) := by
    unfold zlbin at hx
    dsimp only at hx
    split at hx
    · rename_i y x t
      exact ⟨y, x, t, rfl, hx⟩

    · cases hx
  cases hx
  exact lv_lor Γ.1 Γ.2.1 hd (kk H locs ls ⟨hH.1, hH.2.1, hH.2.2.1, (hH.2.2.2).d.d.p trivial⟩)
theorem zs_lxor (Γ : zGa p s m args c cc nL own G A) (hd : decode cc pc = .ok (.lxor, 1)) : zNx p l e R s m args below meth c cells slots G A nL pc (zlbin (fun x y => x ^^^ y)) := by
  intro f pc' f' hx H locs ls Q hH kk
  obtain ⟨L, st, M⟩ := f
  obtain ⟨y, x, t, rfl, hx⟩ : ∃ y x t, st = (.inr (.inl y)) :: (.inr (.inl x)) :: t ∧ some (Sum.inr (pc + 1, L, (zJ (x ^^^ y)) :: t, M)) = some (Sum.inr (pc', f')) := by
    unfold zlbin at hx
    dsimp only at hx
    split at hx
    · rename_i y x t
      exact ⟨y, x, t, rfl, hx⟩

    · cases hx
  cases hx
  exact lv_lxor Γ.1 Γ.2.1 hd (kk H locs ls ⟨hH.1, hH.2.1, hH.2.2.1, (hH.2.2.2).d.d.p trivial⟩)
theorem zs_lushr (Γ : zGa p s m args c cc nL own G A) (hd : decode cc pc = .ok (.lushr, 1)) : zNx p l e R s m args below meth c cells slots G A nL pc (zlsh (fun x y => (x.toUInt64 >>> (y.toInt64.toUInt64 &&& Int64.toUInt64 63)).toInt64)) := by
  intro f pc' f' hx H locs ls Q hH kk
  obtain ⟨L, st, M⟩ := f
  obtain ⟨y, x, t, rfl, hx⟩ : ∃ y x t, st = (.inl y) :: (.inr (.inl x)) :: t ∧ some (Sum.inr (pc + 1, L, (zJ ((x.toUInt64 >>> (y.toInt64.toUInt64 &&& Int64.toUInt64 63)).toInt64)) :: t, M)) = some (Sum.inr (pc', f')) := by
    unfold zlsh at hx
    dsimp only at hx
    split at hx
    · rename_i y x t
      exact ⟨y, x, t, rfl, hx⟩

    · cases hx
  cases hx
  exact lv_lushr Γ.1 Γ.2.1 hd rfl (kk H locs ls ⟨hH.1, hH.2.1, hH.2.2.1, (hH.2.2.2).d.d.p trivial⟩)
theorem zs_lshr (Γ : zGa p s m args c cc nL own G A) (hd : decode cc pc = .ok (.lshr, 1)) : zNx p l e R s m args below meth c cells slots G A nL pc (zlsh (fun x y => x >>> (y.toInt64 &&& 63))) := by
  intro f pc' f' hx H locs ls Q hH kk
  obtain ⟨L, st, M⟩ := f
  obtain ⟨y, x, t, rfl, hx⟩ : ∃ y x t, st = (.inl y) :: (.inr (.inl x)) :: t ∧ some (Sum.inr (pc + 1, L, (zJ (x >>> (y.toInt64 &&& 63))) :: t, M)) = some (Sum.inr (pc', f')) := by
    unfold zlsh at hx
    dsimp only at hx
    split at hx
    · rename_i y x t
      exact ⟨y, x, t, rfl, hx⟩

    · cases hx
  cases hx
  exact lv_lshr Γ.1 Γ.2.1 hd rfl (kk H locs ls ⟨hH.1, hH.2.1, hH.2.2.1, (hH.2.2.2).d.d.p trivial⟩)
theorem zs_ineg (Γ : zGa p s m args c cc nL own G A) (hd : decode cc pc = .ok (.ineg, 1)) : zNx p l e R s m args below meth c cells slots G A nL pc (zun (fun x => -x)) := by
  intro f pc' f' hx H locs ls Q hH kk
  obtain ⟨L, st, M⟩ := f
  obtain ⟨x, t, rfl, hx⟩ : ∃ x t, st = (.inl x) :: t ∧ some (Sum.inr (pc + 1, L, (zI (-x)) :: t, M)) = some (Sum.inr (pc', f')) := by
    unfold zun at hx
    dsimp only at hx
    split at hx
    · rename_i x t
      exact ⟨x, t, rfl, hx⟩
    · cases hx
  cases hx
  exact lv_ineg Γ.1 Γ.2.1 hd (kk H locs ls ⟨hH.1, hH.2.1, hH.2.2.1, (hH.2.2.2).d.p trivial⟩)
theorem zs_lshl (Γ : zGa p s m args c cc nL own G A) (hd : decode cc pc = .ok (.lshl, 1)) : zNx p l e R s m args below meth c cells slots G A nL pc (zlsh (fun x y => x <<< (y.toInt64 &&& 63))) := by
  intro f pc' f' hx H locs ls Q hH kk
  obtain ⟨L, st, M⟩ := f
  obtain ⟨y, x, t, rfl, hx⟩ : ∃ y x t, st = (.inl y) :: (.inr (.inl x)) :: t ∧ some (Sum.inr (pc + 1, L, (zJ (x <<< (y.toInt64 &&& 63))) :: t, M)) = some (Sum.inr (pc', f')) := by
    unfold zlsh at hx
    dsimp only at hx
    split at hx
    · rename_i y x t
      exact ⟨y, x, t, rfl, hx⟩

    · cases hx
  cases hx
  exact lv_lshl Γ.1 Γ.2.1 hd rfl (kk H locs ls ⟨hH.1, hH.2.1, hH.2.2.1, (hH.2.2.2).d.d.p trivial⟩)
theorem zs_i2l (Γ : zGa p s m args c cc nL own G A) (hd : decode cc pc = .ok (.i2l, 1)) : zNx p l e R s m args below meth c cells slots G A nL pc (zi2l) := by
  intro f pc' f' hx H locs ls Q hH kk
  obtain ⟨L, st, M⟩ := f
  obtain ⟨x, t, rfl, hx⟩ : ∃ x t, st = (.inl x) :: t ∧ some (Sum.inr (pc + 1, L, (zJ x.toInt64) :: t, M)) = some (Sum.inr (pc', f')) := by
    unfold zi2l at hx
    dsimp only at hx
    split at hx
    · rename_i x t
      exact ⟨x, t, rfl, hx⟩

    · cases hx
  cases hx
  exact lv_i2l Γ.1 Γ.2.1 hd rfl (kk H locs ls ⟨hH.1, hH.2.1, hH.2.2.1, (hH.2.2.2).d.p trivial⟩)
theorem zs_l2i (Γ : zGa p s m args c cc nL own G A) (hd : decode cc pc = .ok (.l2i, 1)) : zNx p l e R s m args below meth c cells slots G A nL pc (zl2i) := by
  intro f pc' f' hx H locs ls Q hH kk
  obtain ⟨L, st, M⟩ := f
  obtain ⟨x, t, rfl, hx⟩ : ∃ x t, st = (.inr (.inl x)) :: t ∧ some (Sum.inr (pc + 1, L, (zI x.toInt32) :: t, M)) = some (Sum.inr (pc', f')) := by
    unfold zl2i at hx
    dsimp only at hx
    split at hx
    · rename_i x t
      exact ⟨x, t, rfl, hx⟩

    · cases hx
  cases hx
  exact lv_l2i Γ.1 Γ.2.1 hd rfl (kk H locs ls ⟨hH.1, hH.2.1, hH.2.2.1, (hH.2.2.2).d.p trivial⟩)
theorem zs_i2c (Γ : zGa p s m args c cc nL own G A) (hd : decode cc pc = .ok (.i2c, 1)) : zNx p l e R s m args below meth c cells slots G A nL pc (zi2c) := by
  intro f pc' f' hx H locs ls Q hH kk
  obtain ⟨L, st, M⟩ := f
  obtain ⟨x, t, rfl, hx⟩ : ∃ x t, st = (.inl x) :: t ∧ some (Sum.inr (pc + 1, L, (zI (x.toUInt32 % 65536).toInt32) :: t, M)) = some (Sum.inr (pc', f')) := by
    unfold zi2c at hx
    dsimp only at hx
    split at hx
    · rename_i x t
      exact ⟨x, t, rfl, hx⟩

    · cases hx
  cases hx
  exact lv_i2c Γ.1 Γ.2.1 hd rfl (kk H locs ls ⟨hH.1, hH.2.1, hH.2.2.1, (hH.2.2.2).d.p trivial⟩)
theorem zs_lcmp (Γ : zGa p s m args c cc nL own G A) (hd : decode cc pc = .ok (.lcmp, 1)) : zNx p l e R s m args below meth c cells slots G A nL pc (zlcmp) := by
  intro f pc' f' hx H locs ls Q hH kk
  obtain ⟨L, st, M⟩ := f
  obtain ⟨y, x, t, rfl, hx⟩ : ∃ y x t, st = (.inr (.inl y)) :: (.inr (.inl x)) :: t ∧ some (Sum.inr (pc + 1, L, (zI (lg_cmp x y)) :: t, M)) = some (Sum.inr (pc', f')) := by
    unfold zlcmp at hx
    dsimp only at hx
    split at hx
    · rename_i y x t
      exact ⟨y, x, t, rfl, hx⟩

    · cases hx
  cases hx
  exact W.lcmp Γ.1 Γ.2.1 hd (kk H locs ls ⟨hH.1, hH.2.1, hH.2.2.1, (hH.2.2.2).d.d.p trivial⟩)
theorem zs_dup (Γ : zGa p s m args c cc nL own G A) (hd : decode cc pc = .ok (.dup, 1)) : zNx p l e R s m args below meth c cells slots G A nL pc (zdup) := by
  intro f pc' f' hx H locs ls Q hH kk
  obtain ⟨L, st, M⟩ := f
  obtain ⟨v, t, rfl, hv, hx⟩ : ∃ v t, st = v :: t ∧ zcat v = 1 ∧ some (Sum.inr (pc + 1, L, v :: v :: t, M)) = some (Sum.inr (pc', f')) := by
    unfold zdup at hx
    dsimp only at hx
    split at hx
    · rename_i v t
      dsimp only at hx
      split at hx
      · rename_i hb; exact ⟨v, t, rfl, Nat.eq_of_beq_eq_true hb, hx⟩
      · cases hx
    · cases hx
  cases hx
  exact lv_dup Γ.1 Γ.2.1 hd (by rw [zc_cat]; exact hv) (kk H locs ls ⟨hH.1, hH.2.1, hH.2.2.1, (hH.2.2.2).p hH.2.2.2.t⟩)
theorem zs_pop (Γ : zGa p s m args c cc nL own G A) (hd : decode cc pc = .ok (.pop, 1)) : zNx p l e R s m args below meth c cells slots G A nL pc (zpop) := by
  intro f pc' f' hx H locs ls Q hH kk
  obtain ⟨L, st, M⟩ := f
  obtain ⟨v, t, rfl, hv, hx⟩ : ∃ v t, st = v :: t ∧ zcat v = 1 ∧ some (Sum.inr (pc + 1, L, t, M)) = some (Sum.inr (pc', f')) := by
    unfold zpop at hx
    dsimp only at hx
    split at hx
    · rename_i v t
      dsimp only at hx
      split at hx
      · rename_i hb; exact ⟨v, t, rfl, Nat.eq_of_beq_eq_true hb, hx⟩
      · cases hx
    · cases hx
  cases hx
  exact lv_pop Γ.1 Γ.2.1 hd (by rw [zc_cat]; exact hv) (kk H locs ls ⟨hH.1, hH.2.1, hH.2.2.1, (hH.2.2.2).d⟩)
theorem zs_dup2 (Γ : zGa p s m args c cc nL own G A) (hd : decode cc pc = .ok (.dup2, 1)) : zNx p l e R s m args below meth c cells slots G A nL pc (zdup2) := by
  intro f pc' f' hx H locs ls Q hH kk
  obtain ⟨L, st, M⟩ := f
  obtain ⟨v, u, t, rfl, hv, hu, hx⟩ : ∃ v u t, st = v :: u :: t ∧ zcat v = 1 ∧ zcat u = 1 ∧ some (Sum.inr (pc + 1, L, v :: u :: v :: u :: t, M)) = some (Sum.inr (pc', f')) := by
    unfold zdup2 at hx
    dsimp only at hx
    split at hx
    · rename_i v u t
      dsimp only at hx
      split at hx
      · rename_i hb
        split at hx
        · rename_i hc; exact ⟨v, u, t, rfl, Nat.eq_of_beq_eq_true hb, Nat.eq_of_beq_eq_true hc, hx⟩
        · cases hx
      · cases hx
    · cases hx
  cases hx
  exact lv_dup2_11 Γ.1 Γ.2.1 hd (by rw [zc_cat]; exact hv) (by rw [zc_cat]; exact hu) (kk H locs ls ⟨hH.1, hH.2.1, hH.2.2.1, ((hH.2.2.2).p hH.2.2.2.d.t).p hH.2.2.2.t⟩)
theorem zs_goto (Γ : zGa p s m args c cc nL own G A) {off : Int} {tgt : Nat} (hd : decode cc pc = .ok (.goto off, 3)) (ht : (pc : Int) + off = (tgt : Int)) : zNx p l e R s m args below meth c cells slots G A nL pc (zgoto tgt) := by
  intro f pc' f' hx H locs ls Q hH kk
  obtain ⟨L, st, M⟩ := f
  cases hx
  exact lv_goto Γ.1 Γ.2.1 hd ht (kk H locs ls hH)
theorem zs_ifeq (Γ : zGa p s m args c cc nL own G A) {off : Int} {tgt : Nat} (hd : decode cc pc = .ok (.ifCond .eq off, 3)) (ht : (pc : Int) + off = (tgt : Int)) : zNx p l e R s m args below meth c cells slots G A nL pc (zifeq tgt) := by
  intro f pc' f' hx H locs ls Q hH kk
  obtain ⟨L, st, M⟩ := f
  obtain ⟨x, t, rfl, hx⟩ : ∃ x t, st = (.inl x) :: t ∧ some (Sum.inr (if x = 0 then tgt else pc + 3, L, t, M)) = some (Sum.inr (pc', f')) := by
    unfold zifeq at hx
    dsimp only at hx
    split at hx
    · rename_i x t; exact ⟨x, t, rfl, hx⟩
    · cases hx
  cases hx
  have hok := (hH.2.2.2).d
  refine lv_if_eq Γ.1 Γ.2.1 hd ht (fun h => ?_) (fun h => ?_)
  · have k2 := kk H locs ls ⟨hH.1, hH.2.1, hH.2.2.1, hok⟩
    rw [if_pos h] at k2
    exact k2
  · have k2 := kk H locs ls ⟨hH.1, hH.2.1, hH.2.2.1, hok⟩
    rw [if_neg h] at k2
    exact k2
theorem zs_ifne (Γ : zGa p s m args c cc nL own G A) {off : Int} {tgt : Nat} (hd : decode cc pc = .ok (.ifCond .ne off, 3)) (ht : (pc : Int) + off = (tgt : Int)) : zNx p l e R s m args below meth c cells slots G A nL pc (zifne tgt) := by
  intro f pc' f' hx H locs ls Q hH kk
  obtain ⟨L, st, M⟩ := f
  obtain ⟨x, t, rfl, hx⟩ : ∃ x t, st = (.inl x) :: t ∧ some (Sum.inr (if x = 0 then pc + 3 else tgt, L, t, M)) = some (Sum.inr (pc', f')) := by
    unfold zifne at hx
    dsimp only at hx
    split at hx
    · rename_i x t; exact ⟨x, t, rfl, hx⟩
    · cases hx
  cases hx
  have hok := (hH.2.2.2).d
  refine lv_if_ne Γ.1 Γ.2.1 hd ht (fun h => ?_) (fun h => ?_)
  · have k2 := kk H locs ls ⟨hH.1, hH.2.1, hH.2.2.1, hok⟩
    rw [if_neg h] at k2
    exact k2
  · have k2 := kk H locs ls ⟨hH.1, hH.2.1, hH.2.2.1, hok⟩
    rw [if_pos h] at k2
    exact k2
theorem zs_iflt (Γ : zGa p s m args c cc nL own G A) {off : Int} {tgt : Nat} (hd : decode cc pc = .ok (.ifCond .lt off, 3)) (ht : (pc : Int) + off = (tgt : Int)) : zNx p l e R s m args below meth c cells slots G A nL pc (ziflt tgt) := by
  intro f pc' f' hx H locs ls Q hH kk
  obtain ⟨L, st, M⟩ := f
  obtain ⟨x, t, rfl, hx⟩ : ∃ x t, st = (.inl x) :: t ∧ some (Sum.inr (if x < 0 then tgt else pc + 3, L, t, M)) = some (Sum.inr (pc', f')) := by
    unfold ziflt at hx
    dsimp only at hx
    split at hx
    · rename_i x t; exact ⟨x, t, rfl, hx⟩
    · cases hx
  cases hx
  have hok := (hH.2.2.2).d
  refine lv_if_lt Γ.1 Γ.2.1 hd ht (fun h => ?_) (fun h => ?_)
  · have k2 := kk H locs ls ⟨hH.1, hH.2.1, hH.2.2.1, hok⟩
    rw [if_pos h] at k2
    exact k2
  · have k2 := kk H locs ls ⟨hH.1, hH.2.1, hH.2.2.1, hok⟩
    rw [if_neg h] at k2
    exact k2
theorem zs_ifge (Γ : zGa p s m args c cc nL own G A) {off : Int} {tgt : Nat} (hd : decode cc pc = .ok (.ifCond .ge off, 3)) (ht : (pc : Int) + off = (tgt : Int)) : zNx p l e R s m args below meth c cells slots G A nL pc (zifge tgt) := by
  intro f pc' f' hx H locs ls Q hH kk
  obtain ⟨L, st, M⟩ := f
  obtain ⟨x, t, rfl, hx⟩ : ∃ x t, st = (.inl x) :: t ∧ some (Sum.inr (if 0 ≤ x then tgt else pc + 3, L, t, M)) = some (Sum.inr (pc', f')) := by
    unfold zifge at hx
    dsimp only at hx
    split at hx
    · rename_i x t; exact ⟨x, t, rfl, hx⟩
    · cases hx
  cases hx
  have hok := (hH.2.2.2).d
  refine lv_if_ge Γ.1 Γ.2.1 hd ht (fun h => ?_) (fun h => ?_)
  · have k2 := kk H locs ls ⟨hH.1, hH.2.1, hH.2.2.1, hok⟩
    rw [if_pos h] at k2
    exact k2
  · have k2 := kk H locs ls ⟨hH.1, hH.2.1, hH.2.2.1, hok⟩
    rw [if_neg h] at k2
    exact k2
theorem zs_ifgt (Γ : zGa p s m args c cc nL own G A) {off : Int} {tgt : Nat} (hd : decode cc pc = .ok (.ifCond .gt off, 3)) (ht : (pc : Int) + off = (tgt : Int)) : zNx p l e R s m args below meth c cells slots G A nL pc (zifgt tgt) := by
  intro f pc' f' hx H locs ls Q hH kk
  obtain ⟨L, st, M⟩ := f
  obtain ⟨x, t, rfl, hx⟩ : ∃ x t, st = (.inl x) :: t ∧ some (Sum.inr (if 0 < x then tgt else pc + 3, L, t, M)) = some (Sum.inr (pc', f')) := by
    unfold zifgt at hx
    dsimp only at hx
    split at hx
    · rename_i x t; exact ⟨x, t, rfl, hx⟩
    · cases hx
  cases hx
  have hok := (hH.2.2.2).d
  refine lv_if_gt Γ.1 Γ.2.1 hd ht (fun h => ?_) (fun h => ?_)
  · have k2 := kk H locs ls ⟨hH.1, hH.2.1, hH.2.2.1, hok⟩
    rw [if_pos h] at k2
    exact k2
  · have k2 := kk H locs ls ⟨hH.1, hH.2.1, hH.2.2.1, hok⟩
    rw [if_neg h] at k2
    exact k2
theorem zs_ifle (Γ : zGa p s m args c cc nL own G A) {off : Int} {tgt : Nat} (hd : decode cc pc = .ok (.ifCond .le off, 3)) (ht : (pc : Int) + off = (tgt : Int)) : zNx p l e R s m args below meth c cells slots G A nL pc (zifle tgt) := by
  intro f pc' f' hx H locs ls Q hH kk
  obtain ⟨L, st, M⟩ := f
  obtain ⟨x, t, rfl, hx⟩ : ∃ x t, st = (.inl x) :: t ∧ some (Sum.inr (if x ≤ 0 then tgt else pc + 3, L, t, M)) = some (Sum.inr (pc', f')) := by
    unfold zifle at hx
    dsimp only at hx
    split at hx
    · rename_i x t; exact ⟨x, t, rfl, hx⟩
    · cases hx
  cases hx
  have hok := (hH.2.2.2).d
  refine lv_if_le Γ.1 Γ.2.1 hd ht (fun h => ?_) (fun h => ?_)
  · have k2 := kk H locs ls ⟨hH.1, hH.2.1, hH.2.2.1, hok⟩
    rw [if_pos h] at k2
    exact k2
  · have k2 := kk H locs ls ⟨hH.1, hH.2.1, hH.2.2.1, hok⟩
    rw [if_neg h] at k2
    exact k2
theorem zs_ceq (Γ : zGa p s m args c cc nL own G A) {off : Int} {tgt : Nat} (hd : decode cc pc = .ok (.if_icmp .eq off, 3)) (ht : (pc : Int) + off = (tgt : Int)) : zNx p l e R s m args below meth c cells slots G A nL pc (zceq tgt) := by
  intro f pc' f' hx H locs ls Q hH kk
  obtain ⟨L, st, M⟩ := f
  obtain ⟨y, x, t, rfl, hx⟩ : ∃ y x t, st = (.inl y) :: (.inl x) :: t ∧ some (Sum.inr (if x = y then tgt else pc + 3, L, t, M)) = some (Sum.inr (pc', f')) := by
    unfold zceq at hx
    dsimp only at hx
    split at hx
    · rename_i y x t; exact ⟨y, x, t, rfl, hx⟩
    · cases hx
  cases hx
  have hok := (hH.2.2.2).d.d
  refine lv_icmp_eq Γ.1 Γ.2.1 hd ht (fun h => ?_) (fun h => ?_)
  · have k2 := kk H locs ls ⟨hH.1, hH.2.1, hH.2.2.1, hok⟩
    rw [if_pos h] at k2
    exact k2
  · have k2 := kk H locs ls ⟨hH.1, hH.2.1, hH.2.2.1, hok⟩
    rw [if_neg h] at k2
    exact k2
theorem zs_cne (Γ : zGa p s m args c cc nL own G A) {off : Int} {tgt : Nat} (hd : decode cc pc = .ok (.if_icmp .ne off, 3)) (ht : (pc : Int) + off = (tgt : Int)) : zNx p l e R s m args below meth c cells slots G A nL pc (zcne tgt) := by
  intro f pc' f' hx H locs ls Q hH kk
  obtain ⟨L, st, M⟩ := f
  obtain ⟨y, x, t, rfl, hx⟩ : ∃ y x t, st = (.inl y) :: (.inl x) :: t ∧ some (Sum.inr (if x = y then pc + 3 else tgt, L, t, M)) = some (Sum.inr (pc', f')) := by
    unfold zcne at hx
    dsimp only at hx
    split at hx
    · rename_i y x t; exact ⟨y, x, t, rfl, hx⟩
    · cases hx
  cases hx
  have hok := (hH.2.2.2).d.d
  refine lv_icmp_ne Γ.1 Γ.2.1 hd ht (fun h => ?_) (fun h => ?_)
  · have k2 := kk H locs ls ⟨hH.1, hH.2.1, hH.2.2.1, hok⟩
    rw [if_neg h] at k2
    exact k2
  · have k2 := kk H locs ls ⟨hH.1, hH.2.1, hH.2.2.1, hok⟩
    rw [if_pos h] at k2
    exact k2
theorem zs_clt (Γ : zGa p s m args c cc nL own G A) {off : Int} {tgt : Nat} (hd : decode cc pc = .ok (.if_icmp .lt off, 3)) (ht : (pc : Int) + off = (tgt : Int)) : zNx p l e R s m args below meth c cells slots G A nL pc (zclt tgt) := by
  intro f pc' f' hx H locs ls Q hH kk
  obtain ⟨L, st, M⟩ := f
  obtain ⟨y, x, t, rfl, hx⟩ : ∃ y x t, st = (.inl y) :: (.inl x) :: t ∧ some (Sum.inr (if x < y then tgt else pc + 3, L, t, M)) = some (Sum.inr (pc', f')) := by
    unfold zclt at hx
    dsimp only at hx
    split at hx
    · rename_i y x t; exact ⟨y, x, t, rfl, hx⟩
    · cases hx
  cases hx
  have hok := (hH.2.2.2).d.d
  refine lv_icmp_lt Γ.1 Γ.2.1 hd ht (fun h => ?_) (fun h => ?_)
  · have k2 := kk H locs ls ⟨hH.1, hH.2.1, hH.2.2.1, hok⟩
    rw [if_pos h] at k2
    exact k2
  · have k2 := kk H locs ls ⟨hH.1, hH.2.1, hH.2.2.1, hok⟩
    rw [if_neg h] at k2
    exact k2
theorem zs_cge (Γ : zGa p s m args c cc nL own G A) {off : Int} {tgt : Nat} (hd : decode cc pc = .ok (.if_icmp .ge off, 3)) (ht : (pc : Int) + off = (tgt : Int)) : zNx p l e R s m args below meth c cells slots G A nL pc (zcge tgt) := by
  intro f pc' f' hx H locs ls Q hH kk
  obtain ⟨L, st, M⟩ := f
  obtain ⟨y, x, t, rfl, hx⟩ : ∃ y x t, st = (.inl y) :: (.inl x) :: t ∧ some (Sum.inr (if y ≤ x then tgt else pc + 3, L, t, M)) = some (Sum.inr (pc', f')) := by
    unfold zcge at hx
    dsimp only at hx
    split at hx
    · rename_i y x t; exact ⟨y, x, t, rfl, hx⟩
    · cases hx
  cases hx
  have hok := (hH.2.2.2).d.d
  refine lv_icmp_ge Γ.1 Γ.2.1 hd ht (fun h => ?_) (fun h => ?_)
  · have k2 := kk H locs ls ⟨hH.1, hH.2.1, hH.2.2.1, hok⟩
    rw [if_pos h] at k2
    exact k2
  · have k2 := kk H locs ls ⟨hH.1, hH.2.1, hH.2.2.1, hok⟩
    rw [if_neg h] at k2
    exact k2
theorem zs_cgt (Γ : zGa p s m args c cc nL own G A) {off : Int} {tgt : Nat} (hd : decode cc pc = .ok (.if_icmp .gt off, 3)) (ht : (pc : Int) + off = (tgt : Int)) : zNx p l e R s m args below meth c cells slots G A nL pc (zcgt tgt) := by
  intro f pc' f' hx H locs ls Q hH kk
  obtain ⟨L, st, M⟩ := f
  obtain ⟨y, x, t, rfl, hx⟩ : ∃ y x t, st = (.inl y) :: (.inl x) :: t ∧ some (Sum.inr (if y < x then tgt else pc + 3, L, t, M)) = some (Sum.inr (pc', f')) := by
    unfold zcgt at hx
    dsimp only at hx
    split at hx
    · rename_i y x t; exact ⟨y, x, t, rfl, hx⟩
    · cases hx
  cases hx
  have hok := (hH.2.2.2).d.d
  refine lv_icmp_gt Γ.1 Γ.2.1 hd ht (fun h => ?_) (fun h => ?_)
  · have k2 := kk H locs ls ⟨hH.1, hH.2.1, hH.2.2.1, hok⟩
    rw [if_pos h] at k2
    exact k2
  · have k2 := kk H locs ls ⟨hH.1, hH.2.1, hH.2.2.1, hok⟩
    rw [if_neg h] at k2
    exact k2
theorem zs_cle (Γ : zGa p s m args c cc nL own G A) {off : Int} {tgt : Nat} (hd : decode cc pc = .ok (.if_icmp .le off, 3)) (ht : (pc : Int) + off = (tgt : Int)) : zNx p l e R s m args below meth c cells slots G A nL pc (zcle tgt) := by
  intro f pc' f' hx H locs ls Q hH kk
  obtain ⟨L, st, M⟩ := f
  obtain ⟨y, x, t, rfl, hx⟩ : ∃ y x t, st = (.inl y) :: (.inl x) :: t ∧ some (Sum.inr (if x ≤ y then tgt else pc + 3, L, t, M)) = some (Sum.inr (pc', f')) := by
    unfold zcle at hx
    dsimp only at hx
    split at hx
    · rename_i y x t; exact ⟨y, x, t, rfl, hx⟩
    · cases hx
  cases hx
  have hok := (hH.2.2.2).d.d
  refine lv_icmp_le Γ.1 Γ.2.1 hd ht (fun h => ?_) (fun h => ?_)
  · have k2 := kk H locs ls ⟨hH.1, hH.2.1, hH.2.2.1, hok⟩
    rw [if_pos h] at k2
    exact k2
  · have k2 := kk H locs ls ⟨hH.1, hH.2.1, hH.2.2.1, hok⟩
    rw [if_neg h] at k2
    exact k2
theorem zs_nullj (Γ : zGa p s m args c cc nL own G A) {off : Int} {tgt : Nat} (hd : decode cc pc = .ok (.ifnull off, 3)) (ht : (pc : Int) + off = (tgt : Int)) : zNx p l e R s m args below meth c cells slots G A nL pc (znull tgt) := by
  intro f pc' f' hx H locs ls Q hH kk
  obtain ⟨L, st, M⟩ := f
  unfold znull at hx
  dsimp only at hx
  split at hx
  · cases hx
    exact lv_ifnullN Γ.1 Γ.2.1 hd ht (kk H locs ls ⟨hH.1, hH.2.1, hH.2.2.1, (hH.2.2.2).d⟩)
  · cases hx
    exact lv_ifnull Γ.1 Γ.2.1 hd (kk H locs ls ⟨hH.1, hH.2.1, hH.2.2.1, (hH.2.2.2).d⟩)
  · cases hx
theorem zs_nonnullj (Γ : zGa p s m args c cc nL own G A) {off : Int} {tgt : Nat} (hd : decode cc pc = .ok (.ifnonnull off, 3)) (ht : (pc : Int) + off = (tgt : Int)) : zNx p l e R s m args below meth c cells slots G A nL pc (znonnull tgt) := by
  intro f pc' f' hx H locs ls Q hH kk
  obtain ⟨L, st, M⟩ := f
  unfold znonnull at hx
  dsimp only at hx
  split at hx
  · cases hx
    exact lv_ifnonnullN Γ.1 Γ.2.1 hd (kk H locs ls ⟨hH.1, hH.2.1, hH.2.2.1, (hH.2.2.2).d⟩)
  · cases hx
    exact lv_ifnonnull Γ.1 Γ.2.1 hd ht (kk H locs ls ⟨hH.1, hH.2.1, hH.2.2.1, (hH.2.2.2).d⟩)
  · cases hx
end ZS
