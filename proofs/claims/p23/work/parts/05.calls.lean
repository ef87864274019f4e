-- ===== fields, arrays, calls, answers =====
def zPc (G : zG) (a : List zV) (M : zM) : Array Value → State → Prop := va_Pc (a.map (zc G)) (fun U => va_P G.1 vwCl (zws G M) U.heap ∧ va_D (zA G) (zws G M) ∧ va_K G.1 vwCl (ztys G) U ∧ zro G (zA G) U U.heap ∧ zmo G M ∧ (∀ v ∈ a, zvr G v) ∧ zne U)
def zQc (G : zG) (r : zQ) : Array Value → State → Outcome → State → Prop := fun _ st oc t => oc = .returned (r.1.map (zc G)) ∧ va_P G.1 vwCl (zws G r.2) t.heap ∧ zmo G r.2 ∧ (∀ v, r.1 = some v → zvr G v) ∧ va_F (zA G) st t
def zRt (p : Program) (l : Launch) (e : Env) (R : Room) (s : State) (m : MethodId) (args : Array Value) (below : List Frame) (meth : Method) (c : Code) (cells slots : Nat) (G : zG) (nL pc : Nat) (x : zX) : Prop :=
  ∀ (f : zF) (r : zQ), x pc f = some (.inl r) → ∀ (H : Heap) (locs : List Loc) (ls : Array Slot), zHo s G (zA G) nL f H locs ls → W p l e R s m args below meth c H locs cells slots (MQ below (zQc G r) args s cells slots (zA G)) (F0 m pc ls (f.2.1.map (zc G)))
def zno (x : zX) : Prop := ∀ (pc : Nat) (f : zF) (r : zQ), x pc f ≠ some (.inl r)
theorem zRt.no {p : Program} {l : Launch} {e : Env} {R : Room} {s : State} {m : MethodId} {args : Array Value} {below : List Frame} {meth : Method} {c : Code} {cells slots : Nat} {G : zG} {nL pc : Nat} {x : zX} (h : zno x) : zRt p l e R s m args below meth c cells slots G nL pc x := fun f r hx => absurd hx (h pc f r)
theorem zro.z {G : zG} {A : Nat → Prop} {s : State} {H : Heap} (hA : ∀ q, zA G q → A q) (h : zro G A s H) : zro G (zA G) s H := by
  obtain ⟨h1, h2, h3, h4, h5, h6, cf, kf, fi, f, a, cell, g1, g2, g3, g4, g5, g6, g7, g8⟩ := h
  exact ⟨h1, h2, fun q => h3 (hA _ q), h4, h5, fun q => h6 (hA _ q), cf, kf, fi, f, a, cell, g1, g2, g3, g4, g5, g6, g7, fun q => g8 (hA _ q)⟩
theorem zro.m {G : zG} {A : Nat → Prop} {s U : State} {H H' : Heap} (hvm : s.vm.Alike U.vm) (hq : ∀ q : Nat, q < H.size → ¬ A q → H'[q]? = H[q]?) (hsz : H.size ≤ H'.size) (h : zro G A s H) : zro G A U H' := by
  obtain ⟨h1, h2, h3, h4, h5, h6, h7⟩ := h
  refine ⟨(h1.kept (hq _ h2 h3)).moved hvm, by omega, h3, (h4.kept (hq _ h5 h6)).moved hvm, by omega, h6, ?_⟩
  obtain ⟨cf, kf, fi, f, a, cell, g1, g2, g3, g4, g5, g6, g7, g8⟩ := va_Z.moved hvm h7
  exact ⟨cf, kf, fi, f, a, cell, g1, g2, g3, g4, (hq a (Array.getElem?_eq_some_iff.mp g5).1 g8).trans g5, g6, g7, g8⟩
theorem zvr_in {G : zG} {c n : Nat} (h : zvr G (zR c n)) (hc : c < 40) : (c, n) ∈ zobjs (zsi G) := by
  rcases h with h | h | h
  · exact zobjs_mem.mpr h
  · cases h; omega
  · cases h; omega
theorem zpr_lt {c : Nat} (h : zpr c < 4) : c < 40 := by
  unfold zpr at h
  split at h <;> omega
theorem zce9 {G : zG} {c n : Nat} {a : Nat → Int32} {b : Nat → Int64} {r : Nat → Option Nat} (hz : zpr c = 9) : zce G c n a b r = .inr (c, zfs (zad G) a b n c) := by
  unfold zce; rw [hz]; rfl
theorem zce0 {G : zG} {c n : Nat} {a : Nat → Int32} {b : Nat → Int64} {r : Nat → Option Nat} (hz : zpr c = 0) : zce G c n a b r = .inl (G.2.2.1.1, zlt c, .inl a) := by
  unfold zce; rw [hz]; rfl
theorem zce1 {G : zG} {c n : Nat} {a : Nat → Int32} {b : Nat → Int64} {r : Nat → Option Nat} (hz : zpr c = 1) : zce G c n a b r = .inl (G.2.2.1.2.1, zlt c, .inr (.inl b)) := by
  unfold zce; rw [hz]; rfl
theorem zce2 {G : zG} {c n : Nat} {a : Nat → Int32} {b : Nat → Int64} {r : Nat → Option Nat} (hz : zpr c = 2) : zce G c n a b r = .inl (G.2.2.1.2.2.1, zlt c, .inl a) := by
  unfold zce; rw [hz]; rfl
theorem zce3 {G : zG} {c n : Nat} {a : Nat → Int32} {b : Nat → Int64} {r : Nat → Option Nat} (hz : zpr c = 3) : zce G c n a b r = .inl (G.2.2.1.2.2.2, zlt c, .inr (.inr (.inr (.inr (fun i => (r i).map (fun q => zad G 4 q)))))) := by
  unfold zce; rw [hz]; rfl
section ZS2
variable {p : Program} {l : Launch} {e : Env} {R : Room} {s : State} {m : MethodId} {args : Array Value} {below : List Frame} {meth : Method} {c : Code} {cells slots : Nat} {cc : ByteArray} {nL : Nat} {own : String} {G : zG} {A : Nat → Prop} {pc : Nat}
theorem zs_getI (Γ : zGa p s m args c cc nL own G A) {ci k idx N : Nat} {C : String} {T : u_T} (hd : decode cc pc = .ok (.getfield idx, 3)) (hc : vwCl[ci]? = some (C, T, N)) (hin : ∀ w ∈ u_ws C T N, w ∈ zTs) (hk : k < N) (hl : Cond.fieldLink own idx (T k).1 (T k).2.1 (T k).2.2.1 ∈ zTs) (hz : zpr ci = 9) (hc9 : ci < 9) (hv : ∀ (ad : Nat → Nat → Nat) (a : Nat → Int32) (b : Nat → Int64) (n : Nat), (zfs ad a b n ci)[k]? = some (.int (a k))) : zNx p l e R s m args below meth c cells slots G A nL pc (zgetI ci k) := by
  intro f pc' f' hx H locs ls Q hH kk
  obtain ⟨L, st, M⟩ := f
  obtain ⟨n, t, rfl, hx⟩ : ∃ n t, st = zR ci n :: t ∧ some (Sum.inr (pc + 3, L, zI (M.1 ci n k) :: t, M)) = some (Sum.inr (pc', f')) := by
    unfold zgetI at hx
    dsimp only at hx
    split at hx
    · rename_i c' n t
      dsimp only at hx
      cases hb : Nat.beq c' ci with
      | true => cases Nat.eq_of_beq_eq_true hb; exact ⟨n, t, rfl, by rw [hb] at hx; exact hx⟩
      | false => rw [hb] at hx; cases hx
    · cases hx
  cases hx
  obtain ⟨q0, h1, -⟩ := zws_at G M (zvr_in hH.2.2.2.t (by omega))
  have he : (zws G M)[q0]? = some (zad G ci n, .inr (ci, zfs (zad G) (M.1 ci n) (M.2.1 ci n) n ci)) := by
    rw [h1, zcell, zce9 hz]
  exact va_get (v := .int (M.1 ci n k)) Γ.1 Γ.2.1 Γ.2.2.2.2.1 hin Γ.2.2.2.1 Γ.2.2.2.2.2.1 hH.2.2.1.1 q0 he hc k hk (Γ.2.2.2.2.1 _ hl) (fun _ h9 => h9) (hv _ _ _ _) hd (kk H locs ls ⟨hH.1, hH.2.1, hH.2.2.1, (hH.2.2.2).d.p trivial⟩)
theorem zs_getJ (Γ : zGa p s m args c cc nL own G A) {ci k idx N : Nat} {C : String} {T : u_T} (hd : decode cc pc = .ok (.getfield idx, 3)) (hc : vwCl[ci]? = some (C, T, N)) (hin : ∀ w ∈ u_ws C T N, w ∈ zTs) (hk : k < N) (hl : Cond.fieldLink own idx (T k).1 (T k).2.1 (T k).2.2.1 ∈ zTs) (hz : zpr ci = 9) (hc9 : ci < 9) (hv : ∀ (ad : Nat → Nat → Nat) (a : Nat → Int32) (b : Nat → Int64) (n : Nat), (zfs ad a b n ci)[k]? = some (.long (b k))) : zNx p l e R s m args below meth c cells slots G A nL pc (zgetJ ci k) := by
  intro f pc' f' hx H locs ls Q hH kk
  obtain ⟨L, st, M⟩ := f
  obtain ⟨n, t, rfl, hx⟩ : ∃ n t, st = zR ci n :: t ∧ some (Sum.inr (pc + 3, L, zJ (M.2.1 ci n k) :: t, M)) = some (Sum.inr (pc', f')) := by
    unfold zgetJ at hx
    dsimp only at hx
    split at hx
    · rename_i c' n t
      dsimp only at hx
      cases hb : Nat.beq c' ci with
      | true => cases Nat.eq_of_beq_eq_true hb; exact ⟨n, t, rfl, by rw [hb] at hx; exact hx⟩
      | false => rw [hb] at hx; cases hx
    · cases hx
  cases hx
  obtain ⟨q0, h1, -⟩ := zws_at G M (zvr_in hH.2.2.2.t (by omega))
  have he : (zws G M)[q0]? = some (zad G ci n, .inr (ci, zfs (zad G) (M.1 ci n) (M.2.1 ci n) n ci)) := by
    rw [h1, zcell, zce9 hz]
  exact va_get (v := .long (M.2.1 ci n k)) Γ.1 Γ.2.1 Γ.2.2.2.2.1 hin Γ.2.2.2.1 Γ.2.2.2.2.2.1 hH.2.2.1.1 q0 he hc k hk (Γ.2.2.2.2.1 _ hl) (fun _ h9 => h9) (hv _ _ _ _) hd (kk H locs ls ⟨hH.1, hH.2.1, hH.2.2.1, (hH.2.2.2).d.p trivial⟩)
theorem zs_getR (Γ : zGa p s m args c cc nL own G A) {ci c2 k idx N : Nat} {g : Nat → Nat} {C : String} {T : u_T} (hd : decode cc pc = .ok (.getfield idx, 3)) (hc : vwCl[ci]? = some (C, T, N)) (hin : ∀ w ∈ u_ws C T N, w ∈ zTs) (hk : k < N) (hl : Cond.fieldLink own idx (T k).1 (T k).2.1 (T k).2.2.1 ∈ zTs) (hz : zpr ci = 9) (hc9 : ci < 9) (hv : ∀ (ad : Nat → Nat → Nat) (a : Nat → Int32) (b : Nat → Int64) (n : Nat), n < zcn (zsi G) ci → (zfs ad a b n ci)[k]? = some (.ref (ad c2 (g n)))) (hg : ∀ n, n < zcn (zsi G) ci → g n < zcn (zsi G) c2) : zNx p l e R s m args below meth c cells slots G A nL pc (zgetR ci c2 g) := by
  intro f pc' f' hx H locs ls Q hH kk
  obtain ⟨L, st, M⟩ := f
  obtain ⟨n, t, rfl, hx⟩ : ∃ n t, st = zR ci n :: t ∧ some (Sum.inr (pc + 3, L, zR c2 (g n) :: t, M)) = some (Sum.inr (pc', f')) := by
    unfold zgetR at hx
    dsimp only at hx
    split at hx
    · rename_i c' n t
      dsimp only at hx
      cases hb : Nat.beq c' ci with
      | true => cases Nat.eq_of_beq_eq_true hb; exact ⟨n, t, rfl, by rw [hb] at hx; exact hx⟩
      | false => rw [hb] at hx; cases hx
    · cases hx
  cases hx
  have hm := zvr_in hH.2.2.2.t (by omega)
  obtain ⟨q0, h1, -⟩ := zws_at G M hm
  have he : (zws G M)[q0]? = some (zad G ci n, .inr (ci, zfs (zad G) (M.1 ci n) (M.2.1 ci n) n ci)) := by
    rw [h1, zcell, zce9 hz]
  exact va_get (v := .ref (zad G c2 (g n))) Γ.1 Γ.2.1 Γ.2.2.2.2.1 hin Γ.2.2.2.1 Γ.2.2.2.2.2.1 hH.2.2.1.1 q0 he hc k hk (Γ.2.2.2.2.1 _ hl) (fun _ h9 => h9) (hv _ _ _ _ (zobjs_mem.mp hm)) hd (kk H locs ls ⟨hH.1, hH.2.1, hH.2.2.1, (hH.2.2.2).d.p (Or.inl (hg n (zobjs_mem.mp hm)))⟩)
theorem zs_putI (Γ : zGa p s m args c cc nL own G A) {ci k idx N : Nat} {C : String} {T : u_T} (ty0 : Nat → FieldType) (hd : decode cc pc = .ok (.putfield idx, 3)) (hc : vwCl[ci]? = some (C, T, N)) (hin : ∀ w ∈ u_ws C T N, w ∈ zTs) (hty : ∀ k, k < N → parseFieldDescriptor (T k).2.2.1 = some (ty0 k)) (hnm : ∀ a, a < N → ∀ b, b < N → a ≠ b → (T a).2.1 ≠ (T b).2.1) (hk : k < N) (hl : Cond.fieldLink own idx (T k).1 (T k).2.1 (T k).2.2.1 ∈ zTs) (hfin : (T k).2.2.2 = false) (hpar : parseFieldDescriptor (T k).2.2.1 = some .int) (hz : zpr ci = 9) (hc9 : ci < 9) (hvs : ∀ (ad : Nat → Nat → Nat) (a : Nat → Int32) (b : Nat → Int64) (n : Nat) (x : Int32), k < (zfs ad a b n ci).length ∧ (zfs ad a b n ci).set k (.int x) = zfs ad (upd a k x) b n ci) : zNx p l e R s m args below meth c cells slots G A nL pc (zputI ci k) := by
  intro f pc' f' hx H locs ls Q hH kk
  obtain ⟨L, st, M⟩ := f
  obtain ⟨x, n, t, rfl, hx⟩ : ∃ x n t, st = zI x :: zR ci n :: t ∧ some (Sum.inr (pc + 3, L, t, (zst M.1 ci n (upd (M.1 ci n) k x), M.2))) = some (Sum.inr (pc', f')) := by
    unfold zputI at hx
    dsimp only at hx
    split at hx
    · rename_i x c' n t
      dsimp only at hx
      cases hb : Nat.beq c' ci with
      | true => cases Nat.eq_of_beq_eq_true hb; exact ⟨x, n, t, rfl, by rw [hb] at hx; exact hx⟩
      | false => rw [hb] at hx; cases hx
    · cases hx
  cases hx
  obtain ⟨q0, h1, h2⟩ := zws_i G M (zvr_in hH.2.2.2.d.t (by omega)) (upd (M.1 ci n) k x)
  have he : (zws G M)[q0]? = some (zad G ci n, .inr (ci, zfs (zad G) (M.1 ci n) (M.2.1 ci n) n ci)) := by
    rw [h1, zcell, zce9 hz]
  have h3 : (zws G M).set q0 (zad G ci n, .inr (ci, (zfs (zad G) (M.1 ci n) (M.2.1 ci n) n ci).set k (.int x))) = zws G (zst M.1 ci n (upd (M.1 ci n) k x), M.2) := by
    rw [← h2, (hvs _ _ _ _ x).2, zce9 hz]
  refine va_put (v := .int x) (ty := .int) Γ.1 Γ.2.1 Γ.2.2.2.2.1 hin ty0 hty hnm Γ.2.2.2.1 Γ.2.2.2.2.2.1 hH.2.2.1.1 hH.2.2.1.2.1 hH.2.2.1.2.2.1 q0 he hc k hk (Γ.2.2.2.2.1 _ hl) (fun _ h9 => h9) hfin hpar rfl rfl (hvs _ _ _ _ x).1 hd (fun H1 locs1 hP hD hS => ?_)
  rw [h3] at hP hD
  exact kk H1 locs1 ls ⟨hH.1, hH.2.1, ⟨hP, hD, hS, hH.2.2.1.2.2.2.i (by omega)⟩, (hH.2.2.2).d.d⟩
theorem zs_putZ (Γ : zGa p s m args c cc nL own G A) {ci k idx N : Nat} {C : String} {T : u_T} (ty0 : Nat → FieldType) (hd : decode cc pc = .ok (.putfield idx, 3)) (hc : vwCl[ci]? = some (C, T, N)) (hin : ∀ w ∈ u_ws C T N, w ∈ zTs) (hty : ∀ k, k < N → parseFieldDescriptor (T k).2.2.1 = some (ty0 k)) (hnm : ∀ a, a < N → ∀ b, b < N → a ≠ b → (T a).2.1 ≠ (T b).2.1) (hk : k < N) (hl : Cond.fieldLink own idx (T k).1 (T k).2.1 (T k).2.2.1 ∈ zTs) (hfin : (T k).2.2.2 = false) (hpar : parseFieldDescriptor (T k).2.2.1 = some .boolean) (hz : zpr ci = 9) (hc9 : ci < 9) (hvs : ∀ (ad : Nat → Nat → Nat) (a : Nat → Int32) (b : Nat → Int64) (n : Nat) (x : Int32), k < (zfs ad a b n ci).length ∧ (zfs ad a b n ci).set k (.int x) = zfs ad (upd a k x) b n ci) : zNx p l e R s m args below meth c cells slots G A nL pc (zputZ ci k) := by
  intro f pc' f' hx H locs ls Q hH kk
  obtain ⟨L, st, M⟩ := f
  obtain ⟨x, n, t, rfl, hx0, hx⟩ : ∃ x n t, st = zI x :: zR ci n :: t ∧ (x = 0 ∨ x = 1) ∧ some (Sum.inr (pc + 3, L, t, (zst M.1 ci n (upd (M.1 ci n) k x), M.2))) = some (Sum.inr (pc', f')) := by
    unfold zputZ at hx
    dsimp only at hx
    split at hx
    · rename_i x c' n t
      dsimp only at hx
      cases hb : Nat.beq c' ci with
      | true =>
        cases Nat.eq_of_beq_eq_true hb
        have hx : (if x = 0 ∨ x = 1 then some (Sum.inr (pc + 3, L, t, (zst M.1 ci n (upd (M.1 ci n) k x), M.2))) else none : zT) = some (Sum.inr (pc', f')) := by rw [hb] at hx; exact hx
        by_cases h0 : x = 0 ∨ x = 1
        · rw [if_pos h0] at hx; exact ⟨x, n, t, rfl, h0, hx⟩
        · rw [if_neg h0] at hx; cases hx
      | false => rw [hb] at hx; cases hx
    · cases hx
  cases hx
  have hx1 : narrow .boolean (.int x) = .int x ∧ fits .boolean (.int x) = true := by
    rcases hx0 with rfl | rfl <;> exact ⟨rfl, rfl⟩
  obtain ⟨q0, h1, h2⟩ := zws_i G M (zvr_in hH.2.2.2.d.t (by omega)) (upd (M.1 ci n) k x)
  have he : (zws G M)[q0]? = some (zad G ci n, .inr (ci, zfs (zad G) (M.1 ci n) (M.2.1 ci n) n ci)) := by
    rw [h1, zcell, zce9 hz]
  have h3 : (zws G M).set q0 (zad G ci n, .inr (ci, (zfs (zad G) (M.1 ci n) (M.2.1 ci n) n ci).set k (.int x))) = zws G (zst M.1 ci n (upd (M.1 ci n) k x), M.2) := by
    rw [← h2, (hvs _ _ _ _ x).2, zce9 hz]
  refine va_put (v := .int x) (ty := .boolean) Γ.1 Γ.2.1 Γ.2.2.2.2.1 hin ty0 hty hnm Γ.2.2.2.1 Γ.2.2.2.2.2.1 hH.2.2.1.1 hH.2.2.1.2.1 hH.2.2.1.2.2.1 q0 he hc k hk (Γ.2.2.2.2.1 _ hl) (fun _ h9 => h9) hfin hpar hx1.1 hx1.2 (hvs _ _ _ _ x).1 hd (fun H1 locs1 hP hD hS => ?_)
  rw [h3] at hP hD
  exact kk H1 locs1 ls ⟨hH.1, hH.2.1, ⟨hP, hD, hS, hH.2.2.1.2.2.2.i (by omega)⟩, (hH.2.2.2).d.d⟩
theorem zs_putJ (Γ : zGa p s m args c cc nL own G A) {ci k idx N : Nat} {C : String} {T : u_T} (ty0 : Nat → FieldType) (hd : decode cc pc = .ok (.putfield idx, 3)) (hc : vwCl[ci]? = some (C, T, N)) (hin : ∀ w ∈ u_ws C T N, w ∈ zTs) (hty : ∀ k, k < N → parseFieldDescriptor (T k).2.2.1 = some (ty0 k)) (hnm : ∀ a, a < N → ∀ b, b < N → a ≠ b → (T a).2.1 ≠ (T b).2.1) (hk : k < N) (hl : Cond.fieldLink own idx (T k).1 (T k).2.1 (T k).2.2.1 ∈ zTs) (hfin : (T k).2.2.2 = false) (hpar : parseFieldDescriptor (T k).2.2.1 = some .long) (hz : zpr ci = 9) (hc9 : ci < 9) (hvs : ∀ (ad : Nat → Nat → Nat) (a : Nat → Int32) (b : Nat → Int64) (n : Nat) (x : Int64), k < (zfs ad a b n ci).length ∧ (zfs ad a b n ci).set k (.long x) = zfs ad a (vp_updL b k x) n ci) : zNx p l e R s m args below meth c cells slots G A nL pc (zputJ ci k) := by
  intro f pc' f' hx H locs ls Q hH kk
  obtain ⟨L, st, M⟩ := f
  obtain ⟨x, n, t, rfl, hx⟩ : ∃ x n t, st = zJ x :: zR ci n :: t ∧ some (Sum.inr (pc + 3, L, t, (M.1, zst M.2.1 ci n (vp_updL (M.2.1 ci n) k x), M.2.2))) = some (Sum.inr (pc', f')) := by
    unfold zputJ at hx
    dsimp only at hx
    split at hx
    · rename_i x c' n t
      dsimp only at hx
      cases hb : Nat.beq c' ci with
      | true => cases Nat.eq_of_beq_eq_true hb; exact ⟨x, n, t, rfl, by rw [hb] at hx; exact hx⟩
      | false => rw [hb] at hx; cases hx
    · cases hx
  cases hx
  obtain ⟨q0, h1, h2⟩ := zws_j G M (zvr_in hH.2.2.2.d.t (by omega)) (vp_updL (M.2.1 ci n) k x)
  have he : (zws G M)[q0]? = some (zad G ci n, .inr (ci, zfs (zad G) (M.1 ci n) (M.2.1 ci n) n ci)) := by
    rw [h1, zcell, zce9 hz]
  have h3 : (zws G M).set q0 (zad G ci n, .inr (ci, (zfs (zad G) (M.1 ci n) (M.2.1 ci n) n ci).set k (.long x))) = zws G (M.1, zst M.2.1 ci n (vp_updL (M.2.1 ci n) k x), M.2.2) := by
    rw [← h2, (hvs _ _ _ _ x).2, zce9 hz]
  refine va_put (v := .long x) (ty := .long) Γ.1 Γ.2.1 Γ.2.2.2.2.1 hin ty0 hty hnm Γ.2.2.2.1 Γ.2.2.2.2.2.1 hH.2.2.1.1 hH.2.2.1.2.1 hH.2.2.1.2.2.1 q0 he hc k hk (Γ.2.2.2.2.1 _ hl) (fun _ h9 => h9) hfin hpar rfl rfl (hvs _ _ _ _ x).1 hd (fun H1 locs1 hP hD hS => ?_)
  rw [h3] at hP hD
  exact kk H1 locs1 ls ⟨hH.1, hH.2.1, ⟨hP, hD, hS, hH.2.2.1.2.2.2⟩, (hH.2.2.2).d.d⟩
theorem zs_letters (Γ : zGa p s m args c cc nL own G A) {idx : Nat} (hd : decode cc pc = .ok (.getstatic idx, 3)) (hl : Cond.fieldLink own idx "FlippedBlinds" "LETTERS" "[I" ∈ zTs) : zNx p l e R s m args below meth c cells slots G A nL pc (zxc (zR 40 0) 3) := by
  intro f pc' f' hx H locs ls Q hH kk
  obtain ⟨L, st, M⟩ := f
  cases hx
  exact va_gets Γ.1 Γ.2.1 Γ.2.2.2.2.2.2.1.2.2.2.2.2.2 hH.2.2.1.2.2.1 Γ.2.2.2.1 (Γ.2.2.2.2.1 _ hl) (fun _ h9 => h9) hd (kk H locs ls ⟨hH.1, hH.2.1, hH.2.2.1, (hH.2.2.2).p (Or.inr (Or.inl rfl))⟩)
theorem zs_cald (Γ : zGa p s m args c cc nL own G A) (hd : decode cc pc = .ok (.caload, 1)) : zNx p l e R s m args below meth c cells slots G A nL pc zcald := by
  intro f pc' f' hx H locs ls Q hH kk
  obtain ⟨L, st, M⟩ := f
  obtain ⟨i, c, n, t, rfl, hz, hi, hx⟩ : ∃ i c n t, st = zI i :: zR c n :: t ∧ zpr c = 2 ∧ ¬ (i < 0 ∨ zlt c ≤ i.toNatClampNeg) ∧ (some (Sum.inr (pc + 1, L, zI (M.1 c n i.toNatClampNeg) :: t, M)) : zT) = some (Sum.inr (pc', f')) := by
    unfold zcald at hx
    dsimp only at hx
    split at hx
    · rename_i i c n t
      split at hx
      · rename_i hz
        split at hx
        · cases hx
        · rename_i hi; exact ⟨i, c, n, t, rfl, hz, hi, hx⟩
      · cases hx
    · cases hx
  cases hx
  obtain ⟨q0, h1, -⟩ := zws_at G M (zvr_in hH.2.2.2.d.t (zpr_lt (by omega)))
  rw [zcell, zce2 hz] at h1
  exact va_cald Γ.1 Γ.2.1 Γ.2.2.2.2.2.1 hH.2.2.1.1 q0 2 h1 rfl hi hd (kk H locs ls ⟨hH.1, hH.2.1, hH.2.2.1, (hH.2.2.2).d.d.p trivial⟩)
theorem zs_lald (Γ : zGa p s m args c cc nL own G A) (hd : decode cc pc = .ok (.laload, 1)) : zNx p l e R s m args below meth c cells slots G A nL pc zlald := by
  intro f pc' f' hx H locs ls Q hH kk
  obtain ⟨L, st, M⟩ := f
  obtain ⟨i, c, n, t, rfl, hz, hi, hx⟩ : ∃ i c n t, st = zI i :: zR c n :: t ∧ zpr c = 1 ∧ ¬ (i < 0 ∨ zlt c ≤ i.toNatClampNeg) ∧ (some (Sum.inr (pc + 1, L, zJ (M.2.1 c n i.toNatClampNeg) :: t, M)) : zT) = some (Sum.inr (pc', f')) := by
    unfold zlald at hx
    dsimp only at hx
    split at hx
    · rename_i i c n t
      split at hx
      · rename_i hz
        split at hx
        · cases hx
        · rename_i hi; exact ⟨i, c, n, t, rfl, hz, hi, hx⟩
      · cases hx
    · cases hx
  cases hx
  obtain ⟨q0, h1, -⟩ := zws_at G M (zvr_in hH.2.2.2.d.t (zpr_lt (by omega)))
  rw [zcell, zce1 hz] at h1
  exact va_lald Γ.1 Γ.2.1 Γ.2.2.2.2.2.1 hH.2.2.1.1 q0 1 h1 rfl hi hd (kk H locs ls ⟨hH.1, hH.2.1, hH.2.2.1, (hH.2.2.2).d.d.p trivial⟩)
theorem zs_aald (Γ : zGa p s m args c cc nL own G A) (hd : decode cc pc = .ok (.aaload, 1)) : zNx p l e R s m args below meth c cells slots G A nL pc zaald := by
  intro f pc' f' hx H locs ls Q hH kk
  obtain ⟨L, st, M⟩ := f
  obtain ⟨i, c, n, t, rfl, hz, hi, hx⟩ : ∃ i c n t, st = zI i :: zR c n :: t ∧ zpr c = 3 ∧ ¬ (i < 0 ∨ zlt c ≤ i.toNatClampNeg) ∧ (some (Sum.inr (pc + 1, L, .inr (.inr ((M.2.2 i.toNatClampNeg).map (fun q => (4, q)))) :: t, M)) : zT) = some (Sum.inr (pc', f')) := by
    unfold zaald at hx
    dsimp only at hx
    split at hx
    · rename_i i c n t
      split at hx
      · rename_i hz
        split at hx
        · cases hx
        · rename_i hi; exact ⟨i, c, n, t, rfl, hz, hi, hx⟩
      · cases hx
    · cases hx
  cases hx
  obtain ⟨q0, h1, -⟩ := zws_at G M (zvr_in hH.2.2.2.d.t (zpr_lt (by omega)))
  rw [zcell, zce3 hz] at h1
  have hok : zvr G (.inr (.inr ((M.2.2 i.toNatClampNeg).map (fun q => (4, q))))) := by
    cases hq : M.2.2 i.toNatClampNeg with
    | none => exact trivial
    | some q => exact Or.inl (hH.2.2.1.2.2.2.2.2.2.2.1 _ _ hq)
  have k2 := kk H locs ls ⟨hH.1, hH.2.1, hH.2.2.1, (hH.2.2.2).d.d.p hok⟩
  refine va_aldq Γ.1 Γ.2.1 Γ.2.2.2.2.2.1 hH.2.2.1.1 q0 3 h1 rfl hi hd ?_
  have he : va_rf ((M.2.2 i.toNatClampNeg).map (fun q => zad G 4 q)) = zc G (.inr (.inr ((M.2.2 i.toNatClampNeg).map (fun q => (4, q))))) := by
    cases M.2.2 i.toNatClampNeg <;> rfl
  rw [he]
  exact k2
theorem zs_iald (Γ : zGa p s m args c cc nL own G A) (hd : decode cc pc = .ok (.iaload, 1)) : zNx p l e R s m args below meth c cells slots G A nL pc ziald := by
  intro f pc' f' hx H locs ls Q hH kk
  obtain ⟨L, st, M⟩ := f
  obtain ⟨i, c, n, t, rfl, hz, hx⟩ : ∃ i c n t, st = zI i :: zR c n :: t ∧ ((zpr c = 0 ∧ ¬ (i < 0 ∨ zlt c ≤ i.toNatClampNeg)) ∨ (zpr c = 4 ∧ ¬ (i < 0 ∨ 17 ≤ i.toNatClampNeg)) ∨ (zpr c = 5 ∧ ¬ (i < 0 ∨ (M.1 42 0 0).toNatClampNeg ≤ i.toNatClampNeg))) ∧ (some (Sum.inr (pc + 1, L, zI (M.1 c n i.toNatClampNeg) :: t, M)) : zT) = some (Sum.inr (pc', f')) := by
    unfold ziald at hx
    dsimp only at hx
    split at hx
    · rename_i i c n t
      split at hx
      · rename_i hz
        split at hx
        · cases hx
        · rename_i hi; exact ⟨i, c, n, t, rfl, Or.inl ⟨hz, hi⟩, hx⟩
      · rename_i hz
        split at hx
        · cases hx
        · rename_i hi; exact ⟨i, c, n, t, rfl, Or.inr (Or.inl ⟨hz, hi⟩), hx⟩
      · rename_i hz
        split at hx
        · cases hx
        · rename_i hi; exact ⟨i, c, n, t, rfl, Or.inr (Or.inr ⟨hz, hi⟩), hx⟩
      · cases hx
    · cases hx
  cases hx
  have k2 := kk H locs ls ⟨hH.1, hH.2.1, hH.2.2.1, (hH.2.2.2).d.d.p (v := zI (M.1 c n i.toNatClampNeg)) trivial⟩
  rcases hz with ⟨hz, hi⟩ | ⟨hz, hi⟩ | ⟨hz, hi⟩
  · obtain ⟨q0, h1, -⟩ := zws_at G M (zvr_in hH.2.2.2.d.t (zpr_lt (by omega)))
    rw [zcell, zce0 hz] at h1
    exact va_iald Γ.1 Γ.2.1 Γ.2.2.2.2.2.1 hH.2.2.1.1 q0 0 h1 rfl hi hd k2
  · have hc : c = 40 := by unfold zpr at hz; split at hz <;> first | rfl | cases hz
    subst hc
    have hn : n = 0 := by
      rcases hH.2.2.2.d.t with h | h | h
      · exact absurd h (Nat.not_lt_zero _)
      · cases h; rfl
      · cases h
    subst hn
    have hlt : i.toNatClampNeg < 17 := Nat.not_le.mp fun q => hi (Or.inr q)
    rw [hH.2.2.1.2.2.2.1 _ hlt] at k2
    obtain ⟨scr, h1, h2, h3, h4, h5⟩ := Γ.2.2.2.2.2.2.1.1
    exact W.iald (v := .int (zlet i.toNatClampNeg)) Γ.1 Γ.2.1 (by rw [hH.2.2.1.2.2.1.2.1 _ Γ.2.2.2.2.2.2.1.2.1 Γ.2.2.2.2.2.2.1.2.2.1]; exact h1) h2 h3 (fun q => hi (q.imp id (fun z => Nat.le_trans h4 z))) (h5 _ hlt) rfl rfl hd k2
  · have hc : c = 41 := by unfold zpr at hz; split at hz <;> first | rfl | cases hz
    subst hc
    have hn : n = 0 := by
      rcases hH.2.2.2.d.t with h | h | h
      · exact absurd h (Nat.not_lt_zero _)
      · cases h
      · cases h; rfl
    subst hn
    rw [hH.2.2.1.2.2.2.2.2.1, show (Int32.ofNat (zLn G)).toNatClampNeg = zLn G from nI_clamp hH.2.2.1.2.2.2.2.2.2.1] at hi
    have hlt : i.toNatClampNeg < zLn G := Nat.not_le.mp fun q => hi (Or.inr q)
    rw [hH.2.2.1.2.2.2.2.1 _ hlt] at k2
    exact va_sld Γ.1 Γ.2.1 Γ.2.2.2.2.2.2.1.2.2.2.1 Γ.2.2.2.2.2.2.1.2.2.2.2.1 Γ.2.2.2.2.2.2.1.2.2.2.2.2.1 hH.2.2.1.2.2.1 hi hd k2
theorem zs_iast (Γ : zGa p s m args c cc nL own G A) (hd : decode cc pc = .ok (.iastore, 1)) : zNx p l e R s m args below meth c cells slots G A nL pc ziast := by
  intro f pc' f' hx H locs ls Q hH kk
  obtain ⟨L, st, M⟩ := f
  obtain ⟨x, i, c, n, t, rfl, hz, hi, hx⟩ : ∃ x i c n t, st = zI x :: zI i :: zR c n :: t ∧ zpr c = 0 ∧ ¬ (i < 0 ∨ zlt c ≤ i.toNatClampNeg) ∧ (some (Sum.inr (pc + 1, L, t, (zst M.1 c n (upd (M.1 c n) i.toNatClampNeg x), M.2))) : zT) = some (Sum.inr (pc', f')) := by
    unfold ziast at hx
    dsimp only at hx
    split at hx
    · rename_i x i c n t
      split at hx
      · rename_i hz
        split at hx
        · cases hx
        · rename_i hi; exact ⟨x, i, c, n, t, rfl, hz, hi, hx⟩
      · cases hx
    · cases hx
  cases hx
  have hm := zvr_in hH.2.2.2.d.d.t (zpr_lt (by omega))
  obtain ⟨q0, h1, h2⟩ := zws_i G M hm (upd (M.1 c n) i.toNatClampNeg x)
  rw [zcell, zce0 hz] at h1
  rw [zce0 hz] at h2
  refine va_iast Γ.1 Γ.2.1 Γ.2.2.2.2.2.1 hH.2.2.1.1 hH.2.2.1.2.1 hH.2.2.1.2.2.1 q0 0 h1 rfl hi hd (fun H1 locs1 hP hD hS => ?_)
  rw [h2] at hP hD
  exact kk H1 locs1 ls ⟨hH.1, hH.2.1, ⟨hP, hD, hS, hH.2.2.1.2.2.2.i (zpr_lt (by omega))⟩, (hH.2.2.2).d.d.d⟩
theorem zs_cast (Γ : zGa p s m args c cc nL own G A) (hd : decode cc pc = .ok (.castore, 1)) : zNx p l e R s m args below meth c cells slots G A nL pc zcast := by
  intro f pc' f' hx H locs ls Q hH kk
  obtain ⟨L, st, M⟩ := f
  obtain ⟨x, i, c, n, t, rfl, hz, hi, hx⟩ : ∃ x i c n t, st = zI x :: zI i :: zR c n :: t ∧ zpr c = 2 ∧ ¬ (i < 0 ∨ zlt c ≤ i.toNatClampNeg) ∧ (some (Sum.inr (pc + 1, L, t, (zst M.1 c n (upd (M.1 c n) i.toNatClampNeg (vp_nar .char x)), M.2))) : zT) = some (Sum.inr (pc', f')) := by
    unfold zcast at hx
    dsimp only at hx
    split at hx
    · rename_i x i c n t
      split at hx
      · rename_i hz
        split at hx
        · cases hx
        · rename_i hi; exact ⟨x, i, c, n, t, rfl, hz, hi, hx⟩
      · cases hx
    · cases hx
  cases hx
  have hm := zvr_in hH.2.2.2.d.d.t (zpr_lt (by omega))
  obtain ⟨q0, h1, h2⟩ := zws_i G M hm (upd (M.1 c n) i.toNatClampNeg (vp_nar .char x))
  rw [zcell, zce2 hz] at h1
  rw [zce2 hz] at h2
  refine va_cast Γ.1 Γ.2.1 Γ.2.2.2.2.2.1 hH.2.2.1.1 hH.2.2.1.2.1 hH.2.2.1.2.2.1 q0 2 h1 rfl hi hd (fun H1 locs1 hP hD hS => ?_)
  rw [h2] at hP hD
  exact kk H1 locs1 ls ⟨hH.1, hH.2.1, ⟨hP, hD, hS, hH.2.2.1.2.2.2.i (zpr_lt (by omega))⟩, (hH.2.2.2).d.d.d⟩
theorem zs_last (Γ : zGa p s m args c cc nL own G A) (hd : decode cc pc = .ok (.lastore, 1)) : zNx p l e R s m args below meth c cells slots G A nL pc zlast := by
  intro f pc' f' hx H locs ls Q hH kk
  obtain ⟨L, st, M⟩ := f
  obtain ⟨x, i, c, n, t, rfl, hz, hi, hx⟩ : ∃ x i c n t, st = zJ x :: zI i :: zR c n :: t ∧ zpr c = 1 ∧ ¬ (i < 0 ∨ zlt c ≤ i.toNatClampNeg) ∧ (some (Sum.inr (pc + 1, L, t, (M.1, zst M.2.1 c n (vp_updL (M.2.1 c n) i.toNatClampNeg x), M.2.2))) : zT) = some (Sum.inr (pc', f')) := by
    unfold zlast at hx
    dsimp only at hx
    split at hx
    · rename_i x i c n t
      split at hx
      · rename_i hz
        split at hx
        · cases hx
        · rename_i hi; exact ⟨x, i, c, n, t, rfl, hz, hi, hx⟩
      · cases hx
    · cases hx
  cases hx
  have hm := zvr_in hH.2.2.2.d.d.t (zpr_lt (by omega))
  obtain ⟨q0, h1, h2⟩ := zws_j G M hm (vp_updL (M.2.1 c n) i.toNatClampNeg x)
  rw [zcell, zce1 hz] at h1
  rw [zce1 hz] at h2
  refine va_last Γ.1 Γ.2.1 Γ.2.2.2.2.2.1 hH.2.2.1.1 hH.2.2.1.2.1 hH.2.2.1.2.2.1 q0 1 h1 rfl hi hd (fun H1 locs1 hP hD hS => ?_)
  rw [h2] at hP hD
  exact kk H1 locs1 ls ⟨hH.1, hH.2.1, ⟨hP, hD, hS, hH.2.2.1.2.2.2⟩, (hH.2.2.2).d.d.d⟩
theorem zs_aast (Γ : zGa p s m args c cc nL own G A) (hd : decode cc pc = .ok (.aastore, 1)) : zNx p l e R s m args below meth c cells slots G A nL pc zaast := by
  intro f pc' f' hx H locs ls Q hH kk
  obtain ⟨L, st, M⟩ := f
  obtain ⟨x, i, c, n, t, rfl, hz, hi, hx⟩ : ∃ x i c n t, st = zR 4 x :: zI i :: zR c n :: t ∧ zpr c = 3 ∧ ¬ (i < 0 ∨ zlt c ≤ i.toNatClampNeg) ∧ (some (Sum.inr (pc + 1, L, t, (M.1, M.2.1, va_up M.2.2 i.toNatClampNeg (some x)))) : zT) = some (Sum.inr (pc', f')) := by
    unfold zaast at hx
    dsimp only at hx
    split at hx
    · rename_i x i c n t
      split at hx
      · rename_i hz
        split at hx
        · cases hx
        · rename_i hi; exact ⟨x, i, c, n, t, rfl, hz, hi, hx⟩
      · cases hx
    · cases hx
  cases hx
  have hm := zvr_in hH.2.2.2.d.d.t (zpr_lt (by omega))
  have hc := zpr3 hz
  subst hc
  have hn : n = 0 := Nat.lt_one_iff.mp (zobjs_mem.mp hm)
  subst hn
  have hx4 := zvr_in hH.2.2.2.t (by omega)
  obtain ⟨q0, h1, h2⟩ := zws_r G M (va_up M.2.2 i.toNatClampNeg (some x))
  rw [zcell, zce3 hz] at h1
  rw [zce3 hz] at h2
  obtain ⟨qk, h3, -⟩ := zws_at G M hx4
  rw [zcell, zce9 rfl] at h3
  have hf : (fun j => (va_up M.2.2 i.toNatClampNeg (some x) j).map (fun q => zad G 4 q)) = va_up (fun j => (M.2.2 j).map (fun q => zad G 4 q)) i.toNatClampNeg (some (zad G 4 x)) := by
    funext j
    by_cases hj : j = i.toNatClampNeg
    · subst hj; simp [va_up]
    · simp [va_up, hj]
  rw [hf] at h2
  refine va_astq (r := (RX4, TX4, 8)) Γ.1 Γ.2.1 Γ.2.2.2.2.2.1 hH.2.2.1.1 hH.2.2.1.2.1 hH.2.2.1.2.2.1 q0 3 qk 4 h1 rfl h3 rfl hi hd (fun H1 locs1 hP hD hS => ?_)
  rw [h2] at hP hD
  have hmo := hH.2.2.1.2.2.2
  refine kk H1 locs1 ls ⟨hH.1, hH.2.1, ⟨hP, hD, hS, hmo.1, hmo.2.1, hmo.2.2.1, hmo.2.2.2.1, fun j q hq => ?_, hmo.2.2.2.2.2⟩, (hH.2.2.2).d.d.d⟩
  have hq : va_up M.2.2 i.toNatClampNeg (some x) j = some q := hq
  by_cases hj : j = i.toNatClampNeg
  · subst hj
    rw [va_up_self] at hq
    cases hq
    exact zobjs_mem.mp hx4
  · rw [va_up_ne _ _ hj] at hq
    exact hmo.2.2.2.2.1 j q hq
end ZS2
