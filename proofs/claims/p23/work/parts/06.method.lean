-- ===== lengths, copies, calls, answers, and a method whole =====
section ZS3
variable {p : Program} {l : Launch} {e : Env} {R : Room} {s : State} {m : MethodId} {args : Array Value} {below : List Frame} {meth : Method} {c : Code} {cells slots : Nat} {cc : ByteArray} {nL : Nat} {own : String} {G : zG} {A : Nat → Prop} {pc : Nat}
theorem zs_alen (Γ : zGa p s m args c cc nL own G A) (hd : decode cc pc = .ok (.arraylength, 1)) : zNx p l e R s m args below meth c cells slots G A nL pc zalen := by
  intro f pc' f' hx H locs ls Q hH kk
  obtain ⟨L, st, M⟩ := f
  obtain ⟨c, n, t, rfl, hx2⟩ : ∃ c n t, st = zR c n :: t ∧ ((zpr c = 5 ∧ (some (Sum.inr (pc + 1, L, zI (M.1 42 0 0) :: t, M)) : zT) = some (Sum.inr (pc', f'))) ∨ (zpr c ≠ 9 ∧ zpr c ≠ 4 ∧ zpr c ≠ 5 ∧ (some (Sum.inr (pc + 1, L, zI (Int32.ofNat (zlt c)) :: t, M)) : zT) = some (Sum.inr (pc', f')))) := by
    unfold zalen at hx
    dsimp only at hx
    split at hx
    · rename_i c n t
      split at hx
      · cases hx
      · cases hx
      · rename_i h5; exact ⟨c, n, t, rfl, Or.inl ⟨h5, hx⟩⟩
      · rename_i h9 h4 h5; exact ⟨c, n, t, rfl, Or.inr ⟨h9, h4, h5, hx⟩⟩
    · cases hx
  rcases hx2 with ⟨hz, hx⟩ | ⟨h9, h4, h5, hx⟩
  · cases hx
    have k2 := kk H locs ls ⟨hH.1, hH.2.1, hH.2.2.1, (hH.2.2.2).d.p (v := zI (M.1 42 0 0)) trivial⟩
    have hc : c = 41 := by unfold zpr at hz; split at hz <;> first | rfl | cases hz
    subst hc
    have hn : n = 0 := by
      rcases hH.2.2.2.t with h | h | h
      · exact absurd h (Nat.not_lt_zero _)
      · cases h
      · cases h; rfl
    subst hn
    rw [hH.2.2.1.2.2.2.2.2.1] at k2
    exact va_slen Γ.1 Γ.2.1 Γ.2.2.2.2.2.2.1.2.2.2.1 Γ.2.2.2.2.2.2.1.2.2.2.2.1 Γ.2.2.2.2.2.2.1.2.2.2.2.2.1 hH.2.2.1.2.2.1 hd k2
  · cases hx
    have k2 := kk H locs ls ⟨hH.1, hH.2.1, hH.2.2.1, (hH.2.2.2).d.p (v := zI (Int32.ofNat (zlt c))) trivial⟩
    have hlt : zpr c < 4 := by
      unfold zpr at h9 h4 h5 ⊢
      split <;> simp_all
    obtain ⟨q0, h1, -⟩ := zws_at G M (zvr_in hH.2.2.2.t (zpr_lt hlt))
    rw [zcell] at h1
    have h03 : zpr c = 0 ∨ zpr c = 1 ∨ zpr c = 2 ∨ zpr c = 3 := by omega
    rcases h03 with hz | hz | hz | hz
    · rw [zce0 hz] at h1
      exact va_alen Γ.1 Γ.2.1 Γ.2.2.2.2.2.1 hH.2.2.1.1 q0 0 h1 rfl rfl hd k2
    · rw [zce1 hz] at h1
      exact va_alen Γ.1 Γ.2.1 Γ.2.2.2.2.2.1 hH.2.2.1.1 q0 1 h1 rfl rfl hd k2
    · rw [zce2 hz] at h1
      exact va_alen Γ.1 Γ.2.1 Γ.2.2.2.2.2.1 hH.2.2.1.1 q0 2 h1 rfl rfl hd k2
    · rw [zce3 hz] at h1
      exact va_alen Γ.1 Γ.2.1 Γ.2.2.2.2.2.1 hH.2.2.1.1 q0 3 h1 rfl rfl hd k2
theorem zs_min (Γ : zGa p s m args c cc nL own G A) {idx : Nat} (hd : decode cc pc = .ok (.invokestatic idx, 3)) (h1 : Cond.methodLink own idx Lib.Math.min.name ∈ zTs) (h2 : Cond.static Lib.Math.min.name ∈ zTs) (h3 : Cond.initialized "java/lang/Math" ∈ zTs) (h4 : Cond.code Lib.Math.min.name Lib.Math.min.code 2 (some .int) ∈ zTs) (hR : 1 ≤ R.frames ∧ 30 ≤ R.locals) (hc : cells ≤ R.cells ∧ slots ≤ R.slots) : zNx p l e R s m args below meth c cells slots G A nL pc zmin := by
  intro f pc' f' hx H locs ls Q hH kk
  obtain ⟨L, st, M⟩ := f
  obtain ⟨y, x, t, rfl, hb, hx⟩ : ∃ y x t, st = zI y :: zI x :: t ∧ zcats t ≤ 8 ∧ (some (Sum.inr (pc + 3, L, zI (if y < x then y else x) :: t, M)) : zT) = some (Sum.inr (pc', f')) := by
    unfold zmin at hx
    dsimp only at hx
    split at hx
    · rename_i y x t
      split at hx
      · rename_i hb; exact ⟨y, x, t, rfl, Nat.le_of_ble_eq_true hb, hx⟩
      · cases hx
    · cases hx
  cases hx
  have hs := zc_cats G t
  refine va_mmin (ls := ls) Γ.1 Γ.2.1 (by rw [Γ.2.2.1, hH.1.1]) Γ.2.2.2.1 (Γ.2.2.2.2.1 _ h1) (Γ.2.2.2.2.1 _ h2) (Γ.2.2.2.2.1 _ h3) (Γ.2.2.2.2.1 _ h4) hR.1 ?_ hc.1 hc.2 hd (kk H locs ls ⟨hH.1, hH.2.1, hH.2.2.1, (hH.2.2.2).d.d.p trivial⟩)
  show ((t.map (zc G)).map fun v => v.category).sum + 13 ≤ _
  omega
theorem zs_copy (Γ : zGa p s m args c cc nL own G A) {idx : Nat} (hd : decode cc pc = .ok (.invokestatic idx, 3)) (h1 : Cond.methodLink own idx arraycopyName ∈ zTs) (h2 : Cond.native arraycopyName ∈ zTs) (h3 : Cond.static arraycopyName ∈ zTs) (h4 : Cond.initialized "java/lang/System" ∈ zTs) (hR : 1 ≤ R.frames ∧ 8 + (nativeFrameWords "java/lang/System" "arraycopy" 5 + 11) ≤ R.locals) : zNx p l e R s m args below meth c cells slots G A nL pc zcopy := by
  intro f pc' f' hx H locs ls Q hH kk
  obtain ⟨L, st, M⟩ := f
  obtain ⟨n, dp, c1, n1, sp, c0, n0, t, rfl, hb, hi, hx2⟩ : ∃ n dp c1 n1 sp c0 n0 t, st = zI n :: zI dp :: zR c1 n1 :: zI sp :: zR c0 n0 :: t ∧ zcats t ≤ 8 ∧ ¬ (n < 0 ∨ dp < 0 ∨ sp < 0 ∨ zlt c0 < sp.toNatClampNeg + n.toNatClampNeg ∨ zlt c1 < dp.toNatClampNeg + n.toNatClampNeg) ∧
      ((zpr c0 = 0 ∧ zpr c1 = 0 ∧ (some (Sum.inr (pc + 3, L, t, (zst M.1 c1 n1 (va_cpy (M.1 c0 n0) (M.1 c1 n1) sp.toNatClampNeg dp.toNatClampNeg n.toNatClampNeg), M.2))) : zT) = some (Sum.inr (pc', f'))) ∨
      (zpr c0 = 1 ∧ zpr c1 = 1 ∧ (some (Sum.inr (pc + 3, L, t, (M.1, zst M.2.1 c1 n1 (va_cpy (M.2.1 c0 n0) (M.2.1 c1 n1) sp.toNatClampNeg dp.toNatClampNeg n.toNatClampNeg), M.2.2))) : zT) = some (Sum.inr (pc', f')))) := by
    unfold zcopy at hx
    dsimp only at hx
    split at hx
    · rename_i n dp c1 n1 sp c0 n0 t
      split at hx
      · rename_i hb
        split at hx
        · cases hx
        · rename_i hi
          split at hx
          · rename_i ha hb2; exact ⟨n, dp, c1, n1, sp, c0, n0, t, rfl, Nat.le_of_ble_eq_true hb, hi, Or.inl ⟨ha, hb2, hx⟩⟩
          · rename_i ha hb2; exact ⟨n, dp, c1, n1, sp, c0, n0, t, rfl, Nat.le_of_ble_eq_true hb, hi, Or.inr ⟨ha, hb2, hx⟩⟩
          · cases hx
      · cases hx
    · cases hx
  have hs := zc_cats G t
  have hs2 : ((t.map (zc G)).map fun v => v.category).sum + (nativeFrameWords "java/lang/System" "arraycopy" 5 + 11) ≤ R.locals := by omega
  have b1 : ¬ n < 0 := fun q => hi (Or.inl q)
  have b2 : ¬ dp < 0 := fun q => hi (Or.inr (Or.inl q))
  have b3 : ¬ sp < 0 := fun q => hi (Or.inr (Or.inr (Or.inl q)))
  have b4 : sp.toNatClampNeg + n.toNatClampNeg ≤ zlt c0 := Nat.not_lt.mp fun q => hi (Or.inr (Or.inr (Or.inr (Or.inl q))))
  have b5 : dp.toNatClampNeg + n.toNatClampNeg ≤ zlt c1 := Nat.not_lt.mp fun q => hi (Or.inr (Or.inr (Or.inr (Or.inr q))))
  rcases hx2 with ⟨z0, z1, hx⟩ | ⟨z0, z1, hx⟩
  · cases hx
    obtain ⟨q0, g1, -⟩ := zws_at G M (zvr_in hH.2.2.2.d.d.d.d.t (zpr_lt (by omega)))
    obtain ⟨q1, g2, g3⟩ := zws_i G M (zvr_in hH.2.2.2.d.d.t (zpr_lt (by omega))) (va_cpy (M.1 c0 n0) (M.1 c1 n1) sp.toNatClampNeg dp.toNatClampNeg n.toNatClampNeg)
    rw [zcell, zce0 z0] at g1
    rw [zcell, zce0 z1] at g2
    rw [zce0 z1] at g3
    refine va_copyi (ls := ls) Γ.1 Γ.2.1 (by rw [Γ.2.2.1, hH.1.1]) Γ.2.2.2.1 (Γ.2.2.2.2.1 _ h1) (Γ.2.2.2.2.1 _ h2) (Γ.2.2.2.2.1 _ h3) (Γ.2.2.2.2.1 _ h4) Γ.2.2.2.2.2.1 hH.2.2.1.1 hH.2.2.1.2.1 hH.2.2.1.2.2.1 q0 q1 0 0 g1 g2 rfl rfl rfl b3 b2 b1 b4 b5 (fun _ _ => rfl) hR.1 hs2 hd (fun H1 locs1 hP hD hS => ?_)
    rw [g3] at hP hD
    exact kk H1 locs1 ls ⟨hH.1, hH.2.1, ⟨hP, hD, hS, hH.2.2.1.2.2.2.i (zpr_lt (by omega))⟩, (hH.2.2.2).d.d.d.d.d⟩
  · cases hx
    obtain ⟨q0, g1, -⟩ := zws_at G M (zvr_in hH.2.2.2.d.d.d.d.t (zpr_lt (by omega)))
    obtain ⟨q1, g2, g3⟩ := zws_j G M (zvr_in hH.2.2.2.d.d.t (zpr_lt (by omega))) (va_cpy (M.2.1 c0 n0) (M.2.1 c1 n1) sp.toNatClampNeg dp.toNatClampNeg n.toNatClampNeg)
    rw [zcell, zce1 z0] at g1
    rw [zcell, zce1 z1] at g2
    rw [zce1 z1] at g3
    refine va_copyl (ls := ls) Γ.1 Γ.2.1 (by rw [Γ.2.2.1, hH.1.1]) Γ.2.2.2.1 (Γ.2.2.2.2.1 _ h1) (Γ.2.2.2.2.1 _ h2) (Γ.2.2.2.2.1 _ h3) (Γ.2.2.2.2.1 _ h4) Γ.2.2.2.2.2.1 hH.2.2.1.1 hH.2.2.1.2.1 hH.2.2.1.2.2.1 q0 q1 1 1 g1 g2 rfl rfl rfl b3 b2 b1 b4 b5 (fun _ _ => rfl) hR.1 hs2 hd (fun H1 locs1 hP hD hS => ?_)
    rw [g3] at hP hD
    exact kk H1 locs1 ls ⟨hH.1, hH.2.1, ⟨hP, hD, hS, hH.2.2.1.2.2.2⟩, (hH.2.2.2).d.d.d.d.d⟩
/-- behind a call -/
theorem zrun_call {r : zQ} {a : Array Value} {rest st0 : List Value} {ls : Array Slot} {H : Heap} {locs : List Loc} {Q : State → Prop} {mc ms : Nat} (hr : va_Run p l e R s m args below meth c H locs cells slots mc ms (F0 m pc ls st0) rest (zQc G r a) (zA G)) (hS : va_S A s.heap H locs) (hA : ∀ q, zA G q → A q)
    (kk : ∀ (H1 : Heap) (locs1 : List Loc), va_P G.1 vwCl (zws G r.2) H1 → zmo G r.2 → (∀ v, r.1 = some v → zvr G v) → va_S A s.heap H1 locs1 → W p l e R s m args below meth c H1 locs1 (cells + mc) (slots + ms) Q (F0 m (pc + 3) ls ((r.1.map (zc G)).toList ++ rest))) : W p l e R s m args below meth c H locs cells slots Q (F0 m pc ls st0) := by
  intro T hT X
  obtain ⟨v, st₀, t, T', L, h0, X', hL, e1, e2, ⟨hv, hP, hmo, hrv, hz, hk⟩, st⟩ := hr T hT X
  cases hv
  rw [h0] at hz hk
  obtain ⟨t2, a1, b1⟩ := kk T'.heap (locs ++ L) (by rw [e1]; exact hP) hmo hrv
    ⟨Nat.le_trans hS.1 (by rw [e1]; exact hz), fun q h1 h2 => by rw [e1, hk q (Nat.lt_of_lt_of_le h1 hS.1) (fun z => h2 (hA q z))]; exact hS.2.1 q h1 h2, fun q hq => by
      rcases List.mem_append.mp hq with h | h
      · exact hS.2.2 q h
      · exact hA _ (hL q h)⟩ T' rfl X'
  exact ⟨t2, st t2 a1, b1⟩
theorem zPc_blind {G : zG} {a : List zV} {M : zM} : FrameBlind (zPc G a M) := fun av U g mk q => ⟨q.1, q.2.1, q.2.2.1, va_K.moved (u := U) (U := U.calling g mk av) (Vm.Alike.refl U.vm) q.2.2.2.1, zro.m (s := U) (Vm.Alike.refl U.vm) (fun _ _ _ => rfl) (Nat.le_refl _) q.2.2.2.2.1, q.2.2.2.2.2.1, q.2.2.2.2.2.2.1, fun w hw => va_Nw.same (u := U) (U := U.calling g mk av) rfl rfl (q.2.2.2.2.2.2.2 w hw)⟩
theorem zws_D {G : zG} {A B : Nat → Prop} {M M' : zM} (h : va_D A (zws G M)) (hB : ∀ q, zA G q → B q) : va_D B (zws G M') := by
  have at' : ∀ (N : zM) (k : Nat) (q : Nat × va_E), (zws G N)[k]? = some q → ∃ z : Nat × Nat, (zobjs (zsi G))[k]? = some z ∧ q.1 = zad G z.1 z.2 := by
    intro N k q hk
    rw [zws, List.getElem?_map] at hk
    cases hz : (zobjs (zsi G))[k]? with
    | none => rw [hz] at hk; cases hk
    | some z => rw [hz] at hk; cases hk; exact ⟨z, rfl, rfl⟩
  refine ⟨fun i j x y hx hy hxy => ?_, fun k q hq => ?_⟩
  · obtain ⟨z, z1, z2⟩ := at' M' i x hx
    obtain ⟨u, u1, u2⟩ := at' M' j y hy
    refine h.1 i j (zad G z.1 z.2, zcell G M z.1 z.2) (zad G u.1 u.2, zcell G M u.1 u.2) ?_ ?_ (by rw [← z2, ← u2, hxy])
    · rw [zws, List.getElem?_map, z1]; rfl
    · rw [zws, List.getElem?_map, u1]; rfl
  · obtain ⟨z, z1, z2⟩ := at' M' k q hq
    exact hB _ ⟨z.1, z.2, zobjs_mem.mp (List.mem_of_getElem? z1), z2⟩
abbrev zwsy (y : MethodName) (bytes : ByteArray) (maxL : Nat) (ret : Option FieldType) : List Cond := .code y bytes maxL ret :: zTs
/-- what a method promises: its small machine's answer -/
def zMet (l : Launch) (G : zG) (y : MethodName) (bytes : ByteArray) (maxL : Nat) (ret : Option FieldType) (rm : Room) (g : List zV → zM → Option zQ) : Prop :=
  ∀ (a : List zV) (M : zM) (r : zQ), g a M = some r → Met l y (zwsy y bytes maxL ret) rm (zPc G a M) (zQc G r) rm.cells rm.slots (zA G)
theorem zgoodV {own C : String} {idx maxL : Nat} {y : MethodName} {bytes : ByteArray} {ret : Option FieldType} (h1 : Cond.methodLink own idx y ∈ zTs) (h2 : Cond.instanceMethod y ∈ zTs) (h3 : Cond.selects C y y ∈ zTs) (h4 : Cond.initialized C ∈ zTs) (h5 : Cond.code y bytes maxL ret ∈ zTs) : GoodIn zTs (wsV own idx C y (zwsy y bytes maxL ret)) := by
  intro w hw
  have : w ∈ zTs := by
    simp only [wsV, zwsy, List.mem_append, List.mem_cons, List.not_mem_nil, or_false] at hw
    rcases hw with (rfl | rfl | rfl | rfl) | rfl | hw
    · exact h1
    · exact h2
    · exact h3
    · exact h4
    · exact h5
    · exact hw
  exact ⟨this, zTs_good w this⟩
theorem zs_start (Γ : zGa p s m args c cc nL own G A) {f : zF} {H : Heap} {locs : List Loc} {ls : Array Slot} (hH : zHo s G A nL f H locs ls) {U : State} (hU : U.heap = H) (hW : s.WarmedH U.vm) {a : List zV} (ha : ∀ v ∈ a, zvr G v) : zPc G a f.2.2 (a.map (zc G)).toArray U := by
  have hS := hH.2.2.1.2.2.1
  refine ⟨rfl, by rw [hU]; exact hH.2.2.1.1, zws_D hH.2.2.1.2.1 (fun q h => h), va_K.moved hW.alike Γ.2.2.2.2.2.1, ?_, hH.2.2.1.2.2.2, ha, fun w hw => va_Nw.warmM hW (Γ.2.2.2.2.2.2.2.2 w hw)⟩
  rw [hU]
  exact (Γ.2.2.2.2.2.2.1.m (U := U) (H' := H) hW.alike hS.2.1 hS.1).z Γ.2.2.2.2.2.2.2.1
theorem zs_after (Γ : zGa p s m args c cc nL own G A) {f f' : zF} {t : List zV} {r : zQ} {pc' : Nat} {H : Heap} {locs : List Loc} {ls : Array Slot} {Q : State → Prop} (hH : zHo s G A nL f H locs ls) (hx : (some (Sum.inr (pc + 3, f.1, zpush r.1 t, r.2)) : zT) = some (Sum.inr (pc', f'))) (ht : ∀ v ∈ t, v ∈ f.2.1)
    (kk : ∀ (H' : Heap) (locs' : List Loc) (ls' : Array Slot), zHo s G A nL f' H' locs' ls' → W p l e R s m args below meth c H' locs' cells slots Q (F0 m pc' ls' (f'.2.1.map (zc G))))
    {H1 : Heap} {locs1 : List Loc} (hP1 : va_P G.1 vwCl (zws G r.2) H1) (hmo1 : zmo G r.2) (hrv : ∀ v, r.1 = some v → zvr G v) (hS1 : va_S A s.heap H1 locs1) : W p l e R s m args below meth c H1 locs1 cells slots Q (F0 m (pc + 3) ls ((r.1.map (zc G)).toList ++ t.map (zc G))) := by
  cases hx
  have k2 := kk H1 locs1 ls ⟨hH.1, hH.2.1, ⟨hP1, zws_D hH.2.2.1.2.1 (fun q h => Γ.2.2.2.2.2.2.2.1 q h), hS1, hmo1⟩, ?_⟩
  · have e : (zpush r.1 t).map (zc G) = (r.1.map (zc G)).toList ++ t.map (zc G) := by cases r.1 <;> rfl
    rw [← e]
    exact k2
  · refine ⟨hH.2.2.2.1, fun v hv => ?_⟩
    have hv : v ∈ zpush r.1 t := hv
    cases h1 : r.1 with
    | none => rw [h1] at hv; exact hH.2.2.2.2 v (ht v hv)
    | some u =>
      rw [h1] at hv
      rcases List.mem_cons.mp hv with rfl | hv
      · exact hrv _ h1
      · exact hH.2.2.2.2 v (ht v hv)
theorem zs_callV (Γ : zGa p s m args c cc nL own G A) {ci k idx N maxL : Nat} {C : String} {T : u_T} {y : MethodName} {bytes : ByteArray} {ret : Option FieldType} {rm : Room} {g : List zV → zM → Option zQ} (hd : decode cc pc = .ok (.invokevirtual idx, 3)) (hM : zMet l G y bytes maxL ret rm g) (hc : vwCl[ci]? = some (C, T, N)) (hc9 : ci < 9) (hz : zpr ci = 9)
    (h1 : Cond.methodLink own idx y ∈ zTs) (h2 : Cond.instanceMethod y ∈ zTs) (h3 : Cond.selects C y y ∈ zTs) (h4 : Cond.initialized C ∈ zTs) (h5 : Cond.code y bytes maxL ret ∈ zTs)
    (hyd : y.cls = C ∧ y.cls ≠ "java/lang/invoke/MethodHandle" ∧ y.cls ≠ "java/lang/invoke/VarHandle" ∧ (parseMethodDescriptor y.desc).map (fun d => d.parameters.length) = some k) (hrm : rm.cells = 0 ∧ rm.slots = 0) (hR : rm.frames + 1 ≤ R.frames ∧ 8 + (maxL + 11) + rm.locals ≤ R.locals) (hcs : cells ≤ R.cells ∧ slots ≤ R.slots) : zNx p l e R s m args below meth c cells slots G A nL pc (zcallv ci k g) := by
  intro f pc' f' hx H locs ls Q hH kk
  obtain ⟨L, st, M⟩ := f
  obtain ⟨n, t, r, hst, hb, hg, hx⟩ : ∃ n t r, st.drop k = zR ci n :: t ∧ zcats t ≤ 8 ∧ g (zR ci n :: (st.take k).reverse) M = some r ∧ (some (Sum.inr (pc + 3, L, zpush r.1 t, r.2)) : zT) = some (Sum.inr (pc', f')) := by
    unfold zcallv at hx
    dsimp only at hx
    split at hx
    · rename_i c' n t hst
      split at hx
      · rename_i hb hb2
        cases Nat.eq_of_beq_eq_true hb
        cases hg : g (zR ci n :: (st.take k).reverse) M with
        | none => rw [hg] at hx; cases hx
        | some r => rw [hg] at hx; exact ⟨n, t, r, hst, Nat.le_of_ble_eq_true hb2, hg, hx⟩
      · cases hx
    · cases hx
  cases hx
  have hM' := hM _ M r hg
  rw [hrm.1, hrm.2] at hM'
  have hst2 : st = st.take k ++ zR ci n :: t := by rw [← hst]; exact (List.take_append_drop k st).symm
  have hkl : (st.take k).length = k := by
    rw [List.length_take]
    have : (st.drop k).length = t.length + 1 := by rw [hst]; rfl
    rw [List.length_drop] at this
    omega
  have hmem : ∀ v ∈ zR ci n :: t, zvr G v := fun v hv => hH.2.2.2.2 v (by show v ∈ st; rw [hst2]; exact List.mem_append_right _ hv)
  have hmem2 : ∀ v ∈ (st.take k).reverse, zvr G v := fun v hv => hH.2.2.2.2 v (by show v ∈ st; rw [hst2]; exact List.mem_append_left _ (List.mem_reverse.mp hv))
  have hobj := zvr_in (hmem _ List.mem_cons_self) (by omega)
  obtain ⟨q0, he, -⟩ := zws_at G M hobj
  rw [zcell, zce9 hz] at he
  have hs := zc_cats G t
  have hP := hH.2.2.1.1
  have hmo := hH.2.2.1.2.2.2
  have hS := hH.2.2.1.2.2.1
  have hD := hH.2.2.1.2.1
  refine zrun_call (r := r) (rest := t.map (zc G)) (va_runV (As := ((st.take k).reverse).map (zc G)) (b := zad G ci n) ⟨Γ.1, Γ.2.1, Γ.2.2.1, Γ.2.2.2.1, Γ.2.2.2.2.1⟩ hM' (cwV k Γ.2.2.2.2.1 (zgoodV h1 h2 h3 h4 h5) rfl hrm.1 hrm.2 hyd hR)
    ⟨zPc_blind, va_recv Γ.2.2.2.2.2.1 hP hc he, fun U hU hW => ⟨rfl, by rw [hU]; exact hP, zws_D hD (fun q h => h), va_K.moved hW.alike Γ.2.2.2.2.2.1, ?_, hmo, fun v hv => ?_, fun w hw => va_Nw.warmM hW (Γ.2.2.2.2.2.2.2.2 w hw)⟩⟩ rfl (by rw [List.length_map, List.length_reverse, hkl]) hH.1.1 ?_ (lv_room (by rw [hs]; exact hb)) hd ⟨by omega, by omega⟩) hS Γ.2.2.2.2.2.2.2.1 (fun H1 locs1 hP1 hmo1 hrv hS1 => ?_)
  · have hq := Γ.2.2.2.2.2.2.1.z Γ.2.2.2.2.2.2.2.1
    rw [hU]
    have hsz : s.heap.size ≤ H.size := hS.1
    have := (Γ.2.2.2.2.2.2.1.m (U := U) (H' := H) hW.alike hS.2.1 hsz).z Γ.2.2.2.2.2.2.2.1
    exact this
  · rcases List.mem_cons.mp hv with rfl | hv
    · exact hmem _ List.mem_cons_self
    · exact hmem2 v hv
  · show st.map (zc G) = _
    rw [← List.map_reverse, List.reverse_reverse]
    conv => lhs; rw [hst2]
    rw [List.map_append]
    rfl
  · have k2 := kk H1 locs1 ls ⟨hH.1, hH.2.1, ⟨hP1, zws_D hD (fun q h => Γ.2.2.2.2.2.2.2.1 q h), hS1, hmo1⟩, ?_⟩
    · have e : (zpush r.1 t).map (zc G) = (r.1.map (zc G)).toList ++ t.map (zc G) := by cases r.1 <;> rfl
      rw [← e]
      exact k2
    · refine ⟨hH.2.2.2.1, fun v hv => ?_⟩
      have hv : v ∈ zpush r.1 t := hv
      cases h1 : r.1 with
      | none => rw [h1] at hv; exact hmem v (List.mem_cons_of_mem _ hv)
      | some u =>
        rw [h1] at hv
        rcases List.mem_cons.mp hv with rfl | hv
        · exact hrv _ h1
        · exact hmem v (List.mem_cons_of_mem _ hv)
theorem zs_calls_aux {k : Nat} {f : zF} {g : List zV → zM → Option zQ} {pc' : Nat} {f' : zF} (hx : zcalls k g pc f = some (.inr (pc', f'))) : ∃ r, zcats (f.2.1.drop k) ≤ 8 ∧ k ≤ f.2.1.length ∧ g (f.2.1.take k).reverse f.2.2 = some r ∧ (some (Sum.inr (pc + 3, f.1, zpush r.1 (f.2.1.drop k), r.2)) : zT) = some (Sum.inr (pc', f')) := by
  unfold zcalls at hx
  split at hx
  · rename_i hb hb2
    cases hg : g (f.2.1.take k).reverse f.2.2 with
    | none => rw [hg] at hx; cases hx
    | some r => rw [hg] at hx; exact ⟨r, Nat.le_of_ble_eq_true hb, Nat.le_of_ble_eq_true hb2, rfl, hx⟩
  · cases hx
theorem zs_callS (Γ : zGa p s m args c cc nL own G A) {k idx maxL : Nat} {y : MethodName} {bytes : ByteArray} {ret : Option FieldType} {rm : Room} {g : List zV → zM → Option zQ} (hd : decode cc pc = .ok (.invokestatic idx, 3)) (hM : zMet l G y bytes maxL ret rm g)
    (h1 : Cond.methodLink own idx y ∈ zTs) (h2 : Cond.static y ∈ zTs) (h4 : Cond.initialized y.cls ∈ zTs) (h5 : Cond.code y bytes maxL ret ∈ zTs)
    (hyd : y.cls ≠ "java/lang/invoke/MethodHandle" ∧ y.cls ≠ "java/lang/invoke/VarHandle" ∧ (parseMethodDescriptor y.desc).map (fun d => d.parameters.length) = some k) (hrm : rm.cells = 0 ∧ rm.slots = 0) (hR : rm.frames + 1 ≤ R.frames ∧ 8 + (maxL + 11) + rm.locals ≤ R.locals) (hcs : cells ≤ R.cells ∧ slots ≤ R.slots) : zNx p l e R s m args below meth c cells slots G A nL pc (zcalls k g) := by
  intro f pc' f' hx H locs ls Q hH kk
  obtain ⟨r, hb, hk, hg, hx2⟩ := zs_calls_aux hx
  obtain ⟨L, st, M⟩ := f
  have hM' := hM _ M r hg
  rw [hrm.1, hrm.2] at hM'
  have hs := zc_cats G (st.drop k)
  have hS := hH.2.2.1.2.2.1
  have hgood : GoodIn zTs (zwsy y bytes maxL ret) := fun w hw => by
    have : w ∈ zTs := (List.mem_cons.mp hw).elim (fun e => e ▸ h5) (fun h => h)
    exact ⟨this, zTs_good w this⟩
  refine zrun_call (r := r) (rest := (st.drop k).map (zc G)) (va_runS (n := k) (As := ((st.take k).reverse).map (zc G)) ⟨Γ.1, Γ.2.1, Γ.2.2.1, Γ.2.2.2.1, Γ.2.2.2.2.1⟩ hM' ⟨callB_of k Γ.2.2.2.2.1 hgood rfl hrm.1 hrm.2 (Γ.2.2.2.2.1 _ h4) (Γ.2.2.2.2.1 _ h1) hyd hR, Γ.2.2.2.2.1 _ h2⟩
    ⟨zPc_blind, fun U hU hW => zs_start Γ hH hU hW (fun v hv => hH.2.2.2.2 v (List.mem_of_mem_take (List.mem_reverse.mp hv)))⟩ rfl (by rw [List.length_map, List.length_reverse, List.length_take]; exact Nat.min_eq_left hk) hH.1.1 ?_ (lv_room (by rw [hs]; exact hb)) hd ⟨by omega, by omega⟩) hS Γ.2.2.2.2.2.2.2.1 (fun H1 locs1 hP1 hmo1 hrv hS1 => zs_after Γ hH hx2 (fun v hv => List.mem_of_mem_drop hv) kk hP1 hmo1 hrv hS1)
  show st.map (zc G) = _
  rw [← List.map_reverse, List.reverse_reverse, ← List.map_append, List.take_append_drop]
theorem zs_callN (Γ : zGa p s m args c cc nL own G A) {k idx maxL : Nat} {y : MethodName} {host : String} {bytes : ByteArray} {ret : Option FieldType} {rm : Room} {g : List zV → zM → Option zQ} (hd : decode cc pc = .ok (.invokestatic idx, 3)) (hM : zMet l G y bytes maxL ret rm g)
    (h1 : (own, idx, y, host) ∈ zNd) (h2 : Cond.static y ∈ zTs) (h4 : Cond.initialized y.cls ∈ zTs) (h5 : Cond.code y bytes maxL ret ∈ zTs)
    (hyd : y.cls ≠ "java/lang/invoke/MethodHandle" ∧ y.cls ≠ "java/lang/invoke/VarHandle" ∧ (parseMethodDescriptor y.desc).map (fun d => d.parameters.length) = some k) (hrm : rm.cells = 0 ∧ rm.slots = 0) (hR : rm.frames + 1 ≤ R.frames ∧ 8 + (maxL + 11) + rm.locals ≤ R.locals) (hcs : cells ≤ R.cells ∧ slots ≤ R.slots) : zNx p l e R s m args below meth c cells slots G A nL pc (zcalls k g) := by
  intro f pc' f' hx H locs ls Q hH kk
  obtain ⟨r, hb, hk, hg, hx2⟩ := zs_calls_aux hx
  obtain ⟨L, st, M⟩ := f
  have hM' := hM _ M r hg
  rw [hrm.1, hrm.2] at hM'
  have hs := zc_cats G (st.drop k)
  have hS := hH.2.2.1.2.2.1
  have hgood : GoodIn zTs (zwsy y bytes maxL ret) := fun w hw => by
    have : w ∈ zTs := (List.mem_cons.mp hw).elim (fun e => e ▸ h5) (fun h => h)
    exact ⟨this, zTs_good w this⟩
  refine zrun_call (r := r) (rest := (st.drop k).map (zc G)) (va_runSN (host := host) (n := k) (As := ((st.take k).reverse).map (zc G)) ⟨Γ.1, Γ.2.1, Γ.2.2.1, Γ.2.2.2.1, Γ.2.2.2.2.1⟩ hM' ⟨va_cnB k Γ.2.2.2.2.1 hgood rfl hrm.1 hrm.2 (Γ.2.2.2.2.2.2.2.2 _ h1) (Γ.2.2.2.2.1 _ h4) hyd hR, Γ.2.2.2.2.1 _ h2, trivial⟩
    ⟨zPc_blind, fun U hU hW => zs_start Γ hH hU hW (fun v hv => hH.2.2.2.2 v (List.mem_of_mem_take (List.mem_reverse.mp hv)))⟩ rfl (by rw [List.length_map, List.length_reverse, List.length_take]; exact Nat.min_eq_left hk) hH.1.1 ?_ (lv_room (by rw [hs]; exact hb)) hd ⟨by omega, by omega⟩) hS Γ.2.2.2.2.2.2.2.1 (fun H1 locs1 hP1 hmo1 hrv hS1 => zs_after Γ hH hx2 (fun v hv => List.mem_of_mem_drop hv) kk hP1 hmo1 hrv hS1)
  show st.map (zc G) = _
  rw [← List.map_reverse, List.reverse_reverse, ← List.map_append, List.take_append_drop]
end ZS3
