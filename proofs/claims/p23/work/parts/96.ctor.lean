-- ===== constructors: a method that makes cells =====
abbrev zQu : Type := ClassId × ClassId × ClassId × ClassId
def zty (k : zQu) : List (ClassId × FieldType) := [(k.1, .int), (k.2.1, .long), (k.2.2.1, .char), (k.2.2.2, .object RX4)]
def zYa (p : Program) (s : State) (m : MethodId) (args : Array Value) (c : Code) (cc : ByteArray) (nL : Nat) (own : String) (D : va_G) (k : zQu) : Prop :=
  p.tables.exec = Jvm.exec ∧ c.code = cc ∧ c.maxLocals = nL ∧ s.vm.findClass own = some m.cls ∧ (∀ w ∈ zTs, w.before args s = true) ∧ va_K D vwCl (zty k) s ∧ zne s ∧ va_AO RX4 s
def zYh (D : va_G) (A : Nat → Prop) (s : State) (ws : va_W) (H : Heap) (locs : List Loc) : Prop := va_P D vwCl ws H ∧ va_D A ws ∧ va_S A s.heap H locs
/-- what a constructor promises: from the cells w0, whose first is its own object, to the cells w1 u for some u -/
def zMc (l : Launch) (D : va_G) (k : zQu) (y : MethodName) (bytes : ByteArray) (maxL : Nat) (rm : Room) (as : List Value) (w0 : va_W) {S : Type} (w1 : S → va_W) : Prop :=
  ∀ sz : Nat, Met l y (zwsy y bytes maxL none) rm (va_Pc as (fun U => U.heap.size = sz ∧ va_P D vwCl w0 U.heap ∧ va_K D vwCl (zty k) U ∧ zne U ∧ va_AO RX4 U ∧ va_D (fun _ => True) w0)) (va_Qv (fun _ : S => True) (fun u t => va_P D vwCl (w1 u) t.heap ∧ va_D (va_A w0 sz) (w1 u)) (va_A w0 sz)) rm.cells rm.slots (va_A w0 sz)
theorem zy_met {l : Launch} {D : va_G} {k : zQu} {y : MethodName} {bytes : ByteArray} {maxL : Nat} {rm : Room} {as : List Value} {w0 : va_W} {S : Type} {w1 : S → va_W} (hy : plainName y.cls = true) (hyn : y.name = "<init>") (hln : (lg_sl as).length ≤ maxL)
    (hin : ∀ {p : Program} {e : Env} {s : State} {m : MethodId} {args : Array Value} {below : List Frame} {meth : Method} {c : Code} {A : Nat → Prop} {Q : State → Prop}, zYa p s m args c bytes maxL y.cls D k → meth.name = "<init>" → (∀ q, s.heap.size ≤ q → A q) →
      (∀ (u : S) (H : Heap) (locs : List Loc) (pc : Nat) (ls : Array Slot), zYh D A s (w1 u) H locs → decode bytes pc = .ok (.return_, 1) → W p l e rm s m args below meth c H locs rm.cells rm.slots Q (F0 m pc ls [])) →
      ∀ ls : Array Slot, lv_has ls maxL (lv_args 0 as) → zYh D A s w0 s.heap [] → W p l e rm s m args below meth c s.heap [] 0 0 Q (F0 m 0 ls [])) : zMc l D k y bytes maxL rm as w0 w1 := by
  intro sz
  refine Met.ofW (cc := bytes) (maxL := maxL) (ret := none) hy rfl ?_
  intro p e s m args below meth c s₁ B hml hv
  obtain ⟨rfl, hsz, hP, hK, hne, hao, hD0⟩ := hv
  have hts := atoms_spec (ws := zwsy y bytes maxL none) B.pre
  subst hsz
  have hlocks := B.notSynchronized
  have Γ : zYa p s m as.toArray c bytes maxL y.cls D k := ⟨B.exec, B.bytes, hml, findClass_of_methodNamed B.named, fun w hw => hts w (List.mem_cons_of_mem _ hw), hK, hne, hao⟩
  have hl := lv_entry as hln
  rw [lg_entry_eq]
  generalize (lg_sl as ++ List.replicate (maxL - (lg_sl as).length) Slot.unset).toArray = ls at hl ⊢
  refine hin Γ ((name_of_methodNamed B.named B.method).1.trans hyn) (fun q h => Or.inr h) (fun u H locs pc ls h hd => ?_) ls hl ⟨hP, hD0.self, va_S.rf⟩
  exact W.vret Γ.1 Γ.2.1 B.returns (fun t ht hW => ⟨⟨u, rfl, trivial, by rw [ht]; exact h.1, h.2.1⟩, h.2.2.F ht⟩) h.2.2.2.2 hd
theorem zy_map {α : Type} (pre : List α) (post : List α) : (List.range pre.length).map (fun i => (pre ++ post)[i]?) = pre.map some := by
  refine List.ext_getElem? fun i => ?_
  rw [List.getElem?_map, List.getElem?_map]
  by_cases h : i < pre.length
  · rw [List.getElem?_range h, Option.map_some, List.getElem?_append_left h, List.getElem?_eq_getElem h]
    rfl
  · rw [List.getElem?_eq_none (by rw [List.length_range]; omega), List.getElem?_eq_none (by omega)]
    rfl
theorem zy_nd : ∀ l : List Nat, l.Nodup → va_nd l = true
  | [], _ => rfl
  | a :: l, h => by
    rw [List.nodup_cons] at h
    simp only [va_nd, Bool.and_eq_true, decide_eq_true_eq]
    exact ⟨h.1, zy_nd l h.2⟩
section ZY
variable {p : Program} {l : Launch} {e : Env} {R : Room} {s : State} {m : MethodId} {args : Array Value} {below : List Frame} {meth : Method} {c : Code} {cells slots : Nat} {cc : ByteArray} {nL : Nat} {own : String} {D : va_G} {k : zQu} {A : Nat → Prop} {pc : Nat} {H : Heap} {locs : List Loc} {Q : State → Prop} {ls : Array Slot} {rest : List Value}
/-- behind the call of a constructor on the newest cell -/
theorem zy_join {S : Type} {w1 : S → va_W} {cls slo : Nat} {pre : va_W} {x : Nat × va_E} {st0 : List Value} {a : Array Value} (h : zYh D A s (pre ++ [x]) H locs) (hA : ∀ q, s.heap.size ≤ q → A q)
    (hr : va_Run p l e R s m args below meth c H locs cells slots cls slo (F0 m pc ls st0) rest (va_Qv (fun _ : S => True) (fun u t => va_P D vwCl (w1 u) t.heap ∧ va_D (va_A [x] H.size) (w1 u)) (va_A [x] H.size) a) (va_A [x] H.size))
    (kk : ∀ (u : S) (H1 : Heap) (locs1 : List Loc), zYh D A s (pre ++ w1 u) H1 locs1 → W p l e R s m args below meth c H1 locs1 (cells + cls) (slots + slo) Q (F0 m (pc + 3) ls rest)) : W p l e R s m args below meth c H locs cells slots Q (F0 m pc ls st0) := by
  have hC : [pre.length].map (fun i => (pre ++ [x])[i]?) = [x].map some := by simp
  have hF := va_free (wc := [x]) h.2.1 h.2.2 hA [pre.length] hC
  refine va_callv hr h.2.2 (fun q _ hq => hF q hq) hF (fun u t H1 locs1 ht hvm _ hB hz1 hk1 hS => ?_)
  obtain ⟨hP1, hD1⟩ := hB
  rw [ht] at hP1
  have hj := va_join (wr := pre) (w1 := w1 u) h.1 h.2.1 [pre.length] (List.range pre.length) hC (zy_map pre [x]) (zy_nd _ List.nodup_range) (fun i hi hj => by
    have h1 := List.mem_range.mp hi
    have h2 := List.mem_singleton.mp hj
    omega) hk1 hF hP1 hD1
  exact kk u H1 locs1 ⟨hj.1, hj.2, hS⟩
theorem zy_pre {as : List Value} {w0 : va_W} {b : Nat} (Γ : zYa p s m args c cc nL own D k) (hP : va_P D vwCl w0 H) (hD : va_D (fun _ => True) w0) : PreS s H (va_Pc (.ref b :: as) (fun U => U.heap.size = H.size ∧ va_P D vwCl w0 U.heap ∧ va_K D vwCl (zty k) U ∧ zne U ∧ va_AO RX4 U ∧ va_D (fun _ => True) w0)) (.ref b :: as) :=
  ⟨fun a U g mk q => ⟨q.1, q.2.1, q.2.2.1, va_K.moved (u := U) (U := U.calling g mk a) (Vm.Alike.refl U.vm) q.2.2.2.1, fun w hw => va_Nw.same (u := U) (U := U.calling g mk a) rfl rfl (q.2.2.2.2.1 w hw), va_AO.moved (u := U) (U := U.calling g mk a) (Vm.Alike.refl U.vm) q.2.2.2.2.2.1, q.2.2.2.2.2.2⟩,
   fun U hU hW => ⟨rfl, by rw [hU], by rw [hU]; exact hP, va_K.moved hW.alike Γ.2.2.2.2.2.1, fun w hw => va_Nw.warmM hW (Γ.2.2.2.2.2.2.1 w hw), va_AO.moved hW.alike Γ.2.2.2.2.2.2.2, hD⟩⟩
theorem zy_init {S : Type} {w1 : S → va_W} {pre : va_W} {b idx maxL n : Nat} {ce : va_E} {y : MethodName} {bytes : ByteArray} {rm : Room} {as st0 : List Value} (Γ : zYa p s m args c cc nL own D k) (hA : ∀ q, s.heap.size ≤ q → A q) (h : zYh D A s (pre ++ [(b, ce)]) H locs)
    (hM : zMc l D k y bytes maxL rm (.ref b :: as) [(b, ce)] w1) (h1 : Cond.methodLink own idx y ∈ zTs) (h2 : Cond.instanceMethod y ∈ zTs) (h4 : Cond.initialized y.cls ∈ zTs) (h5 : Cond.code y bytes maxL none ∈ zTs) (hyn : y.name = "<init>") (hyd : y.cls ≠ "java/lang/invoke/MethodHandle" ∧ y.cls ≠ "java/lang/invoke/VarHandle" ∧ (parseMethodDescriptor y.desc).map (fun d => d.parameters.length) = some n) (hn : as.length = n)
    (hR : rm.frames + 1 ≤ R.frames ∧ 8 + (maxL + 11) + rm.locals ≤ R.locals) (hst : st0 = as.reverse ++ .ref b :: rest) (hls : ls.size = nL) (hcat : (rest.map fun v => v.category).sum ≤ 8) (hd : decode cc pc = .ok (.invokespecial idx, 3)) (hcs : cells + rm.cells ≤ R.cells ∧ slots + rm.slots ≤ R.slots)
    (kk : ∀ (u : S) (H1 : Heap) (locs1 : List Loc), zYh D A s (pre ++ w1 u) H1 locs1 → W p l e R s m args below meth c H1 locs1 (cells + rm.cells) (slots + rm.slots) Q (F0 m (pc + 3) ls rest)) : W p l e R s m args below meth c H locs cells slots Q (F0 m pc ls st0) := by
  have hgood : GoodIn zTs (zwsy y bytes maxL none) := fun w hw => by
    have : w ∈ zTs := (List.mem_cons.mp hw).elim (fun e => e ▸ h5) (fun h => h)
    exact ⟨this, zTs_good w this⟩
  have hC : [pre.length].map (fun i => (pre ++ [(b, ce)])[i]?) = [(b, ce)].map some := by simp
  have hP0 := h.1.sub (ws' := [(b, ce)]) [pre.length] (by simp)
  have hD0 := h.2.1.sub (ws' := [(b, ce)]) [pre.length] rfl hC
  exact zy_join h hA (va_runI (As := as) (rest := rest) ⟨Γ.1, Γ.2.1, Γ.2.2.1, Γ.2.2.2.1, Γ.2.2.2.2.1⟩ (hM H.size) (cwI n Γ.2.2.2.2.1 hgood rfl rfl rfl (Γ.2.2.2.2.1 _ h4) (Γ.2.2.2.2.1 _ h1) (Γ.2.2.2.2.1 _ h2) hyn hyd hR)
    (zy_pre Γ hP0 (hD0.weaken (fun _ _ _ _ => trivial))) rfl hn hls hst (lv_room hcat) hd hcs) kk
theorem zy_initN {S : Type} {w1 : S → va_W} {pre : va_W} {b idx maxL n : Nat} {ce : va_E} {y : MethodName} {host : String} {bytes : ByteArray} {rm : Room} {as st0 : List Value} (Γ : zYa p s m args c cc nL own D k) (hA : ∀ q, s.heap.size ≤ q → A q) (h : zYh D A s (pre ++ [(b, ce)]) H locs)
    (hM : zMc l D k y bytes maxL rm (.ref b :: as) [(b, ce)] w1) (h1 : (own, idx, y, host) ∈ zNd) (h2 : Cond.instanceMethod y ∈ zTs) (h4 : Cond.initialized y.cls ∈ zTs) (h5 : Cond.code y bytes maxL none ∈ zTs) (hyn : y.name = "<init>") (hyd : y.cls ≠ "java/lang/invoke/MethodHandle" ∧ y.cls ≠ "java/lang/invoke/VarHandle" ∧ (parseMethodDescriptor y.desc).map (fun d => d.parameters.length) = some n) (hn : as.length = n)
    (hR : rm.frames + 1 ≤ R.frames ∧ 8 + (maxL + 11) + rm.locals ≤ R.locals) (hst : st0 = as.reverse ++ .ref b :: rest) (hls : ls.size = nL) (hcat : (rest.map fun v => v.category).sum ≤ 8) (hd : decode cc pc = .ok (.invokespecial idx, 3)) (hcs : cells + rm.cells ≤ R.cells ∧ slots + rm.slots ≤ R.slots)
    (kk : ∀ (u : S) (H1 : Heap) (locs1 : List Loc), zYh D A s (pre ++ w1 u) H1 locs1 → W p l e R s m args below meth c H1 locs1 (cells + rm.cells) (slots + rm.slots) Q (F0 m (pc + 3) ls rest)) : W p l e R s m args below meth c H locs cells slots Q (F0 m pc ls st0) := by
  have hgood : GoodIn zTs (zwsy y bytes maxL none) := fun w hw => by
    have : w ∈ zTs := (List.mem_cons.mp hw).elim (fun e => e ▸ h5) (fun h => h)
    exact ⟨this, zTs_good w this⟩
  have hC : [pre.length].map (fun i => (pre ++ [(b, ce)])[i]?) = [(b, ce)].map some := by simp
  have hP0 := h.1.sub (ws' := [(b, ce)]) [pre.length] (by simp)
  have hD0 := h.2.1.sub (ws' := [(b, ce)]) [pre.length] rfl hC
  exact zy_join h hA (va_runIN (host := host) (As := as) (rest := rest) ⟨Γ.1, Γ.2.1, Γ.2.2.1, Γ.2.2.2.1, Γ.2.2.2.2.1⟩ (hM H.size) ⟨va_cnB n Γ.2.2.2.2.1 hgood rfl rfl rfl (Γ.2.2.2.2.2.2.1 _ h1) (Γ.2.2.2.2.1 _ h4) hyd hR, hyn, Γ.2.2.2.2.1 _ h2⟩
    (zy_pre Γ hP0 (hD0.weaken (fun _ _ _ _ => trivial))) rfl hn hls hst (lv_room hcat) hd hcs) kk
theorem zy_new {ws : va_W} {C : String} {T : u_T} {N ci idx : Nat} {fs : List Value} (Γ : zYa p s m args c cc nL own D k) (hA : ∀ q, s.heap.size ≤ q → A q) (h : zYh D A s ws H locs) (hin : ∀ w ∈ u_ws C T N, w ∈ zTs) (ty : Nat → FieldType) (hty : ∀ k, k < N → parseFieldDescriptor (T k).2.2.1 = some (ty k)) (h1 : Cond.classLink own idx C ∈ zTs) (h2 : Cond.instantiable C N ∈ zTs) (h3 : Cond.initialized C ∈ zTs) (hc : vwCl[ci]? = some (C, T, N)) (hfs : ∀ j, j < N → defaultValue (ty j) = vp_V fs j) (hcs : cells + 1 ≤ R.cells ∧ slots + N ≤ R.slots) (hd : decode cc pc = .ok (.new idx, 3))
    (kk : ∀ (q : Nat) (H1 : Heap), zYh D A s (ws ++ [(q, .inr (ci, fs))]) H1 locs → W p l e R s m args below meth c H1 locs (cells + 1) (slots + N) Q (F0 m (pc + 3) ls (.ref q :: rest))) : W p l e R s m args below meth c H locs cells slots Q (F0 m pc ls rest) :=
  va_new Γ.1 Γ.2.1 Γ.2.2.2.2.1 hin ty hty Γ.2.2.2.1 (Γ.2.2.2.2.1 _ h1) (Γ.2.2.2.2.1 _ h2) (Γ.2.2.2.2.1 _ h3) Γ.2.2.2.2.2.1 h.1 h.2.1 h.2.2 hA hc hfs hcs.1 hcs.2 hd (fun q H1 hP hD hS => kk q H1 ⟨hP, hD, hS⟩)
theorem zy_obj {a idx : Nat} (Γ : zYa p s m args c cc nL own D k) (h1 : Cond.methodLink own idx Lib.objectInit ∈ zTs) (h2 : Cond.instanceMethod Lib.objectInit ∈ zTs) (h5 : Cond.code Lib.objectInit ⟨#[0xb1]⟩ 1 none ∈ zTs) (hls : ls.size = nL) (hd : decode cc pc = .ok (.invokespecial idx, 3)) (hR : 1 ≤ R.frames ∧ 12 ≤ R.locals)
    (kk : W p l e R s m args below meth c H locs cells slots Q (F0 m (pc + 3) ls [])) : W p l e R s m args below meth c H locs cells slots Q (F0 m pc ls [.ref a]) := by
  refine W.objInit Γ.1 Γ.2.1 Γ.2.2.2.1 (Γ.2.2.2.2.1 _ h1) (Γ.2.2.2.2.1 _ h2) (Γ.2.2.2.2.1 _ h5) rfl (by rw [Γ.2.2.1]; exact hls) rfl hd hR.1 ?_ ?_
  · show 2 * (F0 m pc ls [.ref a]).monitorRoom + 0 + 12 ≤ R.locals
    have : (F0 m pc ls [.ref a]).monitorRoom = 0 := rfl
    omega
  · exact W.eq (g2 := F0 m (pc + 3) ls []) rfl kk
/-- an array of ints, longs or chars: its class is one of the four -/
theorem zy_newa {ws : va_W} {atype : ArrayType} {ty : FieldType} {n : Int32} {N' t0 : Nat} {a0 : vp_A} {cA : ClassId} (Γ : zYa p s m args c cc nL own D k) (hA : ∀ q, s.heap.size ≤ q → A q) (h : zYh D A s ws H locs) (h1 : Cond.arrayClass (newarray.typeOf atype) ∈ zTs) (hty : newarray.typeOf atype = ty) (hob : ∀ C, ty ≠ .object C) (ht : (zty k)[t0]? = some (cA, ty)) (ha : ∀ cA : ClassId, vp_cell cA a0 = arrV cA N' (fun _ => defaultValue ty)) (hn : ¬ n < 0) (hN : n.toNatClampNeg = N') (hbytes : N' * componentBytes ty ≤ 536870912) (hcs : cells + 1 ≤ R.cells ∧ slots + N' ≤ R.slots) (hd : decode cc pc = .ok (.newarray atype, 2))
    (kk : ∀ (q : Nat) (H1 : Heap), zYh D A s (ws ++ [(q, .inl (cA, a0))]) H1 locs → W p l e R s m args below meth c H1 locs (cells + 1) (slots + N') Q (F0 m (pc + 2) ls (.ref q :: rest))) : W p l e R s m args below meth c H locs cells slots Q (F0 m pc ls (.int n :: rest)) := by
  refine va_newa Γ.1 Γ.2.1 (Γ.2.2.2.2.1 _ h1) hty Γ.2.2.2.2.2.1 h.1 h.2.1 h.2.2 hA ha hn hN hbytes hcs.1 hcs.2 hd (fun q cA' H1 hK hP hD hS => ?_)
  have e1 := (Γ.2.2.2.2.2.1.2 t0 _ ht).2
  have e2 := (hK.2 (zty k).length (cA', ty) (by rw [List.getElem?_append_right (Nat.le_refl _), Nat.sub_self]; rfl)).2
  have e3 : cA' = cA := by
    cases ty with
    | object C => exact absurd rfl (hob C)
    | _ => exact Option.some.inj (e2.symm.trans e1)
  subst e3
  exact kk q H1 ⟨hP, hD, hS⟩
theorem zy_newq {ws : va_W} {n : Int32} {N' idx : Nat} (Γ : zYa p s m args c cc nL own D k) (hA : ∀ q, s.heap.size ≤ q → A q) (h : zYh D A s ws H locs) (h1 : Cond.classLink own idx RX4 ∈ zTs) (hn : ¬ n < 0) (hN : n.toNatClampNeg = N') (hbytes : N' * 4 ≤ 536870912) (hcs : cells + 1 ≤ R.cells ∧ slots + N' ≤ R.slots) (hd : decode cc pc = .ok (.anewarray idx, 3))
    (kk : ∀ (q : Nat) (H1 : Heap), zYh D A s (ws ++ [(q, .inl (k.2.2.2, N', .inr (.inr (.inr (.inr (fun _ => none))))))]) H1 locs → W p l e R s m args below meth c H1 locs (cells + 1) (slots + N') Q (F0 m (pc + 3) ls (.ref q :: rest))) : W p l e R s m args below meth c H locs cells slots Q (F0 m pc ls (.int n :: rest)) := by
  refine va_newq Γ.1 Γ.2.1 Γ.2.2.2.1 (Γ.2.2.2.2.1 _ h1) Γ.2.2.2.2.2.2.2 Γ.2.2.2.2.2.1 h.1 h.2.1 h.2.2 hA hn hN hbytes hcs.1 hcs.2 hd (fun q cA' H1 hK hP hD hS => ?_)
  obtain ⟨_, _, _, _, _, e1⟩ := (Γ.2.2.2.2.2.1.2 3 (k.2.2.2, .object RX4) rfl).2
  obtain ⟨_, _, _, _, _, e2⟩ := (hK.2 (zty k).length (cA', .object RX4) (by rw [List.getElem?_append_right (Nat.le_refl _), Nat.sub_self]; rfl)).2
  have e3 : cA' = k.2.2.2 := Option.some.inj (e2.symm.trans e1)
  subst e3
  exact kk q H1 ⟨hP, hD, hS⟩
theorem zy_put {ws : va_W} {C : String} {T : u_T} {N ci idx a : Nat} {fs : List Value} (Γ : zYa p s m args c cc nL own D k) (h : zYh D A s ((a, .inr (ci, fs)) :: ws) H locs) (hin : ∀ w ∈ u_ws C T N, w ∈ zTs) (ty0 : Nat → FieldType) (hty : ∀ k, k < N → parseFieldDescriptor (T k).2.2.1 = some (ty0 k)) (hnm : ∀ a, a < N → ∀ b, b < N → a ≠ b → (T a).2.1 ≠ (T b).2.1) (hc : vwCl[ci]? = some (C, T, N)) (j : Nat) (hj : j < N) (h1 : Cond.fieldLink own idx (T j).1 (T j).2.1 (T j).2.2.1 ∈ zTs) (hfin : (T j).2.2.2 = false) {ty : FieldType} {v : Value} (hd0 : parseFieldDescriptor (T j).2.2.1 = some ty) (hn : narrow ty v = v) (hfit : fits ty v = true) (hl : j < fs.length) (hd : decode cc pc = .ok (.putfield idx, 3))
    (kk : ∀ (H1 : Heap) (locs1 : List Loc), zYh D A s ((a, .inr (ci, fs.set j v)) :: ws) H1 locs1 → W p l e R s m args below meth c H1 locs1 cells slots Q (F0 m (pc + 3) ls rest)) : W p l e R s m args below meth c H locs cells slots Q (F0 m pc ls (v :: .ref a :: rest)) :=
  va_put Γ.1 Γ.2.1 Γ.2.2.2.2.1 hin ty0 hty hnm Γ.2.2.2.1 Γ.2.2.2.2.2.1 h.1 h.2.1 h.2.2 0 rfl hc j hj (Γ.2.2.2.2.1 _ h1) (fun _ h9 => h9) hfin hd0 hn hfit hl hd (fun H1 locs1 hP hD hS => kk H1 locs1 ⟨hP, hD, hS⟩)
theorem zy_putF {ws : va_W} {C : String} {T : u_T} {N ci idx a : Nat} {fs : List Value} (Γ : zYa p s m args c cc nL own D k) (hmn : meth.name = "<init>") (h : zYh D A s ((a, .inr (ci, fs)) :: ws) H locs) (hin : ∀ w ∈ u_ws C T N, w ∈ zTs) (ty0 : Nat → FieldType) (hty : ∀ k, k < N → parseFieldDescriptor (T k).2.2.1 = some (ty0 k)) (hnm : ∀ a, a < N → ∀ b, b < N → a ≠ b → (T a).2.1 ≠ (T b).2.1) (hc : vwCl[ci]? = some (C, T, N)) (j : Nat) (hj : j < N) (h1 : Cond.fieldLink own idx (T j).1 (T j).2.1 (T j).2.2.1 ∈ zTs) (hfin : (T j).2.2.2 = true) (hdecl : (T j).1 = own) {ty : FieldType} {v : Value} (hd0 : parseFieldDescriptor (T j).2.2.1 = some ty) (hn : narrow ty v = v) (hfit : fits ty v = true) (hl : j < fs.length) (hd : decode cc pc = .ok (.putfield idx, 3))
    (kk : ∀ (H1 : Heap) (locs1 : List Loc), zYh D A s ((a, .inr (ci, fs.set j v)) :: ws) H1 locs1 → W p l e R s m args below meth c H1 locs1 cells slots Q (F0 m (pc + 3) ls rest)) : W p l e R s m args below meth c H locs cells slots Q (F0 m pc ls (v :: .ref a :: rest)) :=
  va_putF Γ.1 Γ.2.1 Γ.2.2.2.2.1 hin ty0 hty hnm Γ.2.2.2.1 Γ.2.2.2.2.2.1 h.1 h.2.1 h.2.2 0 rfl hc j hj (Γ.2.2.2.2.1 _ h1) (fun _ h9 => h9) hfin hmn hdecl hd0 hn hfit hl hd (fun H1 locs1 hP hD hS => kk H1 locs1 ⟨hP, hD, hS⟩)
theorem zy_get {ws : va_W} {C : String} {T : u_T} {N ci idx a : Nat} {fs : List Value} (Γ : zYa p s m args c cc nL own D k) (h : zYh D A s ((a, .inr (ci, fs)) :: ws) H locs) (hin : ∀ w ∈ u_ws C T N, w ∈ zTs) (hc : vwCl[ci]? = some (C, T, N)) (j : Nat) (hj : j < N) (h1 : Cond.fieldLink own idx (T j).1 (T j).2.1 (T j).2.2.1 ∈ zTs) {v : Value} (hv : fs[j]? = some v) (hd : decode cc pc = .ok (.getfield idx, 3))
    (kk : W p l e R s m args below meth c H locs cells slots Q (F0 m (pc + 3) ls (v :: rest))) : W p l e R s m args below meth c H locs cells slots Q (F0 m pc ls (.ref a :: rest)) :=
  va_get Γ.1 Γ.2.1 Γ.2.2.2.2.1 hin Γ.2.2.2.1 Γ.2.2.2.2.2.1 h.1 0 rfl hc j hj (Γ.2.2.2.2.1 _ h1) (fun _ h9 => h9) hv hd kk
end ZY
