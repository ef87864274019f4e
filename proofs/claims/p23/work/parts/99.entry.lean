-- ===== from the entry =====
theorem z0i0 : Cond.instantiable RX0 7 ∈ zTs := zTs_of (List.mem_of_getElem? (i := 66) (by decide +kernel)) rfl
theorem z0i1 : Cond.instantiable RX1 2 ∈ zTs := zTs_of (List.mem_of_getElem? (i := 72) (by decide +kernel)) rfl
theorem z0i2 : Cond.instantiable RX2 2 ∈ zTs := zTs_of (List.mem_of_getElem? (i := 156) (by decide +kernel)) rfl
theorem z0i3 : Cond.instantiable RX3 5 ∈ zTs := zTs_of (List.mem_of_getElem? (i := 187) (by decide +kernel)) rfl
theorem z0i4 : Cond.instantiable RX4 8 ∈ zTs := zTs_of (List.mem_of_getElem? (i := 23) (by decide +kernel)) rfl
theorem z0i5 : Cond.instantiable RX5 2 ∈ zTs := zTs_of (List.mem_of_getElem? (i := 173) (by decide +kernel)) rfl
theorem z0i6 : Cond.instantiable RX6 6 ∈ zTs := zTs_of (List.mem_of_getElem? (i := 29) (by decide +kernel)) rfl
theorem z0i7 : Cond.instantiable RX7 8 ∈ zTs := zTs_of (List.mem_of_getElem? (i := 15) (by decide +kernel)) rfl
theorem z0_classes {args : Array Value} {s : State} (hT : ∀ w ∈ zTs, w.before args s = true) : ∃ D : va_G, ∀ (c : Nat) (q : vw_C), vwCl[c]? = some q → u_Kn s q.1 q.2.1 q.2.2 (D.1 c) (D.2 c) := by
  have h : ∀ c : Nat, ∃ (x : ClassId) (f : Nat → Nat), ∀ q : vw_C, vwCl[c]? = some q → u_Kn s q.1 q.2.1 q.2.2 x f := by
    intro c
    match c with
    | 0 =>
      obtain ⟨x, f, h⟩ := u_known hT zin0 (hT _ z0i0)
      exact ⟨x, f, fun q hq => by cases hq; exact h⟩
    | 1 =>
      obtain ⟨x, f, h⟩ := u_known hT zin1 (hT _ z0i1)
      exact ⟨x, f, fun q hq => by cases hq; exact h⟩
    | 2 =>
      obtain ⟨x, f, h⟩ := u_known hT zin2 (hT _ z0i2)
      exact ⟨x, f, fun q hq => by cases hq; exact h⟩
    | 3 =>
      obtain ⟨x, f, h⟩ := u_known hT zin3 (hT _ z0i3)
      exact ⟨x, f, fun q hq => by cases hq; exact h⟩
    | 4 =>
      obtain ⟨x, f, h⟩ := u_known hT zin4 (hT _ z0i4)
      exact ⟨x, f, fun q hq => by cases hq; exact h⟩
    | 5 =>
      obtain ⟨x, f, h⟩ := u_known hT zin5 (hT _ z0i5)
      exact ⟨x, f, fun q hq => by cases hq; exact h⟩
    | 6 =>
      obtain ⟨x, f, h⟩ := u_known hT zin6 (hT _ z0i6)
      exact ⟨x, f, fun q hq => by cases hq; exact h⟩
    | 7 =>
      obtain ⟨x, f, h⟩ := u_known hT zin7 (hT _ z0i7)
      exact ⟨x, f, fun q hq => by cases hq; exact h⟩
    | n + 8 => exact ⟨0, fun _ => 0, fun q hq => by cases hq⟩
  exact ⟨(fun c => (h c).choose, fun c => (h c).choose_spec.choose), fun c q hq => (h c).choose_spec.choose_spec q hq⟩
theorem z0_arr {args : Array Value} {s : State} {ty : FieldType} (h : (Cond.arrayClass ty).before args s = true) (hob : ∀ C, ty ≠ .object C) : ∃ c : ClassId, ArrOfT s c ty ∧ va_RA s c ty := by
  obtain ⟨c, k, comp, h1, h2, h3⟩ := Cond.arrayClass_spec h
  refine ⟨c, fun n z => ⟨fun k h => (by cases h), k, h2, comp, h3⟩, ?_⟩
  cases ty with
  | object C => exact absurd rfl (hob C)
  | _ => exact h1
theorem z0_arrO {s : State} {C : String} (h : va_AO C s) : ∃ c : ClassId, ArrOfT s c (.object C) ∧ va_RA s c (.object C) := by
  obtain ⟨comp, c, k, h1, h2, h3, h4, h5⟩ := Cond.arrayOver_spec h
  exact ⟨c, fun n z => ⟨fun k h => (by cases h), k, h3, comp, h4⟩, k, comp, h3, h4, h1, h5⟩
theorem z0_tys {args : Array Value} {s : State} (h1 : (Cond.arrayClass .int).before args s = true) (h2 : (Cond.arrayClass .long).before args s = true) (h3 : (Cond.arrayClass .char).before args s = true) (h4 : va_AO RX4 s) : ∃ k : zQu, ∀ (j : Nat) (q : ClassId × FieldType), (zty k)[j]? = some q → ArrOfT s q.1 q.2 ∧ va_RA s q.1 q.2 := by
  obtain ⟨a, a1⟩ := z0_arr h1 (fun _ z => by cases z)
  obtain ⟨b, b1⟩ := z0_arr h2 (fun _ z => by cases z)
  obtain ⟨c, c1⟩ := z0_arr h3 (fun _ z => by cases z)
  obtain ⟨d, d1⟩ := z0_arrO h4
  refine ⟨(a, b, c, d), fun j q hq => ?_⟩
  match j, hq with
  | 0, hq => cases hq; exact a1
  | 1, hq => cases hq; exact b1
  | 2, hq => cases hq; exact c1
  | 3, hq => cases hq; exact d1
  | n + 4, hq => cases hq
theorem z0_nest : ∀ q ∈ zNd, Cond.methodLinkNest q.1 q.2.1 q.2.2.1 q.2.2.2 ∈ lw_tbl := by decide +kernel
theorem z0_lays : Cond.laysStatic "FlippedBlinds" "LETTERS" "[I" ∈ lw_tbl := List.mem_of_getElem? (i := 306) (by decide +kernel)
theorem z0_inib : Cond.initialized "FlippedBlinds" ∈ lw_tbl := List.mem_of_getElem? (i := 3) (by decide +kernel)
theorem z0_over : Cond.arrayOver (.object RX4) ∈ lw_tbl := List.mem_of_getElem? (i := 162) (by decide +kernel)
abbrev zSLt : Term := Term.static "FlippedBlinds" "LETTERS" "[I"
set_option maxRecDepth 100000 in
theorem z0_let {args : Array Value} {s : State} {A : Nat → Prop} (hg : (Jvm.Cond.and given_1 narrow_1).before args s = true) (hl : (Cond.laysStatic "FlippedBlinds" "LETTERS" "[I").before args s = true) (hini : (Cond.initialized "FlippedBlinds").before args s = true) (hA : ∀ a : Nat, a < s.heap.size → ¬ A a) : ∃ t : Nat, zXl t s s.heap ∧ t < s.heap.size ∧ ¬ A t ∧ va_Z "FlippedBlinds" "LETTERS" "[I" (.ref t) A s s.heap := by
  have hs := flat_of_before _ hg
  have hel : ∀ j : Nat, j < 17 → (Term.elem zSLt (.int (Int32.ofNat j))).eval args s none [] s = some (.int (zlet j)) := by
    intro j hj
    match j, hj with
    | 0, _ => exact va_eqt (hs (Cond.eq (.elem zSLt (.int 0)) (.int 0)) (by decide +kernel))
    | 1, _ => exact va_eqt (hs (Cond.eq (.elem zSLt (.int 1)) (.int 153429)) (by decide +kernel))
    | 2, _ => exact va_eqt (hs (Cond.eq (.elem zSLt (.int 2)) (.int 415318)) (by decide +kernel))
    | 3, _ => exact va_eqt (hs (Cond.eq (.elem zSLt (.int 3)) (.int 214083)) (by decide +kernel))
    | 4, _ => exact va_eqt (hs (Cond.eq (.elem zSLt (.int 4)) (.int 415062)) (by decide +kernel))
    | 5, _ => exact va_eqt (hs (Cond.eq (.elem zSLt (.int 5)) (.int 476743)) (by decide +kernel))
    | 6, _ => exact va_eqt (hs (Cond.eq (.elem zSLt (.int 6)) (.int 476740)) (by decide +kernel))
    | 7, _ => exact va_eqt (hs (Cond.eq (.elem zSLt (.int 7)) (.int 214355)) (by decide +kernel))
    | 8, _ => exact va_eqt (hs (Cond.eq (.elem zSLt (.int 8)) (.int 350037)) (by decide +kernel))
    | 9, _ => exact va_eqt (hs (Cond.eq (.elem zSLt (.int 9)) (.int 467495)) (by decide +kernel))
    | 10, _ => exact va_eqt (hs (Cond.eq (.elem zSLt (.int 10)) (.int 69970)) (by decide +kernel))
    | 11, _ => exact va_eqt (hs (Cond.eq (.elem zSLt (.int 11)) (.int 349781)) (by decide +kernel))
    | 12, _ => exact va_eqt (hs (Cond.eq (.elem zSLt (.int 12)) (.int 279623)) (by decide +kernel))
    | 13, _ => exact va_eqt (hs (Cond.eq (.elem zSLt (.int 13)) (.int 358229)) (by decide +kernel))
    | 14, _ => exact va_eqt (hs (Cond.eq (.elem zSLt (.int 14)) (.int 415061)) (by decide +kernel))
    | 15, _ => exact va_eqt (hs (Cond.eq (.elem zSLt (.int 15)) (.int 152914)) (by decide +kernel))
    | 16, _ => exact va_eqt (hs (Cond.eq (.elem zSLt (.int 16)) (.int 415300)) (by decide +kernel))
    | n + 17, h => omega
  obtain ⟨t, ht, cell, h1, h2, h3, h4, h5, h6, h7⟩ := va_Tof (tm := zSLt) (N := 17) (f := fun j => .int (zlet j)) (A := A) (by decide) (hs (Cond.arrayOf zSLt .int) (by decide +kernel)) (va_eqt (hs (Cond.eq (.length zSLt) (.int 17)) (by decide +kernel))) hel hA
  exact ⟨t, ⟨cell, h1, h2, h3, h4, h6⟩, (Array.getElem?_eq_some_iff.mp h1).1, h7, va_Zref hl hini ht hA⟩
theorem z0a1 : Cond.classLink R_law 60 RX7 ∈ zTs := zTs_of (List.mem_of_getElem? (i := 14) (by decide +kernel)) rfl
theorem z0a2 : Cond.initialized RX7 ∈ zTs := zTs_of (List.mem_of_getElem? (i := 3) (by decide +kernel)) rfl
theorem z0a3 : Cond.methodLink R_law 122 yX7_init ∈ zTs := zTs_of (List.mem_of_getElem? (i := 16) (by decide +kernel)) rfl
theorem z0a4 : Cond.instanceMethod yX7_init ∈ zTs := zTs_of (List.mem_of_getElem? (i := 17) (by decide +kernel)) rfl
theorem z0a5 : Cond.code yX7_init cX7_init 1 none ∈ zTs := zTs_of (List.mem_of_getElem? (i := 18) (by decide +kernel)) rfl
theorem z0c1 : Cond.arrayClass .int ∈ zTs := zTs_of (List.mem_of_getElem? (i := 63) (by decide +kernel)) rfl
theorem z0c2 : Cond.arrayClass .long ∈ zTs := zTs_of (List.mem_of_getElem? (i := 64) (by decide +kernel)) rfl
theorem z0c3 : Cond.arrayClass .char ∈ zTs := zTs_of (List.mem_of_getElem? (i := 185) (by decide +kernel)) rfl
set_option maxHeartbeats 4000000 in
set_option maxRecDepth 100000 in
/-- from the entry, for every script of at most 260 ints, the law comes to its end with true -/
theorem whole_start {p : Program} {e : Env} {s : State} {m : MethodId} {below : List Frame} {meth : Method} {c : Code} (l : Launch) (hflags : l.flags = flags0) {b L : Nat} {xs : Nat → Int32} (hL : L ≤ 260) (C0 : lw_At p s m meth c b L xs) : W p l e room_1 s m #[Value.ref b] below meth c s.heap [] 0 0 (lw_Z below #[Value.ref b] s) (entryFrame m ([Value.ref b] : List Value).toArray 12) := by
  obtain ⟨hx, hb, hr, hml, hown, hts, hX, hbl, hlocks, hgv⟩ := id C0
  have hT : ∀ w ∈ zTs, w.before #[Value.ref b] s = true := fun w hw => hts w (List.mem_filter.mp hw).1
  have hao : va_AO RX4 s := va_AO.of (hts _ z0_over)
  have hne : zne s := fun q hq => va_Nw.of rfl (hts _ (z0_nest q hq))
  obtain ⟨D, hKc⟩ := z0_classes hT
  obtain ⟨k, hKa⟩ := z0_tys (hT _ z0c1) (hT _ z0c2) (hT _ z0c3) hao
  have hK : va_K D vwCl (zty k) s := ⟨hKc, hKa⟩
  have Γ : zYa p s m #[Value.ref b] c code 12 R_law D k := ⟨hx, hb, hml, hown, hT, hK, hne, hao⟩
  have hA : ∀ q : Nat, s.heap.size ≤ q → (fun q : Nat => s.heap.size ≤ q) q := fun _ h => h
  have hA2 : ∀ a : Nat, a < s.heap.size → ¬ (fun q : Nat => s.heap.size ≤ q) a := fun a h => Nat.not_le.mpr h
  obtain ⟨t, hl1, hl2, hl3, hl4⟩ := z0_let (A := fun q : Nat => s.heap.size ≤ q) hgv (hts _ z0_lays) (hts _ z0_inib) hA2
  have h : zYh D (fun q : Nat => s.heap.size ≤ q) s [] s.heap [] := ⟨fun k q h => by simp at h, ⟨fun i j p q h => by simp at h, fun k q h => by simp at h⟩, va_S.rf⟩
  have hl := lv_entry ([.ref b]) (n := 12) (Nat.le_of_ble_eq_true rfl)
  rw [lg_entry_eq]
  generalize (lg_sl ([.ref b]) ++ List.replicate (12 - (lg_sl ([.ref b])).length) Slot.unset).toArray = ls at hl ⊢
  have hl : lv_has ls 12 [(0, .ref b)] := hl
  refine zy_new (ci := 7) (C := RX7) (T := TX7) (N := 8) (fs := [.null, .null, .null, .null, .null, .int 0, .int 0, .int 0]) Γ hA h zin7 tyX7 tyX7_ok z0a1 z0i7 z0a2 rfl zdf7 ⟨by decide, by decide⟩ (by decide +kernel) (fun q0 H h => ?_)
  refine lv_dup Γ.1 Γ.2.1 (by decide +kernel) rfl ?_
  refine zy_init (pre := []) (b := q0) (ce := .inr (7, [.null, .null, .null, .null, .null, .int 0, .int 0, .int 0])) (n := 0) (as := []) (rest := [.ref q0]) Γ hA h (cX7 l D k q0) z0a3 z0a4 z0a2 z0a5 rfl (by decide +kernel) rfl ⟨by decide, by decide⟩ rfl hl.1 (Nat.le_of_ble_eq_true rfl) (by decide +kernel) ⟨by decide, by decide⟩ (fun u H locs h => ?_)
  refine lv_astore_n (k := 1) (lv' := [(1, .ref q0), (0, .ref b)]) Γ.1 Γ.2.1 (by decide +kernel) rfl hl (by decide) rfl (fun ls hl => ?_)
  refine lv_bipush (n := 8) (v := 8) Γ.1 Γ.2.1 (by decide +kernel) (by decide) ?_
  refine zy_newa (atype := .int) (ty := .int) (N' := 8) (t0 := 0) (cA := k.1) (a0 := (8, .inl (fun _ => 0))) Γ hA h z0c1 rfl (fun _ z => by cases z) rfl (fun _ => rfl) (by decide) (by decide) (by decide) ⟨by decide, by decide⟩ (by decide +kernel) (fun a0 H h => ?_)
  have h : zYh D (fun q : Nat => s.heap.size ≤ q) s (([] ++ zqFB k q0 u) ++ [(a0, .inl (k.1, 8, .inl (fun _ => 0)))]) _ _ := h
  refine lv_astore_n (k := 2) (lv' := [(2, .ref a0), (1, .ref q0), (0, .ref b)]) Γ.1 Γ.2.1 (by decide +kernel) rfl hl (by decide) rfl (fun ls hl => ?_)
  refine lv_bipush (n := 10) (v := 10) Γ.1 Γ.2.1 (by decide +kernel) (by decide) ?_
  refine zy_newa (atype := .int) (ty := .int) (N' := 10) (t0 := 0) (cA := k.1) (a0 := (10, .inl (fun _ => 0))) Γ hA h z0c1 rfl (fun _ z => by cases z) rfl (fun _ => rfl) (by decide) (by decide) (by decide) ⟨by decide, by decide⟩ (by decide +kernel) (fun a1 H h => ?_)
  have h : zYh D (fun q : Nat => s.heap.size ≤ q) s ((([] ++ zqFB k q0 u) ++ [(a0, .inl (k.1, 8, .inl (fun _ => 0)))]) ++ [(a1, .inl (k.1, 10, .inl (fun _ => 0)))]) _ _ := h
  refine lv_astore_n (k := 3) (lv' := [(3, .ref a1), (2, .ref a0), (1, .ref q0), (0, .ref b)]) Γ.1 Γ.2.1 (by decide +kernel) rfl hl (by decide) rfl (fun ls hl => ?_)
  refine lv_bipush (n := 10) (v := 10) Γ.1 Γ.2.1 (by decide +kernel) (by decide) ?_
  refine zy_newa (atype := .int) (ty := .int) (N' := 10) (t0 := 0) (cA := k.1) (a0 := (10, .inl (fun _ => 0))) Γ hA h z0c1 rfl (fun _ z => by cases z) rfl (fun _ => rfl) (by decide) (by decide) (by decide) ⟨by decide, by decide⟩ (by decide +kernel) (fun a2 H h => ?_)
  have h : zYh D (fun q : Nat => s.heap.size ≤ q) s (((([] ++ zqFB k q0 u) ++ [(a0, .inl (k.1, 8, .inl (fun _ => 0)))]) ++ [(a1, .inl (k.1, 10, .inl (fun _ => 0)))]) ++ [(a2, .inl (k.1, 10, .inl (fun _ => 0)))]) _ _ := h
  refine lv_astore (i := 4) (lv' := [(4, .ref a2), (3, .ref a1), (2, .ref a0), (1, .ref q0), (0, .ref b)]) Γ.1 Γ.2.1 (by decide +kernel) hl (by decide) rfl (fun ls hl => ?_)
  refine lv_bipush (n := 10) (v := 10) Γ.1 Γ.2.1 (by decide +kernel) (by decide) ?_
  refine zy_newa (atype := .int) (ty := .int) (N' := 10) (t0 := 0) (cA := k.1) (a0 := (10, .inl (fun _ => 0))) Γ hA h z0c1 rfl (fun _ z => by cases z) rfl (fun _ => rfl) (by decide) (by decide) (by decide) ⟨by decide, by decide⟩ (by decide +kernel) (fun a3 H h => ?_)
  have h : zYh D (fun q : Nat => s.heap.size ≤ q) s ((((([] ++ zqFB k q0 u) ++ [(a0, .inl (k.1, 8, .inl (fun _ => 0)))]) ++ [(a1, .inl (k.1, 10, .inl (fun _ => 0)))]) ++ [(a2, .inl (k.1, 10, .inl (fun _ => 0)))]) ++ [(a3, .inl (k.1, 10, .inl (fun _ => 0)))]) _ _ := h
  refine lv_astore (i := 5) (lv' := [(5, .ref a3), (4, .ref a2), (3, .ref a1), (2, .ref a0), (1, .ref q0), (0, .ref b)]) Γ.1 Γ.2.1 (by decide +kernel) hl (by decide) rfl (fun ls hl => ?_)
  refine lv_bipush (n := 10) (v := 10) Γ.1 Γ.2.1 (by decide +kernel) (by decide) ?_
  refine zy_newa (atype := .int) (ty := .int) (N' := 10) (t0 := 0) (cA := k.1) (a0 := (10, .inl (fun _ => 0))) Γ hA h z0c1 rfl (fun _ z => by cases z) rfl (fun _ => rfl) (by decide) (by decide) (by decide) ⟨by decide, by decide⟩ (by decide +kernel) (fun a4 H h => ?_)
  have h : zYh D (fun q : Nat => s.heap.size ≤ q) s (((((([] ++ zqFB k q0 u) ++ [(a0, .inl (k.1, 8, .inl (fun _ => 0)))]) ++ [(a1, .inl (k.1, 10, .inl (fun _ => 0)))]) ++ [(a2, .inl (k.1, 10, .inl (fun _ => 0)))]) ++ [(a3, .inl (k.1, 10, .inl (fun _ => 0)))]) ++ [(a4, .inl (k.1, 10, .inl (fun _ => 0)))]) _ _ := h
  refine lv_astore (i := 6) (lv' := [(6, .ref a4), (5, .ref a3), (4, .ref a2), (3, .ref a1), (2, .ref a0), (1, .ref q0), (0, .ref b)]) Γ.1 Γ.2.1 (by decide +kernel) hl (by decide) rfl (fun ls hl => ?_)
  refine lv_bipush (n := 10) (v := 10) Γ.1 Γ.2.1 (by decide +kernel) (by decide) ?_
  refine zy_newa (atype := .int) (ty := .int) (N' := 10) (t0 := 0) (cA := k.1) (a0 := (10, .inl (fun _ => 0))) Γ hA h z0c1 rfl (fun _ z => by cases z) rfl (fun _ => rfl) (by decide) (by decide) (by decide) ⟨by decide, by decide⟩ (by decide +kernel) (fun a5 H h => ?_)
  have h : zYh D (fun q : Nat => s.heap.size ≤ q) s ((((((([] ++ zqFB k q0 u) ++ [(a0, .inl (k.1, 8, .inl (fun _ => 0)))]) ++ [(a1, .inl (k.1, 10, .inl (fun _ => 0)))]) ++ [(a2, .inl (k.1, 10, .inl (fun _ => 0)))]) ++ [(a3, .inl (k.1, 10, .inl (fun _ => 0)))]) ++ [(a4, .inl (k.1, 10, .inl (fun _ => 0)))]) ++ [(a5, .inl (k.1, 10, .inl (fun _ => 0)))]) _ _ := h
  refine lv_astore (i := 7) (lv' := [(7, .ref a5), (6, .ref a4), (5, .ref a3), (4, .ref a2), (3, .ref a1), (2, .ref a0), (1, .ref q0), (0, .ref b)]) Γ.1 Γ.2.1 (by decide +kernel) hl (by decide) rfl (fun ls hl => ?_)
  refine lv_bipush (n := 20) (v := 20) Γ.1 Γ.2.1 (by decide +kernel) (by decide) ?_
  refine zy_newa (atype := .long) (ty := .long) (N' := 20) (t0 := 1) (cA := k.2.1) (a0 := (20, .inr (.inl (fun _ => 0)))) Γ hA h z0c2 rfl (fun _ z => by cases z) rfl (fun _ => rfl) (by decide) (by decide) (by decide) ⟨by decide, by decide⟩ (by decide +kernel) (fun a6 H h => ?_)
  have h : zYh D (fun q : Nat => s.heap.size ≤ q) s (((((((([] ++ zqFB k q0 u) ++ [(a0, .inl (k.1, 8, .inl (fun _ => 0)))]) ++ [(a1, .inl (k.1, 10, .inl (fun _ => 0)))]) ++ [(a2, .inl (k.1, 10, .inl (fun _ => 0)))]) ++ [(a3, .inl (k.1, 10, .inl (fun _ => 0)))]) ++ [(a4, .inl (k.1, 10, .inl (fun _ => 0)))]) ++ [(a5, .inl (k.1, 10, .inl (fun _ => 0)))]) ++ [(a6, .inl (k.2.1, 20, .inr (.inl (fun _ => 0))))]) _ _ := h
  refine lv_astore (i := 8) (lv' := [(8, .ref a6), (7, .ref a5), (6, .ref a4), (5, .ref a3), (4, .ref a2), (3, .ref a1), (2, .ref a0), (1, .ref q0), (0, .ref b)]) Γ.1 Γ.2.1 (by decide +kernel) hl (by decide) rfl (fun ls hl => ?_)
  obtain ⟨d, rfl, rfl, rfl, rfl, rfl, rfl, rfl⟩ : ∃ d : Nat → Nat, d 0 = a0 ∧ d 1 = a1 ∧ d 2 = a2 ∧ d 3 = a3 ∧ d 4 = a4 ∧ d 5 = a5 ∧ d 6 = a6 := ⟨fun j => [a0, a1, a2, a3, a4, a5, a6].getD j 0, rfl, rfl, rfl, rfl, rfl, rfl, rfl⟩
  have h : zYh D (fun q : Nat => s.heap.size ≤ q) s (((((((([] ++ zqFB k q0 u) ++ [(d 0, .inl (k.1, 8, .inl (fun _ => 0)))]) ++ [(d 1, .inl (k.1, 10, .inl (fun _ => 0)))]) ++ [(d 2, .inl (k.1, 10, .inl (fun _ => 0)))]) ++ [(d 3, .inl (k.1, 10, .inl (fun _ => 0)))]) ++ [(d 4, .inl (k.1, 10, .inl (fun _ => 0)))]) ++ [(d 5, .inl (k.1, 10, .inl (fun _ => 0)))]) ++ [(d 6, .inl (k.2.1, 20, .inr (.inl (fun _ => 0))))]) H locs := h
  rw [zLit_eq] at h
  have hP0 := z0_P t b L xs h.1
  have hD0 := z0_D (D := D) t b L xs h.2.1
  have hzA : ∀ q, zA (zG0 D k q0 u d t b L xs) q → (fun q : Nat => s.heap.size ≤ q) q := by
    rintro q ⟨c', n', h1, rfl⟩
    obtain ⟨j, hj, -⟩ := zws_at (zG0 D k q0 u d t b L xs) (zM0 L xs) (zobjs_mem.mpr h1)
    exact hD0.2 j _ hj
  have G0 : zGa p s m #[Value.ref b] c code 12 "FlippedBlindsLaw" (zG0 D k q0 u d t b L xs) (fun q : Nat => s.heap.size ≤ q) := ⟨hx, hb, hml, hown, hT, hK, ⟨hl1, hl2, hl3, hX, hbl, hA2 b hbl, hl4⟩, hzA, hne⟩
  obtain ⟨M', he⟩ := la_all (n := L) (by omega) (z0_inv L xs) (by unfold zgh; rw [zM1_ne L xs (by decide)]; rfl) (by rw [zM1_29]; exact zs0_0 (by decide) (by decide)) (by rw [zM1_ne L xs (by decide)]; rfl)
  have he48 : zev zC_L_law 48 (zLA none none none, [], zM0 L xs) = some (some (zI 1), M') := by
    rw [bk_L_law_48, bk_L_law_53]
    exact he
  obtain ⟨n, hn⟩ := zev_iff.mp he48
  refine W.widen (k := 147) (n := 5442) (by decide) (by decide) ?_
  refine zlaw_run (l := l) (G := (zG0 D k q0 u d t b L xs)) rfl G0 ⟨by decide, by decide⟩ hr hlocks hn (locs := locs) ⟨lv_sub hl [8, 7, 6, 5, 4, 3, 2, 1, 0] rfl, rfl, ⟨hP0, hD0, h.2.2, z0_mo (show L < 2 ^ 31 by omega)⟩, fun i v hv => ?_, fun v hv => by cases hv⟩
  match i, hv with
  | 0, hv => cases hv; exact Or.inr (Or.inr rfl)
  | 1, hv => cases hv; exact Or.inl Nat.zero_lt_one
  | 2, hv => cases hv; exact Or.inl Nat.zero_lt_one
  | 3, hv => cases hv; exact Or.inl Nat.zero_lt_one
  | 4, hv => cases hv; exact Or.inl Nat.zero_lt_one
  | 5, hv => cases hv; exact Or.inl Nat.zero_lt_one
  | 6, hv => cases hv; exact Or.inl Nat.zero_lt_one
  | 7, hv => cases hv; exact Or.inl Nat.zero_lt_one
  | 8, hv => cases hv; exact Or.inl Nat.zero_lt_one
  | 9, hv => cases hv
  | 10, hv => cases hv
  | 11, hv => cases hv
  | n + 12, hv => cases hv
-- ===== YOUR PART ENDS =====
set_option maxHeartbeats 4000000 in
theorem lw_walk (l : Launch) (hflags : l.flags = flags0) (b : Addr) (xs : List Int32) : MetFree l x (headSpec (Jvm.Cond.code x code maxLocals ret :: tables_1) room_1) (lw_P b xs) (fun _ _ _ _ _ => True) lw_Q := by
  refine MetFree.of_bodyS (code := code) (maxLocals := maxLocals) (ret := ret) (by decide) ?_ ?_
  · intro args s m h hn
    obtain ⟨meth, c, h1, h2, h3, h4, h5, h6, -, -⟩ := Cond.code_spec hn (atoms_spec (ws := Jvm.Cond.code x code maxLocals ret :: tables_1) h _ List.mem_cons_self)
    exact ⟨meth, c, h1, h2, h3, h4, h5, h6⟩
  · intro p e s m args below meth c s₁ B hml0 hP _
    obtain ⟨rfl, hx, hbd, hgv⟩ := hP
    obtain ⟨scr, harrAt, hlist, hof, hsmall⟩ := hx
    obtain ⟨hcb, hkn, -, -⟩ := State.arrayAt?_spec harrAt
    have hown : s.vm.findClass R_law = some m.cls := findClass_of_methodNamed B.named
    have hts0 : ∀ c ∈ (Jvm.Cond.code x code maxLocals ret :: tables_1), c.before #[Value.ref b] s = true := atoms_spec (ws := Jvm.Cond.code x code maxLocals ret :: tables_1) B.pre
    have hts : ∀ w ∈ lw_tbl, w.before #[Value.ref b] s = true := k2_hts_sels lw_privs (fun w hw => hts0 w (List.mem_cons_of_mem _ hw)) lw_privs_ok
    have hml : c.maxLocals = 12 := B.maxLocals_eq (hts0 _ List.mem_cons_self)
    have X₀ : Stand p l e room_1 s m #[Value.ref b] below meth c s₁ [] 0 0 := Stand.of_body B
    have hh0 : s₁.heap = s.heap := by rw [B.state]; rfl
    have hsz : scr.slots.size = xs.length := by rw [← Array.length_toList, hlist, List.length_map]
    have hval : ∀ j : Nat, j < xs.length → scr.slots[j]? = some (.int (xs.getD j 0)) := fun j hj => by
      rw [← Array.getElem?_toList, hlist]
      simp [hj]
    have hbl : b < s.heap.size := (Array.getElem?_eq_some_iff.mp hcb).1
    have hX : va_X b xs.length (fun j => xs.getD j 0) s s.heap := ⟨scr, hcb, hof, hkn, hsz, hval⟩
    have K : W p l e room_1 s m #[Value.ref b] below meth c s₁.heap [] 0 0 (lw_Z below #[Value.ref b] s) (entryFrame m ([Value.ref b] : List Value).toArray 12) := by
      rw [hh0]
      exact whole_start l hflags hbd ⟨B.exec, B.bytes, B.returns, hml, hown, hts, hX, hbl, B.notSynchronized, hgv⟩
    obtain ⟨t, a1, o, b1, b2, b3⟩ := K s₁ rfl X₀
    exact ⟨t, o, a1, b1, b2, b3⟩
theorem lw_pre_spec {args : Array Value} {s : State} (h : (Jvm.Cond.and given_1 narrow_1).before args s = true) (hr : rest_1_c.before args s = true) : ∃ (b : Addr) (xs : List Int32), lw_P b xs args s := by
  have hs := flat_of_before _ h
  have hq := flat_of_before _ hr
  have hc : (Cond.count 1).before args s = true := hs _ (by decide +kernel)
  have harr : (Cond.arrayOf (.arg 0) .int).before args s = true := hs _ (by decide +kernel)
  have hle : (Cond.le (.length (.arg 0)) (.int 260)).before args s = true := hs _ (by decide +kernel)
  have hlen : (Cond.isInt (.length (.arg 0))).before args s = true := hq _ (by decide +kernel)
  have hall : (Cond.all (.arg 0) (.isInt (.elem (.arg 0) (.index 0)))).before args s = true := hq _ (by decide +kernel)
  obtain ⟨b, xs, hb, hx⟩ := State.ints_of_pre rfl harr hlen hall
  have hsm : xs.length < 2 ^ 31 := hx.choose_spec.2.2.2
  have hev : (Term.length (.arg 0)).eval args s none [] s = some (.int xs.length.toInt32) := hx.length_eval hb
  have hv := Cond.le_ints hev (show (Term.int 260).eval args s none [] s = some (.int 260) from rfl)
  have hd : xs.length.toInt32 ≤ 260 := by
    simpa [Cond.before, Cond.holds, hv] using hle
  have hN : xs.length ≤ 260 := (Int32.ofNat_le_ofNat hsm (by decide)).mp (show Int32.ofNat xs.length ≤ Int32.ofNat 260 from hd)
  exact ⟨b, xs, Cond.one_arg hc (show args[0]? = some (.ref b) from hb), hx, hN, h⟩
theorem lw_comes (l : Launch) (hflags : l.flags = flags0) : Comes l x (Jvm.Cond.code x code maxLocals ret :: tables_1) room_1 (fun tb e args s => Calls_1 tb e args s ∧ rest_1 tb e args s ∧ Pre_1 tb e args s)
    (fun _ _ args s o t => lw_Q args s o t) := by
  intro p e ha hc hk s m args below hf hfit hheap happ hpre
  obtain ⟨b, xs, hP⟩ := lw_pre_spec hpre.2.2 hpre.2.1
  obtain ⟨k, o, h1, h2, h3, hQ⟩ := lw_walk l hflags b xs p e ha hc hk s m args below hf ((Spec.applies_iff_loose hf).mp happ).1 hP trivial
  exact ⟨k, o, h1, h2, h3, hQ⟩
theorem lw_frame {s t : State} {o : Outcome} {args : Array Value} (h : Framed s o t [] 619300 7244347) :
    Framed s o t (fieldLocs frame_1_writes args s ++ arrayLocs frame_1_arrays args s ++ staticLocs frame_1_statics s) 619300 7244347 := h
theorem lw_limb (L : Cond) (hL : ∀ (args : Array Value) (s t : State), L.after args s (.returned (some (.int 1))) t = true) :
    ArmFor flags0 classFile x code maxLocals ret World_1 tables_1 room_1 Calls_1 rest_1 Pre_1
      (fun tb e a s o t => postC L tb e a s o t ∧ Framed s o t (fieldLocs frame_1_writes a s ++ arrayLocs frame_1_arrays a s ++ staticLocs frame_1_statics s) 619300 7244347) := by
  intro l hflags _ _ p e ha hc hk s m args below hf hfit hheap happ hpre
  obtain ⟨k, o, h1, h2, h3, rfl, hF⟩ := lw_comes l hflags p e ha hc hk s m args below hf hfit hheap happ hpre
  exact ⟨k, _, h1, h2, h3, hL args s _, lw_frame hF⟩
theorem i_vc : Claimed_1_1 ∧ Claimed_1_2 := ⟨lw_limb limb_1_1 (fun args s t => by simp [limb_1_1, Cond.after, Cond.holds, Cond.value]), lw_limb limb_1_2 (fun args s t => Cond.after_iff.mpr (by
  first | (rw [show limb_1_2 = Cond.eq .result (.int 1) from rfl, Cond.eq_ints (x := 1) (y := 1) rfl rfl]; simp; done) | (simp [limb_1_2, Cond.value, Term.eval]; done)))⟩
