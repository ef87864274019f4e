-- ===== from the entry =====
theorem z0i0 : Cond.instantiable RX0 7 ∈ zTs := zTs_of (List.mem_of_getElem? (i := 93) (by decide +kernel)) rfl
theorem z0i1 : Cond.instantiable RX1 2 ∈ zTs := zTs_of (List.mem_of_getElem? (i := 99) (by decide +kernel)) rfl
theorem z0i2 : Cond.instantiable RX2 2 ∈ zTs := zTs_of (List.mem_of_getElem? (i := 183) (by decide +kernel)) rfl
theorem z0i3 : Cond.instantiable RX3 5 ∈ zTs := zTs_of (List.mem_of_getElem? (i := 215) (by decide +kernel)) rfl
theorem z0i4 : Cond.instantiable RX4 8 ∈ zTs := zTs_of (List.mem_of_getElem? (i := 50) (by decide +kernel)) rfl
theorem z0i5 : Cond.instantiable RX5 2 ∈ zTs := zTs_of (List.mem_of_getElem? (i := 200) (by decide +kernel)) rfl
theorem z0i6 : Cond.instantiable RX6 6 ∈ zTs := zTs_of (List.mem_of_getElem? (i := 56) (by decide +kernel)) rfl
theorem z0i7 : Cond.instantiable RX7 8 ∈ zTs := zTs_of (List.mem_of_getElem? (i := 42) (by decide +kernel)) rfl
theorem z0i8 : Cond.instantiable RX8 18 ∈ zTs := zTs_of (List.mem_of_getElem? (i := 650) (by decide +kernel)) rfl
theorem z0_classes {args : Array Value} {s : State} (hT : ∀ w ∈ zTs, w.before args s = true) : ∃ D : va_G, ∀ (c : Nat) (q : vw_C), vwCl[c]? = some q → u_Kn s q.1 q.2.1 q.2.2 (D.1 c) (D.2 c) := by
  have h : ∀ c : Nat, ∃ (x : ClassId) (f : Nat → Nat), ∀ q : vw_C, vwCl[c]? = some q → u_Kn s q.1 q.2.1 q.2.2 x f := by
    intro c
    match c with
    | 0 =>
      obtain ⟨x, f, h⟩ := u_known hT zin0 (hT _ z0i0)
      exact ⟨x, f, fun q hq => by cases hq; exact h⟩
    | 1 =>
      obtain ⟨x, f, h⟩ := u_known hT zin1 (hT _ z0i1)
      exact ⟨x, f, fun q hq => by cases hq; exact h⟩
    | 2 =>
      obtain ⟨x, f, h⟩ := u_known hT zin2 (hT _ z0i2)
      exact ⟨x, f, fun q hq => by cases hq; exact h⟩
    | 3 =>
      obtain ⟨x, f, h⟩ := u_known hT zin3 (hT _ z0i3)
      exact ⟨x, f, fun q hq => by cases hq; exact h⟩
    | 4 =>
      obtain ⟨x, f, h⟩ := u_known hT zin4 (hT _ z0i4)
      exact ⟨x, f, fun q hq => by cases hq; exact h⟩
    | 5 =>
      obtain ⟨x, f, h⟩ := u_known hT zin5 (hT _ z0i5)
      exact ⟨x, f, fun q hq => by cases hq; exact h⟩
    | 6 =>
      obtain ⟨x, f, h⟩ := u_known hT zin6 (hT _ z0i6)
      exact ⟨x, f, fun q hq => by cases hq; exact h⟩
    | 7 =>
      obtain ⟨x, f, h⟩ := u_known hT zin7 (hT _ z0i7)
      exact ⟨x, f, fun q hq => by cases hq; exact h⟩
    | 8 =>
      obtain ⟨x, f, h⟩ := u_known hT zin8 (hT _ z0i8)
      exact ⟨x, f, fun q hq => by cases hq; exact h⟩
    | n + 9 => exact ⟨0, fun _ => 0, fun q hq => by cases hq⟩
  exact ⟨(fun c => (h c).choose, fun c => (h c).choose_spec.choose), fun c q hq => (h c).choose_spec.choose_spec q hq⟩
theorem z0_arr {args : Array Value} {s : State} {ty : FieldType} (h : (Cond.arrayClass ty).before args s = true) (hob : ∀ C, ty ≠ .object C) : ∃ c : ClassId, ArrOfT s c ty ∧ va_RA s c ty := by
  obtain ⟨c, k, comp, h1, h2, h3⟩ := Cond.arrayClass_spec h
  refine ⟨c, fun n z => ⟨fun k h => (by cases h), k, h2, comp, h3⟩, ?_⟩
  cases ty with
  | object C => exact absurd rfl (hob C)
  | _ => exact h1
theorem z0_arrO {s : State} {C : String} (h : va_AO C s) : ∃ c : ClassId, ArrOfT s c (.object C) ∧ va_RA s c (.object C) := by
  obtain ⟨comp, c, k, h1, h2, h3, h4, h5⟩ := Cond.arrayOver_spec h
  exact ⟨c, fun n z => ⟨fun k h => (by cases h), k, h3, comp, h4⟩, k, comp, h3, h4, h1, h5⟩
theorem z0_tys {args : Array Value} {s : State} (h1 : (Cond.arrayClass .int).before args s = true) (h2 : (Cond.arrayClass .long).before args s = true) (h3 : (Cond.arrayClass .char).before args s = true) (h4 : va_AO RX4 s) : ∃ k : zQu, ∀ (j : Nat) (q : ClassId × FieldType), (zty k)[j]? = some q → ArrOfT s q.1 q.2 ∧ va_RA s q.1 q.2 := by
  obtain ⟨a, a1⟩ := z0_arr h1 (fun _ z => by cases z)
  obtain ⟨b, b1⟩ := z0_arr h2 (fun _ z => by cases z)
  obtain ⟨c, c1⟩ := z0_arr h3 (fun _ z => by cases z)
  obtain ⟨d, d1⟩ := z0_arrO h4
  refine ⟨(a, b, c, d), fun j q hq => ?_⟩
  match j, hq with
  | 0, hq => cases hq; exact a1
  | 1, hq => cases hq; exact b1
  | 2, hq => cases hq; exact c1
  | 3, hq => cases hq; exact d1
  | n + 4, hq => cases hq
theorem z0_nest : ∀ q ∈ zNd, Cond.methodLinkNest q.1 q.2.1 q.2.2.1 q.2.2.2 ∈ lw_tbl := by decide +kernel
theorem z0_lays : Cond.laysStatic "FlippedBlinds" "LETTERS" "[I" ∈ lw_tbl := List.mem_of_getElem? (i := 329) (by decide +kernel)
theorem z0_inib : Cond.initialized "FlippedBlinds" ∈ lw_tbl := List.mem_of_getElem? (i := 29) (by decide +kernel)
theorem z0_over : Cond.arrayOver (.object RX4) ∈ lw_tbl := List.mem_of_getElem? (i := 189) (by decide +kernel)
abbrev zSL : Term := Term.static "FlippedBlinds" "LETTERS" "[I"
set_option maxRecDepth 100000 in
theorem z0_let {args : Array Value} {s : State} {A : Nat → Prop} (hg : (Jvm.Cond.and given_1 narrow_1).before args s = true) (hl : (Cond.laysStatic "FlippedBlinds" "LETTERS" "[I").before args s = true) (hini : (Cond.initialized "FlippedBlinds").before args s = true) (hA : ∀ a : Nat, a < s.heap.size → ¬ A a) : ∃ t : Nat, zXl t s s.heap ∧ t < s.heap.size ∧ ¬ A t ∧ va_Z "FlippedBlinds" "LETTERS" "[I" (.ref t) A s s.heap := by
  have hs := flat_of_before _ hg
  have hel : ∀ j : Nat, j < 17 → (Term.elem zSL (.int (Int32.ofNat j))).eval args s none [] s = some (.int (zlet j)) := by
    intro j hj
    match j, hj with
    | 0, _ => exact va_eqt (hs (Cond.eq (.elem zSL (.int 0)) (.int 0)) (by decide +kernel))
    | 1, _ => exact va_eqt (hs (Cond.eq (.elem zSL (.int 1)) (.int 153429)) (by decide +kernel))
    | 2, _ => exact va_eqt (hs (Cond.eq (.elem zSL (.int 2)) (.int 415318)) (by decide +kernel))
    | 3, _ => exact va_eqt (hs (Cond.eq (.elem zSL (.int 3)) (.int 214083)) (by decide +kernel))
    | 4, _ => exact va_eqt (hs (Cond.eq (.elem zSL (.int 4)) (.int 415062)) (by decide +kernel))
    | 5, _ => exact va_eqt (hs (Cond.eq (.elem zSL (.int 5)) (.int 476743)) (by decide +kernel))
    | 6, _ => exact va_eqt (hs (Cond.eq (.elem zSL (.int 6)) (.int 476740)) (by decide +kernel))
    | 7, _ => exact va_eqt (hs (Cond.eq (.elem zSL (.int 7)) (.int 214355)) (by decide +kernel))
    | 8, _ => exact va_eqt (hs (Cond.eq (.elem zSL (.int 8)) (.int 350037)) (by decide +kernel))
    | 9, _ => exact va_eqt (hs (Cond.eq (.elem zSL (.int 9)) (.int 467495)) (by decide +kernel))
    | 10, _ => exact va_eqt (hs (Cond.eq (.elem zSL (.int 10)) (.int 69970)) (by decide +kernel))
    | 11, _ => exact va_eqt (hs (Cond.eq (.elem zSL (.int 11)) (.int 349781)) (by decide +kernel))
    | 12, _ => exact va_eqt (hs (Cond.eq (.elem zSL (.int 12)) (.int 279623)) (by decide +kernel))
    | 13, _ => exact va_eqt (hs (Cond.eq (.elem zSL (.int 13)) (.int 358229)) (by decide +kernel))
    | 14, _ => exact va_eqt (hs (Cond.eq (.elem zSL (.int 14)) (.int 415061)) (by decide +kernel))
    | 15, _ => exact va_eqt (hs (Cond.eq (.elem zSL (.int 15)) (.int 152914)) (by decide +kernel))
    | 16, _ => exact va_eqt (hs (Cond.eq (.elem zSL (.int 16)) (.int 415300)) (by decide +kernel))
    | n + 17, h => omega
  obtain ⟨t, ht, cell, h1, h2, h3, h4, h5, h6, h7⟩ := va_Tof (tm := zSL) (N := 17) (f := fun j => .int (zlet j)) (A := A) (by decide) (hs (Cond.arrayOf zSL .int) (by decide +kernel)) (va_eqt (hs (Cond.eq (.length zSL) (.int 17)) (by decide +kernel))) hel hA
  exact ⟨t, ⟨cell, h1, h2, h3, h4, h6⟩, (Array.getElem?_eq_some_iff.mp h1).1, h7, va_Zref hl hini ht hA⟩
theorem z0a1 : Cond.classLink R_law 7 RX7 ∈ zTs := zTs_of (List.mem_of_getElem? (i := 41) (by decide +kernel)) rfl
theorem z0a2 : Cond.initialized RX7 ∈ zTs := zTs_of (List.mem_of_getElem? (i := 29) (by decide +kernel)) rfl
theorem z0a3 : Cond.methodLink R_law 9 yX7_init ∈ zTs := zTs_of (List.mem_of_getElem? (i := 43) (by decide +kernel)) rfl
theorem z0a4 : Cond.instanceMethod yX7_init ∈ zTs := zTs_of (List.mem_of_getElem? (i := 44) (by decide +kernel)) rfl
theorem z0a5 : Cond.code yX7_init cX7_init 1 none ∈ zTs := zTs_of (List.mem_of_getElem? (i := 45) (by decide +kernel)) rfl
theorem z0b1 : Cond.classLink R_law 10 RX8 ∈ zTs := zTs_of (List.mem_of_getElem? (i := 649) (by decide +kernel)) rfl
theorem z0b2 : Cond.initialized RX8 ∈ zTs := zTs_of (List.mem_of_getElem? (i := 37) (by decide +kernel)) rfl
theorem z0b3 : Cond.methodLink R_law 12 yX8_init ∈ zTs := zTs_of (List.mem_of_getElem? (i := 651) (by decide +kernel)) rfl
theorem z0b4 : Cond.instanceMethod yX8_init ∈ zTs := zTs_of (List.mem_of_getElem? (i := 652) (by decide +kernel)) rfl
theorem z0b5 : Cond.code yX8_init cX8_init 1 none ∈ zTs := zTs_of (List.mem_of_getElem? (i := 653) (by decide +kernel)) rfl
theorem z0c1 : Cond.arrayClass .int ∈ zTs := zTs_of (List.mem_of_getElem? (i := 90) (by decide +kernel)) rfl
theorem z0c2 : Cond.arrayClass .long ∈ zTs := zTs_of (List.mem_of_getElem? (i := 91) (by decide +kernel)) rfl
theorem z0c3 : Cond.arrayClass .char ∈ zTs := zTs_of (List.mem_of_getElem? (i := 213) (by decide +kernel)) rfl
set_option maxHeartbeats 4000000 in
set_option maxRecDepth 100000 in
/-- from the entry, for every script of at most 2560 ints, the law comes to its end with true -/
theorem whole_start {p : Program} {e : Env} {s : State} {m : MethodId} {below : List Frame} {meth : Method} {c : Code} (l : Launch) (hflags : l.flags = flags0) {b L : Nat} {xs : Nat → Int32} (hL : L ≤ 2560) (C0 : lw_At p s m meth c b L xs) : W p l e room_1 s m #[Value.ref b] below meth c s.heap [] 0 0 (lw_Z below #[Value.ref b] s) (entryFrame m ([Value.ref b] : List Value).toArray 4) := by
  obtain ⟨hx, hb, hr, hml, hown, hts, hX, hbl, hlocks, hgv⟩ := id C0
  have hT : ∀ w ∈ zTs, w.before #[Value.ref b] s = true := fun w hw => hts w (List.mem_filter.mp hw).1
  have hao : va_AO RX4 s := va_AO.of (hts _ z0_over)
  have hne : zne s := fun q hq => va_Nw.of rfl (hts _ (z0_nest q hq))
  obtain ⟨D, hKc⟩ := z0_classes hT
  obtain ⟨k, hKa⟩ := z0_tys (hT _ z0c1) (hT _ z0c2) (hT _ z0c3) hao
  have hK : va_K D vwCl (zty k) s := ⟨hKc, hKa⟩
  have Γ : zYa p s m #[Value.ref b] c code 4 R_law D k := ⟨hx, hb, hml, hown, hT, hK, hne, hao⟩
  have hA : ∀ q : Nat, s.heap.size ≤ q → (fun q : Nat => s.heap.size ≤ q) q := fun _ h => h
  have hA2 : ∀ a : Nat, a < s.heap.size → ¬ (fun q : Nat => s.heap.size ≤ q) a := fun a h => Nat.not_le.mpr h
  obtain ⟨t, hl1, hl2, hl3, hl4⟩ := z0_let (A := fun q : Nat => s.heap.size ≤ q) hgv (hts _ z0_lays) (hts _ z0_inib) hA2
  have h : zYh D (fun q : Nat => s.heap.size ≤ q) s [] s.heap [] := ⟨fun k q h => by simp at h, ⟨fun i j p q h => by simp at h, fun k q h => by simp at h⟩, va_S.rf⟩
  have hl := lv_entry ([.ref b]) (n := 4) (Nat.le_of_ble_eq_true rfl)
  rw [lg_entry_eq]
  generalize (lg_sl ([.ref b]) ++ List.replicate (4 - (lg_sl ([.ref b])).length) Slot.unset).toArray = ls at hl ⊢
  have hl : lv_has ls 4 [(0, .ref b)] := hl
  refine zy_new (ci := 7) (C := RX7) (T := TX7) (N := 8) (fs := [.null, .null, .null, .null, .null, .int 0, .int 0, .int 0]) Γ hA h zin7 tyX7 tyX7_ok z0a1 z0i7 z0a2 rfl zdf7 ⟨by decide, by decide⟩ (by decide +kernel) (fun q0 H h => ?_)
  refine lv_dup Γ.1 Γ.2.1 (by decide +kernel) rfl ?_
  refine zy_init (pre := []) (b := q0) (ce := .inr (7, [.null, .null, .null, .null, .null, .int 0, .int 0, .int 0])) (n := 0) (as := []) (rest := [.ref q0]) Γ hA h (cX7 l D k q0) z0a3 z0a4 z0a2 z0a5 rfl (by decide +kernel) rfl ⟨by decide, by decide⟩ rfl hl.1 (Nat.le_of_ble_eq_true rfl) (by decide +kernel) ⟨by decide, by decide⟩ (fun u H locs h => ?_)
  refine lv_astore_n (k := 1) (lv' := [(1, .ref q0), (0, .ref b)]) Γ.1 Γ.2.1 (by decide +kernel) rfl hl (by decide) rfl (fun ls hl => ?_)
  refine zy_new (ci := 8) (C := RX8) (T := TX8) (N := 18) (fs := [.null, .null, .null, .int 0, .int 0, .null, .int 0, .null, .int 0, .int 0, .int 0, .int 0, .int 0, .int 0, .int 0, .int 0, .null, .null]) Γ hA h zin8 tyX8 tyX8_ok z0b1 z0i8 z0b2 rfl zdf8 ⟨by decide, by decide⟩ (by decide +kernel) (fun q8 H h => ?_)
  refine lv_dup Γ.1 Γ.2.1 (by decide +kernel) rfl ?_
  refine zy_init (pre := [] ++ zqFB k q0 u) (b := q8) (ce := .inr (8, [.null, .null, .null, .int 0, .int 0, .null, .int 0, .null, .int 0, .int 0, .int 0, .int 0, .int 0, .int 0, .int 0, .int 0, .null, .null])) (n := 0) (as := []) (rest := [.ref q8]) Γ hA h (cX8 l D k q8) z0b3 z0b4 z0b2 z0b5 rfl (by decide +kernel) rfl ⟨by decide, by decide⟩ rfl hl.1 (Nat.le_of_ble_eq_true rfl) (by decide +kernel) ⟨by decide, by decide⟩ (fun d H locs h => ?_)
  refine lv_astore_n (k := 2) (lv' := [(2, .ref q8), (1, .ref q0), (0, .ref b)]) Γ.1 Γ.2.1 (by decide +kernel) rfl hl (by decide) rfl (fun ls hl => ?_)
  refine lv_iconst (n := 0) (v := nI 0) Γ.1 Γ.2.1 (by decide +kernel) (by decide) ?_
  refine lv_istore_n (k := 3) (lv' := [(3, .int (nI 0)), (2, .ref q8), (1, .ref q0), (0, .ref b)]) Γ.1 Γ.2.1 (by decide +kernel) rfl hl (by decide) rfl (fun ls hl => ?_)
  have h : zYh D (fun q : Nat => s.heap.size ≤ q) s (([] ++ zqFB k q0 u) ++ zqMo k q8 d) H locs := h
  rw [zLit_eq] at h
  have hP0 := z0_P t b L xs h.1
  have hD0 := z0_D (D := D) t b L xs h.2.1
  have hzA : ∀ q, zA (zG0 D k q0 u q8 d t b L xs) q → (fun q : Nat => s.heap.size ≤ q) q := by
    rintro q ⟨c', n', h1, rfl⟩
    obtain ⟨j, hj, -⟩ := zws_at (zG0 D k q0 u q8 d t b L xs) (zM0 L xs) (zobjs_mem.mpr h1)
    exact hD0.2 j _ hj
  have G0 : zGa p s m #[Value.ref b] c code 4 "FlippedBlindsLaw" (zG0 D k q0 u q8 d t b L xs) (fun q : Nat => s.heap.size ≤ q) := ⟨hx, hb, hml, hown, hT, hK, ⟨hl1, hl2, hl3, hX, hbl, hA2 b hbl, hl4⟩, hzA, hne⟩
  obtain ⟨M', he⟩ := la_all (n := L) (by omega) (L / 5) 0 0 (zM0 L xs) (by omega) (by omega) (by omega) (z0_inv L xs) rfl
  obtain ⟨n, hn⟩ := zev_iff.mp he
  refine W.widen (k := 148) (n := 7047) (by decide) (by decide) ?_
  refine zlaw_run (l := l) G0 ⟨by decide, by decide⟩ hr hlocks hn (locs := locs) ⟨lv_sub hl [3, 2, 1, 0] rfl, rfl, ⟨hP0, hD0, h.2.2, z0_mo (by omega)⟩, fun i v hv => ?_, fun v hv => by cases hv⟩
  match i, hv with
  | 0, hv => cases hv; exact Or.inr (Or.inr rfl)
  | 1, hv => cases hv; exact Or.inl (by decide)
  | 2, hv => cases hv; exact Or.inl (by decide)
  | 3, hv => cases hv; trivial
  | n + 4, hv => cases hv
