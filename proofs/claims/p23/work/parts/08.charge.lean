-- ===== charged calls; a method that makes a row =====
theorem zws_cg {G : zG} {M M' : zM} (h : ∀ c n, n < zcn (zsi G) c → M'.1 c n = M.1 c n) (h2 : M'.2 = M.2) : zws G M' = zws G M := by
  unfold zws
  refine List.map_congr_left (fun q hq => ?_)
  have e := h q.1 q.2 (zobjs_mem.mp hq)
  show (_, zce G q.1 q.2 (M'.1 q.1 q.2) _ _) = (_, zce G q.1 q.2 (M.1 q.1 q.2) _ _)
  rw [e, h2]
theorem zcn_n {b : Bool} {c n : Nat} (h : n < zcn b c) : c ≠ 43 ∧ (b = false → c ≠ 36) := by
  refine ⟨fun z => ?_, fun hb z => ?_⟩
  · have := zcn_lt (b := b) (c := c) (by omega)
    omega
  · subst hb z
    exact absurd h (Nat.not_lt_zero _)
theorem zmo.gs {G : zG} {M : zM} (h : zmo G M) (k : Nat) : zmo (zgt G k) (zgs M k) := by
  refine ⟨fun i hi => ?_, fun i hi => ?_, ?_, h.2.2.2.1, h.2.2.2.2.1, ?_⟩
  · show zst M.1 43 0 (fun _ => nI k) 40 0 i = _
    rw [zst_ne _ _ (by omega)]; exact h.1 i hi
  · show zst M.1 43 0 (fun _ => nI k) 41 0 i = _
    rw [zst_ne _ _ (by omega)]; exact h.2.1 i hi
  · show zst M.1 43 0 (fun _ => nI k) 42 0 0 = _
    rw [zst_ne _ _ (by omega)]; exact h.2.2.1
  · show zst M.1 43 0 (fun _ => nI k) 43 0 0 = nI k
    rw [zst_self]
theorem zc_gt (G : zG) (g : Nat) : zc (zgt G g) = zc G := rfl
theorem zlv_cg {G G' : zG} : ∀ (L : List (Option zV)) (i : Nat), (∀ j v, zget L j = some v → zc G' v = zc G v) → zlv G' i L = zlv G i L
  | [], _, _ => rfl
  | none :: t, i, h => by
    rw [zlv, zlv]
    exact zlv_cg t (i + 1) (fun j v hv => h (j + 1) v hv)
  | some v :: t, i, h => by
    rw [zlv, zlv, h 0 v rfl, zlv_cg t (i + 1) (fun j v hv => h (j + 1) v hv)]
theorem zlv_gt (G : zG) (g i : Nat) (L : List (Option zV)) : zlv (zgt G g) i L = zlv G i L := zlv_cg L i (fun _ _ _ => rfl)
theorem zws_gs (G : zG) (M : zM) (f : Nat → Int32) : zws G (zst M.1 43 0 f, M.2) = zws G M := zws_cg (fun c n h => zst_ne _ _ (fun z => (zcn_n h).1 z.1)) rfl
theorem W.post {p : Program} {l : Launch} {e : Env} {R : Room} {s : State} {m : MethodId} {args : Array Value} {below : List Frame} {meth : Method} {c : Code} {H : Heap} {locs : List Loc} {cells slots : Nat} {Q Q' : State → Prop} {g : JFrame} (h : W p l e R s m args below meth c H locs cells slots Q g) (hq : ∀ t, Q t → Q' t) : W p l e R s m args below meth c H locs cells slots Q' g := by
  intro T hT X
  obtain ⟨t, a, b⟩ := h T hT X
  exact ⟨t, a, hq t b⟩
theorem frame_old {s t : State} {o : Outcome} {L : List Loc} {k n : Nat} (h : FrameEnd s o t L k n) : FrameEnd s o t (L.filter (fun q => decide (q.base < s.heap.size))) k n := by
  obtain ⟨h1, h2, h3, h4, h5, h6, h7, h8⟩ := h
  refine ⟨h1, h2, h3, h4, h5, h6, h7, fun a c hc => ?_⟩
  obtain ⟨c', g1, g2, g3, g4⟩ := h8 a c hc
  refine ⟨c', g1, g2, g3, fun i hi => g4 i (fun hm => hi (List.mem_filter.mpr ⟨hm, ?_⟩))⟩
  have := (Array.getElem?_eq_some_iff.mp hc).1
  simpa using this
theorem MQ_old {below : List Frame} {Qc : Array Value → State → Outcome → State → Prop} {a : Array Value} {s : State} {mc ms : Nat} {free free' : Addr → Prop} (hf : ∀ q, free' q → q < s.heap.size → free q) {t : State} (h : MQ below Qc a s mc ms free' t) : MQ below Qc a s mc ms free t := by
  obtain ⟨o, h1, h2, h3, L, h4, h5⟩ := h
  refine ⟨o, h1, h2, h3, _, frame_old h4, fun q hq => ?_⟩
  obtain ⟨hm, hd⟩ := List.mem_filter.mp hq
  exact hf _ (h5 q hm) (by simpa using hd)
theorem MQ_q {below : List Frame} {Qc Qc' : Array Value → State → Outcome → State → Prop} {a : Array Value} {s : State} {mc ms : Nat} {free : Addr → Prop} (hf : ∀ o t, Qc a s o t → Qc' a s o t) {t : State} (h : MQ below Qc a s mc ms free t) : MQ below Qc' a s mc ms free t := by
  obtain ⟨o, h1, h2, h3, h4⟩ := h
  exact ⟨o, h1, h2, hf _ _ h3, h4⟩
/-- one instruction, g charged calls behind it: u cells and w slots each -/
def zNxC (p : Program) (l : Launch) (e : Env) (R : Room) (s : State) (m : MethodId) (args : Array Value) (below : List Frame) (meth : Method) (c : Code) (n u w c0 s0 : Nat) (G : zG) (A : Nat → Prop) (nL pc : Nat) (x : zX) : Prop :=
  ∀ (f : zF) (pc' : Nat) (f' : zF), x pc f = some (.inr (pc', f')) → ∀ g, g ≤ n → ∀ (H : Heap) (locs : List Loc) (ls : Array Slot) (Q : State → Prop), zHo s (zgt G g) A nL f H locs ls →
    (∀ g', g' ≤ n → ∀ (H' : Heap) (locs' : List Loc) (ls' : Array Slot), zHo s (zgt G g') A nL f' H' locs' ls' → W p l e R s m args below meth c H' locs' (c0 + g' * u) (s0 + g' * w) Q (F0 m pc' ls' (f'.2.1.map (zc G)))) → W p l e R s m args below meth c H locs (c0 + g * u) (s0 + g * w) Q (F0 m pc ls (f.2.1.map (zc G)))
section ZC
variable {p : Program} {l : Launch} {e : Env} {R : Room} {s : State} {m : MethodId} {args : Array Value} {below : List Frame} {meth : Method} {c : Code} {n u w c0 s0 : Nat} {cc : ByteArray} {nL : Nat} {own : String} {G : zG} {A : Nat → Prop} {pc : Nat}
theorem zGa_g (Γ : zGa p s m args c cc nL own G A) (g : Nat) : zGa p s m args c cc nL own (zgt G g) A := Γ
theorem zNxC.of {x : zX} (hc : c0 + n * u ≤ R.cells ∧ s0 + n * w ≤ R.slots) (h : ∀ g cells slots, cells ≤ R.cells ∧ slots ≤ R.slots → zNx p l e R s m args below meth c cells slots (zgt G g) A nL pc x) : zNxC p l e R s m args below meth c n u w c0 s0 G A nL pc x := by
  intro f pc' f' hx g hg H locs ls Q hH kk
  have h1 := Nat.mul_le_mul_right u hg
  have h2 := Nat.mul_le_mul_right w hg
  exact h g _ _ ⟨by omega, by omega⟩ f pc' f' hx H locs ls Q hH (fun H' locs' ls' hH' => kk g hg H' locs' ls' hH')
theorem zNxC.dr {x : zX} {ks : List Bool} (h : zNxC p l e R s m args below meth c n u w c0 s0 G A nL pc x) : zNxC p l e R s m args below meth c n u w c0 s0 G A nL pc (zdr ks x) := by
  intro f pc' f' hx g hg H locs ls Q hH kk
  obtain ⟨L, q⟩ := f
  exact h (zdrs L ks, q) pc' f' hx g hg H locs ls Q (zHo_dr ks hH) kk
theorem zcallc_aux {k : Nat} {f : zF} {g : List zV → zM → Option zQ} {pc' : Nat} {f' : zF} (hx : zcallc n k g pc f = some (.inr (pc', f'))) : ∃ r, zcats (f.2.1.drop k) ≤ 8 ∧ k ≤ f.2.1.length ∧ zgh f.2.2 < n ∧ g (f.2.1.take k).reverse f.2.2 = some r ∧ pc' = pc + 3 ∧ f' = (f.1, zpush r.1 (f.2.1.drop k), zgs r.2 (zgh f.2.2 + 1)) := by
  unfold zcallc at hx
  split at hx
  · rename_i hb hb2
    by_cases hn : n ≤ zgh f.2.2
    · rw [if_pos hn] at hx; cases hx
    · rw [if_neg hn] at hx
      cases hg : g (f.2.1.take k).reverse f.2.2 with
      | none => rw [hg] at hx; cases hx
      | some r =>
        rw [hg] at hx
        have hx := Sum.inr.inj (Option.some.inj hx)
        exact ⟨r, Nat.le_of_ble_eq_true hb, Nat.le_of_ble_eq_true hb2, by omega, rfl, (congrArg Prod.fst hx).symm, (congrArg Prod.snd hx).symm⟩
  · cases hx
theorem no_zcallc (n k : Nat) (g : List zV → zM → Option zQ) : zno (zcallc n k g) := by
  intro pc f r h
  unfold zcallc at h
  split at h
  · split at h
    · cases h
    · cases hg : g (f.2.1.take k).reverse f.2.2 with
      | none => rw [hg] at h; cases h
      | some q => rw [hg] at h; cases h
  · cases h
theorem zs_callC (Γ : zGa p s m args c cc nL own G A) {k idx maxL : Nat} {y : MethodName} {bytes : ByteArray} {ret : Option FieldType} {rm : Room} {g : List zV → zM → Option zQ} (hn : n < 2 ^ 31) (hd : decode cc pc = .ok (.invokestatic idx, 3)) (hM : ∀ j, zMet l (zgt G j) y bytes maxL ret rm g)
    (h1 : Cond.methodLink own idx y ∈ zTs) (h2 : Cond.static y ∈ zTs) (h4 : Cond.initialized y.cls ∈ zTs) (h5 : Cond.code y bytes maxL ret ∈ zTs)
    (hyd : y.cls ≠ "java/lang/invoke/MethodHandle" ∧ y.cls ≠ "java/lang/invoke/VarHandle" ∧ (parseMethodDescriptor y.desc).map (fun d => d.parameters.length) = some k) (hrm : rm.cells = u ∧ rm.slots = w) (hR : rm.frames + 1 ≤ R.frames ∧ 8 + (maxL + 11) + rm.locals ≤ R.locals) (hcs : c0 + n * u ≤ R.cells ∧ s0 + n * w ≤ R.slots) : zNxC p l e R s m args below meth c n u w c0 s0 G A nL pc (zcallc n k g) := by
  intro f pc' f' hx j hj H locs ls Q hH kk
  obtain ⟨r, hb, hk, hlt, hg, hpc, hf'⟩ := zcallc_aux hx
  subst hpc hf'
  obtain ⟨L, st, M⟩ := f
  have hgh : zgh M = j := by
    unfold zgh
    have e43 : M.1 43 0 0 = nI j := hH.2.2.1.2.2.2.2.2.2.2.2
    rw [e43]
    exact nI_clamp (by omega)
  have hj2 : j + 1 ≤ n := by rw [← hgh]; exact hlt
  have hu := Nat.mul_le_mul_right u hj2
  have hw := Nat.mul_le_mul_right w hj2
  rw [Nat.succ_mul] at hu hw
  have hs := zc_cats G (st.drop k)
  have hS := hH.2.2.1.2.2.1
  have hgood : GoodIn zTs (zwsy y bytes maxL ret) := fun w hw => by
    have : w ∈ zTs := (List.mem_cons.mp hw).elim (fun e => e ▸ h5) (fun h => h)
    exact ⟨this, zTs_good w this⟩
  have hM' := hM j _ M r hg
  rw [hrm.1, hrm.2] at hM'
  refine zrun_call (G := zgt G j) (r := r) (rest := (st.drop k).map (zc G)) (va_runS (n := k) (As := ((st.take k).reverse).map (zc G)) ⟨Γ.1, Γ.2.1, Γ.2.2.1, Γ.2.2.2.1, Γ.2.2.2.2.1⟩ hM' ⟨callB_of k Γ.2.2.2.2.1 hgood rfl hrm.1 hrm.2 (Γ.2.2.2.2.1 _ h4) (Γ.2.2.2.2.1 _ h1) hyd hR, Γ.2.2.2.2.1 _ h2⟩
    ⟨zPc_blind, fun U hU hW => zs_start (zGa_g Γ j) hH hU hW (fun v hv => hH.2.2.2.2 v (List.mem_of_mem_take (List.mem_reverse.mp hv)))⟩ rfl (by rw [List.length_map, List.length_reverse, List.length_take]; exact Nat.min_eq_left hk) hH.1.1 ?_ (lv_room (by rw [hs]; exact hb)) hd ⟨by omega, by omega⟩) hS Γ.2.2.2.2.2.2.2.1 (fun H1 locs1 hP1 hmo1 hrv hS1 => ?_)
  · show st.map (zc G) = _
    rw [← List.map_reverse, List.reverse_reverse, ← List.map_append, List.take_append_drop]
  · have k2 := kk (j + 1) hj2 H1 locs1 ls ⟨(by have h1 := hH.1; rw [zlv_gt] at h1 ⊢; exact h1), hH.2.1, ⟨?_, ?_, hS1, ?_⟩, ?_⟩
    · have e1 : (zpush r.1 (st.drop k)).map (zc G) = (r.1.map (zc G)).toList ++ (st.drop k).map (zc G) := by cases r.1 <;> rfl
      rw [show c0 + j * u + u = c0 + (j + 1) * u by rw [Nat.succ_mul, Nat.add_assoc], show s0 + j * w + w = s0 + (j + 1) * w by rw [Nat.succ_mul, Nat.add_assoc]]
      show W p l _ R s m args below meth c H1 locs1 (c0 + (j + 1) * u) (s0 + (j + 1) * w) Q (F0 m (pc + 3) ls ((r.1.map (zc G)).toList ++ (st.drop k).map (zc G)))
      rw [← e1]
      exact k2
    · show va_P G.1 vwCl (zws G (zgs r.2 (zgh M + 1))) H1
      unfold zgs
      rw [zws_gs]
      exact hP1
    · exact zws_D (G := zgt G j) hH.2.2.1.2.1 (fun q h => Γ.2.2.2.2.2.2.2.1 q h)
    · rw [hgh]
      exact hmo1.gs (j + 1)
    · refine ⟨hH.2.2.2.1, fun v hv => ?_⟩
      have hv : v ∈ zpush r.1 (st.drop k) := hv
      cases h1 : r.1 with
      | none => rw [h1] at hv; exact hH.2.2.2.2 v (List.mem_of_mem_drop hv)
      | some x =>
        rw [h1] at hv
        rcases List.mem_cons.mp hv with rfl | hv
        · exact hrv _ h1
        · exact hH.2.2.2.2 v (List.mem_of_mem_drop hv)
theorem zwalkC {C : Nat → zX} (h : ∀ pc, zNxC p l e R s m args below meth c n u w c0 s0 G A nL pc (C pc)) {Q : State → Prop} {r : zQ} (hret : ∀ (pc : Nat) (f : zF), C pc pc f = some (.inl r) → ∀ g, g ≤ n → ∀ (H : Heap) (locs : List Loc) (ls : Array Slot), zHo s (zgt G g) A nL f H locs ls → W p l e R s m args below meth c H locs (c0 + g * u) (s0 + g * w) Q (F0 m pc ls (f.2.1.map (zc G)))) :
    ∀ (k pc : Nat) (f : zF), zrun C k pc f = some r → ∀ g, g ≤ n → ∀ (H : Heap) (locs : List Loc) (ls : Array Slot), zHo s (zgt G g) A nL f H locs ls → W p l e R s m args below meth c H locs (c0 + g * u) (s0 + g * w) Q (F0 m pc ls (f.2.1.map (zc G))) := by
  intro k
  induction k with
  | zero => intro pc f h; cases h
  | succ k ih =>
    intro pc f hr g hg H locs ls hH
    rw [zrun] at hr
    cases hc : C pc pc f with
    | none => rw [hc] at hr; cases hr
    | some t =>
      rw [hc] at hr
      cases t with
      | inl q => cases hr; exact hret pc f hc g hg H locs ls hH
      | inr q => exact h pc f q.1 q.2 hc g hg H locs ls Q hH (fun g' hg' H' locs' ls' hH' => ih q.1 q.2 hr g' hg' H' locs' ls' hH')
theorem zNxC.ny {x : zX} (h : ∀ (f : zF) (q : Nat × zF), x pc f ≠ some (.inr q)) : zNxC p l e R s m args below meth c n u w c0 s0 G A nL pc x := fun f pc' f' hx => absurd hx (h f (pc', f'))
end ZC
/-- one instruction in a method with charged calls -/
abbrev zPC (p : Program) (l : Launch) (e : Env) (R : Room) (s : State) (m : MethodId) (args : Array Value) (below : List Frame) (meth : Method) (c : Code) (n u w : Nat) (G : zG) (nL pc : Nat) (x : zX) : Prop := zNxC p l e R s m args below meth c n u w 0 0 G (zA G) nL pc x ∧ ∀ g, zRt p l e R s m args below meth c (n * u) (n * w) (zgt G g) nL pc x
theorem zdr_PC {p : Program} {l : Launch} {e : Env} {R : Room} {s : State} {m : MethodId} {args : Array Value} {below : List Frame} {meth : Method} {c : Code} {n u w : Nat} {G : zG} {nL pc : Nat} {x : zX} {ks : List Bool} (h : zPC p l e R s m args below meth c n u w G nL pc x) : zPC p l e R s m args below meth c n u w G nL pc (zdr ks x) := by
  refine ⟨h.1.dr, fun g f r hx H locs ls hH => ?_⟩
  obtain ⟨L, q⟩ := f
  exact h.2 g (zdrs L ks, q) r hx H locs ls (zHo_dr ks hH)
/-- a method with at most n charged calls -/
theorem zmethC {l : Launch} {G : zG} {L : List (Nat × zX)} {y : MethodName} {bytes : ByteArray} {maxL : Nat} {ret : Option FieldType} {rm : Room} (n u w : Nat) (hrm : rm.cells = n * u ∧ rm.slots = n * w) (hy : plainName y.cls = true)
    (hin : ∀ {p : Program} {e : Env} {s : State} {m : MethodId} {args : Array Value} {below : List Frame} {meth : Method} {c : Code}, zGa p s m args c bytes maxL y.cls G (zA G) → meth.sig.returnType = ret → meth.locks = false → 0 + n * u ≤ rm.cells ∧ 0 + n * w ≤ rm.slots → zAll (fun pc x => zPC p l e rm s m args below meth c n u w G maxL pc x) L) :
    zMet l G y bytes maxL ret rm (zdq (zfind L) maxL) := by
  intro a M r hg
  obtain ⟨r0, hg0, rfl⟩ : ∃ r0, zdn (zfind L) maxL a (zgs M 0) = some r0 ∧ (r0.1, (zst r0.2.1 43 0 (M.1 43 0), r0.2.2)) = r := by
    unfold zdq at hg
    cases h0 : zdn (zfind L) maxL a (zgs M 0) with
    | none => rw [h0] at hg; cases hg
    | some r0 => rw [h0] at hg; exact ⟨r0, rfl, Option.some.inj hg⟩
  clear hg
  have hg := hg0
  clear hg0
  have hln : (zlay a).length ≤ maxL := by
    unfold zdn at hg
    split at hg
    · rename_i h; exact Nat.le_of_ble_eq_true h
    · cases hg
  have hg : zev (zfind L) 0 (zent maxL a, [], zgs M 0) = some r0 := by
    unfold zdn at hg
    split at hg
    · exact hg
    · cases hg
  obtain ⟨k, hk⟩ := zev_iff.mp hg
  rw [hrm.1, hrm.2]
  refine Met.ofW (cc := bytes) (maxL := maxL) (ret := ret) hy rfl ?_
  intro p e s m args below meth c s₁ B hml hv
  obtain ⟨rfl, hP, hD, hK, hro, hmo, hav, hne⟩ := hv
  have hts := atoms_spec (ws := zwsy y bytes maxL ret) B.pre
  have Γ : zGa p s m (a.map (zc G)).toArray c bytes maxL y.cls G (zA G) := ⟨B.exec, B.bytes, hml, findClass_of_methodNamed B.named, fun w hw => hts w (List.mem_cons_of_mem _ hw), hK, hro, fun q h => h, hne⟩
  have hlen : (lg_sl (a.map (zc G))).length ≤ maxL := by rw [zlay_sl]; exact hln
  have hl := lv_entry (a.map (zc G)) hlen
  rw [lg_entry_eq]
  generalize (lg_sl (a.map (zc G)) ++ List.replicate (maxL - (lg_sl (a.map (zc G))).length) Slot.unset).toArray = ls at hl ⊢
  have hI := zfind_all (P := fun pc x => zPC p l e rm s m (a.map (zc G)).toArray below meth c n u w G maxL pc x) (fun pc => ⟨fun f pc' f' h => (by cases h), fun g f r h => (by cases h)⟩) (hin (e := e) (below := below) Γ B.returns B.notSynchronized ⟨by omega, by omega⟩)
  have key := zwalkC (Q := MQ below (zQc G (r0.1, (zst r0.2.1 43 0 (M.1 43 0), r0.2.2))) (a.map (zc G)).toArray s (n * u) (n * w) (zA G)) (fun pc => (hI pc).1) (r := r0) (fun pc f hc g hgn H locs ls hH => ?_) k 0 (zent maxL a, [], zgs M 0) hk 0 (Nat.zero_le _) s.heap [] ls ⟨⟨hl.1, hl.2.1, fun q hq => hl.2.2 q (zlay_args G _ a 0 q (by rw [zlv_gt] at hq; exact hq))⟩, ?_, ⟨?_, ?_, va_S.rf, hmo.gs 0⟩, zent_ok maxL a hav⟩
  · have e1 : 0 + 0 * u = 0 := by rw [Nat.zero_mul]
    have e2 : 0 + 0 * w = 0 := by rw [Nat.zero_mul]
    rw [e1, e2] at key
    exact key
  · have h1 := Nat.mul_le_mul_right u hgn
    have h2 := Nat.mul_le_mul_right w hgn
    refine W.widen (k := n * u) (n := n * w) (by omega) (by omega) (W.post ((hI pc).2 g f r0 hc H locs ls hH) (fun t ht => MQ_q (fun o t hq => ?_) ht))
    obtain ⟨q1, q2, q3, q4, q5⟩ := hq
    refine ⟨q1, ?_, ⟨fun i hi => ?_, fun i hi => ?_, ?_, q3.2.2.2.1, q3.2.2.2.2.1, ?_⟩, q4, q5⟩
    · show va_P G.1 vwCl (zws G (zst r0.2.1 43 0 (M.1 43 0), r0.2.2)) t.heap
      rw [zws_gs]; exact q2
    · show zst r0.2.1 43 0 (M.1 43 0) 40 0 i = _
      rw [zst_ne _ _ (by omega)]; exact q3.1 i hi
    · show zst r0.2.1 43 0 (M.1 43 0) 41 0 i = _
      rw [zst_ne _ _ (by omega)]; exact q3.2.1 i hi
    · show zst r0.2.1 43 0 (M.1 43 0) 42 0 0 = _
      rw [zst_ne _ _ (by omega)]; exact q3.2.2.1
    · show zst r0.2.1 43 0 (M.1 43 0) 43 0 0 = _
      rw [zst_self]; exact hmo.2.2.2.2.2
  · show (zlay a ++ List.replicate _ none).length = maxL
    rw [List.length_append, List.length_replicate]
    omega
  · show va_P G.1 vwCl (zws G (zgs M 0)) s.heap
    unfold zgs
    rw [zws_gs]; exact hP
  · exact zws_D (G := G) hD (fun q h => h)
/-- the worlds with the sight -/
abbrev zgv (G : zG) (q : Nat) : zG := (G.1, fun c n => if c = 36 then q else G.2.1 c n, G.2.2.1, G.2.2.2.1, G.2.2.2.2.1, true, G.2.2.2.2.2.2)
theorem zad_gv {G : zG} {q c n : Nat} (h : c ≠ 36) : zad (zgv G q) c n = zad G c n := if_neg h
theorem zc_gv {G : zG} {q : Nat} (hs : zsi G = false) {v : zV} (h : zvr G v) : zc (zgv G q) v = zc G v := by
  rcases v with x | x | _ | x
  · rfl
  · rfl
  · rfl
  · have : x.1 ≠ 36 := by
      rcases h with h | h | h
      · rw [hs] at h; exact (zcn_n h).2 rfl
      · rw [h]; decide
      · rw [h]; decide
    show Value.ref (zad (zgv G q) x.1 x.2) = Value.ref (zad G x.1 x.2)
    rw [zad_gv this]
theorem zvr_gv {G : zG} {q : Nat} (hs : zsi G = false) {v : zV} (h : zvr G v) : zvr (zgv G q) v := by
  rcases v with x | x | _ | x
  · trivial
  · trivial
  · trivial
  · rcases h with h | h | h
    · rw [hs] at h
      refine Or.inl ?_
      show x.2 < zcn true x.1
      have h36 := (zcn_n h).2 rfl
      have : zcn true x.1 = zcn false x.1 := by
        unfold zcn
        split <;> first | rfl | (exact absurd (by assumption) h36)
      rw [this]; exact h
    · exact Or.inr (Or.inl h)
    · exact Or.inr (Or.inr h)
theorem zfs_gv (G : zG) (q : Nat) (a : Nat → Int32) (b : Nat → Int64) (n c : Nat) : zfs (zad (zgv G q)) a b n c = zfs (zad G) a b n c := by
  unfold zfs
  split <;> rfl
theorem zce_gv {G : zG} {q c n : Nat} (a : Nat → Int32) (b : Nat → Int64) (r : Nat → Option Nat) : zce (zgv G q) c n a b r = zce G c n a b r := by
  unfold zce
  split
  · rfl
  · rfl
  · rfl
  · rfl
  · rw [zfs_gv]
theorem zws_gv {G : zG} (hs : zsi G = false) (q : Nat) {M M' : zM} (h : ∀ c n, c ≠ 36 → M'.1 c n = M.1 c n) (h2 : M'.2 = M.2) : zws (zgv G q) M' = zws G M ++ [(q, .inl (G.2.2.1.1, 5, .inl (M'.1 36 0)))] := by
  unfold zws
  rw [hs]
  show (zobjs true).map _ = _
  rw [zobjs_t, List.map_append]
  refine congr (congrArg _ (List.map_congr_left (fun z hz => ?_))) rfl
  have h36 := (zcn_n (zobjs_mem.mp (show (z.1, z.2) ∈ zobjs false from hz))).2 rfl
  show (zad (zgv G q) z.1 z.2, zce (zgv G q) z.1 z.2 (M'.1 z.1 z.2) (M'.2.1 z.1 z.2) M'.2.2) = (zad G z.1 z.2, zce G z.1 z.2 (M.1 z.1 z.2) (M.2.1 z.1 z.2) M.2.2)
  rw [zad_gv h36, zce_gv, h z.1 z.2 h36, h2]
theorem zmo.s36 {G : zG} {q : Nat} {M : zM} (h : zmo G M) (f : Nat → Int32) : zmo (zgv G q) (zst M.1 36 0 f, M.2) := zmo.i (G := zgv G q) (M := M) h (by decide)
theorem zmo.f36 {G : zG} {q : Nat} {M : zM} (h : zmo (zgv G q) M) (f : Nat → Int32) : zmo G (zst M.1 36 0 f, M.2) := zmo.i (G := G) (M := M) h (by decide)
/-- the world in which the sight is new -/
def zsg (M : zM) : zM := (zst M.1 36 0 (fun _ => 0), M.2)
theorem z_get5 {G : zG} {G' : zG} {L : List zV} (h : ∀ v ∈ L, zc G' v = zc G v) : L.map (zc G') = L.map (zc G) := List.map_congr_left h
theorem zget_lay {nL : Nat} {a : List zV} {i : Nat} {v : zV} (h : zget (zent nL a) i = some v) : v ∈ a := by
  have key : ∀ (k : Nat) (a : List zV) (i : Nat) (v : zV), zget (zlay a ++ List.replicate k none) i = some v → v ∈ a := by
    intro k a
    induction a with
    | nil =>
      intro i v h
      have : ∀ (k j : Nat), zget (List.replicate k none) j = none := by
        intro k
        induction k with
        | zero => intro j; rfl
        | succ k ih =>
          intro j
          cases j with
          | zero => rfl
          | succ j => exact ih j
      have h1 : zget (List.replicate k none) i = some v := h
      rw [this] at h1; cases h1
    | cons w t ih =>
      intro i v h
      rcases w with x | x | x
      · cases i with
        | zero => cases h; exact List.mem_cons_self
        | succ i => exact List.mem_cons_of_mem _ (ih i v h)
      · cases i with
        | zero => cases h; exact List.mem_cons_self
        | succ i =>
          cases i with
          | zero => cases h
          | succ i => exact List.mem_cons_of_mem _ (ih i v h)
      · cases i with
        | zero => cases h; exact List.mem_cons_self
        | succ i => exact List.mem_cons_of_mem _ (ih i v h)
  exact key _ a i v h
/-- a method that makes the sight first: five ints -/
noncomputable def zds (C : Nat → zX) (nL : Nat) (a : List zV) (M : zM) : Option zQ := match Nat.ble (zlay a).length nL with
  | true => (zev C 3 (zent nL a, [zR 36 0], zsg M)).map (fun r => (r.1, (zst r.2.1 36 0 (M.1 36 0), r.2.2)))
  | false => none
/-- how a method that made the sight answers -/
def zRtM (p : Program) (l : Launch) (e : Env) (R : Room) (s : State) (m : MethodId) (args : Array Value) (below : List Frame) (meth : Method) (c : Code) (G : zG) (A : Nat → Prop) (nL pc : Nat) (x : zX) : Prop :=
  ∀ (f : zF) (r : zQ), x pc f = some (.inl r) → ∀ (H : Heap) (locs : List Loc) (ls : Array Slot), zHo s G A nL f H locs ls → W p l e R s m args below meth c H locs 1 5 (MQ below (fun _ st oc t => oc = .returned (r.1.map (zc G)) ∧ (∃ x, r.1 = some (zI x)) ∧ ∃ locs, zWd G A st.heap r.2 t.heap locs) args s 1 5 A) (F0 m pc ls (f.2.1.map (zc G)))
section ZM
variable {p : Program} {l : Launch} {e : Env} {R : Room} {s : State} {m : MethodId} {args : Array Value} {below : List Frame} {meth : Method} {c : Code} {cc : ByteArray} {nL : Nat} {own : String} {G : zG} {A : Nat → Prop} {pc : Nat}
theorem zRtM.no {x : zX} (h : zno x) : zRtM p l e R s m args below meth c G A nL pc x := fun f r hx => absurd hx (h pc f r)
theorem zRtM.iret (Γ : zGa p s m args c cc nL own G A) (hr : meth.sig.returnType = some .int) (hlocks : meth.locks = false) (hd : decode cc pc = .ok (.ireturn, 1)) : zRtM p l e R s m args below meth c G A nL pc ziret := by
  intro f r hx H locs ls hH
  obtain ⟨L, st, M⟩ := f
  unfold ziret at hx
  dsimp only at hx
  split at hx
  · rename_i x
    cases hx
    exact W.iret (v := x) Γ.1 Γ.2.1 hr (fun t ht hW => ⟨rfl, ⟨x, rfl⟩, locs, by rw [ht]; exact hH.2.2.1⟩) hH.2.2.1.2.2.1.2.2 hd
  · cases hx
theorem zNx.ny {cells slots : Nat} {x : zX} (h : ∀ (f : zF) (q : Nat × zF), x pc f ≠ some (.inr q)) : zNx p l e R s m args below meth c cells slots G A nL pc x := fun f pc' f' hx => absurd hx (h f (pc', f'))
end ZM
abbrev zPM (p : Program) (l : Launch) (e : Env) (R : Room) (s : State) (m : MethodId) (args : Array Value) (below : List Frame) (meth : Method) (c : Code) (G : zG) (A : Nat → Prop) (nL pc : Nat) (x : zX) : Prop := zNx p l e R s m args below meth c 1 5 G A nL pc x ∧ zRtM p l e R s m args below meth c G A nL pc x
theorem zdr_PM {p : Program} {l : Launch} {e : Env} {R : Room} {s : State} {m : MethodId} {args : Array Value} {below : List Frame} {meth : Method} {c : Code} {G : zG} {A : Nat → Prop} {nL pc : Nat} {x : zX} {ks : List Bool} (h : zPM p l e R s m args below meth c G A nL pc x) : zPM p l e R s m args below meth c G A nL pc (zdr ks x) := by
  refine ⟨zdr_nx h.1, fun f r hx H locs ls hH => ?_⟩
  obtain ⟨L, q⟩ := f
  exact h.2 (zdrs L ks, q) r hx H locs ls (zHo_dr ks hH)
theorem zro.v {G : zG} {q : Nat} {s : State} (h : zro G (zA G) s s.heap) : zro (zgv G q) (fun a => zA G a ∨ s.heap.size ≤ a) s s.heap := by
  obtain ⟨h1, h2, h3, h4, h5, h6, cf, kf, fi, f, a, cell, g1, g2, g3, g4, g5, g6, g7, g8⟩ := h
  refine ⟨h1, h2, fun z => z.elim h3 (fun z => Nat.not_lt.mpr z h2), h4, h5, fun z => z.elim h6 (fun z => Nat.not_lt.mpr z h5), cf, kf, fi, f, a, cell, g1, g2, g3, g4, g5, g6, g7, fun z => z.elim g8 (fun z => Nat.not_lt.mpr z ?_)⟩
  exact (Array.getElem?_eq_some_iff.mp g5).1
theorem zmethM {l : Launch} {G : zG} {L : List (Nat × zX)} {y : MethodName} {bytes : ByteArray} {maxL : Nat} {rm : Room} (hs : zsi G = false) (hrm : rm.cells = 1 ∧ rm.slots = 5) (hy : plainName y.cls = true) (hd0 : decode bytes 0 = .ok (.iconst 5, 1)) (hd1 : decode bytes 1 = .ok (.newarray .int, 2)) (harr : Cond.arrayClass .int ∈ zTs)
    (hin : ∀ {p : Program} {e : Env} {s : State} {m : MethodId} {args : Array Value} {below : List Frame} {meth : Method} {c : Code} (q : Nat), zGa p s m args c bytes maxL y.cls (zgv G q) (fun a => zA G a ∨ s.heap.size ≤ a) → meth.sig.returnType = some .int → meth.locks = false → 1 ≤ rm.cells ∧ 5 ≤ rm.slots → zAll (fun pc x => zPM p l e rm s m args below meth c (zgv G q) (fun a => zA G a ∨ s.heap.size ≤ a) maxL pc x) L) :
    zMet l G y bytes maxL (some .int) rm (zds (zfind L) maxL) := by
  intro a M r hg
  have hln : (zlay a).length ≤ maxL := by
    unfold zds at hg
    split at hg
    · rename_i h; exact Nat.le_of_ble_eq_true h
    · cases hg
  obtain ⟨r0, hg0, rfl⟩ : ∃ r0, zev (zfind L) 3 (zent maxL a, [zR 36 0], zsg M) = some r0 ∧ (r0.1, (zst r0.2.1 36 0 (M.1 36 0), r0.2.2)) = r := by
    unfold zds at hg
    rw [Nat.ble_eq_true_of_le hln] at hg
    dsimp only at hg
    cases h0 : zev (zfind L) 3 (zent maxL a, [zR 36 0], zsg M) with
    | none => rw [h0] at hg; cases hg
    | some r0 => rw [h0] at hg; exact ⟨r0, rfl, Option.some.inj hg⟩
  clear hg
  obtain ⟨k, hk⟩ := zev_iff.mp hg0
  rw [hrm.1, hrm.2]
  refine Met.ofW (cc := bytes) (maxL := maxL) (ret := some .int) hy rfl ?_
  intro p e s m args below meth c s₁ B hml hv
  obtain ⟨rfl, hP, hD, hK, hro, hmo, hav, hne⟩ := hv
  have hts := atoms_spec (ws := zwsy y bytes maxL (some .int)) B.pre
  have Γ : zGa p s m (a.map (zc G)).toArray c bytes maxL y.cls G (zA G) := ⟨B.exec, B.bytes, hml, findClass_of_methodNamed B.named, fun w hw => hts w (List.mem_cons_of_mem _ hw), hK, hro, fun q h => h, hne⟩
  have hlen : (lg_sl (a.map (zc G))).length ≤ maxL := by rw [zlay_sl]; exact hln
  have hl := lv_entry (a.map (zc G)) hlen
  rw [lg_entry_eq]
  generalize (lg_sl (a.map (zc G)) ++ List.replicate (maxL - (lg_sl (a.map (zc G))).length) Slot.unset).toArray = ls at hl ⊢
  refine lv_iconst (n := 5) (v := 5) Γ.1 Γ.2.1 hd0 (by decide) ?_
  refine va_newa (atype := .int) (A := fun x => zA G x ∨ s.heap.size ≤ x) (H0 := s.heap) (a0 := (5, .inl (fun _ => 0))) (N' := 5) Γ.1 Γ.2.1 (Γ.2.2.2.2.1 _ harr) rfl Γ.2.2.2.2.2.1 hP (hD.weaken (fun _ _ _ h => Or.inl h)) va_S.rf (fun q h => Or.inr h) (fun cA => rfl) (by decide) rfl (by decide) (by show 0 + 1 ≤ rm.cells; omega) (by show 0 + 5 ≤ rm.slots; omega) hd1 (fun q cA' H1 hK1 hP1 hD1 hS1 => ?_)
  have e1 := (Γ.2.2.2.2.2.1.2 0 (G.2.2.1.1, .int) rfl).2
  have e2 := (hK1.2 (ztys G).length (cA', .int) (by rw [List.getElem?_append_right (Nat.le_refl _), Nat.sub_self]; rfl)).2
  have e3 : cA' = G.2.2.1.1 := Option.some.inj (e2.symm.trans e1)
  subst e3
  have hw := zws_gv hs q (M := M) (M' := zsg M) (fun c n h => zst_ne _ _ (fun z => h z.1)) rfl
  have e36 : (zsg M).1 36 0 = fun _ => 0 := zst_self M.1 36 0 (fun _ => 0)
  rw [e36] at hw
  rw [← hw] at hP1 hD1
  have hA' : ∀ x, zA (zgv G q) x → zA G x ∨ s.heap.size ≤ x := by
    rintro x ⟨c', n', h1, rfl⟩
    obtain ⟨j, hj, -⟩ := zws_at (zgv G q) (zsg M) (zobjs_mem.mpr h1)
    exact hD1.2 j _ hj
  have Γ' : zGa p s m (a.map (zc G)).toArray c bytes maxL y.cls (zgv G q) (fun x => zA G x ∨ s.heap.size ≤ x) := ⟨Γ.1, Γ.2.1, Γ.2.2.1, Γ.2.2.2.1, Γ.2.2.2.2.1, hK, hro.v, hA', hne⟩
  have hI := zfind_all (P := fun pc x => zPM p l e rm s m (a.map (zc G)).toArray below meth c (zgv G q) (fun x => zA G x ∨ s.heap.size ≤ x) maxL pc x) (fun pc => ⟨fun f pc' f' h => (by cases h), fun f r h => (by cases h)⟩) (hin (e := e) (below := below) q Γ' B.returns B.notSynchronized ⟨by omega, by omega⟩)
  refine zwalk (G := zgv G q) (A := fun x => zA G x ∨ s.heap.size ≤ x) (cells := 1) (slots := 5) (Q := MQ below (zQc G (r0.1, (zst r0.2.1 36 0 (M.1 36 0), r0.2.2))) (a.map (zc G)).toArray s 1 5 (zA G)) (fun pc => (hI pc).1) (r := r0) (fun pc f hc H locs ls hH => ?_) k 3 (zent maxL a, [zR 36 0], zsg M) hk H1 [] ls ⟨⟨hl.1, hl.2.1, fun z hz => hl.2.2 z (zlay_args G _ a 0 z (by rw [zlv_cg _ _ (fun j v hv => zc_gv hs (hav v (zget_lay hv)))] at hz; exact hz))⟩, ?_, ⟨hP1, hD1, hS1, hmo.s36 _⟩, (zent_ok maxL a (fun v hv => zvr_gv hs (hav v hv))).p (Or.inl Nat.zero_lt_one)⟩
  · refine W.post ((hI pc).2 f r0 hc H locs ls hH) (fun t ht => MQ_old (free' := fun x => zA G x ∨ s.heap.size ≤ x) (fun x hx hlt => hx.elim id (fun z => absurd hlt (Nat.not_lt.mpr z))) (MQ_q (fun o t hq => ?_) ht))
    obtain ⟨q1, ⟨x, q2⟩, locs', w1, w2, w3, w4⟩ := hq
    have hw2 := zws_gv hs q (M := (zst r0.2.1 36 0 (M.1 36 0), r0.2.2)) (M' := r0.2) (fun c n h => (zst_ne _ _ (fun z => h z.1)).symm) rfl
    rw [hw2] at w1
    refine ⟨by rw [q1, q2]; rfl, fun k z hz => w1 k z (by rw [List.getElem?_append_left (List.getElem?_eq_some_iff.mp hz).1]; exact hz), w4.f36 _, fun v hv => by rw [q2] at hv; cases hv; trivial, w3.1, fun x hx hn => w3.2.1 x hx (fun z => z.elim hn (fun z => absurd hx (Nat.not_lt.mpr z)))⟩
  · show (zlay a ++ List.replicate _ none).length = maxL
    rw [List.length_append, List.length_replicate]
    omega
