-- ===== answers; no other instruction answers =====
theorem no_zxc (v : zV) (k : Nat) : zno (zxc v k) := by
  intro pc f r h
  cases h
theorem no_ziload (i : Nat) (k : Nat) : zno (ziload i k) := by
  intro pc f r h
  unfold ziload at h
  repeat' split at h
  all_goals cases h
theorem no_zlload (i : Nat) (k : Nat) : zno (zlload i k) := by
  intro pc f r h
  unfold zlload at h
  repeat' split at h
  all_goals cases h
theorem no_zaload (i : Nat) (k : Nat) : zno (zaload i k) := by
  intro pc f r h
  unfold zaload at h
  repeat' split at h
  all_goals cases h
theorem no_zistore (i : Nat) (k : Nat) : zno (zistore i k) := by
  intro pc f r h
  unfold zistore at h
  repeat' split at h
  all_goals cases h
theorem no_zlstore (i : Nat) (k : Nat) : zno (zlstore i k) := by
  intro pc f r h
  unfold zlstore at h
  repeat' split at h
  all_goals cases h
theorem no_zastore (i : Nat) (k : Nat) : zno (zastore i k) := by
  intro pc f r h
  unfold zastore at h
  repeat' split at h
  all_goals cases h
theorem no_ziinc (i : Nat) (d : Int32) : zno (ziinc i d) := by
  intro pc f r h
  unfold ziinc at h
  repeat' split at h
  all_goals cases h
theorem no_zbin (g : Int32 → Int32 → Int32) : zno (zbin g) := by
  intro pc f r h
  unfold zbin at h
  repeat' split at h
  all_goals cases h
theorem no_zdiv (g : Int32 → Int32 → Int32) : zno (zdiv g) := by
  intro pc f r h
  unfold zdiv at h
  repeat' split at h
  all_goals cases h
theorem no_zlbin (g : Int64 → Int64 → Int64) : zno (zlbin g) := by
  intro pc f r h
  unfold zlbin at h
  repeat' split at h
  all_goals cases h
theorem no_zlsh (g : Int64 → Int32 → Int64) : zno (zlsh g) := by
  intro pc f r h
  unfold zlsh at h
  repeat' split at h
  all_goals cases h
theorem no_zi2l  : zno (zi2l) := by
  intro pc f r h
  unfold zi2l at h
  repeat' split at h
  all_goals cases h
theorem no_zl2i  : zno (zl2i) := by
  intro pc f r h
  unfold zl2i at h
  repeat' split at h
  all_goals cases h
theorem no_zi2c  : zno (zi2c) := by
  intro pc f r h
  unfold zi2c at h
  repeat' split at h
  all_goals cases h
theorem no_zun (g : Int32 → Int32) : zno (zun g) := by
  intro pc f r h
  unfold zun at h
  repeat' split at h
  all_goals cases h
theorem no_zlcmp  : zno (zlcmp) := by
  intro pc f r h
  unfold zlcmp at h
  repeat' split at h
  all_goals cases h
theorem no_zdup  : zno (zdup) := by
  intro pc f r h
  unfold zdup at h
  repeat' split at h
  all_goals cases h
theorem no_zdup2  : zno (zdup2) := by
  intro pc f r h
  unfold zdup2 at h
  repeat' split at h
  all_goals cases h
theorem no_zpop  : zno (zpop) := by
  intro pc f r h
  unfold zpop at h
  repeat' split at h
  all_goals cases h
theorem no_zgoto (t : Nat) : zno (zgoto t) := by
  intro pc f r h
  cases h
theorem no_zifeq (t : Nat) : zno (zifeq t) := by
  intro pc f r h
  unfold zifeq at h
  repeat' split at h
  all_goals cases h
theorem no_zifne (t : Nat) : zno (zifne t) := by
  intro pc f r h
  unfold zifne at h
  repeat' split at h
  all_goals cases h
theorem no_ziflt (t : Nat) : zno (ziflt t) := by
  intro pc f r h
  unfold ziflt at h
  repeat' split at h
  all_goals cases h
theorem no_zifge (t : Nat) : zno (zifge t) := by
  intro pc f r h
  unfold zifge at h
  repeat' split at h
  all_goals cases h
theorem no_zifgt (t : Nat) : zno (zifgt t) := by
  intro pc f r h
  unfold zifgt at h
  repeat' split at h
  all_goals cases h
theorem no_zifle (t : Nat) : zno (zifle t) := by
  intro pc f r h
  unfold zifle at h
  repeat' split at h
  all_goals cases h
theorem no_zceq (t : Nat) : zno (zceq t) := by
  intro pc f r h
  unfold zceq at h
  repeat' split at h
  all_goals cases h
theorem no_zcne (t : Nat) : zno (zcne t) := by
  intro pc f r h
  unfold zcne at h
  repeat' split at h
  all_goals cases h
theorem no_zclt (t : Nat) : zno (zclt t) := by
  intro pc f r h
  unfold zclt at h
  repeat' split at h
  all_goals cases h
theorem no_zcge (t : Nat) : zno (zcge t) := by
  intro pc f r h
  unfold zcge at h
  repeat' split at h
  all_goals cases h
theorem no_zcgt (t : Nat) : zno (zcgt t) := by
  intro pc f r h
  unfold zcgt at h
  repeat' split at h
  all_goals cases h
theorem no_zcle (t : Nat) : zno (zcle t) := by
  intro pc f r h
  unfold zcle at h
  repeat' split at h
  all_goals cases h
theorem no_znull (t : Nat) : zno (znull t) := by
  intro pc f r h
  unfold znull at h
  repeat' split at h
  all_goals cases h
theorem no_znonnull (t : Nat) : zno (znonnull t) := by
  intro pc f r h
  unfold znonnull at h
  repeat' split at h
  all_goals cases h
theorem no_zsw (cs : List (Int32 × Nat)) (d : Nat) : zno (zsw cs d) := by
  intro pc f r h
  unfold zsw at h
  repeat' split at h
  all_goals cases h
theorem no_zgetI (c : Nat) (k : Nat) : zno (zgetI c k) := by
  intro pc f r h
  unfold zgetI at h
  repeat' split at h
  all_goals cases h
theorem no_zgetJ (c : Nat) (k : Nat) : zno (zgetJ c k) := by
  intro pc f r h
  unfold zgetJ at h
  repeat' split at h
  all_goals cases h
theorem no_zgetR (c : Nat) (c2 : Nat) (g : Nat → Nat) : zno (zgetR c c2 g) := by
  intro pc f r h
  unfold zgetR at h
  repeat' split at h
  all_goals cases h
theorem no_zputI (c : Nat) (k : Nat) : zno (zputI c k) := by
  intro pc f r h
  unfold zputI at h
  repeat' split at h
  all_goals cases h
theorem no_zputZ (c : Nat) (k : Nat) : zno (zputZ c k) := by
  intro pc f r h
  unfold zputZ at h
  repeat' split at h
  all_goals cases h
theorem no_zputJ (c : Nat) (k : Nat) : zno (zputJ c k) := by
  intro pc f r h
  unfold zputJ at h
  repeat' split at h
  all_goals cases h
theorem no_ziald  : zno (ziald) := by
  intro pc f r h
  unfold ziald at h
  repeat' split at h
  all_goals cases h
theorem no_zcald  : zno (zcald) := by
  intro pc f r h
  unfold zcald at h
  repeat' split at h
  all_goals cases h
theorem no_zlald  : zno (zlald) := by
  intro pc f r h
  unfold zlald at h
  repeat' split at h
  all_goals cases h
theorem no_zaald  : zno (zaald) := by
  intro pc f r h
  unfold zaald at h
  repeat' split at h
  all_goals cases h
theorem no_ziast  : zno (ziast) := by
  intro pc f r h
  unfold ziast at h
  repeat' split at h
  all_goals cases h
theorem no_zcast  : zno (zcast) := by
  intro pc f r h
  unfold zcast at h
  repeat' split at h
  all_goals cases h
theorem no_zlast  : zno (zlast) := by
  intro pc f r h
  unfold zlast at h
  repeat' split at h
  all_goals cases h
theorem no_zaast  : zno (zaast) := by
  intro pc f r h
  unfold zaast at h
  repeat' split at h
  all_goals cases h
theorem no_zalen  : zno (zalen) := by
  intro pc f r h
  unfold zalen at h
  repeat' split at h
  all_goals cases h
theorem no_zcopy  : zno (zcopy) := by
  intro pc f r h
  unfold zcopy at h
  repeat' split at h
  all_goals cases h
theorem no_zmin  : zno (zmin) := by
  intro pc f r h
  unfold zmin at h
  repeat' split at h
  all_goals cases h
theorem no_zcalls (k : Nat) (g : List zV → zM → Option zQ) : zno (zcalls k g) := by
  intro pc f r h
  unfold zcalls at h
  split at h
  · cases hg : g (f.2.1.take k).reverse f.2.2 with
    | none => rw [hg] at h; cases h
    | some q => rw [hg] at h; cases h
  · cases h
theorem no_zcallv (c k : Nat) (g : List zV → zM → Option zQ) : zno (zcallv c k g) := by
  intro pc f r h
  unfold zcallv at h
  split at h
  · rename_i c' n st hst
    split at h
    · cases hg : g (zR c n :: (f.2.1.take k).reverse) f.2.2 with
      | none => rw [hg] at h; cases h
      | some q => rw [hg] at h; cases h
    · cases h
  · cases h
section ZS4
variable {p : Program} {l : Launch} {e : Env} {R : Room} {s : State} {m : MethodId} {args : Array Value} {below : List Frame} {meth : Method} {c : Code} {cells slots : Nat} {cc : ByteArray} {nL : Nat} {own : String} {G : zG} {A : Nat → Prop} {pc : Nat}
theorem zQc_of {M : zM} {H : Heap} {locs : List Loc} {v : Option zV} (hW : zWd G (zA G) s.heap M H locs) (hv : ∀ w, v = some w → zvr G w) (t : State) (ht : t.heap = H) : zQc G (v, M) args s (.returned (v.map (zc G))) t :=
  ⟨rfl, by rw [ht]; exact hW.1, hW.2.2.2, hv, hW.2.2.1.F ht⟩
theorem zr_vret (Γ : zGa p s m args c cc nL own G (zA G)) (hr : meth.sig.returnType = none) (hlocks : meth.locks = false) (hd : decode cc pc = .ok (.return_, 1)) : zRt p l e R s m args below meth c cells slots G nL pc zvret := by
  intro f r hx H locs ls hH
  obtain ⟨L, st, M⟩ := f
  unfold zvret at hx
  dsimp only at hx
  split at hx
  · cases hx
    exact W.vret Γ.1 Γ.2.1 hr (fun t ht hW => zQc_of hH.2.2.1 (fun w h => by cases h) t ht) hH.2.2.1.2.2.1.2.2 hd
  · cases hx
theorem zr_iret (Γ : zGa p s m args c cc nL own G (zA G)) (hr : meth.sig.returnType = some .int) (hlocks : meth.locks = false) (hd : decode cc pc = .ok (.ireturn, 1)) : zRt p l e R s m args below meth c cells slots G nL pc ziret := by
  intro f r hx H locs ls hH
  obtain ⟨L, st, M⟩ := f
  unfold ziret at hx
  dsimp only at hx
  split at hx
  · rename_i x
    cases hx
    exact W.iret (v := x) Γ.1 Γ.2.1 hr (fun t ht hW => zQc_of (v := some (zI x)) hH.2.2.1 (fun w h => by cases h; exact trivial) t ht) hH.2.2.1.2.2.1.2.2 hd
  · cases hx
theorem zr_zret (Γ : zGa p s m args c cc nL own G (zA G)) (hr : meth.sig.returnType = some .boolean) (hlocks : meth.locks = false) (hd : decode cc pc = .ok (.ireturn, 1)) : zRt p l e R s m args below meth c cells slots G nL pc zzret := by
  intro f r hx H locs ls hH
  obtain ⟨L, st, M⟩ := f
  unfold zzret at hx
  dsimp only at hx
  split at hx
  · rename_i x
    by_cases h0 : x = 0 ∨ x = 1
    · have hx : (some (Sum.inl (some (zI x), M)) : zT) = some (.inl r) := by rw [if_pos h0] at hx; exact hx
      cases hx
      have hn : narrow .boolean (.int x) = .int x := by rcases h0 with rfl | rfl <;> rfl
      exact W.zret (v := x) Γ.1 Γ.2.1 hr hn (fun t ht hW => zQc_of (v := some (zI x)) hH.2.2.1 (fun w h => by cases h; exact trivial) t ht) hH.2.2.1.2.2.1.2.2 hd
    · rw [if_neg h0] at hx; cases hx
  · cases hx
theorem zr_lret (Γ : zGa p s m args c cc nL own G (zA G)) (hr : meth.sig.returnType = some .long) (hlocks : meth.locks = false) (hd : decode cc pc = .ok (.lreturn, 1)) : zRt p l e R s m args below meth c cells slots G nL pc zlret := by
  intro f r hx H locs ls hH
  obtain ⟨L, st, M⟩ := f
  unfold zlret at hx
  dsimp only at hx
  split at hx
  · rename_i x
    cases hx
    exact W.lret (v := x) Γ.1 Γ.2.1 hr (fun t ht hW => zQc_of (v := some (zJ x)) hH.2.2.1 (fun w h => by cases h; exact trivial) t ht) hH.2.2.1.2.2.1.2.2 hd
  · cases hx
theorem zr_aret (Γ : zGa p s m args c cc nL own G (zA G)) {rt : FieldType} (hr : meth.sig.returnType = some rt) (hrt : (∃ n, rt = .object n) ∨ ∃ t, rt = .array t) (hlocks : meth.locks = false) (hd : decode cc pc = .ok (.areturn, 1)) : zRt p l e R s m args below meth c cells slots G nL pc zaret := by
  intro f r hx H locs ls hH
  obtain ⟨L, st, M⟩ := f
  unfold zaret at hx
  dsimp only at hx
  split at hx
  · rename_i x
    cases hx
    have hv : zc G (.inr (.inr x)) = .null ∨ ∃ a, zc G (.inr (.inr x)) = .ref a := by
      cases x with
      | none => exact Or.inl rfl
      | some q => exact Or.inr ⟨_, rfl⟩
    exact W.aret (v := zc G (.inr (.inr x))) Γ.1 Γ.2.1 hr hrt hv (fun t ht hW => zQc_of (v := some (.inr (.inr x))) hH.2.2.1 (fun w h => by cases h; exact hH.2.2.2.t) t ht) hH.2.2.1.2.2.1.2.2 hd
  · cases hx
theorem zswt_in (cs : List (Int32 × Nat)) (d : Nat) (x : Int32) : (∃ t, (x, t) ∈ cs ∧ zswt cs d x = t) ∨ ((∀ q ∈ cs, q.1 ≠ x) ∧ zswt cs d x = d) := by
  induction cs with
  | nil => exact Or.inr ⟨fun q h => (List.not_mem_nil h).elim, rfl⟩
  | cons a r ih =>
    obtain ⟨k, t⟩ := a
    by_cases hk : x = k
    · subst hk
      exact Or.inl ⟨t, List.mem_cons_self, by simp [zswt]⟩
    · rcases ih with ⟨t', h1, h2⟩ | ⟨h1, h2⟩
      · exact Or.inl ⟨t', List.mem_cons_of_mem _ h1, by simp [zswt, hk, h2]⟩
      · refine Or.inr ⟨fun q hq => ?_, by simp [zswt, hk, h2]⟩
        rcases List.mem_cons.mp hq with rfl | hq
        · exact fun z => hk z.symm
        · exact h1 q hq
theorem zs_table (Γ : zGa p s m args c cc nL own G A) {dflt lo hi : Int} {offs : Array Int} {len d : Nat} {cs : List (Int32 × Nat)} (hd : decode cc pc = .ok (.tableswitch dflt lo hi offs, len)) (hdf : (pc : Int) + dflt = (d : Int)) (hcs : ∀ q ∈ cs, lo ≤ q.1.toInt ∧ q.1.toInt ≤ hi ∧ offs[(q.1.toInt - lo).toNat]? = some ((q.2 : Int) - (pc : Int))) (hall : ∀ i : Nat, i < offs.size → ∃ q ∈ cs, q.1.toInt = lo + i) (hsz : hi - lo + 1 = offs.size) : zNx p l e R s m args below meth c cells slots G A nL pc (zsw cs d) := by
  intro f pc' f' hx H locs ls Q hH kk
  obtain ⟨L, st, M⟩ := f
  obtain ⟨x, t, rfl, hx2⟩ : ∃ x t, st = zI x :: t ∧ (some (Sum.inr (zswt cs d x, L, t, M)) : zT) = some (Sum.inr (pc', f')) := by
    unfold zsw at hx
    dsimp only at hx
    split at hx
    · rename_i x t; exact ⟨x, t, rfl, hx⟩
    · cases hx
  cases hx2
  have k2 := kk H locs ls ⟨hH.1, hH.2.1, hH.2.2.1, (hH.2.2.2).d⟩
  rcases zswt_in cs d x with ⟨t', h1, h2⟩ | ⟨h1, h2⟩
  · rw [h2] at k2
    obtain ⟨g1, g2, g3⟩ := hcs _ h1
    exact lv_tableIn Γ.1 Γ.2.1 hd (by dsimp only at g1; omega) (by dsimp only at g2; omega) g3 (by dsimp only; omega) k2
  · rw [h2] at k2
    refine lv_tableOut Γ.1 Γ.2.1 hd ?_ hdf k2
    apply Classical.byContradiction
    intro hn
    have hi1 : (x.toInt - lo).toNat < offs.size := by omega
    obtain ⟨q, q1, q2⟩ := hall _ hi1
    exact h1 q q1 (Int32.toInt_inj.mp (by omega))
theorem zs_lookup (Γ : zGa p s m args c cc nL own G A) {dflt : Int} {ps : Array (Int × Int)} {len d : Nat} {cs : List (Int32 × Nat)} (hd : decode cc pc = .ok (.lookupswitch dflt ps, len)) (hp : (ps.toList.zip (ps.toList.drop 1)).all (fun (a, next) => a.1 < next.1) = true) (hdf : (pc : Int) + dflt = (d : Int)) (hcs : ps.toList = cs.map (fun q => (q.1.toInt, (q.2 : Int) - (pc : Int)))) : zNx p l e R s m args below meth c cells slots G A nL pc (zsw cs d) := by
  intro f pc' f' hx H locs ls Q hH kk
  obtain ⟨L, st, M⟩ := f
  obtain ⟨x, t, rfl, hx2⟩ : ∃ x t, st = zI x :: t ∧ (some (Sum.inr (zswt cs d x, L, t, M)) : zT) = some (Sum.inr (pc', f')) := by
    unfold zsw at hx
    dsimp only at hx
    split at hx
    · rename_i x t; exact ⟨x, t, rfl, hx⟩
    · cases hx
  cases hx2
  have k2 := kk H locs ls ⟨hH.1, hH.2.1, hH.2.2.1, (hH.2.2.2).d⟩
  have ho : ∀ cs : List (Int32 × Nat), Op.lookupswitch.offset (cs.map (fun q => (q.1.toInt, (q.2 : Int) - (pc : Int)))) dflt x.toInt = (zswt cs d x : Int) - (pc : Int) := by
    intro cs
    induction cs with
    | nil => show dflt = _; simp only [zswt]; omega
    | cons a r ih =>
      obtain ⟨k, t⟩ := a
      rw [List.map_cons, Op.lookupswitch.offset_cons]
      by_cases hk : x = k
      · subst hk; simp [zswt]
      · have hk2 : ¬ k.toInt = x.toInt := fun z => hk (Int32.toInt_inj.mp z).symm
        have hk3 : ¬ x.toInt = k.toInt := fun z => hk2 z.symm
        simp only [zswt, hk, if_false]
        first
          | rw [if_neg hk2]; exact ih
          | rw [if_neg hk3]; exact ih
          | (simp [hk2, hk3]; exact ih)
  have ho2 : Op.lookupswitch.offset ps.toList dflt x.toInt = (zswt cs d x : Int) - (pc : Int) := by rw [hcs]; exact ho cs
  exact lv_lookup Γ.1 Γ.2.1 hd hp ho2 (by omega) k2
theorem zwalk {C : Nat → zX} (h : ∀ pc, zNx p l e R s m args below meth c cells slots G A nL pc (C pc)) {Q : State → Prop} {r : zQ} (hret : ∀ (pc : Nat) (f : zF), C pc pc f = some (.inl r) → ∀ (H : Heap) (locs : List Loc) (ls : Array Slot), zHo s G A nL f H locs ls → W p l e R s m args below meth c H locs cells slots Q (F0 m pc ls (f.2.1.map (zc G)))) :
    ∀ (n pc : Nat) (f : zF), zrun C n pc f = some r → ∀ (H : Heap) (locs : List Loc) (ls : Array Slot), zHo s G A nL f H locs ls → W p l e R s m args below meth c H locs cells slots Q (F0 m pc ls (f.2.1.map (zc G))) := by
  intro n
  induction n with
  | zero => intro pc f h; cases h
  | succ n ih =>
    intro pc f hr H locs ls hH
    rw [zrun] at hr
    cases hc : C pc pc f with
    | none => rw [hc] at hr; cases hr
    | some t =>
      rw [hc] at hr
      cases t with
      | inl q => cases hr; exact hret pc f hc H locs ls hH
      | inr q => exact h pc f q.1 q.2 hc H locs ls Q hH (fun H' locs' ls' hH' => ih q.1 q.2 hr H' locs' ls' hH')
end ZS4
theorem zlay_sl (G : zG) : ∀ a : List zV, (lg_sl (a.map (zc G))).length = (zlay a).length
  | [] => rfl
  | v :: t => by
    have ih := zlay_sl G t
    rcases v with x | x | _ | x <;> simp [lg_sl, zlay, zc, Value.category] at ih ⊢ <;> omega
theorem zlay_args (G : zG) (k : Nat) : ∀ (a : List zV) (i : Nat) (q : Nat × Value), q ∈ zlv G i (zlay a ++ List.replicate k none) → q ∈ lv_args i (a.map (zc G))
  | [], i, q, h => by
    obtain ⟨j, v, h1, -⟩ := (zlv_mem _ _ _).mp h
    have : ∀ (k j : Nat), zget (List.replicate k none) j = none := by
      intro k
      induction k with
      | zero => intro j; rfl
      | succ k ih =>
        intro j
        cases j with
        | zero => rfl
        | succ j => exact ih j
    have h1 : zget (List.replicate k none) j = some v := h1
    rw [this] at h1; cases h1
  | v :: t, i, q, h => by
    rcases v with x | x | _ | x
    · rcases List.mem_cons.mp (show q ∈ (i, zc G (zI x)) :: zlv G (i + 1) (zlay t ++ List.replicate k none) from h) with rfl | h
      · exact List.mem_cons_self
      · exact List.mem_cons_of_mem _ (zlay_args G k t (i + 1) q h)
    · rcases List.mem_cons.mp (show q ∈ (i, zc G (zJ x)) :: zlv G (i + 1 + 1) (zlay t ++ List.replicate k none) from h) with rfl | h
      · exact List.mem_cons_self
      · exact List.mem_cons_of_mem _ (zlay_args G k t (i + 1 + 1) q h)
    · rcases List.mem_cons.mp (show q ∈ (i, zc G zN) :: zlv G (i + 1) (zlay t ++ List.replicate k none) from h) with rfl | h
      · exact List.mem_cons_self
      · exact List.mem_cons_of_mem _ (zlay_args G k t (i + 1) q h)
    · rcases List.mem_cons.mp (show q ∈ (i, zc G (.inr (.inr (some x)))) :: zlv G (i + 1) (zlay t ++ List.replicate k none) from h) with rfl | h
      · exact List.mem_cons_self
      · exact List.mem_cons_of_mem _ (zlay_args G k t (i + 1) q h)
theorem zent_ok {G : zG} (nL : Nat) (a : List zV) (h : ∀ v ∈ a, zvr G v) : zok G (zent nL a) [] := by
  refine ⟨fun i v hv => ?_, fun v hv => by cases hv⟩
  have key : ∀ (k : Nat) (a : List zV) (i : Nat) (v : zV), zget (zlay a ++ List.replicate k none) i = some v → v ∈ a := by
    intro k a
    induction a with
    | nil =>
      intro i v h
      have : ∀ (k j : Nat), zget (List.replicate k none) j = none := by
        intro k
        induction k with
        | zero => intro j; rfl
        | succ k ih =>
          intro j
          cases j with
          | zero => rfl
          | succ j => exact ih j
      have h1 : zget (List.replicate k none) i = some v := h
      rw [this] at h1; cases h1
    | cons w t ih =>
      intro i v h
      rcases w with x | x | x
      · cases i with
        | zero => cases h; exact List.mem_cons_self
        | succ i => exact List.mem_cons_of_mem _ (ih i v h)
      · cases i with
        | zero => cases h; exact List.mem_cons_self
        | succ i =>
          cases i with
          | zero => cases h
          | succ i => exact List.mem_cons_of_mem _ (ih i v h)
      · cases i with
        | zero => cases h; exact List.mem_cons_self
        | succ i => exact List.mem_cons_of_mem _ (ih i v h)
  exact h v (key _ a i v hv)
/-- a method: what its instructions do, it does -/
theorem zmeth {l : Launch} {G : zG} {C : Nat → zX} {y : MethodName} {bytes : ByteArray} {maxL : Nat} {ret : Option FieldType} {rm : Room} (hrm : rm.cells = 0 ∧ rm.slots = 0) (hy : plainName y.cls = true)
    (hin : ∀ {p : Program} {e : Env} {s : State} {m : MethodId} {args : Array Value} {below : List Frame} {meth : Method} {c : Code}, zGa p s m args c bytes maxL y.cls G (zA G) → meth.sig.returnType = ret → meth.locks = false → ∀ pc, zNx p l e rm s m args below meth c 0 0 G (zA G) maxL pc (C pc) ∧ zRt p l e rm s m args below meth c 0 0 G maxL pc (C pc)) :
    zMet l G y bytes maxL ret rm (zdn C maxL) := by
  intro a M r hg
  rw [hrm.1, hrm.2]
  have hln : (zlay a).length ≤ maxL := by
    unfold zdn at hg
    split at hg
    · rename_i h; exact Nat.le_of_ble_eq_true h
    · cases hg
  have hg : zev C 0 (zent maxL a, [], M) = some r := by
    unfold zdn at hg
    split at hg
    · exact hg
    · cases hg
  obtain ⟨n, hn⟩ := zev_iff.mp hg
  refine Met.ofW (cc := bytes) (maxL := maxL) (ret := ret) hy rfl ?_
  intro p e s m args below meth c s₁ B hml hv
  obtain ⟨rfl, hP, hD, hK, hro, hmo, hav, hne⟩ := hv
  have hts := atoms_spec (ws := zwsy y bytes maxL ret) B.pre
  have Γ : zGa p s m (a.map (zc G)).toArray c bytes maxL y.cls G (zA G) := ⟨B.exec, B.bytes, hml, findClass_of_methodNamed B.named, fun w hw => hts w (List.mem_cons_of_mem _ hw), hK, hro, fun q h => h, hne⟩
  have hlen : (lg_sl (a.map (zc G))).length ≤ maxL := by rw [zlay_sl]; exact hln
  have hl := lv_entry (a.map (zc G)) hlen
  rw [lg_entry_eq]
  generalize (lg_sl (a.map (zc G)) ++ List.replicate (maxL - (lg_sl (a.map (zc G))).length) Slot.unset).toArray = ls at hl ⊢
  have hI := hin (e := e) (below := below) Γ B.returns B.notSynchronized
  refine zwalk (fun pc => (hI pc).1) (fun pc f hc H locs ls hH => (hI pc).2 f r hc H locs ls hH) n 0 (zent maxL a, [], M) hn s.heap [] ls ⟨⟨hl.1, hl.2.1, fun q hq => hl.2.2 q (zlay_args G _ a 0 q hq)⟩, ?_, ⟨hP, hD, va_S.rf, hmo⟩, zent_ok maxL a hav⟩
  show (zlay a ++ List.replicate _ none).length = maxL
  rw [List.length_append, List.length_replicate]
  omega
/-- out of a list of instructions -/
def zAll (P : Nat → zX → Prop) : List (Nat × zX) → Prop
  | [] => True
  | (k, x) :: t => P k x ∧ zAll P t
theorem zfind_all {P : Nat → zX → Prop} (h0 : ∀ pc, P pc (fun _ _ => none)) : ∀ {L : List (Nat × zX)}, zAll P L → ∀ pc, P pc (zfind L pc)
  | [], _, pc => h0 pc
  | (k, x) :: t, h, pc => by
    rw [zfind]
    cases hb : Nat.beq k pc with
    | true => cases Nat.eq_of_beq_eq_true hb; exact h.1
    | false => exact zfind_all h0 h.2 pc

/-- one instruction in a method without room of its own -/
abbrev zP (p : Program) (l : Launch) (e : Env) (R : Room) (s : State) (m : MethodId) (args : Array Value) (below : List Frame) (meth : Method) (c : Code) (G : zG) (nL pc : Nat) (x : zX) : Prop := zNx p l e R s m args below meth c 0 0 G (zA G) nL pc x ∧ zRt p l e R s m args below meth c 0 0 G nL pc x
theorem zmethL {l : Launch} {G : zG} {L : List (Nat × zX)} {y : MethodName} {bytes : ByteArray} {maxL : Nat} {ret : Option FieldType} {rm : Room} (hrm : rm.cells = 0 ∧ rm.slots = 0) (hy : plainName y.cls = true)
    (hin : ∀ {p : Program} {e : Env} {s : State} {m : MethodId} {args : Array Value} {below : List Frame} {meth : Method} {c : Code}, zGa p s m args c bytes maxL y.cls G (zA G) → meth.sig.returnType = ret → meth.locks = false → zAll (fun pc x => zP p l e rm s m args below meth c G maxL pc x) L) :
    zMet l G y bytes maxL ret rm (zdn (zfind L) maxL) := by
  refine zmeth hrm hy (fun {p e s m args below meth c} Γ hr hk pc => ?_)
  exact zfind_all (P := fun pc x => zP p l e rm s m args below meth c G maxL pc x) (fun pc => ⟨fun f pc' f' h => (by cases h), fun f r h => (by cases h)⟩) (hin Γ hr hk) pc
theorem zAl_c {P : Nat → zX → Prop} {k : Nat} {x : zX} {t : List (Nat × zX)} (h : P k x) (ht : zAll P t) : zAll P ((k, x) :: t) := ⟨h, ht⟩
theorem zAl_n {P : Nat → zX → Prop} : zAll P [] := trivial
theorem zAl_a {P : Nat → zX → Prop} : ∀ {a b : List (Nat × zX)}, zAll P a → zAll P b → zAll P (a ++ b)
  | [], _, _, hb => hb
  | (_, _) :: _, _, ha, hb => ⟨ha.1, zAl_a ha.2 hb⟩
theorem zny {p : Program} {l : Launch} {e : Env} {R : Room} {s : State} {m : MethodId} {args : Array Value} {below : List Frame} {meth : Method} {c : Code} {G : zG} {nL pc : Nat} {x : zX} (h : ∀ (f : zF) (q : Nat × zF), x pc f ≠ some (.inr q)) : zNx p l e R s m args below meth c 0 0 G (zA G) nL pc x := fun f pc' f' hx => absurd hx (h f (pc', f'))
theorem ny_v (pc : Nat) (f : zF) (q : Nat × zF) : zvret pc f ≠ some (.inr q) := by
  intro h
  unfold zvret at h
  split at h <;> cases h
theorem ny_i (pc : Nat) (f : zF) (q : Nat × zF) : ziret pc f ≠ some (.inr q) := by
  intro h
  unfold ziret at h
  split at h <;> cases h
theorem ny_z (pc : Nat) (f : zF) (q : Nat × zF) : zzret pc f ≠ some (.inr q) := by
  intro h
  unfold zzret at h
  repeat' split at h
  all_goals cases h
theorem ny_l (pc : Nat) (f : zF) (q : Nat × zF) : zlret pc f ≠ some (.inr q) := by
  intro h
  unfold zlret at h
  split at h <;> cases h
theorem ny_a (pc : Nat) (f : zF) (q : Nat × zF) : zaret pc f ≠ some (.inr q) := by
  intro h
  unfold zaret at h
  split at h <;> cases h
theorem zin_X (c : Nat) {C : String} {T : u_T} {N : Nat} (h : (u_ws C T N).all (fun w => decide (w ∈ lw_tbl) && goodWord w) = true) : ∀ w ∈ u_ws C T N, w ∈ zTs := fun w hw => by
  have h1 := List.all_eq_true.mp h w hw
  simp only [Bool.and_eq_true, decide_eq_true_eq] at h1
  exact zTs_of h1.1 h1.2
theorem zget_drs : ∀ (L : List (Option zV)) (ks : List Bool) (i : Nat) (v : zV), zget (zdrs L ks) i = some v → zget L i = some v
  | [], ks, i, v, h => by cases ks <;> exact h
  | w :: L, [], i, v, h => h
  | w :: L, b :: m, 0, v, h => by
    cases b with
    | true => cases h
    | false => exact h
  | w :: L, b :: m, i + 1, v, h => zget_drs L m i v h
theorem zdrs_len : ∀ (L : List (Option zV)) (ks : List Bool), (zdrs L ks).length = L.length
  | [], ks => by cases ks <;> rfl
  | w :: L, [] => rfl
  | w :: L, b :: m => by simp [zdrs, zdrs_len L m]
theorem zHo_dr {s : State} {G : zG} {A : Nat → Prop} {nL : Nat} {L : List (Option zV)} {q : List zV × zM} {H : Heap} {locs : List Loc} {ls : Array Slot} (ks : List Bool) (h : zHo s G A nL (L, q) H locs ls) : zHo s G A nL (zdrs L ks, q) H locs ls := by
  refine ⟨⟨h.1.1, h.1.2.1, fun x hx => ?_⟩, by show (zdrs L ks).length = nL; rw [zdrs_len]; exact h.2.1, h.2.2.1, fun i v hv => h.2.2.2.1 i v (zget_drs L ks i v hv), h.2.2.2.2⟩
  obtain ⟨j, v, h1, h2⟩ := (zlv_mem _ _ _).mp hx
  exact h.1.2.2 x ((zlv_mem _ _ _).mpr ⟨j, v, zget_drs L ks j v h1, h2⟩)
theorem zdr_nx {p : Program} {l : Launch} {e : Env} {R : Room} {s : State} {m : MethodId} {args : Array Value} {below : List Frame} {meth : Method} {c : Code} {cells slots : Nat} {G : zG} {A : Nat → Prop} {nL pc : Nat} {x : zX} {ks : List Bool} (h : zNx p l e R s m args below meth c cells slots G A nL pc x) : zNx p l e R s m args below meth c cells slots G A nL pc (zdr ks x) := by
  intro f pc' f' hx H locs ls Q hH kk
  obtain ⟨L, q⟩ := f
  exact h (zdrs L ks, q) pc' f' hx H locs ls Q (zHo_dr ks hH) kk
theorem zdr_P {p : Program} {l : Launch} {e : Env} {R : Room} {s : State} {m : MethodId} {args : Array Value} {below : List Frame} {meth : Method} {c : Code} {G : zG} {nL pc : Nat} {x : zX} {ks : List Bool} (h : zP p l e R s m args below meth c G nL pc x) : zP p l e R s m args below meth c G nL pc (zdr ks x) := by
  refine ⟨zdr_nx h.1, fun f r hx H locs ls hH => ?_⟩
  obtain ⟨L, q⟩ := f
  exact h.2 (zdrs L ks, q) r hx H locs ls (zHo_dr ks hH)
