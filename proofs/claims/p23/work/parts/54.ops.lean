-- ===== the class: a word goes; changes of a state =====
theorem cp_remove {M : zM} {k n w : Nat} {σ : Nat → Int32} (hn : n < 10) (hw : w ≤ n) (hG : zGW M k σ (n + 1)) : ∃ M', zd_X6_remove [zR 6 k, zI (nI w)] M = some (none, M') ∧ zGW M' k (zuw σ w n) n ∧ zFW M M' k := by
  have hw1 : nI w + 1 = nI (w + 1) := nI_1 w
  have e1 : (nI (w + 1)).toNatClampNeg = w + 1 := ix_cl (by omega)
  have e0 : (nI w).toNatClampNeg = w := ix_cl (by omega)
  have ed : (nI (n - w)).toNatClampNeg = n - w := ix_cl (by omega)
  have s1 : ∃ Ma, zd_X6_remove [zR 6 k, zI (nI w)] M = zev zC_X6_remove 19 ([some (zR 6 k), some (zI (nI w)), none, none, none], [], Ma) ∧ zFW M Ma k ∧ Ma.1 6 k 0 = nI n ∧ Ma.1 20 k = M.1 20 k ∧ Ma.1 21 k = M.1 21 k ∧ Ma.1 22 k = M.1 22 k ∧ Ma.2 = M.2 := by
    refine ⟨(zst M.1 6 k (upd (M.1 6 k) 0 (nI n)), M.2), ?_, zFW.i M 6 k (upd (M.1 6 k) 0 (nI n)) (by omega), by dsimp only; rw [zst_self, upd_s], zw_ne M 6 k (upd (M.1 6 k) 0 (nI n)) 20 k (by omega), zw_ne M 6 k (upd (M.1 6 k) 0 (nI n)) 21 k (by omega), zw_ne M 6 k (upd (M.1 6 k) 0 (nI n)) 22 k (by omega), rfl⟩
    rw [en_X6_remove, bk_X6_remove_0, zbi (cp_has k _ M), bk_X6_remove_5, if_neg (zne0 ⟨nI_pos' (by omega), by rw [hG.1]; exact nI_lt (by omega) (by omega)⟩), bk_X6_remove_9, hG.1, nI_pred]
  obtain ⟨Ma, a1, af, a6, a20, a21, a22, a2⟩ := s1
  have s2 : ∃ Mb, zev zC_X6_remove 19 ([some (zR 6 k), some (zI (nI w)), none, none, none], [], Ma) = zev zC_X6_remove 42 ([some (zR 6 k), some (zI (nI w)), some (zI (nI (n - w))), none, none], [], Mb) ∧ zFW Ma Mb k ∧ Mb.1 6 k = Ma.1 6 k ∧ Mb.1 20 k = va_cpy (Ma.1 20 k) (Ma.1 20 k) (w + 1) w (n - w) ∧ Mb.1 21 k = Ma.1 21 k ∧ Mb.1 22 k = Ma.1 22 k ∧ Mb.2 = Ma.2 := by
    refine ⟨(zst Ma.1 20 k (va_cpy (Ma.1 20 k) (Ma.1 20 k) (w + 1) w (n - w)), Ma.2), ?_, zFW.i Ma 20 k (va_cpy (Ma.1 20 k) (Ma.1 20 k) (w + 1) w (n - w)) (by omega), zw_ne Ma 20 k (va_cpy (Ma.1 20 k) (Ma.1 20 k) (w + 1) w (n - w)) 6 k (by omega), zst_self Ma.1 20 k _, zw_ne Ma 20 k (va_cpy (Ma.1 20 k) (Ma.1 20 k) (w + 1) w (n - w)) 21 k (by omega), zw_ne Ma 20 k (va_cpy (Ma.1 20 k) (Ma.1 20 k) (w + 1) w (n - w)) 22 k (by omega), rfl⟩
    rw [bk_X6_remove_19, a6, pk_sub hw, hw1, if_neg (by
      rw [e1, e0, ed]
      rintro (h | h | h | h | h)
      · exact nI_pos (by omega) h
      · exact nI_pos (by omega) h
      · exact nI_pos (by omega) h
      · omega
      · omega), e1, e0, ed]
  obtain ⟨Mb, b1, bf, b6, b20, b21, b22, b2⟩ := s2
  have s3 : ∃ Mc, zev zC_X6_remove 42 ([some (zR 6 k), some (zI (nI w)), some (zI (nI (n - w))), none, none], [], Mb) = zev zC_X6_remove 58 ([some (zR 6 k), some (zI (nI w)), some (zI (nI (n - w))), none, none], [], Mc) ∧ zFW Mb Mc k ∧ Mc.1 6 k = Mb.1 6 k ∧ Mc.1 20 k = Mb.1 20 k ∧ Mc.1 21 k = va_cpy (Mb.1 21 k) (Mb.1 21 k) (w + 1) w (n - w) ∧ Mc.1 22 k = Mb.1 22 k ∧ Mc.2 = Mb.2 := by
    refine ⟨(zst Mb.1 21 k (va_cpy (Mb.1 21 k) (Mb.1 21 k) (w + 1) w (n - w)), Mb.2), ?_, zFW.i Mb 21 k (va_cpy (Mb.1 21 k) (Mb.1 21 k) (w + 1) w (n - w)) (by omega), zw_ne Mb 21 k (va_cpy (Mb.1 21 k) (Mb.1 21 k) (w + 1) w (n - w)) 6 k (by omega), zw_ne Mb 21 k (va_cpy (Mb.1 21 k) (Mb.1 21 k) (w + 1) w (n - w)) 20 k (by omega), zst_self Mb.1 21 k _, zw_ne Mb 21 k (va_cpy (Mb.1 21 k) (Mb.1 21 k) (w + 1) w (n - w)) 22 k (by omega), rfl⟩
    rw [bk_X6_remove_42, hw1, if_neg (by
      rw [e1, e0, ed]
      rintro (h | h | h | h | h)
      · exact nI_pos (by omega) h
      · exact nI_pos (by omega) h
      · exact nI_pos (by omega) h
      · omega
      · omega), e1, e0, ed]
  obtain ⟨Mc, c1, cf, c6, c20, c21, c22, c2⟩ := s3
  have s4 : ∃ Md, zev zC_X6_remove 58 ([some (zR 6 k), some (zI (nI w)), some (zI (nI (n - w))), none, none], [], Mc) = zev zC_X6_remove 74 ([some (zR 6 k), some (zI (nI w)), some (zI (nI (n - w))), none, none], [], Md) ∧ zFW Mc Md k ∧ Md.1 6 k = Mc.1 6 k ∧ Md.1 20 k = Mc.1 20 k ∧ Md.1 21 k = Mc.1 21 k ∧ Md.1 22 k = va_cpy (Mc.1 22 k) (Mc.1 22 k) (w + 1) w (n - w) ∧ Md.2 = Mc.2 := by
    refine ⟨(zst Mc.1 22 k (va_cpy (Mc.1 22 k) (Mc.1 22 k) (w + 1) w (n - w)), Mc.2), ?_, zFW.i Mc 22 k (va_cpy (Mc.1 22 k) (Mc.1 22 k) (w + 1) w (n - w)) (by omega), zw_ne Mc 22 k (va_cpy (Mc.1 22 k) (Mc.1 22 k) (w + 1) w (n - w)) 6 k (by omega), zw_ne Mc 22 k (va_cpy (Mc.1 22 k) (Mc.1 22 k) (w + 1) w (n - w)) 20 k (by omega), zw_ne Mc 22 k (va_cpy (Mc.1 22 k) (Mc.1 22 k) (w + 1) w (n - w)) 21 k (by omega), zst_self Mc.1 22 k _, rfl⟩
    rw [bk_X6_remove_58, hw1, if_neg (by
      rw [e1, e0, ed]
      rintro (h | h | h | h | h)
      · exact nI_pos (by omega) h
      · exact nI_pos (by omega) h
      · exact nI_pos (by omega) h
      · omega
      · omega), e1, e0, ed]
  obtain ⟨Md, d1, df, d6, d20, d21, d22, d2⟩ := s4
  have f0 : (nI (22 * w + 0)).toNatClampNeg = 22 * w := ix_cl (by omega)
  have f1 : (nI (22 * (w + 1) + 0)).toNatClampNeg = 22 * (w + 1) := ix_cl (by omega)
  have fd : (nI ((n - w) * 22)).toNatClampNeg = (n - w) * 22 := ix_cl (by omega)
  have s5 : ∃ Me, zev zC_X6_remove 74 ([some (zR 6 k), some (zI (nI w)), some (zI (nI (n - w))), none, none], [], Md) = zev zC_X6_remove 107 ([some (zR 6 k), some (zI (nI w)), some (zI (nI (n - w))), some (zI (nI (22 * (w + 1) + 0))), some (zI (nI (22 * w + 0)))], [], Me) ∧ zFW Md Me k ∧ Me.1 = Md.1 ∧ Me.2.1 23 k = va_cpy (Md.2.1 23 k) (Md.2.1 23 k) (22 * (w + 1)) (22 * w) ((n - w) * 22) ∧ Me.2.1 24 k = Md.2.1 24 k := by
    refine ⟨(Md.1, zst Md.2.1 23 k (va_cpy (Md.2.1 23 k) (Md.2.1 23 k) (22 * (w + 1)) (22 * w) ((n - w) * 22)), Md.2.2), ?_, zFW.j Md 23 k (va_cpy (Md.2.1 23 k) (Md.2.1 23 k) (22 * (w + 1)) (22 * w) ((n - w) * 22)) (by omega), rfl, zst_self Md.2.1 23 k _, zst_ne (c := 23) (n := k) (c' := 24) (n' := k) Md.2.1 (va_cpy (Md.2.1 23 k) (Md.2.1 23 k) (22 * (w + 1)) (22 * w) ((n - w) * 22)) (by omega)⟩
    rw [bk_X6_remove_74, hw1, show (0 : Int32) = nI 0 from rfl, zbi (cp_placeOf (w + 1) 0 Md), bk_X6_remove_81, show (0 : Int32) = nI 0 from rfl, zbi (cp_placeOf w 0 Md), bk_X6_remove_87, show (22 : Int32) = nI 22 from rfl, pk_mul, if_neg (by
      rw [f1, f0, fd]
      rintro (h | h | h | h | h)
      · exact nI_pos (by omega) h
      · exact nI_pos (by omega) h
      · exact nI_pos (by omega) h
      · omega
      · omega), f1, f0, fd]
  obtain ⟨Me, g1, gf, gi, g23, g24⟩ := s5
  have s6 : ∃ Mf, zev zC_X6_remove 107 ([some (zR 6 k), some (zI (nI w)), some (zI (nI (n - w))), some (zI (nI (22 * (w + 1) + 0))), some (zI (nI (22 * w + 0)))], [], Me) = some (none, Mf) ∧ zFW Me Mf k ∧ Mf.1 = Me.1 ∧ Mf.2.1 23 k = Me.2.1 23 k ∧ Mf.2.1 24 k = va_cpy (Me.2.1 24 k) (Me.2.1 24 k) (22 * (w + 1)) (22 * w) ((n - w) * 22) := by
    refine ⟨(Me.1, zst Me.2.1 24 k (va_cpy (Me.2.1 24 k) (Me.2.1 24 k) (22 * (w + 1)) (22 * w) ((n - w) * 22)), Me.2.2), ?_, zFW.j Me 24 k (va_cpy (Me.2.1 24 k) (Me.2.1 24 k) (22 * (w + 1)) (22 * w) ((n - w) * 22)) (by omega), rfl, zst_ne (c := 24) (n := k) (c' := 23) (n' := k) Me.2.1 (va_cpy (Me.2.1 24 k) (Me.2.1 24 k) (22 * (w + 1)) (22 * w) ((n - w) * 22)) (by omega), zst_self Me.2.1 24 k _⟩
    rw [bk_X6_remove_107, show (22 : Int32) = nI 22 from rfl, pk_mul, if_neg (by
      rw [f1, f0, fd]
      rintro (h | h | h | h | h)
      · exact nI_pos (by omega) h
      · exact nI_pos (by omega) h
      · exact nI_pos (by omega) h
      · omega
      · omega), f1, f0, fd, bk_X6_remove_125]
  obtain ⟨Mf, h1, hf, hi, h23, h24⟩ := s6
  have v20 : Mf.1 20 k = va_cpy (M.1 20 k) (M.1 20 k) (w + 1) w (n - w) := by rw [hi, gi, d20, c20, b20, a20]
  have v21 : Mf.1 21 k = va_cpy (M.1 21 k) (M.1 21 k) (w + 1) w (n - w) := by rw [hi, gi, d21, c21, b21, a21]
  have v22 : Mf.1 22 k = va_cpy (M.1 22 k) (M.1 22 k) (w + 1) w (n - w) := by rw [hi, gi, d22, c22, b22, a22]
  have v23 : Mf.2.1 23 k = va_cpy (M.2.1 23 k) (M.2.1 23 k) (22 * (w + 1)) (22 * w) ((n - w) * 22) := by rw [h23, g23, d2, c2, b2, a2]
  have v24 : Mf.2.1 24 k = va_cpy (M.2.1 24 k) (M.2.1 24 k) (22 * (w + 1)) (22 * w) ((n - w) * 22) := by rw [h24, g24, d2, c2, b2, a2]
  refine ⟨Mf, ((((a1.trans b1).trans c1).trans d1).trans g1).trans h1, ⟨by rw [hi, gi, d6, c6, b6, a6], fun v hv => ?_⟩, ((((af.tr bf).tr cf).tr df).tr gf).tr hf⟩
  rw [v20, v21, v22, v23, v24]
  by_cases c : v < w
  · have z8 : zuw σ w n (8 + 2 * v) = σ (8 + 2 * v) := by unfold zuw; rw [if_neg (by omega), if_neg (by omega)]
    have z9 : zuw σ w n (9 + 2 * v) = σ (9 + 2 * v) := by unfold zuw; rw [if_neg (by omega), if_neg (by omega)]
    rw [z8, z9, pk_cpy_out (Or.inl c), pk_cpy_out (Or.inl c), pk_cpy_out (Or.inl c)]
    obtain ⟨q1, q2, q3, q4⟩ := hG.2 v (by omega)
    refine ⟨q1, q2, q3, fun s hs => ?_⟩
    rw [pk_cpy_out (Or.inl (by omega)), pk_cpy_out (Or.inl (by omega))]
    exact q4 s hs
  · have z8 : zuw σ w n (8 + 2 * v) = σ (8 + 2 * v + 2) := by unfold zuw; rw [if_neg (by omega), if_pos (by omega)]
    have z9 : zuw σ w n (9 + 2 * v) = σ (9 + 2 * v + 2) := by unfold zuw; rw [if_neg (by omega), if_pos (by omega)]
    rw [z8, z9, pk_cpy_in (by omega) (by omega), pk_cpy_in (by omega) (by omega), pk_cpy_in (by omega) (by omega), show w + 1 + (v - w) = v + 1 by omega, show 8 + 2 * v + 2 = 8 + 2 * (v + 1) by omega, show 9 + 2 * v + 2 = 9 + 2 * (v + 1) by omega]
    obtain ⟨q1, q2, q3, q4⟩ := hG.2 (v + 1) (by omega)
    refine ⟨q1, q2, q3, fun s hs => ?_⟩
    rw [pk_cpy_in (by omega) (by omega), pk_cpy_in (by omega) (by omega), show 22 * (w + 1) + (22 * v + s - 22 * w) = 22 * (v + 1) + s by omega]
    exact q4 s hs
