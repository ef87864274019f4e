-- ===== the law: its loop =====
noncomputable def zL_law : List (Nat × zX) := [(16, zxc (zI 0) 1), (17, zistore 3 1), (18, ziload 3 1), (19, zaload 0 1), (20, zalen), (21, zxc (zI 5) 1), (22, zbin (fun x y => x - y)), (23, zcgt 744), (26, zaload 0 1), (27, ziload 3 1), (28, ziald), (29, zxc (zI 31) 2), (31, zbin (fun x y => x &&& y)), (32, zsw [(0, 128), (1, 151), (2, 174), (3, 207), (4, 230), (5, 283), (6, 316), (7, 349), (8, 402), (9, 435), (10, 468), (11, 511), (12, 554), (13, 587), (14, 630), (15, 653), (16, 666), (17, 689), (18, 702), (19, 725)] 738), (128, zaload 1 1), (129, zaload 0 1), (130, ziload 3 1), (131, zxc (zI 1) 1), (132, zbin (fun x y => x + y)), (133, ziald), (134, zcallv 7 1 zd_X7_word), (137, zaload 2 1), (138, zaload 0 1), (139, ziload 3 1), (140, zxc (zI 1) 1), (141, zbin (fun x y => x + y)), (142, ziald), (143, zcallv 8 1 zd_X8_word), (146, zceq 738), (149, zxc (zI 0) 1), (150, zzret), (151, zaload 1 1), (152, zaload 0 1), (153, ziload 3 1), (154, zxc (zI 1) 1), (155, zbin (fun x y => x + y)), (156, ziald), (157, zcallv 7 1 zd_X7_unword), (160, zaload 2 1), (161, zaload 0 1), (162, ziload 3 1), (163, zxc (zI 1) 1), (164, zbin (fun x y => x + y)), (165, ziald), (166, zcallv 8 1 zd_X8_unword), (169, zceq 738), (172, zxc (zI 0) 1), (173, zzret), (174, zaload 1 1), (175, zaload 0 1), (176, ziload 3 1), (177, zxc (zI 1) 1), (178, zbin (fun x y => x + y)), (179, ziald), (180, zaload 0 1), (181, ziload 3 1), (182, zxc (zI 2) 1), (183, zbin (fun x y => x + y)), (184, ziald), (185, zcallv 7 2 zd_X7_show), (188, zaload 2 1), (189, zaload 0 1), (190, ziload 3 1), (191, zxc (zI 1) 1), (192, zbin (fun x y => x + y)), (193, ziald), (194, zaload 0 1), (195, ziload 3 1), (196, zxc (zI 2) 1), (197, zbin (fun x y => x + y)), (198, ziald), (199, zcallv 8 2 zd_X8_show), (202, zceq 738), (205, zxc (zI 0) 1), (206, zzret), (207, zaload 1 1), (208, zaload 0 1), (209, ziload 3 1), (210, zxc (zI 1) 1), (211, zbin (fun x y => x + y)), (212, ziald), (213, zcallv 7 1 zd_X7_blank), (216, zaload 2 1), (217, zaload 0 1), (218, ziload 3 1), (219, zxc (zI 1) 1), (220, zbin (fun x y => x + y)), (221, ziald), (222, zcallv 8 1 zd_X8_blank), (225, zceq 738), (228, zxc (zI 0) 1), (229, zzret), (230, zaload 1 1), (231, zaload 0 1), (232, ziload 3 1), (233, zxc (zI 1) 1), (234, zbin (fun x y => x + y)), (235, ziald), (236, zaload 0 1), (237, ziload 3 1), (238, zxc (zI 2) 1), (239, zbin (fun x y => x + y)), (240, ziald), (241, zaload 0 1), (242, ziload 3 1), (243, zxc (zI 3) 1), (244, zbin (fun x y => x + y)), (245, ziald), (246, zaload 0 1), (247, ziload 3 1), (248, zxc (zI 4) 1), (249, zbin (fun x y => x + y)), (250, ziald), (251, zcallv 7 4 zd_X7_stick), (254, zaload 2 1), (255, zaload 0 1), (256, ziload 3 1), (257, zxc (zI 1) 1), (258, zbin (fun x y => x + y)), (259, ziald), (260, zaload 0 1), (261, ziload 3 1), (262, zxc (zI 2) 1), (263, zbin (fun x y => x + y)), (264, ziald), (265, zaload 0 1), (266, ziload 3 1), (267, zxc (zI 3) 1), (268, zbin (fun x y => x + y)), (269, ziald), (270, zaload 0 1), (271, ziload 3 1), (272, zxc (zI 4) 1), (273, zbin (fun x y => x + y)), (274, ziald), (275, zcallv 8 4 zd_X8_stick), (278, zceq 738), (281, zxc (zI 0) 1), (282, zzret), (283, zaload 1 1), (284, zaload 0 1), (285, ziload 3 1), (286, zxc (zI 1) 1), (287, zbin (fun x y => x + y)), (288, ziald), (289, zaload 0 1), (290, ziload 3 1), (291, zxc (zI 2) 1), (292, zbin (fun x y => x + y)), (293, ziald), (294, zcallv 7 2 zd_X7_repair), (297, zaload 2 1), (298, zaload 0 1), (299, ziload 3 1), (300, zxc (zI 1) 1), (301, zbin (fun x y => x + y)), (302, ziald), (303, zaload 0 1), (304, ziload 3 1), (305, zxc (zI 2) 1), (306, zbin (fun x y => x + y)), (307, ziald), (308, zcallv 8 2 zd_X8_repair), (311, zceq 738), (314, zxc (zI 0) 1), (315, zzret), (316, zaload 1 1), (317, zaload 0 1), (318, ziload 3 1), (319, zxc (zI 1) 1), (320, zbin (fun x y => x + y)), (321, ziald), (322, zaload 0 1), (323, ziload 3 1), (324, zxc (zI 2) 1), (325, zbin (fun x y => x + y)), (326, ziald), (327, zcallv 7 2 zd_X7_set), (330, zaload 2 1), (331, zaload 0 1), (332, ziload 3 1), (333, zxc (zI 1) 1), (334, zbin (fun x y => x + y)), (335, ziald), (336, zaload 0 1), (337, ziload 3 1), (338, zxc (zI 2) 1), (339, zbin (fun x y => x + y)), (340, ziald), (341, zcallv 8 2 zd_X8_set), (344, zceq 738), (347, zxc (zI 0) 1), (348, zzret), (349, zaload 1 1), (350, zaload 0 1), (351, ziload 3 1), (352, zxc (zI 1) 1), (353, zbin (fun x y => x + y)), (354, ziald), (355, zaload 0 1), (356, ziload 3 1), (357, zxc (zI 2) 1), (358, zbin (fun x y => x + y)), (359, ziald), (360, zaload 0 1), (361, ziload 3 1), (362, zxc (zI 3) 1), (363, zbin (fun x y => x + y)), (364, ziald), (365, zaload 0 1), (366, ziload 3 1), (367, zxc (zI 4) 1), (368, zbin (fun x y => x + y)), (369, ziald), (370, zcallv 7 4 zd_X7_disc), (373, zaload 2 1), (374, zaload 0 1), (375, ziload 3 1), (376, zxc (zI 1) 1), (377, zbin (fun x y => x + y)), (378, ziald), (379, zaload 0 1), (380, ziload 3 1), (381, zxc (zI 2) 1), (382, zbin (fun x y => x + y)), (383, ziald), (384, zaload 0 1), (385, ziload 3 1), (386, zxc (zI 3) 1), (387, zbin (fun x y => x + y)), (388, ziald), (389, zaload 0 1), (390, ziload 3 1), (391, zxc (zI 4) 1), (392, zbin (fun x y => x + y)), (393, ziald), (394, zcallv 8 4 zd_X8_disc), (397, zceq 738), (400, zxc (zI 0) 1), (401, zzret), (402, zaload 1 1), (403, zaload 0 1), (404, ziload 3 1), (405, zxc (zI 1) 1), (406, zbin (fun x y => x + y)), (407, ziald), (408, zaload 0 1), (409, ziload 3 1), (410, zxc (zI 2) 1), (411, zbin (fun x y => x + y)), (412, ziald), (413, zcallv 7 2 zd_X7_blindOf), (416, zaload 2 1), (417, zaload 0 1), (418, ziload 3 1), (419, zxc (zI 1) 1), (420, zbin (fun x y => x + y)), (421, ziald), (422, zaload 0 1), (423, ziload 3 1), (424, zxc (zI 2) 1), (425, zbin (fun x y => x + y)), (426, ziald), (427, zcallv 8 2 zd_X8_blindOf), (430, zceq 738), (433, zxc (zI 0) 1), (434, zzret), (435, zaload 1 1), (436, zaload 0 1), (437, ziload 3 1), (438, zxc (zI 1) 1), (439, zbin (fun x y => x + y)), (440, ziald), (441, zaload 0 1), (442, ziload 3 1), (443, zxc (zI 2) 1), (444, zbin (fun x y => x + y)), (445, ziald), (446, zcallv 7 2 zd_X7_wordOf), (449, zaload 2 1), (450, zaload 0 1), (451, ziload 3 1), (452, zxc (zI 1) 1), (453, zbin (fun x y => x + y)), (454, ziald), (455, zaload 0 1), (456, ziload 3 1), (457, zxc (zI 2) 1), (458, zbin (fun x y => x + y)), (459, ziald), (460, zcallv 8 2 zd_X8_wordOf), (463, zceq 738), (466, zxc (zI 0) 1), (467, zzret), (468, zaload 1 1), (469, zaload 0 1), (470, ziload 3 1), (471, zxc (zI 1) 1), (472, zbin (fun x y => x + y)), (473, ziald), (474, zaload 0 1), (475, ziload 3 1), (476, zxc (zI 2) 1), (477, zbin (fun x y => x + y)), (478, ziald), (479, zaload 0 1), (480, ziload 3 1), (481, zxc (zI 3) 1), (482, zbin (fun x y => x + y)), (483, ziald), (484, zcallv 7 3 zd_X7_margin), (487, zaload 2 1), (488, zaload 0 1), (489, ziload 3 1), (490, zxc (zI 1) 1), (491, zbin (fun x y => x + y)), (492, ziald), (493, zaload 0 1), (494, ziload 3 1), (495, zxc (zI 2) 1), (496, zbin (fun x y => x + y)), (497, ziald), (498, zaload 0 1), (499, ziload 3 1), (500, zxc (zI 3) 1), (501, zbin (fun x y => x + y)), (502, ziald), (503, zcallv 8 3 zd_X8_margin), (506, zceq 738), (509, zxc (zI 0) 1), (510, zzret), (511, zaload 1 1), (512, zaload 0 1), (513, ziload 3 1), (514, zxc (zI 1) 1), (515, zbin (fun x y => x + y)), (516, ziald), (517, zaload 0 1), (518, ziload 3 1), (519, zxc (zI 2) 1), (520, zbin (fun x y => x + y)), (521, ziald), (522, zaload 0 1), (523, ziload 3 1), (524, zxc (zI 3) 1), (525, zbin (fun x y => x + y)), (526, ziald), (527, zcallv 7 3 zd_X7_would), (530, zaload 2 1), (531, zaload 0 1), (532, ziload 3 1), (533, zxc (zI 1) 1), (534, zbin (fun x y => x + y)), (535, ziald), (536, zaload 0 1), (537, ziload 3 1), (538, zxc (zI 2) 1), (539, zbin (fun x y => x + y)), (540, ziald), (541, zaload 0 1), (542, ziload 3 1), (543, zxc (zI 3) 1), (544, zbin (fun x y => x + y)), (545, ziald), (546, zcallv 8 3 zd_X8_would), (549, zceq 738), (552, zxc (zI 0) 1), (553, zzret), (554, zaload 1 1), (555, zaload 0 1), (556, ziload 3 1), (557, zxc (zI 1) 1), (558, zbin (fun x y => x + y)), (559, ziald), (560, zaload 0 1), (561, ziload 3 1), (562, zxc (zI 2) 1), (563, zbin (fun x y => x + y)), (564, ziald), (565, zcallv 7 2 zd_X7_closest), (568, zaload 2 1), (569, zaload 0 1), (570, ziload 3 1), (571, zxc (zI 1) 1), (572, zbin (fun x y => x + y)), (573, ziald), (574, zaload 0 1), (575, ziload 3 1), (576, zxc (zI 2) 1), (577, zbin (fun x y => x + y)), (578, ziald), (579, zcallv 8 2 zd_X8_closest), (582, zceq 738), (585, zxc (zI 0) 1), (586, zzret), (587, zaload 1 1), (588, zaload 0 1), (589, ziload 3 1), (590, zxc (zI 1) 1), (591, zbin (fun x y => x + y)), (592, ziald), (593, zaload 0 1), (594, ziload 3 1), (595, zxc (zI 2) 1), (596, zbin (fun x y => x + y)), (597, ziald), (598, zaload 0 1), (599, ziload 3 1), (600, zxc (zI 3) 1), (601, zbin (fun x y => x + y)), (602, ziald), (603, zcallv 7 3 zd_X7_bestRepair), (606, zaload 2 1), (607, zaload 0 1), (608, ziload 3 1), (609, zxc (zI 1) 1), (610, zbin (fun x y => x + y)), (611, ziald), (612, zaload 0 1), (613, ziload 3 1), (614, zxc (zI 2) 1), (615, zbin (fun x y => x + y)), (616, ziald), (617, zaload 0 1), (618, ziload 3 1), (619, zxc (zI 3) 1), (620, zbin (fun x y => x + y)), (621, ziald), (622, zcallv 8 3 zd_X8_bestRepair), (625, zceq 738), (628, zxc (zI 0) 1), (629, zzret), (630, zaload 1 1), (631, zaload 0 1), (632, ziload 3 1), (633, zxc (zI 1) 1), (634, zbin (fun x y => x + y)), (635, ziald), (636, zcallv 7 1 zd_X7_count), (639, zaload 2 1), (640, zaload 0 1), (641, ziload 3 1), (642, zxc (zI 1) 1), (643, zbin (fun x y => x + y)), (644, ziald), (645, zcallv 8 1 zd_X8_count), (648, zceq 738), (651, zxc (zI 0) 1), (652, zzret), (653, zaload 1 1), (654, zcallv 7 0 zd_X7_undo), (657, zaload 2 1), (658, zcallv 8 0 zd_X8_undo), (661, zceq 738), (664, zxc (zI 0) 1), (665, zzret), (666, zaload 1 1), (667, zaload 0 1), (668, ziload 3 1), (669, zxc (zI 1) 1), (670, zbin (fun x y => x + y)), (671, ziald), (672, zcallv 7 1 zd_X7_type), (675, zaload 2 1), (676, zaload 0 1), (677, ziload 3 1), (678, zxc (zI 1) 1), (679, zbin (fun x y => x + y)), (680, ziald), (681, zcallv 8 1 zd_X8_type), (684, zceq 738), (687, zxc (zI 0) 1), (688, zzret), (689, zaload 1 1), (690, zcallv 7 0 zd_X7_clearText), (693, zaload 2 1), (694, zcallv 8 0 zd_X8_clearText), (697, zceq 738), (700, zxc (zI 0) 1), (701, zzret), (702, zaload 1 1), (703, zaload 0 1), (704, ziload 3 1), (705, zxc (zI 1) 1), (706, zbin (fun x y => x + y)), (707, ziald), (708, zcallv 7 1 zd_X7_fault), (711, zaload 2 1), (712, zaload 0 1), (713, ziload 3 1), (714, zxc (zI 1) 1), (715, zbin (fun x y => x + y)), (716, ziald), (717, zcallv 8 1 zd_X8_fault), (720, zceq 738), (723, zxc (zI 0) 1), (724, zzret), (725, zaload 1 1), (726, zcallv 7 0 zd_X7_play), (729, zaload 2 1), (730, zcallv 8 0 zd_X8_play), (733, zceq 738), (736, zxc (zI 0) 1), (737, zzret), (738, ziinc 3 (Int32.ofInt 5)), (741, zgoto 18), (744, zxc (zI 1) 1), (745, zzret)]
noncomputable abbrev zC_law : Nat → zX := zfind zL_law
abbrev zlw (i : Nat) : List (Option zV) := [some (zR 41 0), some (zR 7 0), some (zR 8 0), some (zI (nI i))]
theorem la_obj {C : Nat → zX} {pc i c k : Nat} {st : List zV} {M : zM} (hc : C pc = zaload k 1) (hk : zget (zlw i) k = some (zR c 0)) : zev C pc (zlw i, st, M) = zev C (pc + 1) (zlw i, zR c 0 :: st, M) := zev_s hc (by unfold zaload; rw [hk])
theorem la_arg {C : Nat → zX} {pc i n j : Nat} {v : Int32} {st : List zV} {M : zM} (h0 : C pc = zaload 0 1) (h1 : C (pc + 1) = ziload 3 1) (h2 : C (pc + 2) = zxc (zI v) 1) (h3 : C (pc + 3) = zbin (fun x y => x + y)) (h4 : C (pc + 4) = ziald) (hv : v = nI j) (hi : i + j < n) (hn : n < 2 ^ 31) (h42 : M.1 42 0 0 = nI n) :
    zev C pc (zlw i, st, M) = zev C (pc + 5) (zlw i, zI (M.1 41 0 (i + j)) :: st, M) := by
  subst hv
  refine (zev_s (f' := (zlw i, zR 41 0 :: st, M)) h0 rfl).trans ?_
  refine (zev_s (f' := (zlw i, zI (nI i) :: zR 41 0 :: st, M)) h1 rfl).trans ?_
  refine (zev_s (f' := (zlw i, zI (nI j) :: zI (nI i) :: zR 41 0 :: st, M)) h2 rfl).trans ?_
  refine (zev_s (f' := (zlw i, zI (nI i + nI j) :: zR 41 0 :: st, M)) h3 rfl).trans ?_
  refine zev_s h4 ?_
  show (if (nI i + nI j) < 0 ∨ (M.1 42 0 0).toNatClampNeg ≤ (nI i + nI j).toNatClampNeg then none else some (.inr (pc + 4 + 1, zlw i, zI (M.1 41 0 (nI i + nI j).toNatClampNeg) :: st, M)) : zT) = _
  rw [nI_add, h42, ix_cl hn, if_neg (ix_in hi hn), ix_cl (by omega)]
theorem la_call {C : Nat → zX} {pc c k : Nat} {g : List zV → zM → Option zQ} {L : List (Option zV)} {as st : List zV} {M M' : zM} {a : Int32} (hc : C pc = zcallv c k g) (hk : as.length = k) (hs : zcats st ≤ 8) (h : g (zR c 0 :: as.reverse) M = zs a M') : zev C pc (L, as ++ zR c 0 :: st, M) = zev C (pc + 3) (L, zI a :: st, M') := by
  refine zev_s hc ?_
  unfold zcallv
  have e1 : (as ++ zR c 0 :: st).drop k = zR c 0 :: st := by rw [← hk, List.drop_left]
  have e2 : (as ++ zR c 0 :: st).take k = as := by rw [← hk, List.take_left]
  dsimp only
  rw [e1, e2]
  dsimp only
  have b1 : Nat.beq c c = true := Nat.beq_refl c
  have b2 : Nat.ble (zcats st) 8 = true := Nat.ble_eq_true_of_le hs
  rw [b1, b2]
  dsimp only
  rw [h]
  rfl
theorem la_eq {C : Nat → zX} {pc t : Nat} {L : List (Option zV)} {st : List zV} {M : zM} {a : Int32} (hc : C pc = zceq t) : zev C pc (L, zI a :: zI a :: st, M) = zev C t (L, st, M) := by
  refine zev_s hc ?_
  unfold zceq
  dsimp only
  rw [if_pos rfl]
theorem zInv.mono {B B' : Nat} {M : zM} (h : zInv B M) (hB : B ≤ B') : zInv B' M := by
  obtain ⟨a, b, c, d, e, p, f, g, k⟩ := h
  exact ⟨a.mono hB, b, c, d, e, p, f, g, fun i hi => (k i hi).mono hB⟩
set_option maxRecDepth 100000 in
theorem lk_0 {B n i : Nat} {M : zM} (hB : B + 61 < 2 ^ 25) (h : zInv B M) (hi : i + 4 < n) (hn : n < 2 ^ 31) (h42 : M.1 42 0 0 = nI n) : ∃ M3, zev zC_law 128 (zlw i, [], M) = zev zC_law 738 (zlw i, [], M3) ∧ zInv (B + 61) M3 ∧ zLw M M3 := by
  obtain ⟨a, M2, M3, e1, e2, l2, h3, l3⟩ := iv_word h (M.1 41 0 (i + 1))
  have x42 : M2.1 42 0 0 = nI n := (congrFun (l2 42 0 (by omega)) 0).trans h42
  have x41 : M2.1 41 0 = M.1 41 0 := l2 41 0 (by omega)
  refine ⟨M3, ?_, h3.mono (by omega), l3⟩
  refine (la_obj (pc := 128) (c := 7) (k := 1) rfl rfl).trans ?_
  refine (la_arg (pc := 129) (j := 1) (v := 1) rfl rfl rfl rfl rfl rfl (by omega) hn h42).trans ?_
  refine (la_call (pc := 134) (c := 7) (as := [zI (M.1 41 0 (i + 1))]) (st := []) (a := a) (M' := M2) rfl rfl (by decide) e1).trans ?_
  refine (la_obj (pc := 137) (c := 8) (k := 2) rfl rfl).trans ?_
  refine (la_arg (pc := 138) (j := 1) (v := 1) rfl rfl rfl rfl rfl rfl (by omega) hn x42).trans ?_
  rw [x41]
  refine (la_call (pc := 143) (c := 8) (as := [zI (M.1 41 0 (i + 1))]) (st := [zI a]) (a := a) (M' := M3) rfl rfl (Nat.le_of_ble_eq_true rfl) e2).trans ?_
  exact la_eq (pc := 146) rfl
set_option maxRecDepth 100000 in
theorem lk_1 {B n i : Nat} {M : zM} (hB : B + 61 < 2 ^ 25) (h : zInv B M) (hi : i + 4 < n) (hn : n < 2 ^ 31) (h42 : M.1 42 0 0 = nI n) : ∃ M3, zev zC_law 151 (zlw i, [], M) = zev zC_law 738 (zlw i, [], M3) ∧ zInv (B + 61) M3 ∧ zLw M M3 := by
  obtain ⟨a, M2, M3, e1, e2, l2, h3, l3⟩ := iv_unword h (M.1 41 0 (i + 1))
  have x42 : M2.1 42 0 0 = nI n := (congrFun (l2 42 0 (by omega)) 0).trans h42
  have x41 : M2.1 41 0 = M.1 41 0 := l2 41 0 (by omega)
  refine ⟨M3, ?_, h3.mono (by omega), l3⟩
  refine (la_obj (pc := 151) (c := 7) (k := 1) rfl rfl).trans ?_
  refine (la_arg (pc := 152) (j := 1) (v := 1) rfl rfl rfl rfl rfl rfl (by omega) hn h42).trans ?_
  refine (la_call (pc := 157) (c := 7) (as := [zI (M.1 41 0 (i + 1))]) (st := []) (a := a) (M' := M2) rfl rfl (by decide) e1).trans ?_
  refine (la_obj (pc := 160) (c := 8) (k := 2) rfl rfl).trans ?_
  refine (la_arg (pc := 161) (j := 1) (v := 1) rfl rfl rfl rfl rfl rfl (by omega) hn x42).trans ?_
  rw [x41]
  refine (la_call (pc := 166) (c := 8) (as := [zI (M.1 41 0 (i + 1))]) (st := [zI a]) (a := a) (M' := M3) rfl rfl (Nat.le_of_ble_eq_true rfl) e2).trans ?_
  exact la_eq (pc := 169) rfl
set_option maxRecDepth 100000 in
theorem lk_2 {B n i : Nat} {M : zM} (hB : B + 61 < 2 ^ 25) (h : zInv B M) (hi : i + 4 < n) (hn : n < 2 ^ 31) (h42 : M.1 42 0 0 = nI n) : ∃ M3, zev zC_law 174 (zlw i, [], M) = zev zC_law 738 (zlw i, [], M3) ∧ zInv (B + 61) M3 ∧ zLw M M3 := by
  obtain ⟨a, M2, M3, e1, e2, l2, h3, l3⟩ := iv_show (by omega) h (M.1 41 0 (i + 1)) (M.1 41 0 (i + 2))
  have x42 : M2.1 42 0 0 = nI n := (congrFun (l2 42 0 (by omega)) 0).trans h42
  have x41 : M2.1 41 0 = M.1 41 0 := l2 41 0 (by omega)
  refine ⟨M3, ?_, h3.mono (by omega), l3⟩
  refine (la_obj (pc := 174) (c := 7) (k := 1) rfl rfl).trans ?_
  refine (la_arg (pc := 175) (j := 1) (v := 1) rfl rfl rfl rfl rfl rfl (by omega) hn h42).trans ?_
  refine (la_arg (pc := 180) (j := 2) (v := 2) rfl rfl rfl rfl rfl rfl (by omega) hn h42).trans ?_
  refine (la_call (pc := 185) (c := 7) (as := [zI (M.1 41 0 (i + 2)), zI (M.1 41 0 (i + 1))]) (st := []) (a := a) (M' := M2) rfl rfl (by decide) e1).trans ?_
  refine (la_obj (pc := 188) (c := 8) (k := 2) rfl rfl).trans ?_
  refine (la_arg (pc := 189) (j := 1) (v := 1) rfl rfl rfl rfl rfl rfl (by omega) hn x42).trans ?_
  refine (la_arg (pc := 194) (j := 2) (v := 2) rfl rfl rfl rfl rfl rfl (by omega) hn x42).trans ?_
  rw [x41]
  refine (la_call (pc := 199) (c := 8) (as := [zI (M.1 41 0 (i + 2)), zI (M.1 41 0 (i + 1))]) (st := [zI a]) (a := a) (M' := M3) rfl rfl (Nat.le_of_ble_eq_true rfl) e2).trans ?_
  exact la_eq (pc := 202) rfl
set_option maxRecDepth 100000 in
theorem lk_3 {B n i : Nat} {M : zM} (hB : B + 61 < 2 ^ 25) (h : zInv B M) (hi : i + 4 < n) (hn : n < 2 ^ 31) (h42 : M.1 42 0 0 = nI n) : ∃ M3, zev zC_law 207 (zlw i, [], M) = zev zC_law 738 (zlw i, [], M3) ∧ zInv (B + 61) M3 ∧ zLw M M3 := by
  obtain ⟨a, M2, M3, e1, e2, l2, h3, l3⟩ := iv_blank (by omega) h (M.1 41 0 (i + 1))
  have x42 : M2.1 42 0 0 = nI n := (congrFun (l2 42 0 (by omega)) 0).trans h42
  have x41 : M2.1 41 0 = M.1 41 0 := l2 41 0 (by omega)
  refine ⟨M3, ?_, h3.mono (by omega), l3⟩
  refine (la_obj (pc := 207) (c := 7) (k := 1) rfl rfl).trans ?_
  refine (la_arg (pc := 208) (j := 1) (v := 1) rfl rfl rfl rfl rfl rfl (by omega) hn h42).trans ?_
  refine (la_call (pc := 213) (c := 7) (as := [zI (M.1 41 0 (i + 1))]) (st := []) (a := a) (M' := M2) rfl rfl (by decide) e1).trans ?_
  refine (la_obj (pc := 216) (c := 8) (k := 2) rfl rfl).trans ?_
  refine (la_arg (pc := 217) (j := 1) (v := 1) rfl rfl rfl rfl rfl rfl (by omega) hn x42).trans ?_
  rw [x41]
  refine (la_call (pc := 222) (c := 8) (as := [zI (M.1 41 0 (i + 1))]) (st := [zI a]) (a := a) (M' := M3) rfl rfl (Nat.le_of_ble_eq_true rfl) e2).trans ?_
  exact la_eq (pc := 225) rfl
set_option maxRecDepth 100000 in
theorem lk_4 {B n i : Nat} {M : zM} (hB : B + 61 < 2 ^ 25) (h : zInv B M) (hi : i + 4 < n) (hn : n < 2 ^ 31) (h42 : M.1 42 0 0 = nI n) : ∃ M3, zev zC_law 230 (zlw i, [], M) = zev zC_law 738 (zlw i, [], M3) ∧ zInv (B + 61) M3 ∧ zLw M M3 := by
  obtain ⟨a, M2, M3, e1, e2, l2, h3, l3⟩ := iv_stick (by omega) h (M.1 41 0 (i + 1)) (M.1 41 0 (i + 2)) (M.1 41 0 (i + 3)) (M.1 41 0 (i + 4))
  have x42 : M2.1 42 0 0 = nI n := (congrFun (l2 42 0 (by omega)) 0).trans h42
  have x41 : M2.1 41 0 = M.1 41 0 := l2 41 0 (by omega)
  refine ⟨M3, ?_, h3.mono (by omega), l3⟩
  refine (la_obj (pc := 230) (c := 7) (k := 1) rfl rfl).trans ?_
  refine (la_arg (pc := 231) (j := 1) (v := 1) rfl rfl rfl rfl rfl rfl (by omega) hn h42).trans ?_
  refine (la_arg (pc := 236) (j := 2) (v := 2) rfl rfl rfl rfl rfl rfl (by omega) hn h42).trans ?_
  refine (la_arg (pc := 241) (j := 3) (v := 3) rfl rfl rfl rfl rfl rfl (by omega) hn h42).trans ?_
  refine (la_arg (pc := 246) (j := 4) (v := 4) rfl rfl rfl rfl rfl rfl (by omega) hn h42).trans ?_
  refine (la_call (pc := 251) (c := 7) (as := [zI (M.1 41 0 (i + 4)), zI (M.1 41 0 (i + 3)), zI (M.1 41 0 (i + 2)), zI (M.1 41 0 (i + 1))]) (st := []) (a := a) (M' := M2) rfl rfl (by decide) e1).trans ?_
  refine (la_obj (pc := 254) (c := 8) (k := 2) rfl rfl).trans ?_
  refine (la_arg (pc := 255) (j := 1) (v := 1) rfl rfl rfl rfl rfl rfl (by omega) hn x42).trans ?_
  refine (la_arg (pc := 260) (j := 2) (v := 2) rfl rfl rfl rfl rfl rfl (by omega) hn x42).trans ?_
  refine (la_arg (pc := 265) (j := 3) (v := 3) rfl rfl rfl rfl rfl rfl (by omega) hn x42).trans ?_
  refine (la_arg (pc := 270) (j := 4) (v := 4) rfl rfl rfl rfl rfl rfl (by omega) hn x42).trans ?_
  rw [x41]
  refine (la_call (pc := 275) (c := 8) (as := [zI (M.1 41 0 (i + 4)), zI (M.1 41 0 (i + 3)), zI (M.1 41 0 (i + 2)), zI (M.1 41 0 (i + 1))]) (st := [zI a]) (a := a) (M' := M3) rfl rfl (Nat.le_of_ble_eq_true rfl) e2).trans ?_
  exact la_eq (pc := 278) rfl
set_option maxRecDepth 100000 in
theorem lk_5 {B n i : Nat} {M : zM} (hB : B + 61 < 2 ^ 25) (h : zInv B M) (hi : i + 4 < n) (hn : n < 2 ^ 31) (h42 : M.1 42 0 0 = nI n) : ∃ M3, zev zC_law 283 (zlw i, [], M) = zev zC_law 738 (zlw i, [], M3) ∧ zInv (B + 61) M3 ∧ zLw M M3 := by
  obtain ⟨a, M2, M3, e1, e2, l2, h3, l3⟩ := iv_repair (by omega) h (M.1 41 0 (i + 1)) (M.1 41 0 (i + 2))
  have x42 : M2.1 42 0 0 = nI n := (congrFun (l2 42 0 (by omega)) 0).trans h42
  have x41 : M2.1 41 0 = M.1 41 0 := l2 41 0 (by omega)
  refine ⟨M3, ?_, h3.mono (by omega), l3⟩
  refine (la_obj (pc := 283) (c := 7) (k := 1) rfl rfl).trans ?_
  refine (la_arg (pc := 284) (j := 1) (v := 1) rfl rfl rfl rfl rfl rfl (by omega) hn h42).trans ?_
  refine (la_arg (pc := 289) (j := 2) (v := 2) rfl rfl rfl rfl rfl rfl (by omega) hn h42).trans ?_
  refine (la_call (pc := 294) (c := 7) (as := [zI (M.1 41 0 (i + 2)), zI (M.1 41 0 (i + 1))]) (st := []) (a := a) (M' := M2) rfl rfl (by decide) e1).trans ?_
  refine (la_obj (pc := 297) (c := 8) (k := 2) rfl rfl).trans ?_
  refine (la_arg (pc := 298) (j := 1) (v := 1) rfl rfl rfl rfl rfl rfl (by omega) hn x42).trans ?_
  refine (la_arg (pc := 303) (j := 2) (v := 2) rfl rfl rfl rfl rfl rfl (by omega) hn x42).trans ?_
  rw [x41]
  refine (la_call (pc := 308) (c := 8) (as := [zI (M.1 41 0 (i + 2)), zI (M.1 41 0 (i + 1))]) (st := [zI a]) (a := a) (M' := M3) rfl rfl (Nat.le_of_ble_eq_true rfl) e2).trans ?_
  exact la_eq (pc := 311) rfl
set_option maxRecDepth 100000 in
theorem lk_6 {B n i : Nat} {M : zM} (hB : B + 61 < 2 ^ 25) (h : zInv B M) (hi : i + 4 < n) (hn : n < 2 ^ 31) (h42 : M.1 42 0 0 = nI n) : ∃ M3, zev zC_law 316 (zlw i, [], M) = zev zC_law 738 (zlw i, [], M3) ∧ zInv (B + 61) M3 ∧ zLw M M3 := by
  obtain ⟨a, M2, M3, e1, e2, l2, h3, l3⟩ := iv_set h (M.1 41 0 (i + 1)) (M.1 41 0 (i + 2))
  have x42 : M2.1 42 0 0 = nI n := (congrFun (l2 42 0 (by omega)) 0).trans h42
  have x41 : M2.1 41 0 = M.1 41 0 := l2 41 0 (by omega)
  refine ⟨M3, ?_, h3.mono (by omega), l3⟩
  refine (la_obj (pc := 316) (c := 7) (k := 1) rfl rfl).trans ?_
  refine (la_arg (pc := 317) (j := 1) (v := 1) rfl rfl rfl rfl rfl rfl (by omega) hn h42).trans ?_
  refine (la_arg (pc := 322) (j := 2) (v := 2) rfl rfl rfl rfl rfl rfl (by omega) hn h42).trans ?_
  refine (la_call (pc := 327) (c := 7) (as := [zI (M.1 41 0 (i + 2)), zI (M.1 41 0 (i + 1))]) (st := []) (a := a) (M' := M2) rfl rfl (by decide) e1).trans ?_
  refine (la_obj (pc := 330) (c := 8) (k := 2) rfl rfl).trans ?_
  refine (la_arg (pc := 331) (j := 1) (v := 1) rfl rfl rfl rfl rfl rfl (by omega) hn x42).trans ?_
  refine (la_arg (pc := 336) (j := 2) (v := 2) rfl rfl rfl rfl rfl rfl (by omega) hn x42).trans ?_
  rw [x41]
  refine (la_call (pc := 341) (c := 8) (as := [zI (M.1 41 0 (i + 2)), zI (M.1 41 0 (i + 1))]) (st := [zI a]) (a := a) (M' := M3) rfl rfl (Nat.le_of_ble_eq_true rfl) e2).trans ?_
  exact la_eq (pc := 344) rfl
set_option maxRecDepth 100000 in
theorem lk_7 {B n i : Nat} {M : zM} (hB : B + 61 < 2 ^ 25) (h : zInv B M) (hi : i + 4 < n) (hn : n < 2 ^ 31) (h42 : M.1 42 0 0 = nI n) : ∃ M3, zev zC_law 349 (zlw i, [], M) = zev zC_law 738 (zlw i, [], M3) ∧ zInv (B + 61) M3 ∧ zLw M M3 := by
  obtain ⟨a, M2, M3, e1, e2, l2, h3, l3⟩ := iv_disc (by omega) h (M.1 41 0 (i + 1)) (M.1 41 0 (i + 2)) (M.1 41 0 (i + 3)) (M.1 41 0 (i + 4))
  have x42 : M2.1 42 0 0 = nI n := (congrFun (l2 42 0 (by omega)) 0).trans h42
  have x41 : M2.1 41 0 = M.1 41 0 := l2 41 0 (by omega)
  refine ⟨M3, ?_, h3.mono (by omega), l3⟩
  refine (la_obj (pc := 349) (c := 7) (k := 1) rfl rfl).trans ?_
  refine (la_arg (pc := 350) (j := 1) (v := 1) rfl rfl rfl rfl rfl rfl (by omega) hn h42).trans ?_
  refine (la_arg (pc := 355) (j := 2) (v := 2) rfl rfl rfl rfl rfl rfl (by omega) hn h42).trans ?_
  refine (la_arg (pc := 360) (j := 3) (v := 3) rfl rfl rfl rfl rfl rfl (by omega) hn h42).trans ?_
  refine (la_arg (pc := 365) (j := 4) (v := 4) rfl rfl rfl rfl rfl rfl (by omega) hn h42).trans ?_
  refine (la_call (pc := 370) (c := 7) (as := [zI (M.1 41 0 (i + 4)), zI (M.1 41 0 (i + 3)), zI (M.1 41 0 (i + 2)), zI (M.1 41 0 (i + 1))]) (st := []) (a := a) (M' := M2) rfl rfl (by decide) e1).trans ?_
  refine (la_obj (pc := 373) (c := 8) (k := 2) rfl rfl).trans ?_
  refine (la_arg (pc := 374) (j := 1) (v := 1) rfl rfl rfl rfl rfl rfl (by omega) hn x42).trans ?_
  refine (la_arg (pc := 379) (j := 2) (v := 2) rfl rfl rfl rfl rfl rfl (by omega) hn x42).trans ?_
  refine (la_arg (pc := 384) (j := 3) (v := 3) rfl rfl rfl rfl rfl rfl (by omega) hn x42).trans ?_
  refine (la_arg (pc := 389) (j := 4) (v := 4) rfl rfl rfl rfl rfl rfl (by omega) hn x42).trans ?_
  rw [x41]
  refine (la_call (pc := 394) (c := 8) (as := [zI (M.1 41 0 (i + 4)), zI (M.1 41 0 (i + 3)), zI (M.1 41 0 (i + 2)), zI (M.1 41 0 (i + 1))]) (st := [zI a]) (a := a) (M' := M3) rfl rfl (Nat.le_of_ble_eq_true rfl) e2).trans ?_
  exact la_eq (pc := 397) rfl
set_option maxRecDepth 100000 in
theorem lk_8 {B n i : Nat} {M : zM} (hB : B + 61 < 2 ^ 25) (h : zInv B M) (hi : i + 4 < n) (hn : n < 2 ^ 31) (h42 : M.1 42 0 0 = nI n) : ∃ M3, zev zC_law 402 (zlw i, [], M) = zev zC_law 738 (zlw i, [], M3) ∧ zInv (B + 61) M3 ∧ zLw M M3 := by
  obtain ⟨a, M2, M3, e1, e2, l2, h3, l3⟩ := iv_blindOf h (M.1 41 0 (i + 1)) (M.1 41 0 (i + 2))
  have x42 : M2.1 42 0 0 = nI n := (congrFun (l2 42 0 (by omega)) 0).trans h42
  have x41 : M2.1 41 0 = M.1 41 0 := l2 41 0 (by omega)
  refine ⟨M3, ?_, h3.mono (by omega), l3⟩
  refine (la_obj (pc := 402) (c := 7) (k := 1) rfl rfl).trans ?_
  refine (la_arg (pc := 403) (j := 1) (v := 1) rfl rfl rfl rfl rfl rfl (by omega) hn h42).trans ?_
  refine (la_arg (pc := 408) (j := 2) (v := 2) rfl rfl rfl rfl rfl rfl (by omega) hn h42).trans ?_
  refine (la_call (pc := 413) (c := 7) (as := [zI (M.1 41 0 (i + 2)), zI (M.1 41 0 (i + 1))]) (st := []) (a := a) (M' := M2) rfl rfl (by decide) e1).trans ?_
  refine (la_obj (pc := 416) (c := 8) (k := 2) rfl rfl).trans ?_
  refine (la_arg (pc := 417) (j := 1) (v := 1) rfl rfl rfl rfl rfl rfl (by omega) hn x42).trans ?_
  refine (la_arg (pc := 422) (j := 2) (v := 2) rfl rfl rfl rfl rfl rfl (by omega) hn x42).trans ?_
  rw [x41]
  refine (la_call (pc := 427) (c := 8) (as := [zI (M.1 41 0 (i + 2)), zI (M.1 41 0 (i + 1))]) (st := [zI a]) (a := a) (M' := M3) rfl rfl (Nat.le_of_ble_eq_true rfl) e2).trans ?_
  exact la_eq (pc := 430) rfl
set_option maxRecDepth 100000 in
theorem lk_9 {B n i : Nat} {M : zM} (hB : B + 61 < 2 ^ 25) (h : zInv B M) (hi : i + 4 < n) (hn : n < 2 ^ 31) (h42 : M.1 42 0 0 = nI n) : ∃ M3, zev zC_law 435 (zlw i, [], M) = zev zC_law 738 (zlw i, [], M3) ∧ zInv (B + 61) M3 ∧ zLw M M3 := by
  obtain ⟨a, M2, M3, e1, e2, l2, h3, l3⟩ := iv_wordOf h (M.1 41 0 (i + 1)) (M.1 41 0 (i + 2))
  have x42 : M2.1 42 0 0 = nI n := (congrFun (l2 42 0 (by omega)) 0).trans h42
  have x41 : M2.1 41 0 = M.1 41 0 := l2 41 0 (by omega)
  refine ⟨M3, ?_, h3.mono (by omega), l3⟩
  refine (la_obj (pc := 435) (c := 7) (k := 1) rfl rfl).trans ?_
  refine (la_arg (pc := 436) (j := 1) (v := 1) rfl rfl rfl rfl rfl rfl (by omega) hn h42).trans ?_
  refine (la_arg (pc := 441) (j := 2) (v := 2) rfl rfl rfl rfl rfl rfl (by omega) hn h42).trans ?_
  refine (la_call (pc := 446) (c := 7) (as := [zI (M.1 41 0 (i + 2)), zI (M.1 41 0 (i + 1))]) (st := []) (a := a) (M' := M2) rfl rfl (by decide) e1).trans ?_
  refine (la_obj (pc := 449) (c := 8) (k := 2) rfl rfl).trans ?_
  refine (la_arg (pc := 450) (j := 1) (v := 1) rfl rfl rfl rfl rfl rfl (by omega) hn x42).trans ?_
  refine (la_arg (pc := 455) (j := 2) (v := 2) rfl rfl rfl rfl rfl rfl (by omega) hn x42).trans ?_
  rw [x41]
  refine (la_call (pc := 460) (c := 8) (as := [zI (M.1 41 0 (i + 2)), zI (M.1 41 0 (i + 1))]) (st := [zI a]) (a := a) (M' := M3) rfl rfl (Nat.le_of_ble_eq_true rfl) e2).trans ?_
  exact la_eq (pc := 463) rfl
set_option maxRecDepth 100000 in
theorem lk_10 {B n i : Nat} {M : zM} (hB : B + 61 < 2 ^ 25) (h : zInv B M) (hi : i + 4 < n) (hn : n < 2 ^ 31) (h42 : M.1 42 0 0 = nI n) : ∃ M3, zev zC_law 468 (zlw i, [], M) = zev zC_law 738 (zlw i, [], M3) ∧ zInv (B + 61) M3 ∧ zLw M M3 := by
  obtain ⟨a, M2, M3, e1, e2, l2, h3, l3⟩ := iv_margin h (M.1 41 0 (i + 1)) (M.1 41 0 (i + 2)) (M.1 41 0 (i + 3))
  have x42 : M2.1 42 0 0 = nI n := (congrFun (l2 42 0 (by omega)) 0).trans h42
  have x41 : M2.1 41 0 = M.1 41 0 := l2 41 0 (by omega)
  refine ⟨M3, ?_, h3.mono (by omega), l3⟩
  refine (la_obj (pc := 468) (c := 7) (k := 1) rfl rfl).trans ?_
  refine (la_arg (pc := 469) (j := 1) (v := 1) rfl rfl rfl rfl rfl rfl (by omega) hn h42).trans ?_
  refine (la_arg (pc := 474) (j := 2) (v := 2) rfl rfl rfl rfl rfl rfl (by omega) hn h42).trans ?_
  refine (la_arg (pc := 479) (j := 3) (v := 3) rfl rfl rfl rfl rfl rfl (by omega) hn h42).trans ?_
  refine (la_call (pc := 484) (c := 7) (as := [zI (M.1 41 0 (i + 3)), zI (M.1 41 0 (i + 2)), zI (M.1 41 0 (i + 1))]) (st := []) (a := a) (M' := M2) rfl rfl (by decide) e1).trans ?_
  refine (la_obj (pc := 487) (c := 8) (k := 2) rfl rfl).trans ?_
  refine (la_arg (pc := 488) (j := 1) (v := 1) rfl rfl rfl rfl rfl rfl (by omega) hn x42).trans ?_
  refine (la_arg (pc := 493) (j := 2) (v := 2) rfl rfl rfl rfl rfl rfl (by omega) hn x42).trans ?_
  refine (la_arg (pc := 498) (j := 3) (v := 3) rfl rfl rfl rfl rfl rfl (by omega) hn x42).trans ?_
  rw [x41]
  refine (la_call (pc := 503) (c := 8) (as := [zI (M.1 41 0 (i + 3)), zI (M.1 41 0 (i + 2)), zI (M.1 41 0 (i + 1))]) (st := [zI a]) (a := a) (M' := M3) rfl rfl (Nat.le_of_ble_eq_true rfl) e2).trans ?_
  exact la_eq (pc := 506) rfl
set_option maxRecDepth 100000 in
theorem lk_11 {B n i : Nat} {M : zM} (hB : B + 61 < 2 ^ 25) (h : zInv B M) (hi : i + 4 < n) (hn : n < 2 ^ 31) (h42 : M.1 42 0 0 = nI n) : ∃ M3, zev zC_law 511 (zlw i, [], M) = zev zC_law 738 (zlw i, [], M3) ∧ zInv (B + 61) M3 ∧ zLw M M3 := by
  obtain ⟨a, M2, M3, e1, e2, l2, h3, l3⟩ := iv_would (by omega) h (M.1 41 0 (i + 1)) (M.1 41 0 (i + 2)) (M.1 41 0 (i + 3))
  have x42 : M2.1 42 0 0 = nI n := (congrFun (l2 42 0 (by omega)) 0).trans h42
  have x41 : M2.1 41 0 = M.1 41 0 := l2 41 0 (by omega)
  refine ⟨M3, ?_, h3.mono (by omega), l3⟩
  refine (la_obj (pc := 511) (c := 7) (k := 1) rfl rfl).trans ?_
  refine (la_arg (pc := 512) (j := 1) (v := 1) rfl rfl rfl rfl rfl rfl (by omega) hn h42).trans ?_
  refine (la_arg (pc := 517) (j := 2) (v := 2) rfl rfl rfl rfl rfl rfl (by omega) hn h42).trans ?_
  refine (la_arg (pc := 522) (j := 3) (v := 3) rfl rfl rfl rfl rfl rfl (by omega) hn h42).trans ?_
  refine (la_call (pc := 527) (c := 7) (as := [zI (M.1 41 0 (i + 3)), zI (M.1 41 0 (i + 2)), zI (M.1 41 0 (i + 1))]) (st := []) (a := a) (M' := M2) rfl rfl (by decide) e1).trans ?_
  refine (la_obj (pc := 530) (c := 8) (k := 2) rfl rfl).trans ?_
  refine (la_arg (pc := 531) (j := 1) (v := 1) rfl rfl rfl rfl rfl rfl (by omega) hn x42).trans ?_
  refine (la_arg (pc := 536) (j := 2) (v := 2) rfl rfl rfl rfl rfl rfl (by omega) hn x42).trans ?_
  refine (la_arg (pc := 541) (j := 3) (v := 3) rfl rfl rfl rfl rfl rfl (by omega) hn x42).trans ?_
  rw [x41]
  refine (la_call (pc := 546) (c := 8) (as := [zI (M.1 41 0 (i + 3)), zI (M.1 41 0 (i + 2)), zI (M.1 41 0 (i + 1))]) (st := [zI a]) (a := a) (M' := M3) rfl rfl (Nat.le_of_ble_eq_true rfl) e2).trans ?_
  exact la_eq (pc := 549) rfl
set_option maxRecDepth 100000 in
theorem lk_12 {B n i : Nat} {M : zM} (hB : B + 61 < 2 ^ 25) (h : zInv B M) (hi : i + 4 < n) (hn : n < 2 ^ 31) (h42 : M.1 42 0 0 = nI n) : ∃ M3, zev zC_law 554 (zlw i, [], M) = zev zC_law 738 (zlw i, [], M3) ∧ zInv (B + 61) M3 ∧ zLw M M3 := by
  obtain ⟨a, M2, M3, e1, e2, l2, h3, l3⟩ := iv_closest h (M.1 41 0 (i + 1)) (M.1 41 0 (i + 2))
  have x42 : M2.1 42 0 0 = nI n := (congrFun (l2 42 0 (by omega)) 0).trans h42
  have x41 : M2.1 41 0 = M.1 41 0 := l2 41 0 (by omega)
  refine ⟨M3, ?_, h3.mono (by omega), l3⟩
  refine (la_obj (pc := 554) (c := 7) (k := 1) rfl rfl).trans ?_
  refine (la_arg (pc := 555) (j := 1) (v := 1) rfl rfl rfl rfl rfl rfl (by omega) hn h42).trans ?_
  refine (la_arg (pc := 560) (j := 2) (v := 2) rfl rfl rfl rfl rfl rfl (by omega) hn h42).trans ?_
  refine (la_call (pc := 565) (c := 7) (as := [zI (M.1 41 0 (i + 2)), zI (M.1 41 0 (i + 1))]) (st := []) (a := a) (M' := M2) rfl rfl (by decide) e1).trans ?_
  refine (la_obj (pc := 568) (c := 8) (k := 2) rfl rfl).trans ?_
  refine (la_arg (pc := 569) (j := 1) (v := 1) rfl rfl rfl rfl rfl rfl (by omega) hn x42).trans ?_
  refine (la_arg (pc := 574) (j := 2) (v := 2) rfl rfl rfl rfl rfl rfl (by omega) hn x42).trans ?_
  rw [x41]
  refine (la_call (pc := 579) (c := 8) (as := [zI (M.1 41 0 (i + 2)), zI (M.1 41 0 (i + 1))]) (st := [zI a]) (a := a) (M' := M3) rfl rfl (Nat.le_of_ble_eq_true rfl) e2).trans ?_
  exact la_eq (pc := 582) rfl
set_option maxRecDepth 100000 in
theorem lk_13 {B n i : Nat} {M : zM} (hB : B + 61 < 2 ^ 25) (h : zInv B M) (hi : i + 4 < n) (hn : n < 2 ^ 31) (h42 : M.1 42 0 0 = nI n) : ∃ M3, zev zC_law 587 (zlw i, [], M) = zev zC_law 738 (zlw i, [], M3) ∧ zInv (B + 61) M3 ∧ zLw M M3 := by
  obtain ⟨a, M2, M3, e1, e2, l2, h3, l3⟩ := iv_bestRepair h (M.1 41 0 (i + 1)) (M.1 41 0 (i + 2)) (M.1 41 0 (i + 3))
  have x42 : M2.1 42 0 0 = nI n := (congrFun (l2 42 0 (by omega)) 0).trans h42
  have x41 : M2.1 41 0 = M.1 41 0 := l2 41 0 (by omega)
  refine ⟨M3, ?_, h3.mono (by omega), l3⟩
  refine (la_obj (pc := 587) (c := 7) (k := 1) rfl rfl).trans ?_
  refine (la_arg (pc := 588) (j := 1) (v := 1) rfl rfl rfl rfl rfl rfl (by omega) hn h42).trans ?_
  refine (la_arg (pc := 593) (j := 2) (v := 2) rfl rfl rfl rfl rfl rfl (by omega) hn h42).trans ?_
  refine (la_arg (pc := 598) (j := 3) (v := 3) rfl rfl rfl rfl rfl rfl (by omega) hn h42).trans ?_
  refine (la_call (pc := 603) (c := 7) (as := [zI (M.1 41 0 (i + 3)), zI (M.1 41 0 (i + 2)), zI (M.1 41 0 (i + 1))]) (st := []) (a := a) (M' := M2) rfl rfl (by decide) e1).trans ?_
  refine (la_obj (pc := 606) (c := 8) (k := 2) rfl rfl).trans ?_
  refine (la_arg (pc := 607) (j := 1) (v := 1) rfl rfl rfl rfl rfl rfl (by omega) hn x42).trans ?_
  refine (la_arg (pc := 612) (j := 2) (v := 2) rfl rfl rfl rfl rfl rfl (by omega) hn x42).trans ?_
  refine (la_arg (pc := 617) (j := 3) (v := 3) rfl rfl rfl rfl rfl rfl (by omega) hn x42).trans ?_
  rw [x41]
  refine (la_call (pc := 622) (c := 8) (as := [zI (M.1 41 0 (i + 3)), zI (M.1 41 0 (i + 2)), zI (M.1 41 0 (i + 1))]) (st := [zI a]) (a := a) (M' := M3) rfl rfl (Nat.le_of_ble_eq_true rfl) e2).trans ?_
  exact la_eq (pc := 625) rfl
set_option maxRecDepth 100000 in
theorem lk_14 {B n i : Nat} {M : zM} (hB : B + 61 < 2 ^ 25) (h : zInv B M) (hi : i + 4 < n) (hn : n < 2 ^ 31) (h42 : M.1 42 0 0 = nI n) : ∃ M3, zev zC_law 630 (zlw i, [], M) = zev zC_law 738 (zlw i, [], M3) ∧ zInv (B + 61) M3 ∧ zLw M M3 := by
  obtain ⟨a, M2, M3, e1, e2, l2, h3, l3⟩ := iv_count h (M.1 41 0 (i + 1))
  have x42 : M2.1 42 0 0 = nI n := (congrFun (l2 42 0 (by omega)) 0).trans h42
  have x41 : M2.1 41 0 = M.1 41 0 := l2 41 0 (by omega)
  refine ⟨M3, ?_, h3.mono (by omega), l3⟩
  refine (la_obj (pc := 630) (c := 7) (k := 1) rfl rfl).trans ?_
  refine (la_arg (pc := 631) (j := 1) (v := 1) rfl rfl rfl rfl rfl rfl (by omega) hn h42).trans ?_
  refine (la_call (pc := 636) (c := 7) (as := [zI (M.1 41 0 (i + 1))]) (st := []) (a := a) (M' := M2) rfl rfl (by decide) e1).trans ?_
  refine (la_obj (pc := 639) (c := 8) (k := 2) rfl rfl).trans ?_
  refine (la_arg (pc := 640) (j := 1) (v := 1) rfl rfl rfl rfl rfl rfl (by omega) hn x42).trans ?_
  rw [x41]
  refine (la_call (pc := 645) (c := 8) (as := [zI (M.1 41 0 (i + 1))]) (st := [zI a]) (a := a) (M' := M3) rfl rfl (Nat.le_of_ble_eq_true rfl) e2).trans ?_
  exact la_eq (pc := 648) rfl
set_option maxRecDepth 100000 in
theorem lk_15 {B n i : Nat} {M : zM} (hB : B + 61 < 2 ^ 25) (h : zInv B M) (hi : i + 4 < n) (hn : n < 2 ^ 31) (h42 : M.1 42 0 0 = nI n) : ∃ M3, zev zC_law 653 (zlw i, [], M) = zev zC_law 738 (zlw i, [], M3) ∧ zInv (B + 61) M3 ∧ zLw M M3 := by
  obtain ⟨a, M2, M3, e1, e2, l2, h3, l3⟩ := iv_undo h 
  have x42 : M2.1 42 0 0 = nI n := (congrFun (l2 42 0 (by omega)) 0).trans h42
  have x41 : M2.1 41 0 = M.1 41 0 := l2 41 0 (by omega)
  refine ⟨M3, ?_, h3.mono (by omega), l3⟩
  refine (la_obj (pc := 653) (c := 7) (k := 1) rfl rfl).trans ?_
  refine (la_call (pc := 654) (c := 7) (as := []) (st := []) (a := a) (M' := M2) rfl rfl (by decide) e1).trans ?_
  refine (la_obj (pc := 657) (c := 8) (k := 2) rfl rfl).trans ?_
  refine (la_call (pc := 658) (c := 8) (as := []) (st := [zI a]) (a := a) (M' := M3) rfl rfl (Nat.le_of_ble_eq_true rfl) e2).trans ?_
  exact la_eq (pc := 661) rfl
set_option maxRecDepth 100000 in
theorem lk_16 {B n i : Nat} {M : zM} (hB : B + 61 < 2 ^ 25) (h : zInv B M) (hi : i + 4 < n) (hn : n < 2 ^ 31) (h42 : M.1 42 0 0 = nI n) : ∃ M3, zev zC_law 666 (zlw i, [], M) = zev zC_law 738 (zlw i, [], M3) ∧ zInv (B + 61) M3 ∧ zLw M M3 := by
  obtain ⟨a, M2, M3, e1, e2, l2, h3, l3⟩ := iv_type h (M.1 41 0 (i + 1))
  have x42 : M2.1 42 0 0 = nI n := (congrFun (l2 42 0 (by omega)) 0).trans h42
  have x41 : M2.1 41 0 = M.1 41 0 := l2 41 0 (by omega)
  refine ⟨M3, ?_, h3.mono (by omega), l3⟩
  refine (la_obj (pc := 666) (c := 7) (k := 1) rfl rfl).trans ?_
  refine (la_arg (pc := 667) (j := 1) (v := 1) rfl rfl rfl rfl rfl rfl (by omega) hn h42).trans ?_
  refine (la_call (pc := 672) (c := 7) (as := [zI (M.1 41 0 (i + 1))]) (st := []) (a := a) (M' := M2) rfl rfl (by decide) e1).trans ?_
  refine (la_obj (pc := 675) (c := 8) (k := 2) rfl rfl).trans ?_
  refine (la_arg (pc := 676) (j := 1) (v := 1) rfl rfl rfl rfl rfl rfl (by omega) hn x42).trans ?_
  rw [x41]
  refine (la_call (pc := 681) (c := 8) (as := [zI (M.1 41 0 (i + 1))]) (st := [zI a]) (a := a) (M' := M3) rfl rfl (Nat.le_of_ble_eq_true rfl) e2).trans ?_
  exact la_eq (pc := 684) rfl
set_option maxRecDepth 100000 in
theorem lk_17 {B n i : Nat} {M : zM} (hB : B + 61 < 2 ^ 25) (h : zInv B M) (hi : i + 4 < n) (hn : n < 2 ^ 31) (h42 : M.1 42 0 0 = nI n) : ∃ M3, zev zC_law 689 (zlw i, [], M) = zev zC_law 738 (zlw i, [], M3) ∧ zInv (B + 61) M3 ∧ zLw M M3 := by
  obtain ⟨a, M2, M3, e1, e2, l2, h3, l3⟩ := iv_clear h 
  have x42 : M2.1 42 0 0 = nI n := (congrFun (l2 42 0 (by omega)) 0).trans h42
  have x41 : M2.1 41 0 = M.1 41 0 := l2 41 0 (by omega)
  refine ⟨M3, ?_, h3.mono (by omega), l3⟩
  refine (la_obj (pc := 689) (c := 7) (k := 1) rfl rfl).trans ?_
  refine (la_call (pc := 690) (c := 7) (as := []) (st := []) (a := a) (M' := M2) rfl rfl (by decide) e1).trans ?_
  refine (la_obj (pc := 693) (c := 8) (k := 2) rfl rfl).trans ?_
  refine (la_call (pc := 694) (c := 8) (as := []) (st := [zI a]) (a := a) (M' := M3) rfl rfl (Nat.le_of_ble_eq_true rfl) e2).trans ?_
  exact la_eq (pc := 697) rfl
set_option maxRecDepth 100000 in
theorem lk_18 {B n i : Nat} {M : zM} (hB : B + 61 < 2 ^ 25) (h : zInv B M) (hi : i + 4 < n) (hn : n < 2 ^ 31) (h42 : M.1 42 0 0 = nI n) : ∃ M3, zev zC_law 702 (zlw i, [], M) = zev zC_law 738 (zlw i, [], M3) ∧ zInv (B + 61) M3 ∧ zLw M M3 := by
  obtain ⟨a, M2, M3, e1, e2, l2, h3, l3⟩ := iv_fault hB h (M.1 41 0 (i + 1))
  have x42 : M2.1 42 0 0 = nI n := (congrFun (l2 42 0 (by omega)) 0).trans h42
  have x41 : M2.1 41 0 = M.1 41 0 := l2 41 0 (by omega)
  refine ⟨M3, ?_, h3, l3⟩
  refine (la_obj (pc := 702) (c := 7) (k := 1) rfl rfl).trans ?_
  refine (la_arg (pc := 703) (j := 1) (v := 1) rfl rfl rfl rfl rfl rfl (by omega) hn h42).trans ?_
  refine (la_call (pc := 708) (c := 7) (as := [zI (M.1 41 0 (i + 1))]) (st := []) (a := a) (M' := M2) rfl rfl (by decide) e1).trans ?_
  refine (la_obj (pc := 711) (c := 8) (k := 2) rfl rfl).trans ?_
  refine (la_arg (pc := 712) (j := 1) (v := 1) rfl rfl rfl rfl rfl rfl (by omega) hn x42).trans ?_
  rw [x41]
  refine (la_call (pc := 717) (c := 8) (as := [zI (M.1 41 0 (i + 1))]) (st := [zI a]) (a := a) (M' := M3) rfl rfl (Nat.le_of_ble_eq_true rfl) e2).trans ?_
  exact la_eq (pc := 720) rfl
set_option maxRecDepth 100000 in
theorem lk_19 {B n i : Nat} {M : zM} (hB : B + 61 < 2 ^ 25) (h : zInv B M) (hi : i + 4 < n) (hn : n < 2 ^ 31) (h42 : M.1 42 0 0 = nI n) : ∃ M3, zev zC_law 725 (zlw i, [], M) = zev zC_law 738 (zlw i, [], M3) ∧ zInv (B + 61) M3 ∧ zLw M M3 := by
  obtain ⟨a, M2, M3, e1, e2, l2, h3, l3⟩ := iv_play hB h 
  have x42 : M2.1 42 0 0 = nI n := (congrFun (l2 42 0 (by omega)) 0).trans h42
  have x41 : M2.1 41 0 = M.1 41 0 := l2 41 0 (by omega)
  refine ⟨M3, ?_, h3, l3⟩
  refine (la_obj (pc := 725) (c := 7) (k := 1) rfl rfl).trans ?_
  refine (la_call (pc := 726) (c := 7) (as := []) (st := []) (a := a) (M' := M2) rfl rfl (by decide) e1).trans ?_
  refine (la_obj (pc := 729) (c := 8) (k := 2) rfl rfl).trans ?_
  refine (la_call (pc := 730) (c := 8) (as := []) (st := [zI a]) (a := a) (M' := M3) rfl rfl (Nat.le_of_ble_eq_true rfl) e2).trans ?_
  exact la_eq (pc := 733) rfl
set_option maxRecDepth 100000 in
/-- one turn of the law's loop -/
theorem la_turn {B n i : Nat} {M : zM} (hB : B + 61 < 2 ^ 25) (h : zInv B M) (hi : i + 4 < n) (hn : n < 2 ^ 30) (h42 : M.1 42 0 0 = nI n) : ∃ M3, zev zC_law 18 (zlw i, [], M) = zev zC_law 18 (zlw (i + 5), [], M3) ∧ zInv (B + 61) M3 ∧ zLw M M3 := by
  have head : zev zC_law 18 (zlw i, [], M) = zev zC_law (zswt [(0, 128), (1, 151), (2, 174), (3, 207), (4, 230), (5, 283), (6, 316), (7, 349), (8, 402), (9, 435), (10, 468), (11, 511), (12, 554), (13, 587), (14, 630), (15, 653), (16, 666), (17, 689), (18, 702), (19, 725)] 738 (M.1 41 0 i &&& 31)) (zlw i, [], M) := by
    refine (zev_s (f' := (zlw i, [zI (nI i)], M)) (pc := 18) rfl rfl).trans ?_
    refine (zev_s (f' := (zlw i, [zR 41 0, zI (nI i)], M)) (pc := 19) rfl rfl).trans ?_
    refine (zev_s (f' := (zlw i, [zI (M.1 42 0 0), zI (nI i)], M)) (pc := 20) rfl rfl).trans ?_
    refine (zev_s (f' := (zlw i, [zI 5, zI (M.1 42 0 0), zI (nI i)], M)) (pc := 21) rfl rfl).trans ?_
    refine (zev_s (f' := (zlw i, [zI (M.1 42 0 0 - 5), zI (nI i)], M)) (pc := 22) rfl rfl).trans ?_
    refine (zev_s (pc := 23) (pc' := 26) (f' := (zlw i, [], M)) rfl ?_).trans ?_
    · show (some (.inr (if (M.1 42 0 0 - 5) < nI i then 744 else 23 + 3, zlw i, [], M)) : zT) = _
      rw [h42, show (5 : Int32) = nI 5 from rfl, pk_sub (by omega), if_neg (nI_nlt (by omega) (by omega))]
    refine (zev_s (f' := (zlw i, [zR 41 0], M)) (pc := 26) rfl rfl).trans ?_
    refine (zev_s (f' := (zlw i, [zI (nI i), zR 41 0], M)) (pc := 27) rfl rfl).trans ?_
    refine (zev_s (pc := 28) (pc' := 29) (f' := (zlw i, [zI (M.1 41 0 i)], M)) rfl ?_).trans ?_
    · show (if nI i < 0 ∨ (M.1 42 0 0).toNatClampNeg ≤ (nI i).toNatClampNeg then none else some (.inr (28 + 1, zlw i, [zI (M.1 41 0 (nI i).toNatClampNeg)], M)) : zT) = _
      rw [h42, ix_cl (show n < 2 ^ 31 by omega), if_neg (ix_in (show i < n by omega) (by omega)), ix_cl (by omega)]
    refine (zev_s (f' := (zlw i, [zI 31, zI (M.1 41 0 i)], M)) (pc := 29) rfl rfl).trans ?_
    refine (zev_s (f' := (zlw i, [zI (M.1 41 0 i &&& 31)], M)) (pc := 31) rfl rfl).trans ?_
    exact zev_s (pc := 32) rfl rfl
  have tail : ∀ M3 : zM, zev zC_law 738 (zlw i, [], M3) = zev zC_law 18 (zlw (i + 5), [], M3) := by
    intro M3
    refine (zev_s (f' := ([some (zR 41 0), some (zR 7 0), some (zR 8 0), some (zI (nI i + 5))], [], M3)) (pc := 738) rfl rfl).trans ?_
    rw [show nI i + 5 = nI (i + 5) from nI_add i 5]
    exact zev_s (pc := 741) rfl rfl
  have dflt : ∃ M3, zev zC_law 738 (zlw i, [], M) = zev zC_law 738 (zlw i, [], M3) ∧ zInv (B + 61) M3 ∧ zLw M M3 := ⟨M, rfl, h.mono (by omega), fun _ _ _ => rfl⟩
  have all : ∃ M3, zev zC_law (zswt [(0, 128), (1, 151), (2, 174), (3, 207), (4, 230), (5, 283), (6, 316), (7, 349), (8, 402), (9, 435), (10, 468), (11, 511), (12, 554), (13, 587), (14, 630), (15, 653), (16, 666), (17, 689), (18, 702), (19, 725)] 738 (M.1 41 0 i &&& 31)) (zlw i, [], M) = zev zC_law 738 (zlw i, [], M3) ∧ zInv (B + 61) M3 ∧ zLw M M3 := by
    generalize M.1 41 0 i &&& 31 = v
    simp only [zswt]
    by_cases c0 : v = 0
    · rw [if_pos c0]; exact lk_0 hB h hi (by omega) h42
    rw [if_neg c0]
    by_cases c1 : v = 1
    · rw [if_pos c1]; exact lk_1 hB h hi (by omega) h42
    rw [if_neg c1]
    by_cases c2 : v = 2
    · rw [if_pos c2]; exact lk_2 hB h hi (by omega) h42
    rw [if_neg c2]
    by_cases c3 : v = 3
    · rw [if_pos c3]; exact lk_3 hB h hi (by omega) h42
    rw [if_neg c3]
    by_cases c4 : v = 4
    · rw [if_pos c4]; exact lk_4 hB h hi (by omega) h42
    rw [if_neg c4]
    by_cases c5 : v = 5
    · rw [if_pos c5]; exact lk_5 hB h hi (by omega) h42
    rw [if_neg c5]
    by_cases c6 : v = 6
    · rw [if_pos c6]; exact lk_6 hB h hi (by omega) h42
    rw [if_neg c6]
    by_cases c7 : v = 7
    · rw [if_pos c7]; exact lk_7 hB h hi (by omega) h42
    rw [if_neg c7]
    by_cases c8 : v = 8
    · rw [if_pos c8]; exact lk_8 hB h hi (by omega) h42
    rw [if_neg c8]
    by_cases c9 : v = 9
    · rw [if_pos c9]; exact lk_9 hB h hi (by omega) h42
    rw [if_neg c9]
    by_cases c10 : v = 10
    · rw [if_pos c10]; exact lk_10 hB h hi (by omega) h42
    rw [if_neg c10]
    by_cases c11 : v = 11
    · rw [if_pos c11]; exact lk_11 hB h hi (by omega) h42
    rw [if_neg c11]
    by_cases c12 : v = 12
    · rw [if_pos c12]; exact lk_12 hB h hi (by omega) h42
    rw [if_neg c12]
    by_cases c13 : v = 13
    · rw [if_pos c13]; exact lk_13 hB h hi (by omega) h42
    rw [if_neg c13]
    by_cases c14 : v = 14
    · rw [if_pos c14]; exact lk_14 hB h hi (by omega) h42
    rw [if_neg c14]
    by_cases c15 : v = 15
    · rw [if_pos c15]; exact lk_15 hB h hi (by omega) h42
    rw [if_neg c15]
    by_cases c16 : v = 16
    · rw [if_pos c16]; exact lk_16 hB h hi (by omega) h42
    rw [if_neg c16]
    by_cases c17 : v = 17
    · rw [if_pos c17]; exact lk_17 hB h hi (by omega) h42
    rw [if_neg c17]
    by_cases c18 : v = 18
    · rw [if_pos c18]; exact lk_18 hB h hi (by omega) h42
    rw [if_neg c18]
    by_cases c19 : v = 19
    · rw [if_pos c19]; exact lk_19 hB h hi (by omega) h42
    rw [if_neg c19]
    exact dflt
  obtain ⟨M3, e, k1, k2⟩ := all
  exact ⟨M3, by rw [head, e, tail], k1, k2⟩
set_option maxRecDepth 100000 in
theorem la_end {n i : Nat} {M : zM} (hi : n < i + 5) (hin : i ≤ n) (hn : n < 2 ^ 30) (h42 : M.1 42 0 0 = nI n) : zev zC_law 18 (zlw i, [], M) = some (some (zI 1), M) := by
  refine (zev_s (f' := (zlw i, [zI (nI i)], M)) (pc := 18) rfl rfl).trans ?_
  refine (zev_s (f' := (zlw i, [zR 41 0, zI (nI i)], M)) (pc := 19) rfl rfl).trans ?_
  refine (zev_s (f' := (zlw i, [zI (M.1 42 0 0), zI (nI i)], M)) (pc := 20) rfl rfl).trans ?_
  refine (zev_s (f' := (zlw i, [zI 5, zI (M.1 42 0 0), zI (nI i)], M)) (pc := 21) rfl rfl).trans ?_
  refine (zev_s (f' := (zlw i, [zI (M.1 42 0 0 - 5), zI (nI i)], M)) (pc := 22) rfl rfl).trans ?_
  refine (zev_s (pc := 23) (pc' := 744) (f' := (zlw i, [], M)) rfl ?_).trans ?_
  · show (some (.inr (if (M.1 42 0 0 - 5) < nI i then 744 else 23 + 3, zlw i, [], M)) : zT) = _
    rw [h42, if_pos]
    rw [i_lt, show (5 : Int32) = nI 5 from rfl, pk_sub_toInt (by omega) (by omega), nI_toInt (by omega)]
    omega
  refine (zev_s (f' := (zlw i, [zI 1], M)) (pc := 744) rfl rfl).trans ?_
  exact zev_r (pc := 745) rfl rfl
/-- the law's loop comes to its end with 1 -/
theorem la_all {n : Nat} (hn : n < 2 ^ 30) : ∀ (j i B : Nat) (M : zM), i + 5 * j ≤ n → n < i + 5 * j + 5 → B + 61 * j + 61 < 2 ^ 25 → zInv B M → M.1 42 0 0 = nI n → ∃ M', zev zC_law 18 (zlw i, [], M) = some (some (zI 1), M') := by
  intro j
  induction j with
  | zero => intro i B M h1 h2 hB h h42; exact ⟨M, la_end (by omega) (by omega) hn h42⟩
  | succ j ih =>
    intro i B M h1 h2 hB h h42
    obtain ⟨M3, e, k1, k2⟩ := la_turn (n := n) (i := i) (by omega) h (by omega) hn h42
    obtain ⟨M', e'⟩ := ih (i + 5) (B + 61) M3 (by omega) (by omega) (by omega) k1 ((congrFun (k2 42 0 (by omega)) 0).trans h42)
    exact ⟨M', e.trans e'⟩
