def mL_law : MR := (x, code, 4, ret)
section RULES
variable {ρ : Type} {rt : ρ → Option AV} {X : CX} {M : MX} {cells slots pc : Nat} {E : Option (ρ × Wd)} {ls : List (Nat × AV)} {st : List AV} {w : Wd}
theorem WPe_sld2 {i : Int32} {L : Nat} {xs : Nat → Int32} (hd : decode M.1.2.1 pc = .ok (.iaload, 1)) (hg : gL X.2.2.2.2.2.2.2.2.2 = L ∧ gX X.2.2.2.2.2.2.2.2.2 = xs) (hin : vp_in i L) (kk : WPe rt X M cells slots E (pc + 1) ls (vI (xs i.toNatClampNeg) :: st) w) : WPe rt X M cells slots E pc ls (vI i :: vR 1 :: st) w := by
  obtain ⟨rfl, rfl⟩ := hg
  exact WPe_sld hd (fun _ _ _ _ _ _ _ _ _ => trivial) (fun g hg => by subst hg; exact ⟨hin, kk⟩)
theorem WPe_slen {L : Nat} {xs : Nat → Int32} (hd : decode M.1.2.1 pc = .ok (.arraylength, 1)) (hg : gL X.2.2.2.2.2.2.2.2.2 = L ∧ gX X.2.2.2.2.2.2.2.2.2 = xs) (kk : WPe rt X M cells slots E (pc + 1) ls (vI (Int32.ofNat L) :: st) w) : WPe rt X M cells slots E pc ls (vR 1 :: st) w := by
  obtain ⟨rfl, -⟩ := hg
  obtain ⟨p, l, e, s, m, args, below, meth, c, g⟩ := X
  obtain ⟨R, d, mc, ms, w0⟩ := M
  intro hG H locs lsA hR hx hb hl' r w' hE
  have hG' := hG
  obtain ⟨ge, gb, gr, gm, go, gt, gl, gn, gK⟩ := hG'
  obtain ⟨scr, h1, h2, h3, h4, h5⟩ := gK.2.2.2.1.1
  have hb1 : H[gS g 1]? = some scr := by rw [hR.2.2.1 _ gK.2.2.2.1.2]; exact h1
  show W _ _ _ _ _ _ _ _ _ _ _ _ _ _ _ (F0 m pc lsA (.ref (gS g 1) :: st.map (cv g)))
  exact W.alen (n := Int32.ofNat (gL g)) ge gb hb1 h2 (by rw [h4] <;> rfl) rfl rfl hd (kk hG H locs lsA hR hx hb hl' r w' hE)
end RULES
def tbL_law_0 : List (Nat × Instr × Nat) := [(0, .new 7, 3), (3, .dup, 1), (4, .invokespecial 9, 3), (7, .astore_n 1, 1), (8, .new 10, 3), (11, .dup, 1), (12, .invokespecial 12, 3), (15, .astore_n 2, 1), (16, .iconst 0, 1), (17, .istore_n 3, 1), (18, .iload_n 3, 1), (19, .aload_n 0, 1), (20, .arraylength, 1), (21, .bipush 7, 2), (23, .isub, 1), (24, .if_icmp .gt 1487, 3), (27, .aload_n 0, 1), (28, .iload_n 3, 1), (29, .iaload, 1), (30, .bipush 63, 2), (32, .iand, 1), (33, .tableswitch 1472 0 38 #[171, 194, 227, 250, 325, 338, 361, 394, 427, 470, 503, 526, 539, 572, 585, 618, 641, 654, 687, 720, 753, 786, 819, 863, 896, 939, 982, 1025, 1048, 1081, 1124, 1157, 1211, 1224, 1237, 1280, 1323, 1386, 1439], 171), (204, .aload_n 1, 1), (205, .aload_n 0, 1), (206, .iload_n 3, 1), (207, .iconst 1, 1), (208, .iadd, 1), (209, .iaload, 1), (210, .invokevirtual 13, 3), (213, .aload_n 2, 1), (214, .aload_n 0, 1), (215, .iload_n 3, 1), (216, .iconst 1, 1), (217, .iadd, 1), (218, .iaload, 1), (219, .invokevirtual 17, 3), (222, .if_icmp .eq 1283, 3), (225, .iconst 0, 1), (226, .ireturn, 1), (227, .aload_n 1, 1), (228, .aload_n 0, 1), (229, .iload_n 3, 1), (230, .iconst 1, 1), (231, .iadd, 1), (232, .iaload, 1), (233, .aload_n 0, 1), (234, .iload_n 3, 1), (235, .iconst 2, 1), (236, .iadd, 1), (237, .iaload, 1)]
set_option maxRecDepth 20000 in
theorem dtL_law_0 : ∀ x ∈ tbL_law_0, decode code x.1 = .ok x.2 := by decide +kernel
def tbL_law_1 : List (Nat × Instr × Nat) := [(238, .invokevirtual 18, 3), (241, .aload_n 2, 1), (242, .aload_n 0, 1), (243, .iload_n 3, 1), (244, .iconst 1, 1), (245, .iadd, 1), (246, .iaload, 1), (247, .aload_n 0, 1), (248, .iload_n 3, 1), (249, .iconst 2, 1), (250, .iadd, 1), (251, .iaload, 1), (252, .invokevirtual 22, 3), (255, .if_icmp .eq 1250, 3), (258, .iconst 0, 1), (259, .ireturn, 1), (260, .aload_n 1, 1), (261, .aload_n 0, 1), (262, .iload_n 3, 1), (263, .iconst 1, 1), (264, .iadd, 1), (265, .iaload, 1), (266, .invokevirtual 23, 3), (269, .aload_n 2, 1), (270, .aload_n 0, 1), (271, .iload_n 3, 1), (272, .iconst 1, 1), (273, .iadd, 1), (274, .iaload, 1), (275, .invokevirtual 26, 3), (278, .if_icmp .eq 1227, 3), (281, .iconst 0, 1), (282, .ireturn, 1), (283, .aload_n 1, 1), (284, .aload_n 0, 1), (285, .iload_n 3, 1), (286, .iconst 1, 1), (287, .iadd, 1), (288, .iaload, 1), (289, .aload_n 0, 1), (290, .iload_n 3, 1), (291, .iconst 2, 1), (292, .iadd, 1), (293, .iaload, 1), (294, .aload_n 0, 1), (295, .iload_n 3, 1), (296, .iconst 3, 1), (297, .iadd, 1), (298, .iaload, 1), (299, .aload_n 0, 1)]
set_option maxRecDepth 20000 in
theorem dtL_law_1 : ∀ x ∈ tbL_law_1, decode code x.1 = .ok x.2 := by decide +kernel
def tbL_law_2 : List (Nat × Instr × Nat) := [(300, .iload_n 3, 1), (301, .iconst 4, 1), (302, .iadd, 1), (303, .iaload, 1), (304, .aload_n 0, 1), (305, .iload_n 3, 1), (306, .iconst 5, 1), (307, .iadd, 1), (308, .iaload, 1), (309, .aload_n 0, 1), (310, .iload_n 3, 1), (311, .bipush 6, 2), (313, .iadd, 1), (314, .iaload, 1), (315, .invokevirtual 27, 3), (318, .aload_n 2, 1), (319, .aload_n 0, 1), (320, .iload_n 3, 1), (321, .iconst 1, 1), (322, .iadd, 1), (323, .iaload, 1), (324, .aload_n 0, 1), (325, .iload_n 3, 1), (326, .iconst 2, 1), (327, .iadd, 1), (328, .iaload, 1), (329, .aload_n 0, 1), (330, .iload_n 3, 1), (331, .iconst 3, 1), (332, .iadd, 1), (333, .iaload, 1), (334, .aload_n 0, 1), (335, .iload_n 3, 1), (336, .iconst 4, 1), (337, .iadd, 1), (338, .iaload, 1), (339, .aload_n 0, 1), (340, .iload_n 3, 1), (341, .iconst 5, 1), (342, .iadd, 1), (343, .iaload, 1), (344, .aload_n 0, 1), (345, .iload_n 3, 1), (346, .bipush 6, 2), (348, .iadd, 1), (349, .iaload, 1), (350, .invokevirtual 31, 3), (353, .if_icmp .eq 1152, 3), (356, .iconst 0, 1), (357, .ireturn, 1)]
set_option maxRecDepth 20000 in
theorem dtL_law_2 : ∀ x ∈ tbL_law_2, decode code x.1 = .ok x.2 := by decide +kernel
def tbL_law_3 : List (Nat × Instr × Nat) := [(358, .aload_n 1, 1), (359, .invokevirtual 32, 3), (362, .aload_n 2, 1), (363, .invokevirtual 36, 3), (366, .if_icmp .eq 1139, 3), (369, .iconst 0, 1), (370, .ireturn, 1), (371, .aload_n 1, 1), (372, .aload_n 0, 1), (373, .iload_n 3, 1), (374, .iconst 1, 1), (375, .iadd, 1), (376, .iaload, 1), (377, .invokevirtual 37, 3), (380, .aload_n 2, 1), (381, .aload_n 0, 1), (382, .iload_n 3, 1), (383, .iconst 1, 1), (384, .iadd, 1), (385, .iaload, 1), (386, .invokevirtual 40, 3), (389, .if_icmp .eq 1116, 3), (392, .iconst 0, 1), (393, .ireturn, 1), (394, .aload_n 1, 1), (395, .aload_n 0, 1), (396, .iload_n 3, 1), (397, .iconst 1, 1), (398, .iadd, 1), (399, .iaload, 1), (400, .aload_n 0, 1), (401, .iload_n 3, 1), (402, .iconst 2, 1), (403, .iadd, 1), (404, .iaload, 1), (405, .invokevirtual 41, 3), (408, .aload_n 2, 1), (409, .aload_n 0, 1), (410, .iload_n 3, 1), (411, .iconst 1, 1), (412, .iadd, 1), (413, .iaload, 1), (414, .aload_n 0, 1), (415, .iload_n 3, 1), (416, .iconst 2, 1), (417, .iadd, 1), (418, .iaload, 1), (419, .invokevirtual 44, 3), (422, .if_icmp .eq 1083, 3), (425, .iconst 0, 1)]
set_option maxRecDepth 20000 in
theorem dtL_law_3 : ∀ x ∈ tbL_law_3, decode code x.1 = .ok x.2 := by decide +kernel
def tbL_law_4 : List (Nat × Instr × Nat) := [(426, .ireturn, 1), (427, .aload_n 1, 1), (428, .aload_n 0, 1), (429, .iload_n 3, 1), (430, .iconst 1, 1), (431, .iadd, 1), (432, .iaload, 1), (433, .aload_n 0, 1), (434, .iload_n 3, 1), (435, .iconst 2, 1), (436, .iadd, 1), (437, .iaload, 1), (438, .invokevirtual 45, 3), (441, .aload_n 2, 1), (442, .aload_n 0, 1), (443, .iload_n 3, 1), (444, .iconst 1, 1), (445, .iadd, 1), (446, .iaload, 1), (447, .aload_n 0, 1), (448, .iload_n 3, 1), (449, .iconst 2, 1), (450, .iadd, 1), (451, .iaload, 1), (452, .invokevirtual 48, 3), (455, .if_icmp .eq 1050, 3), (458, .iconst 0, 1), (459, .ireturn, 1), (460, .aload_n 1, 1), (461, .aload_n 0, 1), (462, .iload_n 3, 1), (463, .iconst 1, 1), (464, .iadd, 1), (465, .iaload, 1), (466, .aload_n 0, 1), (467, .iload_n 3, 1), (468, .iconst 2, 1), (469, .iadd, 1), (470, .iaload, 1), (471, .aload_n 0, 1), (472, .iload_n 3, 1), (473, .iconst 3, 1), (474, .iadd, 1), (475, .iaload, 1), (476, .invokevirtual 49, 3), (479, .aload_n 2, 1), (480, .aload_n 0, 1), (481, .iload_n 3, 1), (482, .iconst 1, 1), (483, .iadd, 1)]
set_option maxRecDepth 20000 in
theorem dtL_law_4 : ∀ x ∈ tbL_law_4, decode code x.1 = .ok x.2 := by decide +kernel
def tbL_law_5 : List (Nat × Instr × Nat) := [(484, .iaload, 1), (485, .aload_n 0, 1), (486, .iload_n 3, 1), (487, .iconst 2, 1), (488, .iadd, 1), (489, .iaload, 1), (490, .aload_n 0, 1), (491, .iload_n 3, 1), (492, .iconst 3, 1), (493, .iadd, 1), (494, .iaload, 1), (495, .invokevirtual 53, 3), (498, .if_icmp .eq 1007, 3), (501, .iconst 0, 1), (502, .ireturn, 1), (503, .aload_n 1, 1), (504, .aload_n 0, 1), (505, .iload_n 3, 1), (506, .iconst 1, 1), (507, .iadd, 1), (508, .iaload, 1), (509, .aload_n 0, 1), (510, .iload_n 3, 1), (511, .iconst 2, 1), (512, .iadd, 1), (513, .iaload, 1), (514, .invokevirtual 54, 3), (517, .aload_n 2, 1), (518, .aload_n 0, 1), (519, .iload_n 3, 1), (520, .iconst 1, 1), (521, .iadd, 1), (522, .iaload, 1), (523, .aload_n 0, 1), (524, .iload_n 3, 1), (525, .iconst 2, 1), (526, .iadd, 1), (527, .iaload, 1), (528, .invokevirtual 57, 3), (531, .if_icmp .eq 974, 3), (534, .iconst 0, 1), (535, .ireturn, 1), (536, .aload_n 1, 1), (537, .aload_n 0, 1), (538, .iload_n 3, 1), (539, .iconst 1, 1), (540, .iadd, 1), (541, .iaload, 1), (542, .invokevirtual 58, 3), (545, .aload_n 2, 1)]
set_option maxRecDepth 20000 in
theorem dtL_law_5 : ∀ x ∈ tbL_law_5, decode code x.1 = .ok x.2 := by decide +kernel
def tbL_law_6 : List (Nat × Instr × Nat) := [(546, .aload_n 0, 1), (547, .iload_n 3, 1), (548, .iconst 1, 1), (549, .iadd, 1), (550, .iaload, 1), (551, .invokevirtual 61, 3), (554, .if_icmp .eq 951, 3), (557, .iconst 0, 1), (558, .ireturn, 1), (559, .aload_n 1, 1), (560, .invokevirtual 62, 3), (563, .aload_n 2, 1), (564, .invokevirtual 65, 3), (567, .if_icmp .eq 938, 3), (570, .iconst 0, 1), (571, .ireturn, 1), (572, .aload_n 1, 1), (573, .aload_n 0, 1), (574, .iload_n 3, 1), (575, .iconst 1, 1), (576, .iadd, 1), (577, .iaload, 1), (578, .aload_n 0, 1), (579, .iload_n 3, 1), (580, .iconst 2, 1), (581, .iadd, 1), (582, .iaload, 1), (583, .invokevirtual 66, 3), (586, .aload_n 2, 1), (587, .aload_n 0, 1), (588, .iload_n 3, 1), (589, .iconst 1, 1), (590, .iadd, 1), (591, .iaload, 1), (592, .aload_n 0, 1), (593, .iload_n 3, 1), (594, .iconst 2, 1), (595, .iadd, 1), (596, .iaload, 1), (597, .invokevirtual 69, 3), (600, .if_icmp .eq 905, 3), (603, .iconst 0, 1), (604, .ireturn, 1), (605, .aload_n 1, 1), (606, .invokevirtual 70, 3), (609, .aload_n 2, 1), (610, .invokevirtual 73, 3), (613, .if_icmp .eq 892, 3), (616, .iconst 0, 1), (617, .ireturn, 1)]
set_option maxRecDepth 20000 in
theorem dtL_law_6 : ∀ x ∈ tbL_law_6, decode code x.1 = .ok x.2 := by decide +kernel
def tbL_law_7 : List (Nat × Instr × Nat) := [(618, .aload_n 1, 1), (619, .aload_n 0, 1), (620, .iload_n 3, 1), (621, .iconst 1, 1), (622, .iadd, 1), (623, .iaload, 1), (624, .aload_n 0, 1), (625, .iload_n 3, 1), (626, .iconst 2, 1), (627, .iadd, 1), (628, .iaload, 1), (629, .invokevirtual 74, 3), (632, .aload_n 2, 1), (633, .aload_n 0, 1), (634, .iload_n 3, 1), (635, .iconst 1, 1), (636, .iadd, 1), (637, .iaload, 1), (638, .aload_n 0, 1), (639, .iload_n 3, 1), (640, .iconst 2, 1), (641, .iadd, 1), (642, .iaload, 1), (643, .invokevirtual 77, 3), (646, .if_icmp .eq 859, 3), (649, .iconst 0, 1), (650, .ireturn, 1), (651, .aload_n 1, 1), (652, .aload_n 0, 1), (653, .iload_n 3, 1), (654, .iconst 1, 1), (655, .iadd, 1), (656, .iaload, 1), (657, .invokevirtual 78, 3), (660, .aload_n 2, 1), (661, .aload_n 0, 1), (662, .iload_n 3, 1), (663, .iconst 1, 1), (664, .iadd, 1), (665, .iaload, 1), (666, .invokevirtual 81, 3), (669, .if_icmp .eq 836, 3), (672, .iconst 0, 1), (673, .ireturn, 1), (674, .aload_n 1, 1), (675, .invokevirtual 82, 3), (678, .aload_n 2, 1), (679, .invokevirtual 85, 3), (682, .if_icmp .eq 823, 3), (685, .iconst 0, 1)]
set_option maxRecDepth 20000 in
theorem dtL_law_7 : ∀ x ∈ tbL_law_7, decode code x.1 = .ok x.2 := by decide +kernel
def tbL_law_8 : List (Nat × Instr × Nat) := [(686, .ireturn, 1), (687, .aload_n 1, 1), (688, .aload_n 0, 1), (689, .iload_n 3, 1), (690, .iconst 1, 1), (691, .iadd, 1), (692, .iaload, 1), (693, .aload_n 0, 1), (694, .iload_n 3, 1), (695, .iconst 2, 1), (696, .iadd, 1), (697, .iaload, 1), (698, .invokevirtual 86, 3), (701, .aload_n 2, 1), (702, .aload_n 0, 1), (703, .iload_n 3, 1), (704, .iconst 1, 1), (705, .iadd, 1), (706, .iaload, 1), (707, .aload_n 0, 1), (708, .iload_n 3, 1), (709, .iconst 2, 1), (710, .iadd, 1), (711, .iaload, 1), (712, .invokevirtual 89, 3), (715, .if_icmp .eq 790, 3), (718, .iconst 0, 1), (719, .ireturn, 1), (720, .aload_n 1, 1), (721, .aload_n 0, 1), (722, .iload_n 3, 1), (723, .iconst 1, 1), (724, .iadd, 1), (725, .iaload, 1), (726, .aload_n 0, 1), (727, .iload_n 3, 1), (728, .iconst 2, 1), (729, .iadd, 1), (730, .iaload, 1), (731, .invokevirtual 90, 3), (734, .aload_n 2, 1), (735, .aload_n 0, 1), (736, .iload_n 3, 1), (737, .iconst 1, 1), (738, .iadd, 1), (739, .iaload, 1), (740, .aload_n 0, 1), (741, .iload_n 3, 1), (742, .iconst 2, 1), (743, .iadd, 1)]
set_option maxRecDepth 20000 in
theorem dtL_law_8 : ∀ x ∈ tbL_law_8, decode code x.1 = .ok x.2 := by decide +kernel
def tbL_law_9 : List (Nat × Instr × Nat) := [(744, .iaload, 1), (745, .invokevirtual 93, 3), (748, .if_icmp .eq 757, 3), (751, .iconst 0, 1), (752, .ireturn, 1), (753, .aload_n 1, 1), (754, .aload_n 0, 1), (755, .iload_n 3, 1), (756, .iconst 1, 1), (757, .iadd, 1), (758, .iaload, 1), (759, .aload_n 0, 1), (760, .iload_n 3, 1), (761, .iconst 2, 1), (762, .iadd, 1), (763, .iaload, 1), (764, .invokevirtual 94, 3), (767, .aload_n 2, 1), (768, .aload_n 0, 1), (769, .iload_n 3, 1), (770, .iconst 1, 1), (771, .iadd, 1), (772, .iaload, 1), (773, .aload_n 0, 1), (774, .iload_n 3, 1), (775, .iconst 2, 1), (776, .iadd, 1), (777, .iaload, 1), (778, .invokevirtual 97, 3), (781, .if_icmp .eq 724, 3), (784, .iconst 0, 1), (785, .ireturn, 1), (786, .aload_n 1, 1), (787, .aload_n 0, 1), (788, .iload_n 3, 1), (789, .iconst 1, 1), (790, .iadd, 1), (791, .iaload, 1), (792, .aload_n 0, 1), (793, .iload_n 3, 1), (794, .iconst 2, 1), (795, .iadd, 1), (796, .iaload, 1), (797, .invokevirtual 98, 3), (800, .aload_n 2, 1), (801, .aload_n 0, 1), (802, .iload_n 3, 1), (803, .iconst 1, 1), (804, .iadd, 1), (805, .iaload, 1)]
set_option maxRecDepth 20000 in
theorem dtL_law_9 : ∀ x ∈ tbL_law_9, decode code x.1 = .ok x.2 := by decide +kernel
def tbL_law_10 : List (Nat × Instr × Nat) := [(806, .aload_n 0, 1), (807, .iload_n 3, 1), (808, .iconst 2, 1), (809, .iadd, 1), (810, .iaload, 1), (811, .invokevirtual 101, 3), (814, .if_icmp .eq 691, 3), (817, .iconst 0, 1), (818, .ireturn, 1), (819, .aload_n 1, 1), (820, .aload_n 0, 1), (821, .iload_n 3, 1), (822, .iconst 1, 1), (823, .iadd, 1), (824, .iaload, 1), (825, .aload_n 0, 1), (826, .iload_n 3, 1), (827, .iconst 2, 1), (828, .iadd, 1), (829, .iaload, 1), (830, .invokevirtual 102, 3), (833, .aload_n 2, 1), (834, .aload_n 0, 1), (835, .iload_n 3, 1), (836, .iconst 1, 1), (837, .iadd, 1), (838, .iaload, 1), (839, .aload_n 0, 1), (840, .iload_n 3, 1), (841, .iconst 2, 1), (842, .iadd, 1), (843, .iaload, 1), (844, .invokevirtual 105, 3), (847, .if_icmp .eq 658, 3), (850, .iconst 0, 1), (851, .ireturn, 1), (852, .aload_n 1, 1), (853, .aload_n 0, 1), (854, .iload_n 3, 1), (855, .iconst 1, 1), (856, .iadd, 1), (857, .iaload, 1), (858, .aload_n 0, 1), (859, .iload_n 3, 1), (860, .iconst 2, 1), (861, .iadd, 1), (862, .iaload, 1), (863, .aload_n 0, 1), (864, .iload_n 3, 1), (865, .iconst 3, 1)]
set_option maxRecDepth 20000 in
theorem dtL_law_10 : ∀ x ∈ tbL_law_10, decode code x.1 = .ok x.2 := by decide +kernel
def tbL_law_11 : List (Nat × Instr × Nat) := [(866, .iadd, 1), (867, .iaload, 1), (868, .invokevirtual 106, 3), (871, .aload_n 2, 1), (872, .aload_n 0, 1), (873, .iload_n 3, 1), (874, .iconst 1, 1), (875, .iadd, 1), (876, .iaload, 1), (877, .aload_n 0, 1), (878, .iload_n 3, 1), (879, .iconst 2, 1), (880, .iadd, 1), (881, .iaload, 1), (882, .aload_n 0, 1), (883, .iload_n 3, 1), (884, .iconst 3, 1), (885, .iadd, 1), (886, .iaload, 1), (887, .invokevirtual 110, 3), (890, .lcmp, 1), (891, .ifCond .eq 614, 3), (894, .iconst 0, 1), (895, .ireturn, 1), (896, .aload_n 1, 1), (897, .aload_n 0, 1), (898, .iload_n 3, 1), (899, .iconst 1, 1), (900, .iadd, 1), (901, .iaload, 1), (902, .aload_n 0, 1), (903, .iload_n 3, 1), (904, .iconst 2, 1), (905, .iadd, 1), (906, .iaload, 1), (907, .invokevirtual 111, 3), (910, .aload_n 2, 1), (911, .aload_n 0, 1), (912, .iload_n 3, 1), (913, .iconst 1, 1), (914, .iadd, 1), (915, .iaload, 1), (916, .aload_n 0, 1), (917, .iload_n 3, 1), (918, .iconst 2, 1), (919, .iadd, 1), (920, .iaload, 1), (921, .invokevirtual 114, 3), (924, .if_icmp .eq 581, 3), (927, .iconst 0, 1)]
set_option maxRecDepth 20000 in
theorem dtL_law_11 : ∀ x ∈ tbL_law_11, decode code x.1 = .ok x.2 := by decide +kernel
def tbL_law_12 : List (Nat × Instr × Nat) := [(928, .ireturn, 1), (929, .aload_n 1, 1), (930, .aload_n 0, 1), (931, .iload_n 3, 1), (932, .iconst 1, 1), (933, .iadd, 1), (934, .iaload, 1), (935, .aload_n 0, 1), (936, .iload_n 3, 1), (937, .iconst 2, 1), (938, .iadd, 1), (939, .iaload, 1), (940, .aload_n 0, 1), (941, .iload_n 3, 1), (942, .iconst 3, 1), (943, .iadd, 1), (944, .iaload, 1), (945, .invokevirtual 115, 3), (948, .aload_n 2, 1), (949, .aload_n 0, 1), (950, .iload_n 3, 1), (951, .iconst 1, 1), (952, .iadd, 1), (953, .iaload, 1), (954, .aload_n 0, 1), (955, .iload_n 3, 1), (956, .iconst 2, 1), (957, .iadd, 1), (958, .iaload, 1), (959, .aload_n 0, 1), (960, .iload_n 3, 1), (961, .iconst 3, 1), (962, .iadd, 1), (963, .iaload, 1), (964, .invokevirtual 118, 3), (967, .if_icmp .eq 538, 3), (970, .iconst 0, 1), (971, .ireturn, 1), (972, .aload_n 1, 1), (973, .aload_n 0, 1), (974, .iload_n 3, 1), (975, .iconst 1, 1), (976, .iadd, 1), (977, .iaload, 1), (978, .aload_n 0, 1), (979, .iload_n 3, 1), (980, .iconst 2, 1), (981, .iadd, 1), (982, .iaload, 1), (983, .aload_n 0, 1)]
set_option maxRecDepth 20000 in
theorem dtL_law_12 : ∀ x ∈ tbL_law_12, decode code x.1 = .ok x.2 := by decide +kernel
def tbL_law_13 : List (Nat × Instr × Nat) := [(984, .iload_n 3, 1), (985, .iconst 3, 1), (986, .iadd, 1), (987, .iaload, 1), (988, .invokevirtual 119, 3), (991, .aload_n 2, 1), (992, .aload_n 0, 1), (993, .iload_n 3, 1), (994, .iconst 1, 1), (995, .iadd, 1), (996, .iaload, 1), (997, .aload_n 0, 1), (998, .iload_n 3, 1), (999, .iconst 2, 1), (1000, .iadd, 1), (1001, .iaload, 1), (1002, .aload_n 0, 1), (1003, .iload_n 3, 1), (1004, .iconst 3, 1), (1005, .iadd, 1), (1006, .iaload, 1), (1007, .invokevirtual 122, 3), (1010, .if_icmp .eq 495, 3), (1013, .iconst 0, 1), (1014, .ireturn, 1), (1015, .aload_n 1, 1), (1016, .aload_n 0, 1), (1017, .iload_n 3, 1), (1018, .iconst 1, 1), (1019, .iadd, 1), (1020, .iaload, 1), (1021, .aload_n 0, 1), (1022, .iload_n 3, 1), (1023, .iconst 2, 1), (1024, .iadd, 1), (1025, .iaload, 1), (1026, .aload_n 0, 1), (1027, .iload_n 3, 1), (1028, .iconst 3, 1), (1029, .iadd, 1), (1030, .iaload, 1), (1031, .invokevirtual 123, 3), (1034, .aload_n 2, 1), (1035, .aload_n 0, 1), (1036, .iload_n 3, 1), (1037, .iconst 1, 1), (1038, .iadd, 1), (1039, .iaload, 1), (1040, .aload_n 0, 1), (1041, .iload_n 3, 1)]
set_option maxRecDepth 20000 in
theorem dtL_law_13 : ∀ x ∈ tbL_law_13, decode code x.1 = .ok x.2 := by decide +kernel
def tbL_law_14 : List (Nat × Instr × Nat) := [(1042, .iconst 2, 1), (1043, .iadd, 1), (1044, .iaload, 1), (1045, .aload_n 0, 1), (1046, .iload_n 3, 1), (1047, .iconst 3, 1), (1048, .iadd, 1), (1049, .iaload, 1), (1050, .invokevirtual 126, 3), (1053, .if_icmp .eq 452, 3), (1056, .iconst 0, 1), (1057, .ireturn, 1), (1058, .aload_n 1, 1), (1059, .aload_n 0, 1), (1060, .iload_n 3, 1), (1061, .iconst 1, 1), (1062, .iadd, 1), (1063, .iaload, 1), (1064, .invokevirtual 127, 3), (1067, .aload_n 2, 1), (1068, .aload_n 0, 1), (1069, .iload_n 3, 1), (1070, .iconst 1, 1), (1071, .iadd, 1), (1072, .iaload, 1), (1073, .invokevirtual 130, 3), (1076, .if_icmp .eq 429, 3), (1079, .iconst 0, 1), (1080, .ireturn, 1), (1081, .aload_n 1, 1), (1082, .aload_n 0, 1), (1083, .iload_n 3, 1), (1084, .iconst 1, 1), (1085, .iadd, 1), (1086, .iaload, 1), (1087, .aload_n 0, 1), (1088, .iload_n 3, 1), (1089, .iconst 2, 1), (1090, .iadd, 1), (1091, .iaload, 1), (1092, .invokevirtual 131, 3), (1095, .aload_n 2, 1), (1096, .aload_n 0, 1), (1097, .iload_n 3, 1), (1098, .iconst 1, 1), (1099, .iadd, 1), (1100, .iaload, 1), (1101, .aload_n 0, 1), (1102, .iload_n 3, 1), (1103, .iconst 2, 1)]
set_option maxRecDepth 20000 in
theorem dtL_law_14 : ∀ x ∈ tbL_law_14, decode code x.1 = .ok x.2 := by decide +kernel
def tbL_law_15 : List (Nat × Instr × Nat) := [(1104, .iadd, 1), (1105, .iaload, 1), (1106, .invokevirtual 134, 3), (1109, .if_icmp .eq 396, 3), (1112, .iconst 0, 1), (1113, .ireturn, 1), (1114, .aload_n 1, 1), (1115, .aload_n 0, 1), (1116, .iload_n 3, 1), (1117, .iconst 1, 1), (1118, .iadd, 1), (1119, .iaload, 1), (1120, .aload_n 0, 1), (1121, .iload_n 3, 1), (1122, .iconst 2, 1), (1123, .iadd, 1), (1124, .iaload, 1), (1125, .aload_n 0, 1), (1126, .iload_n 3, 1), (1127, .iconst 3, 1), (1128, .iadd, 1), (1129, .iaload, 1), (1130, .invokevirtual 135, 3), (1133, .aload_n 2, 1), (1134, .aload_n 0, 1), (1135, .iload_n 3, 1), (1136, .iconst 1, 1), (1137, .iadd, 1), (1138, .iaload, 1), (1139, .aload_n 0, 1), (1140, .iload_n 3, 1), (1141, .iconst 2, 1), (1142, .iadd, 1), (1143, .iaload, 1), (1144, .aload_n 0, 1), (1145, .iload_n 3, 1), (1146, .iconst 3, 1), (1147, .iadd, 1), (1148, .iaload, 1), (1149, .invokevirtual 138, 3), (1152, .if_icmp .eq 353, 3), (1155, .iconst 0, 1), (1156, .ireturn, 1), (1157, .aload_n 1, 1), (1158, .aload_n 0, 1), (1159, .iload_n 3, 1), (1160, .iconst 1, 1), (1161, .iadd, 1), (1162, .iaload, 1), (1163, .aload_n 0, 1)]
set_option maxRecDepth 20000 in
theorem dtL_law_15 : ∀ x ∈ tbL_law_15, decode code x.1 = .ok x.2 := by decide +kernel
def tbL_law_16 : List (Nat × Instr × Nat) := [(1164, .iload_n 3, 1), (1165, .iconst 2, 1), (1166, .iadd, 1), (1167, .iaload, 1), (1168, .invokevirtual 139, 3), (1171, .aload_n 2, 1), (1172, .aload_n 0, 1), (1173, .iload_n 3, 1), (1174, .iconst 1, 1), (1175, .iadd, 1), (1176, .iaload, 1), (1177, .aload_n 0, 1), (1178, .iload_n 3, 1), (1179, .iconst 2, 1), (1180, .iadd, 1), (1181, .iaload, 1), (1182, .invokevirtual 142, 3), (1185, .if_icmp .eq 320, 3), (1188, .iconst 0, 1), (1189, .ireturn, 1), (1190, .aload_n 1, 1), (1191, .aload_n 0, 1), (1192, .iload_n 3, 1), (1193, .iconst 1, 1), (1194, .iadd, 1), (1195, .iaload, 1), (1196, .aload_n 0, 1), (1197, .iload_n 3, 1), (1198, .iconst 2, 1), (1199, .iadd, 1), (1200, .iaload, 1), (1201, .aload_n 0, 1), (1202, .iload_n 3, 1), (1203, .iconst 3, 1), (1204, .iadd, 1), (1205, .iaload, 1), (1206, .aload_n 0, 1), (1207, .iload_n 3, 1), (1208, .iconst 4, 1), (1209, .iadd, 1), (1210, .iaload, 1), (1211, .invokevirtual 143, 3), (1214, .aload_n 2, 1), (1215, .aload_n 0, 1), (1216, .iload_n 3, 1), (1217, .iconst 1, 1), (1218, .iadd, 1), (1219, .iaload, 1), (1220, .aload_n 0, 1), (1221, .iload_n 3, 1)]
set_option maxRecDepth 20000 in
theorem dtL_law_16 : ∀ x ∈ tbL_law_16, decode code x.1 = .ok x.2 := by decide +kernel
def tbL_law_17 : List (Nat × Instr × Nat) := [(1222, .iconst 2, 1), (1223, .iadd, 1), (1224, .iaload, 1), (1225, .aload_n 0, 1), (1226, .iload_n 3, 1), (1227, .iconst 3, 1), (1228, .iadd, 1), (1229, .iaload, 1), (1230, .aload_n 0, 1), (1231, .iload_n 3, 1), (1232, .iconst 4, 1), (1233, .iadd, 1), (1234, .iaload, 1), (1235, .invokevirtual 147, 3), (1238, .lcmp, 1), (1239, .ifCond .eq 266, 3), (1242, .iconst 0, 1), (1243, .ireturn, 1), (1244, .aload_n 1, 1), (1245, .invokevirtual 148, 3), (1248, .aload_n 2, 1), (1249, .invokevirtual 151, 3), (1252, .if_icmp .eq 253, 3), (1255, .iconst 0, 1), (1256, .ireturn, 1), (1257, .aload_n 1, 1), (1258, .invokevirtual 152, 3), (1261, .aload_n 2, 1), (1262, .invokevirtual 155, 3), (1265, .if_icmp .eq 240, 3), (1268, .iconst 0, 1), (1269, .ireturn, 1), (1270, .aload_n 1, 1), (1271, .aload_n 0, 1), (1272, .iload_n 3, 1), (1273, .iconst 1, 1), (1274, .iadd, 1), (1275, .iaload, 1), (1276, .aload_n 0, 1), (1277, .iload_n 3, 1), (1278, .iconst 2, 1), (1279, .iadd, 1), (1280, .iaload, 1), (1281, .aload_n 0, 1), (1282, .iload_n 3, 1), (1283, .iconst 3, 1), (1284, .iadd, 1), (1285, .iaload, 1), (1286, .invokevirtual 156, 3), (1289, .aload_n 2, 1)]
set_option maxRecDepth 20000 in
theorem dtL_law_17 : ∀ x ∈ tbL_law_17, decode code x.1 = .ok x.2 := by decide +kernel
def tbL_law_18 : List (Nat × Instr × Nat) := [(1290, .aload_n 0, 1), (1291, .iload_n 3, 1), (1292, .iconst 1, 1), (1293, .iadd, 1), (1294, .iaload, 1), (1295, .aload_n 0, 1), (1296, .iload_n 3, 1), (1297, .iconst 2, 1), (1298, .iadd, 1), (1299, .iaload, 1), (1300, .aload_n 0, 1), (1301, .iload_n 3, 1), (1302, .iconst 3, 1), (1303, .iadd, 1), (1304, .iaload, 1), (1305, .invokevirtual 159, 3), (1308, .if_icmp .eq 197, 3), (1311, .iconst 0, 1), (1312, .ireturn, 1), (1313, .aload_n 1, 1), (1314, .aload_n 0, 1), (1315, .iload_n 3, 1), (1316, .iconst 1, 1), (1317, .iadd, 1), (1318, .iaload, 1), (1319, .aload_n 0, 1), (1320, .iload_n 3, 1), (1321, .iconst 2, 1), (1322, .iadd, 1), (1323, .iaload, 1), (1324, .aload_n 0, 1), (1325, .iload_n 3, 1), (1326, .iconst 3, 1), (1327, .iadd, 1), (1328, .iaload, 1), (1329, .invokevirtual 160, 3), (1332, .aload_n 2, 1), (1333, .aload_n 0, 1), (1334, .iload_n 3, 1), (1335, .iconst 1, 1), (1336, .iadd, 1), (1337, .iaload, 1), (1338, .aload_n 0, 1), (1339, .iload_n 3, 1), (1340, .iconst 2, 1), (1341, .iadd, 1), (1342, .iaload, 1), (1343, .aload_n 0, 1), (1344, .iload_n 3, 1), (1345, .iconst 3, 1)]
set_option maxRecDepth 20000 in
theorem dtL_law_18 : ∀ x ∈ tbL_law_18, decode code x.1 = .ok x.2 := by decide +kernel
def tbL_law_19 : List (Nat × Instr × Nat) := [(1346, .iadd, 1), (1347, .iaload, 1), (1348, .invokevirtual 163, 3), (1351, .if_icmp .eq 154, 3), (1354, .iconst 0, 1), (1355, .ireturn, 1), (1356, .aload_n 1, 1), (1357, .aload_n 0, 1), (1358, .iload_n 3, 1), (1359, .iconst 1, 1), (1360, .iadd, 1), (1361, .iaload, 1), (1362, .aload_n 0, 1), (1363, .iload_n 3, 1), (1364, .iconst 2, 1), (1365, .iadd, 1), (1366, .iaload, 1), (1367, .aload_n 0, 1), (1368, .iload_n 3, 1), (1369, .iconst 3, 1), (1370, .iadd, 1), (1371, .iaload, 1), (1372, .aload_n 0, 1), (1373, .iload_n 3, 1), (1374, .iconst 4, 1), (1375, .iadd, 1), (1376, .iaload, 1), (1377, .aload_n 0, 1), (1378, .iload_n 3, 1), (1379, .iconst 5, 1), (1380, .iadd, 1), (1381, .iaload, 1), (1382, .invokevirtual 164, 3), (1385, .aload_n 2, 1), (1386, .aload_n 0, 1), (1387, .iload_n 3, 1), (1388, .iconst 1, 1), (1389, .iadd, 1), (1390, .iaload, 1), (1391, .aload_n 0, 1), (1392, .iload_n 3, 1), (1393, .iconst 2, 1), (1394, .iadd, 1), (1395, .iaload, 1), (1396, .aload_n 0, 1), (1397, .iload_n 3, 1), (1398, .iconst 3, 1), (1399, .iadd, 1), (1400, .iaload, 1), (1401, .aload_n 0, 1)]
set_option maxRecDepth 20000 in
theorem dtL_law_19 : ∀ x ∈ tbL_law_19, decode code x.1 = .ok x.2 := by decide +kernel
def tbL_law_20 : List (Nat × Instr × Nat) := [(1402, .iload_n 3, 1), (1403, .iconst 4, 1), (1404, .iadd, 1), (1405, .iaload, 1), (1406, .aload_n 0, 1), (1407, .iload_n 3, 1), (1408, .iconst 5, 1), (1409, .iadd, 1), (1410, .iaload, 1), (1411, .invokevirtual 168, 3), (1414, .if_icmp .eq 91, 3), (1417, .iconst 0, 1), (1418, .ireturn, 1), (1419, .aload_n 1, 1), (1420, .aload_n 0, 1), (1421, .iload_n 3, 1), (1422, .iconst 1, 1), (1423, .iadd, 1), (1424, .iaload, 1), (1425, .aload_n 0, 1), (1426, .iload_n 3, 1), (1427, .iconst 2, 1), (1428, .iadd, 1), (1429, .iaload, 1), (1430, .aload_n 0, 1), (1431, .iload_n 3, 1), (1432, .iconst 3, 1), (1433, .iadd, 1), (1434, .iaload, 1), (1435, .aload_n 0, 1), (1436, .iload_n 3, 1), (1437, .iconst 4, 1), (1438, .iadd, 1), (1439, .iaload, 1), (1440, .invokevirtual 169, 3), (1443, .aload_n 2, 1), (1444, .aload_n 0, 1), (1445, .iload_n 3, 1), (1446, .iconst 1, 1), (1447, .iadd, 1), (1448, .iaload, 1), (1449, .aload_n 0, 1), (1450, .iload_n 3, 1), (1451, .iconst 2, 1), (1452, .iadd, 1), (1453, .iaload, 1), (1454, .aload_n 0, 1), (1455, .iload_n 3, 1), (1456, .iconst 3, 1), (1457, .iadd, 1)]
set_option maxRecDepth 20000 in
theorem dtL_law_20 : ∀ x ∈ tbL_law_20, decode code x.1 = .ok x.2 := by decide +kernel
def tbL_law_21 : List (Nat × Instr × Nat) := [(1458, .iaload, 1), (1459, .aload_n 0, 1), (1460, .iload_n 3, 1), (1461, .iconst 4, 1), (1462, .iadd, 1), (1463, .iaload, 1), (1464, .invokevirtual 173, 3), (1467, .if_icmp .eq 38, 3), (1470, .iconst 0, 1), (1471, .ireturn, 1), (1472, .aload_n 1, 1), (1473, .aload_n 0, 1), (1474, .iload_n 3, 1), (1475, .iconst 1, 1), (1476, .iadd, 1), (1477, .iaload, 1), (1478, .aload_n 0, 1), (1479, .iload_n 3, 1), (1480, .iconst 2, 1), (1481, .iadd, 1), (1482, .iaload, 1), (1483, .invokevirtual 174, 3), (1486, .aload_n 2, 1), (1487, .aload_n 0, 1), (1488, .iload_n 3, 1), (1489, .iconst 1, 1), (1490, .iadd, 1), (1491, .iaload, 1), (1492, .aload_n 0, 1), (1493, .iload_n 3, 1), (1494, .iconst 2, 1), (1495, .iadd, 1), (1496, .iaload, 1), (1497, .invokevirtual 177, 3), (1500, .if_icmp .eq 5, 3), (1503, .iconst 0, 1), (1504, .ireturn, 1), (1505, .iinc 3 7, 3), (1508, .goto (-1490), 3), (1511, .iconst 1, 1), (1512, .ireturn, 1)]
set_option maxRecDepth 20000 in
theorem dtL_law_21 : ∀ x ∈ tbL_law_21, decode code x.1 = .ok x.2 := by decide +kernel
noncomputable def jL_law_1505 (L : Nat) (xs : Nat → Int32) (k18 : Nat × Nat × Int32 → Wd → Option (Int32 × Wd)) (x1 : Nat) (x2 : Nat) (x3 : Int32) (w : Wd) : Option (Int32 × Wd) :=
  k18 (x1, x2, (x3 + (7 : Int32))) w
theorem wpjL_law_1505 (X : CX) (w0 : Wd) (L : Nat) (xs : Nat → Int32) (hg : gL X.2.2.2.2.2.2.2.2.2 = L ∧ gX X.2.2.2.2.2.2.2.2.2 = xs) (n : Nat) (k18 : Nat × Nat × Int32 → Wd → Option (Int32 × Wd)) (hk18 : ∀ (c s : Nat), c + n * 3 ≤ 1606 → s + n * 205 ≤ 108616 → ∀ (v : Nat × Nat × Int32) (w : Wd), WPe rtI X (mL_law, 52, 1606, 108616, w0) c s (k18 v w) 18 [(0, vR (1 : Nat)), (1, vR v.1), (2, vR v.2.1), (3, vI v.2.2)] [] w) (c s : Nat) (hc : c + n * 3 ≤ 1606) (hs : s + n * 205 ≤ 108616) (x1 : Nat) (x2 : Nat) (x3 : Int32) (w : Wd) : WPe rtI X (mL_law, 52, 1606, 108616, w0) c s (jL_law_1505 L xs k18 x1 x2 x3 w) 1505 [(0, vR (1 : Nat)), (1, vR x1), (2, vR x2), (3, vI x3)] [] w := by
  unfold jL_law_1505
  refine WPe_iinc (pc := 1505) (ls' := [(3, vI (x3 + (7 : Int32))), (0, vR (1 : Nat)), (1, vR x1), (2, vR x2)]) 3 (x3 + (7 : Int32)) (dd dtL_law_21 37 rfl) rfl (congrArg (HAdd.hAdd _) (by decide : Int32.ofInt (7) = (7 : Int32))) (Nat.le_of_ble_eq_true rfl) rfl ?_
  refine WPe_goto (pc := 1508) 18 (dd dtL_law_21 38 rfl) (by decide) ?_
  refine WPe_sub [1, 2, 3, 0] rfl ?_
  exact hk18 _ _ (by omega) (by omega) _ _
set_option maxRecDepth 100000 in
set_option maxHeartbeats 4000000 in
noncomputable def bL_law_18 (L : Nat) (xs : Nat → Int32) (k18 : Nat × Nat × Int32 → Wd → Option (Int32 × Wd)) (v : Nat × Nat × Int32) (w : Wd) : Option (Int32 × Wd) :=
  if ((Int32.ofNat L) - (7 : Int32)) < v.2.2 then (some ((1 : Int32), w)) else (ck (vp_in v.2.2 L) (if ((xs (v.2.2).toNatClampNeg) &&& (63 : Int32)) = (0 : Int32) then (ck (vp_in (v.2.2 + (1 : Int32)) L) (ck (tg w v.1 = 5) ((f5_count v.1 (xs ((v.2.2 + (1 : Int32))).toNatClampNeg) w).bind fun z20 => (ck (vp_in (v.2.2 + (1 : Int32)) L) (ck (tg z20.2 v.2.1 = 6) ((f6_count v.2.1 (xs ((v.2.2 + (1 : Int32))).toNatClampNeg) z20.2).bind fun z25 => (if z20.1 = z25.1 then (jL_law_1505 L xs k18 v.1 v.2.1 v.2.2 z25.2) else (some ((0 : Int32), z25.2))))))))) else (if ((xs (v.2.2).toNatClampNeg) &&& (63 : Int32)) = (1 : Int32) then (ck (vp_in (v.2.2 + (1 : Int32)) L) (ck (vp_in (v.2.2 + (2 : Int32)) L) (ck (tg w v.1 = 5) ((f5_fire v.1 (xs ((v.2.2 + (1 : Int32))).toNatClampNeg) (xs ((v.2.2 + (2 : Int32))).toNatClampNeg) w).bind fun z33 => (ck (vp_in (v.2.2 + (1 : Int32)) L) (ck (vp_in (v.2.2 + (2 : Int32)) L) (ck (tg z33.2 v.2.1 = 6) ((f6_fire v.2.1 (xs ((v.2.2 + (1 : Int32))).toNatClampNeg) (xs ((v.2.2 + (2 : Int32))).toNatClampNeg) z33.2).bind fun z39 => (if z33.1 = z39.1 then (jL_law_1505 L xs k18 v.1 v.2.1 v.2.2 z39.2) else (some ((0 : Int32), z39.2))))))))))) else (if ((xs (v.2.2).toNatClampNeg) &&& (63 : Int32)) = (2 : Int32) then (ck (vp_in (v.2.2 + (1 : Int32)) L) (ck (tg w v.1 = 5) ((f5_hut v.1 (xs ((v.2.2 + (1 : Int32))).toNatClampNeg) w).bind fun z46 => (ck (vp_in (v.2.2 + (1 : Int32)) L) (ck (tg z46.2 v.2.1 = 6) ((f6_hut v.2.1 (xs ((v.2.2 + (1 : Int32))).toNatClampNeg) z46.2).bind fun z51 => (if z46.1 = z51.1 then (jL_law_1505 L xs k18 v.1 v.2.1 v.2.2 z51.2) else (some ((0 : Int32), z51.2))))))))) else (if ((xs (v.2.2).toNatClampNeg) &&& (63 : Int32)) = (3 : Int32) then (ck (vp_in (v.2.2 + (1 : Int32)) L) (ck (vp_in (v.2.2 + (2 : Int32)) L) (ck (vp_in (v.2.2 + (3 : Int32)) L) (ck (vp_in (v.2.2 + (4 : Int32)) L) (ck (vp_in (v.2.2 + (5 : Int32)) L) (ck (vp_in (v.2.2 + (6 : Int32)) L) (ck (tg w v.1 = 5) ((f5_feed v.1 (xs ((v.2.2 + (1 : Int32))).toNatClampNeg) (xs ((v.2.2 + (2 : Int32))).toNatClampNeg) (xs ((v.2.2 + (3 : Int32))).toNatClampNeg) (xs ((v.2.2 + (4 : Int32))).toNatClampNeg) (xs ((v.2.2 + (5 : Int32))).toNatClampNeg) (xs ((v.2.2 + (6 : Int32))).toNatClampNeg) w).bind fun z63 => (ck (vp_in (v.2.2 + (1 : Int32)) L) (ck (vp_in (v.2.2 + (2 : Int32)) L) (ck (vp_in (v.2.2 + (3 : Int32)) L) (ck (vp_in (v.2.2 + (4 : Int32)) L) (ck (vp_in (v.2.2 + (5 : Int32)) L) (ck (vp_in (v.2.2 + (6 : Int32)) L) (ck (tg z63.2 v.2.1 = 6) ((f6_feed v.2.1 (xs ((v.2.2 + (1 : Int32))).toNatClampNeg) (xs ((v.2.2 + (2 : Int32))).toNatClampNeg) (xs ((v.2.2 + (3 : Int32))).toNatClampNeg) (xs ((v.2.2 + (4 : Int32))).toNatClampNeg) (xs ((v.2.2 + (5 : Int32))).toNatClampNeg) (xs ((v.2.2 + (6 : Int32))).toNatClampNeg) z63.2).bind fun z73 => (if z63.1 = z73.1 then (jL_law_1505 L xs k18 v.1 v.2.1 v.2.2 z73.2) else (some ((0 : Int32), z73.2))))))))))))))))))) else (if ((xs (v.2.2).toNatClampNeg) &&& (63 : Int32)) = (4 : Int32) then (ck (tg w v.1 = 5) ((f5_text v.1 w).bind fun z79 => (ck (tg z79.2 v.2.1 = 6) ((f6_text v.2.1 z79.2).bind fun z83 => (if z79.1 = z83.1 then (jL_law_1505 L xs k18 v.1 v.2.1 v.2.2 z83.2) else (some ((0 : Int32), z83.2))))))) else (if ((xs (v.2.2).toNatClampNeg) &&& (63 : Int32)) = (5 : Int32) then (ck (vp_in (v.2.2 + (1 : Int32)) L) (ck (tg w v.1 = 5) ((f5_force v.1 (xs ((v.2.2 + (1 : Int32))).toNatClampNeg) w).bind fun z90 => (ck (vp_in (v.2.2 + (1 : Int32)) L) (ck (tg z90.2 v.2.1 = 6) ((f6_force v.2.1 (xs ((v.2.2 + (1 : Int32))).toNatClampNeg) z90.2).bind fun z95 => (if z90.1 = z95.1 then (jL_law_1505 L xs k18 v.1 v.2.1 v.2.2 z95.2) else (some ((0 : Int32), z95.2))))))))) else (if ((xs (v.2.2).toNatClampNeg) &&& (63 : Int32)) = (6 : Int32) then (ck (vp_in (v.2.2 + (1 : Int32)) L) (ck (vp_in (v.2.2 + (2 : Int32)) L) (ck (tg w v.1 = 5) ((f5_asks v.1 (xs ((v.2.2 + (1 : Int32))).toNatClampNeg) (xs ((v.2.2 + (2 : Int32))).toNatClampNeg) w).bind fun z103 => (ck (vp_in (v.2.2 + (1 : Int32)) L) (ck (vp_in (v.2.2 + (2 : Int32)) L) (ck (tg z103.2 v.2.1 = 6) ((f6_asks v.2.1 (xs ((v.2.2 + (1 : Int32))).toNatClampNeg) (xs ((v.2.2 + (2 : Int32))).toNatClampNeg) z103.2).bind fun z109 => (if z103.1 = z109.1 then (jL_law_1505 L xs k18 v.1 v.2.1 v.2.2 z109.2) else (some ((0 : Int32), z109.2))))))))))) else (if ((xs (v.2.2).toNatClampNeg) &&& (63 : Int32)) = (7 : Int32) then (ck (vp_in (v.2.2 + (1 : Int32)) L) (ck (vp_in (v.2.2 + (2 : Int32)) L) (ck (tg w v.1 = 5) ((f5_bather v.1 (xs ((v.2.2 + (1 : Int32))).toNatClampNeg) (xs ((v.2.2 + (2 : Int32))).toNatClampNeg) w).bind fun z117 => (ck (vp_in (v.2.2 + (1 : Int32)) L) (ck (vp_in (v.2.2 + (2 : Int32)) L) (ck (tg z117.2 v.2.1 = 6) ((f6_bather v.2.1 (xs ((v.2.2 + (1 : Int32))).toNatClampNeg) (xs ((v.2.2 + (2 : Int32))).toNatClampNeg) z117.2).bind fun z123 => (if z117.1 = z123.1 then (jL_law_1505 L xs k18 v.1 v.2.1 v.2.2 z123.2) else (some ((0 : Int32), z123.2))))))))))) else (if ((xs (v.2.2).toNatClampNeg) &&& (63 : Int32)) = (8 : Int32) then (ck (vp_in (v.2.2 + (1 : Int32)) L) (ck (vp_in (v.2.2 + (2 : Int32)) L) (ck (vp_in (v.2.2 + (3 : Int32)) L) (ck (tg w v.1 = 5) ((f5_put v.1 (xs ((v.2.2 + (1 : Int32))).toNatClampNeg) (xs ((v.2.2 + (2 : Int32))).toNatClampNeg) (xs ((v.2.2 + (3 : Int32))).toNatClampNeg) w).bind fun z132 => (ck (vp_in (v.2.2 + (1 : Int32)) L) (ck (vp_in (v.2.2 + (2 : Int32)) L) (ck (vp_in (v.2.2 + (3 : Int32)) L) (ck (tg z132.2 v.2.1 = 6) ((f6_put v.2.1 (xs ((v.2.2 + (1 : Int32))).toNatClampNeg) (xs ((v.2.2 + (2 : Int32))).toNatClampNeg) (xs ((v.2.2 + (3 : Int32))).toNatClampNeg) z132.2).bind fun z139 => (if z132.1 = z139.1 then (jL_law_1505 L xs k18 v.1 v.2.1 v.2.2 z139.2) else (some ((0 : Int32), z139.2))))))))))))) else (if ((xs (v.2.2).toNatClampNeg) &&& (63 : Int32)) = (9 : Int32) then (ck (vp_in (v.2.2 + (1 : Int32)) L) (ck (vp_in (v.2.2 + (2 : Int32)) L) (ck (tg w v.1 = 5) ((f5_told v.1 (xs ((v.2.2 + (1 : Int32))).toNatClampNeg) (xs ((v.2.2 + (2 : Int32))).toNatClampNeg) w).bind fun z147 => (ck (vp_in (v.2.2 + (1 : Int32)) L) (ck (vp_in (v.2.2 + (2 : Int32)) L) (ck (tg z147.2 v.2.1 = 6) ((f6_told v.2.1 (xs ((v.2.2 + (1 : Int32))).toNatClampNeg) (xs ((v.2.2 + (2 : Int32))).toNatClampNeg) z147.2).bind fun z153 => (if z147.1 = z153.1 then (jL_law_1505 L xs k18 v.1 v.2.1 v.2.2 z153.2) else (some ((0 : Int32), z153.2))))))))))) else (if ((xs (v.2.2).toNatClampNeg) &&& (63 : Int32)) = (10 : Int32) then (ck (vp_in (v.2.2 + (1 : Int32)) L) (ck (tg w v.1 = 5) ((f5_pour v.1 (xs ((v.2.2 + (1 : Int32))).toNatClampNeg) w).bind fun z160 => (ck (vp_in (v.2.2 + (1 : Int32)) L) (ck (tg z160.2 v.2.1 = 6) ((f6_pour v.2.1 (xs ((v.2.2 + (1 : Int32))).toNatClampNeg) z160.2).bind fun z165 => (if z160.1 = z165.1 then (jL_law_1505 L xs k18 v.1 v.2.1 v.2.2 z165.2) else (some ((0 : Int32), z165.2))))))))) else (if ((xs (v.2.2).toNatClampNeg) &&& (63 : Int32)) = (11 : Int32) then (ck (tg w v.1 = 5) ((f5_stoke v.1 w).bind fun z171 => (ck (tg z171.2 v.2.1 = 6) ((f6_stoke v.2.1 z171.2).bind fun z175 => (if z171.1 = z175.1 then (jL_law_1505 L xs k18 v.1 v.2.1 v.2.2 z175.2) else (some ((0 : Int32), z175.2))))))) else (if ((xs (v.2.2).toNatClampNeg) &&& (63 : Int32)) = (12 : Int32) then (ck (vp_in (v.2.2 + (1 : Int32)) L) (ck (vp_in (v.2.2 + (2 : Int32)) L) (ck (tg w v.1 = 5) ((f5_door v.1 (xs ((v.2.2 + (1 : Int32))).toNatClampNeg) (xs ((v.2.2 + (2 : Int32))).toNatClampNeg) w).bind fun z183 => (ck (vp_in (v.2.2 + (1 : Int32)) L) (ck (vp_in (v.2.2 + (2 : Int32)) L) (ck (tg z183.2 v.2.1 = 6) ((f6_door v.2.1 (xs ((v.2.2 + (1 : Int32))).toNatClampNeg) (xs ((v.2.2 + (2 : Int32))).toNatClampNeg) z183.2).bind fun z189 => (if z183.1 = z189.1 then (jL_law_1505 L xs k18 v.1 v.2.1 v.2.2 z189.2) else (some ((0 : Int32), z189.2))))))))))) else (if ((xs (v.2.2).toNatClampNeg) &&& (63 : Int32)) = (13 : Int32) then (ck (tg w v.1 = 5) ((f5_minute v.1 w).bind fun z195 => (ck (tg z195.2 v.2.1 = 6) ((f6_minute v.2.1 z195.2).bind fun z199 => (if z195.1 = z199.1 then (jL_law_1505 L xs k18 v.1 v.2.1 v.2.2 z199.2) else (some ((0 : Int32), z199.2))))))) else (if ((xs (v.2.2).toNatClampNeg) &&& (63 : Int32)) = (14 : Int32) then (ck (vp_in (v.2.2 + (1 : Int32)) L) (ck (vp_in (v.2.2 + (2 : Int32)) L) (ck (tg w v.1 = 5) ((f5_run v.1 (xs ((v.2.2 + (1 : Int32))).toNatClampNeg) (xs ((v.2.2 + (2 : Int32))).toNatClampNeg) w).bind fun z207 => (ck (vp_in (v.2.2 + (1 : Int32)) L) (ck (vp_in (v.2.2 + (2 : Int32)) L) (ck (tg z207.2 v.2.1 = 6) ((f6_run v.2.1 (xs ((v.2.2 + (1 : Int32))).toNatClampNeg) (xs ((v.2.2 + (2 : Int32))).toNatClampNeg) z207.2).bind fun z213 => (if z207.1 = z213.1 then (jL_law_1505 L xs k18 v.1 v.2.1 v.2.2 z213.2) else (some ((0 : Int32), z213.2))))))))))) else (if ((xs (v.2.2).toNatClampNeg) &&& (63 : Int32)) = (15 : Int32) then (ck (vp_in (v.2.2 + (1 : Int32)) L) (ck (tg w v.1 = 5) ((f5_leaves v.1 (xs ((v.2.2 + (1 : Int32))).toNatClampNeg) w).bind fun z220 => (ck (vp_in (v.2.2 + (1 : Int32)) L) (ck (tg z220.2 v.2.1 = 6) ((f6_leaves v.2.1 (xs ((v.2.2 + (1 : Int32))).toNatClampNeg) z220.2).bind fun z225 => (if z220.1 = z225.1 then (jL_law_1505 L xs k18 v.1 v.2.1 v.2.2 z225.2) else (some ((0 : Int32), z225.2))))))))) else (if ((xs (v.2.2).toNatClampNeg) &&& (63 : Int32)) = (16 : Int32) then (ck (tg w v.1 = 5) ((f5_together v.1 w).bind fun z231 => (ck (tg z231.2 v.2.1 = 6) ((f6_together v.2.1 z231.2).bind fun z235 => (if z231.1 = z235.1 then (jL_law_1505 L xs k18 v.1 v.2.1 v.2.2 z235.2) else (some ((0 : Int32), z235.2))))))) else (if ((xs (v.2.2).toNatClampNeg) &&& (63 : Int32)) = (17 : Int32) then (ck (vp_in (v.2.2 + (1 : Int32)) L) (ck (vp_in (v.2.2 + (2 : Int32)) L) (ck (tg w v.1 = 5) ((f5_when v.1 (xs ((v.2.2 + (1 : Int32))).toNatClampNeg) (xs ((v.2.2 + (2 : Int32))).toNatClampNeg) w).bind fun z243 => (ck (vp_in (v.2.2 + (1 : Int32)) L) (ck (vp_in (v.2.2 + (2 : Int32)) L) (ck (tg z243.2 v.2.1 = 6) ((f6_when v.2.1 (xs ((v.2.2 + (1 : Int32))).toNatClampNeg) (xs ((v.2.2 + (2 : Int32))).toNatClampNeg) z243.2).bind fun z249 => (if z243.1 = z249.1 then (jL_law_1505 L xs k18 v.1 v.2.1 v.2.2 z249.2) else (some ((0 : Int32), z249.2))))))))))) else (if ((xs (v.2.2).toNatClampNeg) &&& (63 : Int32)) = (18 : Int32) then (ck (vp_in (v.2.2 + (1 : Int32)) L) (ck (vp_in (v.2.2 + (2 : Int32)) L) (ck (tg w v.1 = 5) ((f5_benches v.1 (xs ((v.2.2 + (1 : Int32))).toNatClampNeg) (xs ((v.2.2 + (2 : Int32))).toNatClampNeg) w).bind fun z257 => (ck (vp_in (v.2.2 + (1 : Int32)) L) (ck (vp_in (v.2.2 + (2 : Int32)) L) (ck (tg z257.2 v.2.1 = 6) ((f6_benches v.2.1 (xs ((v.2.2 + (1 : Int32))).toNatClampNeg) (xs ((v.2.2 + (2 : Int32))).toNatClampNeg) z257.2).bind fun z263 => (if z257.1 = z263.1 then (jL_law_1505 L xs k18 v.1 v.2.1 v.2.2 z263.2) else (some ((0 : Int32), z263.2))))))))))) else (if ((xs (v.2.2).toNatClampNeg) &&& (63 : Int32)) = (19 : Int32) then (ck (vp_in (v.2.2 + (1 : Int32)) L) (ck (vp_in (v.2.2 + (2 : Int32)) L) (ck (tg w v.1 = 5) ((f5_swap v.1 (xs ((v.2.2 + (1 : Int32))).toNatClampNeg) (xs ((v.2.2 + (2 : Int32))).toNatClampNeg) w).bind fun z271 => (ck (vp_in (v.2.2 + (1 : Int32)) L) (ck (vp_in (v.2.2 + (2 : Int32)) L) (ck (tg z271.2 v.2.1 = 6) ((f6_swap v.2.1 (xs ((v.2.2 + (1 : Int32))).toNatClampNeg) (xs ((v.2.2 + (2 : Int32))).toNatClampNeg) z271.2).bind fun z277 => (if z271.1 = z277.1 then (jL_law_1505 L xs k18 v.1 v.2.1 v.2.2 z277.2) else (some ((0 : Int32), z277.2))))))))))) else (if ((xs (v.2.2).toNatClampNeg) &&& (63 : Int32)) = (20 : Int32) then (ck (vp_in (v.2.2 + (1 : Int32)) L) (ck (vp_in (v.2.2 + (2 : Int32)) L) (ck (tg w v.1 = 5) ((f5_logs v.1 (xs ((v.2.2 + (1 : Int32))).toNatClampNeg) (xs ((v.2.2 + (2 : Int32))).toNatClampNeg) w).bind fun z285 => (ck (vp_in (v.2.2 + (1 : Int32)) L) (ck (vp_in (v.2.2 + (2 : Int32)) L) (ck (tg z285.2 v.2.1 = 6) ((f6_logs v.2.1 (xs ((v.2.2 + (1 : Int32))).toNatClampNeg) (xs ((v.2.2 + (2 : Int32))).toNatClampNeg) z285.2).bind fun z291 => (if z285.1 = z291.1 then (jL_law_1505 L xs k18 v.1 v.2.1 v.2.2 z291.2) else (some ((0 : Int32), z291.2))))))))))) else (if ((xs (v.2.2).toNatClampNeg) &&& (63 : Int32)) = (21 : Int32) then (ck (vp_in (v.2.2 + (1 : Int32)) L) (ck (vp_in (v.2.2 + (2 : Int32)) L) (ck (tg w v.1 = 5) ((f5_stays v.1 (xs ((v.2.2 + (1 : Int32))).toNatClampNeg) (xs ((v.2.2 + (2 : Int32))).toNatClampNeg) w).bind fun z299 => (ck (vp_in (v.2.2 + (1 : Int32)) L) (ck (vp_in (v.2.2 + (2 : Int32)) L) (ck (tg z299.2 v.2.1 = 6) ((f6_stays v.2.1 (xs ((v.2.2 + (1 : Int32))).toNatClampNeg) (xs ((v.2.2 + (2 : Int32))).toNatClampNeg) z299.2).bind fun z305 => (if z299.1 = z305.1 then (jL_law_1505 L xs k18 v.1 v.2.1 v.2.2 z305.2) else (some ((0 : Int32), z305.2))))))))))) else (if ((xs (v.2.2).toNatClampNeg) &&& (63 : Int32)) = (22 : Int32) then (ck (vp_in (v.2.2 + (1 : Int32)) L) (ck (vp_in (v.2.2 + (2 : Int32)) L) (ck (vp_in (v.2.2 + (3 : Int32)) L) (ck (tg w v.1 = 5) ((f5_share v.1 (xs ((v.2.2 + (1 : Int32))).toNatClampNeg) (xs ((v.2.2 + (2 : Int32))).toNatClampNeg) (xs ((v.2.2 + (3 : Int32))).toNatClampNeg) w).bind fun z314 => (ck (vp_in (v.2.2 + (1 : Int32)) L) (ck (vp_in (v.2.2 + (2 : Int32)) L) (ck (vp_in (v.2.2 + (3 : Int32)) L) (ck (tg z314.2 v.2.1 = 6) ((f6_share v.2.1 (xs ((v.2.2 + (1 : Int32))).toNatClampNeg) (xs ((v.2.2 + (2 : Int32))).toNatClampNeg) (xs ((v.2.2 + (3 : Int32))).toNatClampNeg) z314.2).bind fun z321 => (if (lg_cmp z314.1 z321.1) = (0 : Int32) then (jL_law_1505 L xs k18 v.1 v.2.1 v.2.2 z321.2) else (some ((0 : Int32), z321.2))))))))))))) else (if ((xs (v.2.2).toNatClampNeg) &&& (63 : Int32)) = (23 : Int32) then (ck (vp_in (v.2.2 + (1 : Int32)) L) (ck (vp_in (v.2.2 + (2 : Int32)) L) (ck (tg w v.1 = 5) ((f5_judge v.1 (xs ((v.2.2 + (1 : Int32))).toNatClampNeg) (xs ((v.2.2 + (2 : Int32))).toNatClampNeg) w).bind fun z329 => (ck (vp_in (v.2.2 + (1 : Int32)) L) (ck (vp_in (v.2.2 + (2 : Int32)) L) (ck (tg z329.2 v.2.1 = 6) ((f6_judge v.2.1 (xs ((v.2.2 + (1 : Int32))).toNatClampNeg) (xs ((v.2.2 + (2 : Int32))).toNatClampNeg) z329.2).bind fun z335 => (if z329.1 = z335.1 then (jL_law_1505 L xs k18 v.1 v.2.1 v.2.2 z335.2) else (some ((0 : Int32), z335.2))))))))))) else (if ((xs (v.2.2).toNatClampNeg) &&& (63 : Int32)) = (24 : Int32) then (ck (vp_in (v.2.2 + (1 : Int32)) L) (ck (vp_in (v.2.2 + (2 : Int32)) L) (ck (vp_in (v.2.2 + (3 : Int32)) L) (ck (tg w v.1 = 5) ((f5_kinds v.1 (xs ((v.2.2 + (1 : Int32))).toNatClampNeg) (xs ((v.2.2 + (2 : Int32))).toNatClampNeg) (xs ((v.2.2 + (3 : Int32))).toNatClampNeg) w).bind fun z344 => (ck (vp_in (v.2.2 + (1 : Int32)) L) (ck (vp_in (v.2.2 + (2 : Int32)) L) (ck (vp_in (v.2.2 + (3 : Int32)) L) (ck (tg z344.2 v.2.1 = 6) ((f6_kinds v.2.1 (xs ((v.2.2 + (1 : Int32))).toNatClampNeg) (xs ((v.2.2 + (2 : Int32))).toNatClampNeg) (xs ((v.2.2 + (3 : Int32))).toNatClampNeg) z344.2).bind fun z351 => (if z344.1 = z351.1 then (jL_law_1505 L xs k18 v.1 v.2.1 v.2.2 z351.2) else (some ((0 : Int32), z351.2))))))))))))) else (if ((xs (v.2.2).toNatClampNeg) &&& (63 : Int32)) = (25 : Int32) then (ck (vp_in (v.2.2 + (1 : Int32)) L) (ck (vp_in (v.2.2 + (2 : Int32)) L) (ck (vp_in (v.2.2 + (3 : Int32)) L) (ck (tg w v.1 = 5) ((f5_states v.1 (xs ((v.2.2 + (1 : Int32))).toNatClampNeg) (xs ((v.2.2 + (2 : Int32))).toNatClampNeg) (xs ((v.2.2 + (3 : Int32))).toNatClampNeg) w).bind fun z360 => (ck (vp_in (v.2.2 + (1 : Int32)) L) (ck (vp_in (v.2.2 + (2 : Int32)) L) (ck (vp_in (v.2.2 + (3 : Int32)) L) (ck (tg z360.2 v.2.1 = 6) ((f6_states v.2.1 (xs ((v.2.2 + (1 : Int32))).toNatClampNeg) (xs ((v.2.2 + (2 : Int32))).toNatClampNeg) (xs ((v.2.2 + (3 : Int32))).toNatClampNeg) z360.2).bind fun z367 => (if z360.1 = z367.1 then (jL_law_1505 L xs k18 v.1 v.2.1 v.2.2 z367.2) else (some ((0 : Int32), z367.2))))))))))))) else (if ((xs (v.2.2).toNatClampNeg) &&& (63 : Int32)) = (26 : Int32) then (ck (vp_in (v.2.2 + (1 : Int32)) L) (ck (vp_in (v.2.2 + (2 : Int32)) L) (ck (vp_in (v.2.2 + (3 : Int32)) L) (ck (tg w v.1 = 5) ((f5_steams v.1 (xs ((v.2.2 + (1 : Int32))).toNatClampNeg) (xs ((v.2.2 + (2 : Int32))).toNatClampNeg) (xs ((v.2.2 + (3 : Int32))).toNatClampNeg) w).bind fun z376 => (ck (vp_in (v.2.2 + (1 : Int32)) L) (ck (vp_in (v.2.2 + (2 : Int32)) L) (ck (vp_in (v.2.2 + (3 : Int32)) L) (ck (tg z376.2 v.2.1 = 6) ((f6_steams v.2.1 (xs ((v.2.2 + (1 : Int32))).toNatClampNeg) (xs ((v.2.2 + (2 : Int32))).toNatClampNeg) (xs ((v.2.2 + (3 : Int32))).toNatClampNeg) z376.2).bind fun z383 => (if z376.1 = z383.1 then (jL_law_1505 L xs k18 v.1 v.2.1 v.2.2 z383.2) else (some ((0 : Int32), z383.2))))))))))))) else (if ((xs (v.2.2).toNatClampNeg) &&& (63 : Int32)) = (27 : Int32) then (ck (vp_in (v.2.2 + (1 : Int32)) L) (ck (tg w v.1 = 5) ((f5_whose v.1 (xs ((v.2.2 + (1 : Int32))).toNatClampNeg) w).bind fun z390 => (ck (vp_in (v.2.2 + (1 : Int32)) L) (ck (tg z390.2 v.2.1 = 6) ((f6_whose v.2.1 (xs ((v.2.2 + (1 : Int32))).toNatClampNeg) z390.2).bind fun z395 => (if z390.1 = z395.1 then (jL_law_1505 L xs k18 v.1 v.2.1 v.2.2 z395.2) else (some ((0 : Int32), z395.2))))))))) else (if ((xs (v.2.2).toNatClampNeg) &&& (63 : Int32)) = (28 : Int32) then (ck (vp_in (v.2.2 + (1 : Int32)) L) (ck (vp_in (v.2.2 + (2 : Int32)) L) (ck (tg w v.1 = 5) ((f5_laws v.1 (xs ((v.2.2 + (1 : Int32))).toNatClampNeg) (xs ((v.2.2 + (2 : Int32))).toNatClampNeg) w).bind fun z403 => (ck (vp_in (v.2.2 + (1 : Int32)) L) (ck (vp_in (v.2.2 + (2 : Int32)) L) (ck (tg z403.2 v.2.1 = 6) ((f6_laws v.2.1 (xs ((v.2.2 + (1 : Int32))).toNatClampNeg) (xs ((v.2.2 + (2 : Int32))).toNatClampNeg) z403.2).bind fun z409 => (if z403.1 = z409.1 then (jL_law_1505 L xs k18 v.1 v.2.1 v.2.2 z409.2) else (some ((0 : Int32), z409.2))))))))))) else (if ((xs (v.2.2).toNatClampNeg) &&& (63 : Int32)) = (29 : Int32) then (ck (vp_in (v.2.2 + (1 : Int32)) L) (ck (vp_in (v.2.2 + (2 : Int32)) L) (ck (vp_in (v.2.2 + (3 : Int32)) L) (ck (tg w v.1 = 5) ((f5_film v.1 (xs ((v.2.2 + (1 : Int32))).toNatClampNeg) (xs ((v.2.2 + (2 : Int32))).toNatClampNeg) (xs ((v.2.2 + (3 : Int32))).toNatClampNeg) w).bind fun z418 => (ck (vp_in (v.2.2 + (1 : Int32)) L) (ck (vp_in (v.2.2 + (2 : Int32)) L) (ck (vp_in (v.2.2 + (3 : Int32)) L) (ck (tg z418.2 v.2.1 = 6) ((f6_film v.2.1 (xs ((v.2.2 + (1 : Int32))).toNatClampNeg) (xs ((v.2.2 + (2 : Int32))).toNatClampNeg) (xs ((v.2.2 + (3 : Int32))).toNatClampNeg) z418.2).bind fun z425 => (if z418.1 = z425.1 then (jL_law_1505 L xs k18 v.1 v.2.1 v.2.2 z425.2) else (some ((0 : Int32), z425.2))))))))))))) else (if ((xs (v.2.2).toNatClampNeg) &&& (63 : Int32)) = (30 : Int32) then (ck (vp_in (v.2.2 + (1 : Int32)) L) (ck (vp_in (v.2.2 + (2 : Int32)) L) (ck (tg w v.1 = 5) ((f5_drawn v.1 (xs ((v.2.2 + (1 : Int32))).toNatClampNeg) (xs ((v.2.2 + (2 : Int32))).toNatClampNeg) w).bind fun z433 => (ck (vp_in (v.2.2 + (1 : Int32)) L) (ck (vp_in (v.2.2 + (2 : Int32)) L) (ck (tg z433.2 v.2.1 = 6) ((f6_drawn v.2.1 (xs ((v.2.2 + (1 : Int32))).toNatClampNeg) (xs ((v.2.2 + (2 : Int32))).toNatClampNeg) z433.2).bind fun z439 => (if z433.1 = z439.1 then (jL_law_1505 L xs k18 v.1 v.2.1 v.2.2 z439.2) else (some ((0 : Int32), z439.2))))))))))) else (if ((xs (v.2.2).toNatClampNeg) &&& (63 : Int32)) = (31 : Int32) then (ck (vp_in (v.2.2 + (1 : Int32)) L) (ck (vp_in (v.2.2 + (2 : Int32)) L) (ck (vp_in (v.2.2 + (3 : Int32)) L) (ck (vp_in (v.2.2 + (4 : Int32)) L) (ck (tg w v.1 = 5) ((f5_odds v.1 (xs ((v.2.2 + (1 : Int32))).toNatClampNeg) (xs ((v.2.2 + (2 : Int32))).toNatClampNeg) (xs ((v.2.2 + (3 : Int32))).toNatClampNeg) (xs ((v.2.2 + (4 : Int32))).toNatClampNeg) w).bind fun z449 => (ck (vp_in (v.2.2 + (1 : Int32)) L) (ck (vp_in (v.2.2 + (2 : Int32)) L) (ck (vp_in (v.2.2 + (3 : Int32)) L) (ck (vp_in (v.2.2 + (4 : Int32)) L) (ck (tg z449.2 v.2.1 = 6) ((f6_odds v.2.1 (xs ((v.2.2 + (1 : Int32))).toNatClampNeg) (xs ((v.2.2 + (2 : Int32))).toNatClampNeg) (xs ((v.2.2 + (3 : Int32))).toNatClampNeg) (xs ((v.2.2 + (4 : Int32))).toNatClampNeg) z449.2).bind fun z457 => (if (lg_cmp z449.1 z457.1) = (0 : Int32) then (jL_law_1505 L xs k18 v.1 v.2.1 v.2.2 z457.2) else (some ((0 : Int32), z457.2))))))))))))))) else (if ((xs (v.2.2).toNatClampNeg) &&& (63 : Int32)) = (32 : Int32) then (ck (tg w v.1 = 5) ((f5_image v.1 w).bind fun z463 => (ck (tg z463.2 v.2.1 = 6) ((f6_image v.2.1 z463.2).bind fun z467 => (if z463.1 = z467.1 then (jL_law_1505 L xs k18 v.1 v.2.1 v.2.2 z467.2) else (some ((0 : Int32), z467.2))))))) else (if ((xs (v.2.2).toNatClampNeg) &&& (63 : Int32)) = (33 : Int32) then (ck (tg w v.1 = 5) ((f5_back v.1 w).bind fun z473 => (ck (tg z473.2 v.2.1 = 6) ((f6_back v.2.1 z473.2).bind fun z477 => (if z473.1 = z477.1 then (jL_law_1505 L xs k18 v.1 v.2.1 v.2.2 z477.2) else (some ((0 : Int32), z477.2))))))) else (if ((xs (v.2.2).toNatClampNeg) &&& (63 : Int32)) = (34 : Int32) then (ck (vp_in (v.2.2 + (1 : Int32)) L) (ck (vp_in (v.2.2 + (2 : Int32)) L) (ck (vp_in (v.2.2 + (3 : Int32)) L) (ck (tg w v.1 = 5) ((f5_sheet v.1 (xs ((v.2.2 + (1 : Int32))).toNatClampNeg) (xs ((v.2.2 + (2 : Int32))).toNatClampNeg) (xs ((v.2.2 + (3 : Int32))).toNatClampNeg) w).bind fun z486 => (ck (vp_in (v.2.2 + (1 : Int32)) L) (ck (vp_in (v.2.2 + (2 : Int32)) L) (ck (vp_in (v.2.2 + (3 : Int32)) L) (ck (tg z486.2 v.2.1 = 6) ((f6_sheet v.2.1 (xs ((v.2.2 + (1 : Int32))).toNatClampNeg) (xs ((v.2.2 + (2 : Int32))).toNatClampNeg) (xs ((v.2.2 + (3 : Int32))).toNatClampNeg) z486.2).bind fun z493 => (if z486.1 = z493.1 then (jL_law_1505 L xs k18 v.1 v.2.1 v.2.2 z493.2) else (some ((0 : Int32), z493.2))))))))))))) else (if ((xs (v.2.2).toNatClampNeg) &&& (63 : Int32)) = (35 : Int32) then (ck (vp_in (v.2.2 + (1 : Int32)) L) (ck (vp_in (v.2.2 + (2 : Int32)) L) (ck (vp_in (v.2.2 + (3 : Int32)) L) (ck (tg w v.1 = 5) ((f5_cell v.1 (xs ((v.2.2 + (1 : Int32))).toNatClampNeg) (xs ((v.2.2 + (2 : Int32))).toNatClampNeg) (xs ((v.2.2 + (3 : Int32))).toNatClampNeg) w).bind fun z502 => (ck (vp_in (v.2.2 + (1 : Int32)) L) (ck (vp_in (v.2.2 + (2 : Int32)) L) (ck (vp_in (v.2.2 + (3 : Int32)) L) (ck (tg z502.2 v.2.1 = 6) ((f6_cell v.2.1 (xs ((v.2.2 + (1 : Int32))).toNatClampNeg) (xs ((v.2.2 + (2 : Int32))).toNatClampNeg) (xs ((v.2.2 + (3 : Int32))).toNatClampNeg) z502.2).bind fun z509 => (if z502.1 = z509.1 then (jL_law_1505 L xs k18 v.1 v.2.1 v.2.2 z509.2) else (some ((0 : Int32), z509.2))))))))))))) else (if ((xs (v.2.2).toNatClampNeg) &&& (63 : Int32)) = (36 : Int32) then (ck (vp_in (v.2.2 + (1 : Int32)) L) (ck (vp_in (v.2.2 + (2 : Int32)) L) (ck (vp_in (v.2.2 + (3 : Int32)) L) (ck (vp_in (v.2.2 + (4 : Int32)) L) (ck (vp_in (v.2.2 + (5 : Int32)) L) (ck (tg w v.1 = 5) ((f5_copy v.1 (xs ((v.2.2 + (1 : Int32))).toNatClampNeg) (xs ((v.2.2 + (2 : Int32))).toNatClampNeg) (xs ((v.2.2 + (3 : Int32))).toNatClampNeg) (xs ((v.2.2 + (4 : Int32))).toNatClampNeg) (xs ((v.2.2 + (5 : Int32))).toNatClampNeg) w).bind fun z520 => (ck (vp_in (v.2.2 + (1 : Int32)) L) (ck (vp_in (v.2.2 + (2 : Int32)) L) (ck (vp_in (v.2.2 + (3 : Int32)) L) (ck (vp_in (v.2.2 + (4 : Int32)) L) (ck (vp_in (v.2.2 + (5 : Int32)) L) (ck (tg z520.2 v.2.1 = 6) ((f6_copy v.2.1 (xs ((v.2.2 + (1 : Int32))).toNatClampNeg) (xs ((v.2.2 + (2 : Int32))).toNatClampNeg) (xs ((v.2.2 + (3 : Int32))).toNatClampNeg) (xs ((v.2.2 + (4 : Int32))).toNatClampNeg) (xs ((v.2.2 + (5 : Int32))).toNatClampNeg) z520.2).bind fun z529 => (if z520.1 = z529.1 then (jL_law_1505 L xs k18 v.1 v.2.1 v.2.2 z529.2) else (some ((0 : Int32), z529.2))))))))))))))))) else (if ((xs (v.2.2).toNatClampNeg) &&& (63 : Int32)) = (37 : Int32) then (ck (vp_in (v.2.2 + (1 : Int32)) L) (ck (vp_in (v.2.2 + (2 : Int32)) L) (ck (vp_in (v.2.2 + (3 : Int32)) L) (ck (vp_in (v.2.2 + (4 : Int32)) L) (ck (tg w v.1 = 5) ((f5_bathersBy v.1 (xs ((v.2.2 + (1 : Int32))).toNatClampNeg) (xs ((v.2.2 + (2 : Int32))).toNatClampNeg) (xs ((v.2.2 + (3 : Int32))).toNatClampNeg) (xs ((v.2.2 + (4 : Int32))).toNatClampNeg) w).bind fun z539 => (ck (vp_in (v.2.2 + (1 : Int32)) L) (ck (vp_in (v.2.2 + (2 : Int32)) L) (ck (vp_in (v.2.2 + (3 : Int32)) L) (ck (vp_in (v.2.2 + (4 : Int32)) L) (ck (tg z539.2 v.2.1 = 6) ((f6_bathersBy v.2.1 (xs ((v.2.2 + (1 : Int32))).toNatClampNeg) (xs ((v.2.2 + (2 : Int32))).toNatClampNeg) (xs ((v.2.2 + (3 : Int32))).toNatClampNeg) (xs ((v.2.2 + (4 : Int32))).toNatClampNeg) z539.2).bind fun z547 => (if z539.1 = z547.1 then (jL_law_1505 L xs k18 v.1 v.2.1 v.2.2 z547.2) else (some ((0 : Int32), z547.2))))))))))))))) else (if ((xs (v.2.2).toNatClampNeg) &&& (63 : Int32)) = (38 : Int32) then (ck (vp_in (v.2.2 + (1 : Int32)) L) (ck (vp_in (v.2.2 + (2 : Int32)) L) (ck (tg w v.1 = 5) ((f5_taken v.1 (xs ((v.2.2 + (1 : Int32))).toNatClampNeg) (xs ((v.2.2 + (2 : Int32))).toNatClampNeg) w).bind fun z555 => (ck (vp_in (v.2.2 + (1 : Int32)) L) (ck (vp_in (v.2.2 + (2 : Int32)) L) (ck (tg z555.2 v.2.1 = 6) ((f6_taken v.2.1 (xs ((v.2.2 + (1 : Int32))).toNatClampNeg) (xs ((v.2.2 + (2 : Int32))).toNatClampNeg) z555.2).bind fun z561 => (if z555.1 = z561.1 then (jL_law_1505 L xs k18 v.1 v.2.1 v.2.2 z561.2) else (some ((0 : Int32), z561.2))))))))))) else (jL_law_1505 L xs k18 v.1 v.2.1 v.2.2 w)))))))))))))))))))))))))))))))))))))))))
set_option maxRecDepth 100000 in
set_option maxHeartbeats 4000000 in
theorem wpbL_law_18 (X : CX) (w0 : Wd) (L : Nat) (xs : Nat → Int32) (hg : gL X.2.2.2.2.2.2.2.2.2 = L ∧ gX X.2.2.2.2.2.2.2.2.2 = xs) (n : Nat) (k18 : Nat × Nat × Int32 → Wd → Option (Int32 × Wd)) (hk18 : ∀ (c s : Nat), c + n * 3 ≤ 1606 → s + n * 205 ≤ 108616 → ∀ (v : Nat × Nat × Int32) (w : Wd), WPe rtI X (mL_law, 52, 1606, 108616, w0) c s (k18 v w) 18 [(0, vR (1 : Nat)), (1, vR v.1), (2, vR v.2.1), (3, vI v.2.2)] [] w) (c s : Nat) (hc : c + (n + 1) * 3 ≤ 1606) (hs : s + (n + 1) * 205 ≤ 108616) (v : Nat × Nat × Int32) (w : Wd) : WPe rtI X (mL_law, 52, 1606, 108616, w0) c s (bL_law_18 L xs k18 v w) 18 [(0, vR (1 : Nat)), (1, vR v.1), (2, vR v.2.1), (3, vI v.2.2)] [] w := by
  unfold bL_law_18
  refine WPe_iload_n (pc := 18) 3 (dd dtL_law_0 10 rfl) rfl ?_
  refine WPe_aload_n (pc := 19) 0 (dd dtL_law_0 11 rfl) rfl ?_
  refine WPe_slen (pc := 20) (dd dtL_law_0 12 rfl) hg ?_
  refine WPe_bipush (pc := 21) (7 : Int32) (dd dtL_law_0 13 rfl) (by decide) ?_
  refine WPe_isub (pc := 23) (dd dtL_law_0 14 rfl) ?_
  refine WPe_icmp_gt (pc := 24) 1511 (dd dtL_law_0 15 rfl) (by decide) (fun h15 => ?_) (fun h15 => ?_)
  · refine WPe_iconst (pc := 1511) (1 : Int32) (dd dtL_law_21 39 rfl) (by decide) ?_
    exact WPe_zreturn (pc := 1512) (ty := .boolean) (dd dtL_law_21 40 rfl) rfl rfl rfl ⟨by show c + 0 ≤ 1606; omega, by show s + 0 ≤ 108616; omega⟩
  · refine WPe_aload_n (pc := 27) 0 (dd dtL_law_0 16 rfl) rfl ?_
    refine WPe_iload_n (pc := 28) 3 (dd dtL_law_0 17 rfl) rfl ?_
    refine WPe_ck fun h16 => ?_
    refine WPe_sld2 (pc := 29) (dd dtL_law_0 18 rfl) hg h16 ?_
    refine WPe_bipush (pc := 30) (63 : Int32) (dd dtL_law_0 19 rfl) (by decide) ?_
    refine WPe_iand (pc := 32) (dd dtL_law_0 20 rfl) ?_
    refine WPe_ite (fun h17 => ?_) (fun h17 => ?_)
    · refine WPe_tabIn (pc := 33) (0 : Int32) 204 (dd dtL_law_0 21 rfl) h17 (by decide) (by decide) rfl (by decide) ?_
      refine WPe_aload_n (pc := 204) 1 (dd dtL_law_0 22 rfl) rfl ?_
      refine WPe_aload_n (pc := 205) 0 (dd dtL_law_0 23 rfl) rfl ?_
      refine WPe_iload_n (pc := 206) 3 (dd dtL_law_0 24 rfl) rfl ?_
      refine WPe_iconst (pc := 207) (1 : Int32) (dd dtL_law_0 25 rfl) (by decide) ?_
      refine WPe_iadd (pc := 208) (dd dtL_law_0 26 rfl) ?_
      refine WPe_ck fun h18 => ?_
      refine WPe_sld2 (pc := 209) (dd dtL_law_0 27 rfl) hg h18 ?_
      refine WPe_ck fun h19 => ?_
      refine WPe_callV (pc := 210) (rtc := rtI) (Mc := mX5_count) (d' := 2) (mc' := 0) (ms' := 0) [vI (xs ((v.2.2 + (1 : Int32))).toNatClampNeg)] [] rfl (dd dtL_law_0 28 rfl) (okf5_count v.1 (xs ((v.2.2 + (1 : Int32))).toNatClampNeg) w) moX5_count miX5_count (bw_mem2 145 rfl rfl) (Or.inl ⟨_, _, _, _, (shE h19), rfl⟩) rfl (Nat.le_of_ble_eq_true rfl) ⟨(Nat.le_of_ble_eq_true rfl), (Nat.le_of_ble_eq_true rfl)⟩ ⟨by show c + 0 ≤ 1606; omega, by show s + 0 ≤ 108616; omega⟩ (fun z20 h21 e22 => ?_)
      refine WPe_st (st2 := [vI z20.1]) rfl ?_
      refine WPe_aload_n (pc := 213) 2 (dd dtL_law_0 29 rfl) rfl ?_
      refine WPe_aload_n (pc := 214) 0 (dd dtL_law_0 30 rfl) rfl ?_
      refine WPe_iload_n (pc := 215) 3 (dd dtL_law_0 31 rfl) rfl ?_
      refine WPe_iconst (pc := 216) (1 : Int32) (dd dtL_law_0 32 rfl) (by decide) ?_
      refine WPe_iadd (pc := 217) (dd dtL_law_0 33 rfl) ?_
      refine WPe_ck fun h23 => ?_
      refine WPe_sld2 (pc := 218) (dd dtL_law_0 34 rfl) hg h23 ?_
      refine WPe_ck fun h24 => ?_
      refine WPe_callV (pc := 219) (rtc := rtI) (Mc := mX6_count) (d' := 3) (mc' := 0) (ms' := 0) [vI (xs ((v.2.2 + (1 : Int32))).toNatClampNeg)] [vI z20.1] rfl (dd dtL_law_0 35 rfl) (okf6_count v.2.1 (xs ((v.2.2 + (1 : Int32))).toNatClampNeg) z20.2) moX6_count miX6_count (bw_mem4 150 rfl rfl) (Or.inl ⟨_, _, _, _, (shE h24), rfl⟩) rfl (Nat.le_of_ble_eq_true rfl) ⟨(Nat.le_of_ble_eq_true rfl), (Nat.le_of_ble_eq_true rfl)⟩ ⟨by show c + 0 + 0 ≤ 1606; omega, by show s + 0 + 0 ≤ 108616; omega⟩ (fun z25 h26 e27 => ?_)
      refine WPe_st (st2 := [vI z25.1, vI z20.1]) rfl ?_
      refine WPe_icmp_eq (pc := 222) 1505 (dd dtL_law_0 36 rfl) (by decide) (fun h28 => ?_) (fun h28 => ?_)
      · refine WPe_sub [0, 1, 2, 3] rfl ?_
        exact wpjL_law_1505 X w0 L xs hg n k18 hk18 _ _ (by omega) (by omega) _ _ _ _
      · refine WPe_iconst (pc := 225) (0 : Int32) (dd dtL_law_0 37 rfl) (by decide) ?_
        exact WPe_zreturn (pc := 226) (ty := .boolean) (dd dtL_law_0 38 rfl) rfl rfl rfl ⟨by show c + 0 + 0 + 0 ≤ 1606; omega, by show s + 0 + 0 + 0 ≤ 108616; omega⟩
    · refine WPe_ite (fun h29 => ?_) (fun h29 => ?_)
      · refine WPe_tabIn (pc := 33) (1 : Int32) 227 (dd dtL_law_0 21 rfl) h29 (by decide) (by decide) rfl (by decide) ?_
        refine WPe_aload_n (pc := 227) 1 (dd dtL_law_0 39 rfl) rfl ?_
        refine WPe_aload_n (pc := 228) 0 (dd dtL_law_0 40 rfl) rfl ?_
        refine WPe_iload_n (pc := 229) 3 (dd dtL_law_0 41 rfl) rfl ?_
        refine WPe_iconst (pc := 230) (1 : Int32) (dd dtL_law_0 42 rfl) (by decide) ?_
        refine WPe_iadd (pc := 231) (dd dtL_law_0 43 rfl) ?_
        refine WPe_ck fun h30 => ?_
        refine WPe_sld2 (pc := 232) (dd dtL_law_0 44 rfl) hg h30 ?_
        refine WPe_aload_n (pc := 233) 0 (dd dtL_law_0 45 rfl) rfl ?_
        refine WPe_iload_n (pc := 234) 3 (dd dtL_law_0 46 rfl) rfl ?_
        refine WPe_iconst (pc := 235) (2 : Int32) (dd dtL_law_0 47 rfl) (by decide) ?_
        refine WPe_iadd (pc := 236) (dd dtL_law_0 48 rfl) ?_
        refine WPe_ck fun h31 => ?_
        refine WPe_sld2 (pc := 237) (dd dtL_law_0 49 rfl) hg h31 ?_
        refine WPe_ck fun h32 => ?_
        refine WPe_callV (pc := 238) (rtc := rtI) (Mc := mX5_fire) (d' := 2) (mc' := 0) (ms' := 0) [vI (xs ((v.2.2 + (1 : Int32))).toNatClampNeg), vI (xs ((v.2.2 + (2 : Int32))).toNatClampNeg)] [] rfl (dd dtL_law_1 0 rfl) (okf5_fire v.1 (xs ((v.2.2 + (1 : Int32))).toNatClampNeg) (xs ((v.2.2 + (2 : Int32))).toNatClampNeg) w) moX5_fire miX5_fire (bw_mem2 157 rfl rfl) (Or.inl ⟨_, _, _, _, (shE h32), rfl⟩) rfl (Nat.le_of_ble_eq_true rfl) ⟨(Nat.le_of_ble_eq_true rfl), (Nat.le_of_ble_eq_true rfl)⟩ ⟨by show c + 0 ≤ 1606; omega, by show s + 0 ≤ 108616; omega⟩ (fun z33 h34 e35 => ?_)
        refine WPe_st (st2 := [vI z33.1]) rfl ?_
        refine WPe_aload_n (pc := 241) 2 (dd dtL_law_1 1 rfl) rfl ?_
        refine WPe_aload_n (pc := 242) 0 (dd dtL_law_1 2 rfl) rfl ?_
        refine WPe_iload_n (pc := 243) 3 (dd dtL_law_1 3 rfl) rfl ?_
        refine WPe_iconst (pc := 244) (1 : Int32) (dd dtL_law_1 4 rfl) (by decide) ?_
        refine WPe_iadd (pc := 245) (dd dtL_law_1 5 rfl) ?_
        refine WPe_ck fun h36 => ?_
        refine WPe_sld2 (pc := 246) (dd dtL_law_1 6 rfl) hg h36 ?_
        refine WPe_aload_n (pc := 247) 0 (dd dtL_law_1 7 rfl) rfl ?_
        refine WPe_iload_n (pc := 248) 3 (dd dtL_law_1 8 rfl) rfl ?_
        refine WPe_iconst (pc := 249) (2 : Int32) (dd dtL_law_1 9 rfl) (by decide) ?_
        refine WPe_iadd (pc := 250) (dd dtL_law_1 10 rfl) ?_
        refine WPe_ck fun h37 => ?_
        refine WPe_sld2 (pc := 251) (dd dtL_law_1 11 rfl) hg h37 ?_
        refine WPe_ck fun h38 => ?_
        refine WPe_callV (pc := 252) (rtc := rtI) (Mc := mX6_fire) (d' := 2) (mc' := 0) (ms' := 0) [vI (xs ((v.2.2 + (1 : Int32))).toNatClampNeg), vI (xs ((v.2.2 + (2 : Int32))).toNatClampNeg)] [vI z33.1] rfl (dd dtL_law_1 12 rfl) (okf6_fire v.2.1 (xs ((v.2.2 + (1 : Int32))).toNatClampNeg) (xs ((v.2.2 + (2 : Int32))).toNatClampNeg) z33.2) moX6_fire miX6_fire (bw_mem4 166 rfl rfl) (Or.inl ⟨_, _, _, _, (shE h38), rfl⟩) rfl (Nat.le_of_ble_eq_true rfl) ⟨(Nat.le_of_ble_eq_true rfl), (Nat.le_of_ble_eq_true rfl)⟩ ⟨by show c + 0 + 0 ≤ 1606; omega, by show s + 0 + 0 ≤ 108616; omega⟩ (fun z39 h40 e41 => ?_)
        refine WPe_st (st2 := [vI z39.1, vI z33.1]) rfl ?_
        refine WPe_icmp_eq (pc := 255) 1505 (dd dtL_law_1 13 rfl) (by decide) (fun h42 => ?_) (fun h42 => ?_)
        · refine WPe_sub [0, 1, 2, 3] rfl ?_
          exact wpjL_law_1505 X w0 L xs hg n k18 hk18 _ _ (by omega) (by omega) _ _ _ _
        · refine WPe_iconst (pc := 258) (0 : Int32) (dd dtL_law_1 14 rfl) (by decide) ?_
          exact WPe_zreturn (pc := 259) (ty := .boolean) (dd dtL_law_1 15 rfl) rfl rfl rfl ⟨by show c + 0 + 0 + 0 ≤ 1606; omega, by show s + 0 + 0 + 0 ≤ 108616; omega⟩
      · refine WPe_ite (fun h43 => ?_) (fun h43 => ?_)
        · refine WPe_tabIn (pc := 33) (2 : Int32) 260 (dd dtL_law_0 21 rfl) h43 (by decide) (by decide) rfl (by decide) ?_
          refine WPe_aload_n (pc := 260) 1 (dd dtL_law_1 16 rfl) rfl ?_
          refine WPe_aload_n (pc := 261) 0 (dd dtL_law_1 17 rfl) rfl ?_
          refine WPe_iload_n (pc := 262) 3 (dd dtL_law_1 18 rfl) rfl ?_
          refine WPe_iconst (pc := 263) (1 : Int32) (dd dtL_law_1 19 rfl) (by decide) ?_
          refine WPe_iadd (pc := 264) (dd dtL_law_1 20 rfl) ?_
          refine WPe_ck fun h44 => ?_
          refine WPe_sld2 (pc := 265) (dd dtL_law_1 21 rfl) hg h44 ?_
          refine WPe_ck fun h45 => ?_
          refine WPe_callV (pc := 266) (rtc := rtI) (Mc := mX5_hut) (d' := 1) (mc' := 0) (ms' := 0) [vI (xs ((v.2.2 + (1 : Int32))).toNatClampNeg)] [] rfl (dd dtL_law_1 22 rfl) (okf5_hut v.1 (xs ((v.2.2 + (1 : Int32))).toNatClampNeg) w) moX5_hut miX5_hut (bw_mem2 168 rfl rfl) (Or.inl ⟨_, _, _, _, (shE h45), rfl⟩) rfl (Nat.le_of_ble_eq_true rfl) ⟨(Nat.le_of_ble_eq_true rfl), (Nat.le_of_ble_eq_true rfl)⟩ ⟨by show c + 0 ≤ 1606; omega, by show s + 0 ≤ 108616; omega⟩ (fun z46 h47 e48 => ?_)
          refine WPe_st (st2 := [vI z46.1]) rfl ?_
          refine WPe_aload_n (pc := 269) 2 (dd dtL_law_1 23 rfl) rfl ?_
          refine WPe_aload_n (pc := 270) 0 (dd dtL_law_1 24 rfl) rfl ?_
          refine WPe_iload_n (pc := 271) 3 (dd dtL_law_1 25 rfl) rfl ?_
          refine WPe_iconst (pc := 272) (1 : Int32) (dd dtL_law_1 26 rfl) (by decide) ?_
          refine WPe_iadd (pc := 273) (dd dtL_law_1 27 rfl) ?_
          refine WPe_ck fun h49 => ?_
          refine WPe_sld2 (pc := 274) (dd dtL_law_1 28 rfl) hg h49 ?_
          refine WPe_ck fun h50 => ?_
          refine WPe_callV (pc := 275) (rtc := rtI) (Mc := mX6_hut) (d' := 2) (mc' := 0) (ms' := 0) [vI (xs ((v.2.2 + (1 : Int32))).toNatClampNeg)] [vI z46.1] rfl (dd dtL_law_1 29 rfl) (okf6_hut v.2.1 (xs ((v.2.2 + (1 : Int32))).toNatClampNeg) z46.2) moX6_hut miX6_hut (bw_mem4 170 rfl rfl) (Or.inl ⟨_, _, _, _, (shE h50), rfl⟩) rfl (Nat.le_of_ble_eq_true rfl) ⟨(Nat.le_of_ble_eq_true rfl), (Nat.le_of_ble_eq_true rfl)⟩ ⟨by show c + 0 + 0 ≤ 1606; omega, by show s + 0 + 0 ≤ 108616; omega⟩ (fun z51 h52 e53 => ?_)
          refine WPe_st (st2 := [vI z51.1, vI z46.1]) rfl ?_
          refine WPe_icmp_eq (pc := 278) 1505 (dd dtL_law_1 30 rfl) (by decide) (fun h54 => ?_) (fun h54 => ?_)
          · refine WPe_sub [0, 1, 2, 3] rfl ?_
            exact wpjL_law_1505 X w0 L xs hg n k18 hk18 _ _ (by omega) (by omega) _ _ _ _
          · refine WPe_iconst (pc := 281) (0 : Int32) (dd dtL_law_1 31 rfl) (by decide) ?_
            exact WPe_zreturn (pc := 282) (ty := .boolean) (dd dtL_law_1 32 rfl) rfl rfl rfl ⟨by show c + 0 + 0 + 0 ≤ 1606; omega, by show s + 0 + 0 + 0 ≤ 108616; omega⟩
        · refine WPe_ite (fun h55 => ?_) (fun h55 => ?_)
          · refine WPe_tabIn (pc := 33) (3 : Int32) 283 (dd dtL_law_0 21 rfl) h55 (by decide) (by decide) rfl (by decide) ?_
            refine WPe_aload_n (pc := 283) 1 (dd dtL_law_1 33 rfl) rfl ?_
            refine WPe_aload_n (pc := 284) 0 (dd dtL_law_1 34 rfl) rfl ?_
            refine WPe_iload_n (pc := 285) 3 (dd dtL_law_1 35 rfl) rfl ?_
            refine WPe_iconst (pc := 286) (1 : Int32) (dd dtL_law_1 36 rfl) (by decide) ?_
            refine WPe_iadd (pc := 287) (dd dtL_law_1 37 rfl) ?_
            refine WPe_ck fun h56 => ?_
            refine WPe_sld2 (pc := 288) (dd dtL_law_1 38 rfl) hg h56 ?_
            refine WPe_aload_n (pc := 289) 0 (dd dtL_law_1 39 rfl) rfl ?_
            refine WPe_iload_n (pc := 290) 3 (dd dtL_law_1 40 rfl) rfl ?_
            refine WPe_iconst (pc := 291) (2 : Int32) (dd dtL_law_1 41 rfl) (by decide) ?_
            refine WPe_iadd (pc := 292) (dd dtL_law_1 42 rfl) ?_
            refine WPe_ck fun h57 => ?_
            refine WPe_sld2 (pc := 293) (dd dtL_law_1 43 rfl) hg h57 ?_
            refine WPe_aload_n (pc := 294) 0 (dd dtL_law_1 44 rfl) rfl ?_
            refine WPe_iload_n (pc := 295) 3 (dd dtL_law_1 45 rfl) rfl ?_
            refine WPe_iconst (pc := 296) (3 : Int32) (dd dtL_law_1 46 rfl) (by decide) ?_
            refine WPe_iadd (pc := 297) (dd dtL_law_1 47 rfl) ?_
            refine WPe_ck fun h58 => ?_
            refine WPe_sld2 (pc := 298) (dd dtL_law_1 48 rfl) hg h58 ?_
            refine WPe_aload_n (pc := 299) 0 (dd dtL_law_1 49 rfl) rfl ?_
            refine WPe_iload_n (pc := 300) 3 (dd dtL_law_2 0 rfl) rfl ?_
            refine WPe_iconst (pc := 301) (4 : Int32) (dd dtL_law_2 1 rfl) (by decide) ?_
            refine WPe_iadd (pc := 302) (dd dtL_law_2 2 rfl) ?_
            refine WPe_ck fun h59 => ?_
            refine WPe_sld2 (pc := 303) (dd dtL_law_2 3 rfl) hg h59 ?_
            refine WPe_aload_n (pc := 304) 0 (dd dtL_law_2 4 rfl) rfl ?_
            refine WPe_iload_n (pc := 305) 3 (dd dtL_law_2 5 rfl) rfl ?_
            refine WPe_iconst (pc := 306) (5 : Int32) (dd dtL_law_2 6 rfl) (by decide) ?_
            refine WPe_iadd (pc := 307) (dd dtL_law_2 7 rfl) ?_
            refine WPe_ck fun h60 => ?_
            refine WPe_sld2 (pc := 308) (dd dtL_law_2 8 rfl) hg h60 ?_
            refine WPe_aload_n (pc := 309) 0 (dd dtL_law_2 9 rfl) rfl ?_
            refine WPe_iload_n (pc := 310) 3 (dd dtL_law_2 10 rfl) rfl ?_
            refine WPe_bipush (pc := 311) (6 : Int32) (dd dtL_law_2 11 rfl) (by decide) ?_
            refine WPe_iadd (pc := 313) (dd dtL_law_2 12 rfl) ?_
            refine WPe_ck fun h61 => ?_
            refine WPe_sld2 (pc := 314) (dd dtL_law_2 13 rfl) hg h61 ?_
            refine WPe_ck fun h62 => ?_
            refine WPe_callV (pc := 315) (rtc := rtI) (Mc := mX5_feed) (d' := 3) (mc' := 0) (ms' := 0) [vI (xs ((v.2.2 + (1 : Int32))).toNatClampNeg), vI (xs ((v.2.2 + (2 : Int32))).toNatClampNeg), vI (xs ((v.2.2 + (3 : Int32))).toNatClampNeg), vI (xs ((v.2.2 + (4 : Int32))).toNatClampNeg), vI (xs ((v.2.2 + (5 : Int32))).toNatClampNeg), vI (xs ((v.2.2 + (6 : Int32))).toNatClampNeg)] [] rfl (dd dtL_law_2 14 rfl) (okf5_feed v.1 (xs ((v.2.2 + (1 : Int32))).toNatClampNeg) (xs ((v.2.2 + (2 : Int32))).toNatClampNeg) (xs ((v.2.2 + (3 : Int32))).toNatClampNeg) (xs ((v.2.2 + (4 : Int32))).toNatClampNeg) (xs ((v.2.2 + (5 : Int32))).toNatClampNeg) (xs ((v.2.2 + (6 : Int32))).toNatClampNeg) w) moX5_feed miX5_feed (bw_mem2 169 rfl rfl) (Or.inl ⟨_, _, _, _, (shE h62), rfl⟩) rfl (Nat.le_of_ble_eq_true rfl) ⟨(Nat.le_of_ble_eq_true rfl), (Nat.le_of_ble_eq_true rfl)⟩ ⟨by show c + 0 ≤ 1606; omega, by show s + 0 ≤ 108616; omega⟩ (fun z63 h64 e65 => ?_)
            refine WPe_st (st2 := [vI z63.1]) rfl ?_
            refine WPe_aload_n (pc := 318) 2 (dd dtL_law_2 15 rfl) rfl ?_
            refine WPe_aload_n (pc := 319) 0 (dd dtL_law_2 16 rfl) rfl ?_
            refine WPe_iload_n (pc := 320) 3 (dd dtL_law_2 17 rfl) rfl ?_
            refine WPe_iconst (pc := 321) (1 : Int32) (dd dtL_law_2 18 rfl) (by decide) ?_
            refine WPe_iadd (pc := 322) (dd dtL_law_2 19 rfl) ?_
            refine WPe_ck fun h66 => ?_
            refine WPe_sld2 (pc := 323) (dd dtL_law_2 20 rfl) hg h66 ?_
            refine WPe_aload_n (pc := 324) 0 (dd dtL_law_2 21 rfl) rfl ?_
            refine WPe_iload_n (pc := 325) 3 (dd dtL_law_2 22 rfl) rfl ?_
            refine WPe_iconst (pc := 326) (2 : Int32) (dd dtL_law_2 23 rfl) (by decide) ?_
            refine WPe_iadd (pc := 327) (dd dtL_law_2 24 rfl) ?_
            refine WPe_ck fun h67 => ?_
            refine WPe_sld2 (pc := 328) (dd dtL_law_2 25 rfl) hg h67 ?_
            refine WPe_aload_n (pc := 329) 0 (dd dtL_law_2 26 rfl) rfl ?_
            refine WPe_iload_n (pc := 330) 3 (dd dtL_law_2 27 rfl) rfl ?_
            refine WPe_iconst (pc := 331) (3 : Int32) (dd dtL_law_2 28 rfl) (by decide) ?_
            refine WPe_iadd (pc := 332) (dd dtL_law_2 29 rfl) ?_
            refine WPe_ck fun h68 => ?_
            refine WPe_sld2 (pc := 333) (dd dtL_law_2 30 rfl) hg h68 ?_
            refine WPe_aload_n (pc := 334) 0 (dd dtL_law_2 31 rfl) rfl ?_
            refine WPe_iload_n (pc := 335) 3 (dd dtL_law_2 32 rfl) rfl ?_
            refine WPe_iconst (pc := 336) (4 : Int32) (dd dtL_law_2 33 rfl) (by decide) ?_
            refine WPe_iadd (pc := 337) (dd dtL_law_2 34 rfl) ?_
            refine WPe_ck fun h69 => ?_
            refine WPe_sld2 (pc := 338) (dd dtL_law_2 35 rfl) hg h69 ?_
            refine WPe_aload_n (pc := 339) 0 (dd dtL_law_2 36 rfl) rfl ?_
            refine WPe_iload_n (pc := 340) 3 (dd dtL_law_2 37 rfl) rfl ?_
            refine WPe_iconst (pc := 341) (5 : Int32) (dd dtL_law_2 38 rfl) (by decide) ?_
            refine WPe_iadd (pc := 342) (dd dtL_law_2 39 rfl) ?_
            refine WPe_ck fun h70 => ?_
            refine WPe_sld2 (pc := 343) (dd dtL_law_2 40 rfl) hg h70 ?_
            refine WPe_aload_n (pc := 344) 0 (dd dtL_law_2 41 rfl) rfl ?_
            refine WPe_iload_n (pc := 345) 3 (dd dtL_law_2 42 rfl) rfl ?_
            refine WPe_bipush (pc := 346) (6 : Int32) (dd dtL_law_2 43 rfl) (by decide) ?_
            refine WPe_iadd (pc := 348) (dd dtL_law_2 44 rfl) ?_
            refine WPe_ck fun h71 => ?_
            refine WPe_sld2 (pc := 349) (dd dtL_law_2 45 rfl) hg h71 ?_
            refine WPe_ck fun h72 => ?_
            refine WPe_callV (pc := 350) (rtc := rtI) (Mc := mX6_feed) (d' := 3) (mc' := 0) (ms' := 0) [vI (xs ((v.2.2 + (1 : Int32))).toNatClampNeg), vI (xs ((v.2.2 + (2 : Int32))).toNatClampNeg), vI (xs ((v.2.2 + (3 : Int32))).toNatClampNeg), vI (xs ((v.2.2 + (4 : Int32))).toNatClampNeg), vI (xs ((v.2.2 + (5 : Int32))).toNatClampNeg), vI (xs ((v.2.2 + (6 : Int32))).toNatClampNeg)] [vI z63.1] rfl (dd dtL_law_2 46 rfl) (okf6_feed v.2.1 (xs ((v.2.2 + (1 : Int32))).toNatClampNeg) (xs ((v.2.2 + (2 : Int32))).toNatClampNeg) (xs ((v.2.2 + (3 : Int32))).toNatClampNeg) (xs ((v.2.2 + (4 : Int32))).toNatClampNeg) (xs ((v.2.2 + (5 : Int32))).toNatClampNeg) (xs ((v.2.2 + (6 : Int32))).toNatClampNeg) z63.2) moX6_feed miX6_feed (bw_mem4 174 rfl rfl) (Or.inl ⟨_, _, _, _, (shE h72), rfl⟩) rfl (Nat.le_of_ble_eq_true rfl) ⟨(Nat.le_of_ble_eq_true rfl), (Nat.le_of_ble_eq_true rfl)⟩ ⟨by show c + 0 + 0 ≤ 1606; omega, by show s + 0 + 0 ≤ 108616; omega⟩ (fun z73 h74 e75 => ?_)
            refine WPe_st (st2 := [vI z73.1, vI z63.1]) rfl ?_
            refine WPe_icmp_eq (pc := 353) 1505 (dd dtL_law_2 47 rfl) (by decide) (fun h76 => ?_) (fun h76 => ?_)
            · refine WPe_sub [0, 1, 2, 3] rfl ?_
              exact wpjL_law_1505 X w0 L xs hg n k18 hk18 _ _ (by omega) (by omega) _ _ _ _
            · refine WPe_iconst (pc := 356) (0 : Int32) (dd dtL_law_2 48 rfl) (by decide) ?_
              exact WPe_zreturn (pc := 357) (ty := .boolean) (dd dtL_law_2 49 rfl) rfl rfl rfl ⟨by show c + 0 + 0 + 0 ≤ 1606; omega, by show s + 0 + 0 + 0 ≤ 108616; omega⟩
          · refine WPe_ite (fun h77 => ?_) (fun h77 => ?_)
            · refine WPe_tabIn (pc := 33) (4 : Int32) 358 (dd dtL_law_0 21 rfl) h77 (by decide) (by decide) rfl (by decide) ?_
              refine WPe_aload_n (pc := 358) 1 (dd dtL_law_3 0 rfl) rfl ?_
              refine WPe_ck fun h78 => ?_
              refine WPe_callV (pc := 359) (rtc := rtI) (Mc := mX5_text) (d' := 51) (mc' := 3) (ms' := 205) [] [] rfl (dd dtL_law_3 1 rfl) (okf5_text v.1 w) moX5_text miX5_text (bw_mem2 181 rfl rfl) (Or.inl ⟨_, _, _, _, (shE h78), rfl⟩) rfl (Nat.le_of_ble_eq_true rfl) ⟨(Nat.le_of_ble_eq_true rfl), (Nat.le_of_ble_eq_true rfl)⟩ ⟨by show c + 3 ≤ 1606; omega, by show s + 205 ≤ 108616; omega⟩ (fun z79 h80 e81 => ?_)
              refine WPe_st (st2 := [vI z79.1]) rfl ?_
              refine WPe_aload_n (pc := 362) 2 (dd dtL_law_3 2 rfl) rfl ?_
              refine WPe_ck fun h82 => ?_
              refine WPe_callV (pc := 363) (rtc := rtI) (Mc := mX6_text) (d' := 5) (mc' := 0) (ms' := 0) [] [vI z79.1] rfl (dd dtL_law_3 3 rfl) (okf6_text v.2.1 z79.2) moX6_text miX6_text (bw_mem4 181 rfl rfl) (Or.inl ⟨_, _, _, _, (shE h82), rfl⟩) rfl (Nat.le_of_ble_eq_true rfl) ⟨(Nat.le_of_ble_eq_true rfl), (Nat.le_of_ble_eq_true rfl)⟩ ⟨by show c + 3 + 0 ≤ 1606; omega, by show s + 205 + 0 ≤ 108616; omega⟩ (fun z83 h84 e85 => ?_)
              refine WPe_st (st2 := [vI z83.1, vI z79.1]) rfl ?_
              refine WPe_icmp_eq (pc := 366) 1505 (dd dtL_law_3 4 rfl) (by decide) (fun h86 => ?_) (fun h86 => ?_)
              · refine WPe_sub [0, 1, 2, 3] rfl ?_
                exact wpjL_law_1505 X w0 L xs hg n k18 hk18 _ _ (by omega) (by omega) _ _ _ _
              · refine WPe_iconst (pc := 369) (0 : Int32) (dd dtL_law_3 5 rfl) (by decide) ?_
                exact WPe_zreturn (pc := 370) (ty := .boolean) (dd dtL_law_3 6 rfl) rfl rfl rfl ⟨by show c + 3 + 0 + 0 ≤ 1606; omega, by show s + 205 + 0 + 0 ≤ 108616; omega⟩
            · refine WPe_ite (fun h87 => ?_) (fun h87 => ?_)
              · refine WPe_tabIn (pc := 33) (5 : Int32) 371 (dd dtL_law_0 21 rfl) h87 (by decide) (by decide) rfl (by decide) ?_
                refine WPe_aload_n (pc := 371) 1 (dd dtL_law_3 7 rfl) rfl ?_
                refine WPe_aload_n (pc := 372) 0 (dd dtL_law_3 8 rfl) rfl ?_
                refine WPe_iload_n (pc := 373) 3 (dd dtL_law_3 9 rfl) rfl ?_
                refine WPe_iconst (pc := 374) (1 : Int32) (dd dtL_law_3 10 rfl) (by decide) ?_
                refine WPe_iadd (pc := 375) (dd dtL_law_3 11 rfl) ?_
                refine WPe_ck fun h88 => ?_
                refine WPe_sld2 (pc := 376) (dd dtL_law_3 12 rfl) hg h88 ?_
                refine WPe_ck fun h89 => ?_
                refine WPe_callV (pc := 377) (rtc := rtI) (Mc := mX5_force) (d' := 1) (mc' := 0) (ms' := 0) [vI (xs ((v.2.2 + (1 : Int32))).toNatClampNeg)] [] rfl (dd dtL_law_3 13 rfl) (okf5_force v.1 (xs ((v.2.2 + (1 : Int32))).toNatClampNeg) w) moX5_force miX5_force (bw_mem2 185 rfl rfl) (Or.inl ⟨_, _, _, _, (shE h89), rfl⟩) rfl (Nat.le_of_ble_eq_true rfl) ⟨(Nat.le_of_ble_eq_true rfl), (Nat.le_of_ble_eq_true rfl)⟩ ⟨by show c + 0 ≤ 1606; omega, by show s + 0 ≤ 108616; omega⟩ (fun z90 h91 e92 => ?_)
                refine WPe_st (st2 := [vI z90.1]) rfl ?_
                refine WPe_aload_n (pc := 380) 2 (dd dtL_law_3 14 rfl) rfl ?_
                refine WPe_aload_n (pc := 381) 0 (dd dtL_law_3 15 rfl) rfl ?_
                refine WPe_iload_n (pc := 382) 3 (dd dtL_law_3 16 rfl) rfl ?_
                refine WPe_iconst (pc := 383) (1 : Int32) (dd dtL_law_3 17 rfl) (by decide) ?_
                refine WPe_iadd (pc := 384) (dd dtL_law_3 18 rfl) ?_
                refine WPe_ck fun h93 => ?_
                refine WPe_sld2 (pc := 385) (dd dtL_law_3 19 rfl) hg h93 ?_
                refine WPe_ck fun h94 => ?_
                refine WPe_callV (pc := 386) (rtc := rtI) (Mc := mX6_force) (d' := 2) (mc' := 0) (ms' := 0) [vI (xs ((v.2.2 + (1 : Int32))).toNatClampNeg)] [vI z90.1] rfl (dd dtL_law_3 20 rfl) (okf6_force v.2.1 (xs ((v.2.2 + (1 : Int32))).toNatClampNeg) z90.2) moX6_force miX6_force (bw_mem4 182 rfl rfl) (Or.inl ⟨_, _, _, _, (shE h94), rfl⟩) rfl (Nat.le_of_ble_eq_true rfl) ⟨(Nat.le_of_ble_eq_true rfl), (Nat.le_of_ble_eq_true rfl)⟩ ⟨by show c + 0 + 0 ≤ 1606; omega, by show s + 0 + 0 ≤ 108616; omega⟩ (fun z95 h96 e97 => ?_)
                refine WPe_st (st2 := [vI z95.1, vI z90.1]) rfl ?_
                refine WPe_icmp_eq (pc := 389) 1505 (dd dtL_law_3 21 rfl) (by decide) (fun h98 => ?_) (fun h98 => ?_)
                · refine WPe_sub [0, 1, 2, 3] rfl ?_
                  exact wpjL_law_1505 X w0 L xs hg n k18 hk18 _ _ (by omega) (by omega) _ _ _ _
                · refine WPe_iconst (pc := 392) (0 : Int32) (dd dtL_law_3 22 rfl) (by decide) ?_
                  exact WPe_zreturn (pc := 393) (ty := .boolean) (dd dtL_law_3 23 rfl) rfl rfl rfl ⟨by show c + 0 + 0 + 0 ≤ 1606; omega, by show s + 0 + 0 + 0 ≤ 108616; omega⟩
              · refine WPe_ite (fun h99 => ?_) (fun h99 => ?_)
                · refine WPe_tabIn (pc := 33) (6 : Int32) 394 (dd dtL_law_0 21 rfl) h99 (by decide) (by decide) rfl (by decide) ?_
                  refine WPe_aload_n (pc := 394) 1 (dd dtL_law_3 24 rfl) rfl ?_
                  refine WPe_aload_n (pc := 395) 0 (dd dtL_law_3 25 rfl) rfl ?_
                  refine WPe_iload_n (pc := 396) 3 (dd dtL_law_3 26 rfl) rfl ?_
                  refine WPe_iconst (pc := 397) (1 : Int32) (dd dtL_law_3 27 rfl) (by decide) ?_
                  refine WPe_iadd (pc := 398) (dd dtL_law_3 28 rfl) ?_
                  refine WPe_ck fun h100 => ?_
                  refine WPe_sld2 (pc := 399) (dd dtL_law_3 29 rfl) hg h100 ?_
                  refine WPe_aload_n (pc := 400) 0 (dd dtL_law_3 30 rfl) rfl ?_
                  refine WPe_iload_n (pc := 401) 3 (dd dtL_law_3 31 rfl) rfl ?_
                  refine WPe_iconst (pc := 402) (2 : Int32) (dd dtL_law_3 32 rfl) (by decide) ?_
                  refine WPe_iadd (pc := 403) (dd dtL_law_3 33 rfl) ?_
                  refine WPe_ck fun h101 => ?_
                  refine WPe_sld2 (pc := 404) (dd dtL_law_3 34 rfl) hg h101 ?_
                  refine WPe_ck fun h102 => ?_
                  refine WPe_callV (pc := 405) (rtc := rtI) (Mc := mX5_asks) (d' := 3) (mc' := 0) (ms' := 0) [vI (xs ((v.2.2 + (1 : Int32))).toNatClampNeg), vI (xs ((v.2.2 + (2 : Int32))).toNatClampNeg)] [] rfl (dd dtL_law_3 35 rfl) (okf5_asks v.1 (xs ((v.2.2 + (1 : Int32))).toNatClampNeg) (xs ((v.2.2 + (2 : Int32))).toNatClampNeg) w) moX5_asks miX5_asks (bw_mem2 189 rfl rfl) (Or.inl ⟨_, _, _, _, (shE h102), rfl⟩) rfl (Nat.le_of_ble_eq_true rfl) ⟨(Nat.le_of_ble_eq_true rfl), (Nat.le_of_ble_eq_true rfl)⟩ ⟨by show c + 0 ≤ 1606; omega, by show s + 0 ≤ 108616; omega⟩ (fun z103 h104 e105 => ?_)
                  refine WPe_st (st2 := [vI z103.1]) rfl ?_
                  refine WPe_aload_n (pc := 408) 2 (dd dtL_law_3 36 rfl) rfl ?_
                  refine WPe_aload_n (pc := 409) 0 (dd dtL_law_3 37 rfl) rfl ?_
                  refine WPe_iload_n (pc := 410) 3 (dd dtL_law_3 38 rfl) rfl ?_
                  refine WPe_iconst (pc := 411) (1 : Int32) (dd dtL_law_3 39 rfl) (by decide) ?_
                  refine WPe_iadd (pc := 412) (dd dtL_law_3 40 rfl) ?_
                  refine WPe_ck fun h106 => ?_
                  refine WPe_sld2 (pc := 413) (dd dtL_law_3 41 rfl) hg h106 ?_
                  refine WPe_aload_n (pc := 414) 0 (dd dtL_law_3 42 rfl) rfl ?_
                  refine WPe_iload_n (pc := 415) 3 (dd dtL_law_3 43 rfl) rfl ?_
                  refine WPe_iconst (pc := 416) (2 : Int32) (dd dtL_law_3 44 rfl) (by decide) ?_
                  refine WPe_iadd (pc := 417) (dd dtL_law_3 45 rfl) ?_
                  refine WPe_ck fun h107 => ?_
                  refine WPe_sld2 (pc := 418) (dd dtL_law_3 46 rfl) hg h107 ?_
                  refine WPe_ck fun h108 => ?_
                  refine WPe_callV (pc := 419) (rtc := rtI) (Mc := mX6_asks) (d' := 4) (mc' := 0) (ms' := 0) [vI (xs ((v.2.2 + (1 : Int32))).toNatClampNeg), vI (xs ((v.2.2 + (2 : Int32))).toNatClampNeg)] [vI z103.1] rfl (dd dtL_law_3 47 rfl) (okf6_asks v.2.1 (xs ((v.2.2 + (1 : Int32))).toNatClampNeg) (xs ((v.2.2 + (2 : Int32))).toNatClampNeg) z103.2) moX6_asks miX6_asks (bw_mem4 186 rfl rfl) (Or.inl ⟨_, _, _, _, (shE h108), rfl⟩) rfl (Nat.le_of_ble_eq_true rfl) ⟨(Nat.le_of_ble_eq_true rfl), (Nat.le_of_ble_eq_true rfl)⟩ ⟨by show c + 0 + 0 ≤ 1606; omega, by show s + 0 + 0 ≤ 108616; omega⟩ (fun z109 h110 e111 => ?_)
                  refine WPe_st (st2 := [vI z109.1, vI z103.1]) rfl ?_
                  refine WPe_icmp_eq (pc := 422) 1505 (dd dtL_law_3 48 rfl) (by decide) (fun h112 => ?_) (fun h112 => ?_)
                  · refine WPe_sub [0, 1, 2, 3] rfl ?_
                    exact wpjL_law_1505 X w0 L xs hg n k18 hk18 _ _ (by omega) (by omega) _ _ _ _
                  · refine WPe_iconst (pc := 425) (0 : Int32) (dd dtL_law_3 49 rfl) (by decide) ?_
                    exact WPe_zreturn (pc := 426) (ty := .boolean) (dd dtL_law_4 0 rfl) rfl rfl rfl ⟨by show c + 0 + 0 + 0 ≤ 1606; omega, by show s + 0 + 0 + 0 ≤ 108616; omega⟩
                · refine WPe_ite (fun h113 => ?_) (fun h113 => ?_)
                  · refine WPe_tabIn (pc := 33) (7 : Int32) 427 (dd dtL_law_0 21 rfl) h113 (by decide) (by decide) rfl (by decide) ?_
                    refine WPe_aload_n (pc := 427) 1 (dd dtL_law_4 1 rfl) rfl ?_
                    refine WPe_aload_n (pc := 428) 0 (dd dtL_law_4 2 rfl) rfl ?_
                    refine WPe_iload_n (pc := 429) 3 (dd dtL_law_4 3 rfl) rfl ?_
                    refine WPe_iconst (pc := 430) (1 : Int32) (dd dtL_law_4 4 rfl) (by decide) ?_
                    refine WPe_iadd (pc := 431) (dd dtL_law_4 5 rfl) ?_
                    refine WPe_ck fun h114 => ?_
                    refine WPe_sld2 (pc := 432) (dd dtL_law_4 6 rfl) hg h114 ?_
                    refine WPe_aload_n (pc := 433) 0 (dd dtL_law_4 7 rfl) rfl ?_
                    refine WPe_iload_n (pc := 434) 3 (dd dtL_law_4 8 rfl) rfl ?_
                    refine WPe_iconst (pc := 435) (2 : Int32) (dd dtL_law_4 9 rfl) (by decide) ?_
                    refine WPe_iadd (pc := 436) (dd dtL_law_4 10 rfl) ?_
                    refine WPe_ck fun h115 => ?_
                    refine WPe_sld2 (pc := 437) (dd dtL_law_4 11 rfl) hg h115 ?_
                    refine WPe_ck fun h116 => ?_
                    refine WPe_callV (pc := 438) (rtc := rtI) (Mc := mX5_bather) (d' := 2) (mc' := 0) (ms' := 0) [vI (xs ((v.2.2 + (1 : Int32))).toNatClampNeg), vI (xs ((v.2.2 + (2 : Int32))).toNatClampNeg)] [] rfl (dd dtL_law_4 12 rfl) (okf5_bather v.1 (xs ((v.2.2 + (1 : Int32))).toNatClampNeg) (xs ((v.2.2 + (2 : Int32))).toNatClampNeg) w) moX5_bather miX5_bather (bw_mem2 215 rfl rfl) (Or.inl ⟨_, _, _, _, (shE h116), rfl⟩) rfl (Nat.le_of_ble_eq_true rfl) ⟨(Nat.le_of_ble_eq_true rfl), (Nat.le_of_ble_eq_true rfl)⟩ ⟨by show c + 0 ≤ 1606; omega, by show s + 0 ≤ 108616; omega⟩ (fun z117 h118 e119 => ?_)
                    refine WPe_st (st2 := [vI z117.1]) rfl ?_
                    refine WPe_aload_n (pc := 441) 2 (dd dtL_law_4 13 rfl) rfl ?_
                    refine WPe_aload_n (pc := 442) 0 (dd dtL_law_4 14 rfl) rfl ?_
                    refine WPe_iload_n (pc := 443) 3 (dd dtL_law_4 15 rfl) rfl ?_
                    refine WPe_iconst (pc := 444) (1 : Int32) (dd dtL_law_4 16 rfl) (by decide) ?_
                    refine WPe_iadd (pc := 445) (dd dtL_law_4 17 rfl) ?_
                    refine WPe_ck fun h120 => ?_
                    refine WPe_sld2 (pc := 446) (dd dtL_law_4 18 rfl) hg h120 ?_
                    refine WPe_aload_n (pc := 447) 0 (dd dtL_law_4 19 rfl) rfl ?_
                    refine WPe_iload_n (pc := 448) 3 (dd dtL_law_4 20 rfl) rfl ?_
                    refine WPe_iconst (pc := 449) (2 : Int32) (dd dtL_law_4 21 rfl) (by decide) ?_
                    refine WPe_iadd (pc := 450) (dd dtL_law_4 22 rfl) ?_
                    refine WPe_ck fun h121 => ?_
                    refine WPe_sld2 (pc := 451) (dd dtL_law_4 23 rfl) hg h121 ?_
                    refine WPe_ck fun h122 => ?_
                    refine WPe_callV (pc := 452) (rtc := rtI) (Mc := mX6_bather) (d' := 2) (mc' := 0) (ms' := 0) [vI (xs ((v.2.2 + (1 : Int32))).toNatClampNeg), vI (xs ((v.2.2 + (2 : Int32))).toNatClampNeg)] [vI z117.1] rfl (dd dtL_law_4 24 rfl) (okf6_bather v.2.1 (xs ((v.2.2 + (1 : Int32))).toNatClampNeg) (xs ((v.2.2 + (2 : Int32))).toNatClampNeg) z117.2) moX6_bather miX6_bather (bw_mem4 208 rfl rfl) (Or.inl ⟨_, _, _, _, (shE h122), rfl⟩) rfl (Nat.le_of_ble_eq_true rfl) ⟨(Nat.le_of_ble_eq_true rfl), (Nat.le_of_ble_eq_true rfl)⟩ ⟨by show c + 0 + 0 ≤ 1606; omega, by show s + 0 + 0 ≤ 108616; omega⟩ (fun z123 h124 e125 => ?_)
                    refine WPe_st (st2 := [vI z123.1, vI z117.1]) rfl ?_
                    refine WPe_icmp_eq (pc := 455) 1505 (dd dtL_law_4 25 rfl) (by decide) (fun h126 => ?_) (fun h126 => ?_)
                    · refine WPe_sub [0, 1, 2, 3] rfl ?_
                      exact wpjL_law_1505 X w0 L xs hg n k18 hk18 _ _ (by omega) (by omega) _ _ _ _
                    · refine WPe_iconst (pc := 458) (0 : Int32) (dd dtL_law_4 26 rfl) (by decide) ?_
                      exact WPe_zreturn (pc := 459) (ty := .boolean) (dd dtL_law_4 27 rfl) rfl rfl rfl ⟨by show c + 0 + 0 + 0 ≤ 1606; omega, by show s + 0 + 0 + 0 ≤ 108616; omega⟩
                  · refine WPe_ite (fun h127 => ?_) (fun h127 => ?_)
                    · refine WPe_tabIn (pc := 33) (8 : Int32) 460 (dd dtL_law_0 21 rfl) h127 (by decide) (by decide) rfl (by decide) ?_
                      refine WPe_aload_n (pc := 460) 1 (dd dtL_law_4 28 rfl) rfl ?_
                      refine WPe_aload_n (pc := 461) 0 (dd dtL_law_4 29 rfl) rfl ?_
                      refine WPe_iload_n (pc := 462) 3 (dd dtL_law_4 30 rfl) rfl ?_
                      refine WPe_iconst (pc := 463) (1 : Int32) (dd dtL_law_4 31 rfl) (by decide) ?_
                      refine WPe_iadd (pc := 464) (dd dtL_law_4 32 rfl) ?_
                      refine WPe_ck fun h128 => ?_
                      refine WPe_sld2 (pc := 465) (dd dtL_law_4 33 rfl) hg h128 ?_
                      refine WPe_aload_n (pc := 466) 0 (dd dtL_law_4 34 rfl) rfl ?_
                      refine WPe_iload_n (pc := 467) 3 (dd dtL_law_4 35 rfl) rfl ?_
                      refine WPe_iconst (pc := 468) (2 : Int32) (dd dtL_law_4 36 rfl) (by decide) ?_
                      refine WPe_iadd (pc := 469) (dd dtL_law_4 37 rfl) ?_
                      refine WPe_ck fun h129 => ?_
                      refine WPe_sld2 (pc := 470) (dd dtL_law_4 38 rfl) hg h129 ?_
                      refine WPe_aload_n (pc := 471) 0 (dd dtL_law_4 39 rfl) rfl ?_
                      refine WPe_iload_n (pc := 472) 3 (dd dtL_law_4 40 rfl) rfl ?_
                      refine WPe_iconst (pc := 473) (3 : Int32) (dd dtL_law_4 41 rfl) (by decide) ?_
                      refine WPe_iadd (pc := 474) (dd dtL_law_4 42 rfl) ?_
                      refine WPe_ck fun h130 => ?_
                      refine WPe_sld2 (pc := 475) (dd dtL_law_4 43 rfl) hg h130 ?_
                      refine WPe_ck fun h131 => ?_
                      refine WPe_callV (pc := 476) (rtc := rtI) (Mc := mX5_put) (d' := 5) (mc' := 0) (ms' := 0) [vI (xs ((v.2.2 + (1 : Int32))).toNatClampNeg), vI (xs ((v.2.2 + (2 : Int32))).toNatClampNeg), vI (xs ((v.2.2 + (3 : Int32))).toNatClampNeg)] [] rfl (dd dtL_law_4 44 rfl) (okf5_put v.1 (xs ((v.2.2 + (1 : Int32))).toNatClampNeg) (xs ((v.2.2 + (2 : Int32))).toNatClampNeg) (xs ((v.2.2 + (3 : Int32))).toNatClampNeg) w) moX5_put miX5_put (bw_mem2 223 rfl rfl) (Or.inl ⟨_, _, _, _, (shE h131), rfl⟩) rfl (Nat.le_of_ble_eq_true rfl) ⟨(Nat.le_of_ble_eq_true rfl), (Nat.le_of_ble_eq_true rfl)⟩ ⟨by show c + 0 ≤ 1606; omega, by show s + 0 ≤ 108616; omega⟩ (fun z132 h133 e134 => ?_)
                      refine WPe_st (st2 := [vI z132.1]) rfl ?_
                      refine WPe_aload_n (pc := 479) 2 (dd dtL_law_4 45 rfl) rfl ?_
                      refine WPe_aload_n (pc := 480) 0 (dd dtL_law_4 46 rfl) rfl ?_
                      refine WPe_iload_n (pc := 481) 3 (dd dtL_law_4 47 rfl) rfl ?_
                      refine WPe_iconst (pc := 482) (1 : Int32) (dd dtL_law_4 48 rfl) (by decide) ?_
                      refine WPe_iadd (pc := 483) (dd dtL_law_4 49 rfl) ?_
                      refine WPe_ck fun h135 => ?_
                      refine WPe_sld2 (pc := 484) (dd dtL_law_5 0 rfl) hg h135 ?_
                      refine WPe_aload_n (pc := 485) 0 (dd dtL_law_5 1 rfl) rfl ?_
                      refine WPe_iload_n (pc := 486) 3 (dd dtL_law_5 2 rfl) rfl ?_
                      refine WPe_iconst (pc := 487) (2 : Int32) (dd dtL_law_5 3 rfl) (by decide) ?_
                      refine WPe_iadd (pc := 488) (dd dtL_law_5 4 rfl) ?_
                      refine WPe_ck fun h136 => ?_
                      refine WPe_sld2 (pc := 489) (dd dtL_law_5 5 rfl) hg h136 ?_
                      refine WPe_aload_n (pc := 490) 0 (dd dtL_law_5 6 rfl) rfl ?_
                      refine WPe_iload_n (pc := 491) 3 (dd dtL_law_5 7 rfl) rfl ?_
                      refine WPe_iconst (pc := 492) (3 : Int32) (dd dtL_law_5 8 rfl) (by decide) ?_
                      refine WPe_iadd (pc := 493) (dd dtL_law_5 9 rfl) ?_
                      refine WPe_ck fun h137 => ?_
                      refine WPe_sld2 (pc := 494) (dd dtL_law_5 10 rfl) hg h137 ?_
                      refine WPe_ck fun h138 => ?_
                      refine WPe_callV (pc := 495) (rtc := rtI) (Mc := mX6_put) (d' := 3) (mc' := 0) (ms' := 0) [vI (xs ((v.2.2 + (1 : Int32))).toNatClampNeg), vI (xs ((v.2.2 + (2 : Int32))).toNatClampNeg), vI (xs ((v.2.2 + (3 : Int32))).toNatClampNeg)] [vI z132.1] rfl (dd dtL_law_5 11 rfl) (okf6_put v.2.1 (xs ((v.2.2 + (1 : Int32))).toNatClampNeg) (xs ((v.2.2 + (2 : Int32))).toNatClampNeg) (xs ((v.2.2 + (3 : Int32))).toNatClampNeg) z132.2) moX6_put miX6_put (bw_mem4 212 rfl rfl) (Or.inl ⟨_, _, _, _, (shE h138), rfl⟩) rfl (Nat.le_of_ble_eq_true rfl) ⟨(Nat.le_of_ble_eq_true rfl), (Nat.le_of_ble_eq_true rfl)⟩ ⟨by show c + 0 + 0 ≤ 1606; omega, by show s + 0 + 0 ≤ 108616; omega⟩ (fun z139 h140 e141 => ?_)
                      refine WPe_st (st2 := [vI z139.1, vI z132.1]) rfl ?_
                      refine WPe_icmp_eq (pc := 498) 1505 (dd dtL_law_5 12 rfl) (by decide) (fun h142 => ?_) (fun h142 => ?_)
                      · refine WPe_sub [0, 1, 2, 3] rfl ?_
                        exact wpjL_law_1505 X w0 L xs hg n k18 hk18 _ _ (by omega) (by omega) _ _ _ _
                      · refine WPe_iconst (pc := 501) (0 : Int32) (dd dtL_law_5 13 rfl) (by decide) ?_
                        exact WPe_zreturn (pc := 502) (ty := .boolean) (dd dtL_law_5 14 rfl) rfl rfl rfl ⟨by show c + 0 + 0 + 0 ≤ 1606; omega, by show s + 0 + 0 + 0 ≤ 108616; omega⟩
                    · refine WPe_ite (fun h143 => ?_) (fun h143 => ?_)
                      · refine WPe_tabIn (pc := 33) (9 : Int32) 503 (dd dtL_law_0 21 rfl) h143 (by decide) (by decide) rfl (by decide) ?_
                        refine WPe_aload_n (pc := 503) 1 (dd dtL_law_5 15 rfl) rfl ?_
                        refine WPe_aload_n (pc := 504) 0 (dd dtL_law_5 16 rfl) rfl ?_
                        refine WPe_iload_n (pc := 505) 3 (dd dtL_law_5 17 rfl) rfl ?_
                        refine WPe_iconst (pc := 506) (1 : Int32) (dd dtL_law_5 18 rfl) (by decide) ?_
                        refine WPe_iadd (pc := 507) (dd dtL_law_5 19 rfl) ?_
                        refine WPe_ck fun h144 => ?_
                        refine WPe_sld2 (pc := 508) (dd dtL_law_5 20 rfl) hg h144 ?_
                        refine WPe_aload_n (pc := 509) 0 (dd dtL_law_5 21 rfl) rfl ?_
                        refine WPe_iload_n (pc := 510) 3 (dd dtL_law_5 22 rfl) rfl ?_
                        refine WPe_iconst (pc := 511) (2 : Int32) (dd dtL_law_5 23 rfl) (by decide) ?_
                        refine WPe_iadd (pc := 512) (dd dtL_law_5 24 rfl) ?_
                        refine WPe_ck fun h145 => ?_
                        refine WPe_sld2 (pc := 513) (dd dtL_law_5 25 rfl) hg h145 ?_
                        refine WPe_ck fun h146 => ?_
                        refine WPe_callV (pc := 514) (rtc := rtI) (Mc := mX5_told) (d' := 4) (mc' := 0) (ms' := 0) [vI (xs ((v.2.2 + (1 : Int32))).toNatClampNeg), vI (xs ((v.2.2 + (2 : Int32))).toNatClampNeg)] [] rfl (dd dtL_law_5 26 rfl) (okf5_told v.1 (xs ((v.2.2 + (1 : Int32))).toNatClampNeg) (xs ((v.2.2 + (2 : Int32))).toNatClampNeg) w) moX5_told miX5_told (bw_mem3 5 rfl rfl) (Or.inl ⟨_, _, _, _, (shE h146), rfl⟩) rfl (Nat.le_of_ble_eq_true rfl) ⟨(Nat.le_of_ble_eq_true rfl), (Nat.le_of_ble_eq_true rfl)⟩ ⟨by show c + 0 ≤ 1606; omega, by show s + 0 ≤ 108616; omega⟩ (fun z147 h148 e149 => ?_)
                        refine WPe_st (st2 := [vI z147.1]) rfl ?_
                        refine WPe_aload_n (pc := 517) 2 (dd dtL_law_5 27 rfl) rfl ?_
                        refine WPe_aload_n (pc := 518) 0 (dd dtL_law_5 28 rfl) rfl ?_
                        refine WPe_iload_n (pc := 519) 3 (dd dtL_law_5 29 rfl) rfl ?_
                        refine WPe_iconst (pc := 520) (1 : Int32) (dd dtL_law_5 30 rfl) (by decide) ?_
                        refine WPe_iadd (pc := 521) (dd dtL_law_5 31 rfl) ?_
                        refine WPe_ck fun h150 => ?_
                        refine WPe_sld2 (pc := 522) (dd dtL_law_5 32 rfl) hg h150 ?_
                        refine WPe_aload_n (pc := 523) 0 (dd dtL_law_5 33 rfl) rfl ?_
                        refine WPe_iload_n (pc := 524) 3 (dd dtL_law_5 34 rfl) rfl ?_
                        refine WPe_iconst (pc := 525) (2 : Int32) (dd dtL_law_5 35 rfl) (by decide) ?_
                        refine WPe_iadd (pc := 526) (dd dtL_law_5 36 rfl) ?_
                        refine WPe_ck fun h151 => ?_
                        refine WPe_sld2 (pc := 527) (dd dtL_law_5 37 rfl) hg h151 ?_
                        refine WPe_ck fun h152 => ?_
                        refine WPe_callV (pc := 528) (rtc := rtI) (Mc := mX6_told) (d' := 5) (mc' := 0) (ms' := 0) [vI (xs ((v.2.2 + (1 : Int32))).toNatClampNeg), vI (xs ((v.2.2 + (2 : Int32))).toNatClampNeg)] [vI z147.1] rfl (dd dtL_law_5 38 rfl) (okf6_told v.2.1 (xs ((v.2.2 + (1 : Int32))).toNatClampNeg) (xs ((v.2.2 + (2 : Int32))).toNatClampNeg) z147.2) moX6_told miX6_told (bw_mem4 216 rfl rfl) (Or.inl ⟨_, _, _, _, (shE h152), rfl⟩) rfl (Nat.le_of_ble_eq_true rfl) ⟨(Nat.le_of_ble_eq_true rfl), (Nat.le_of_ble_eq_true rfl)⟩ ⟨by show c + 0 + 0 ≤ 1606; omega, by show s + 0 + 0 ≤ 108616; omega⟩ (fun z153 h154 e155 => ?_)
                        refine WPe_st (st2 := [vI z153.1, vI z147.1]) rfl ?_
                        refine WPe_icmp_eq (pc := 531) 1505 (dd dtL_law_5 39 rfl) (by decide) (fun h156 => ?_) (fun h156 => ?_)
                        · refine WPe_sub [0, 1, 2, 3] rfl ?_
                          exact wpjL_law_1505 X w0 L xs hg n k18 hk18 _ _ (by omega) (by omega) _ _ _ _
                        · refine WPe_iconst (pc := 534) (0 : Int32) (dd dtL_law_5 40 rfl) (by decide) ?_
                          exact WPe_zreturn (pc := 535) (ty := .boolean) (dd dtL_law_5 41 rfl) rfl rfl rfl ⟨by show c + 0 + 0 + 0 ≤ 1606; omega, by show s + 0 + 0 + 0 ≤ 108616; omega⟩
                      · refine WPe_ite (fun h157 => ?_) (fun h157 => ?_)
                        · refine WPe_tabIn (pc := 33) (10 : Int32) 536 (dd dtL_law_0 21 rfl) h157 (by decide) (by decide) rfl (by decide) ?_
                          refine WPe_aload_n (pc := 536) 1 (dd dtL_law_5 42 rfl) rfl ?_
                          refine WPe_aload_n (pc := 537) 0 (dd dtL_law_5 43 rfl) rfl ?_
                          refine WPe_iload_n (pc := 538) 3 (dd dtL_law_5 44 rfl) rfl ?_
                          refine WPe_iconst (pc := 539) (1 : Int32) (dd dtL_law_5 45 rfl) (by decide) ?_
                          refine WPe_iadd (pc := 540) (dd dtL_law_5 46 rfl) ?_
                          refine WPe_ck fun h158 => ?_
                          refine WPe_sld2 (pc := 541) (dd dtL_law_5 47 rfl) hg h158 ?_
                          refine WPe_ck fun h159 => ?_
                          refine WPe_callV (pc := 542) (rtc := rtI) (Mc := mX5_pour) (d' := 2) (mc' := 0) (ms' := 0) [vI (xs ((v.2.2 + (1 : Int32))).toNatClampNeg)] [] rfl (dd dtL_law_5 48 rfl) (okf5_pour v.1 (xs ((v.2.2 + (1 : Int32))).toNatClampNeg) w) moX5_pour miX5_pour (bw_mem3 6 rfl rfl) (Or.inl ⟨_, _, _, _, (shE h159), rfl⟩) rfl (Nat.le_of_ble_eq_true rfl) ⟨(Nat.le_of_ble_eq_true rfl), (Nat.le_of_ble_eq_true rfl)⟩ ⟨by show c + 0 ≤ 1606; omega, by show s + 0 ≤ 108616; omega⟩ (fun z160 h161 e162 => ?_)
                          refine WPe_st (st2 := [vI z160.1]) rfl ?_
                          refine WPe_aload_n (pc := 545) 2 (dd dtL_law_5 49 rfl) rfl ?_
                          refine WPe_aload_n (pc := 546) 0 (dd dtL_law_6 0 rfl) rfl ?_
                          refine WPe_iload_n (pc := 547) 3 (dd dtL_law_6 1 rfl) rfl ?_
                          refine WPe_iconst (pc := 548) (1 : Int32) (dd dtL_law_6 2 rfl) (by decide) ?_
                          refine WPe_iadd (pc := 549) (dd dtL_law_6 3 rfl) ?_
                          refine WPe_ck fun h163 => ?_
                          refine WPe_sld2 (pc := 550) (dd dtL_law_6 4 rfl) hg h163 ?_
                          refine WPe_ck fun h164 => ?_
                          refine WPe_callV (pc := 551) (rtc := rtI) (Mc := mX6_pour) (d' := 3) (mc' := 0) (ms' := 0) [vI (xs ((v.2.2 + (1 : Int32))).toNatClampNeg)] [vI z160.1] rfl (dd dtL_law_6 5 rfl) (okf6_pour v.2.1 (xs ((v.2.2 + (1 : Int32))).toNatClampNeg) z160.2) moX6_pour miX6_pour (bw_mem4 232 rfl rfl) (Or.inl ⟨_, _, _, _, (shE h164), rfl⟩) rfl (Nat.le_of_ble_eq_true rfl) ⟨(Nat.le_of_ble_eq_true rfl), (Nat.le_of_ble_eq_true rfl)⟩ ⟨by show c + 0 + 0 ≤ 1606; omega, by show s + 0 + 0 ≤ 108616; omega⟩ (fun z165 h166 e167 => ?_)
                          refine WPe_st (st2 := [vI z165.1, vI z160.1]) rfl ?_
                          refine WPe_icmp_eq (pc := 554) 1505 (dd dtL_law_6 6 rfl) (by decide) (fun h168 => ?_) (fun h168 => ?_)
                          · refine WPe_sub [0, 1, 2, 3] rfl ?_
                            exact wpjL_law_1505 X w0 L xs hg n k18 hk18 _ _ (by omega) (by omega) _ _ _ _
                          · refine WPe_iconst (pc := 557) (0 : Int32) (dd dtL_law_6 7 rfl) (by decide) ?_
                            exact WPe_zreturn (pc := 558) (ty := .boolean) (dd dtL_law_6 8 rfl) rfl rfl rfl ⟨by show c + 0 + 0 + 0 ≤ 1606; omega, by show s + 0 + 0 + 0 ≤ 108616; omega⟩
                        · refine WPe_ite (fun h169 => ?_) (fun h169 => ?_)
                          · refine WPe_tabIn (pc := 33) (11 : Int32) 559 (dd dtL_law_0 21 rfl) h169 (by decide) (by decide) rfl (by decide) ?_
                            refine WPe_aload_n (pc := 559) 1 (dd dtL_law_6 9 rfl) rfl ?_
                            refine WPe_ck fun h170 => ?_
                            refine WPe_callV (pc := 560) (rtc := rtI) (Mc := mX5_stoke) (d' := 2) (mc' := 0) (ms' := 0) [] [] rfl (dd dtL_law_6 10 rfl) (okf5_stoke v.1 w) moX5_stoke miX5_stoke (bw_mem3 15 rfl rfl) (Or.inl ⟨_, _, _, _, (shE h170), rfl⟩) rfl (Nat.le_of_ble_eq_true rfl) ⟨(Nat.le_of_ble_eq_true rfl), (Nat.le_of_ble_eq_true rfl)⟩ ⟨by show c + 0 ≤ 1606; omega, by show s + 0 ≤ 108616; omega⟩ (fun z171 h172 e173 => ?_)
                            refine WPe_st (st2 := [vI z171.1]) rfl ?_
                            refine WPe_aload_n (pc := 563) 2 (dd dtL_law_6 11 rfl) rfl ?_
                            refine WPe_ck fun h174 => ?_
                            refine WPe_callV (pc := 564) (rtc := rtI) (Mc := mX6_stoke) (d' := 3) (mc' := 0) (ms' := 0) [] [vI z171.1] rfl (dd dtL_law_6 12 rfl) (okf6_stoke v.2.1 z171.2) moX6_stoke miX6_stoke (bw_mem5 0 rfl rfl) (Or.inl ⟨_, _, _, _, (shE h174), rfl⟩) rfl (Nat.le_of_ble_eq_true rfl) ⟨(Nat.le_of_ble_eq_true rfl), (Nat.le_of_ble_eq_true rfl)⟩ ⟨by show c + 0 + 0 ≤ 1606; omega, by show s + 0 + 0 ≤ 108616; omega⟩ (fun z175 h176 e177 => ?_)
                            refine WPe_st (st2 := [vI z175.1, vI z171.1]) rfl ?_
                            refine WPe_icmp_eq (pc := 567) 1505 (dd dtL_law_6 13 rfl) (by decide) (fun h178 => ?_) (fun h178 => ?_)
                            · refine WPe_sub [0, 1, 2, 3] rfl ?_
                              exact wpjL_law_1505 X w0 L xs hg n k18 hk18 _ _ (by omega) (by omega) _ _ _ _
                            · refine WPe_iconst (pc := 570) (0 : Int32) (dd dtL_law_6 14 rfl) (by decide) ?_
                              exact WPe_zreturn (pc := 571) (ty := .boolean) (dd dtL_law_6 15 rfl) rfl rfl rfl ⟨by show c + 0 + 0 + 0 ≤ 1606; omega, by show s + 0 + 0 + 0 ≤ 108616; omega⟩
                          · refine WPe_ite (fun h179 => ?_) (fun h179 => ?_)
                            · refine WPe_tabIn (pc := 33) (12 : Int32) 572 (dd dtL_law_0 21 rfl) h179 (by decide) (by decide) rfl (by decide) ?_
                              refine WPe_aload_n (pc := 572) 1 (dd dtL_law_6 16 rfl) rfl ?_
                              refine WPe_aload_n (pc := 573) 0 (dd dtL_law_6 17 rfl) rfl ?_
                              refine WPe_iload_n (pc := 574) 3 (dd dtL_law_6 18 rfl) rfl ?_
                              refine WPe_iconst (pc := 575) (1 : Int32) (dd dtL_law_6 19 rfl) (by decide) ?_
                              refine WPe_iadd (pc := 576) (dd dtL_law_6 20 rfl) ?_
                              refine WPe_ck fun h180 => ?_
                              refine WPe_sld2 (pc := 577) (dd dtL_law_6 21 rfl) hg h180 ?_
                              refine WPe_aload_n (pc := 578) 0 (dd dtL_law_6 22 rfl) rfl ?_
                              refine WPe_iload_n (pc := 579) 3 (dd dtL_law_6 23 rfl) rfl ?_
                              refine WPe_iconst (pc := 580) (2 : Int32) (dd dtL_law_6 24 rfl) (by decide) ?_
                              refine WPe_iadd (pc := 581) (dd dtL_law_6 25 rfl) ?_
                              refine WPe_ck fun h181 => ?_
                              refine WPe_sld2 (pc := 582) (dd dtL_law_6 26 rfl) hg h181 ?_
                              refine WPe_ck fun h182 => ?_
                              refine WPe_callV (pc := 583) (rtc := rtI) (Mc := mX5_door) (d' := 2) (mc' := 0) (ms' := 0) [vI (xs ((v.2.2 + (1 : Int32))).toNatClampNeg), vI (xs ((v.2.2 + (2 : Int32))).toNatClampNeg)] [] rfl (dd dtL_law_6 27 rfl) (okf5_door v.1 (xs ((v.2.2 + (1 : Int32))).toNatClampNeg) (xs ((v.2.2 + (2 : Int32))).toNatClampNeg) w) moX5_door miX5_door (bw_mem3 23 rfl rfl) (Or.inl ⟨_, _, _, _, (shE h182), rfl⟩) rfl (Nat.le_of_ble_eq_true rfl) ⟨(Nat.le_of_ble_eq_true rfl), (Nat.le_of_ble_eq_true rfl)⟩ ⟨by show c + 0 ≤ 1606; omega, by show s + 0 ≤ 108616; omega⟩ (fun z183 h184 e185 => ?_)
                              refine WPe_st (st2 := [vI z183.1]) rfl ?_
                              refine WPe_aload_n (pc := 586) 2 (dd dtL_law_6 28 rfl) rfl ?_
                              refine WPe_aload_n (pc := 587) 0 (dd dtL_law_6 29 rfl) rfl ?_
                              refine WPe_iload_n (pc := 588) 3 (dd dtL_law_6 30 rfl) rfl ?_
                              refine WPe_iconst (pc := 589) (1 : Int32) (dd dtL_law_6 31 rfl) (by decide) ?_
                              refine WPe_iadd (pc := 590) (dd dtL_law_6 32 rfl) ?_
                              refine WPe_ck fun h186 => ?_
                              refine WPe_sld2 (pc := 591) (dd dtL_law_6 33 rfl) hg h186 ?_
                              refine WPe_aload_n (pc := 592) 0 (dd dtL_law_6 34 rfl) rfl ?_
                              refine WPe_iload_n (pc := 593) 3 (dd dtL_law_6 35 rfl) rfl ?_
                              refine WPe_iconst (pc := 594) (2 : Int32) (dd dtL_law_6 36 rfl) (by decide) ?_
                              refine WPe_iadd (pc := 595) (dd dtL_law_6 37 rfl) ?_
                              refine WPe_ck fun h187 => ?_
                              refine WPe_sld2 (pc := 596) (dd dtL_law_6 38 rfl) hg h187 ?_
                              refine WPe_ck fun h188 => ?_
                              refine WPe_callV (pc := 597) (rtc := rtI) (Mc := mX6_door) (d' := 3) (mc' := 0) (ms' := 0) [vI (xs ((v.2.2 + (1 : Int32))).toNatClampNeg), vI (xs ((v.2.2 + (2 : Int32))).toNatClampNeg)] [vI z183.1] rfl (dd dtL_law_6 39 rfl) (okf6_door v.2.1 (xs ((v.2.2 + (1 : Int32))).toNatClampNeg) (xs ((v.2.2 + (2 : Int32))).toNatClampNeg) z183.2) moX6_door miX6_door (bw_mem5 8 rfl rfl) (Or.inl ⟨_, _, _, _, (shE h188), rfl⟩) rfl (Nat.le_of_ble_eq_true rfl) ⟨(Nat.le_of_ble_eq_true rfl), (Nat.le_of_ble_eq_true rfl)⟩ ⟨by show c + 0 + 0 ≤ 1606; omega, by show s + 0 + 0 ≤ 108616; omega⟩ (fun z189 h190 e191 => ?_)
                              refine WPe_st (st2 := [vI z189.1, vI z183.1]) rfl ?_
                              refine WPe_icmp_eq (pc := 600) 1505 (dd dtL_law_6 40 rfl) (by decide) (fun h192 => ?_) (fun h192 => ?_)
                              · refine WPe_sub [0, 1, 2, 3] rfl ?_
                                exact wpjL_law_1505 X w0 L xs hg n k18 hk18 _ _ (by omega) (by omega) _ _ _ _
                              · refine WPe_iconst (pc := 603) (0 : Int32) (dd dtL_law_6 41 rfl) (by decide) ?_
                                exact WPe_zreturn (pc := 604) (ty := .boolean) (dd dtL_law_6 42 rfl) rfl rfl rfl ⟨by show c + 0 + 0 + 0 ≤ 1606; omega, by show s + 0 + 0 + 0 ≤ 108616; omega⟩
                            · refine WPe_ite (fun h193 => ?_) (fun h193 => ?_)
                              · refine WPe_tabIn (pc := 33) (13 : Int32) 605 (dd dtL_law_0 21 rfl) h193 (by decide) (by decide) rfl (by decide) ?_
                                refine WPe_aload_n (pc := 605) 1 (dd dtL_law_6 43 rfl) rfl ?_
                                refine WPe_ck fun h194 => ?_
                                refine WPe_callV (pc := 606) (rtc := rtI) (Mc := mX5_minute) (d' := 6) (mc' := 0) (ms' := 0) [] [] rfl (dd dtL_law_6 44 rfl) (okf5_minute v.1 w) moX5_minute miX5_minute (bw_mem3 32 rfl rfl) (Or.inl ⟨_, _, _, _, (shE h194), rfl⟩) rfl (Nat.le_of_ble_eq_true rfl) ⟨(Nat.le_of_ble_eq_true rfl), (Nat.le_of_ble_eq_true rfl)⟩ ⟨by show c + 0 ≤ 1606; omega, by show s + 0 ≤ 108616; omega⟩ (fun z195 h196 e197 => ?_)
                                refine WPe_st (st2 := [vI z195.1]) rfl ?_
                                refine WPe_aload_n (pc := 609) 2 (dd dtL_law_6 45 rfl) rfl ?_
                                refine WPe_ck fun h198 => ?_
                                refine WPe_callV (pc := 610) (rtc := rtI) (Mc := mX6_minute) (d' := 7) (mc' := 0) (ms' := 0) [] [vI z195.1] rfl (dd dtL_law_6 46 rfl) (okf6_minute v.2.1 z195.2) moX6_minute miX6_minute (bw_mem5 16 rfl rfl) (Or.inl ⟨_, _, _, _, (shE h198), rfl⟩) rfl (Nat.le_of_ble_eq_true rfl) ⟨(Nat.le_of_ble_eq_true rfl), (Nat.le_of_ble_eq_true rfl)⟩ ⟨by show c + 0 + 0 ≤ 1606; omega, by show s + 0 + 0 ≤ 108616; omega⟩ (fun z199 h200 e201 => ?_)
                                refine WPe_st (st2 := [vI z199.1, vI z195.1]) rfl ?_
                                refine WPe_icmp_eq (pc := 613) 1505 (dd dtL_law_6 47 rfl) (by decide) (fun h202 => ?_) (fun h202 => ?_)
                                · refine WPe_sub [0, 1, 2, 3] rfl ?_
                                  exact wpjL_law_1505 X w0 L xs hg n k18 hk18 _ _ (by omega) (by omega) _ _ _ _
                                · refine WPe_iconst (pc := 616) (0 : Int32) (dd dtL_law_6 48 rfl) (by decide) ?_
                                  exact WPe_zreturn (pc := 617) (ty := .boolean) (dd dtL_law_6 49 rfl) rfl rfl rfl ⟨by show c + 0 + 0 + 0 ≤ 1606; omega, by show s + 0 + 0 + 0 ≤ 108616; omega⟩
                              · refine WPe_ite (fun h203 => ?_) (fun h203 => ?_)
                                · refine WPe_tabIn (pc := 33) (14 : Int32) 618 (dd dtL_law_0 21 rfl) h203 (by decide) (by decide) rfl (by decide) ?_
                                  refine WPe_aload_n (pc := 618) 1 (dd dtL_law_7 0 rfl) rfl ?_
                                  refine WPe_aload_n (pc := 619) 0 (dd dtL_law_7 1 rfl) rfl ?_
                                  refine WPe_iload_n (pc := 620) 3 (dd dtL_law_7 2 rfl) rfl ?_
                                  refine WPe_iconst (pc := 621) (1 : Int32) (dd dtL_law_7 3 rfl) (by decide) ?_
                                  refine WPe_iadd (pc := 622) (dd dtL_law_7 4 rfl) ?_
                                  refine WPe_ck fun h204 => ?_
                                  refine WPe_sld2 (pc := 623) (dd dtL_law_7 5 rfl) hg h204 ?_
                                  refine WPe_aload_n (pc := 624) 0 (dd dtL_law_7 6 rfl) rfl ?_
                                  refine WPe_iload_n (pc := 625) 3 (dd dtL_law_7 7 rfl) rfl ?_
                                  refine WPe_iconst (pc := 626) (2 : Int32) (dd dtL_law_7 8 rfl) (by decide) ?_
                                  refine WPe_iadd (pc := 627) (dd dtL_law_7 9 rfl) ?_
                                  refine WPe_ck fun h205 => ?_
                                  refine WPe_sld2 (pc := 628) (dd dtL_law_7 10 rfl) hg h205 ?_
                                  refine WPe_ck fun h206 => ?_
                                  refine WPe_callV (pc := 629) (rtc := rtI) (Mc := mX5_run) (d' := 7) (mc' := 0) (ms' := 0) [vI (xs ((v.2.2 + (1 : Int32))).toNatClampNeg), vI (xs ((v.2.2 + (2 : Int32))).toNatClampNeg)] [] rfl (dd dtL_law_7 11 rfl) (okf5_run v.1 (xs ((v.2.2 + (1 : Int32))).toNatClampNeg) (xs ((v.2.2 + (2 : Int32))).toNatClampNeg) w) moX5_run miX5_run (bw_mem3 49 rfl rfl) (Or.inl ⟨_, _, _, _, (shE h206), rfl⟩) rfl (Nat.le_of_ble_eq_true rfl) ⟨(Nat.le_of_ble_eq_true rfl), (Nat.le_of_ble_eq_true rfl)⟩ ⟨by show c + 0 ≤ 1606; omega, by show s + 0 ≤ 108616; omega⟩ (fun z207 h208 e209 => ?_)
                                  refine WPe_st (st2 := [vI z207.1]) rfl ?_
                                  refine WPe_aload_n (pc := 632) 2 (dd dtL_law_7 12 rfl) rfl ?_
                                  refine WPe_aload_n (pc := 633) 0 (dd dtL_law_7 13 rfl) rfl ?_
                                  refine WPe_iload_n (pc := 634) 3 (dd dtL_law_7 14 rfl) rfl ?_
                                  refine WPe_iconst (pc := 635) (1 : Int32) (dd dtL_law_7 15 rfl) (by decide) ?_
                                  refine WPe_iadd (pc := 636) (dd dtL_law_7 16 rfl) ?_
                                  refine WPe_ck fun h210 => ?_
                                  refine WPe_sld2 (pc := 637) (dd dtL_law_7 17 rfl) hg h210 ?_
                                  refine WPe_aload_n (pc := 638) 0 (dd dtL_law_7 18 rfl) rfl ?_
                                  refine WPe_iload_n (pc := 639) 3 (dd dtL_law_7 19 rfl) rfl ?_
                                  refine WPe_iconst (pc := 640) (2 : Int32) (dd dtL_law_7 20 rfl) (by decide) ?_
                                  refine WPe_iadd (pc := 641) (dd dtL_law_7 21 rfl) ?_
                                  refine WPe_ck fun h211 => ?_
                                  refine WPe_sld2 (pc := 642) (dd dtL_law_7 22 rfl) hg h211 ?_
                                  refine WPe_ck fun h212 => ?_
                                  refine WPe_callV (pc := 643) (rtc := rtI) (Mc := mX6_run) (d' := 8) (mc' := 0) (ms' := 0) [vI (xs ((v.2.2 + (1 : Int32))).toNatClampNeg), vI (xs ((v.2.2 + (2 : Int32))).toNatClampNeg)] [vI z207.1] rfl (dd dtL_law_7 23 rfl) (okf6_run v.2.1 (xs ((v.2.2 + (1 : Int32))).toNatClampNeg) (xs ((v.2.2 + (2 : Int32))).toNatClampNeg) z207.2) moX6_run miX6_run (bw_mem5 28 rfl rfl) (Or.inl ⟨_, _, _, _, (shE h212), rfl⟩) rfl (Nat.le_of_ble_eq_true rfl) ⟨(Nat.le_of_ble_eq_true rfl), (Nat.le_of_ble_eq_true rfl)⟩ ⟨by show c + 0 + 0 ≤ 1606; omega, by show s + 0 + 0 ≤ 108616; omega⟩ (fun z213 h214 e215 => ?_)
                                  refine WPe_st (st2 := [vI z213.1, vI z207.1]) rfl ?_
                                  refine WPe_icmp_eq (pc := 646) 1505 (dd dtL_law_7 24 rfl) (by decide) (fun h216 => ?_) (fun h216 => ?_)
                                  · refine WPe_sub [0, 1, 2, 3] rfl ?_
                                    exact wpjL_law_1505 X w0 L xs hg n k18 hk18 _ _ (by omega) (by omega) _ _ _ _
                                  · refine WPe_iconst (pc := 649) (0 : Int32) (dd dtL_law_7 25 rfl) (by decide) ?_
                                    exact WPe_zreturn (pc := 650) (ty := .boolean) (dd dtL_law_7 26 rfl) rfl rfl rfl ⟨by show c + 0 + 0 + 0 ≤ 1606; omega, by show s + 0 + 0 + 0 ≤ 108616; omega⟩
                                · refine WPe_ite (fun h217 => ?_) (fun h217 => ?_)
                                  · refine WPe_tabIn (pc := 33) (15 : Int32) 651 (dd dtL_law_0 21 rfl) h217 (by decide) (by decide) rfl (by decide) ?_
                                    refine WPe_aload_n (pc := 651) 1 (dd dtL_law_7 27 rfl) rfl ?_
                                    refine WPe_aload_n (pc := 652) 0 (dd dtL_law_7 28 rfl) rfl ?_
                                    refine WPe_iload_n (pc := 653) 3 (dd dtL_law_7 29 rfl) rfl ?_
                                    refine WPe_iconst (pc := 654) (1 : Int32) (dd dtL_law_7 30 rfl) (by decide) ?_
                                    refine WPe_iadd (pc := 655) (dd dtL_law_7 31 rfl) ?_
                                    refine WPe_ck fun h218 => ?_
                                    refine WPe_sld2 (pc := 656) (dd dtL_law_7 32 rfl) hg h218 ?_
                                    refine WPe_ck fun h219 => ?_
                                    refine WPe_callV (pc := 657) (rtc := rtI) (Mc := mX5_leaves) (d' := 7) (mc' := 0) (ms' := 0) [vI (xs ((v.2.2 + (1 : Int32))).toNatClampNeg)] [] rfl (dd dtL_law_7 33 rfl) (okf5_leaves v.1 (xs ((v.2.2 + (1 : Int32))).toNatClampNeg) w) moX5_leaves miX5_leaves (bw_mem3 73 rfl rfl) (Or.inl ⟨_, _, _, _, (shE h219), rfl⟩) rfl (Nat.le_of_ble_eq_true rfl) ⟨(Nat.le_of_ble_eq_true rfl), (Nat.le_of_ble_eq_true rfl)⟩ ⟨by show c + 0 ≤ 1606; omega, by show s + 0 ≤ 108616; omega⟩ (fun z220 h221 e222 => ?_)
                                    refine WPe_st (st2 := [vI z220.1]) rfl ?_
                                    refine WPe_aload_n (pc := 660) 2 (dd dtL_law_7 34 rfl) rfl ?_
                                    refine WPe_aload_n (pc := 661) 0 (dd dtL_law_7 35 rfl) rfl ?_
                                    refine WPe_iload_n (pc := 662) 3 (dd dtL_law_7 36 rfl) rfl ?_
                                    refine WPe_iconst (pc := 663) (1 : Int32) (dd dtL_law_7 37 rfl) (by decide) ?_
                                    refine WPe_iadd (pc := 664) (dd dtL_law_7 38 rfl) ?_
                                    refine WPe_ck fun h223 => ?_
                                    refine WPe_sld2 (pc := 665) (dd dtL_law_7 39 rfl) hg h223 ?_
                                    refine WPe_ck fun h224 => ?_
                                    refine WPe_callV (pc := 666) (rtc := rtI) (Mc := mX6_leaves) (d' := 8) (mc' := 0) (ms' := 0) [vI (xs ((v.2.2 + (1 : Int32))).toNatClampNeg)] [vI z220.1] rfl (dd dtL_law_7 40 rfl) (okf6_leaves v.2.1 (xs ((v.2.2 + (1 : Int32))).toNatClampNeg) z220.2) moX6_leaves miX6_leaves (bw_mem5 52 rfl rfl) (Or.inl ⟨_, _, _, _, (shE h224), rfl⟩) rfl (Nat.le_of_ble_eq_true rfl) ⟨(Nat.le_of_ble_eq_true rfl), (Nat.le_of_ble_eq_true rfl)⟩ ⟨by show c + 0 + 0 ≤ 1606; omega, by show s + 0 + 0 ≤ 108616; omega⟩ (fun z225 h226 e227 => ?_)
                                    refine WPe_st (st2 := [vI z225.1, vI z220.1]) rfl ?_
                                    refine WPe_icmp_eq (pc := 669) 1505 (dd dtL_law_7 41 rfl) (by decide) (fun h228 => ?_) (fun h228 => ?_)
                                    · refine WPe_sub [0, 1, 2, 3] rfl ?_
                                      exact wpjL_law_1505 X w0 L xs hg n k18 hk18 _ _ (by omega) (by omega) _ _ _ _
                                    · refine WPe_iconst (pc := 672) (0 : Int32) (dd dtL_law_7 42 rfl) (by decide) ?_
                                      exact WPe_zreturn (pc := 673) (ty := .boolean) (dd dtL_law_7 43 rfl) rfl rfl rfl ⟨by show c + 0 + 0 + 0 ≤ 1606; omega, by show s + 0 + 0 + 0 ≤ 108616; omega⟩
                                  · refine WPe_ite (fun h229 => ?_) (fun h229 => ?_)
                                    · refine WPe_tabIn (pc := 33) (16 : Int32) 674 (dd dtL_law_0 21 rfl) h229 (by decide) (by decide) rfl (by decide) ?_
                                      refine WPe_aload_n (pc := 674) 1 (dd dtL_law_7 44 rfl) rfl ?_
                                      refine WPe_ck fun h230 => ?_
                                      refine WPe_callV (pc := 675) (rtc := rtI) (Mc := mX5_together) (d' := 6) (mc' := 0) (ms' := 0) [] [] rfl (dd dtL_law_7 45 rfl) (okf5_together v.1 w) moX5_together miX5_together (bw_mem3 81 rfl rfl) (Or.inl ⟨_, _, _, _, (shE h230), rfl⟩) rfl (Nat.le_of_ble_eq_true rfl) ⟨(Nat.le_of_ble_eq_true rfl), (Nat.le_of_ble_eq_true rfl)⟩ ⟨by show c + 0 ≤ 1606; omega, by show s + 0 ≤ 108616; omega⟩ (fun z231 h232 e233 => ?_)
                                      refine WPe_st (st2 := [vI z231.1]) rfl ?_
                                      refine WPe_aload_n (pc := 678) 2 (dd dtL_law_7 46 rfl) rfl ?_
                                      refine WPe_ck fun h234 => ?_
                                      refine WPe_callV (pc := 679) (rtc := rtI) (Mc := mX6_together) (d' := 7) (mc' := 0) (ms' := 0) [] [vI z231.1] rfl (dd dtL_law_7 47 rfl) (okf6_together v.2.1 z231.2) moX6_together miX6_together (bw_mem5 60 rfl rfl) (Or.inl ⟨_, _, _, _, (shE h234), rfl⟩) rfl (Nat.le_of_ble_eq_true rfl) ⟨(Nat.le_of_ble_eq_true rfl), (Nat.le_of_ble_eq_true rfl)⟩ ⟨by show c + 0 + 0 ≤ 1606; omega, by show s + 0 + 0 ≤ 108616; omega⟩ (fun z235 h236 e237 => ?_)
                                      refine WPe_st (st2 := [vI z235.1, vI z231.1]) rfl ?_
                                      refine WPe_icmp_eq (pc := 682) 1505 (dd dtL_law_7 48 rfl) (by decide) (fun h238 => ?_) (fun h238 => ?_)
                                      · refine WPe_sub [0, 1, 2, 3] rfl ?_
                                        exact wpjL_law_1505 X w0 L xs hg n k18 hk18 _ _ (by omega) (by omega) _ _ _ _
                                      · refine WPe_iconst (pc := 685) (0 : Int32) (dd dtL_law_7 49 rfl) (by decide) ?_
                                        exact WPe_zreturn (pc := 686) (ty := .boolean) (dd dtL_law_8 0 rfl) rfl rfl rfl ⟨by show c + 0 + 0 + 0 ≤ 1606; omega, by show s + 0 + 0 + 0 ≤ 108616; omega⟩
                                    · refine WPe_ite (fun h239 => ?_) (fun h239 => ?_)
                                      · refine WPe_tabIn (pc := 33) (17 : Int32) 687 (dd dtL_law_0 21 rfl) h239 (by decide) (by decide) rfl (by decide) ?_
                                        refine WPe_aload_n (pc := 687) 1 (dd dtL_law_8 1 rfl) rfl ?_
                                        refine WPe_aload_n (pc := 688) 0 (dd dtL_law_8 2 rfl) rfl ?_
                                        refine WPe_iload_n (pc := 689) 3 (dd dtL_law_8 3 rfl) rfl ?_
                                        refine WPe_iconst (pc := 690) (1 : Int32) (dd dtL_law_8 4 rfl) (by decide) ?_
                                        refine WPe_iadd (pc := 691) (dd dtL_law_8 5 rfl) ?_
                                        refine WPe_ck fun h240 => ?_
                                        refine WPe_sld2 (pc := 692) (dd dtL_law_8 6 rfl) hg h240 ?_
                                        refine WPe_aload_n (pc := 693) 0 (dd dtL_law_8 7 rfl) rfl ?_
                                        refine WPe_iload_n (pc := 694) 3 (dd dtL_law_8 8 rfl) rfl ?_
                                        refine WPe_iconst (pc := 695) (2 : Int32) (dd dtL_law_8 9 rfl) (by decide) ?_
                                        refine WPe_iadd (pc := 696) (dd dtL_law_8 10 rfl) ?_
                                        refine WPe_ck fun h241 => ?_
                                        refine WPe_sld2 (pc := 697) (dd dtL_law_8 11 rfl) hg h241 ?_
                                        refine WPe_ck fun h242 => ?_
                                        refine WPe_callV (pc := 698) (rtc := rtI) (Mc := mX5_when) (d' := 7) (mc' := 0) (ms' := 0) [vI (xs ((v.2.2 + (1 : Int32))).toNatClampNeg), vI (xs ((v.2.2 + (2 : Int32))).toNatClampNeg)] [] rfl (dd dtL_law_8 12 rfl) (okf5_when v.1 (xs ((v.2.2 + (1 : Int32))).toNatClampNeg) (xs ((v.2.2 + (2 : Int32))).toNatClampNeg) w) moX5_when miX5_when (bw_mem3 85 rfl rfl) (Or.inl ⟨_, _, _, _, (shE h242), rfl⟩) rfl (Nat.le_of_ble_eq_true rfl) ⟨(Nat.le_of_ble_eq_true rfl), (Nat.le_of_ble_eq_true rfl)⟩ ⟨by show c + 0 ≤ 1606; omega, by show s + 0 ≤ 108616; omega⟩ (fun z243 h244 e245 => ?_)
                                        refine WPe_st (st2 := [vI z243.1]) rfl ?_
                                        refine WPe_aload_n (pc := 701) 2 (dd dtL_law_8 13 rfl) rfl ?_
                                        refine WPe_aload_n (pc := 702) 0 (dd dtL_law_8 14 rfl) rfl ?_
                                        refine WPe_iload_n (pc := 703) 3 (dd dtL_law_8 15 rfl) rfl ?_
                                        refine WPe_iconst (pc := 704) (1 : Int32) (dd dtL_law_8 16 rfl) (by decide) ?_
                                        refine WPe_iadd (pc := 705) (dd dtL_law_8 17 rfl) ?_
                                        refine WPe_ck fun h246 => ?_
                                        refine WPe_sld2 (pc := 706) (dd dtL_law_8 18 rfl) hg h246 ?_
                                        refine WPe_aload_n (pc := 707) 0 (dd dtL_law_8 19 rfl) rfl ?_
                                        refine WPe_iload_n (pc := 708) 3 (dd dtL_law_8 20 rfl) rfl ?_
                                        refine WPe_iconst (pc := 709) (2 : Int32) (dd dtL_law_8 21 rfl) (by decide) ?_
                                        refine WPe_iadd (pc := 710) (dd dtL_law_8 22 rfl) ?_
                                        refine WPe_ck fun h247 => ?_
                                        refine WPe_sld2 (pc := 711) (dd dtL_law_8 23 rfl) hg h247 ?_
                                        refine WPe_ck fun h248 => ?_
                                        refine WPe_callV (pc := 712) (rtc := rtI) (Mc := mX6_when) (d' := 7) (mc' := 0) (ms' := 0) [vI (xs ((v.2.2 + (1 : Int32))).toNatClampNeg), vI (xs ((v.2.2 + (2 : Int32))).toNatClampNeg)] [vI z243.1] rfl (dd dtL_law_8 24 rfl) (okf6_when v.2.1 (xs ((v.2.2 + (1 : Int32))).toNatClampNeg) (xs ((v.2.2 + (2 : Int32))).toNatClampNeg) z243.2) moX6_when miX6_when (bw_mem5 64 rfl rfl) (Or.inl ⟨_, _, _, _, (shE h248), rfl⟩) rfl (Nat.le_of_ble_eq_true rfl) ⟨(Nat.le_of_ble_eq_true rfl), (Nat.le_of_ble_eq_true rfl)⟩ ⟨by show c + 0 + 0 ≤ 1606; omega, by show s + 0 + 0 ≤ 108616; omega⟩ (fun z249 h250 e251 => ?_)
                                        refine WPe_st (st2 := [vI z249.1, vI z243.1]) rfl ?_
                                        refine WPe_icmp_eq (pc := 715) 1505 (dd dtL_law_8 25 rfl) (by decide) (fun h252 => ?_) (fun h252 => ?_)
                                        · refine WPe_sub [0, 1, 2, 3] rfl ?_
                                          exact wpjL_law_1505 X w0 L xs hg n k18 hk18 _ _ (by omega) (by omega) _ _ _ _
                                        · refine WPe_iconst (pc := 718) (0 : Int32) (dd dtL_law_8 26 rfl) (by decide) ?_
                                          exact WPe_zreturn (pc := 719) (ty := .boolean) (dd dtL_law_8 27 rfl) rfl rfl rfl ⟨by show c + 0 + 0 + 0 ≤ 1606; omega, by show s + 0 + 0 + 0 ≤ 108616; omega⟩
                                      · refine WPe_ite (fun h253 => ?_) (fun h253 => ?_)
                                        · refine WPe_tabIn (pc := 33) (18 : Int32) 720 (dd dtL_law_0 21 rfl) h253 (by decide) (by decide) rfl (by decide) ?_
                                          refine WPe_aload_n (pc := 720) 1 (dd dtL_law_8 28 rfl) rfl ?_
                                          refine WPe_aload_n (pc := 721) 0 (dd dtL_law_8 29 rfl) rfl ?_
                                          refine WPe_iload_n (pc := 722) 3 (dd dtL_law_8 30 rfl) rfl ?_
                                          refine WPe_iconst (pc := 723) (1 : Int32) (dd dtL_law_8 31 rfl) (by decide) ?_
                                          refine WPe_iadd (pc := 724) (dd dtL_law_8 32 rfl) ?_
                                          refine WPe_ck fun h254 => ?_
                                          refine WPe_sld2 (pc := 725) (dd dtL_law_8 33 rfl) hg h254 ?_
                                          refine WPe_aload_n (pc := 726) 0 (dd dtL_law_8 34 rfl) rfl ?_
                                          refine WPe_iload_n (pc := 727) 3 (dd dtL_law_8 35 rfl) rfl ?_
                                          refine WPe_iconst (pc := 728) (2 : Int32) (dd dtL_law_8 36 rfl) (by decide) ?_
                                          refine WPe_iadd (pc := 729) (dd dtL_law_8 37 rfl) ?_
                                          refine WPe_ck fun h255 => ?_
                                          refine WPe_sld2 (pc := 730) (dd dtL_law_8 38 rfl) hg h255 ?_
                                          refine WPe_ck fun h256 => ?_
                                          refine WPe_callV (pc := 731) (rtc := rtI) (Mc := mX5_benches) (d' := 7) (mc' := 0) (ms' := 0) [vI (xs ((v.2.2 + (1 : Int32))).toNatClampNeg), vI (xs ((v.2.2 + (2 : Int32))).toNatClampNeg)] [] rfl (dd dtL_law_8 39 rfl) (okf5_benches v.1 (xs ((v.2.2 + (1 : Int32))).toNatClampNeg) (xs ((v.2.2 + (2 : Int32))).toNatClampNeg) w) moX5_benches miX5_benches (bw_mem3 93 rfl rfl) (Or.inl ⟨_, _, _, _, (shE h256), rfl⟩) rfl (Nat.le_of_ble_eq_true rfl) ⟨(Nat.le_of_ble_eq_true rfl), (Nat.le_of_ble_eq_true rfl)⟩ ⟨by show c + 0 ≤ 1606; omega, by show s + 0 ≤ 108616; omega⟩ (fun z257 h258 e259 => ?_)
                                          refine WPe_st (st2 := [vI z257.1]) rfl ?_
                                          refine WPe_aload_n (pc := 734) 2 (dd dtL_law_8 40 rfl) rfl ?_
                                          refine WPe_aload_n (pc := 735) 0 (dd dtL_law_8 41 rfl) rfl ?_
                                          refine WPe_iload_n (pc := 736) 3 (dd dtL_law_8 42 rfl) rfl ?_
                                          refine WPe_iconst (pc := 737) (1 : Int32) (dd dtL_law_8 43 rfl) (by decide) ?_
                                          refine WPe_iadd (pc := 738) (dd dtL_law_8 44 rfl) ?_
                                          refine WPe_ck fun h260 => ?_
                                          refine WPe_sld2 (pc := 739) (dd dtL_law_8 45 rfl) hg h260 ?_
                                          refine WPe_aload_n (pc := 740) 0 (dd dtL_law_8 46 rfl) rfl ?_
                                          refine WPe_iload_n (pc := 741) 3 (dd dtL_law_8 47 rfl) rfl ?_
                                          refine WPe_iconst (pc := 742) (2 : Int32) (dd dtL_law_8 48 rfl) (by decide) ?_
                                          refine WPe_iadd (pc := 743) (dd dtL_law_8 49 rfl) ?_
                                          refine WPe_ck fun h261 => ?_
                                          refine WPe_sld2 (pc := 744) (dd dtL_law_9 0 rfl) hg h261 ?_
                                          refine WPe_ck fun h262 => ?_
                                          refine WPe_callV (pc := 745) (rtc := rtI) (Mc := mX6_benches) (d' := 8) (mc' := 0) (ms' := 0) [vI (xs ((v.2.2 + (1 : Int32))).toNatClampNeg), vI (xs ((v.2.2 + (2 : Int32))).toNatClampNeg)] [vI z257.1] rfl (dd dtL_law_9 1 rfl) (okf6_benches v.2.1 (xs ((v.2.2 + (1 : Int32))).toNatClampNeg) (xs ((v.2.2 + (2 : Int32))).toNatClampNeg) z257.2) moX6_benches miX6_benches (bw_mem5 68 rfl rfl) (Or.inl ⟨_, _, _, _, (shE h262), rfl⟩) rfl (Nat.le_of_ble_eq_true rfl) ⟨(Nat.le_of_ble_eq_true rfl), (Nat.le_of_ble_eq_true rfl)⟩ ⟨by show c + 0 + 0 ≤ 1606; omega, by show s + 0 + 0 ≤ 108616; omega⟩ (fun z263 h264 e265 => ?_)
                                          refine WPe_st (st2 := [vI z263.1, vI z257.1]) rfl ?_
                                          refine WPe_icmp_eq (pc := 748) 1505 (dd dtL_law_9 2 rfl) (by decide) (fun h266 => ?_) (fun h266 => ?_)
                                          · refine WPe_sub [0, 1, 2, 3] rfl ?_
                                            exact wpjL_law_1505 X w0 L xs hg n k18 hk18 _ _ (by omega) (by omega) _ _ _ _
                                          · refine WPe_iconst (pc := 751) (0 : Int32) (dd dtL_law_9 3 rfl) (by decide) ?_
                                            exact WPe_zreturn (pc := 752) (ty := .boolean) (dd dtL_law_9 4 rfl) rfl rfl rfl ⟨by show c + 0 + 0 + 0 ≤ 1606; omega, by show s + 0 + 0 + 0 ≤ 108616; omega⟩
                                        · refine WPe_ite (fun h267 => ?_) (fun h267 => ?_)
                                          · refine WPe_tabIn (pc := 33) (19 : Int32) 753 (dd dtL_law_0 21 rfl) h267 (by decide) (by decide) rfl (by decide) ?_
                                            refine WPe_aload_n (pc := 753) 1 (dd dtL_law_9 5 rfl) rfl ?_
                                            refine WPe_aload_n (pc := 754) 0 (dd dtL_law_9 6 rfl) rfl ?_
                                            refine WPe_iload_n (pc := 755) 3 (dd dtL_law_9 7 rfl) rfl ?_
                                            refine WPe_iconst (pc := 756) (1 : Int32) (dd dtL_law_9 8 rfl) (by decide) ?_
                                            refine WPe_iadd (pc := 757) (dd dtL_law_9 9 rfl) ?_
                                            refine WPe_ck fun h268 => ?_
                                            refine WPe_sld2 (pc := 758) (dd dtL_law_9 10 rfl) hg h268 ?_
                                            refine WPe_aload_n (pc := 759) 0 (dd dtL_law_9 11 rfl) rfl ?_
                                            refine WPe_iload_n (pc := 760) 3 (dd dtL_law_9 12 rfl) rfl ?_
                                            refine WPe_iconst (pc := 761) (2 : Int32) (dd dtL_law_9 13 rfl) (by decide) ?_
                                            refine WPe_iadd (pc := 762) (dd dtL_law_9 14 rfl) ?_
                                            refine WPe_ck fun h269 => ?_
                                            refine WPe_sld2 (pc := 763) (dd dtL_law_9 15 rfl) hg h269 ?_
                                            refine WPe_ck fun h270 => ?_
                                            refine WPe_callV (pc := 764) (rtc := rtI) (Mc := mX5_swap) (d' := 7) (mc' := 0) (ms' := 0) [vI (xs ((v.2.2 + (1 : Int32))).toNatClampNeg), vI (xs ((v.2.2 + (2 : Int32))).toNatClampNeg)] [] rfl (dd dtL_law_9 16 rfl) (okf5_swap v.1 (xs ((v.2.2 + (1 : Int32))).toNatClampNeg) (xs ((v.2.2 + (2 : Int32))).toNatClampNeg) w) moX5_swap miX5_swap (bw_mem3 101 rfl rfl) (Or.inl ⟨_, _, _, _, (shE h270), rfl⟩) rfl (Nat.le_of_ble_eq_true rfl) ⟨(Nat.le_of_ble_eq_true rfl), (Nat.le_of_ble_eq_true rfl)⟩ ⟨by show c + 0 ≤ 1606; omega, by show s + 0 ≤ 108616; omega⟩ (fun z271 h272 e273 => ?_)
                                            refine WPe_st (st2 := [vI z271.1]) rfl ?_
                                            refine WPe_aload_n (pc := 767) 2 (dd dtL_law_9 17 rfl) rfl ?_
                                            refine WPe_aload_n (pc := 768) 0 (dd dtL_law_9 18 rfl) rfl ?_
                                            refine WPe_iload_n (pc := 769) 3 (dd dtL_law_9 19 rfl) rfl ?_
                                            refine WPe_iconst (pc := 770) (1 : Int32) (dd dtL_law_9 20 rfl) (by decide) ?_
                                            refine WPe_iadd (pc := 771) (dd dtL_law_9 21 rfl) ?_
                                            refine WPe_ck fun h274 => ?_
                                            refine WPe_sld2 (pc := 772) (dd dtL_law_9 22 rfl) hg h274 ?_
                                            refine WPe_aload_n (pc := 773) 0 (dd dtL_law_9 23 rfl) rfl ?_
                                            refine WPe_iload_n (pc := 774) 3 (dd dtL_law_9 24 rfl) rfl ?_
                                            refine WPe_iconst (pc := 775) (2 : Int32) (dd dtL_law_9 25 rfl) (by decide) ?_
                                            refine WPe_iadd (pc := 776) (dd dtL_law_9 26 rfl) ?_
                                            refine WPe_ck fun h275 => ?_
                                            refine WPe_sld2 (pc := 777) (dd dtL_law_9 27 rfl) hg h275 ?_
                                            refine WPe_ck fun h276 => ?_
                                            refine WPe_callV (pc := 778) (rtc := rtI) (Mc := mX6_swap) (d' := 9) (mc' := 0) (ms' := 0) [vI (xs ((v.2.2 + (1 : Int32))).toNatClampNeg), vI (xs ((v.2.2 + (2 : Int32))).toNatClampNeg)] [vI z271.1] rfl (dd dtL_law_9 28 rfl) (okf6_swap v.2.1 (xs ((v.2.2 + (1 : Int32))).toNatClampNeg) (xs ((v.2.2 + (2 : Int32))).toNatClampNeg) z271.2) moX6_swap miX6_swap (bw_mem5 76 rfl rfl) (Or.inl ⟨_, _, _, _, (shE h276), rfl⟩) rfl (Nat.le_of_ble_eq_true rfl) ⟨(Nat.le_of_ble_eq_true rfl), (Nat.le_of_ble_eq_true rfl)⟩ ⟨by show c + 0 + 0 ≤ 1606; omega, by show s + 0 + 0 ≤ 108616; omega⟩ (fun z277 h278 e279 => ?_)
                                            refine WPe_st (st2 := [vI z277.1, vI z271.1]) rfl ?_
                                            refine WPe_icmp_eq (pc := 781) 1505 (dd dtL_law_9 29 rfl) (by decide) (fun h280 => ?_) (fun h280 => ?_)
                                            · refine WPe_sub [0, 1, 2, 3] rfl ?_
                                              exact wpjL_law_1505 X w0 L xs hg n k18 hk18 _ _ (by omega) (by omega) _ _ _ _
                                            · refine WPe_iconst (pc := 784) (0 : Int32) (dd dtL_law_9 30 rfl) (by decide) ?_
                                              exact WPe_zreturn (pc := 785) (ty := .boolean) (dd dtL_law_9 31 rfl) rfl rfl rfl ⟨by show c + 0 + 0 + 0 ≤ 1606; omega, by show s + 0 + 0 + 0 ≤ 108616; omega⟩
                                          · refine WPe_ite (fun h281 => ?_) (fun h281 => ?_)
                                            · refine WPe_tabIn (pc := 33) (20 : Int32) 786 (dd dtL_law_0 21 rfl) h281 (by decide) (by decide) rfl (by decide) ?_
                                              refine WPe_aload_n (pc := 786) 1 (dd dtL_law_9 32 rfl) rfl ?_
                                              refine WPe_aload_n (pc := 787) 0 (dd dtL_law_9 33 rfl) rfl ?_
                                              refine WPe_iload_n (pc := 788) 3 (dd dtL_law_9 34 rfl) rfl ?_
                                              refine WPe_iconst (pc := 789) (1 : Int32) (dd dtL_law_9 35 rfl) (by decide) ?_
                                              refine WPe_iadd (pc := 790) (dd dtL_law_9 36 rfl) ?_
                                              refine WPe_ck fun h282 => ?_
                                              refine WPe_sld2 (pc := 791) (dd dtL_law_9 37 rfl) hg h282 ?_
                                              refine WPe_aload_n (pc := 792) 0 (dd dtL_law_9 38 rfl) rfl ?_
                                              refine WPe_iload_n (pc := 793) 3 (dd dtL_law_9 39 rfl) rfl ?_
                                              refine WPe_iconst (pc := 794) (2 : Int32) (dd dtL_law_9 40 rfl) (by decide) ?_
                                              refine WPe_iadd (pc := 795) (dd dtL_law_9 41 rfl) ?_
                                              refine WPe_ck fun h283 => ?_
                                              refine WPe_sld2 (pc := 796) (dd dtL_law_9 42 rfl) hg h283 ?_
                                              refine WPe_ck fun h284 => ?_
                                              refine WPe_callV (pc := 797) (rtc := rtI) (Mc := mX5_logs) (d' := 7) (mc' := 0) (ms' := 0) [vI (xs ((v.2.2 + (1 : Int32))).toNatClampNeg), vI (xs ((v.2.2 + (2 : Int32))).toNatClampNeg)] [] rfl (dd dtL_law_9 43 rfl) (okf5_logs v.1 (xs ((v.2.2 + (1 : Int32))).toNatClampNeg) (xs ((v.2.2 + (2 : Int32))).toNatClampNeg) w) moX5_logs miX5_logs (bw_mem3 109 rfl rfl) (Or.inl ⟨_, _, _, _, (shE h284), rfl⟩) rfl (Nat.le_of_ble_eq_true rfl) ⟨(Nat.le_of_ble_eq_true rfl), (Nat.le_of_ble_eq_true rfl)⟩ ⟨by show c + 0 ≤ 1606; omega, by show s + 0 ≤ 108616; omega⟩ (fun z285 h286 e287 => ?_)
                                              refine WPe_st (st2 := [vI z285.1]) rfl ?_
                                              refine WPe_aload_n (pc := 800) 2 (dd dtL_law_9 44 rfl) rfl ?_
                                              refine WPe_aload_n (pc := 801) 0 (dd dtL_law_9 45 rfl) rfl ?_
                                              refine WPe_iload_n (pc := 802) 3 (dd dtL_law_9 46 rfl) rfl ?_
                                              refine WPe_iconst (pc := 803) (1 : Int32) (dd dtL_law_9 47 rfl) (by decide) ?_
                                              refine WPe_iadd (pc := 804) (dd dtL_law_9 48 rfl) ?_
                                              refine WPe_ck fun h288 => ?_
                                              refine WPe_sld2 (pc := 805) (dd dtL_law_9 49 rfl) hg h288 ?_
                                              refine WPe_aload_n (pc := 806) 0 (dd dtL_law_10 0 rfl) rfl ?_
                                              refine WPe_iload_n (pc := 807) 3 (dd dtL_law_10 1 rfl) rfl ?_
                                              refine WPe_iconst (pc := 808) (2 : Int32) (dd dtL_law_10 2 rfl) (by decide) ?_
                                              refine WPe_iadd (pc := 809) (dd dtL_law_10 3 rfl) ?_
                                              refine WPe_ck fun h289 => ?_
                                              refine WPe_sld2 (pc := 810) (dd dtL_law_10 4 rfl) hg h289 ?_
                                              refine WPe_ck fun h290 => ?_
                                              refine WPe_callV (pc := 811) (rtc := rtI) (Mc := mX6_logs) (d' := 9) (mc' := 0) (ms' := 0) [vI (xs ((v.2.2 + (1 : Int32))).toNatClampNeg), vI (xs ((v.2.2 + (2 : Int32))).toNatClampNeg)] [vI z285.1] rfl (dd dtL_law_10 5 rfl) (okf6_logs v.2.1 (xs ((v.2.2 + (1 : Int32))).toNatClampNeg) (xs ((v.2.2 + (2 : Int32))).toNatClampNeg) z285.2) moX6_logs miX6_logs (bw_mem5 84 rfl rfl) (Or.inl ⟨_, _, _, _, (shE h290), rfl⟩) rfl (Nat.le_of_ble_eq_true rfl) ⟨(Nat.le_of_ble_eq_true rfl), (Nat.le_of_ble_eq_true rfl)⟩ ⟨by show c + 0 + 0 ≤ 1606; omega, by show s + 0 + 0 ≤ 108616; omega⟩ (fun z291 h292 e293 => ?_)
                                              refine WPe_st (st2 := [vI z291.1, vI z285.1]) rfl ?_
                                              refine WPe_icmp_eq (pc := 814) 1505 (dd dtL_law_10 6 rfl) (by decide) (fun h294 => ?_) (fun h294 => ?_)
                                              · refine WPe_sub [0, 1, 2, 3] rfl ?_
                                                exact wpjL_law_1505 X w0 L xs hg n k18 hk18 _ _ (by omega) (by omega) _ _ _ _
                                              · refine WPe_iconst (pc := 817) (0 : Int32) (dd dtL_law_10 7 rfl) (by decide) ?_
                                                exact WPe_zreturn (pc := 818) (ty := .boolean) (dd dtL_law_10 8 rfl) rfl rfl rfl ⟨by show c + 0 + 0 + 0 ≤ 1606; omega, by show s + 0 + 0 + 0 ≤ 108616; omega⟩
                                            · refine WPe_ite (fun h295 => ?_) (fun h295 => ?_)
                                              · refine WPe_tabIn (pc := 33) (21 : Int32) 819 (dd dtL_law_0 21 rfl) h295 (by decide) (by decide) rfl (by decide) ?_
                                                refine WPe_aload_n (pc := 819) 1 (dd dtL_law_10 9 rfl) rfl ?_
                                                refine WPe_aload_n (pc := 820) 0 (dd dtL_law_10 10 rfl) rfl ?_
                                                refine WPe_iload_n (pc := 821) 3 (dd dtL_law_10 11 rfl) rfl ?_
                                                refine WPe_iconst (pc := 822) (1 : Int32) (dd dtL_law_10 12 rfl) (by decide) ?_
                                                refine WPe_iadd (pc := 823) (dd dtL_law_10 13 rfl) ?_
                                                refine WPe_ck fun h296 => ?_
                                                refine WPe_sld2 (pc := 824) (dd dtL_law_10 14 rfl) hg h296 ?_
                                                refine WPe_aload_n (pc := 825) 0 (dd dtL_law_10 15 rfl) rfl ?_
                                                refine WPe_iload_n (pc := 826) 3 (dd dtL_law_10 16 rfl) rfl ?_
                                                refine WPe_iconst (pc := 827) (2 : Int32) (dd dtL_law_10 17 rfl) (by decide) ?_
                                                refine WPe_iadd (pc := 828) (dd dtL_law_10 18 rfl) ?_
                                                refine WPe_ck fun h297 => ?_
                                                refine WPe_sld2 (pc := 829) (dd dtL_law_10 19 rfl) hg h297 ?_
                                                refine WPe_ck fun h298 => ?_
                                                refine WPe_callV (pc := 830) (rtc := rtI) (Mc := mX5_stays) (d' := 7) (mc' := 0) (ms' := 0) [vI (xs ((v.2.2 + (1 : Int32))).toNatClampNeg), vI (xs ((v.2.2 + (2 : Int32))).toNatClampNeg)] [] rfl (dd dtL_law_10 20 rfl) (okf5_stays v.1 (xs ((v.2.2 + (1 : Int32))).toNatClampNeg) (xs ((v.2.2 + (2 : Int32))).toNatClampNeg) w) moX5_stays miX5_stays (bw_mem3 113 rfl rfl) (Or.inl ⟨_, _, _, _, (shE h298), rfl⟩) rfl (Nat.le_of_ble_eq_true rfl) ⟨(Nat.le_of_ble_eq_true rfl), (Nat.le_of_ble_eq_true rfl)⟩ ⟨by show c + 0 ≤ 1606; omega, by show s + 0 ≤ 108616; omega⟩ (fun z299 h300 e301 => ?_)
                                                refine WPe_st (st2 := [vI z299.1]) rfl ?_
                                                refine WPe_aload_n (pc := 833) 2 (dd dtL_law_10 21 rfl) rfl ?_
                                                refine WPe_aload_n (pc := 834) 0 (dd dtL_law_10 22 rfl) rfl ?_
                                                refine WPe_iload_n (pc := 835) 3 (dd dtL_law_10 23 rfl) rfl ?_
                                                refine WPe_iconst (pc := 836) (1 : Int32) (dd dtL_law_10 24 rfl) (by decide) ?_
                                                refine WPe_iadd (pc := 837) (dd dtL_law_10 25 rfl) ?_
                                                refine WPe_ck fun h302 => ?_
                                                refine WPe_sld2 (pc := 838) (dd dtL_law_10 26 rfl) hg h302 ?_
                                                refine WPe_aload_n (pc := 839) 0 (dd dtL_law_10 27 rfl) rfl ?_
                                                refine WPe_iload_n (pc := 840) 3 (dd dtL_law_10 28 rfl) rfl ?_
                                                refine WPe_iconst (pc := 841) (2 : Int32) (dd dtL_law_10 29 rfl) (by decide) ?_
                                                refine WPe_iadd (pc := 842) (dd dtL_law_10 30 rfl) ?_
                                                refine WPe_ck fun h303 => ?_
                                                refine WPe_sld2 (pc := 843) (dd dtL_law_10 31 rfl) hg h303 ?_
                                                refine WPe_ck fun h304 => ?_
                                                refine WPe_callV (pc := 844) (rtc := rtI) (Mc := mX6_stays) (d' := 8) (mc' := 0) (ms' := 0) [vI (xs ((v.2.2 + (1 : Int32))).toNatClampNeg), vI (xs ((v.2.2 + (2 : Int32))).toNatClampNeg)] [vI z299.1] rfl (dd dtL_law_10 32 rfl) (okf6_stays v.2.1 (xs ((v.2.2 + (1 : Int32))).toNatClampNeg) (xs ((v.2.2 + (2 : Int32))).toNatClampNeg) z299.2) moX6_stays miX6_stays (bw_mem5 88 rfl rfl) (Or.inl ⟨_, _, _, _, (shE h304), rfl⟩) rfl (Nat.le_of_ble_eq_true rfl) ⟨(Nat.le_of_ble_eq_true rfl), (Nat.le_of_ble_eq_true rfl)⟩ ⟨by show c + 0 + 0 ≤ 1606; omega, by show s + 0 + 0 ≤ 108616; omega⟩ (fun z305 h306 e307 => ?_)
                                                refine WPe_st (st2 := [vI z305.1, vI z299.1]) rfl ?_
                                                refine WPe_icmp_eq (pc := 847) 1505 (dd dtL_law_10 33 rfl) (by decide) (fun h308 => ?_) (fun h308 => ?_)
                                                · refine WPe_sub [0, 1, 2, 3] rfl ?_
                                                  exact wpjL_law_1505 X w0 L xs hg n k18 hk18 _ _ (by omega) (by omega) _ _ _ _
                                                · refine WPe_iconst (pc := 850) (0 : Int32) (dd dtL_law_10 34 rfl) (by decide) ?_
                                                  exact WPe_zreturn (pc := 851) (ty := .boolean) (dd dtL_law_10 35 rfl) rfl rfl rfl ⟨by show c + 0 + 0 + 0 ≤ 1606; omega, by show s + 0 + 0 + 0 ≤ 108616; omega⟩
                                              · refine WPe_ite (fun h309 => ?_) (fun h309 => ?_)
                                                · refine WPe_tabIn (pc := 33) (22 : Int32) 852 (dd dtL_law_0 21 rfl) h309 (by decide) (by decide) rfl (by decide) ?_
                                                  refine WPe_aload_n (pc := 852) 1 (dd dtL_law_10 36 rfl) rfl ?_
                                                  refine WPe_aload_n (pc := 853) 0 (dd dtL_law_10 37 rfl) rfl ?_
                                                  refine WPe_iload_n (pc := 854) 3 (dd dtL_law_10 38 rfl) rfl ?_
                                                  refine WPe_iconst (pc := 855) (1 : Int32) (dd dtL_law_10 39 rfl) (by decide) ?_
                                                  refine WPe_iadd (pc := 856) (dd dtL_law_10 40 rfl) ?_
                                                  refine WPe_ck fun h310 => ?_
                                                  refine WPe_sld2 (pc := 857) (dd dtL_law_10 41 rfl) hg h310 ?_
                                                  refine WPe_aload_n (pc := 858) 0 (dd dtL_law_10 42 rfl) rfl ?_
                                                  refine WPe_iload_n (pc := 859) 3 (dd dtL_law_10 43 rfl) rfl ?_
                                                  refine WPe_iconst (pc := 860) (2 : Int32) (dd dtL_law_10 44 rfl) (by decide) ?_
                                                  refine WPe_iadd (pc := 861) (dd dtL_law_10 45 rfl) ?_
                                                  refine WPe_ck fun h311 => ?_
                                                  refine WPe_sld2 (pc := 862) (dd dtL_law_10 46 rfl) hg h311 ?_
                                                  refine WPe_aload_n (pc := 863) 0 (dd dtL_law_10 47 rfl) rfl ?_
                                                  refine WPe_iload_n (pc := 864) 3 (dd dtL_law_10 48 rfl) rfl ?_
                                                  refine WPe_iconst (pc := 865) (3 : Int32) (dd dtL_law_10 49 rfl) (by decide) ?_
                                                  refine WPe_iadd (pc := 866) (dd dtL_law_11 0 rfl) ?_
                                                  refine WPe_ck fun h312 => ?_
                                                  refine WPe_sld2 (pc := 867) (dd dtL_law_11 1 rfl) hg h312 ?_
                                                  refine WPe_ck fun h313 => ?_
                                                  refine WPe_callV (pc := 868) (rtc := rtJ) (Mc := mX5_share) (d' := 7) (mc' := 0) (ms' := 0) [vI (xs ((v.2.2 + (1 : Int32))).toNatClampNeg), vI (xs ((v.2.2 + (2 : Int32))).toNatClampNeg), vI (xs ((v.2.2 + (3 : Int32))).toNatClampNeg)] [] rfl (dd dtL_law_11 2 rfl) (okf5_share v.1 (xs ((v.2.2 + (1 : Int32))).toNatClampNeg) (xs ((v.2.2 + (2 : Int32))).toNatClampNeg) (xs ((v.2.2 + (3 : Int32))).toNatClampNeg) w) moX5_share miX5_share (bw_mem3 117 rfl rfl) (Or.inl ⟨_, _, _, _, (shE h313), rfl⟩) rfl (Nat.le_of_ble_eq_true rfl) ⟨(Nat.le_of_ble_eq_true rfl), (Nat.le_of_ble_eq_true rfl)⟩ ⟨by show c + 0 ≤ 1606; omega, by show s + 0 ≤ 108616; omega⟩ (fun z314 h315 e316 => ?_)
                                                  refine WPe_st (st2 := [vJ z314.1]) rfl ?_
                                                  refine WPe_aload_n (pc := 871) 2 (dd dtL_law_11 3 rfl) rfl ?_
                                                  refine WPe_aload_n (pc := 872) 0 (dd dtL_law_11 4 rfl) rfl ?_
                                                  refine WPe_iload_n (pc := 873) 3 (dd dtL_law_11 5 rfl) rfl ?_
                                                  refine WPe_iconst (pc := 874) (1 : Int32) (dd dtL_law_11 6 rfl) (by decide) ?_
                                                  refine WPe_iadd (pc := 875) (dd dtL_law_11 7 rfl) ?_
                                                  refine WPe_ck fun h317 => ?_
                                                  refine WPe_sld2 (pc := 876) (dd dtL_law_11 8 rfl) hg h317 ?_
                                                  refine WPe_aload_n (pc := 877) 0 (dd dtL_law_11 9 rfl) rfl ?_
                                                  refine WPe_iload_n (pc := 878) 3 (dd dtL_law_11 10 rfl) rfl ?_
                                                  refine WPe_iconst (pc := 879) (2 : Int32) (dd dtL_law_11 11 rfl) (by decide) ?_
                                                  refine WPe_iadd (pc := 880) (dd dtL_law_11 12 rfl) ?_
                                                  refine WPe_ck fun h318 => ?_
                                                  refine WPe_sld2 (pc := 881) (dd dtL_law_11 13 rfl) hg h318 ?_
                                                  refine WPe_aload_n (pc := 882) 0 (dd dtL_law_11 14 rfl) rfl ?_
                                                  refine WPe_iload_n (pc := 883) 3 (dd dtL_law_11 15 rfl) rfl ?_
                                                  refine WPe_iconst (pc := 884) (3 : Int32) (dd dtL_law_11 16 rfl) (by decide) ?_
                                                  refine WPe_iadd (pc := 885) (dd dtL_law_11 17 rfl) ?_
                                                  refine WPe_ck fun h319 => ?_
                                                  refine WPe_sld2 (pc := 886) (dd dtL_law_11 18 rfl) hg h319 ?_
                                                  refine WPe_ck fun h320 => ?_
                                                  refine WPe_callV (pc := 887) (rtc := rtJ) (Mc := mX6_share) (d' := 9) (mc' := 0) (ms' := 0) [vI (xs ((v.2.2 + (1 : Int32))).toNatClampNeg), vI (xs ((v.2.2 + (2 : Int32))).toNatClampNeg), vI (xs ((v.2.2 + (3 : Int32))).toNatClampNeg)] [vJ z314.1] rfl (dd dtL_law_11 19 rfl) (okf6_share v.2.1 (xs ((v.2.2 + (1 : Int32))).toNatClampNeg) (xs ((v.2.2 + (2 : Int32))).toNatClampNeg) (xs ((v.2.2 + (3 : Int32))).toNatClampNeg) z314.2) moX6_share miX6_share (bw_mem5 92 rfl rfl) (Or.inl ⟨_, _, _, _, (shE h320), rfl⟩) rfl (Nat.le_of_ble_eq_true rfl) ⟨(Nat.le_of_ble_eq_true rfl), (Nat.le_of_ble_eq_true rfl)⟩ ⟨by show c + 0 + 0 ≤ 1606; omega, by show s + 0 + 0 ≤ 108616; omega⟩ (fun z321 h322 e323 => ?_)
                                                  refine WPe_st (st2 := [vJ z321.1, vJ z314.1]) rfl ?_
                                                  refine WPe_lcmp (pc := 890) (dd dtL_law_11 20 rfl) ?_
                                                  refine WPe_if_eq (pc := 891) 1505 (dd dtL_law_11 21 rfl) (by decide) (fun h324 => ?_) (fun h324 => ?_)
                                                  · refine WPe_sub [0, 1, 2, 3] rfl ?_
                                                    exact wpjL_law_1505 X w0 L xs hg n k18 hk18 _ _ (by omega) (by omega) _ _ _ _
                                                  · refine WPe_iconst (pc := 894) (0 : Int32) (dd dtL_law_11 22 rfl) (by decide) ?_
                                                    exact WPe_zreturn (pc := 895) (ty := .boolean) (dd dtL_law_11 23 rfl) rfl rfl rfl ⟨by show c + 0 + 0 + 0 ≤ 1606; omega, by show s + 0 + 0 + 0 ≤ 108616; omega⟩
                                                · refine WPe_ite (fun h325 => ?_) (fun h325 => ?_)
                                                  · refine WPe_tabIn (pc := 33) (23 : Int32) 896 (dd dtL_law_0 21 rfl) h325 (by decide) (by decide) rfl (by decide) ?_
                                                    refine WPe_aload_n (pc := 896) 1 (dd dtL_law_11 24 rfl) rfl ?_
                                                    refine WPe_aload_n (pc := 897) 0 (dd dtL_law_11 25 rfl) rfl ?_
                                                    refine WPe_iload_n (pc := 898) 3 (dd dtL_law_11 26 rfl) rfl ?_
                                                    refine WPe_iconst (pc := 899) (1 : Int32) (dd dtL_law_11 27 rfl) (by decide) ?_
                                                    refine WPe_iadd (pc := 900) (dd dtL_law_11 28 rfl) ?_
                                                    refine WPe_ck fun h326 => ?_
                                                    refine WPe_sld2 (pc := 901) (dd dtL_law_11 29 rfl) hg h326 ?_
                                                    refine WPe_aload_n (pc := 902) 0 (dd dtL_law_11 30 rfl) rfl ?_
                                                    refine WPe_iload_n (pc := 903) 3 (dd dtL_law_11 31 rfl) rfl ?_
                                                    refine WPe_iconst (pc := 904) (2 : Int32) (dd dtL_law_11 32 rfl) (by decide) ?_
                                                    refine WPe_iadd (pc := 905) (dd dtL_law_11 33 rfl) ?_
                                                    refine WPe_ck fun h327 => ?_
                                                    refine WPe_sld2 (pc := 906) (dd dtL_law_11 34 rfl) hg h327 ?_
                                                    refine WPe_ck fun h328 => ?_
                                                    refine WPe_callV (pc := 907) (rtc := rtI) (Mc := mX5_judge) (d' := 7) (mc' := 0) (ms' := 0) [vI (xs ((v.2.2 + (1 : Int32))).toNatClampNeg), vI (xs ((v.2.2 + (2 : Int32))).toNatClampNeg)] [] rfl (dd dtL_law_11 35 rfl) (okf5_judge v.1 (xs ((v.2.2 + (1 : Int32))).toNatClampNeg) (xs ((v.2.2 + (2 : Int32))).toNatClampNeg) w) moX5_judge miX5_judge (bw_mem3 125 rfl rfl) (Or.inl ⟨_, _, _, _, (shE h328), rfl⟩) rfl (Nat.le_of_ble_eq_true rfl) ⟨(Nat.le_of_ble_eq_true rfl), (Nat.le_of_ble_eq_true rfl)⟩ ⟨by show c + 0 ≤ 1606; omega, by show s + 0 ≤ 108616; omega⟩ (fun z329 h330 e331 => ?_)
                                                    refine WPe_st (st2 := [vI z329.1]) rfl ?_
                                                    refine WPe_aload_n (pc := 910) 2 (dd dtL_law_11 36 rfl) rfl ?_
                                                    refine WPe_aload_n (pc := 911) 0 (dd dtL_law_11 37 rfl) rfl ?_
                                                    refine WPe_iload_n (pc := 912) 3 (dd dtL_law_11 38 rfl) rfl ?_
                                                    refine WPe_iconst (pc := 913) (1 : Int32) (dd dtL_law_11 39 rfl) (by decide) ?_
                                                    refine WPe_iadd (pc := 914) (dd dtL_law_11 40 rfl) ?_
                                                    refine WPe_ck fun h332 => ?_
                                                    refine WPe_sld2 (pc := 915) (dd dtL_law_11 41 rfl) hg h332 ?_
                                                    refine WPe_aload_n (pc := 916) 0 (dd dtL_law_11 42 rfl) rfl ?_
                                                    refine WPe_iload_n (pc := 917) 3 (dd dtL_law_11 43 rfl) rfl ?_
                                                    refine WPe_iconst (pc := 918) (2 : Int32) (dd dtL_law_11 44 rfl) (by decide) ?_
                                                    refine WPe_iadd (pc := 919) (dd dtL_law_11 45 rfl) ?_
                                                    refine WPe_ck fun h333 => ?_
                                                    refine WPe_sld2 (pc := 920) (dd dtL_law_11 46 rfl) hg h333 ?_
                                                    refine WPe_ck fun h334 => ?_
                                                    refine WPe_callV (pc := 921) (rtc := rtI) (Mc := mX6_judge) (d' := 8) (mc' := 0) (ms' := 0) [vI (xs ((v.2.2 + (1 : Int32))).toNatClampNeg), vI (xs ((v.2.2 + (2 : Int32))).toNatClampNeg)] [vI z329.1] rfl (dd dtL_law_11 47 rfl) (okf6_judge v.2.1 (xs ((v.2.2 + (1 : Int32))).toNatClampNeg) (xs ((v.2.2 + (2 : Int32))).toNatClampNeg) z329.2) moX6_judge miX6_judge (bw_mem5 100 rfl rfl) (Or.inl ⟨_, _, _, _, (shE h334), rfl⟩) rfl (Nat.le_of_ble_eq_true rfl) ⟨(Nat.le_of_ble_eq_true rfl), (Nat.le_of_ble_eq_true rfl)⟩ ⟨by show c + 0 + 0 ≤ 1606; omega, by show s + 0 + 0 ≤ 108616; omega⟩ (fun z335 h336 e337 => ?_)
                                                    refine WPe_st (st2 := [vI z335.1, vI z329.1]) rfl ?_
                                                    refine WPe_icmp_eq (pc := 924) 1505 (dd dtL_law_11 48 rfl) (by decide) (fun h338 => ?_) (fun h338 => ?_)
                                                    · refine WPe_sub [0, 1, 2, 3] rfl ?_
                                                      exact wpjL_law_1505 X w0 L xs hg n k18 hk18 _ _ (by omega) (by omega) _ _ _ _
                                                    · refine WPe_iconst (pc := 927) (0 : Int32) (dd dtL_law_11 49 rfl) (by decide) ?_
                                                      exact WPe_zreturn (pc := 928) (ty := .boolean) (dd dtL_law_12 0 rfl) rfl rfl rfl ⟨by show c + 0 + 0 + 0 ≤ 1606; omega, by show s + 0 + 0 + 0 ≤ 108616; omega⟩
                                                  · refine WPe_ite (fun h339 => ?_) (fun h339 => ?_)
                                                    · refine WPe_tabIn (pc := 33) (24 : Int32) 929 (dd dtL_law_0 21 rfl) h339 (by decide) (by decide) rfl (by decide) ?_
                                                      refine WPe_aload_n (pc := 929) 1 (dd dtL_law_12 1 rfl) rfl ?_
                                                      refine WPe_aload_n (pc := 930) 0 (dd dtL_law_12 2 rfl) rfl ?_
                                                      refine WPe_iload_n (pc := 931) 3 (dd dtL_law_12 3 rfl) rfl ?_
                                                      refine WPe_iconst (pc := 932) (1 : Int32) (dd dtL_law_12 4 rfl) (by decide) ?_
                                                      refine WPe_iadd (pc := 933) (dd dtL_law_12 5 rfl) ?_
                                                      refine WPe_ck fun h340 => ?_
                                                      refine WPe_sld2 (pc := 934) (dd dtL_law_12 6 rfl) hg h340 ?_
                                                      refine WPe_aload_n (pc := 935) 0 (dd dtL_law_12 7 rfl) rfl ?_
                                                      refine WPe_iload_n (pc := 936) 3 (dd dtL_law_12 8 rfl) rfl ?_
                                                      refine WPe_iconst (pc := 937) (2 : Int32) (dd dtL_law_12 9 rfl) (by decide) ?_
                                                      refine WPe_iadd (pc := 938) (dd dtL_law_12 10 rfl) ?_
                                                      refine WPe_ck fun h341 => ?_
                                                      refine WPe_sld2 (pc := 939) (dd dtL_law_12 11 rfl) hg h341 ?_
                                                      refine WPe_aload_n (pc := 940) 0 (dd dtL_law_12 12 rfl) rfl ?_
                                                      refine WPe_iload_n (pc := 941) 3 (dd dtL_law_12 13 rfl) rfl ?_
                                                      refine WPe_iconst (pc := 942) (3 : Int32) (dd dtL_law_12 14 rfl) (by decide) ?_
                                                      refine WPe_iadd (pc := 943) (dd dtL_law_12 15 rfl) ?_
                                                      refine WPe_ck fun h342 => ?_
                                                      refine WPe_sld2 (pc := 944) (dd dtL_law_12 16 rfl) hg h342 ?_
                                                      refine WPe_ck fun h343 => ?_
                                                      refine WPe_callV (pc := 945) (rtc := rtI) (Mc := mX5_kinds) (d' := 7) (mc' := 0) (ms' := 0) [vI (xs ((v.2.2 + (1 : Int32))).toNatClampNeg), vI (xs ((v.2.2 + (2 : Int32))).toNatClampNeg), vI (xs ((v.2.2 + (3 : Int32))).toNatClampNeg)] [] rfl (dd dtL_law_12 17 rfl) (okf5_kinds v.1 (xs ((v.2.2 + (1 : Int32))).toNatClampNeg) (xs ((v.2.2 + (2 : Int32))).toNatClampNeg) (xs ((v.2.2 + (3 : Int32))).toNatClampNeg) w) moX5_kinds miX5_kinds (bw_mem3 148 rfl rfl) (Or.inl ⟨_, _, _, _, (shE h343), rfl⟩) rfl (Nat.le_of_ble_eq_true rfl) ⟨(Nat.le_of_ble_eq_true rfl), (Nat.le_of_ble_eq_true rfl)⟩ ⟨by show c + 0 ≤ 1606; omega, by show s + 0 ≤ 108616; omega⟩ (fun z344 h345 e346 => ?_)
                                                      refine WPe_st (st2 := [vI z344.1]) rfl ?_
                                                      refine WPe_aload_n (pc := 948) 2 (dd dtL_law_12 18 rfl) rfl ?_
                                                      refine WPe_aload_n (pc := 949) 0 (dd dtL_law_12 19 rfl) rfl ?_
                                                      refine WPe_iload_n (pc := 950) 3 (dd dtL_law_12 20 rfl) rfl ?_
                                                      refine WPe_iconst (pc := 951) (1 : Int32) (dd dtL_law_12 21 rfl) (by decide) ?_
                                                      refine WPe_iadd (pc := 952) (dd dtL_law_12 22 rfl) ?_
                                                      refine WPe_ck fun h347 => ?_
                                                      refine WPe_sld2 (pc := 953) (dd dtL_law_12 23 rfl) hg h347 ?_
                                                      refine WPe_aload_n (pc := 954) 0 (dd dtL_law_12 24 rfl) rfl ?_
                                                      refine WPe_iload_n (pc := 955) 3 (dd dtL_law_12 25 rfl) rfl ?_
                                                      refine WPe_iconst (pc := 956) (2 : Int32) (dd dtL_law_12 26 rfl) (by decide) ?_
                                                      refine WPe_iadd (pc := 957) (dd dtL_law_12 27 rfl) ?_
                                                      refine WPe_ck fun h348 => ?_
                                                      refine WPe_sld2 (pc := 958) (dd dtL_law_12 28 rfl) hg h348 ?_
                                                      refine WPe_aload_n (pc := 959) 0 (dd dtL_law_12 29 rfl) rfl ?_
                                                      refine WPe_iload_n (pc := 960) 3 (dd dtL_law_12 30 rfl) rfl ?_
                                                      refine WPe_iconst (pc := 961) (3 : Int32) (dd dtL_law_12 31 rfl) (by decide) ?_
                                                      refine WPe_iadd (pc := 962) (dd dtL_law_12 32 rfl) ?_
                                                      refine WPe_ck fun h349 => ?_
                                                      refine WPe_sld2 (pc := 963) (dd dtL_law_12 33 rfl) hg h349 ?_
                                                      refine WPe_ck fun h350 => ?_
                                                      refine WPe_callV (pc := 964) (rtc := rtI) (Mc := mX6_kinds) (d' := 8) (mc' := 0) (ms' := 0) [vI (xs ((v.2.2 + (1 : Int32))).toNatClampNeg), vI (xs ((v.2.2 + (2 : Int32))).toNatClampNeg), vI (xs ((v.2.2 + (3 : Int32))).toNatClampNeg)] [vI z344.1] rfl (dd dtL_law_12 34 rfl) (okf6_kinds v.2.1 (xs ((v.2.2 + (1 : Int32))).toNatClampNeg) (xs ((v.2.2 + (2 : Int32))).toNatClampNeg) (xs ((v.2.2 + (3 : Int32))).toNatClampNeg) z344.2) moX6_kinds miX6_kinds (bw_mem5 116 rfl rfl) (Or.inl ⟨_, _, _, _, (shE h350), rfl⟩) rfl (Nat.le_of_ble_eq_true rfl) ⟨(Nat.le_of_ble_eq_true rfl), (Nat.le_of_ble_eq_true rfl)⟩ ⟨by show c + 0 + 0 ≤ 1606; omega, by show s + 0 + 0 ≤ 108616; omega⟩ (fun z351 h352 e353 => ?_)
                                                      refine WPe_st (st2 := [vI z351.1, vI z344.1]) rfl ?_
                                                      refine WPe_icmp_eq (pc := 967) 1505 (dd dtL_law_12 35 rfl) (by decide) (fun h354 => ?_) (fun h354 => ?_)
                                                      · refine WPe_sub [0, 1, 2, 3] rfl ?_
                                                        exact wpjL_law_1505 X w0 L xs hg n k18 hk18 _ _ (by omega) (by omega) _ _ _ _
                                                      · refine WPe_iconst (pc := 970) (0 : Int32) (dd dtL_law_12 36 rfl) (by decide) ?_
                                                        exact WPe_zreturn (pc := 971) (ty := .boolean) (dd dtL_law_12 37 rfl) rfl rfl rfl ⟨by show c + 0 + 0 + 0 ≤ 1606; omega, by show s + 0 + 0 + 0 ≤ 108616; omega⟩
                                                    · refine WPe_ite (fun h355 => ?_) (fun h355 => ?_)
                                                      · refine WPe_tabIn (pc := 33) (25 : Int32) 972 (dd dtL_law_0 21 rfl) h355 (by decide) (by decide) rfl (by decide) ?_
                                                        refine WPe_aload_n (pc := 972) 1 (dd dtL_law_12 38 rfl) rfl ?_
                                                        refine WPe_aload_n (pc := 973) 0 (dd dtL_law_12 39 rfl) rfl ?_
                                                        refine WPe_iload_n (pc := 974) 3 (dd dtL_law_12 40 rfl) rfl ?_
                                                        refine WPe_iconst (pc := 975) (1 : Int32) (dd dtL_law_12 41 rfl) (by decide) ?_
                                                        refine WPe_iadd (pc := 976) (dd dtL_law_12 42 rfl) ?_
                                                        refine WPe_ck fun h356 => ?_
                                                        refine WPe_sld2 (pc := 977) (dd dtL_law_12 43 rfl) hg h356 ?_
                                                        refine WPe_aload_n (pc := 978) 0 (dd dtL_law_12 44 rfl) rfl ?_
                                                        refine WPe_iload_n (pc := 979) 3 (dd dtL_law_12 45 rfl) rfl ?_
                                                        refine WPe_iconst (pc := 980) (2 : Int32) (dd dtL_law_12 46 rfl) (by decide) ?_
                                                        refine WPe_iadd (pc := 981) (dd dtL_law_12 47 rfl) ?_
                                                        refine WPe_ck fun h357 => ?_
                                                        refine WPe_sld2 (pc := 982) (dd dtL_law_12 48 rfl) hg h357 ?_
                                                        refine WPe_aload_n (pc := 983) 0 (dd dtL_law_12 49 rfl) rfl ?_
                                                        refine WPe_iload_n (pc := 984) 3 (dd dtL_law_13 0 rfl) rfl ?_
                                                        refine WPe_iconst (pc := 985) (3 : Int32) (dd dtL_law_13 1 rfl) (by decide) ?_
                                                        refine WPe_iadd (pc := 986) (dd dtL_law_13 2 rfl) ?_
                                                        refine WPe_ck fun h358 => ?_
                                                        refine WPe_sld2 (pc := 987) (dd dtL_law_13 3 rfl) hg h358 ?_
                                                        refine WPe_ck fun h359 => ?_
                                                        refine WPe_callV (pc := 988) (rtc := rtI) (Mc := mX5_states) (d' := 7) (mc' := 0) (ms' := 0) [vI (xs ((v.2.2 + (1 : Int32))).toNatClampNeg), vI (xs ((v.2.2 + (2 : Int32))).toNatClampNeg), vI (xs ((v.2.2 + (3 : Int32))).toNatClampNeg)] [] rfl (dd dtL_law_13 4 rfl) (okf5_states v.1 (xs ((v.2.2 + (1 : Int32))).toNatClampNeg) (xs ((v.2.2 + (2 : Int32))).toNatClampNeg) (xs ((v.2.2 + (3 : Int32))).toNatClampNeg) w) moX5_states miX5_states (bw_mem3 152 rfl rfl) (Or.inl ⟨_, _, _, _, (shE h359), rfl⟩) rfl (Nat.le_of_ble_eq_true rfl) ⟨(Nat.le_of_ble_eq_true rfl), (Nat.le_of_ble_eq_true rfl)⟩ ⟨by show c + 0 ≤ 1606; omega, by show s + 0 ≤ 108616; omega⟩ (fun z360 h361 e362 => ?_)
                                                        refine WPe_st (st2 := [vI z360.1]) rfl ?_
                                                        refine WPe_aload_n (pc := 991) 2 (dd dtL_law_13 5 rfl) rfl ?_
                                                        refine WPe_aload_n (pc := 992) 0 (dd dtL_law_13 6 rfl) rfl ?_
                                                        refine WPe_iload_n (pc := 993) 3 (dd dtL_law_13 7 rfl) rfl ?_
                                                        refine WPe_iconst (pc := 994) (1 : Int32) (dd dtL_law_13 8 rfl) (by decide) ?_
                                                        refine WPe_iadd (pc := 995) (dd dtL_law_13 9 rfl) ?_
                                                        refine WPe_ck fun h363 => ?_
                                                        refine WPe_sld2 (pc := 996) (dd dtL_law_13 10 rfl) hg h363 ?_
                                                        refine WPe_aload_n (pc := 997) 0 (dd dtL_law_13 11 rfl) rfl ?_
                                                        refine WPe_iload_n (pc := 998) 3 (dd dtL_law_13 12 rfl) rfl ?_
                                                        refine WPe_iconst (pc := 999) (2 : Int32) (dd dtL_law_13 13 rfl) (by decide) ?_
                                                        refine WPe_iadd (pc := 1000) (dd dtL_law_13 14 rfl) ?_
                                                        refine WPe_ck fun h364 => ?_
                                                        refine WPe_sld2 (pc := 1001) (dd dtL_law_13 15 rfl) hg h364 ?_
                                                        refine WPe_aload_n (pc := 1002) 0 (dd dtL_law_13 16 rfl) rfl ?_
                                                        refine WPe_iload_n (pc := 1003) 3 (dd dtL_law_13 17 rfl) rfl ?_
                                                        refine WPe_iconst (pc := 1004) (3 : Int32) (dd dtL_law_13 18 rfl) (by decide) ?_
                                                        refine WPe_iadd (pc := 1005) (dd dtL_law_13 19 rfl) ?_
                                                        refine WPe_ck fun h365 => ?_
                                                        refine WPe_sld2 (pc := 1006) (dd dtL_law_13 20 rfl) hg h365 ?_
                                                        refine WPe_ck fun h366 => ?_
                                                        refine WPe_callV (pc := 1007) (rtc := rtI) (Mc := mX6_states) (d' := 9) (mc' := 0) (ms' := 0) [vI (xs ((v.2.2 + (1 : Int32))).toNatClampNeg), vI (xs ((v.2.2 + (2 : Int32))).toNatClampNeg), vI (xs ((v.2.2 + (3 : Int32))).toNatClampNeg)] [vI z360.1] rfl (dd dtL_law_13 21 rfl) (okf6_states v.2.1 (xs ((v.2.2 + (1 : Int32))).toNatClampNeg) (xs ((v.2.2 + (2 : Int32))).toNatClampNeg) (xs ((v.2.2 + (3 : Int32))).toNatClampNeg) z360.2) moX6_states miX6_states (bw_mem5 120 rfl rfl) (Or.inl ⟨_, _, _, _, (shE h366), rfl⟩) rfl (Nat.le_of_ble_eq_true rfl) ⟨(Nat.le_of_ble_eq_true rfl), (Nat.le_of_ble_eq_true rfl)⟩ ⟨by show c + 0 + 0 ≤ 1606; omega, by show s + 0 + 0 ≤ 108616; omega⟩ (fun z367 h368 e369 => ?_)
                                                        refine WPe_st (st2 := [vI z367.1, vI z360.1]) rfl ?_
                                                        refine WPe_icmp_eq (pc := 1010) 1505 (dd dtL_law_13 22 rfl) (by decide) (fun h370 => ?_) (fun h370 => ?_)
                                                        · refine WPe_sub [0, 1, 2, 3] rfl ?_
                                                          exact wpjL_law_1505 X w0 L xs hg n k18 hk18 _ _ (by omega) (by omega) _ _ _ _
                                                        · refine WPe_iconst (pc := 1013) (0 : Int32) (dd dtL_law_13 23 rfl) (by decide) ?_
                                                          exact WPe_zreturn (pc := 1014) (ty := .boolean) (dd dtL_law_13 24 rfl) rfl rfl rfl ⟨by show c + 0 + 0 + 0 ≤ 1606; omega, by show s + 0 + 0 + 0 ≤ 108616; omega⟩
                                                      · refine WPe_ite (fun h371 => ?_) (fun h371 => ?_)
                                                        · refine WPe_tabIn (pc := 33) (26 : Int32) 1015 (dd dtL_law_0 21 rfl) h371 (by decide) (by decide) rfl (by decide) ?_
                                                          refine WPe_aload_n (pc := 1015) 1 (dd dtL_law_13 25 rfl) rfl ?_
                                                          refine WPe_aload_n (pc := 1016) 0 (dd dtL_law_13 26 rfl) rfl ?_
                                                          refine WPe_iload_n (pc := 1017) 3 (dd dtL_law_13 27 rfl) rfl ?_
                                                          refine WPe_iconst (pc := 1018) (1 : Int32) (dd dtL_law_13 28 rfl) (by decide) ?_
                                                          refine WPe_iadd (pc := 1019) (dd dtL_law_13 29 rfl) ?_
                                                          refine WPe_ck fun h372 => ?_
                                                          refine WPe_sld2 (pc := 1020) (dd dtL_law_13 30 rfl) hg h372 ?_
                                                          refine WPe_aload_n (pc := 1021) 0 (dd dtL_law_13 31 rfl) rfl ?_
                                                          refine WPe_iload_n (pc := 1022) 3 (dd dtL_law_13 32 rfl) rfl ?_
                                                          refine WPe_iconst (pc := 1023) (2 : Int32) (dd dtL_law_13 33 rfl) (by decide) ?_
                                                          refine WPe_iadd (pc := 1024) (dd dtL_law_13 34 rfl) ?_
                                                          refine WPe_ck fun h373 => ?_
                                                          refine WPe_sld2 (pc := 1025) (dd dtL_law_13 35 rfl) hg h373 ?_
                                                          refine WPe_aload_n (pc := 1026) 0 (dd dtL_law_13 36 rfl) rfl ?_
                                                          refine WPe_iload_n (pc := 1027) 3 (dd dtL_law_13 37 rfl) rfl ?_
                                                          refine WPe_iconst (pc := 1028) (3 : Int32) (dd dtL_law_13 38 rfl) (by decide) ?_
                                                          refine WPe_iadd (pc := 1029) (dd dtL_law_13 39 rfl) ?_
                                                          refine WPe_ck fun h374 => ?_
                                                          refine WPe_sld2 (pc := 1030) (dd dtL_law_13 40 rfl) hg h374 ?_
                                                          refine WPe_ck fun h375 => ?_
                                                          refine WPe_callV (pc := 1031) (rtc := rtI) (Mc := mX5_steams) (d' := 7) (mc' := 0) (ms' := 0) [vI (xs ((v.2.2 + (1 : Int32))).toNatClampNeg), vI (xs ((v.2.2 + (2 : Int32))).toNatClampNeg), vI (xs ((v.2.2 + (3 : Int32))).toNatClampNeg)] [] rfl (dd dtL_law_13 41 rfl) (okf5_steams v.1 (xs ((v.2.2 + (1 : Int32))).toNatClampNeg) (xs ((v.2.2 + (2 : Int32))).toNatClampNeg) (xs ((v.2.2 + (3 : Int32))).toNatClampNeg) w) moX5_steams miX5_steams (bw_mem3 156 rfl rfl) (Or.inl ⟨_, _, _, _, (shE h375), rfl⟩) rfl (Nat.le_of_ble_eq_true rfl) ⟨(Nat.le_of_ble_eq_true rfl), (Nat.le_of_ble_eq_true rfl)⟩ ⟨by show c + 0 ≤ 1606; omega, by show s + 0 ≤ 108616; omega⟩ (fun z376 h377 e378 => ?_)
                                                          refine WPe_st (st2 := [vI z376.1]) rfl ?_
                                                          refine WPe_aload_n (pc := 1034) 2 (dd dtL_law_13 42 rfl) rfl ?_
                                                          refine WPe_aload_n (pc := 1035) 0 (dd dtL_law_13 43 rfl) rfl ?_
                                                          refine WPe_iload_n (pc := 1036) 3 (dd dtL_law_13 44 rfl) rfl ?_
                                                          refine WPe_iconst (pc := 1037) (1 : Int32) (dd dtL_law_13 45 rfl) (by decide) ?_
                                                          refine WPe_iadd (pc := 1038) (dd dtL_law_13 46 rfl) ?_
                                                          refine WPe_ck fun h379 => ?_
                                                          refine WPe_sld2 (pc := 1039) (dd dtL_law_13 47 rfl) hg h379 ?_
                                                          refine WPe_aload_n (pc := 1040) 0 (dd dtL_law_13 48 rfl) rfl ?_
                                                          refine WPe_iload_n (pc := 1041) 3 (dd dtL_law_13 49 rfl) rfl ?_
                                                          refine WPe_iconst (pc := 1042) (2 : Int32) (dd dtL_law_14 0 rfl) (by decide) ?_
                                                          refine WPe_iadd (pc := 1043) (dd dtL_law_14 1 rfl) ?_
                                                          refine WPe_ck fun h380 => ?_
                                                          refine WPe_sld2 (pc := 1044) (dd dtL_law_14 2 rfl) hg h380 ?_
                                                          refine WPe_aload_n (pc := 1045) 0 (dd dtL_law_14 3 rfl) rfl ?_
                                                          refine WPe_iload_n (pc := 1046) 3 (dd dtL_law_14 4 rfl) rfl ?_
                                                          refine WPe_iconst (pc := 1047) (3 : Int32) (dd dtL_law_14 5 rfl) (by decide) ?_
                                                          refine WPe_iadd (pc := 1048) (dd dtL_law_14 6 rfl) ?_
                                                          refine WPe_ck fun h381 => ?_
                                                          refine WPe_sld2 (pc := 1049) (dd dtL_law_14 7 rfl) hg h381 ?_
                                                          refine WPe_ck fun h382 => ?_
                                                          refine WPe_callV (pc := 1050) (rtc := rtI) (Mc := mX6_steams) (d' := 8) (mc' := 0) (ms' := 0) [vI (xs ((v.2.2 + (1 : Int32))).toNatClampNeg), vI (xs ((v.2.2 + (2 : Int32))).toNatClampNeg), vI (xs ((v.2.2 + (3 : Int32))).toNatClampNeg)] [vI z376.1] rfl (dd dtL_law_14 8 rfl) (okf6_steams v.2.1 (xs ((v.2.2 + (1 : Int32))).toNatClampNeg) (xs ((v.2.2 + (2 : Int32))).toNatClampNeg) (xs ((v.2.2 + (3 : Int32))).toNatClampNeg) z376.2) moX6_steams miX6_steams (bw_mem5 128 rfl rfl) (Or.inl ⟨_, _, _, _, (shE h382), rfl⟩) rfl (Nat.le_of_ble_eq_true rfl) ⟨(Nat.le_of_ble_eq_true rfl), (Nat.le_of_ble_eq_true rfl)⟩ ⟨by show c + 0 + 0 ≤ 1606; omega, by show s + 0 + 0 ≤ 108616; omega⟩ (fun z383 h384 e385 => ?_)
                                                          refine WPe_st (st2 := [vI z383.1, vI z376.1]) rfl ?_
                                                          refine WPe_icmp_eq (pc := 1053) 1505 (dd dtL_law_14 9 rfl) (by decide) (fun h386 => ?_) (fun h386 => ?_)
                                                          · refine WPe_sub [0, 1, 2, 3] rfl ?_
                                                            exact wpjL_law_1505 X w0 L xs hg n k18 hk18 _ _ (by omega) (by omega) _ _ _ _
                                                          · refine WPe_iconst (pc := 1056) (0 : Int32) (dd dtL_law_14 10 rfl) (by decide) ?_
                                                            exact WPe_zreturn (pc := 1057) (ty := .boolean) (dd dtL_law_14 11 rfl) rfl rfl rfl ⟨by show c + 0 + 0 + 0 ≤ 1606; omega, by show s + 0 + 0 + 0 ≤ 108616; omega⟩
                                                        · refine WPe_ite (fun h387 => ?_) (fun h387 => ?_)
                                                          · refine WPe_tabIn (pc := 33) (27 : Int32) 1058 (dd dtL_law_0 21 rfl) h387 (by decide) (by decide) rfl (by decide) ?_
                                                            refine WPe_aload_n (pc := 1058) 1 (dd dtL_law_14 12 rfl) rfl ?_
                                                            refine WPe_aload_n (pc := 1059) 0 (dd dtL_law_14 13 rfl) rfl ?_
                                                            refine WPe_iload_n (pc := 1060) 3 (dd dtL_law_14 14 rfl) rfl ?_
                                                            refine WPe_iconst (pc := 1061) (1 : Int32) (dd dtL_law_14 15 rfl) (by decide) ?_
                                                            refine WPe_iadd (pc := 1062) (dd dtL_law_14 16 rfl) ?_
                                                            refine WPe_ck fun h388 => ?_
                                                            refine WPe_sld2 (pc := 1063) (dd dtL_law_14 17 rfl) hg h388 ?_
                                                            refine WPe_ck fun h389 => ?_
                                                            refine WPe_callV (pc := 1064) (rtc := rtI) (Mc := mX5_whose) (d' := 7) (mc' := 0) (ms' := 0) [vI (xs ((v.2.2 + (1 : Int32))).toNatClampNeg)] [] rfl (dd dtL_law_14 18 rfl) (okf5_whose v.1 (xs ((v.2.2 + (1 : Int32))).toNatClampNeg) w) moX5_whose miX5_whose (bw_mem3 160 rfl rfl) (Or.inl ⟨_, _, _, _, (shE h389), rfl⟩) rfl (Nat.le_of_ble_eq_true rfl) ⟨(Nat.le_of_ble_eq_true rfl), (Nat.le_of_ble_eq_true rfl)⟩ ⟨by show c + 0 ≤ 1606; omega, by show s + 0 ≤ 108616; omega⟩ (fun z390 h391 e392 => ?_)
                                                            refine WPe_st (st2 := [vI z390.1]) rfl ?_
                                                            refine WPe_aload_n (pc := 1067) 2 (dd dtL_law_14 19 rfl) rfl ?_
                                                            refine WPe_aload_n (pc := 1068) 0 (dd dtL_law_14 20 rfl) rfl ?_
                                                            refine WPe_iload_n (pc := 1069) 3 (dd dtL_law_14 21 rfl) rfl ?_
                                                            refine WPe_iconst (pc := 1070) (1 : Int32) (dd dtL_law_14 22 rfl) (by decide) ?_
                                                            refine WPe_iadd (pc := 1071) (dd dtL_law_14 23 rfl) ?_
                                                            refine WPe_ck fun h393 => ?_
                                                            refine WPe_sld2 (pc := 1072) (dd dtL_law_14 24 rfl) hg h393 ?_
                                                            refine WPe_ck fun h394 => ?_
                                                            refine WPe_callV (pc := 1073) (rtc := rtI) (Mc := mX6_whose) (d' := 8) (mc' := 0) (ms' := 0) [vI (xs ((v.2.2 + (1 : Int32))).toNatClampNeg)] [vI z390.1] rfl (dd dtL_law_14 25 rfl) (okf6_whose v.2.1 (xs ((v.2.2 + (1 : Int32))).toNatClampNeg) z390.2) moX6_whose miX6_whose (bw_mem5 132 rfl rfl) (Or.inl ⟨_, _, _, _, (shE h394), rfl⟩) rfl (Nat.le_of_ble_eq_true rfl) ⟨(Nat.le_of_ble_eq_true rfl), (Nat.le_of_ble_eq_true rfl)⟩ ⟨by show c + 0 + 0 ≤ 1606; omega, by show s + 0 + 0 ≤ 108616; omega⟩ (fun z395 h396 e397 => ?_)
                                                            refine WPe_st (st2 := [vI z395.1, vI z390.1]) rfl ?_
                                                            refine WPe_icmp_eq (pc := 1076) 1505 (dd dtL_law_14 26 rfl) (by decide) (fun h398 => ?_) (fun h398 => ?_)
                                                            · refine WPe_sub [0, 1, 2, 3] rfl ?_
                                                              exact wpjL_law_1505 X w0 L xs hg n k18 hk18 _ _ (by omega) (by omega) _ _ _ _
                                                            · refine WPe_iconst (pc := 1079) (0 : Int32) (dd dtL_law_14 27 rfl) (by decide) ?_
                                                              exact WPe_zreturn (pc := 1080) (ty := .boolean) (dd dtL_law_14 28 rfl) rfl rfl rfl ⟨by show c + 0 + 0 + 0 ≤ 1606; omega, by show s + 0 + 0 + 0 ≤ 108616; omega⟩
                                                          · refine WPe_ite (fun h399 => ?_) (fun h399 => ?_)
                                                            · refine WPe_tabIn (pc := 33) (28 : Int32) 1081 (dd dtL_law_0 21 rfl) h399 (by decide) (by decide) rfl (by decide) ?_
                                                              refine WPe_aload_n (pc := 1081) 1 (dd dtL_law_14 29 rfl) rfl ?_
                                                              refine WPe_aload_n (pc := 1082) 0 (dd dtL_law_14 30 rfl) rfl ?_
                                                              refine WPe_iload_n (pc := 1083) 3 (dd dtL_law_14 31 rfl) rfl ?_
                                                              refine WPe_iconst (pc := 1084) (1 : Int32) (dd dtL_law_14 32 rfl) (by decide) ?_
                                                              refine WPe_iadd (pc := 1085) (dd dtL_law_14 33 rfl) ?_
                                                              refine WPe_ck fun h400 => ?_
                                                              refine WPe_sld2 (pc := 1086) (dd dtL_law_14 34 rfl) hg h400 ?_
                                                              refine WPe_aload_n (pc := 1087) 0 (dd dtL_law_14 35 rfl) rfl ?_
                                                              refine WPe_iload_n (pc := 1088) 3 (dd dtL_law_14 36 rfl) rfl ?_
                                                              refine WPe_iconst (pc := 1089) (2 : Int32) (dd dtL_law_14 37 rfl) (by decide) ?_
                                                              refine WPe_iadd (pc := 1090) (dd dtL_law_14 38 rfl) ?_
                                                              refine WPe_ck fun h401 => ?_
                                                              refine WPe_sld2 (pc := 1091) (dd dtL_law_14 39 rfl) hg h401 ?_
                                                              refine WPe_ck fun h402 => ?_
                                                              refine WPe_callV (pc := 1092) (rtc := rtI) (Mc := mX5_laws) (d' := 7) (mc' := 0) (ms' := 0) [vI (xs ((v.2.2 + (1 : Int32))).toNatClampNeg), vI (xs ((v.2.2 + (2 : Int32))).toNatClampNeg)] [] rfl (dd dtL_law_14 40 rfl) (okf5_laws v.1 (xs ((v.2.2 + (1 : Int32))).toNatClampNeg) (xs ((v.2.2 + (2 : Int32))).toNatClampNeg) w) moX5_laws miX5_laws (bw_mem3 164 rfl rfl) (Or.inl ⟨_, _, _, _, (shE h402), rfl⟩) rfl (Nat.le_of_ble_eq_true rfl) ⟨(Nat.le_of_ble_eq_true rfl), (Nat.le_of_ble_eq_true rfl)⟩ ⟨by show c + 0 ≤ 1606; omega, by show s + 0 ≤ 108616; omega⟩ (fun z403 h404 e405 => ?_)
                                                              refine WPe_st (st2 := [vI z403.1]) rfl ?_
                                                              refine WPe_aload_n (pc := 1095) 2 (dd dtL_law_14 41 rfl) rfl ?_
                                                              refine WPe_aload_n (pc := 1096) 0 (dd dtL_law_14 42 rfl) rfl ?_
                                                              refine WPe_iload_n (pc := 1097) 3 (dd dtL_law_14 43 rfl) rfl ?_
                                                              refine WPe_iconst (pc := 1098) (1 : Int32) (dd dtL_law_14 44 rfl) (by decide) ?_
                                                              refine WPe_iadd (pc := 1099) (dd dtL_law_14 45 rfl) ?_
                                                              refine WPe_ck fun h406 => ?_
                                                              refine WPe_sld2 (pc := 1100) (dd dtL_law_14 46 rfl) hg h406 ?_
                                                              refine WPe_aload_n (pc := 1101) 0 (dd dtL_law_14 47 rfl) rfl ?_
                                                              refine WPe_iload_n (pc := 1102) 3 (dd dtL_law_14 48 rfl) rfl ?_
                                                              refine WPe_iconst (pc := 1103) (2 : Int32) (dd dtL_law_14 49 rfl) (by decide) ?_
                                                              refine WPe_iadd (pc := 1104) (dd dtL_law_15 0 rfl) ?_
                                                              refine WPe_ck fun h407 => ?_
                                                              refine WPe_sld2 (pc := 1105) (dd dtL_law_15 1 rfl) hg h407 ?_
                                                              refine WPe_ck fun h408 => ?_
                                                              refine WPe_callV (pc := 1106) (rtc := rtI) (Mc := mX6_laws) (d' := 8) (mc' := 0) (ms' := 0) [vI (xs ((v.2.2 + (1 : Int32))).toNatClampNeg), vI (xs ((v.2.2 + (2 : Int32))).toNatClampNeg)] [vI z403.1] rfl (dd dtL_law_15 2 rfl) (okf6_laws v.2.1 (xs ((v.2.2 + (1 : Int32))).toNatClampNeg) (xs ((v.2.2 + (2 : Int32))).toNatClampNeg) z403.2) moX6_laws miX6_laws (bw_mem5 136 rfl rfl) (Or.inl ⟨_, _, _, _, (shE h408), rfl⟩) rfl (Nat.le_of_ble_eq_true rfl) ⟨(Nat.le_of_ble_eq_true rfl), (Nat.le_of_ble_eq_true rfl)⟩ ⟨by show c + 0 + 0 ≤ 1606; omega, by show s + 0 + 0 ≤ 108616; omega⟩ (fun z409 h410 e411 => ?_)
                                                              refine WPe_st (st2 := [vI z409.1, vI z403.1]) rfl ?_
                                                              refine WPe_icmp_eq (pc := 1109) 1505 (dd dtL_law_15 3 rfl) (by decide) (fun h412 => ?_) (fun h412 => ?_)
                                                              · refine WPe_sub [0, 1, 2, 3] rfl ?_
                                                                exact wpjL_law_1505 X w0 L xs hg n k18 hk18 _ _ (by omega) (by omega) _ _ _ _
                                                              · refine WPe_iconst (pc := 1112) (0 : Int32) (dd dtL_law_15 4 rfl) (by decide) ?_
                                                                exact WPe_zreturn (pc := 1113) (ty := .boolean) (dd dtL_law_15 5 rfl) rfl rfl rfl ⟨by show c + 0 + 0 + 0 ≤ 1606; omega, by show s + 0 + 0 + 0 ≤ 108616; omega⟩
                                                            · refine WPe_ite (fun h413 => ?_) (fun h413 => ?_)
                                                              · refine WPe_tabIn (pc := 33) (29 : Int32) 1114 (dd dtL_law_0 21 rfl) h413 (by decide) (by decide) rfl (by decide) ?_
                                                                refine WPe_aload_n (pc := 1114) 1 (dd dtL_law_15 6 rfl) rfl ?_
                                                                refine WPe_aload_n (pc := 1115) 0 (dd dtL_law_15 7 rfl) rfl ?_
                                                                refine WPe_iload_n (pc := 1116) 3 (dd dtL_law_15 8 rfl) rfl ?_
                                                                refine WPe_iconst (pc := 1117) (1 : Int32) (dd dtL_law_15 9 rfl) (by decide) ?_
                                                                refine WPe_iadd (pc := 1118) (dd dtL_law_15 10 rfl) ?_
                                                                refine WPe_ck fun h414 => ?_
                                                                refine WPe_sld2 (pc := 1119) (dd dtL_law_15 11 rfl) hg h414 ?_
                                                                refine WPe_aload_n (pc := 1120) 0 (dd dtL_law_15 12 rfl) rfl ?_
                                                                refine WPe_iload_n (pc := 1121) 3 (dd dtL_law_15 13 rfl) rfl ?_
                                                                refine WPe_iconst (pc := 1122) (2 : Int32) (dd dtL_law_15 14 rfl) (by decide) ?_
                                                                refine WPe_iadd (pc := 1123) (dd dtL_law_15 15 rfl) ?_
                                                                refine WPe_ck fun h415 => ?_
                                                                refine WPe_sld2 (pc := 1124) (dd dtL_law_15 16 rfl) hg h415 ?_
                                                                refine WPe_aload_n (pc := 1125) 0 (dd dtL_law_15 17 rfl) rfl ?_
                                                                refine WPe_iload_n (pc := 1126) 3 (dd dtL_law_15 18 rfl) rfl ?_
                                                                refine WPe_iconst (pc := 1127) (3 : Int32) (dd dtL_law_15 19 rfl) (by decide) ?_
                                                                refine WPe_iadd (pc := 1128) (dd dtL_law_15 20 rfl) ?_
                                                                refine WPe_ck fun h416 => ?_
                                                                refine WPe_sld2 (pc := 1129) (dd dtL_law_15 21 rfl) hg h416 ?_
                                                                refine WPe_ck fun h417 => ?_
                                                                refine WPe_callV (pc := 1130) (rtc := rtI) (Mc := mX5_film) (d' := 6) (mc' := 0) (ms' := 0) [vI (xs ((v.2.2 + (1 : Int32))).toNatClampNeg), vI (xs ((v.2.2 + (2 : Int32))).toNatClampNeg), vI (xs ((v.2.2 + (3 : Int32))).toNatClampNeg)] [] rfl (dd dtL_law_15 22 rfl) (okf5_film v.1 (xs ((v.2.2 + (1 : Int32))).toNatClampNeg) (xs ((v.2.2 + (2 : Int32))).toNatClampNeg) (xs ((v.2.2 + (3 : Int32))).toNatClampNeg) w) moX5_film miX5_film (bw_mem3 168 rfl rfl) (Or.inl ⟨_, _, _, _, (shE h417), rfl⟩) rfl (Nat.le_of_ble_eq_true rfl) ⟨(Nat.le_of_ble_eq_true rfl), (Nat.le_of_ble_eq_true rfl)⟩ ⟨by show c + 0 ≤ 1606; omega, by show s + 0 ≤ 108616; omega⟩ (fun z418 h419 e420 => ?_)
                                                                refine WPe_st (st2 := [vI z418.1]) rfl ?_
                                                                refine WPe_aload_n (pc := 1133) 2 (dd dtL_law_15 23 rfl) rfl ?_
                                                                refine WPe_aload_n (pc := 1134) 0 (dd dtL_law_15 24 rfl) rfl ?_
                                                                refine WPe_iload_n (pc := 1135) 3 (dd dtL_law_15 25 rfl) rfl ?_
                                                                refine WPe_iconst (pc := 1136) (1 : Int32) (dd dtL_law_15 26 rfl) (by decide) ?_
                                                                refine WPe_iadd (pc := 1137) (dd dtL_law_15 27 rfl) ?_
                                                                refine WPe_ck fun h421 => ?_
                                                                refine WPe_sld2 (pc := 1138) (dd dtL_law_15 28 rfl) hg h421 ?_
                                                                refine WPe_aload_n (pc := 1139) 0 (dd dtL_law_15 29 rfl) rfl ?_
                                                                refine WPe_iload_n (pc := 1140) 3 (dd dtL_law_15 30 rfl) rfl ?_
                                                                refine WPe_iconst (pc := 1141) (2 : Int32) (dd dtL_law_15 31 rfl) (by decide) ?_
                                                                refine WPe_iadd (pc := 1142) (dd dtL_law_15 32 rfl) ?_
                                                                refine WPe_ck fun h422 => ?_
                                                                refine WPe_sld2 (pc := 1143) (dd dtL_law_15 33 rfl) hg h422 ?_
                                                                refine WPe_aload_n (pc := 1144) 0 (dd dtL_law_15 34 rfl) rfl ?_
                                                                refine WPe_iload_n (pc := 1145) 3 (dd dtL_law_15 35 rfl) rfl ?_
                                                                refine WPe_iconst (pc := 1146) (3 : Int32) (dd dtL_law_15 36 rfl) (by decide) ?_
                                                                refine WPe_iadd (pc := 1147) (dd dtL_law_15 37 rfl) ?_
                                                                refine WPe_ck fun h423 => ?_
                                                                refine WPe_sld2 (pc := 1148) (dd dtL_law_15 38 rfl) hg h423 ?_
                                                                refine WPe_ck fun h424 => ?_
                                                                refine WPe_callV (pc := 1149) (rtc := rtI) (Mc := mX6_film) (d' := 7) (mc' := 0) (ms' := 0) [vI (xs ((v.2.2 + (1 : Int32))).toNatClampNeg), vI (xs ((v.2.2 + (2 : Int32))).toNatClampNeg), vI (xs ((v.2.2 + (3 : Int32))).toNatClampNeg)] [vI z418.1] rfl (dd dtL_law_15 39 rfl) (okf6_film v.2.1 (xs ((v.2.2 + (1 : Int32))).toNatClampNeg) (xs ((v.2.2 + (2 : Int32))).toNatClampNeg) (xs ((v.2.2 + (3 : Int32))).toNatClampNeg) z418.2) moX6_film miX6_film (bw_mem5 140 rfl rfl) (Or.inl ⟨_, _, _, _, (shE h424), rfl⟩) rfl (Nat.le_of_ble_eq_true rfl) ⟨(Nat.le_of_ble_eq_true rfl), (Nat.le_of_ble_eq_true rfl)⟩ ⟨by show c + 0 + 0 ≤ 1606; omega, by show s + 0 + 0 ≤ 108616; omega⟩ (fun z425 h426 e427 => ?_)
                                                                refine WPe_st (st2 := [vI z425.1, vI z418.1]) rfl ?_
                                                                refine WPe_icmp_eq (pc := 1152) 1505 (dd dtL_law_15 40 rfl) (by decide) (fun h428 => ?_) (fun h428 => ?_)
                                                                · refine WPe_sub [0, 1, 2, 3] rfl ?_
                                                                  exact wpjL_law_1505 X w0 L xs hg n k18 hk18 _ _ (by omega) (by omega) _ _ _ _
                                                                · refine WPe_iconst (pc := 1155) (0 : Int32) (dd dtL_law_15 41 rfl) (by decide) ?_
                                                                  exact WPe_zreturn (pc := 1156) (ty := .boolean) (dd dtL_law_15 42 rfl) rfl rfl rfl ⟨by show c + 0 + 0 + 0 ≤ 1606; omega, by show s + 0 + 0 + 0 ≤ 108616; omega⟩
                                                              · refine WPe_ite (fun h429 => ?_) (fun h429 => ?_)
                                                                · refine WPe_tabIn (pc := 33) (30 : Int32) 1157 (dd dtL_law_0 21 rfl) h429 (by decide) (by decide) rfl (by decide) ?_
                                                                  refine WPe_aload_n (pc := 1157) 1 (dd dtL_law_15 43 rfl) rfl ?_
                                                                  refine WPe_aload_n (pc := 1158) 0 (dd dtL_law_15 44 rfl) rfl ?_
                                                                  refine WPe_iload_n (pc := 1159) 3 (dd dtL_law_15 45 rfl) rfl ?_
                                                                  refine WPe_iconst (pc := 1160) (1 : Int32) (dd dtL_law_15 46 rfl) (by decide) ?_
                                                                  refine WPe_iadd (pc := 1161) (dd dtL_law_15 47 rfl) ?_
                                                                  refine WPe_ck fun h430 => ?_
                                                                  refine WPe_sld2 (pc := 1162) (dd dtL_law_15 48 rfl) hg h430 ?_
                                                                  refine WPe_aload_n (pc := 1163) 0 (dd dtL_law_15 49 rfl) rfl ?_
                                                                  refine WPe_iload_n (pc := 1164) 3 (dd dtL_law_16 0 rfl) rfl ?_
                                                                  refine WPe_iconst (pc := 1165) (2 : Int32) (dd dtL_law_16 1 rfl) (by decide) ?_
                                                                  refine WPe_iadd (pc := 1166) (dd dtL_law_16 2 rfl) ?_
                                                                  refine WPe_ck fun h431 => ?_
                                                                  refine WPe_sld2 (pc := 1167) (dd dtL_law_16 3 rfl) hg h431 ?_
                                                                  refine WPe_ck fun h432 => ?_
                                                                  refine WPe_callV (pc := 1168) (rtc := rtI) (Mc := mX5_drawn) (d' := 7) (mc' := 0) (ms' := 0) [vI (xs ((v.2.2 + (1 : Int32))).toNatClampNeg), vI (xs ((v.2.2 + (2 : Int32))).toNatClampNeg)] [] rfl (dd dtL_law_16 4 rfl) (okf5_drawn v.1 (xs ((v.2.2 + (1 : Int32))).toNatClampNeg) (xs ((v.2.2 + (2 : Int32))).toNatClampNeg) w) moX5_drawn miX5_drawn (bw_mem3 187 rfl rfl) (Or.inl ⟨_, _, _, _, (shE h432), rfl⟩) rfl (Nat.le_of_ble_eq_true rfl) ⟨(Nat.le_of_ble_eq_true rfl), (Nat.le_of_ble_eq_true rfl)⟩ ⟨by show c + 0 ≤ 1606; omega, by show s + 0 ≤ 108616; omega⟩ (fun z433 h434 e435 => ?_)
                                                                  refine WPe_st (st2 := [vI z433.1]) rfl ?_
                                                                  refine WPe_aload_n (pc := 1171) 2 (dd dtL_law_16 5 rfl) rfl ?_
                                                                  refine WPe_aload_n (pc := 1172) 0 (dd dtL_law_16 6 rfl) rfl ?_
                                                                  refine WPe_iload_n (pc := 1173) 3 (dd dtL_law_16 7 rfl) rfl ?_
                                                                  refine WPe_iconst (pc := 1174) (1 : Int32) (dd dtL_law_16 8 rfl) (by decide) ?_
                                                                  refine WPe_iadd (pc := 1175) (dd dtL_law_16 9 rfl) ?_
                                                                  refine WPe_ck fun h436 => ?_
                                                                  refine WPe_sld2 (pc := 1176) (dd dtL_law_16 10 rfl) hg h436 ?_
                                                                  refine WPe_aload_n (pc := 1177) 0 (dd dtL_law_16 11 rfl) rfl ?_
                                                                  refine WPe_iload_n (pc := 1178) 3 (dd dtL_law_16 12 rfl) rfl ?_
                                                                  refine WPe_iconst (pc := 1179) (2 : Int32) (dd dtL_law_16 13 rfl) (by decide) ?_
                                                                  refine WPe_iadd (pc := 1180) (dd dtL_law_16 14 rfl) ?_
                                                                  refine WPe_ck fun h437 => ?_
                                                                  refine WPe_sld2 (pc := 1181) (dd dtL_law_16 15 rfl) hg h437 ?_
                                                                  refine WPe_ck fun h438 => ?_
                                                                  refine WPe_callV (pc := 1182) (rtc := rtI) (Mc := mX6_drawn) (d' := 8) (mc' := 0) (ms' := 0) [vI (xs ((v.2.2 + (1 : Int32))).toNatClampNeg), vI (xs ((v.2.2 + (2 : Int32))).toNatClampNeg)] [vI z433.1] rfl (dd dtL_law_16 16 rfl) (okf6_drawn v.2.1 (xs ((v.2.2 + (1 : Int32))).toNatClampNeg) (xs ((v.2.2 + (2 : Int32))).toNatClampNeg) z433.2) moX6_drawn miX6_drawn (bw_mem5 144 rfl rfl) (Or.inl ⟨_, _, _, _, (shE h438), rfl⟩) rfl (Nat.le_of_ble_eq_true rfl) ⟨(Nat.le_of_ble_eq_true rfl), (Nat.le_of_ble_eq_true rfl)⟩ ⟨by show c + 0 + 0 ≤ 1606; omega, by show s + 0 + 0 ≤ 108616; omega⟩ (fun z439 h440 e441 => ?_)
                                                                  refine WPe_st (st2 := [vI z439.1, vI z433.1]) rfl ?_
                                                                  refine WPe_icmp_eq (pc := 1185) 1505 (dd dtL_law_16 17 rfl) (by decide) (fun h442 => ?_) (fun h442 => ?_)
                                                                  · refine WPe_sub [0, 1, 2, 3] rfl ?_
                                                                    exact wpjL_law_1505 X w0 L xs hg n k18 hk18 _ _ (by omega) (by omega) _ _ _ _
                                                                  · refine WPe_iconst (pc := 1188) (0 : Int32) (dd dtL_law_16 18 rfl) (by decide) ?_
                                                                    exact WPe_zreturn (pc := 1189) (ty := .boolean) (dd dtL_law_16 19 rfl) rfl rfl rfl ⟨by show c + 0 + 0 + 0 ≤ 1606; omega, by show s + 0 + 0 + 0 ≤ 108616; omega⟩
                                                                · refine WPe_ite (fun h443 => ?_) (fun h443 => ?_)
                                                                  · refine WPe_tabIn (pc := 33) (31 : Int32) 1190 (dd dtL_law_0 21 rfl) h443 (by decide) (by decide) rfl (by decide) ?_
                                                                    refine WPe_aload_n (pc := 1190) 1 (dd dtL_law_16 20 rfl) rfl ?_
                                                                    refine WPe_aload_n (pc := 1191) 0 (dd dtL_law_16 21 rfl) rfl ?_
                                                                    refine WPe_iload_n (pc := 1192) 3 (dd dtL_law_16 22 rfl) rfl ?_
                                                                    refine WPe_iconst (pc := 1193) (1 : Int32) (dd dtL_law_16 23 rfl) (by decide) ?_
                                                                    refine WPe_iadd (pc := 1194) (dd dtL_law_16 24 rfl) ?_
                                                                    refine WPe_ck fun h444 => ?_
                                                                    refine WPe_sld2 (pc := 1195) (dd dtL_law_16 25 rfl) hg h444 ?_
                                                                    refine WPe_aload_n (pc := 1196) 0 (dd dtL_law_16 26 rfl) rfl ?_
                                                                    refine WPe_iload_n (pc := 1197) 3 (dd dtL_law_16 27 rfl) rfl ?_
                                                                    refine WPe_iconst (pc := 1198) (2 : Int32) (dd dtL_law_16 28 rfl) (by decide) ?_
                                                                    refine WPe_iadd (pc := 1199) (dd dtL_law_16 29 rfl) ?_
                                                                    refine WPe_ck fun h445 => ?_
                                                                    refine WPe_sld2 (pc := 1200) (dd dtL_law_16 30 rfl) hg h445 ?_
                                                                    refine WPe_aload_n (pc := 1201) 0 (dd dtL_law_16 31 rfl) rfl ?_
                                                                    refine WPe_iload_n (pc := 1202) 3 (dd dtL_law_16 32 rfl) rfl ?_
                                                                    refine WPe_iconst (pc := 1203) (3 : Int32) (dd dtL_law_16 33 rfl) (by decide) ?_
                                                                    refine WPe_iadd (pc := 1204) (dd dtL_law_16 34 rfl) ?_
                                                                    refine WPe_ck fun h446 => ?_
                                                                    refine WPe_sld2 (pc := 1205) (dd dtL_law_16 35 rfl) hg h446 ?_
                                                                    refine WPe_aload_n (pc := 1206) 0 (dd dtL_law_16 36 rfl) rfl ?_
                                                                    refine WPe_iload_n (pc := 1207) 3 (dd dtL_law_16 37 rfl) rfl ?_
                                                                    refine WPe_iconst (pc := 1208) (4 : Int32) (dd dtL_law_16 38 rfl) (by decide) ?_
                                                                    refine WPe_iadd (pc := 1209) (dd dtL_law_16 39 rfl) ?_
                                                                    refine WPe_ck fun h447 => ?_
                                                                    refine WPe_sld2 (pc := 1210) (dd dtL_law_16 40 rfl) hg h447 ?_
                                                                    refine WPe_ck fun h448 => ?_
                                                                    refine WPe_callV (pc := 1211) (rtc := rtJ) (Mc := mX5_odds) (d' := 7) (mc' := 0) (ms' := 0) [vI (xs ((v.2.2 + (1 : Int32))).toNatClampNeg), vI (xs ((v.2.2 + (2 : Int32))).toNatClampNeg), vI (xs ((v.2.2 + (3 : Int32))).toNatClampNeg), vI (xs ((v.2.2 + (4 : Int32))).toNatClampNeg)] [] rfl (dd dtL_law_16 41 rfl) (okf5_odds v.1 (xs ((v.2.2 + (1 : Int32))).toNatClampNeg) (xs ((v.2.2 + (2 : Int32))).toNatClampNeg) (xs ((v.2.2 + (3 : Int32))).toNatClampNeg) (xs ((v.2.2 + (4 : Int32))).toNatClampNeg) w) moX5_odds miX5_odds (bw_mem3 199 rfl rfl) (Or.inl ⟨_, _, _, _, (shE h448), rfl⟩) rfl (Nat.le_of_ble_eq_true rfl) ⟨(Nat.le_of_ble_eq_true rfl), (Nat.le_of_ble_eq_true rfl)⟩ ⟨by show c + 0 ≤ 1606; omega, by show s + 0 ≤ 108616; omega⟩ (fun z449 h450 e451 => ?_)
                                                                    refine WPe_st (st2 := [vJ z449.1]) rfl ?_
                                                                    refine WPe_aload_n (pc := 1214) 2 (dd dtL_law_16 42 rfl) rfl ?_
                                                                    refine WPe_aload_n (pc := 1215) 0 (dd dtL_law_16 43 rfl) rfl ?_
                                                                    refine WPe_iload_n (pc := 1216) 3 (dd dtL_law_16 44 rfl) rfl ?_
                                                                    refine WPe_iconst (pc := 1217) (1 : Int32) (dd dtL_law_16 45 rfl) (by decide) ?_
                                                                    refine WPe_iadd (pc := 1218) (dd dtL_law_16 46 rfl) ?_
                                                                    refine WPe_ck fun h452 => ?_
                                                                    refine WPe_sld2 (pc := 1219) (dd dtL_law_16 47 rfl) hg h452 ?_
                                                                    refine WPe_aload_n (pc := 1220) 0 (dd dtL_law_16 48 rfl) rfl ?_
                                                                    refine WPe_iload_n (pc := 1221) 3 (dd dtL_law_16 49 rfl) rfl ?_
                                                                    refine WPe_iconst (pc := 1222) (2 : Int32) (dd dtL_law_17 0 rfl) (by decide) ?_
                                                                    refine WPe_iadd (pc := 1223) (dd dtL_law_17 1 rfl) ?_
                                                                    refine WPe_ck fun h453 => ?_
                                                                    refine WPe_sld2 (pc := 1224) (dd dtL_law_17 2 rfl) hg h453 ?_
                                                                    refine WPe_aload_n (pc := 1225) 0 (dd dtL_law_17 3 rfl) rfl ?_
                                                                    refine WPe_iload_n (pc := 1226) 3 (dd dtL_law_17 4 rfl) rfl ?_
                                                                    refine WPe_iconst (pc := 1227) (3 : Int32) (dd dtL_law_17 5 rfl) (by decide) ?_
                                                                    refine WPe_iadd (pc := 1228) (dd dtL_law_17 6 rfl) ?_
                                                                    refine WPe_ck fun h454 => ?_
                                                                    refine WPe_sld2 (pc := 1229) (dd dtL_law_17 7 rfl) hg h454 ?_
                                                                    refine WPe_aload_n (pc := 1230) 0 (dd dtL_law_17 8 rfl) rfl ?_
                                                                    refine WPe_iload_n (pc := 1231) 3 (dd dtL_law_17 9 rfl) rfl ?_
                                                                    refine WPe_iconst (pc := 1232) (4 : Int32) (dd dtL_law_17 10 rfl) (by decide) ?_
                                                                    refine WPe_iadd (pc := 1233) (dd dtL_law_17 11 rfl) ?_
                                                                    refine WPe_ck fun h455 => ?_
                                                                    refine WPe_sld2 (pc := 1234) (dd dtL_law_17 12 rfl) hg h455 ?_
                                                                    refine WPe_ck fun h456 => ?_
                                                                    refine WPe_callV (pc := 1235) (rtc := rtJ) (Mc := mX6_odds) (d' := 8) (mc' := 0) (ms' := 0) [vI (xs ((v.2.2 + (1 : Int32))).toNatClampNeg), vI (xs ((v.2.2 + (2 : Int32))).toNatClampNeg), vI (xs ((v.2.2 + (3 : Int32))).toNatClampNeg), vI (xs ((v.2.2 + (4 : Int32))).toNatClampNeg)] [vJ z449.1] rfl (dd dtL_law_17 13 rfl) (okf6_odds v.2.1 (xs ((v.2.2 + (1 : Int32))).toNatClampNeg) (xs ((v.2.2 + (2 : Int32))).toNatClampNeg) (xs ((v.2.2 + (3 : Int32))).toNatClampNeg) (xs ((v.2.2 + (4 : Int32))).toNatClampNeg) z449.2) moX6_odds miX6_odds (bw_mem5 156 rfl rfl) (Or.inl ⟨_, _, _, _, (shE h456), rfl⟩) rfl (Nat.le_of_ble_eq_true rfl) ⟨(Nat.le_of_ble_eq_true rfl), (Nat.le_of_ble_eq_true rfl)⟩ ⟨by show c + 0 + 0 ≤ 1606; omega, by show s + 0 + 0 ≤ 108616; omega⟩ (fun z457 h458 e459 => ?_)
                                                                    refine WPe_st (st2 := [vJ z457.1, vJ z449.1]) rfl ?_
                                                                    refine WPe_lcmp (pc := 1238) (dd dtL_law_17 14 rfl) ?_
                                                                    refine WPe_if_eq (pc := 1239) 1505 (dd dtL_law_17 15 rfl) (by decide) (fun h460 => ?_) (fun h460 => ?_)
                                                                    · refine WPe_sub [0, 1, 2, 3] rfl ?_
                                                                      exact wpjL_law_1505 X w0 L xs hg n k18 hk18 _ _ (by omega) (by omega) _ _ _ _
                                                                    · refine WPe_iconst (pc := 1242) (0 : Int32) (dd dtL_law_17 16 rfl) (by decide) ?_
                                                                      exact WPe_zreturn (pc := 1243) (ty := .boolean) (dd dtL_law_17 17 rfl) rfl rfl rfl ⟨by show c + 0 + 0 + 0 ≤ 1606; omega, by show s + 0 + 0 + 0 ≤ 108616; omega⟩
                                                                  · refine WPe_ite (fun h461 => ?_) (fun h461 => ?_)
                                                                    · refine WPe_tabIn (pc := 33) (32 : Int32) 1244 (dd dtL_law_0 21 rfl) h461 (by decide) (by decide) rfl (by decide) ?_
                                                                      refine WPe_aload_n (pc := 1244) 1 (dd dtL_law_17 18 rfl) rfl ?_
                                                                      refine WPe_ck fun h462 => ?_
                                                                      refine WPe_callV (pc := 1245) (rtc := rtI) (Mc := mX5_image) (d' := 3) (mc' := 0) (ms' := 0) [] [] rfl (dd dtL_law_17 19 rfl) (okf5_image v.1 w) moX5_image miX5_image (bw_mem3 203 rfl rfl) (Or.inl ⟨_, _, _, _, (shE h462), rfl⟩) rfl (Nat.le_of_ble_eq_true rfl) ⟨(Nat.le_of_ble_eq_true rfl), (Nat.le_of_ble_eq_true rfl)⟩ ⟨by show c + 0 ≤ 1606; omega, by show s + 0 ≤ 108616; omega⟩ (fun z463 h464 e465 => ?_)
                                                                      refine WPe_st (st2 := [vI z463.1]) rfl ?_
                                                                      refine WPe_aload_n (pc := 1248) 2 (dd dtL_law_17 20 rfl) rfl ?_
                                                                      refine WPe_ck fun h466 => ?_
                                                                      refine WPe_callV (pc := 1249) (rtc := rtI) (Mc := mX6_image) (d' := 1) (mc' := 0) (ms' := 0) [] [vI z463.1] rfl (dd dtL_law_17 21 rfl) (okf6_image v.2.1 z463.2) moX6_image miX6_image (bw_mem5 160 rfl rfl) (Or.inl ⟨_, _, _, _, (shE h466), rfl⟩) rfl (Nat.le_of_ble_eq_true rfl) ⟨(Nat.le_of_ble_eq_true rfl), (Nat.le_of_ble_eq_true rfl)⟩ ⟨by show c + 0 + 0 ≤ 1606; omega, by show s + 0 + 0 ≤ 108616; omega⟩ (fun z467 h468 e469 => ?_)
                                                                      refine WPe_st (st2 := [vI z467.1, vI z463.1]) rfl ?_
                                                                      refine WPe_icmp_eq (pc := 1252) 1505 (dd dtL_law_17 22 rfl) (by decide) (fun h470 => ?_) (fun h470 => ?_)
                                                                      · refine WPe_sub [0, 1, 2, 3] rfl ?_
                                                                        exact wpjL_law_1505 X w0 L xs hg n k18 hk18 _ _ (by omega) (by omega) _ _ _ _
                                                                      · refine WPe_iconst (pc := 1255) (0 : Int32) (dd dtL_law_17 23 rfl) (by decide) ?_
                                                                        exact WPe_zreturn (pc := 1256) (ty := .boolean) (dd dtL_law_17 24 rfl) rfl rfl rfl ⟨by show c + 0 + 0 + 0 ≤ 1606; omega, by show s + 0 + 0 + 0 ≤ 108616; omega⟩
                                                                    · refine WPe_ite (fun h471 => ?_) (fun h471 => ?_)
                                                                      · refine WPe_tabIn (pc := 33) (33 : Int32) 1257 (dd dtL_law_0 21 rfl) h471 (by decide) (by decide) rfl (by decide) ?_
                                                                        refine WPe_aload_n (pc := 1257) 1 (dd dtL_law_17 25 rfl) rfl ?_
                                                                        refine WPe_ck fun h472 => ?_
                                                                        refine WPe_callV (pc := 1258) (rtc := rtI) (Mc := mX5_back) (d' := 3) (mc' := 0) (ms' := 0) [] [] rfl (dd dtL_law_17 26 rfl) (okf5_back v.1 w) moX5_back miX5_back (bw_mem3 207 rfl rfl) (Or.inl ⟨_, _, _, _, (shE h472), rfl⟩) rfl (Nat.le_of_ble_eq_true rfl) ⟨(Nat.le_of_ble_eq_true rfl), (Nat.le_of_ble_eq_true rfl)⟩ ⟨by show c + 0 ≤ 1606; omega, by show s + 0 ≤ 108616; omega⟩ (fun z473 h474 e475 => ?_)
                                                                        refine WPe_st (st2 := [vI z473.1]) rfl ?_
                                                                        refine WPe_aload_n (pc := 1261) 2 (dd dtL_law_17 27 rfl) rfl ?_
                                                                        refine WPe_ck fun h476 => ?_
                                                                        refine WPe_callV (pc := 1262) (rtc := rtI) (Mc := mX6_back) (d' := 1) (mc' := 0) (ms' := 0) [] [vI z473.1] rfl (dd dtL_law_17 28 rfl) (okf6_back v.2.1 z473.2) moX6_back miX6_back (bw_mem5 164 rfl rfl) (Or.inl ⟨_, _, _, _, (shE h476), rfl⟩) rfl (Nat.le_of_ble_eq_true rfl) ⟨(Nat.le_of_ble_eq_true rfl), (Nat.le_of_ble_eq_true rfl)⟩ ⟨by show c + 0 + 0 ≤ 1606; omega, by show s + 0 + 0 ≤ 108616; omega⟩ (fun z477 h478 e479 => ?_)
                                                                        refine WPe_st (st2 := [vI z477.1, vI z473.1]) rfl ?_
                                                                        refine WPe_icmp_eq (pc := 1265) 1505 (dd dtL_law_17 29 rfl) (by decide) (fun h480 => ?_) (fun h480 => ?_)
                                                                        · refine WPe_sub [0, 1, 2, 3] rfl ?_
                                                                          exact wpjL_law_1505 X w0 L xs hg n k18 hk18 _ _ (by omega) (by omega) _ _ _ _
                                                                        · refine WPe_iconst (pc := 1268) (0 : Int32) (dd dtL_law_17 30 rfl) (by decide) ?_
                                                                          exact WPe_zreturn (pc := 1269) (ty := .boolean) (dd dtL_law_17 31 rfl) rfl rfl rfl ⟨by show c + 0 + 0 + 0 ≤ 1606; omega, by show s + 0 + 0 + 0 ≤ 108616; omega⟩
                                                                      · refine WPe_ite (fun h481 => ?_) (fun h481 => ?_)
                                                                        · refine WPe_tabIn (pc := 33) (34 : Int32) 1270 (dd dtL_law_0 21 rfl) h481 (by decide) (by decide) rfl (by decide) ?_
                                                                          refine WPe_aload_n (pc := 1270) 1 (dd dtL_law_17 32 rfl) rfl ?_
                                                                          refine WPe_aload_n (pc := 1271) 0 (dd dtL_law_17 33 rfl) rfl ?_
                                                                          refine WPe_iload_n (pc := 1272) 3 (dd dtL_law_17 34 rfl) rfl ?_
                                                                          refine WPe_iconst (pc := 1273) (1 : Int32) (dd dtL_law_17 35 rfl) (by decide) ?_
                                                                          refine WPe_iadd (pc := 1274) (dd dtL_law_17 36 rfl) ?_
                                                                          refine WPe_ck fun h482 => ?_
                                                                          refine WPe_sld2 (pc := 1275) (dd dtL_law_17 37 rfl) hg h482 ?_
                                                                          refine WPe_aload_n (pc := 1276) 0 (dd dtL_law_17 38 rfl) rfl ?_
                                                                          refine WPe_iload_n (pc := 1277) 3 (dd dtL_law_17 39 rfl) rfl ?_
                                                                          refine WPe_iconst (pc := 1278) (2 : Int32) (dd dtL_law_17 40 rfl) (by decide) ?_
                                                                          refine WPe_iadd (pc := 1279) (dd dtL_law_17 41 rfl) ?_
                                                                          refine WPe_ck fun h483 => ?_
                                                                          refine WPe_sld2 (pc := 1280) (dd dtL_law_17 42 rfl) hg h483 ?_
                                                                          refine WPe_aload_n (pc := 1281) 0 (dd dtL_law_17 43 rfl) rfl ?_
                                                                          refine WPe_iload_n (pc := 1282) 3 (dd dtL_law_17 44 rfl) rfl ?_
                                                                          refine WPe_iconst (pc := 1283) (3 : Int32) (dd dtL_law_17 45 rfl) (by decide) ?_
                                                                          refine WPe_iadd (pc := 1284) (dd dtL_law_17 46 rfl) ?_
                                                                          refine WPe_ck fun h484 => ?_
                                                                          refine WPe_sld2 (pc := 1285) (dd dtL_law_17 47 rfl) hg h484 ?_
                                                                          refine WPe_ck fun h485 => ?_
                                                                          refine WPe_callV (pc := 1286) (rtc := rtI) (Mc := mX5_sheet) (d' := 3) (mc' := 0) (ms' := 0) [vI (xs ((v.2.2 + (1 : Int32))).toNatClampNeg), vI (xs ((v.2.2 + (2 : Int32))).toNatClampNeg), vI (xs ((v.2.2 + (3 : Int32))).toNatClampNeg)] [] rfl (dd dtL_law_17 48 rfl) (okf5_sheet v.1 (xs ((v.2.2 + (1 : Int32))).toNatClampNeg) (xs ((v.2.2 + (2 : Int32))).toNatClampNeg) (xs ((v.2.2 + (3 : Int32))).toNatClampNeg) w) moX5_sheet miX5_sheet (bw_mem3 211 rfl rfl) (Or.inl ⟨_, _, _, _, (shE h485), rfl⟩) rfl (Nat.le_of_ble_eq_true rfl) ⟨(Nat.le_of_ble_eq_true rfl), (Nat.le_of_ble_eq_true rfl)⟩ ⟨by show c + 0 ≤ 1606; omega, by show s + 0 ≤ 108616; omega⟩ (fun z486 h487 e488 => ?_)
                                                                          refine WPe_st (st2 := [vI z486.1]) rfl ?_
                                                                          refine WPe_aload_n (pc := 1289) 2 (dd dtL_law_17 49 rfl) rfl ?_
                                                                          refine WPe_aload_n (pc := 1290) 0 (dd dtL_law_18 0 rfl) rfl ?_
                                                                          refine WPe_iload_n (pc := 1291) 3 (dd dtL_law_18 1 rfl) rfl ?_
                                                                          refine WPe_iconst (pc := 1292) (1 : Int32) (dd dtL_law_18 2 rfl) (by decide) ?_
                                                                          refine WPe_iadd (pc := 1293) (dd dtL_law_18 3 rfl) ?_
                                                                          refine WPe_ck fun h489 => ?_
                                                                          refine WPe_sld2 (pc := 1294) (dd dtL_law_18 4 rfl) hg h489 ?_
                                                                          refine WPe_aload_n (pc := 1295) 0 (dd dtL_law_18 5 rfl) rfl ?_
                                                                          refine WPe_iload_n (pc := 1296) 3 (dd dtL_law_18 6 rfl) rfl ?_
                                                                          refine WPe_iconst (pc := 1297) (2 : Int32) (dd dtL_law_18 7 rfl) (by decide) ?_
                                                                          refine WPe_iadd (pc := 1298) (dd dtL_law_18 8 rfl) ?_
                                                                          refine WPe_ck fun h490 => ?_
                                                                          refine WPe_sld2 (pc := 1299) (dd dtL_law_18 9 rfl) hg h490 ?_
                                                                          refine WPe_aload_n (pc := 1300) 0 (dd dtL_law_18 10 rfl) rfl ?_
                                                                          refine WPe_iload_n (pc := 1301) 3 (dd dtL_law_18 11 rfl) rfl ?_
                                                                          refine WPe_iconst (pc := 1302) (3 : Int32) (dd dtL_law_18 12 rfl) (by decide) ?_
                                                                          refine WPe_iadd (pc := 1303) (dd dtL_law_18 13 rfl) ?_
                                                                          refine WPe_ck fun h491 => ?_
                                                                          refine WPe_sld2 (pc := 1304) (dd dtL_law_18 14 rfl) hg h491 ?_
                                                                          refine WPe_ck fun h492 => ?_
                                                                          refine WPe_callV (pc := 1305) (rtc := rtI) (Mc := mX6_sheet) (d' := 2) (mc' := 0) (ms' := 0) [vI (xs ((v.2.2 + (1 : Int32))).toNatClampNeg), vI (xs ((v.2.2 + (2 : Int32))).toNatClampNeg), vI (xs ((v.2.2 + (3 : Int32))).toNatClampNeg)] [vI z486.1] rfl (dd dtL_law_18 15 rfl) (okf6_sheet v.2.1 (xs ((v.2.2 + (1 : Int32))).toNatClampNeg) (xs ((v.2.2 + (2 : Int32))).toNatClampNeg) (xs ((v.2.2 + (3 : Int32))).toNatClampNeg) z486.2) moX6_sheet miX6_sheet (bw_mem5 168 rfl rfl) (Or.inl ⟨_, _, _, _, (shE h492), rfl⟩) rfl (Nat.le_of_ble_eq_true rfl) ⟨(Nat.le_of_ble_eq_true rfl), (Nat.le_of_ble_eq_true rfl)⟩ ⟨by show c + 0 + 0 ≤ 1606; omega, by show s + 0 + 0 ≤ 108616; omega⟩ (fun z493 h494 e495 => ?_)
                                                                          refine WPe_st (st2 := [vI z493.1, vI z486.1]) rfl ?_
                                                                          refine WPe_icmp_eq (pc := 1308) 1505 (dd dtL_law_18 16 rfl) (by decide) (fun h496 => ?_) (fun h496 => ?_)
                                                                          · refine WPe_sub [0, 1, 2, 3] rfl ?_
                                                                            exact wpjL_law_1505 X w0 L xs hg n k18 hk18 _ _ (by omega) (by omega) _ _ _ _
                                                                          · refine WPe_iconst (pc := 1311) (0 : Int32) (dd dtL_law_18 17 rfl) (by decide) ?_
                                                                            exact WPe_zreturn (pc := 1312) (ty := .boolean) (dd dtL_law_18 18 rfl) rfl rfl rfl ⟨by show c + 0 + 0 + 0 ≤ 1606; omega, by show s + 0 + 0 + 0 ≤ 108616; omega⟩
                                                                        · refine WPe_ite (fun h497 => ?_) (fun h497 => ?_)
                                                                          · refine WPe_tabIn (pc := 33) (35 : Int32) 1313 (dd dtL_law_0 21 rfl) h497 (by decide) (by decide) rfl (by decide) ?_
                                                                            refine WPe_aload_n (pc := 1313) 1 (dd dtL_law_18 19 rfl) rfl ?_
                                                                            refine WPe_aload_n (pc := 1314) 0 (dd dtL_law_18 20 rfl) rfl ?_
                                                                            refine WPe_iload_n (pc := 1315) 3 (dd dtL_law_18 21 rfl) rfl ?_
                                                                            refine WPe_iconst (pc := 1316) (1 : Int32) (dd dtL_law_18 22 rfl) (by decide) ?_
                                                                            refine WPe_iadd (pc := 1317) (dd dtL_law_18 23 rfl) ?_
                                                                            refine WPe_ck fun h498 => ?_
                                                                            refine WPe_sld2 (pc := 1318) (dd dtL_law_18 24 rfl) hg h498 ?_
                                                                            refine WPe_aload_n (pc := 1319) 0 (dd dtL_law_18 25 rfl) rfl ?_
                                                                            refine WPe_iload_n (pc := 1320) 3 (dd dtL_law_18 26 rfl) rfl ?_
                                                                            refine WPe_iconst (pc := 1321) (2 : Int32) (dd dtL_law_18 27 rfl) (by decide) ?_
                                                                            refine WPe_iadd (pc := 1322) (dd dtL_law_18 28 rfl) ?_
                                                                            refine WPe_ck fun h499 => ?_
                                                                            refine WPe_sld2 (pc := 1323) (dd dtL_law_18 29 rfl) hg h499 ?_
                                                                            refine WPe_aload_n (pc := 1324) 0 (dd dtL_law_18 30 rfl) rfl ?_
                                                                            refine WPe_iload_n (pc := 1325) 3 (dd dtL_law_18 31 rfl) rfl ?_
                                                                            refine WPe_iconst (pc := 1326) (3 : Int32) (dd dtL_law_18 32 rfl) (by decide) ?_
                                                                            refine WPe_iadd (pc := 1327) (dd dtL_law_18 33 rfl) ?_
                                                                            refine WPe_ck fun h500 => ?_
                                                                            refine WPe_sld2 (pc := 1328) (dd dtL_law_18 34 rfl) hg h500 ?_
                                                                            refine WPe_ck fun h501 => ?_
                                                                            refine WPe_callV (pc := 1329) (rtc := rtI) (Mc := mX5_cell) (d' := 3) (mc' := 0) (ms' := 0) [vI (xs ((v.2.2 + (1 : Int32))).toNatClampNeg), vI (xs ((v.2.2 + (2 : Int32))).toNatClampNeg), vI (xs ((v.2.2 + (3 : Int32))).toNatClampNeg)] [] rfl (dd dtL_law_18 35 rfl) (okf5_cell v.1 (xs ((v.2.2 + (1 : Int32))).toNatClampNeg) (xs ((v.2.2 + (2 : Int32))).toNatClampNeg) (xs ((v.2.2 + (3 : Int32))).toNatClampNeg) w) moX5_cell miX5_cell (bw_mem3 215 rfl rfl) (Or.inl ⟨_, _, _, _, (shE h501), rfl⟩) rfl (Nat.le_of_ble_eq_true rfl) ⟨(Nat.le_of_ble_eq_true rfl), (Nat.le_of_ble_eq_true rfl)⟩ ⟨by show c + 0 ≤ 1606; omega, by show s + 0 ≤ 108616; omega⟩ (fun z502 h503 e504 => ?_)
                                                                            refine WPe_st (st2 := [vI z502.1]) rfl ?_
                                                                            refine WPe_aload_n (pc := 1332) 2 (dd dtL_law_18 36 rfl) rfl ?_
                                                                            refine WPe_aload_n (pc := 1333) 0 (dd dtL_law_18 37 rfl) rfl ?_
                                                                            refine WPe_iload_n (pc := 1334) 3 (dd dtL_law_18 38 rfl) rfl ?_
                                                                            refine WPe_iconst (pc := 1335) (1 : Int32) (dd dtL_law_18 39 rfl) (by decide) ?_
                                                                            refine WPe_iadd (pc := 1336) (dd dtL_law_18 40 rfl) ?_
                                                                            refine WPe_ck fun h505 => ?_
                                                                            refine WPe_sld2 (pc := 1337) (dd dtL_law_18 41 rfl) hg h505 ?_
                                                                            refine WPe_aload_n (pc := 1338) 0 (dd dtL_law_18 42 rfl) rfl ?_
                                                                            refine WPe_iload_n (pc := 1339) 3 (dd dtL_law_18 43 rfl) rfl ?_
                                                                            refine WPe_iconst (pc := 1340) (2 : Int32) (dd dtL_law_18 44 rfl) (by decide) ?_
                                                                            refine WPe_iadd (pc := 1341) (dd dtL_law_18 45 rfl) ?_
                                                                            refine WPe_ck fun h506 => ?_
                                                                            refine WPe_sld2 (pc := 1342) (dd dtL_law_18 46 rfl) hg h506 ?_
                                                                            refine WPe_aload_n (pc := 1343) 0 (dd dtL_law_18 47 rfl) rfl ?_
                                                                            refine WPe_iload_n (pc := 1344) 3 (dd dtL_law_18 48 rfl) rfl ?_
                                                                            refine WPe_iconst (pc := 1345) (3 : Int32) (dd dtL_law_18 49 rfl) (by decide) ?_
                                                                            refine WPe_iadd (pc := 1346) (dd dtL_law_19 0 rfl) ?_
                                                                            refine WPe_ck fun h507 => ?_
                                                                            refine WPe_sld2 (pc := 1347) (dd dtL_law_19 1 rfl) hg h507 ?_
                                                                            refine WPe_ck fun h508 => ?_
                                                                            refine WPe_callV (pc := 1348) (rtc := rtI) (Mc := mX6_cell) (d' := 2) (mc' := 0) (ms' := 0) [vI (xs ((v.2.2 + (1 : Int32))).toNatClampNeg), vI (xs ((v.2.2 + (2 : Int32))).toNatClampNeg), vI (xs ((v.2.2 + (3 : Int32))).toNatClampNeg)] [vI z502.1] rfl (dd dtL_law_19 2 rfl) (okf6_cell v.2.1 (xs ((v.2.2 + (1 : Int32))).toNatClampNeg) (xs ((v.2.2 + (2 : Int32))).toNatClampNeg) (xs ((v.2.2 + (3 : Int32))).toNatClampNeg) z502.2) moX6_cell miX6_cell (bw_mem5 172 rfl rfl) (Or.inl ⟨_, _, _, _, (shE h508), rfl⟩) rfl (Nat.le_of_ble_eq_true rfl) ⟨(Nat.le_of_ble_eq_true rfl), (Nat.le_of_ble_eq_true rfl)⟩ ⟨by show c + 0 + 0 ≤ 1606; omega, by show s + 0 + 0 ≤ 108616; omega⟩ (fun z509 h510 e511 => ?_)
                                                                            refine WPe_st (st2 := [vI z509.1, vI z502.1]) rfl ?_
                                                                            refine WPe_icmp_eq (pc := 1351) 1505 (dd dtL_law_19 3 rfl) (by decide) (fun h512 => ?_) (fun h512 => ?_)
                                                                            · refine WPe_sub [0, 1, 2, 3] rfl ?_
                                                                              exact wpjL_law_1505 X w0 L xs hg n k18 hk18 _ _ (by omega) (by omega) _ _ _ _
                                                                            · refine WPe_iconst (pc := 1354) (0 : Int32) (dd dtL_law_19 4 rfl) (by decide) ?_
                                                                              exact WPe_zreturn (pc := 1355) (ty := .boolean) (dd dtL_law_19 5 rfl) rfl rfl rfl ⟨by show c + 0 + 0 + 0 ≤ 1606; omega, by show s + 0 + 0 + 0 ≤ 108616; omega⟩
                                                                          · refine WPe_ite (fun h513 => ?_) (fun h513 => ?_)
                                                                            · refine WPe_tabIn (pc := 33) (36 : Int32) 1356 (dd dtL_law_0 21 rfl) h513 (by decide) (by decide) rfl (by decide) ?_
                                                                              refine WPe_aload_n (pc := 1356) 1 (dd dtL_law_19 6 rfl) rfl ?_
                                                                              refine WPe_aload_n (pc := 1357) 0 (dd dtL_law_19 7 rfl) rfl ?_
                                                                              refine WPe_iload_n (pc := 1358) 3 (dd dtL_law_19 8 rfl) rfl ?_
                                                                              refine WPe_iconst (pc := 1359) (1 : Int32) (dd dtL_law_19 9 rfl) (by decide) ?_
                                                                              refine WPe_iadd (pc := 1360) (dd dtL_law_19 10 rfl) ?_
                                                                              refine WPe_ck fun h514 => ?_
                                                                              refine WPe_sld2 (pc := 1361) (dd dtL_law_19 11 rfl) hg h514 ?_
                                                                              refine WPe_aload_n (pc := 1362) 0 (dd dtL_law_19 12 rfl) rfl ?_
                                                                              refine WPe_iload_n (pc := 1363) 3 (dd dtL_law_19 13 rfl) rfl ?_
                                                                              refine WPe_iconst (pc := 1364) (2 : Int32) (dd dtL_law_19 14 rfl) (by decide) ?_
                                                                              refine WPe_iadd (pc := 1365) (dd dtL_law_19 15 rfl) ?_
                                                                              refine WPe_ck fun h515 => ?_
                                                                              refine WPe_sld2 (pc := 1366) (dd dtL_law_19 16 rfl) hg h515 ?_
                                                                              refine WPe_aload_n (pc := 1367) 0 (dd dtL_law_19 17 rfl) rfl ?_
                                                                              refine WPe_iload_n (pc := 1368) 3 (dd dtL_law_19 18 rfl) rfl ?_
                                                                              refine WPe_iconst (pc := 1369) (3 : Int32) (dd dtL_law_19 19 rfl) (by decide) ?_
                                                                              refine WPe_iadd (pc := 1370) (dd dtL_law_19 20 rfl) ?_
                                                                              refine WPe_ck fun h516 => ?_
                                                                              refine WPe_sld2 (pc := 1371) (dd dtL_law_19 21 rfl) hg h516 ?_
                                                                              refine WPe_aload_n (pc := 1372) 0 (dd dtL_law_19 22 rfl) rfl ?_
                                                                              refine WPe_iload_n (pc := 1373) 3 (dd dtL_law_19 23 rfl) rfl ?_
                                                                              refine WPe_iconst (pc := 1374) (4 : Int32) (dd dtL_law_19 24 rfl) (by decide) ?_
                                                                              refine WPe_iadd (pc := 1375) (dd dtL_law_19 25 rfl) ?_
                                                                              refine WPe_ck fun h517 => ?_
                                                                              refine WPe_sld2 (pc := 1376) (dd dtL_law_19 26 rfl) hg h517 ?_
                                                                              refine WPe_aload_n (pc := 1377) 0 (dd dtL_law_19 27 rfl) rfl ?_
                                                                              refine WPe_iload_n (pc := 1378) 3 (dd dtL_law_19 28 rfl) rfl ?_
                                                                              refine WPe_iconst (pc := 1379) (5 : Int32) (dd dtL_law_19 29 rfl) (by decide) ?_
                                                                              refine WPe_iadd (pc := 1380) (dd dtL_law_19 30 rfl) ?_
                                                                              refine WPe_ck fun h518 => ?_
                                                                              refine WPe_sld2 (pc := 1381) (dd dtL_law_19 31 rfl) hg h518 ?_
                                                                              refine WPe_ck fun h519 => ?_
                                                                              refine WPe_callV (pc := 1382) (rtc := rtI) (Mc := mX5_copy) (d' := 2) (mc' := 0) (ms' := 0) [vI (xs ((v.2.2 + (1 : Int32))).toNatClampNeg), vI (xs ((v.2.2 + (2 : Int32))).toNatClampNeg), vI (xs ((v.2.2 + (3 : Int32))).toNatClampNeg), vI (xs ((v.2.2 + (4 : Int32))).toNatClampNeg), vI (xs ((v.2.2 + (5 : Int32))).toNatClampNeg)] [] rfl (dd dtL_law_19 32 rfl) (okf5_copy v.1 (xs ((v.2.2 + (1 : Int32))).toNatClampNeg) (xs ((v.2.2 + (2 : Int32))).toNatClampNeg) (xs ((v.2.2 + (3 : Int32))).toNatClampNeg) (xs ((v.2.2 + (4 : Int32))).toNatClampNeg) (xs ((v.2.2 + (5 : Int32))).toNatClampNeg) w) moX5_copy miX5_copy (bw_mem3 220 rfl rfl) (Or.inl ⟨_, _, _, _, (shE h519), rfl⟩) rfl (Nat.le_of_ble_eq_true rfl) ⟨(Nat.le_of_ble_eq_true rfl), (Nat.le_of_ble_eq_true rfl)⟩ ⟨by show c + 0 ≤ 1606; omega, by show s + 0 ≤ 108616; omega⟩ (fun z520 h521 e522 => ?_)
                                                                              refine WPe_st (st2 := [vI z520.1]) rfl ?_
                                                                              refine WPe_aload_n (pc := 1385) 2 (dd dtL_law_19 33 rfl) rfl ?_
                                                                              refine WPe_aload_n (pc := 1386) 0 (dd dtL_law_19 34 rfl) rfl ?_
                                                                              refine WPe_iload_n (pc := 1387) 3 (dd dtL_law_19 35 rfl) rfl ?_
                                                                              refine WPe_iconst (pc := 1388) (1 : Int32) (dd dtL_law_19 36 rfl) (by decide) ?_
                                                                              refine WPe_iadd (pc := 1389) (dd dtL_law_19 37 rfl) ?_
                                                                              refine WPe_ck fun h523 => ?_
                                                                              refine WPe_sld2 (pc := 1390) (dd dtL_law_19 38 rfl) hg h523 ?_
                                                                              refine WPe_aload_n (pc := 1391) 0 (dd dtL_law_19 39 rfl) rfl ?_
                                                                              refine WPe_iload_n (pc := 1392) 3 (dd dtL_law_19 40 rfl) rfl ?_
                                                                              refine WPe_iconst (pc := 1393) (2 : Int32) (dd dtL_law_19 41 rfl) (by decide) ?_
                                                                              refine WPe_iadd (pc := 1394) (dd dtL_law_19 42 rfl) ?_
                                                                              refine WPe_ck fun h524 => ?_
                                                                              refine WPe_sld2 (pc := 1395) (dd dtL_law_19 43 rfl) hg h524 ?_
                                                                              refine WPe_aload_n (pc := 1396) 0 (dd dtL_law_19 44 rfl) rfl ?_
                                                                              refine WPe_iload_n (pc := 1397) 3 (dd dtL_law_19 45 rfl) rfl ?_
                                                                              refine WPe_iconst (pc := 1398) (3 : Int32) (dd dtL_law_19 46 rfl) (by decide) ?_
                                                                              refine WPe_iadd (pc := 1399) (dd dtL_law_19 47 rfl) ?_
                                                                              refine WPe_ck fun h525 => ?_
                                                                              refine WPe_sld2 (pc := 1400) (dd dtL_law_19 48 rfl) hg h525 ?_
                                                                              refine WPe_aload_n (pc := 1401) 0 (dd dtL_law_19 49 rfl) rfl ?_
                                                                              refine WPe_iload_n (pc := 1402) 3 (dd dtL_law_20 0 rfl) rfl ?_
                                                                              refine WPe_iconst (pc := 1403) (4 : Int32) (dd dtL_law_20 1 rfl) (by decide) ?_
                                                                              refine WPe_iadd (pc := 1404) (dd dtL_law_20 2 rfl) ?_
                                                                              refine WPe_ck fun h526 => ?_
                                                                              refine WPe_sld2 (pc := 1405) (dd dtL_law_20 3 rfl) hg h526 ?_
                                                                              refine WPe_aload_n (pc := 1406) 0 (dd dtL_law_20 4 rfl) rfl ?_
                                                                              refine WPe_iload_n (pc := 1407) 3 (dd dtL_law_20 5 rfl) rfl ?_
                                                                              refine WPe_iconst (pc := 1408) (5 : Int32) (dd dtL_law_20 6 rfl) (by decide) ?_
                                                                              refine WPe_iadd (pc := 1409) (dd dtL_law_20 7 rfl) ?_
                                                                              refine WPe_ck fun h527 => ?_
                                                                              refine WPe_sld2 (pc := 1410) (dd dtL_law_20 8 rfl) hg h527 ?_
                                                                              refine WPe_ck fun h528 => ?_
                                                                              refine WPe_callV (pc := 1411) (rtc := rtI) (Mc := mX6_copy) (d' := 2) (mc' := 0) (ms' := 0) [vI (xs ((v.2.2 + (1 : Int32))).toNatClampNeg), vI (xs ((v.2.2 + (2 : Int32))).toNatClampNeg), vI (xs ((v.2.2 + (3 : Int32))).toNatClampNeg), vI (xs ((v.2.2 + (4 : Int32))).toNatClampNeg), vI (xs ((v.2.2 + (5 : Int32))).toNatClampNeg)] [vI z520.1] rfl (dd dtL_law_20 9 rfl) (okf6_copy v.2.1 (xs ((v.2.2 + (1 : Int32))).toNatClampNeg) (xs ((v.2.2 + (2 : Int32))).toNatClampNeg) (xs ((v.2.2 + (3 : Int32))).toNatClampNeg) (xs ((v.2.2 + (4 : Int32))).toNatClampNeg) (xs ((v.2.2 + (5 : Int32))).toNatClampNeg) z520.2) moX6_copy miX6_copy (bw_mem5 176 rfl rfl) (Or.inl ⟨_, _, _, _, (shE h528), rfl⟩) rfl (Nat.le_of_ble_eq_true rfl) ⟨(Nat.le_of_ble_eq_true rfl), (Nat.le_of_ble_eq_true rfl)⟩ ⟨by show c + 0 + 0 ≤ 1606; omega, by show s + 0 + 0 ≤ 108616; omega⟩ (fun z529 h530 e531 => ?_)
                                                                              refine WPe_st (st2 := [vI z529.1, vI z520.1]) rfl ?_
                                                                              refine WPe_icmp_eq (pc := 1414) 1505 (dd dtL_law_20 10 rfl) (by decide) (fun h532 => ?_) (fun h532 => ?_)
                                                                              · refine WPe_sub [0, 1, 2, 3] rfl ?_
                                                                                exact wpjL_law_1505 X w0 L xs hg n k18 hk18 _ _ (by omega) (by omega) _ _ _ _
                                                                              · refine WPe_iconst (pc := 1417) (0 : Int32) (dd dtL_law_20 11 rfl) (by decide) ?_
                                                                                exact WPe_zreturn (pc := 1418) (ty := .boolean) (dd dtL_law_20 12 rfl) rfl rfl rfl ⟨by show c + 0 + 0 + 0 ≤ 1606; omega, by show s + 0 + 0 + 0 ≤ 108616; omega⟩
                                                                            · refine WPe_ite (fun h533 => ?_) (fun h533 => ?_)
                                                                              · refine WPe_tabIn (pc := 33) (37 : Int32) 1419 (dd dtL_law_0 21 rfl) h533 (by decide) (by decide) rfl (by decide) ?_
                                                                                refine WPe_aload_n (pc := 1419) 1 (dd dtL_law_20 13 rfl) rfl ?_
                                                                                refine WPe_aload_n (pc := 1420) 0 (dd dtL_law_20 14 rfl) rfl ?_
                                                                                refine WPe_iload_n (pc := 1421) 3 (dd dtL_law_20 15 rfl) rfl ?_
                                                                                refine WPe_iconst (pc := 1422) (1 : Int32) (dd dtL_law_20 16 rfl) (by decide) ?_
                                                                                refine WPe_iadd (pc := 1423) (dd dtL_law_20 17 rfl) ?_
                                                                                refine WPe_ck fun h534 => ?_
                                                                                refine WPe_sld2 (pc := 1424) (dd dtL_law_20 18 rfl) hg h534 ?_
                                                                                refine WPe_aload_n (pc := 1425) 0 (dd dtL_law_20 19 rfl) rfl ?_
                                                                                refine WPe_iload_n (pc := 1426) 3 (dd dtL_law_20 20 rfl) rfl ?_
                                                                                refine WPe_iconst (pc := 1427) (2 : Int32) (dd dtL_law_20 21 rfl) (by decide) ?_
                                                                                refine WPe_iadd (pc := 1428) (dd dtL_law_20 22 rfl) ?_
                                                                                refine WPe_ck fun h535 => ?_
                                                                                refine WPe_sld2 (pc := 1429) (dd dtL_law_20 23 rfl) hg h535 ?_
                                                                                refine WPe_aload_n (pc := 1430) 0 (dd dtL_law_20 24 rfl) rfl ?_
                                                                                refine WPe_iload_n (pc := 1431) 3 (dd dtL_law_20 25 rfl) rfl ?_
                                                                                refine WPe_iconst (pc := 1432) (3 : Int32) (dd dtL_law_20 26 rfl) (by decide) ?_
                                                                                refine WPe_iadd (pc := 1433) (dd dtL_law_20 27 rfl) ?_
                                                                                refine WPe_ck fun h536 => ?_
                                                                                refine WPe_sld2 (pc := 1434) (dd dtL_law_20 28 rfl) hg h536 ?_
                                                                                refine WPe_aload_n (pc := 1435) 0 (dd dtL_law_20 29 rfl) rfl ?_
                                                                                refine WPe_iload_n (pc := 1436) 3 (dd dtL_law_20 30 rfl) rfl ?_
                                                                                refine WPe_iconst (pc := 1437) (4 : Int32) (dd dtL_law_20 31 rfl) (by decide) ?_
                                                                                refine WPe_iadd (pc := 1438) (dd dtL_law_20 32 rfl) ?_
                                                                                refine WPe_ck fun h537 => ?_
                                                                                refine WPe_sld2 (pc := 1439) (dd dtL_law_20 33 rfl) hg h537 ?_
                                                                                refine WPe_ck fun h538 => ?_
                                                                                refine WPe_callV (pc := 1440) (rtc := rtI) (Mc := mX5_bathersBy) (d' := 2) (mc' := 0) (ms' := 0) [vI (xs ((v.2.2 + (1 : Int32))).toNatClampNeg), vI (xs ((v.2.2 + (2 : Int32))).toNatClampNeg), vI (xs ((v.2.2 + (3 : Int32))).toNatClampNeg), vI (xs ((v.2.2 + (4 : Int32))).toNatClampNeg)] [] rfl (dd dtL_law_20 34 rfl) (okf5_bathersBy v.1 (xs ((v.2.2 + (1 : Int32))).toNatClampNeg) (xs ((v.2.2 + (2 : Int32))).toNatClampNeg) (xs ((v.2.2 + (3 : Int32))).toNatClampNeg) (xs ((v.2.2 + (4 : Int32))).toNatClampNeg) w) moX5_bathersBy miX5_bathersBy (bw_mem3 229 rfl rfl) (Or.inl ⟨_, _, _, _, (shE h538), rfl⟩) rfl (Nat.le_of_ble_eq_true rfl) ⟨(Nat.le_of_ble_eq_true rfl), (Nat.le_of_ble_eq_true rfl)⟩ ⟨by show c + 0 ≤ 1606; omega, by show s + 0 ≤ 108616; omega⟩ (fun z539 h540 e541 => ?_)
                                                                                refine WPe_st (st2 := [vI z539.1]) rfl ?_
                                                                                refine WPe_aload_n (pc := 1443) 2 (dd dtL_law_20 35 rfl) rfl ?_
                                                                                refine WPe_aload_n (pc := 1444) 0 (dd dtL_law_20 36 rfl) rfl ?_
                                                                                refine WPe_iload_n (pc := 1445) 3 (dd dtL_law_20 37 rfl) rfl ?_
                                                                                refine WPe_iconst (pc := 1446) (1 : Int32) (dd dtL_law_20 38 rfl) (by decide) ?_
                                                                                refine WPe_iadd (pc := 1447) (dd dtL_law_20 39 rfl) ?_
                                                                                refine WPe_ck fun h542 => ?_
                                                                                refine WPe_sld2 (pc := 1448) (dd dtL_law_20 40 rfl) hg h542 ?_
                                                                                refine WPe_aload_n (pc := 1449) 0 (dd dtL_law_20 41 rfl) rfl ?_
                                                                                refine WPe_iload_n (pc := 1450) 3 (dd dtL_law_20 42 rfl) rfl ?_
                                                                                refine WPe_iconst (pc := 1451) (2 : Int32) (dd dtL_law_20 43 rfl) (by decide) ?_
                                                                                refine WPe_iadd (pc := 1452) (dd dtL_law_20 44 rfl) ?_
                                                                                refine WPe_ck fun h543 => ?_
                                                                                refine WPe_sld2 (pc := 1453) (dd dtL_law_20 45 rfl) hg h543 ?_
                                                                                refine WPe_aload_n (pc := 1454) 0 (dd dtL_law_20 46 rfl) rfl ?_
                                                                                refine WPe_iload_n (pc := 1455) 3 (dd dtL_law_20 47 rfl) rfl ?_
                                                                                refine WPe_iconst (pc := 1456) (3 : Int32) (dd dtL_law_20 48 rfl) (by decide) ?_
                                                                                refine WPe_iadd (pc := 1457) (dd dtL_law_20 49 rfl) ?_
                                                                                refine WPe_ck fun h544 => ?_
                                                                                refine WPe_sld2 (pc := 1458) (dd dtL_law_21 0 rfl) hg h544 ?_
                                                                                refine WPe_aload_n (pc := 1459) 0 (dd dtL_law_21 1 rfl) rfl ?_
                                                                                refine WPe_iload_n (pc := 1460) 3 (dd dtL_law_21 2 rfl) rfl ?_
                                                                                refine WPe_iconst (pc := 1461) (4 : Int32) (dd dtL_law_21 3 rfl) (by decide) ?_
                                                                                refine WPe_iadd (pc := 1462) (dd dtL_law_21 4 rfl) ?_
                                                                                refine WPe_ck fun h545 => ?_
                                                                                refine WPe_sld2 (pc := 1463) (dd dtL_law_21 5 rfl) hg h545 ?_
                                                                                refine WPe_ck fun h546 => ?_
                                                                                refine WPe_callV (pc := 1464) (rtc := rtI) (Mc := mX6_bathersBy) (d' := 3) (mc' := 0) (ms' := 0) [vI (xs ((v.2.2 + (1 : Int32))).toNatClampNeg), vI (xs ((v.2.2 + (2 : Int32))).toNatClampNeg), vI (xs ((v.2.2 + (3 : Int32))).toNatClampNeg), vI (xs ((v.2.2 + (4 : Int32))).toNatClampNeg)] [vI z539.1] rfl (dd dtL_law_21 6 rfl) (okf6_bathersBy v.2.1 (xs ((v.2.2 + (1 : Int32))).toNatClampNeg) (xs ((v.2.2 + (2 : Int32))).toNatClampNeg) (xs ((v.2.2 + (3 : Int32))).toNatClampNeg) (xs ((v.2.2 + (4 : Int32))).toNatClampNeg) z539.2) moX6_bathersBy miX6_bathersBy (bw_mem5 180 rfl rfl) (Or.inl ⟨_, _, _, _, (shE h546), rfl⟩) rfl (Nat.le_of_ble_eq_true rfl) ⟨(Nat.le_of_ble_eq_true rfl), (Nat.le_of_ble_eq_true rfl)⟩ ⟨by show c + 0 + 0 ≤ 1606; omega, by show s + 0 + 0 ≤ 108616; omega⟩ (fun z547 h548 e549 => ?_)
                                                                                refine WPe_st (st2 := [vI z547.1, vI z539.1]) rfl ?_
                                                                                refine WPe_icmp_eq (pc := 1467) 1505 (dd dtL_law_21 7 rfl) (by decide) (fun h550 => ?_) (fun h550 => ?_)
                                                                                · refine WPe_sub [0, 1, 2, 3] rfl ?_
                                                                                  exact wpjL_law_1505 X w0 L xs hg n k18 hk18 _ _ (by omega) (by omega) _ _ _ _
                                                                                · refine WPe_iconst (pc := 1470) (0 : Int32) (dd dtL_law_21 8 rfl) (by decide) ?_
                                                                                  exact WPe_zreturn (pc := 1471) (ty := .boolean) (dd dtL_law_21 9 rfl) rfl rfl rfl ⟨by show c + 0 + 0 + 0 ≤ 1606; omega, by show s + 0 + 0 + 0 ≤ 108616; omega⟩
                                                                              · refine WPe_ite (fun h551 => ?_) (fun h551 => ?_)
                                                                                · refine WPe_tabIn (pc := 33) (38 : Int32) 1472 (dd dtL_law_0 21 rfl) h551 (by decide) (by decide) rfl (by decide) ?_
                                                                                  refine WPe_aload_n (pc := 1472) 1 (dd dtL_law_21 10 rfl) rfl ?_
                                                                                  refine WPe_aload_n (pc := 1473) 0 (dd dtL_law_21 11 rfl) rfl ?_
                                                                                  refine WPe_iload_n (pc := 1474) 3 (dd dtL_law_21 12 rfl) rfl ?_
                                                                                  refine WPe_iconst (pc := 1475) (1 : Int32) (dd dtL_law_21 13 rfl) (by decide) ?_
                                                                                  refine WPe_iadd (pc := 1476) (dd dtL_law_21 14 rfl) ?_
                                                                                  refine WPe_ck fun h552 => ?_
                                                                                  refine WPe_sld2 (pc := 1477) (dd dtL_law_21 15 rfl) hg h552 ?_
                                                                                  refine WPe_aload_n (pc := 1478) 0 (dd dtL_law_21 16 rfl) rfl ?_
                                                                                  refine WPe_iload_n (pc := 1479) 3 (dd dtL_law_21 17 rfl) rfl ?_
                                                                                  refine WPe_iconst (pc := 1480) (2 : Int32) (dd dtL_law_21 18 rfl) (by decide) ?_
                                                                                  refine WPe_iadd (pc := 1481) (dd dtL_law_21 19 rfl) ?_
                                                                                  refine WPe_ck fun h553 => ?_
                                                                                  refine WPe_sld2 (pc := 1482) (dd dtL_law_21 20 rfl) hg h553 ?_
                                                                                  refine WPe_ck fun h554 => ?_
                                                                                  refine WPe_callV (pc := 1483) (rtc := rtI) (Mc := mX5_taken) (d' := 2) (mc' := 0) (ms' := 0) [vI (xs ((v.2.2 + (1 : Int32))).toNatClampNeg), vI (xs ((v.2.2 + (2 : Int32))).toNatClampNeg)] [] rfl (dd dtL_law_21 21 rfl) (okf5_taken v.1 (xs ((v.2.2 + (1 : Int32))).toNatClampNeg) (xs ((v.2.2 + (2 : Int32))).toNatClampNeg) w) moX5_taken miX5_taken (bw_mem3 233 rfl rfl) (Or.inl ⟨_, _, _, _, (shE h554), rfl⟩) rfl (Nat.le_of_ble_eq_true rfl) ⟨(Nat.le_of_ble_eq_true rfl), (Nat.le_of_ble_eq_true rfl)⟩ ⟨by show c + 0 ≤ 1606; omega, by show s + 0 ≤ 108616; omega⟩ (fun z555 h556 e557 => ?_)
                                                                                  refine WPe_st (st2 := [vI z555.1]) rfl ?_
                                                                                  refine WPe_aload_n (pc := 1486) 2 (dd dtL_law_21 22 rfl) rfl ?_
                                                                                  refine WPe_aload_n (pc := 1487) 0 (dd dtL_law_21 23 rfl) rfl ?_
                                                                                  refine WPe_iload_n (pc := 1488) 3 (dd dtL_law_21 24 rfl) rfl ?_
                                                                                  refine WPe_iconst (pc := 1489) (1 : Int32) (dd dtL_law_21 25 rfl) (by decide) ?_
                                                                                  refine WPe_iadd (pc := 1490) (dd dtL_law_21 26 rfl) ?_
                                                                                  refine WPe_ck fun h558 => ?_
                                                                                  refine WPe_sld2 (pc := 1491) (dd dtL_law_21 27 rfl) hg h558 ?_
                                                                                  refine WPe_aload_n (pc := 1492) 0 (dd dtL_law_21 28 rfl) rfl ?_
                                                                                  refine WPe_iload_n (pc := 1493) 3 (dd dtL_law_21 29 rfl) rfl ?_
                                                                                  refine WPe_iconst (pc := 1494) (2 : Int32) (dd dtL_law_21 30 rfl) (by decide) ?_
                                                                                  refine WPe_iadd (pc := 1495) (dd dtL_law_21 31 rfl) ?_
                                                                                  refine WPe_ck fun h559 => ?_
                                                                                  refine WPe_sld2 (pc := 1496) (dd dtL_law_21 32 rfl) hg h559 ?_
                                                                                  refine WPe_ck fun h560 => ?_
                                                                                  refine WPe_callV (pc := 1497) (rtc := rtI) (Mc := mX6_taken) (d' := 2) (mc' := 0) (ms' := 0) [vI (xs ((v.2.2 + (1 : Int32))).toNatClampNeg), vI (xs ((v.2.2 + (2 : Int32))).toNatClampNeg)] [vI z555.1] rfl (dd dtL_law_21 33 rfl) (okf6_taken v.2.1 (xs ((v.2.2 + (1 : Int32))).toNatClampNeg) (xs ((v.2.2 + (2 : Int32))).toNatClampNeg) z555.2) moX6_taken miX6_taken (bw_mem5 185 rfl rfl) (Or.inl ⟨_, _, _, _, (shE h560), rfl⟩) rfl (Nat.le_of_ble_eq_true rfl) ⟨(Nat.le_of_ble_eq_true rfl), (Nat.le_of_ble_eq_true rfl)⟩ ⟨by show c + 0 + 0 ≤ 1606; omega, by show s + 0 + 0 ≤ 108616; omega⟩ (fun z561 h562 e563 => ?_)
                                                                                  refine WPe_st (st2 := [vI z561.1, vI z555.1]) rfl ?_
                                                                                  refine WPe_icmp_eq (pc := 1500) 1505 (dd dtL_law_21 34 rfl) (by decide) (fun h564 => ?_) (fun h564 => ?_)
                                                                                  · refine WPe_sub [0, 1, 2, 3] rfl ?_
                                                                                    exact wpjL_law_1505 X w0 L xs hg n k18 hk18 _ _ (by omega) (by omega) _ _ _ _
                                                                                  · refine WPe_iconst (pc := 1503) (0 : Int32) (dd dtL_law_21 35 rfl) (by decide) ?_
                                                                                    exact WPe_zreturn (pc := 1504) (ty := .boolean) (dd dtL_law_21 36 rfl) rfl rfl rfl ⟨by show c + 0 + 0 + 0 ≤ 1606; omega, by show s + 0 + 0 + 0 ≤ 108616; omega⟩
                                                                                · refine WPe_tabOut (pc := 33) 1505 (dd dtL_law_0 21 rfl) (fun j hj => ?_) (by decide) ?_
                                                                                  · match j, hj with
                                                                                    | 0, _ => exact Or.inr (tneq h17 (by decide))
                                                                                    | 1, _ => exact Or.inr (tneq h29 (by decide))
                                                                                    | 2, _ => exact Or.inr (tneq h43 (by decide))
                                                                                    | 3, _ => exact Or.inr (tneq h55 (by decide))
                                                                                    | 4, _ => exact Or.inr (tneq h77 (by decide))
                                                                                    | 5, _ => exact Or.inr (tneq h87 (by decide))
                                                                                    | 6, _ => exact Or.inr (tneq h99 (by decide))
                                                                                    | 7, _ => exact Or.inr (tneq h113 (by decide))
                                                                                    | 8, _ => exact Or.inr (tneq h127 (by decide))
                                                                                    | 9, _ => exact Or.inr (tneq h143 (by decide))
                                                                                    | 10, _ => exact Or.inr (tneq h157 (by decide))
                                                                                    | 11, _ => exact Or.inr (tneq h169 (by decide))
                                                                                    | 12, _ => exact Or.inr (tneq h179 (by decide))
                                                                                    | 13, _ => exact Or.inr (tneq h193 (by decide))
                                                                                    | 14, _ => exact Or.inr (tneq h203 (by decide))
                                                                                    | 15, _ => exact Or.inr (tneq h217 (by decide))
                                                                                    | 16, _ => exact Or.inr (tneq h229 (by decide))
                                                                                    | 17, _ => exact Or.inr (tneq h239 (by decide))
                                                                                    | 18, _ => exact Or.inr (tneq h253 (by decide))
                                                                                    | 19, _ => exact Or.inr (tneq h267 (by decide))
                                                                                    | 20, _ => exact Or.inr (tneq h281 (by decide))
                                                                                    | 21, _ => exact Or.inr (tneq h295 (by decide))
                                                                                    | 22, _ => exact Or.inr (tneq h309 (by decide))
                                                                                    | 23, _ => exact Or.inr (tneq h325 (by decide))
                                                                                    | 24, _ => exact Or.inr (tneq h339 (by decide))
                                                                                    | 25, _ => exact Or.inr (tneq h355 (by decide))
                                                                                    | 26, _ => exact Or.inr (tneq h371 (by decide))
                                                                                    | 27, _ => exact Or.inr (tneq h387 (by decide))
                                                                                    | 28, _ => exact Or.inr (tneq h399 (by decide))
                                                                                    | 29, _ => exact Or.inr (tneq h413 (by decide))
                                                                                    | 30, _ => exact Or.inr (tneq h429 (by decide))
                                                                                    | 31, _ => exact Or.inr (tneq h443 (by decide))
                                                                                    | 32, _ => exact Or.inr (tneq h461 (by decide))
                                                                                    | 33, _ => exact Or.inr (tneq h471 (by decide))
                                                                                    | 34, _ => exact Or.inr (tneq h481 (by decide))
                                                                                    | 35, _ => exact Or.inr (tneq h497 (by decide))
                                                                                    | 36, _ => exact Or.inr (tneq h513 (by decide))
                                                                                    | 37, _ => exact Or.inr (tneq h533 (by decide))
                                                                                    | 38, _ => exact Or.inr (tneq h551 (by decide))
                                                                                    | j + 39, h => exact absurd h (by omega)
                                                                                  refine WPe_sub [0, 1, 2, 3] rfl ?_
                                                                                  exact wpjL_law_1505 X w0 L xs hg n k18 hk18 _ _ (by omega) (by omega) _ _ _ _
theorem wplbL_law_18 (X : CX) (w0 : Wd) (L : Nat) (xs : Nat → Int32) (hg : gL X.2.2.2.2.2.2.2.2.2 = L ∧ gX X.2.2.2.2.2.2.2.2.2 = xs)  : ∀ (n c s : Nat), c + n * 3 ≤ 1606 → s + n * 205 ≤ 108616 → ∀ (v : Nat × Nat × Int32) (w : Wd), WPe rtI X (mL_law, 52, 1606, 108616, w0) c s (loopF (bL_law_18 L xs ) n v w) 18 [(0, vR (1 : Nat)), (1, vR v.1), (2, vR v.2.1), (3, vI v.2.2)] [] w :=
  WPe_loopC (rt := rtI) (X := X) (M := (mL_law, 52, 1606, 108616, w0)) (fun v : Nat × Nat × Int32 => [(0, vR (1 : Nat)), (1, vR v.1), (2, vR v.2.1), (3, vI v.2.2)]) (fun k n hk c s h1 h2 v w => wpbL_law_18 X w0 L xs hg n  k hk c s h1 h2 v w)
noncomputable def fL_law (L : Nat) (xs : Nat → Int32)  (w : Wd) : Option (Int32 × Wd) :=
  lw (wN w 5 0) fun w2 => ((f5_init (nx w) w2).bind fun z5 => (lw (wN z5.2 6 0) fun w9 => ((f6_init (nx z5.2) w9).bind fun z12 => (loopF (bL_law_18 L xs) 513 ((nx w), (nx z5.2), (0 : Int32)) z12.2))))
theorem wpfL_law (X : CX) (w0 : Wd) (L : Nat) (xs : Nat → Int32) (hg : gL X.2.2.2.2.2.2.2.2.2 = L ∧ gX X.2.2.2.2.2.2.2.2.2 = xs)  (w : Wd) : WPe rtI X (mL_law, 52, 1606, 108616, w0) 0 0 (fL_law L xs  w) 0 [(0, vR (1 : Nat))] [] w := by
  unfold fL_law
  refine WPe_nx fun n1 => ?_
  refine WPe_newO (pc := 0) (N := 8) (t := 5) (C := RX5) (T := TX5) (dd dtL_law_0 0 rfl) rfl (bw_mem1 15 rfl rfl) (bw_mem1 16 rfl rfl) (bw_mem1 1 rfl rfl) nk5 ⟨(Nat.le_of_ble_eq_true rfl), (Nat.le_of_ble_eq_true rfl)⟩ ?_
  refine WPe_lw fun w2 e3 => ?_
  refine WPe_dup (pc := 3) (dd dtL_law_0 1 rfl) rfl ?_
  refine WPe_pos (shN e3) (by decide) fun h4 => ?_
  refine WPe_callI (pc := 4) (rtc := rtV) (Mc := mX5_init) (d' := 51) (mc' := 47) (ms' := 1224) [] [vR (nx w)] rfl (dd dtL_law_0 2 rfl) (okf5_init (nx w) w2) moX5_init icX5_init ⟨rfl, rfl⟩ (Or.inl (bw_mem1 17 rfl rfl)) h4 rfl (Nat.le_of_ble_eq_true rfl) ⟨(Nat.le_of_ble_eq_true rfl), (Nat.le_of_ble_eq_true rfl)⟩ ⟨(Nat.le_of_ble_eq_true rfl), (Nat.le_of_ble_eq_true rfl)⟩ (fun z5 h6 e7 => ?_)
  refine WPe_st (st2 := [vR (nx w)]) rfl ?_
  refine WPe_astore_n (pc := 7) (ls' := [(1, vR (nx w)), (0, vR (1 : Nat))]) (dd dtL_law_0 3 rfl) (Nat.le_of_ble_eq_true rfl) rfl ?_
  refine WPe_nx fun n8 => ?_
  refine WPe_newO (pc := 8) (N := 32) (t := 6) (C := RX6) (T := TX6) (dd dtL_law_0 4 rfl) rfl (bw_mem4 0 rfl rfl) (bw_mem4 1 rfl rfl) (bw_mem1 14 rfl rfl) nk6 ⟨(Nat.le_of_ble_eq_true rfl), (Nat.le_of_ble_eq_true rfl)⟩ ?_
  refine WPe_lw fun w9 e10 => ?_
  refine WPe_dup (pc := 11) (dd dtL_law_0 5 rfl) rfl ?_
  refine WPe_pos (shN e10) (by decide) fun h11 => ?_
  refine WPe_callI (pc := 12) (rtc := rtV) (Mc := mX6_init) (d' := 6) (mc' := 18) (ms' := 2187) [] [vR (nx z5.2)] rfl (dd dtL_law_0 6 rfl) (okf6_init (nx z5.2) w9) moX6_init icX6_init ⟨rfl, rfl⟩ (Or.inl (bw_mem4 2 rfl rfl)) h11 rfl (Nat.le_of_ble_eq_true rfl) ⟨(Nat.le_of_ble_eq_true rfl), (Nat.le_of_ble_eq_true rfl)⟩ ⟨(Nat.le_of_ble_eq_true rfl), (Nat.le_of_ble_eq_true rfl)⟩ (fun z12 h13 e14 => ?_)
  refine WPe_st (st2 := [vR (nx z5.2)]) rfl ?_
  refine WPe_astore_n (pc := 15) (ls' := [(2, vR (nx z5.2)), (1, vR (nx w)), (0, vR (1 : Nat))]) (dd dtL_law_0 7 rfl) (Nat.le_of_ble_eq_true rfl) rfl ?_
  refine WPe_iconst (pc := 16) (0 : Int32) (dd dtL_law_0 8 rfl) (by decide) ?_
  refine WPe_istore_n (pc := 17) (ls' := [(3, vI (0 : Int32)), (2, vR (nx z5.2)), (1, vR (nx w)), (0, vR (1 : Nat))]) (dd dtL_law_0 9 rfl) (Nat.le_of_ble_eq_true rfl) rfl ?_
  refine WPe_sub [3, 2, 1, 0] rfl ?_
  exact wplbL_law_18 X w0 L xs hg  513 _ _ (by omega) (by omega) _ _
