def pw_jt : List pw_Jt := [(2, (362, 73, 0), 1, (361, 22)),
  (1, (310, 73, 0), 1, (309, 12)),
  (2, (335, 73, 0), 1, (334, 18)),
  (1, (422, 70, 0), 1, (421, 31)),
  (1, (443, 70, 0), 1, (442, 36)),
  (1, (286, 70, 0), 1, (285, 6)),
  (1, (326, 70, 0), 1, (325, 16)),
  (1, (294, 70, 0), 1, (293, 8)),
  (2, (331, 70, 0), 1, (330, 17)),
  (1, (386, 72, 0), 1, (385, 26)),
  (1, (366, 72, 0), 1, (365, 23)),
  (1, (390, 72, 0), 1, (389, 27)),
  (1, (402, 68, 0), 1, (400, 401)),
  (1, (119, 68, 0), 1, (118, 0)),
  (1, (506, 68, 0), 1, (505, 43)),
  (1, (258, 68, 0), 1, (257, 1)),
  (1, (278, 68, 0), 1, (277, 4)),
  (2, (262, 68, 0), 1, (261, 2)),
  (3, (266, 68, 0), 1, (265, 3)),
  (3, (631, 69, 0), 0, (630, 0)),
  (1, (616, 69, 0), 1, (615, 45)),
  (1, (659, 69, 0), 1, (658, 51)),
  (1, (667, 69, 0), 1, (666, 53)),
  (2, (683, 69, 0), 1, (682, 55)),
  (3, (691, 69, 0), 1, (690, 56)),
  (1, (695, 69, 0), 1, (694, 57)),
  (3, (739, 69, 0), 1, (738, 62)),
  (1, (715, 69, 0), 1, (713, 714)),
  (1, (727, 69, 0), 1, (726, 59)),
  (1, (743, 69, 0), 1, (742, 63)),
  (3, (771, 69, 0), 1, (770, 66)),
  (2, (207, 73, 0), 2, (206, 0)),
  (1, (306, 73, 0), 1, (305, 11)),
  (1, (314, 73, 0), 1, (313, 13)),
  (2, (460, 73, 0), 1, (459, 40)),
  (1, (348, 73, 0), 1, (347, 20)),
  (2, (418, 70, 0), 1, (417, 30)),
  (1, (322, 70, 0), 1, (321, 15)),
  (0, (298, 70, 0), 1, (297, 9)),
  (0, (132, 72, 0), 2, (131, 0)),
  (1, (382, 72, 0), 1, (381, 25)),
  (0, (78, 68, 0), 2, (77, 0)),
  (3, (254, 68, 0), 1, (252, 253)),
  (3, (270, 68, 0), 1, (268, 269)),
  (2, (370, 68, 0), 1, (368, 369)),
  (2, (398, 68, 0), 1, (396, 397)),
  (2, (488, 68, 0), 1, (486, 487)),
  (3, (498, 68, 0), 1, (496, 497)),
  (1, (378, 68, 0), 1, (377, 24)),
  (2, (510, 68, 0), 1, (509, 44)),
  (2, (468, 68, 0), 1, (467, 41)),
  (1, (414, 68, 0), 1, (413, 29)),
  (4, (435, 68, 0), 1, (434, 34)),
  (0, (515, 69, 0), 2, (514, 0)),
  (1, (628, 69, 0), 1, (627, 46)),
  (1, (647, 69, 0), 1, (646, 48)),
  (5, (612, 69, 0), 1, (610, 611)),
  (1, (620, 69, 0), 1, (618, 619)),
  (1, (655, 69, 0), 1, (654, 50)),
  (3, (663, 69, 0), 1, (662, 52)),
  (3, (735, 69, 0), 1, (734, 61)),
  (1, (783, 69, 0), 1, (781, 782)),
  (2, (356, 73, 0), 1, (355, 21)),
  (4, (123, 70, 0), 2, (122, 0)),
  (2, (290, 70, 0), 1, (289, 7)),
  (1, (203, 68, 0), 1, (201, 202)),
  (1, (374, 68, 0), 1, (372, 373)),
  (1, (464, 68, 0), 1, (462, 463)),
  (3, (484, 68, 0), 1, (482, 483)),
  (3, (492, 68, 0), 1, (490, 491)),
  (1, (502, 68, 0), 1, (500, 501)),
  (1, (480, 68, 0), 1, (479, 42)),
  (4, (318, 68, 0), 1, (317, 14)),
  (2, (344, 68, 0), 1, (343, 19)),
  (3, (430, 68, 0), 1, (429, 33)),
  (2, (439, 68, 0), 1, (438, 35)),
  (3, (624, 69, 0), 1, (622, 623)),
  (3, (635, 69, 0), 1, (633, 634)),
  (3, (671, 69, 0), 1, (670, 54)),
  (2, (643, 69, 0), 1, (642, 47)),
  (2, (679, 69, 0), 1, (677, 678)),
  (2, (687, 69, 0), 1, (685, 686)),
  (2, (699, 69, 0), 1, (697, 698)),
  (1, (703, 69, 0), 1, (701, 702)),
  (1, (707, 69, 0), 1, (705, 706)),
  (2, (711, 69, 0), 1, (709, 710)),
  (1, (731, 69, 0), 1, (730, 60)),
  (3, (751, 69, 0), 1, (750, 65)),
  (1, (755, 69, 0), 1, (753, 754)),
  (2, (759, 69, 0), 1, (757, 758)),
  (3, (763, 69, 0), 1, (761, 762)),
  (2, (767, 69, 0), 1, (765, 766)),
  (3, (775, 69, 0), 1, (773, 774)),
  (3, (779, 69, 0), 1, (777, 778)),
  (5, (115, 68, 0), 1, (113, 114)),
  (2, (339, 68, 0), 1, (337, 338)),
  (2, (352, 68, 0), 1, (350, 351)),
  (1, (394, 68, 0), 1, (392, 393)),
  (2, (476, 68, 0), 1, (474, 475)),
  (3, (302, 68, 0), 1, (301, 10)),
  (1, (426, 68, 0), 1, (425, 32)),
  (4, (456, 68, 0), 1, (455, 39)),
  (2, (651, 69, 0), 1, (650, 49)),
  (2, (747, 69, 0), 1, (746, 64)),
  (2, (282, 68, 0), 1, (281, 5)),
  (4, (452, 68, 0), 1, (451, 38)),
  (2, (639, 69, 0), 1, (637, 638)),
  (2, (675, 69, 0), 1, (673, 674)),
  (0, (723, 69, 0), 1, (722, 58)),
  (2, (274, 68, 0), 1, (272, 273)),
  (2, (472, 68, 0), 1, (470, 471)),
  (2, (447, 68, 0), 1, (446, 37)),
  (1, (719, 69, 0), 1, (717, 718)),
  (0, (410, 68, 0), 1, (409, 28)),
  (1, (406, 68, 0), 1, (404, 405))]
set_option maxRecDepth 100000 in
theorem pw_jt_0 : (List.range' 0 5).all (pw_jall pw_jt) = true := by decide +kernel
set_option maxRecDepth 100000 in
theorem pw_jt_5 : (List.range' 5 5).all (pw_jall pw_jt) = true := by decide +kernel
set_option maxRecDepth 100000 in
theorem pw_jt_10 : (List.range' 10 5).all (pw_jall pw_jt) = true := by decide +kernel
set_option maxRecDepth 100000 in
theorem pw_jt_15 : (List.range' 15 5).all (pw_jall pw_jt) = true := by decide +kernel
set_option maxRecDepth 100000 in
theorem pw_jt_20 : (List.range' 20 5).all (pw_jall pw_jt) = true := by decide +kernel
set_option maxRecDepth 100000 in
theorem pw_jt_25 : (List.range' 25 5).all (pw_jall pw_jt) = true := by decide +kernel
set_option maxRecDepth 100000 in
theorem pw_jt_30 : (List.range' 30 5).all (pw_jall pw_jt) = true := by decide +kernel
set_option maxRecDepth 100000 in
theorem pw_jt_35 : (List.range' 35 5).all (pw_jall pw_jt) = true := by decide +kernel
set_option maxRecDepth 100000 in
theorem pw_jt_40 : (List.range' 40 5).all (pw_jall pw_jt) = true := by decide +kernel
set_option maxRecDepth 100000 in
theorem pw_jt_45 : (List.range' 45 5).all (pw_jall pw_jt) = true := by decide +kernel
set_option maxRecDepth 100000 in
theorem pw_jt_50 : (List.range' 50 5).all (pw_jall pw_jt) = true := by decide +kernel
set_option maxRecDepth 100000 in
theorem pw_jt_55 : (List.range' 55 5).all (pw_jall pw_jt) = true := by decide +kernel
set_option maxRecDepth 100000 in
theorem pw_jt_60 : (List.range' 60 5).all (pw_jall pw_jt) = true := by decide +kernel
set_option maxRecDepth 100000 in
theorem pw_jt_65 : (List.range' 65 5).all (pw_jall pw_jt) = true := by decide +kernel
set_option maxRecDepth 100000 in
theorem pw_jt_70 : (List.range' 70 5).all (pw_jall pw_jt) = true := by decide +kernel
set_option maxRecDepth 100000 in
theorem pw_jt_75 : (List.range' 75 5).all (pw_jall pw_jt) = true := by decide +kernel
set_option maxRecDepth 100000 in
theorem pw_jt_80 : (List.range' 80 5).all (pw_jall pw_jt) = true := by decide +kernel
set_option maxRecDepth 100000 in
theorem pw_jt_85 : (List.range' 85 5).all (pw_jall pw_jt) = true := by decide +kernel
set_option maxRecDepth 100000 in
theorem pw_jt_90 : (List.range' 90 5).all (pw_jall pw_jt) = true := by decide +kernel
set_option maxRecDepth 100000 in
theorem pw_jt_95 : (List.range' 95 5).all (pw_jall pw_jt) = true := by decide +kernel
set_option maxRecDepth 100000 in
theorem pw_jt_100 : (List.range' 100 5).all (pw_jall pw_jt) = true := by decide +kernel
set_option maxRecDepth 100000 in
theorem pw_jt_105 : (List.range' 105 5).all (pw_jall pw_jt) = true := by decide +kernel
set_option maxRecDepth 100000 in
theorem pw_jt_110 : (List.range' 110 5).all (pw_jall pw_jt) = true := by decide +kernel
theorem pw_tok : pw_Tok pw_jt := by
  intro j q hq
  have hl : j < 115 := (List.getElem?_eq_some_iff.mp hq).1
  have key : ∀ k m, (List.range' k m).all (pw_jall pw_jt) = true → k ≤ j → j < k + m → pw_jall pw_jt j = true := fun k m h h1 h2 => List.all_eq_true.mp h j (List.mem_range'_1.mpr ⟨h1, h2⟩)
  rcases Nat.lt_or_ge j 5 with z | z
  · exact key 0 5 pw_jt_0 (by omega) (by omega)
  rcases Nat.lt_or_ge j 10 with z | z
  · exact key 5 5 pw_jt_5 (by omega) (by omega)
  rcases Nat.lt_or_ge j 15 with z | z
  · exact key 10 5 pw_jt_10 (by omega) (by omega)
  rcases Nat.lt_or_ge j 20 with z | z
  · exact key 15 5 pw_jt_15 (by omega) (by omega)
  rcases Nat.lt_or_ge j 25 with z | z
  · exact key 20 5 pw_jt_20 (by omega) (by omega)
  rcases Nat.lt_or_ge j 30 with z | z
  · exact key 25 5 pw_jt_25 (by omega) (by omega)
  rcases Nat.lt_or_ge j 35 with z | z
  · exact key 30 5 pw_jt_30 (by omega) (by omega)
  rcases Nat.lt_or_ge j 40 with z | z
  · exact key 35 5 pw_jt_35 (by omega) (by omega)
  rcases Nat.lt_or_ge j 45 with z | z
  · exact key 40 5 pw_jt_40 (by omega) (by omega)
  rcases Nat.lt_or_ge j 50 with z | z
  · exact key 45 5 pw_jt_45 (by omega) (by omega)
  rcases Nat.lt_or_ge j 55 with z | z
  · exact key 50 5 pw_jt_50 (by omega) (by omega)
  rcases Nat.lt_or_ge j 60 with z | z
  · exact key 55 5 pw_jt_55 (by omega) (by omega)
  rcases Nat.lt_or_ge j 65 with z | z
  · exact key 60 5 pw_jt_60 (by omega) (by omega)
  rcases Nat.lt_or_ge j 70 with z | z
  · exact key 65 5 pw_jt_65 (by omega) (by omega)
  rcases Nat.lt_or_ge j 75 with z | z
  · exact key 70 5 pw_jt_70 (by omega) (by omega)
  rcases Nat.lt_or_ge j 80 with z | z
  · exact key 75 5 pw_jt_75 (by omega) (by omega)
  rcases Nat.lt_or_ge j 85 with z | z
  · exact key 80 5 pw_jt_80 (by omega) (by omega)
  rcases Nat.lt_or_ge j 90 with z | z
  · exact key 85 5 pw_jt_85 (by omega) (by omega)
  rcases Nat.lt_or_ge j 95 with z | z
  · exact key 90 5 pw_jt_90 (by omega) (by omega)
  rcases Nat.lt_or_ge j 100 with z | z
  · exact key 95 5 pw_jt_95 (by omega) (by omega)
  rcases Nat.lt_or_ge j 105 with z | z
  · exact key 100 5 pw_jt_100 (by omega) (by omega)
  rcases Nat.lt_or_ge j 110 with z | z
  · exact key 105 5 pw_jt_105 (by omega) (by omega)
  exact key 110 5 pw_jt_110 (by omega) (by omega)
