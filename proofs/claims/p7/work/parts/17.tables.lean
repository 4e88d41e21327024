def t_all : Nat → List (Nat → Option tI) → Prop
  | _, [] => True
  | i, f :: t => t_mth i f ∧ t_all (i + 1) t
theorem t_all_of : ∀ {L : List (Nat → Option tI)} {i : Nat}, t_all i L → ∀ (j : Nat) (f : Nat → Option tI), L[j]? = some f → t_mth (i + j) f
  | [], _, _, j, f, h => by simp at h
  | g :: t, i, ha, 0, f, h => by cases h; exact ha.1
  | g :: t, i, ha, j + 1, f, h => by
    have := t_all_of ha.2 j f h
    rw [show i + (j + 1) = i + 1 + j by omega]
    exact this
theorem t_all_app : ∀ {A B : List (Nat → Option tI)} {i : Nat}, t_all i A → t_all (i + A.length) B → t_all i (A ++ B)
  | [], B, i, _, h => h
  | f :: A, B, i, ha, h => ⟨ha.1, t_all_app ha.2 (by rw [List.length_cons, show i + (A.length + 1) = i + 1 + A.length by omega] at h; exact h)⟩
theorem t_all_0 : t_all 0 t_cts_0 := ⟨h_0, h_1, h_2, h_3, h_4, h_5, h_6, h_7, h_8, h_9, trivial⟩
theorem t_all_1 : t_all 10 t_cts_1 := ⟨h_10, h_11, h_12, h_13, h_14, h_15, h_16, h_17, h_18, h_19, trivial⟩
theorem t_all_2 : t_all 20 t_cts_2 := ⟨h_20, h_21, h_22, h_23, h_24, h_25, h_26, h_27, h_28, h_29, trivial⟩
theorem t_all_3 : t_all 30 t_cts_3 := ⟨h_30, h_31, h_32, h_33, h_34, h_35, h_36, h_37, h_38, h_39, trivial⟩
theorem t_all_4 : t_all 40 t_cts_4 := ⟨h_40, h_41, h_42, h_43, h_44, h_45, h_46, h_47, h_48, h_49, trivial⟩
theorem t_all_5 : t_all 50 t_cts_5 := ⟨h_50, h_51, h_52, h_53, h_54, h_55, h_56, h_57, h_58, h_59, trivial⟩
theorem t_all_6 : t_all 60 t_cts_6 := ⟨h_60, h_61, h_62, h_63, h_64, h_65, h_66, h_67, h_68, h_69, trivial⟩
theorem t_all_7 : t_all 70 t_cts_7 := ⟨h_70, h_71, h_72, h_73, h_74, h_75, h_76, h_77, h_78, h_79, trivial⟩
theorem t_all_8 : t_all 80 t_cts_8 := ⟨h_80, h_81, h_82, h_83, h_84, h_85, h_86, h_87, h_88, h_89, trivial⟩
theorem t_all_9 : t_all 90 t_cts_9 := ⟨h_90, h_91, h_92, h_93, h_94, h_95, h_96, h_97, h_98, h_99, trivial⟩
theorem t_all_10 : t_all 100 t_cts_10 := ⟨h_100, h_101, h_102, h_103, h_104, h_105, h_106, h_107, h_108, h_109, trivial⟩
theorem t_all_11 : t_all 110 t_cts_11 := ⟨h_110, h_111, h_112, h_113, h_114, h_115, h_116, h_117, h_118, h_119, trivial⟩
theorem t_all_12 : t_all 120 t_cts_12 := ⟨h_120, h_121, h_122, h_123, h_124, h_125, h_126, h_127, h_128, h_129, trivial⟩
theorem t_all_13 : t_all 130 t_cts_13 := ⟨h_130, h_131, h_132, h_133, h_134, h_135, h_136, h_137, h_138, h_139, trivial⟩
theorem t_all_14 : t_all 140 t_cts_14 := ⟨h_140, h_141, h_142, h_143, h_144, h_145, h_146, h_147, h_148, h_149, trivial⟩
theorem t_all_15 : t_all 150 t_cts_15 := ⟨h_150, h_151, h_152, h_153, h_154, h_155, h_156, h_157, h_158, h_159, trivial⟩
theorem t_all_16 : t_all 160 t_cts_16 := ⟨h_160, h_161, h_162, h_163, h_164, h_165, h_166, h_167, h_168, h_169, trivial⟩
theorem t_all_17 : t_all 170 t_cts_17 := ⟨h_170, h_171, h_172, h_173, h_174, h_175, h_176, h_177, h_178, h_179, trivial⟩
theorem t_all_18 : t_all 180 t_cts_18 := ⟨h_180, h_181, h_182, h_183, h_184, h_185, h_186, h_187, h_188, h_189, trivial⟩
theorem t_all_19 : t_all 190 t_cts_19 := ⟨h_190, h_191, h_192, h_193, h_194, h_195, h_196, h_197, h_198, h_199, trivial⟩
theorem t_all_20 : t_all 200 t_cts_20 := ⟨h_200, h_201, h_202, h_203, h_204, h_205, h_206, h_207, h_208, h_209, trivial⟩
theorem t_all_21 : t_all 210 t_cts_21 := ⟨h_210, h_211, h_212, h_213, h_214, h_215, h_216, h_217, h_218, h_219, trivial⟩
theorem t_all_22 : t_all 220 t_cts_22 := ⟨h_220, h_221, h_222, h_223, h_224, h_225, h_226, h_227, h_228, h_229, trivial⟩
theorem t_all_23 : t_all 230 t_cts_23 := ⟨h_230, h_231, h_232, h_233, h_234, h_235, h_236, h_237, h_238, h_239, trivial⟩
theorem t_all_24 : t_all 240 t_cts_24 := ⟨h_240, h_241, h_242, h_243, h_244, h_245, h_246, h_247, h_248, h_249, trivial⟩
theorem t_all_25 : t_all 250 t_cts_25 := ⟨h_250, h_251, h_252, h_253, h_254, h_255, h_256, h_257, h_258, h_259, trivial⟩
theorem t_all_26 : t_all 260 t_cts_26 := ⟨h_260, h_261, h_262, h_263, h_264, h_265, h_266, h_267, h_268, h_269, trivial⟩
theorem t_all_27 : t_all 270 t_cts_27 := ⟨h_270, h_271, h_272, h_273, h_274, h_275, h_276, h_277, h_278, h_279, trivial⟩
theorem t_all_28 : t_all 280 t_cts_28 := ⟨h_280, h_281, h_282, h_283, h_284, h_285, h_286, h_287, h_288, h_289, trivial⟩
theorem t_all_29 : t_all 290 t_cts_29 := ⟨h_290, h_291, h_292, h_293, h_294, h_295, h_296, h_297, h_298, h_299, trivial⟩
theorem t_all_30 : t_all 300 t_cts_30 := ⟨h_300, h_301, h_302, h_303, trivial⟩
theorem t_all_ok : t_all 0 t_cts := t_all_app t_all_0 (t_all_app t_all_1 (t_all_app t_all_2 (t_all_app t_all_3 (t_all_app t_all_4 (t_all_app t_all_5 (t_all_app t_all_6 (t_all_app t_all_7 (t_all_app t_all_8 (t_all_app t_all_9 (t_all_app t_all_10 (t_all_app t_all_11 (t_all_app t_all_12 (t_all_app t_all_13 (t_all_app t_all_14 (t_all_app t_all_15 (t_all_app t_all_16 (t_all_app t_all_17 (t_all_app t_all_18 (t_all_app t_all_19 (t_all_app t_all_20 (t_all_app t_all_21 (t_all_app t_all_22 (t_all_app t_all_23 (t_all_app t_all_24 (t_all_app t_all_25 (t_all_app t_all_26 (t_all_app t_all_27 (t_all_app t_all_28 (t_all_app t_all_29 (t_all_30))))))))))))))))))))))))))))))
theorem t_HC0 : t_HC t_ms t_ct0 := by
  intro i pc en h
  unfold t_ct0 at h
  cases hf : t_cts[i]? with
  | none => rw [hf] at h; cases h
  | some f =>
    rw [hf] at h
    have := t_all_of t_all_ok i f hf pc en h
    rw [Nat.zero_add] at this
    exact this
def t_m1 (q : t_M) (L na rc p1 p2 : Nat) : Bool := t_in [Cond.code q.1 q.2.1 q.2.2.1 q.2.2.2.1, Cond.initialized q.1.cls] [p1, p2] && (plainName q.1.cls && (decide (q.1.cls ≠ "java/lang/invoke/MethodHandle") && (decide (q.1.cls ≠ "java/lang/invoke/VarHandle") && (decide ((parseMethodDescriptor q.1.desc).map (fun d => d.parameters.length) = some q.2.2.2.2.1) && (decide (q.2.2.1 ≤ 19) && ((decide (q.1.name ≠ "<init>") || decide (q.2.2.2.1 = none)) && ((match vwCl[q.2.2.2.2.2]? with | some z => decide (z.1 = q.1.cls) | none => true) && (decide (q.2.2.1 = L) && (decide (q.2.2.2.2.1 = na) && (decide (q.2.2.2.2.2 = rc) && decide (rc ≤ 10)))))))))))
theorem t_m1_of {q : t_M} {L na rc p1 p2 : Nat} (h : t_m1 q L na rc p1 p2 = true) : q.2.2.1 = L ∧ q.2.2.2.2.1 = na ∧ q.2.2.2.2.2 = rc ∧ rc ≤ 8 + 2 ∧ t_mok q := by
  simp only [t_m1, Bool.and_eq_true, Bool.or_eq_true, decide_eq_true_eq] at h
  obtain ⟨h1, h2, h3, h4, h5, h6, h7, h8, h9, h10, h11, h12⟩ := h
  have hw := t_in_of h1
  refine ⟨h9, h10, h11, h12, hw _ (by simp), hw _ (by simp), h2, ⟨h3, h4⟩, h5, h6, fun z => h7.resolve_left (fun y => y z), fun z hz => ?_⟩
  rw [hz] at h8
  exact of_decide_eq_true h8
def t_mall : List t_M → List (Option (Nat × Nat × Nat)) → List (Nat × Nat) → Bool
  | [], [], _ => true
  | q :: t, some (L, na, rc) :: u, p :: v => t_m1 q L na rc p.1 p.2 && t_mall t u v
  | _ :: t, none :: u, _ :: v => t_mall t u v
  | _, _, _ => false
theorem t_mall_of : ∀ {t : List t_M} {u : List (Option (Nat × Nat × Nat))} {v : List (Nat × Nat)}, t_mall t u v = true → ∀ (j L na rc : Nat), u[j]? = some (some (L, na, rc)) → ∃ q, t[j]? = some q ∧ q.2.2.1 = L ∧ q.2.2.2.2.1 = na ∧ q.2.2.2.2.2 = rc ∧ rc ≤ 8 + 2 ∧ t_mok q
  | [], [], _, _, j, L, na, rc, h => by simp at h
  | [], _ :: _, _, hh, _, _, _, _, _ => by cases hh
  | _ :: _, [], _, hh, _, _, _, _, _ => by cases hh
  | _ :: _, some _ :: _, [], hh, _, _, _, _, _ => by cases hh
  | _ :: _, none :: _, [], hh, _, _, _, _, _ => by cases hh
  | q :: t, some (L0, na0, rc0) :: u, p :: v, hh, j, L, na, rc, h => by
    simp only [t_mall, Bool.and_eq_true] at hh
    cases j with
    | zero => cases h; exact ⟨q, rfl, t_m1_of hh.1⟩
    | succ j => exact t_mall_of hh.2 j L na rc h
  | q :: t, none :: u, p :: v, hh, j, L, na, rc, h => by
    cases j with
    | zero => cases h
    | succ j => exact t_mall_of (t := t) (u := u) (v := v) hh j L na rc h
def t_mpr (t : List t_M) (u : List (Option (Nat × Nat × Nat))) : Prop := t.length = u.length ∧ ∀ (j L na rc : Nat), u[j]? = some (some (L, na, rc)) → ∃ q, t[j]? = some q ∧ q.2.2.1 = L ∧ q.2.2.2.2.1 = na ∧ q.2.2.2.2.2 = rc ∧ rc ≤ 8 + 2 ∧ t_mok q
theorem t_mpr_app {t t' : List t_M} {u u' : List (Option (Nat × Nat × Nat))} (h : t_mpr t u) (h' : t_mpr t' u') : t_mpr (t ++ t') (u ++ u') := by
  refine ⟨by rw [List.length_append, List.length_append, h.1, h'.1], fun j L na rc hj => ?_⟩
  by_cases hl : j < u.length
  · rw [List.getElem?_append_left hl] at hj
    obtain ⟨q, h1, h2⟩ := h.2 j L na rc hj
    exact ⟨q, by rw [List.getElem?_append_left (by rw [h.1]; exact hl)]; exact h1, h2⟩
  · rw [List.getElem?_append_right (by omega)] at hj
    obtain ⟨q, h1, h2⟩ := h'.2 _ L na rc hj
    exact ⟨q, by rw [List.getElem?_append_right (by rw [h.1]; omega), h.1]; exact h1, h2⟩
theorem t_mpr_0 : t_mpr t_ms_0 t_mil_0 := ⟨by decide +kernel, t_mall_of (v := [(0, 0), (100, 78), (333, 78), (349, 78), (373, 78), (385, 78), (389, 78), (393, 78), (405, 78), (494, 78)]) (by decide +kernel)⟩
theorem t_mpr_1 : t_mpr t_ms_1 t_mil_1 := ⟨by decide +kernel, t_mall_of (v := [(498, 78), (522, 78), (539, 78), (543, 78), (555, 78), (572, 78), (576, 78), (580, 78), (705, 78), (709, 78)]) (by decide +kernel)⟩
theorem t_mpr_2 : t_mpr t_ms_2 t_mil_2 := ⟨by decide +kernel, t_mall_of (v := [(714, 78), (725, 78), (734, 78), (742, 78), (750, 78), (759, 78), (764, 78), (776, 78), (780, 78), (784, 78)]) (by decide +kernel)⟩
theorem t_mpr_3 : t_mpr t_ms_3 t_mil_3 := ⟨by decide +kernel, t_mall_of (v := [(789, 78), (810, 78), (819, 78), (823, 78), (869, 78), (877, 78), (889, 78), (893, 78), (900, 78), (907, 78)]) (by decide +kernel)⟩
theorem t_mpr_4 : t_mpr t_ms_4 t_mil_4 := ⟨by decide +kernel, t_mall_of (v := [(912, 78), (925, 78), (933, 78), (942, 78), (955, 78), (975, 78), (986, 78), (993, 78), (1005, 78), (1019, 78)]) (by decide +kernel)⟩
theorem t_mpr_5 : t_mpr t_ms_5 t_mil_5 := ⟨by decide +kernel, t_mall_of (v := [(1033, 78), (1037, 78), (1046, 78), (1051, 78), (1055, 78), (1078, 78), (1082, 78), (1086, 78), (1090, 78), (341, 78)]) (by decide +kernel)⟩
theorem t_mpr_6 : t_mpr t_ms_6 t_mil_6 := ⟨by decide +kernel, t_mall_of (v := [(337, 78), (1094, 78), (568, 78), (413, 78), (717, 78), (437, 78), (444, 78), (547, 78), (108, 79), (584, 79)]) (by decide +kernel)⟩
theorem t_mpr_7 : t_mpr t_ms_7 t_mil_7 := ⟨by decide +kernel, t_mall_of (v := [(506, 79), (502, 79), (430, 79), (434, 79), (855, 79), (965, 79), (970, 79), (483, 79), (806, 79), (426, 79)]) (by decide +kernel)⟩
theorem t_mpr_8 : t_mpr t_ms_8 t_mil_8 := ⟨by decide +kernel, t_mall_of (v := [(476, 79), (397, 79), (530, 79), (514, 79), (510, 79), (409, 79), (1042, 79), (551, 79), (1059, 79), (518, 79)]) (by decide +kernel)⟩
theorem t_mpr_9 : t_mpr t_ms_9 t_mil_9 := ⟨by decide +kernel, t_mall_of (v := [(559, 79), (564, 79), (421, 79), (526, 79), (768, 79), (929, 79), (535, 79), (462, 79), (937, 79), (1067, 79)]) (by decide +kernel)⟩
theorem t_mpr_10 : t_mpr t_ms_10 t_mil_10 := ⟨by decide +kernel, t_mall_of (v := [(1072, 79), (1063, 79), (164, 80), (417, 80), (448, 80), (721, 80), (729, 80), (452, 80), (814, 80), (755, 80)]) (by decide +kernel)⟩
theorem t_mpr_11 : t_mpr t_ms_11 t_mil_11 := ⟨by decide +kernel, t_mall_of (v := [(738, 80), (746, 80), (184, 81), (840, 81), (881, 81), (846, 81), (196, 82), (827, 82), (946, 82), (873, 82)]) (by decide +kernel)⟩
theorem t_mpr_12 : t_mpr t_ms_12 t_mil_12 := ⟨by decide +kernel, t_mall_of (v := [(836, 82), (950, 82), (831, 82), (859, 82), (865, 82), (223, 83), (793, 83), (798, 83), (489, 91), (989, 91)]) (by decide +kernel)⟩
theorem t_mpr_13 : t_mpr t_ms_13 t_mil_13 := ⟨by decide +kernel, t_mall_of (v := [(978, 91), (982, 91), (915, 91), (918, 91), (958, 91), (961, 91), (996, 91), (1008, 91), (1011, 91), (1014, 91)]) (by decide +kernel)⟩
theorem t_mpr_14 : t_mpr t_ms_14 t_mil_14 := ⟨by decide +kernel, t_mall_of (v := [(1022, 91), (1026, 91), (1029, 91), (471, 89), (479, 89), (468, 89), (896, 89), (903, 89), (465, 89), (276, 85)]) (by decide +kernel)⟩
theorem t_mpr_15 : t_mpr t_ms_15 t_mil_15 := ⟨by decide +kernel, t_mall_of (v := [(353, 85), (361, 85), (357, 85), (365, 85), (378, 85), (345, 85), (401, 85), (369, 85), (244, 84), (589, 84)]) (by decide +kernel)⟩
theorem t_mpr_16 : t_mpr t_ms_16 t_mil_16 := ⟨by decide +kernel, t_mall_of (v := [(605, 84), (662, 84), (675, 84), (683, 84), (689, 84), (695, 84), (666, 84), (670, 84), (610, 84), (593, 84)]) (by decide +kernel)⟩
theorem t_mpr_17 : t_mpr t_ms_17 t_mil_17 := ⟨by decide +kernel, t_mall_of (v := [(597, 84), (601, 84), (440, 88), (455, 88), (0, 0), (0, 0), (0, 0), (614, 92), (624, 92), (618, 92)]) (by decide +kernel)⟩
theorem t_mpr_18 : t_mpr t_ms_18 t_mil_18 := ⟨by decide +kernel, t_mall_of (v := [(628, 92), (634, 92), (631, 93), (639, 94), (652, 95), (648, 95), (642, 95), (645, 95), (1099, 86), (1210, 86)]) (by decide +kernel)⟩
theorem t_mpr_19 : t_mpr t_ms_19 t_mil_19 := ⟨by decide +kernel, t_mall_of (v := [(1204, 86), (1241, 86), (1317, 86), (1313, 86), (1322, 86), (1276, 86), (1279, 86), (1346, 86), (1291, 86), (1200, 86)]) (by decide +kernel)⟩
theorem t_mpr_20 : t_mpr t_ms_20 t_mil_20 := ⟨by decide +kernel, t_mall_of (v := [(1221, 86), (1218, 86), (1214, 86), (1225, 86), (1229, 86), (1233, 86), (1237, 86), (1358, 86), (1249, 86), (1245, 86)]) (by decide +kernel)⟩
theorem t_mpr_21 : t_mpr t_ms_21 t_mil_21 := ⟨by decide +kernel, t_mall_of (v := [(1283, 86), (1303, 86), (1326, 86), (1309, 86), (1330, 86), (1334, 86), (1342, 86), (1338, 86), (1354, 86), (1350, 86)]) (by decide +kernel)⟩
theorem t_mpr_22 : t_mpr t_ms_22 t_mil_22 := ⟨by decide +kernel, t_mall_of (v := [(1362, 86), (1367, 86), (1395, 86), (1398, 86), (1392, 86), (1421, 86), (1407, 86), (1417, 86), (1413, 86), (1426, 86)]) (by decide +kernel)⟩
theorem t_mpr_23 : t_mpr t_ms_23 t_mil_23 := ⟨by decide +kernel, t_mall_of (v := [(1431, 86), (1436, 86), (1402, 86), (1388, 86), (1371, 86), (1269, 86), (1265, 86), (1299, 86), (1295, 86), (1261, 86)]) (by decide +kernel)⟩
theorem t_mpr_24 : t_mpr t_ms_24 t_mil_24 := ⟨by decide +kernel, t_mall_of (v := [(1257, 86), (1273, 86), (1253, 86), (1459, 86), (1441, 86), (1445, 86), (1449, 86), (1455, 86), (1463, 86), (1467, 86)]) (by decide +kernel)⟩
theorem t_mpr_25 : t_mpr t_ms_25 t_mil_25 := ⟨by decide +kernel, t_mall_of (v := [(1471, 86), (1475, 86), (1483, 86), (1479, 86), (1487, 86), (1494, 86), (1491, 86), (1506, 86), (1502, 86), (1498, 86)]) (by decide +kernel)⟩
theorem t_mpr_26 : t_mpr t_ms_26 t_mil_26 := ⟨by decide +kernel, t_mall_of (v := [(1510, 86), (1526, 86), (1522, 86), (1518, 86), (1514, 86), (1530, 86), (1534, 86), (1538, 86), (1546, 86), (1542, 86)]) (by decide +kernel)⟩
theorem t_mpr_27 : t_mpr t_ms_27 t_mil_27 := ⟨by decide +kernel, t_mall_of (v := [(1550, 86), (1554, 86), (1287, 86), (1562, 86), (1558, 86), (1566, 86), (1570, 86), (1578, 86), (1574, 86), (1582, 86)]) (by decide +kernel)⟩
theorem t_mpr_28 : t_mpr t_ms_28 t_mil_28 := ⟨by decide +kernel, t_mall_of (v := [(1586, 86), (1599, 86), (1595, 86), (1591, 86), (1603, 86), (1607, 86), (1611, 86), (1619, 86), (1615, 86), (1631, 86)]) (by decide +kernel)⟩
theorem t_mpr_29 : t_mpr t_ms_29 t_mil_29 := ⟨by decide +kernel, t_mall_of (v := [(1627, 86), (1623, 86), (1639, 86), (1635, 86), (1643, 86), (1651, 86), (1647, 86), (1656, 86), (1375, 86), (1384, 86)]) (by decide +kernel)⟩
theorem t_mpr_30 : t_mpr t_ms_30 t_mil_30 := ⟨by decide +kernel, t_mall_of (v := [(1381, 86), (1660, 86), (1664, 86), (1668, 86)]) (by decide +kernel)⟩
theorem t_mpr_ok : t_mpr t_ms t_mil := t_mpr_app t_mpr_0 (t_mpr_app t_mpr_1 (t_mpr_app t_mpr_2 (t_mpr_app t_mpr_3 (t_mpr_app t_mpr_4 (t_mpr_app t_mpr_5 (t_mpr_app t_mpr_6 (t_mpr_app t_mpr_7 (t_mpr_app t_mpr_8 (t_mpr_app t_mpr_9 (t_mpr_app t_mpr_10 (t_mpr_app t_mpr_11 (t_mpr_app t_mpr_12 (t_mpr_app t_mpr_13 (t_mpr_app t_mpr_14 (t_mpr_app t_mpr_15 (t_mpr_app t_mpr_16 (t_mpr_app t_mpr_17 (t_mpr_app t_mpr_18 (t_mpr_app t_mpr_19 (t_mpr_app t_mpr_20 (t_mpr_app t_mpr_21 (t_mpr_app t_mpr_22 (t_mpr_app t_mpr_23 (t_mpr_app t_mpr_24 (t_mpr_app t_mpr_25 (t_mpr_app t_mpr_26 (t_mpr_app t_mpr_27 (t_mpr_app t_mpr_28 (t_mpr_app t_mpr_29 (t_mpr_30))))))))))))))))))))))))))))))
theorem t_HM0 : t_HM t_ms t_mi := by
  intro j L na rc h
  unfold t_mi at h
  cases hj : t_mil[j]? with
  | none => rw [hj] at h; cases h
  | some x =>
    rw [hj] at h
    have hx : x = some (L, na, rc) := h
    rw [hx] at hj
    exact t_mpr_ok.2 j L na rc hj
