def t_all : Nat → List (Nat → Option tI) → Prop
  | _, [] => True
  | i, f :: t => t_mth i f ∧ t_all (i + 1) t
theorem t_all_of : ∀ {L : List (Nat → Option tI)} {i : Nat}, t_all i L → ∀ (j : Nat) (f : Nat → Option tI), L[j]? = some f → t_mth (i + j) f
  | [], _, _, j, f, h => by simp at h
  | g :: t, i, ha, 0, f, h => by cases h; exact ha.1
  | g :: t, i, ha, j + 1, f, h => by
    have := t_all_of ha.2 j f h
    rw [show i + (j + 1) = i + 1 + j by omega]
    exact this
theorem t_all_app : ∀ {A B : List (Nat → Option tI)} {i : Nat}, t_all i A → t_all (i + A.length) B → t_all i (A ++ B)
  | [], B, i, _, h => h
  | f :: A, B, i, ha, h => ⟨ha.1, t_all_app ha.2 (by rw [List.length_cons, show i + (A.length + 1) = i + 1 + A.length by omega] at h; exact h)⟩
theorem t_all_0 : t_all 0 t_cts_0 := ⟨h_0, h_1, h_2, h_3, h_4, h_5, h_6, h_7, h_8, h_9, trivial⟩
theorem t_all_1 : t_all 10 t_cts_1 := ⟨h_10, h_11, h_12, h_13, h_14, h_15, h_16, h_17, h_18, h_19, trivial⟩
theorem t_all_2 : t_all 20 t_cts_2 := ⟨h_20, h_21, h_22, h_23, h_24, h_25, h_26, h_27, h_28, h_29, trivial⟩
theorem t_all_3 : t_all 30 t_cts_3 := ⟨h_30, h_31, h_32, h_33, h_34, h_35, h_36, h_37, h_38, h_39, trivial⟩
theorem t_all_4 : t_all 40 t_cts_4 := ⟨h_40, h_41, h_42, h_43, h_44, h_45, h_46, h_47, h_48, h_49, trivial⟩
theorem t_all_5 : t_all 50 t_cts_5 := ⟨h_50, h_51, h_52, h_53, h_54, h_55, h_56, h_57, h_58, h_59, trivial⟩
theorem t_all_6 : t_all 60 t_cts_6 := ⟨h_60, h_61, h_62, h_63, h_64, h_65, h_66, h_67, h_68, h_69, trivial⟩
theorem t_all_7 : t_all 70 t_cts_7 := ⟨h_70, h_71, h_72, h_73, h_74, h_75, h_76, h_77, h_78, h_79, trivial⟩
theorem t_all_8 : t_all 80 t_cts_8 := ⟨h_80, h_81, h_82, h_83, h_84, h_85, h_86, h_87, h_88, h_89, trivial⟩
theorem t_all_9 : t_all 90 t_cts_9 := ⟨h_90, h_91, h_92, h_93, h_94, h_95, h_96, h_97, h_98, h_99, trivial⟩
theorem t_all_10 : t_all 100 t_cts_10 := ⟨h_100, h_101, h_102, h_103, h_104, h_105, h_106, h_107, h_108, h_109, trivial⟩
theorem t_all_11 : t_all 110 t_cts_11 := ⟨h_110, h_111, h_112, h_113, h_114, h_115, h_116, h_117, h_118, h_119, trivial⟩
theorem t_all_12 : t_all 120 t_cts_12 := ⟨h_120, h_121, h_122, h_123, h_124, h_125, h_126, h_127, h_128, h_129, trivial⟩
theorem t_all_13 : t_all 130 t_cts_13 := ⟨h_130, h_131, h_132, h_133, h_134, h_135, h_136, h_137, h_138, h_139, trivial⟩
theorem t_all_14 : t_all 140 t_cts_14 := ⟨h_140, h_141, h_142, h_143, h_144, h_145, h_146, h_147, h_148, h_149, trivial⟩
theorem t_all_15 : t_all 150 t_cts_15 := ⟨h_150, h_151, h_152, h_153, h_154, h_155, h_156, h_157, h_158, h_159, trivial⟩
theorem t_all_16 : t_all 160 t_cts_16 := ⟨h_160, h_161, h_162, h_163, h_164, h_165, h_166, h_167, h_168, h_169, trivial⟩
theorem t_all_17 : t_all 170 t_cts_17 := ⟨h_170, h_171, h_172, h_173, h_174, h_175, h_176, h_177, h_178, h_179, trivial⟩
theorem t_all_18 : t_all 180 t_cts_18 := ⟨h_180, h_181, h_182, h_183, h_184, h_185, h_186, h_187, h_188, h_189, trivial⟩
theorem t_all_19 : t_all 190 t_cts_19 := ⟨h_190, h_191, h_192, h_193, h_194, h_195, h_196, h_197, h_198, h_199, trivial⟩
theorem t_all_20 : t_all 200 t_cts_20 := ⟨h_200, h_201, h_202, h_203, h_204, h_205, h_206, h_207, h_208, h_209, trivial⟩
theorem t_all_21 : t_all 210 t_cts_21 := ⟨h_210, h_211, h_212, h_213, h_214, h_215, h_216, h_217, h_218, h_219, trivial⟩
theorem t_all_22 : t_all 220 t_cts_22 := ⟨h_220, h_221, h_222, h_223, h_224, h_225, h_226, h_227, h_228, h_229, trivial⟩
theorem t_all_23 : t_all 230 t_cts_23 := ⟨h_230, h_231, h_232, h_233, h_234, h_235, h_236, h_237, h_238, h_239, trivial⟩
theorem t_all_24 : t_all 240 t_cts_24 := ⟨h_240, h_241, h_242, h_243, h_244, h_245, h_246, h_247, h_248, h_249, trivial⟩
theorem t_all_25 : t_all 250 t_cts_25 := ⟨h_250, h_251, h_252, h_253, h_254, h_255, h_256, h_257, h_258, h_259, trivial⟩
theorem t_all_26 : t_all 260 t_cts_26 := ⟨h_260, h_261, h_262, h_263, h_264, h_265, h_266, h_267, h_268, h_269, trivial⟩
theorem t_all_27 : t_all 270 t_cts_27 := ⟨h_270, h_271, h_272, h_273, h_274, h_275, h_276, h_277, h_278, h_279, trivial⟩
theorem t_all_28 : t_all 280 t_cts_28 := ⟨h_280, h_281, h_282, h_283, h_284, h_285, h_286, h_287, h_288, h_289, trivial⟩
theorem t_all_29 : t_all 290 t_cts_29 := ⟨h_290, h_291, h_292, h_293, h_294, h_295, h_296, h_297, h_298, h_299, trivial⟩
theorem t_all_30 : t_all 300 t_cts_30 := ⟨h_300, h_301, h_302, h_303, trivial⟩
theorem t_all_ok : t_all 0 t_cts := t_all_app t_all_0 (t_all_app t_all_1 (t_all_app t_all_2 (t_all_app t_all_3 (t_all_app t_all_4 (t_all_app t_all_5 (t_all_app t_all_6 (t_all_app t_all_7 (t_all_app t_all_8 (t_all_app t_all_9 (t_all_app t_all_10 (t_all_app t_all_11 (t_all_app t_all_12 (t_all_app t_all_13 (t_all_app t_all_14 (t_all_app t_all_15 (t_all_app t_all_16 (t_all_app t_all_17 (t_all_app t_all_18 (t_all_app t_all_19 (t_all_app t_all_20 (t_all_app t_all_21 (t_all_app t_all_22 (t_all_app t_all_23 (t_all_app t_all_24 (t_all_app t_all_25 (t_all_app t_all_26 (t_all_app t_all_27 (t_all_app t_all_28 (t_all_app t_all_29 (t_all_30))))))))))))))))))))))))))))))
theorem t_HC0 : t_HC t_ms t_ct0 := by
  intro i pc en h
  unfold t_ct0 at h
  cases hf : t_cts[i]? with
  | none => rw [hf] at h; cases h
  | some f =>
    rw [hf] at h
    have := t_all_of t_all_ok i f hf pc en h
    rw [Nat.zero_add] at this
    exact this
theorem t_cm {i : Nat} {w : Cond} (h : t_at i = some w) (hg : goodWord w = true) : w ∈ gt := List.mem_filter.mpr ⟨t_at_mem h, hg⟩
theorem t_gw {m : MethodName} {c : ByteArray} {n : Nat} {r : Option FieldType} : goodWord (Cond.code m c n r) = true := rfl
def t_clok (c : String) (rc : Nat) : Prop := Cond.initialized c ∈ gt ∧ plainName c = true ∧ (c ≠ "java/lang/invoke/MethodHandle" ∧ c ≠ "java/lang/invoke/VarHandle") ∧ ∀ z, vwCl[rc]? = some z → z.1 = c
theorem t_clok_of {c : String} {rc : Nat} (p : Nat) (h : (t_in [Cond.initialized c] [p] && (plainName c && (decide (c ≠ "java/lang/invoke/MethodHandle") && (decide (c ≠ "java/lang/invoke/VarHandle") && (match vwCl[rc]? with | some z => decide (z.1 = c) | none => true))))) = true) : t_clok c rc := by
  simp only [Bool.and_eq_true, decide_eq_true_eq] at h
  obtain ⟨h1, h2, h3, h4, h5⟩ := h
  refine ⟨t_in_of h1 _ (by simp), h2, ⟨h3, h4⟩, fun z hz => ?_⟩
  rw [hz] at h5
  exact of_decide_eq_true h5
def t_dok (d : String) (n : Nat) : Prop := (parseMethodDescriptor d).map (fun d => d.parameters.length) = some n
theorem t_dok_of {d : String} {n : Nat} (h : decide ((parseMethodDescriptor d).map (fun d => d.parameters.length) = some n) = true) : t_dok d n := by unfold t_dok; exact of_decide_eq_true h
def t_m1 (q : t_M) (L na rc : Nat) : Prop := q.2.2.1 = L ∧ q.2.2.2.2.1 = na ∧ q.2.2.2.2.2 = rc ∧ rc ≤ 8 + 2 ∧ t_mok q
theorem t_m1_of {q : t_M} {L na rc : Nat} (p : Nat) (h : t_at p = some (Cond.code q.1 q.2.1 q.2.2.1 q.2.2.2.1)) (hc : t_clok q.1.cls q.2.2.2.2.2) (hd : t_dok q.1.desc q.2.2.2.2.1) (hb : (Nat.ble q.2.2.1 19 && Nat.ble rc 10) = true) (e1 : q.2.2.1 = L) (e2 : q.2.2.2.2.1 = na) (e3 : q.2.2.2.2.2 = rc) (hi : q.1.name = "<init>" → q.2.2.2.1 = none) : t_m1 q L na rc := by
  simp only [Bool.and_eq_true] at hb
  exact ⟨e1, e2, e3, Nat.le_of_ble_eq_true hb.2, t_cm h t_gw, hc.1, hc.2.1, hc.2.2.1, hd, Nat.le_of_ble_eq_true hb.1, hi, hc.2.2.2⟩
def t_mall : List t_M → List (Option (Nat × Nat × Nat)) → Prop
  | [], [] => True
  | q :: t, some (L, na, rc) :: u => t_m1 q L na rc ∧ t_mall t u
  | _ :: t, none :: u => t_mall t u
  | _, _ => False
theorem t_mall_of : ∀ {t : List t_M} {u : List (Option (Nat × Nat × Nat))}, t_mall t u → ∀ (j L na rc : Nat), u[j]? = some (some (L, na, rc)) → ∃ q, t[j]? = some q ∧ q.2.2.1 = L ∧ q.2.2.2.2.1 = na ∧ q.2.2.2.2.2 = rc ∧ rc ≤ 8 + 2 ∧ t_mok q
  | [], [], _, j, L, na, rc, h => by simp at h
  | [], _ :: _, hh, _, _, _, _, _ => hh.elim
  | _ :: _, [], hh, _, _, _, _, _ => hh.elim
  | q :: t, some (L0, na0, rc0) :: u, hh, j, L, na, rc, h => by
    cases j with
    | zero => cases h; exact ⟨q, rfl, hh.1⟩
    | succ j => exact t_mall_of hh.2 j L na rc h
  | q :: t, none :: u, hh, j, L, na, rc, h => by
    cases j with
    | zero => cases h
    | succ j => exact t_mall_of (t := t) (u := u) hh j L na rc h
def t_mpr (t : List t_M) (u : List (Option (Nat × Nat × Nat))) : Prop := t.length = u.length ∧ ∀ (j L na rc : Nat), u[j]? = some (some (L, na, rc)) → ∃ q, t[j]? = some q ∧ q.2.2.1 = L ∧ q.2.2.2.2.1 = na ∧ q.2.2.2.2.2 = rc ∧ rc ≤ 8 + 2 ∧ t_mok q
theorem t_mpr_app {t t' : List t_M} {u u' : List (Option (Nat × Nat × Nat))} (h : t_mpr t u) (h' : t_mpr t' u') : t_mpr (t ++ t') (u ++ u') := by
  refine ⟨by rw [List.length_append, List.length_append, h.1, h'.1], fun j L na rc hj => ?_⟩
  by_cases hl : j < u.length
  · rw [List.getElem?_append_left hl] at hj
    obtain ⟨q, h1, h2⟩ := h.2 j L na rc hj
    exact ⟨q, by rw [List.getElem?_append_left (by rw [h.1]; exact hl)]; exact h1, h2⟩
  · rw [List.getElem?_append_right (by omega)] at hj
    obtain ⟨q, h1, h2⟩ := h'.2 _ L na rc hj
    exact ⟨q, by rw [List.getElem?_append_right (by rw [h.1]; omega), h.1]; exact h1, h2⟩
theorem tcl_0 : t_clok "NineTrees" 7 := t_clok_of 78 (by decide +kernel)
theorem tde_0 : t_dok "()V" 0 := t_dok_of (by decide +kernel)
theorem tde_1 : t_dok "(III)I" 3 := t_dok_of (by decide +kernel)
theorem tde_2 : t_dok "(IIJ)I" 3 := t_dok_of (by decide +kernel)
theorem tde_3 : t_dok "(IIIII)I" 5 := t_dok_of (by decide +kernel)
theorem tde_4 : t_dok "(II)J" 2 := t_dok_of (by decide +kernel)
theorem tde_5 : t_dok "(I)I" 1 := t_dok_of (by decide +kernel)
theorem tde_6 : t_dok "(II)I" 2 := t_dok_of (by decide +kernel)
theorem tde_7 : t_dok "()I" 0 := t_dok_of (by decide +kernel)
theorem tde_8 : t_dok "(LNineTrees$Shelf;I)I" 2 := t_dok_of (by decide +kernel)
theorem tde_9 : t_dok "(LNineTrees$Shelf;I)Z" 2 := t_dok_of (by decide +kernel)
theorem tde_10 : t_dok "()J" 0 := t_dok_of (by decide +kernel)
theorem tde_11 : t_dok "(I)LNineTrees$Shelf;" 1 := t_dok_of (by decide +kernel)
theorem tde_12 : t_dok "(I)V" 1 := t_dok_of (by decide +kernel)
theorem tde_13 : t_dok "()LNineTrees$RowList;" 0 := t_dok_of (by decide +kernel)
theorem tde_14 : t_dok "(I)Z" 1 := t_dok_of (by decide +kernel)
theorem tcl_1 : t_clok "NineTrees$Garden" 2 := t_clok_of 79 (by decide +kernel)
theorem tde_15 : t_dok "(LNineTrees$Garden;)V" 1 := t_dok_of (by decide +kernel)
theorem tde_16 : t_dok "(III)Z" 3 := t_dok_of (by decide +kernel)
theorem tde_17 : t_dok "(II)Z" 2 := t_dok_of (by decide +kernel)
theorem tde_18 : t_dok "()Z" 0 := t_dok_of (by decide +kernel)
theorem tde_19 : t_dok "(III)V" 3 := t_dok_of (by decide +kernel)
theorem tcl_2 : t_clok "NineTrees$RowList" 4 := t_clok_of 80 (by decide +kernel)
theorem tcl_3 : t_clok "NineTrees$Crossings" 0 := t_clok_of 81 (by decide +kernel)
theorem tde_20 : t_dok "(LNineTrees$Garden;LNineTrees$RowList;I)V" 3 := t_dok_of (by decide +kernel)
theorem tde_21 : t_dok "(LNineTrees$Garden;I)V" 2 := t_dok_of (by decide +kernel)
theorem tcl_4 : t_clok "NineTrees$Moves" 3 := t_clok_of 82 (by decide +kernel)
theorem tde_22 : t_dok "(LNineTrees$Garden;LNineTrees$RowList;)V" 2 := t_dok_of (by decide +kernel)
theorem tde_23 : t_dok "(LNineTrees$Garden;LNineTrees$RowList;II)I" 4 := t_dok_of (by decide +kernel)
theorem tcl_5 : t_clok "NineTrees$Gap" 1 := t_clok_of 83 (by decide +kernel)
theorem tde_24 : t_dok "(LNineTrees$Garden;II)V" 3 := t_dok_of (by decide +kernel)
theorem tcl_6 : t_clok "NineTrees$Shapes" 9 := t_clok_of 91 (by decide +kernel)
theorem tde_25 : t_dok "(LNineTrees$Garden;I)I" 2 := t_dok_of (by decide +kernel)
theorem tde_26 : t_dok "(LNineTrees$Garden;)I" 1 := t_dok_of (by decide +kernel)
theorem tde_27 : t_dok "(LNineTrees$Garden;II)I" 3 := t_dok_of (by decide +kernel)
theorem tde_28 : t_dok "(LNineTrees$Garden;IZ)Z" 3 := t_dok_of (by decide +kernel)
theorem tde_29 : t_dok "(LNineTrees$Garden;II)Z" 3 := t_dok_of (by decide +kernel)
theorem tde_30 : t_dok "(LNineTrees$Garden;I)Z" 2 := t_dok_of (by decide +kernel)
theorem tde_31 : t_dok "(LNineTrees$Garden;III)Z" 4 := t_dok_of (by decide +kernel)
theorem tde_32 : t_dok "(LNineTrees$Garden;IIII)Z" 5 := t_dok_of (by decide +kernel)
theorem tcl_7 : t_clok "NineTrees$Sight" 9 := t_clok_of 89 (by decide +kernel)
theorem tcl_8 : t_clok "NineTrees$Shelf" 5 := t_clok_of 85 (by decide +kernel)
theorem tde_33 : t_dok "(II)V" 2 := t_dok_of (by decide +kernel)
theorem tde_34 : t_dok "(J)J" 1 := t_dok_of (by decide +kernel)
theorem tcl_9 : t_clok "NineTrees$Tape" 6 := t_clok_of 84 (by decide +kernel)
theorem tde_35 : t_dok "(LNineTrees$Garden;)Z" 1 := t_dok_of (by decide +kernel)
theorem tde_36 : t_dok "(Ljava/lang/String;)Z" 1 := t_dok_of (by decide +kernel)
theorem tcl_10 : t_clok "java/lang/Integer" 9 := t_clok_of 88 (by decide +kernel)
theorem tcl_11 : t_clok "java/lang/String" 9 := t_clok_of 92 (by decide +kernel)
theorem tde_37 : t_dok "(I)C" 1 := t_dok_of (by decide +kernel)
theorem tde_38 : t_dok "()B" 0 := t_dok_of (by decide +kernel)
theorem tcl_12 : t_clok "java/lang/StringLatin1" 9 := t_clok_of 93 (by decide +kernel)
theorem tde_39 : t_dok "([BI)C" 2 := t_dok_of (by decide +kernel)
theorem tcl_13 : t_clok "jdk/internal/util/Preconditions" 9 := t_clok_of 94 (by decide +kernel)
theorem tde_40 : t_dok "(IILjava/util/function/BiFunction;)I" 3 := t_dok_of (by decide +kernel)
theorem tcl_14 : t_clok "java/lang/StringUTF16" 9 := t_clok_of 95 (by decide +kernel)
theorem tde_41 : t_dok "([B)I" 1 := t_dok_of (by decide +kernel)
theorem tde_42 : t_dok "(I[B)V" 2 := t_dok_of (by decide +kernel)
theorem tcl_15 : t_clok "NineTreesModel" 8 := t_clok_of 86 (by decide +kernel)
theorem tde_43 : t_dok "(JJJ)Z" 3 := t_dok_of (by decide +kernel)
theorem tde_44 : t_dok "(IJ)J" 2 := t_dok_of (by decide +kernel)
theorem tde_45 : t_dok "(Z)V" 1 := t_dok_of (by decide +kernel)
theorem tde_46 : t_dok "(ZI)I" 2 := t_dok_of (by decide +kernel)
theorem tde_47 : t_dok "(IIII)Z" 4 := t_dok_of (by decide +kernel)
theorem tde_48 : t_dok "()LNineTreesModel;" 0 := t_dok_of (by decide +kernel)
theorem tde_49 : t_dok "([I[I)V" 2 := t_dok_of (by decide +kernel)
theorem tde_50 : t_dok "(LNineTreesModel;)V" 1 := t_dok_of (by decide +kernel)
theorem tg_1 : t_m1 (⟨"NineTrees", "<init>", "()V"⟩, prog_1_method_1_code, 2, none, 0, 7) 2 0 7 := t_m1_of 100 rfl tcl_0 tde_0 rfl rfl rfl rfl (fun _ => rfl)
theorem tg_2 : t_m1 (⟨"NineTrees", "row", "(III)I"⟩, prog_1_method_2_code, 5, (some .int), 3, 7) 5 3 7 := t_m1_of 333 rfl tcl_0 tde_1 rfl rfl rfl rfl (fun z => absurd z (by decide +kernel))
theorem tg_3 : t_m1 (⟨"NineTrees", "set", "(IIJ)I"⟩, prog_1_method_3_code, 6, (some .int), 3, 7) 6 3 7 := t_m1_of 349 rfl tcl_0 tde_2 rfl rfl rfl rfl (fun z => absurd z (by decide +kernel))
theorem tg_4 : t_m1 (⟨"NineTrees", "copy", "(IIIII)I"⟩, prog_1_method_4_code, 8, (some .int), 5, 7) 8 5 7 := t_m1_of 373 rfl tcl_0 tde_3 rfl rfl rfl rfl (fun z => absurd z (by decide +kernel))
theorem tg_5 : t_m1 (⟨"NineTrees", "element", "(II)J"⟩, prog_1_method_5_code, 4, (some .long), 2, 7) 4 2 7 := t_m1_of 385 rfl tcl_0 tde_4 rfl rfl rfl rfl (fun z => absurd z (by decide +kernel))
theorem tg_6 : t_m1 (⟨"NineTrees", "holds", "(I)I"⟩, prog_1_method_6_code, 3, (some .int), 1, 7) 3 1 7 := t_m1_of 389 rfl tcl_0 tde_5 rfl rfl rfl rfl (fun z => absurd z (by decide +kernel))
theorem tg_7 : t_m1 (⟨"NineTrees", "show", "(II)I"⟩, prog_1_method_7_code, 4, (some .int), 2, 7) 4 2 7 := t_m1_of 393 rfl tcl_0 tde_6 rfl rfl rfl rfl (fun z => absurd z (by decide +kernel))
theorem tg_8 : t_m1 (⟨"NineTrees", "says", "(II)I"⟩, prog_1_method_8_code, 4, (some .int), 2, 7) 4 2 7 := t_m1_of 405 rfl tcl_0 tde_6 rfl rfl rfl rfl (fun z => absurd z (by decide +kernel))
theorem tg_9 : t_m1 (⟨"NineTrees", "side", "(I)I"⟩, prog_1_method_9_code, 3, (some .int), 1, 7) 3 1 7 := t_m1_of 494 rfl tcl_0 tde_5 rfl rfl rfl rfl (fun z => absurd z (by decide +kernel))
theorem t_mpr_0 : t_mpr t_ms_0 t_mil_0 := ⟨rfl, t_mall_of ⟨tg_1, tg_2, tg_3, tg_4, tg_5, tg_6, tg_7, tg_8, tg_9, trivial⟩⟩
theorem tg_10 : t_m1 (⟨"NineTrees", "tree", "(III)I"⟩, prog_1_method_10_code, 4, (some .int), 3, 7) 4 3 7 := t_m1_of 498 rfl tcl_0 tde_1 rfl rfl rfl rfl (fun z => absurd z (by decide +kernel))
theorem tg_11 : t_m1 (⟨"NineTrees", "wish", "(I)I"⟩, prog_1_method_11_code, 2, (some .int), 1, 7) 2 1 7 := t_m1_of 522 rfl tcl_0 tde_5 rfl rfl rfl rfl (fun z => absurd z (by decide +kernel))
theorem tg_12 : t_m1 (⟨"NineTrees", "content", "()I"⟩, prog_1_method_12_code, 2, (some .int), 0, 7) 2 0 7 := t_m1_of 539 rfl tcl_0 tde_7 rfl rfl rfl rfl (fun z => absurd z (by decide +kernel))
theorem tg_13 : t_m1 (⟨"NineTrees", "move", "(II)I"⟩, prog_1_method_13_code, 5, (some .int), 2, 7) 5 2 7 := t_m1_of 543 rfl tcl_0 tde_6 rfl rfl rfl rfl (fun z => absurd z (by decide +kernel))
theorem tg_14 : t_m1 (⟨"NineTrees", "fell", "()I"⟩, prog_1_method_14_code, 1, (some .int), 0, 7) 1 0 7 := t_m1_of 555 rfl tcl_0 tde_7 rfl rfl rfl rfl (fun z => absurd z (by decide +kernel))
theorem tg_15 : t_m1 (⟨"NineTrees", "feed", "(I)I"⟩, prog_1_method_15_code, 2, (some .int), 1, 7) 2 1 7 := t_m1_of 572 rfl tcl_0 tde_5 rfl rfl rfl rfl (fun z => absurd z (by decide +kernel))
theorem tg_16 : t_m1 (⟨"NineTrees", "wipe", "()I"⟩, prog_1_method_16_code, 2, (some .int), 0, 7) 2 0 7 := t_m1_of 576 rfl tcl_0 tde_7 rfl rfl rfl rfl (fun z => absurd z (by decide +kernel))
theorem tg_17 : t_m1 (⟨"NineTrees", "garden", "()I"⟩, prog_1_method_17_code, 2, (some .int), 0, 7) 2 0 7 := t_m1_of 580 rfl tcl_0 tde_7 rfl rfl rfl rfl (fun z => absurd z (by decide +kernel))
theorem tg_18 : t_m1 (⟨"NineTrees", "treeOf", "(II)I"⟩, prog_1_method_18_code, 3, (some .int), 2, 7) 3 2 7 := t_m1_of 705 rfl tcl_0 tde_6 rfl rfl rfl rfl (fun z => absurd z (by decide +kernel))
theorem tg_19 : t_m1 (⟨"NineTrees", "treeAt", "(I)I"⟩, prog_1_method_19_code, 2, (some .int), 1, 7) 2 1 7 := t_m1_of 709 rfl tcl_0 tde_5 rfl rfl rfl rfl (fun z => absurd z (by decide +kernel))
theorem t_mpr_1 : t_mpr t_ms_1 t_mil_1 := ⟨rfl, t_mall_of ⟨tg_10, tg_11, tg_12, tg_13, tg_14, tg_15, tg_16, tg_17, tg_18, tg_19, trivial⟩⟩
theorem tg_20 : t_m1 (⟨"NineTrees", "many", "(I)I"⟩, prog_1_method_20_code, 2, (some .int), 1, 7) 2 1 7 := t_m1_of 714 rfl tcl_0 tde_5 rfl rfl rfl rfl (fun z => absurd z (by decide +kernel))
theorem tg_21 : t_m1 (⟨"NineTrees", "threes", "()I"⟩, prog_1_method_21_code, 1, (some .int), 0, 7) 1 0 7 := t_m1_of 725 rfl tcl_0 tde_7 rfl rfl rfl rfl (fun z => absurd z (by decide +kernel))
theorem tg_22 : t_m1 (⟨"NineTrees", "rowAt", "(II)I"⟩, prog_1_method_22_code, 4, (some .int), 2, 7) 4 2 7 := t_m1_of 734 rfl tcl_0 tde_6 rfl rfl rfl rfl (fun z => absurd z (by decide +kernel))
theorem tg_23 : t_m1 (⟨"NineTrees", "longest", "()I"⟩, prog_1_method_23_code, 2, (some .int), 0, 7) 2 0 7 := t_m1_of 742 rfl tcl_0 tde_7 rfl rfl rfl rfl (fun z => absurd z (by decide +kernel))
theorem tg_24 : t_m1 (⟨"NineTrees", "alone", "()I"⟩, prog_1_method_24_code, 1, (some .int), 0, 7) 1 0 7 := t_m1_of 750 rfl tcl_0 tde_7 rfl rfl rfl rfl (fun z => absurd z (by decide +kernel))
theorem tg_25 : t_m1 (⟨"NineTrees", "through", "(II)I"⟩, prog_1_method_25_code, 3, (some .int), 2, 7) 3 2 7 := t_m1_of 759 rfl tcl_0 tde_6 rfl rfl rfl rfl (fun z => absurd z (by decide +kernel))
theorem tg_26 : t_m1 (⟨"NineTrees", "inLine", "(I)I"⟩, prog_1_method_26_code, 2, (some .int), 1, 7) 2 1 7 := t_m1_of 764 rfl tcl_0 tde_5 rfl rfl rfl rfl (fun z => absurd z (by decide +kernel))
theorem tg_27 : t_m1 (⟨"NineTrees", "judge", "(II)I"⟩, prog_1_method_27_code, 4, (some .int), 2, 7) 4 2 7 := t_m1_of 776 rfl tcl_0 tde_6 rfl rfl rfl rfl (fun z => absurd z (by decide +kernel))
theorem tg_28 : t_m1 (⟨"NineTrees", "firstMisfit", "(LNineTrees$Shelf;I)I"⟩, prog_1_method_28_code, 9, (some .int), 2, 7) 9 2 7 := t_m1_of 780 rfl tcl_0 tde_8 rfl rfl rfl rfl (fun z => absurd z (by decide +kernel))
theorem tg_29 : t_m1 (⟨"NineTrees", "isInLineWithFirst", "(LNineTrees$Shelf;I)Z"⟩, prog_1_method_29_code, 5, (some .boolean), 2, 7) 5 2 7 := t_m1_of 784 rfl tcl_0 tde_9 rfl rfl rfl rfl (fun z => absurd z (by decide +kernel))
theorem t_mpr_2 : t_mpr t_ms_2 t_mil_2 := ⟨rfl, t_mall_of ⟨tg_20, tg_21, tg_22, tg_23, tg_24, tg_25, tg_26, tg_27, tg_28, tg_29, trivial⟩⟩
theorem tg_30 : t_m1 (⟨"NineTrees", "gap", "(I)I"⟩, prog_1_method_30_code, 2, (some .int), 1, 7) 2 1 7 := t_m1_of 789 rfl tcl_0 tde_5 rfl rfl rfl rfl (fun z => absurd z (by decide +kernel))
theorem tg_31 : t_m1 (⟨"NineTrees", "missed", "(I)I"⟩, prog_1_method_31_code, 2, (some .int), 1, 7) 2 1 7 := t_m1_of 810 rfl tcl_0 tde_5 rfl rfl rfl rfl (fun z => absurd z (by decide +kernel))
theorem tg_32 : t_m1 (⟨"NineTrees", "least", "()I"⟩, prog_1_method_32_code, 3, (some .int), 0, 7) 3 0 7 := t_m1_of 819 rfl tcl_0 tde_7 rfl rfl rfl rfl (fun z => absurd z (by decide +kernel))
theorem tg_33 : t_m1 (⟨"NineTrees", "best", "(I)I"⟩, prog_1_method_33_code, 2, (some .int), 1, 7) 2 1 7 := t_m1_of 823 rfl tcl_0 tde_5 rfl rfl rfl rfl (fun z => absurd z (by decide +kernel))
theorem tg_34 : t_m1 (⟨"NineTrees", "moved", "(II)I"⟩, prog_1_method_34_code, 4, (some .int), 2, 7) 4 2 7 := t_m1_of 869 rfl tcl_0 tde_6 rfl rfl rfl rfl (fun z => absurd z (by decide +kernel))
theorem tg_35 : t_m1 (⟨"NineTrees", "may", "()J"⟩, prog_1_method_35_code, 4, (some .long), 0, 7) 4 0 7 := t_m1_of 877 rfl tcl_0 tde_10 rfl rfl rfl rfl (fun z => absurd z (by decide +kernel))
theorem tg_36 : t_m1 (⟨"NineTrees", "most", "(I)I"⟩, prog_1_method_36_code, 2, (some .int), 1, 7) 2 1 7 := t_m1_of 889 rfl tcl_0 tde_5 rfl rfl rfl rfl (fun z => absurd z (by decide +kernel))
theorem tg_37 : t_m1 (⟨"NineTrees", "view", "(I)I"⟩, prog_1_method_37_code, 2, (some .int), 1, 7) 2 1 7 := t_m1_of 893 rfl tcl_0 tde_5 rfl rfl rfl rfl (fun z => absurd z (by decide +kernel))
theorem tg_38 : t_m1 (⟨"NineTrees", "overlooks", "()J"⟩, prog_1_method_38_code, 4, (some .long), 0, 7) 4 0 7 := t_m1_of 900 rfl tcl_0 tde_10 rfl rfl rfl rfl (fun z => absurd z (by decide +kernel))
theorem tg_39 : t_m1 (⟨"NineTrees", "behind", "(II)I"⟩, prog_1_method_39_code, 3, (some .int), 2, 7) 3 2 7 := t_m1_of 907 rfl tcl_0 tde_6 rfl rfl rfl rfl (fun z => absurd z (by decide +kernel))
theorem t_mpr_3 : t_mpr t_ms_3 t_mil_3 := ⟨rfl, t_mall_of ⟨tg_30, tg_31, tg_32, tg_33, tg_34, tg_35, tg_36, tg_37, tg_38, tg_39, trivial⟩⟩
theorem tg_40 : t_m1 (⟨"NineTrees", "paths", "(I)I"⟩, prog_1_method_40_code, 2, (some .int), 1, 7) 2 1 7 := t_m1_of 912 rfl tcl_0 tde_5 rfl rfl rfl rfl (fun z => absurd z (by decide +kernel))
theorem tg_41 : t_m1 (⟨"NineTrees", "wishOf", "(I)I"⟩, prog_1_method_41_code, 2, (some .int), 1, 7) 2 1 7 := t_m1_of 925 rfl tcl_0 tde_5 rfl rfl rfl rfl (fun z => absurd z (by decide +kernel))
theorem tg_42 : t_m1 (⟨"NineTrees", "met", "(I)I"⟩, prog_1_method_42_code, 2, (some .int), 1, 7) 2 1 7 := t_m1_of 933 rfl tcl_0 tde_5 rfl rfl rfl rfl (fun z => absurd z (by decide +kernel))
theorem tg_43 : t_m1 (⟨"NineTrees", "bestFor", "(I)I"⟩, prog_1_method_43_code, 2, (some .int), 1, 7) 2 1 7 := t_m1_of 942 rfl tcl_0 tde_5 rfl rfl rfl rfl (fun z => absurd z (by decide +kernel))
theorem tg_44 : t_m1 (⟨"NineTrees", "alike", "()I"⟩, prog_1_method_44_code, 1, (some .int), 0, 7) 1 0 7 := t_m1_of 955 rfl tcl_0 tde_7 rfl rfl rfl rfl (fun z => absurd z (by decide +kernel))
theorem tg_45 : t_m1 (⟨"NineTrees", "middle", "()I"⟩, prog_1_method_45_code, 1, (some .int), 0, 7) 1 0 7 := t_m1_of 975 rfl tcl_0 tde_7 rfl rfl rfl rfl (fun z => absurd z (by decide +kernel))
theorem tg_46 : t_m1 (⟨"NineTrees", "nearest", "()I"⟩, prog_1_method_46_code, 1, (some .int), 0, 7) 1 0 7 := t_m1_of 986 rfl tcl_0 tde_7 rfl rfl rfl rfl (fun z => absurd z (by decide +kernel))
theorem tg_47 : t_m1 (⟨"NineTrees", "largest", "()I"⟩, prog_1_method_47_code, 1, (some .int), 0, 7) 1 0 7 := t_m1_of 993 rfl tcl_0 tde_7 rfl rfl rfl rfl (fun z => absurd z (by decide +kernel))
theorem tg_48 : t_m1 (⟨"NineTrees", "squares", "()I"⟩, prog_1_method_48_code, 1, (some .int), 0, 7) 1 0 7 := t_m1_of 1005 rfl tcl_0 tde_7 rfl rfl rfl rfl (fun z => absurd z (by decide +kernel))
theorem tg_49 : t_m1 (⟨"NineTrees", "corners", "()I"⟩, prog_1_method_49_code, 3, (some .int), 0, 7) 3 0 7 := t_m1_of 1019 rfl tcl_0 tde_7 rfl rfl rfl rfl (fun z => absurd z (by decide +kernel))
theorem t_mpr_4 : t_mpr t_ms_4 t_mil_4 := ⟨rfl, t_mall_of ⟨tg_40, tg_41, tg_42, tg_43, tg_44, tg_45, tg_46, tg_47, tg_48, tg_49, trivial⟩⟩
theorem tg_50 : t_m1 (⟨"NineTrees", "pointed", "(I)I"⟩, prog_1_method_50_code, 2, (some .int), 1, 7) 2 1 7 := t_m1_of 1033 rfl tcl_0 tde_5 rfl rfl rfl rfl (fun z => absurd z (by decide +kernel))
theorem tg_51 : t_m1 (⟨"NineTrees", "turn", "()I"⟩, prog_1_method_51_code, 2, (some .int), 0, 7) 2 0 7 := t_m1_of 1037 rfl tcl_0 tde_7 rfl rfl rfl rfl (fun z => absurd z (by decide +kernel))
theorem tg_52 : t_m1 (⟨"NineTrees", "mirror", "()I"⟩, prog_1_method_52_code, 2, (some .int), 0, 7) 2 0 7 := t_m1_of 1046 rfl tcl_0 tde_7 rfl rfl rfl rfl (fun z => absurd z (by decide +kernel))
theorem tg_53 : t_m1 (⟨"NineTrees", "improve", "()I"⟩, prog_1_method_53_code, 2, (some .int), 0, 7) 2 0 7 := t_m1_of 1051 rfl tcl_0 tde_7 rfl rfl rfl rfl (fun z => absurd z (by decide +kernel))
theorem tg_54 : t_m1 (⟨"NineTrees", "plant", "(I)I"⟩, prog_1_method_54_code, 3, (some .int), 1, 7) 3 1 7 := t_m1_of 1055 rfl tcl_0 tde_5 rfl rfl rfl rfl (fun z => absurd z (by decide +kernel))
theorem tg_55 : t_m1 (⟨"NineTrees", "seed", "(I)I"⟩, prog_1_method_55_code, 3, (some .int), 1, 7) 3 1 7 := t_m1_of 1078 rfl tcl_0 tde_5 rfl rfl rfl rfl (fun z => absurd z (by decide +kernel))
theorem tg_56 : t_m1 (⟨"NineTrees", "image", "()I"⟩, prog_1_method_56_code, 1, (some .int), 0, 7) 1 0 7 := t_m1_of 1082 rfl tcl_0 tde_7 rfl rfl rfl rfl (fun z => absurd z (by decide +kernel))
theorem tg_57 : t_m1 (⟨"NineTrees", "back", "()I"⟩, prog_1_method_57_code, 1, (some .int), 0, 7) 1 0 7 := t_m1_of 1086 rfl tcl_0 tde_7 rfl rfl rfl rfl (fun z => absurd z (by decide +kernel))
theorem tg_58 : t_m1 (⟨"NineTrees", "status", "(I)I"⟩, prog_1_method_58_code, 2, (some .int), 1, 7) 2 1 7 := t_m1_of 1090 rfl tcl_0 tde_5 rfl rfl rfl rfl (fun z => absurd z (by decide +kernel))
theorem tg_59 : t_m1 (⟨"NineTrees", "refuse", "(I)I"⟩, prog_1_method_59_code, 3, (some .int), 1, 7) 3 1 7 := t_m1_of 341 rfl tcl_0 tde_5 rfl rfl rfl rfl (fun z => absurd z (by decide +kernel))
theorem t_mpr_5 : t_mpr t_ms_5 t_mil_5 := ⟨rfl, t_mall_of ⟨tg_50, tg_51, tg_52, tg_53, tg_54, tg_55, tg_56, tg_57, tg_58, tg_59, trivial⟩⟩
theorem tg_60 : t_m1 (⟨"NineTrees", "shelfOf", "(I)LNineTrees$Shelf;"⟩, prog_1_method_60_code, 2, (some (.object "NineTrees$Shelf")), 1, 7) 2 1 7 := t_m1_of 337 rfl tcl_0 tde_11 rfl rfl rfl rfl (fun z => absurd z (by decide +kernel))
theorem tg_61 : t_m1 (⟨"NineTrees", "fullShelves", "()I"⟩, prog_1_method_61_code, 4, (some .int), 0, 7) 4 0 7 := t_m1_of 1094 rfl tcl_0 tde_7 rfl rfl rfl rfl (fun z => absurd z (by decide +kernel))
theorem tg_62 : t_m1 (⟨"NineTrees", "clearShelvesFrom", "(I)V"⟩, prog_1_method_62_code, 4, none, 1, 7) 4 1 7 := t_m1_of 568 rfl tcl_0 tde_12 rfl rfl rfl rfl (fun _ => rfl)
theorem tg_63 : t_m1 (⟨"NineTrees", "allRows", "()LNineTrees$RowList;"⟩, prog_1_method_63_code, 1, (some (.object "NineTrees$RowList")), 0, 7) 1 0 7 := t_m1_of 413 rfl tcl_0 tde_13 rfl rfl rfl rfl (fun z => absurd z (by decide +kernel))
theorem tg_64 : t_m1 (⟨"NineTrees", "isRowSize", "(I)Z"⟩, prog_1_method_64_code, 1, (some .boolean), 1, 7) 1 1 7 := t_m1_of 717 rfl tcl_0 tde_14 rfl rfl rfl rfl (fun z => absurd z (by decide +kernel))
theorem tg_65 : t_m1 (⟨"NineTrees", "firstOf", "(I)I"⟩, prog_1_method_65_code, 1, (some .int), 1, 7) 1 1 7 := t_m1_of 437 rfl tcl_0 tde_5 rfl rfl rfl rfl (fun z => absurd z (by decide +kernel))
theorem tg_66 : t_m1 (⟨"NineTrees", "secondOf", "(I)I"⟩, prog_1_method_66_code, 1, (some .int), 1, 7) 1 1 7 := t_m1_of 444 rfl tcl_0 tde_5 rfl rfl rfl rfl (fun z => absurd z (by decide +kernel))
theorem tg_67 : t_m1 (⟨"NineTrees", "whyNoMove", "(II)I"⟩, prog_1_method_67_code, 3, (some .int), 2, 7) 3 2 7 := t_m1_of 547 rfl tcl_0 tde_6 rfl rfl rfl rfl (fun z => absurd z (by decide +kernel))
theorem tg_68 : t_m1 (⟨"NineTrees$Garden", "<init>", "()V"⟩, prog_4_method_1_code, 1, none, 0, 2) 1 0 2 := t_m1_of 108 rfl tcl_1 tde_0 rfl rfl rfl rfl (fun _ => rfl)
theorem tg_69 : t_m1 (⟨"NineTrees$Garden", "copyFrom", "(LNineTrees$Garden;)V"⟩, prog_4_method_2_code, 2, none, 1, 2) 2 1 2 := t_m1_of 584 rfl tcl_1 tde_15 rfl rfl rfl rfl (fun _ => rfl)
theorem t_mpr_6 : t_mpr t_ms_6 t_mil_6 := ⟨rfl, t_mall_of ⟨tg_60, tg_61, tg_62, tg_63, tg_64, tg_65, tg_66, tg_67, tg_68, tg_69, trivial⟩⟩
theorem tg_70 : t_m1 (⟨"NineTrees$Garden", "cellCount", "()I"⟩, prog_4_method_3_code, 1, (some .int), 0, 2) 1 0 2 := t_m1_of 506 rfl tcl_1 tde_7 rfl rfl rfl rfl (fun z => absurd z (by decide +kernel))
theorem tg_71 : t_m1 (⟨"NineTrees$Garden", "isCell", "(I)Z"⟩, prog_4_method_4_code, 2, (some .boolean), 1, 2) 2 1 2 := t_m1_of 502 rfl tcl_1 tde_14 rfl rfl rfl rfl (fun z => absurd z (by decide +kernel))
theorem tg_72 : t_m1 (⟨"NineTrees$Garden", "rowOf", "(I)I"⟩, prog_4_method_5_code, 2, (some .int), 1, 2) 2 1 2 := t_m1_of 430 rfl tcl_1 tde_5 rfl rfl rfl rfl (fun z => absurd z (by decide +kernel))
theorem tg_73 : t_m1 (⟨"NineTrees$Garden", "columnOf", "(I)I"⟩, prog_4_method_6_code, 2, (some .int), 1, 2) 2 1 2 := t_m1_of 434 rfl tcl_1 tde_5 rfl rfl rfl rfl (fun z => absurd z (by decide +kernel))
theorem tg_74 : t_m1 (⟨"NineTrees$Garden", "cellOf", "(II)I"⟩, prog_4_method_7_code, 4, (some .int), 2, 2) 4 2 2 := t_m1_of 855 rfl tcl_1 tde_6 rfl rfl rfl rfl (fun z => absurd z (by decide +kernel))
theorem tg_75 : t_m1 (⟨"NineTrees$Garden", "turned", "(I)I"⟩, prog_4_method_8_code, 2, (some .int), 1, 2) 2 1 2 := t_m1_of 965 rfl tcl_1 tde_5 rfl rfl rfl rfl (fun z => absurd z (by decide +kernel))
theorem tg_76 : t_m1 (⟨"NineTrees$Garden", "mirrored", "(I)I"⟩, prog_4_method_9_code, 2, (some .int), 1, 2) 2 1 2 := t_m1_of 970 rfl tcl_1 tde_5 rfl rfl rfl rfl (fun z => absurd z (by decide +kernel))
theorem tg_77 : t_m1 (⟨"NineTrees$Garden", "distance", "(II)I"⟩, prog_4_method_10_code, 3, (some .int), 2, 2) 3 2 2 := t_m1_of 483 rfl tcl_1 tde_6 rfl rfl rfl rfl (fun z => absurd z (by decide +kernel))
theorem tg_78 : t_m1 (⟨"NineTrees$Garden", "squaredLength", "(II)I"⟩, prog_4_method_11_code, 5, (some .int), 2, 2) 5 2 2 := t_m1_of 806 rfl tcl_1 tde_6 rfl rfl rfl rfl (fun z => absurd z (by decide +kernel))
theorem tg_79 : t_m1 (⟨"NineTrees$Garden", "doubleArea", "(III)I"⟩, prog_4_method_12_code, 6, (some .int), 3, 2) 6 3 2 := t_m1_of 426 rfl tcl_1 tde_1 rfl rfl rfl rfl (fun z => absurd z (by decide +kernel))
theorem t_mpr_7 : t_mpr t_ms_7 t_mil_7 := ⟨rfl, t_mall_of ⟨tg_70, tg_71, tg_72, tg_73, tg_74, tg_75, tg_76, tg_77, tg_78, tg_79, trivial⟩⟩
theorem tg_80 : t_m1 (⟨"NineTrees$Garden", "isBetween", "(III)Z"⟩, prog_4_method_13_code, 6, (some .boolean), 3, 2) 6 3 2 := t_m1_of 476 rfl tcl_1 tde_16 rfl rfl rfl rfl (fun z => absurd z (by decide +kernel))
theorem tg_81 : t_m1 (⟨"NineTrees$Garden", "isTree", "(I)Z"⟩, prog_4_method_14_code, 2, (some .boolean), 1, 2) 2 1 2 := t_m1_of 397 rfl tcl_1 tde_14 rfl rfl rfl rfl (fun z => absurd z (by decide +kernel))
theorem tg_82 : t_m1 (⟨"NineTrees$Garden", "allTrees", "()I"⟩, prog_4_method_15_code, 1, (some .int), 0, 2) 1 0 2 := t_m1_of 530 rfl tcl_1 tde_7 rfl rfl rfl rfl (fun z => absurd z (by decide +kernel))
theorem tg_83 : t_m1 (⟨"NineTrees$Garden", "treeIn", "(I)I"⟩, prog_4_method_16_code, 3, (some .int), 1, 2) 3 1 2 := t_m1_of 514 rfl tcl_1 tde_5 rfl rfl rfl rfl (fun z => absurd z (by decide +kernel))
theorem tg_84 : t_m1 (⟨"NineTrees$Garden", "isFree", "(I)Z"⟩, prog_4_method_17_code, 2, (some .boolean), 1, 2) 2 1 2 := t_m1_of 510 rfl tcl_1 tde_14 rfl rfl rfl rfl (fun z => absurd z (by decide +kernel))
theorem tg_85 : t_m1 (⟨"NineTrees$Garden", "isOf", "(II)Z"⟩, prog_4_method_18_code, 4, (some .boolean), 2, 2) 4 2 2 := t_m1_of 409 rfl tcl_1 tde_17 rfl rfl rfl rfl (fun z => absurd z (by decide +kernel))
theorem tg_86 : t_m1 (⟨"NineTrees$Garden", "countOf", "(I)I"⟩, prog_4_method_19_code, 4, (some .int), 1, 2) 4 1 2 := t_m1_of 1042 rfl tcl_1 tde_5 rfl rfl rfl rfl (fun z => absurd z (by decide +kernel))
theorem tg_87 : t_m1 (⟨"NineTrees$Garden", "isMovable", "(I)Z"⟩, prog_4_method_20_code, 2, (some .boolean), 1, 2) 2 1 2 := t_m1_of 551 rfl tcl_1 tde_14 rfl rfl rfl rfl (fun z => absurd z (by decide +kernel))
theorem tg_88 : t_m1 (⟨"NineTrees$Garden", "hasRoom", "()Z"⟩, prog_4_method_21_code, 1, (some .boolean), 0, 2) 1 0 2 := t_m1_of 1059 rfl tcl_1 tde_18 rfl rfl rfl rfl (fun z => absurd z (by decide +kernel))
theorem tg_89 : t_m1 (⟨"NineTrees$Garden", "addTree", "(III)V"⟩, prog_4_method_22_code, 4, none, 3, 2) 4 3 2 := t_m1_of 518 rfl tcl_1 tde_19 rfl rfl rfl rfl (fun _ => rfl)
theorem t_mpr_8 : t_mpr t_ms_8 t_mil_8 := ⟨rfl, t_mall_of ⟨tg_80, tg_81, tg_82, tg_83, tg_84, tg_85, tg_86, tg_87, tg_88, tg_89, trivial⟩⟩
theorem tg_90 : t_m1 (⟨"NineTrees$Garden", "isLastFellable", "()Z"⟩, prog_4_method_23_code, 1, (some .boolean), 0, 2) 1 0 2 := t_m1_of 559 rfl tcl_1 tde_18 rfl rfl rfl rfl (fun z => absurd z (by decide +kernel))
theorem tg_91 : t_m1 (⟨"NineTrees$Garden", "dropLast", "()V"⟩, prog_4_method_24_code, 1, none, 0, 2) 1 0 2 := t_m1_of 564 rfl tcl_1 tde_0 rfl rfl rfl rfl (fun _ => rfl)
theorem tg_92 : t_m1 (⟨"NineTrees$Garden", "rowOfTwo", "(II)I"⟩, prog_4_method_25_code, 5, (some .int), 2, 2) 5 2 2 := t_m1_of 421 rfl tcl_1 tde_6 rfl rfl rfl rfl (fun z => absurd z (by decide +kernel))
theorem tg_93 : t_m1 (⟨"NineTrees$Garden", "isSetOfThree", "(I)Z"⟩, prog_4_method_26_code, 2, (some .boolean), 1, 2) 2 1 2 := t_m1_of 526 rfl tcl_1 tde_14 rfl rfl rfl rfl (fun z => absurd z (by decide +kernel))
theorem tg_94 : t_m1 (⟨"NineTrees$Garden", "isInOneRow", "(I)Z"⟩, prog_4_method_27_code, 4, (some .boolean), 1, 2) 4 1 2 := t_m1_of 768 rfl tcl_1 tde_14 rfl rfl rfl rfl (fun z => absurd z (by decide +kernel))
theorem tg_95 : t_m1 (⟨"NineTrees$Garden", "isWish", "(I)Z"⟩, prog_4_method_28_code, 2, (some .boolean), 1, 2) 2 1 2 := t_m1_of 929 rfl tcl_1 tde_14 rfl rfl rfl rfl (fun z => absurd z (by decide +kernel))
theorem tg_96 : t_m1 (⟨"NineTrees$Garden", "addWish", "(I)V"⟩, prog_4_method_29_code, 2, none, 1, 2) 2 1 2 := t_m1_of 535 rfl tcl_1 tde_12 rfl rfl rfl rfl (fun _ => rfl)
theorem tg_97 : t_m1 (⟨"NineTrees$Garden", "wishesWith", "(I)I"⟩, prog_4_method_30_code, 4, (some .int), 1, 2) 4 1 2 := t_m1_of 462 rfl tcl_1 tde_5 rfl rfl rfl rfl (fun z => absurd z (by decide +kernel))
theorem tg_98 : t_m1 (⟨"NineTrees$Garden", "wishesMet", "()I"⟩, prog_4_method_31_code, 3, (some .int), 0, 2) 3 0 2 := t_m1_of 937 rfl tcl_1 tde_7 rfl rfl rfl rfl (fun z => absurd z (by decide +kernel))
theorem tg_99 : t_m1 (⟨"NineTrees$Garden", "drawBelow", "(I)I"⟩, prog_4_method_32_code, 2, (some .int), 1, 2) 2 1 2 := t_m1_of 1067 rfl tcl_1 tde_5 rfl rfl rfl rfl (fun z => absurd z (by decide +kernel))
theorem t_mpr_9 : t_mpr t_ms_9 t_mil_9 := ⟨rfl, t_mall_of ⟨tg_90, tg_91, tg_92, tg_93, tg_94, tg_95, tg_96, tg_97, tg_98, tg_99, trivial⟩⟩
theorem tg_100 : t_m1 (⟨"NineTrees$Garden", "nextFree", "(I)I"⟩, prog_4_method_33_code, 4, (some .int), 1, 2) 4 1 2 := t_m1_of 1072 rfl tcl_1 tde_5 rfl rfl rfl rfl (fun z => absurd z (by decide +kernel))
theorem tg_101 : t_m1 (⟨"NineTrees$Garden", "addByDraws", "()V"⟩, prog_4_method_34_code, 3, none, 0, 2) 3 0 2 := t_m1_of 1063 rfl tcl_1 tde_0 rfl rfl rfl rfl (fun _ => rfl)
theorem tg_102 : t_m1 (⟨"NineTrees$RowList", "<init>", "()V"⟩, prog_6_method_1_code, 1, none, 0, 4) 1 0 4 := t_m1_of 164 rfl tcl_2 tde_0 rfl rfl rfl rfl (fun _ => rfl)
theorem tg_103 : t_m1 (⟨"NineTrees$RowList", "gather", "(LNineTrees$Garden;)V"⟩, prog_6_method_2_code, 5, none, 1, 4) 5 1 4 := t_m1_of 417 rfl tcl_2 tde_15 rfl rfl rfl rfl (fun _ => rfl)
theorem tg_104 : t_m1 (⟨"NineTrees$RowList", "insert", "(I)V"⟩, prog_6_method_3_code, 3, none, 1, 4) 3 1 4 := t_m1_of 448 rfl tcl_2 tde_12 rfl rfl rfl rfl (fun _ => rfl)
theorem tg_105 : t_m1 (⟨"NineTrees$RowList", "countOf", "(I)I"⟩, prog_6_method_4_code, 4, (some .int), 1, 4) 4 1 4 := t_m1_of 721 rfl tcl_2 tde_5 rfl rfl rfl rfl (fun z => absurd z (by decide +kernel))
theorem tg_106 : t_m1 (⟨"NineTrees$RowList", "countThrees", "()I"⟩, prog_6_method_5_code, 1, (some .int), 0, 4) 1 0 4 := t_m1_of 729 rfl tcl_2 tde_7 rfl rfl rfl rfl (fun z => absurd z (by decide +kernel))
theorem tg_107 : t_m1 (⟨"NineTrees$RowList", "countWith", "(II)I"⟩, prog_6_method_6_code, 5, (some .int), 2, 4) 5 2 4 := t_m1_of 452 rfl tcl_2 tde_6 rfl rfl rfl rfl (fun z => absurd z (by decide +kernel))
theorem tg_108 : t_m1 (⟨"NineTrees$RowList", "countOnlyBy", "(I)I"⟩, prog_6_method_7_code, 2, (some .int), 1, 4) 2 1 4 := t_m1_of 814 rfl tcl_2 tde_5 rfl rfl rfl rfl (fun z => absurd z (by decide +kernel))
theorem tg_109 : t_m1 (⟨"NineTrees$RowList", "treesInThrees", "()I"⟩, prog_6_method_8_code, 3, (some .int), 0, 4) 3 0 4 := t_m1_of 755 rfl tcl_2 tde_7 rfl rfl rfl rfl (fun z => absurd z (by decide +kernel))
theorem t_mpr_10 : t_mpr t_ms_10 t_mil_10 := ⟨rfl, t_mall_of ⟨tg_100, tg_101, tg_102, tg_103, tg_104, tg_105, tg_106, tg_107, tg_108, tg_109, trivial⟩⟩
theorem tg_110 : t_m1 (⟨"NineTrees$RowList", "pick", "(II)I"⟩, prog_6_method_9_code, 5, (some .int), 2, 4) 5 2 4 := t_m1_of 738 rfl tcl_2 tde_6 rfl rfl rfl rfl (fun z => absurd z (by decide +kernel))
theorem tg_111 : t_m1 (⟨"NineTrees$RowList", "fullest", "()I"⟩, prog_6_method_10_code, 3, (some .int), 0, 4) 3 0 4 := t_m1_of 746 rfl tcl_2 tde_7 rfl rfl rfl rfl (fun z => absurd z (by decide +kernel))
theorem tg_112 : t_m1 (⟨"NineTrees$Crossings", "<init>", "()V"⟩, prog_2_method_1_code, 1, none, 0, 0) 1 0 0 := t_m1_of 184 rfl tcl_3 tde_0 rfl rfl rfl rfl (fun _ => rfl)
theorem tg_113 : t_m1 (⟨"NineTrees$Crossings", "clear", "()V"⟩, prog_2_method_2_code, 2, none, 0, 0) 2 0 0 := t_m1_of 840 rfl tcl_3 tde_0 rfl rfl rfl rfl (fun _ => rfl)
theorem tg_114 : t_m1 (⟨"NineTrees$Crossings", "countRows", "(LNineTrees$Garden;LNineTrees$RowList;I)V"⟩, prog_2_method_3_code, 5, none, 3, 0) 5 3 0 := t_m1_of 881 rfl tcl_3 tde_20 rfl rfl rfl rfl (fun _ => rfl)
theorem tg_115 : t_m1 (⟨"NineTrees$Crossings", "addLine", "(LNineTrees$Garden;I)V"⟩, prog_2_method_4_code, 11, none, 2, 0) 11 2 0 := t_m1_of 846 rfl tcl_3 tde_21 rfl rfl rfl rfl (fun _ => rfl)
theorem tg_116 : t_m1 (⟨"NineTrees$Moves", "<init>", "()V"⟩, prog_5_method_1_code, 1, none, 0, 3) 1 0 3 := t_m1_of 196 rfl tcl_4 tde_0 rfl rfl rfl rfl (fun _ => rfl)
theorem tg_117 : t_m1 (⟨"NineTrees$Moves", "findMostThrees", "(LNineTrees$Garden;LNineTrees$RowList;)V"⟩, prog_5_method_2_code, 4, none, 2, 3) 4 2 3 := t_m1_of 827 rfl tcl_4 tde_22 rfl rfl rfl rfl (fun _ => rfl)
theorem tg_118 : t_m1 (⟨"NineTrees$Moves", "findMostWishes", "(LNineTrees$Garden;)V"⟩, prog_5_method_3_code, 3, none, 1, 3) 3 1 3 := t_m1_of 946 rfl tcl_4 tde_15 rfl rfl rfl rfl (fun _ => rfl)
theorem tg_119 : t_m1 (⟨"NineTrees$Moves", "threesBy", "(LNineTrees$Garden;LNineTrees$RowList;II)I"⟩, prog_5_method_4_code, 5, (some .int), 4, 3) 5 4 3 := t_m1_of 873 rfl tcl_4 tde_23 rfl rfl rfl rfl (fun z => absurd z (by decide +kernel))
theorem t_mpr_11 : t_mpr t_ms_11 t_mil_11 := ⟨rfl, t_mall_of ⟨tg_110, tg_111, tg_112, tg_113, tg_114, tg_115, tg_116, tg_117, tg_118, tg_119, trivial⟩⟩
theorem tg_120 : t_m1 (⟨"NineTrees$Moves", "weighThrees", "(LNineTrees$Garden;LNineTrees$RowList;I)V"⟩, prog_5_method_5_code, 7, none, 3, 3) 7 3 3 := t_m1_of 836 rfl tcl_4 tde_20 rfl rfl rfl rfl (fun _ => rfl)
theorem tg_121 : t_m1 (⟨"NineTrees$Moves", "weighWishes", "(LNineTrees$Garden;I)V"⟩, prog_5_method_6_code, 5, none, 2, 3) 5 2 3 := t_m1_of 950 rfl tcl_4 tde_21 rfl rfl rfl rfl (fun _ => rfl)
theorem tg_122 : t_m1 (⟨"NineTrees$Moves", "forget", "()V"⟩, prog_5_method_7_code, 1, none, 0, 3) 1 0 3 := t_m1_of 831 rfl tcl_4 tde_0 rfl rfl rfl rfl (fun _ => rfl)
theorem tg_123 : t_m1 (⟨"NineTrees$Moves", "offerCells", "(LNineTrees$Garden;I)V"⟩, prog_5_method_8_code, 4, none, 2, 3) 4 2 3 := t_m1_of 859 rfl tcl_4 tde_21 rfl rfl rfl rfl (fun _ => rfl)
theorem tg_124 : t_m1 (⟨"NineTrees$Moves", "tell", "(I)I"⟩, prog_5_method_9_code, 2, (some .int), 1, 3) 2 1 3 := t_m1_of 865 rfl tcl_4 tde_5 rfl rfl rfl rfl (fun z => absurd z (by decide +kernel))
theorem tg_125 : t_m1 (⟨"NineTrees$Gap", "<init>", "()V"⟩, prog_3_method_1_code, 1, none, 0, 1) 1 0 1 := t_m1_of 223 rfl tcl_5 tde_0 rfl rfl rfl rfl (fun _ => rfl)
theorem tg_126 : t_m1 (⟨"NineTrees$Gap", "find", "(LNineTrees$Garden;LNineTrees$RowList;)V"⟩, prog_3_method_2_code, 5, none, 2, 1) 5 2 1 := t_m1_of 793 rfl tcl_5 tde_22 rfl rfl rfl rfl (fun _ => rfl)
theorem tg_127 : t_m1 (⟨"NineTrees$Gap", "offer", "(LNineTrees$Garden;II)V"⟩, prog_3_method_3_code, 8, none, 3, 1) 8 3 1 := t_m1_of 798 rfl tcl_5 tde_24 rfl rfl rfl rfl (fun _ => rfl)
theorem tg_128 : t_m1 (⟨"NineTrees$Shapes", "nearestTo", "(LNineTrees$Garden;I)I"⟩, prog_7_method_2_code, 5, (some .int), 2, 9) 5 2 9 := t_m1_of 489 rfl tcl_6 tde_25 rfl rfl rfl rfl (fun z => absurd z (by decide +kernel))
theorem tg_129 : t_m1 (⟨"NineTrees$Shapes", "nearestPair", "(LNineTrees$Garden;)I"⟩, prog_7_method_3_code, 6, (some .int), 1, 9) 6 1 9 := t_m1_of 989 rfl tcl_6 tde_26 rfl rfl rfl rfl (fun z => absurd z (by decide +kernel))
theorem t_mpr_12 : t_mpr t_ms_12 t_mil_12 := ⟨rfl, t_mall_of ⟨tg_120, tg_121, tg_122, tg_123, tg_124, tg_125, tg_126, tg_127, tg_128, tg_129, trivial⟩⟩
theorem tg_130 : t_m1 (⟨"NineTrees$Shapes", "cellNearestToAll", "(LNineTrees$Garden;)I"⟩, prog_7_method_4_code, 3, (some .int), 1, 9) 3 1 9 := t_m1_of 978 rfl tcl_6 tde_26 rfl rfl rfl rfl (fun z => absurd z (by decide +kernel))
theorem tg_131 : t_m1 (⟨"NineTrees$Shapes", "sumOfDistances", "(LNineTrees$Garden;I)I"⟩, prog_7_method_5_code, 4, (some .int), 2, 9) 4 2 9 := t_m1_of 982 rfl tcl_6 tde_25 rfl rfl rfl rfl (fun z => absurd z (by decide +kernel))
theorem tg_132 : t_m1 (⟨"NineTrees$Shapes", "freeLines", "(LNineTrees$Garden;I)I"⟩, prog_7_method_6_code, 4, (some .int), 2, 9) 4 2 9 := t_m1_of 915 rfl tcl_6 tde_25 rfl rfl rfl rfl (fun z => absurd z (by decide +kernel))
theorem tg_133 : t_m1 (⟨"NineTrees$Shapes", "lineOf", "(LNineTrees$Garden;II)I"⟩, prog_7_method_7_code, 5, (some .int), 3, 9) 5 3 9 := t_m1_of 918 rfl tcl_6 tde_27 rfl rfl rfl rfl (fun z => absurd z (by decide +kernel))
theorem tg_134 : t_m1 (⟨"NineTrees$Shapes", "ownImages", "(LNineTrees$Garden;)I"⟩, prog_7_method_8_code, 3, (some .int), 1, 9) 3 1 9 := t_m1_of 958 rfl tcl_6 tde_26 rfl rfl rfl rfl (fun z => absurd z (by decide +kernel))
theorem tg_135 : t_m1 (⟨"NineTrees$Shapes", "isOwnImage", "(LNineTrees$Garden;IZ)Z"⟩, prog_7_method_9_code, 6, (some .boolean), 3, 9) 6 3 9 := t_m1_of 961 rfl tcl_6 tde_28 rfl rfl rfl rfl (fun z => absurd z (by decide +kernel))
theorem tg_136 : t_m1 (⟨"NineTrees$Shapes", "greatestArea", "(LNineTrees$Garden;)I"⟩, prog_7_method_10_code, 6, (some .int), 1, 9) 6 1 9 := t_m1_of 996 rfl tcl_6 tde_26 rfl rfl rfl rfl (fun z => absurd z (by decide +kernel))
theorem tg_137 : t_m1 (⟨"NineTrees$Shapes", "countSquares", "(LNineTrees$Garden;)I"⟩, prog_7_method_11_code, 4, (some .int), 1, 9) 4 1 9 := t_m1_of 1008 rfl tcl_6 tde_26 rfl rfl rfl rfl (fun z => absurd z (by decide +kernel))
theorem tg_138 : t_m1 (⟨"NineTrees$Shapes", "isEdgeOfSquare", "(LNineTrees$Garden;II)Z"⟩, prog_7_method_12_code, 5, (some .boolean), 3, 9) 5 3 9 := t_m1_of 1011 rfl tcl_6 tde_29 rfl rfl rfl rfl (fun z => absurd z (by decide +kernel))
theorem tg_139 : t_m1 (⟨"NineTrees$Shapes", "isTaken", "(LNineTrees$Garden;II)Z"⟩, prog_7_method_13_code, 4, (some .boolean), 3, 9) 4 3 9 := t_m1_of 1014 rfl tcl_6 tde_29 rfl rfl rfl rfl (fun z => absurd z (by decide +kernel))
theorem t_mpr_13 : t_mpr t_ms_13 t_mil_13 := ⟨rfl, t_mall_of ⟨tg_130, tg_131, tg_132, tg_133, tg_134, tg_135, tg_136, tg_137, tg_138, tg_139, trivial⟩⟩
theorem tg_140 : t_m1 (⟨"NineTrees$Shapes", "isCorner", "(LNineTrees$Garden;I)Z"⟩, prog_7_method_14_code, 5, (some .boolean), 2, 9) 5 2 9 := t_m1_of 1022 rfl tcl_6 tde_30 rfl rfl rfl rfl (fun z => absurd z (by decide +kernel))
theorem tg_141 : t_m1 (⟨"NineTrees$Shapes", "isInTriangleOnto", "(LNineTrees$Garden;III)Z"⟩, prog_7_method_15_code, 6, (some .boolean), 4, 9) 6 4 9 := t_m1_of 1026 rfl tcl_6 tde_31 rfl rfl rfl rfl (fun z => absurd z (by decide +kernel))
theorem tg_142 : t_m1 (⟨"NineTrees$Shapes", "isOnOneHand", "(LNineTrees$Garden;IIII)Z"⟩, prog_7_method_16_code, 10, (some .boolean), 5, 9) 10 5 9 := t_m1_of 1029 rfl tcl_6 tde_32 rfl rfl rfl rfl (fun z => absurd z (by decide +kernel))
theorem tg_143 : t_m1 (⟨"NineTrees$Sight", "hider", "(LNineTrees$Garden;II)I"⟩, prog_9_method_2_code, 5, (some .int), 3, 9) 5 3 9 := t_m1_of 471 rfl tcl_7 tde_27 rfl rfl rfl rfl (fun z => absurd z (by decide +kernel))
theorem tg_144 : t_m1 (⟨"NineTrees$Sight", "isNearer", "(LNineTrees$Garden;III)Z"⟩, prog_9_method_3_code, 4, (some .boolean), 4, 9) 4 4 9 := t_m1_of 479 rfl tcl_7 tde_31 rfl rfl rfl rfl (fun z => absurd z (by decide +kernel))
theorem tg_145 : t_m1 (⟨"NineTrees$Sight", "isSeen", "(LNineTrees$Garden;II)Z"⟩, prog_9_method_4_code, 3, (some .boolean), 3, 9) 3 3 9 := t_m1_of 468 rfl tcl_7 tde_29 rfl rfl rfl rfl (fun z => absurd z (by decide +kernel))
theorem tg_146 : t_m1 (⟨"NineTrees$Sight", "seenFrom", "(LNineTrees$Garden;I)I"⟩, prog_9_method_5_code, 4, (some .int), 2, 9) 4 2 9 := t_m1_of 896 rfl tcl_7 tde_25 rfl rfl rfl rfl (fun z => absurd z (by decide +kernel))
theorem tg_147 : t_m1 (⟨"NineTrees$Sight", "areAllSeen", "(LNineTrees$Garden;I)Z"⟩, prog_9_method_6_code, 3, (some .boolean), 2, 9) 3 2 9 := t_m1_of 903 rfl tcl_7 tde_30 rfl rfl rfl rfl (fun z => absurd z (by decide +kernel))
theorem tg_148 : t_m1 (⟨"NineTrees$Sight", "seers", "(LNineTrees$Garden;I)I"⟩, prog_9_method_7_code, 4, (some .int), 2, 9) 4 2 9 := t_m1_of 465 rfl tcl_7 tde_25 rfl rfl rfl rfl (fun z => absurd z (by decide +kernel))
theorem tg_149 : t_m1 (⟨"NineTrees$Shelf", "<init>", "()V"⟩, prog_8_method_1_code, 1, none, 0, 5) 1 0 5 := t_m1_of 276 rfl tcl_8 tde_0 rfl rfl rfl rfl (fun _ => rfl)
theorem t_mpr_14 : t_mpr t_ms_14 t_mil_14 := ⟨rfl, t_mall_of ⟨tg_140, tg_141, tg_142, tg_143, tg_144, tg_145, tg_146, tg_147, tg_148, tg_149, trivial⟩⟩
theorem tg_150 : t_m1 (⟨"NineTrees$Shelf", "hasRow", "()Z"⟩, prog_8_method_2_code, 1, (some .boolean), 0, 5) 1 0 5 := t_m1_of 353 rfl tcl_8 tde_18 rfl rfl rfl rfl (fun z => absurd z (by decide +kernel))
theorem tg_151 : t_m1 (⟨"NineTrees$Shelf", "hasTree", "()Z"⟩, prog_8_method_3_code, 1, (some .boolean), 0, 5) 1 0 5 := t_m1_of 361 rfl tcl_8 tde_18 rfl rfl rfl rfl (fun z => absurd z (by decide +kernel))
theorem tg_152 : t_m1 (⟨"NineTrees$Shelf", "whyNoRow", "()I"⟩, prog_8_method_4_code, 1, (some .int), 0, 5) 1 0 5 := t_m1_of 357 rfl tcl_8 tde_7 rfl rfl rfl rfl (fun z => absurd z (by decide +kernel))
theorem tg_153 : t_m1 (⟨"NineTrees$Shelf", "hasElement", "(I)Z"⟩, prog_8_method_5_code, 2, (some .boolean), 1, 5) 2 1 5 := t_m1_of 365 rfl tcl_8 tde_14 rfl rfl rfl rfl (fun z => absurd z (by decide +kernel))
theorem tg_154 : t_m1 (⟨"NineTrees$Shelf", "hasStretch", "(II)Z"⟩, prog_8_method_6_code, 3, (some .boolean), 2, 5) 3 2 5 := t_m1_of 378 rfl tcl_8 tde_17 rfl rfl rfl rfl (fun z => absurd z (by decide +kernel))
theorem tg_155 : t_m1 (⟨"NineTrees$Shelf", "takeRow", "(II)V"⟩, prog_8_method_7_code, 4, none, 2, 5) 4 2 5 := t_m1_of 345 rfl tcl_8 tde_33 rfl rfl rfl rfl (fun _ => rfl)
theorem tg_156 : t_m1 (⟨"NineTrees$Shelf", "takeTree", "(I)V"⟩, prog_8_method_8_code, 2, none, 1, 5) 2 1 5 := t_m1_of 401 rfl tcl_8 tde_12 rfl rfl rfl rfl (fun _ => rfl)
theorem tg_157 : t_m1 (⟨"NineTrees$Shelf", "fitted", "(J)J"⟩, prog_8_method_9_code, 3, (some .long), 1, 5) 3 1 5 := t_m1_of 369 rfl tcl_8 tde_34 rfl rfl rfl rfl (fun z => absurd z (by decide +kernel))
theorem tg_158 : t_m1 (⟨"NineTrees$Tape", "<init>", "()V"⟩, prog_10_method_1_code, 1, none, 0, 6) 1 0 6 := t_m1_of 244 rfl tcl_9 tde_0 rfl rfl rfl rfl (fun _ => rfl)
theorem tg_159 : t_m1 (⟨"NineTrees$Tape", "readInto", "(LNineTrees$Garden;)I"⟩, prog_10_method_2_code, 3, (some .int), 1, 6) 3 1 6 := t_m1_of 589 rfl tcl_9 tde_26 rfl rfl rfl rfl (fun z => absurd z (by decide +kernel))
theorem t_mpr_15 : t_mpr t_ms_15 t_mil_15 := ⟨rfl, t_mall_of ⟨tg_150, tg_151, tg_152, tg_153, tg_154, tg_155, tg_156, tg_157, tg_158, tg_159, trivial⟩⟩
theorem tg_160 : t_m1 (⟨"NineTrees$Tape", "readStatement", "(LNineTrees$Garden;)Z"⟩, prog_10_method_3_code, 2, (some .boolean), 1, 6) 2 1 6 := t_m1_of 605 rfl tcl_9 tde_35 rfl rfl rfl rfl (fun z => absurd z (by decide +kernel))
theorem tg_161 : t_m1 (⟨"NineTrees$Tape", "readSide", "(LNineTrees$Garden;)Z"⟩, prog_10_method_4_code, 2, (some .boolean), 1, 6) 2 1 6 := t_m1_of 662 rfl tcl_9 tde_35 rfl rfl rfl rfl (fun z => absurd z (by decide +kernel))
theorem tg_162 : t_m1 (⟨"NineTrees$Tape", "readTree", "(LNineTrees$Garden;)Z"⟩, prog_10_method_5_code, 4, (some .boolean), 1, 6) 4 1 6 := t_m1_of 675 rfl tcl_9 tde_35 rfl rfl rfl rfl (fun z => absurd z (by decide +kernel))
theorem tg_163 : t_m1 (⟨"NineTrees$Tape", "readWish", "(LNineTrees$Garden;)Z"⟩, prog_10_method_6_code, 4, (some .boolean), 1, 6) 4 1 6 := t_m1_of 683 rfl tcl_9 tde_35 rfl rfl rfl rfl (fun z => absurd z (by decide +kernel))
theorem tg_164 : t_m1 (⟨"NineTrees$Tape", "readMove", "(LNineTrees$Garden;)Z"⟩, prog_10_method_7_code, 3, (some .boolean), 1, 6) 3 1 6 := t_m1_of 689 rfl tcl_9 tde_35 rfl rfl rfl rfl (fun z => absurd z (by decide +kernel))
theorem tg_165 : t_m1 (⟨"NineTrees$Tape", "readFell", "(LNineTrees$Garden;)Z"⟩, prog_10_method_8_code, 2, (some .boolean), 1, 6) 2 1 6 := t_m1_of 695 rfl tcl_9 tde_35 rfl rfl rfl rfl (fun z => absurd z (by decide +kernel))
theorem tg_166 : t_m1 (⟨"NineTrees$Tape", "advanceToNumber", "(II)Z"⟩, prog_10_method_9_code, 3, (some .boolean), 2, 6) 3 2 6 := t_m1_of 666 rfl tcl_9 tde_17 rfl rfl rfl rfl (fun z => absurd z (by decide +kernel))
theorem tg_167 : t_m1 (⟨"NineTrees$Tape", "isNumber", "(II)Z"⟩, prog_10_method_10_code, 3, (some .boolean), 2, 6) 3 2 6 := t_m1_of 670 rfl tcl_9 tde_17 rfl rfl rfl rfl (fun z => absurd z (by decide +kernel))
theorem tg_168 : t_m1 (⟨"NineTrees$Tape", "isWord", "(Ljava/lang/String;)Z"⟩, prog_10_method_11_code, 3, (some .boolean), 1, 6) 3 1 6 := t_m1_of 610 rfl tcl_9 tde_36 rfl rfl rfl rfl (fun z => absurd z (by decide +kernel))
theorem tg_169 : t_m1 (⟨"NineTrees$Tape", "advance", "()V"⟩, prog_10_method_12_code, 1, none, 0, 6) 1 0 6 := t_m1_of 593 rfl tcl_9 tde_0 rfl rfl rfl rfl (fun _ => rfl)
theorem t_mpr_16 : t_mpr t_ms_16 t_mil_16 := ⟨rfl, t_mall_of ⟨tg_160, tg_161, tg_162, tg_163, tg_164, tg_165, tg_166, tg_167, tg_168, tg_169, trivial⟩⟩
theorem tg_170 : t_m1 (⟨"NineTrees$Tape", "typeAt", "(I)I"⟩, prog_10_method_13_code, 3, (some .int), 1, 6) 3 1 6 := t_m1_of 597 rfl tcl_9 tde_5 rfl rfl rfl rfl (fun z => absurd z (by decide +kernel))
theorem tg_171 : t_m1 (⟨"NineTrees$Tape", "valueOfDigits", "()I"⟩, prog_10_method_14_code, 3, (some .int), 0, 6) 3 0 6 := t_m1_of 601 rfl tcl_9 tde_7 rfl rfl rfl rfl (fun z => absurd z (by decide +kernel))
theorem tg_172 : t_m1 (⟨"java/lang/Integer", "numberOfTrailingZeros", "(I)I"⟩, prog_13_method_48_code, 2, (some .int), 1, 9) 2 1 9 := t_m1_of 440 rfl tcl_10 tde_5 rfl rfl rfl rfl (fun z => absurd z (by decide +kernel))
theorem tg_173 : t_m1 (⟨"java/lang/Integer", "bitCount", "(I)I"⟩, prog_13_method_49_code, 1, (some .int), 1, 9) 1 1 9 := t_m1_of 455 rfl tcl_10 tde_5 rfl rfl rfl rfl (fun z => absurd z (by decide +kernel))
theorem tg_177 : t_m1 (⟨"java/lang/String", "length", "()I"⟩, prog_15_method_54_code, 1, (some .int), 0, 9) 1 0 9 := t_m1_of 614 rfl tcl_11 tde_7 rfl rfl rfl rfl (fun z => absurd z (by decide +kernel))
theorem tg_178 : t_m1 (⟨"java/lang/String", "charAt", "(I)C"⟩, prog_15_method_56_code, 2, (some .char), 1, 9) 2 1 9 := t_m1_of 624 rfl tcl_11 tde_37 rfl rfl rfl rfl (fun z => absurd z (by decide +kernel))
theorem tg_179 : t_m1 (⟨"java/lang/String", "coder", "()B"⟩, prog_15_method_152_code, 1, (some .byte), 0, 9) 1 0 9 := t_m1_of 618 rfl tcl_11 tde_38 rfl rfl rfl rfl (fun z => absurd z (by decide +kernel))
theorem t_mpr_17 : t_mpr t_ms_17 t_mil_17 := ⟨rfl, t_mall_of ⟨tg_170, tg_171, tg_172, tg_173, tg_177, tg_178, tg_179, trivial⟩⟩
theorem tg_180 : t_m1 (⟨"java/lang/String", "isLatin1", "()Z"⟩, prog_15_method_154_code, 1, (some .boolean), 0, 9) 1 0 9 := t_m1_of 628 rfl tcl_11 tde_18 rfl rfl rfl rfl (fun z => absurd z (by decide +kernel))
theorem tg_181 : t_m1 (⟨"java/lang/String", "checkIndex", "(II)V"⟩, prog_15_method_155_code, 2, none, 2, 9) 2 2 9 := t_m1_of 634 rfl tcl_11 tde_33 rfl rfl rfl rfl (fun _ => rfl)
theorem tg_182 : t_m1 (⟨"java/lang/StringLatin1", "charAt", "([BI)C"⟩, prog_16_method_2_code, 2, (some .char), 2, 9) 2 2 9 := t_m1_of 631 rfl tcl_12 tde_39 rfl rfl rfl rfl (fun z => absurd z (by decide +kernel))
theorem tg_183 : t_m1 (⟨"jdk/internal/util/Preconditions", "checkIndex", "(IILjava/util/function/BiFunction;)I"⟩, prog_19_method_11_code, 3, (some .int), 3, 9) 3 3 9 := t_m1_of 639 rfl tcl_13 tde_40 rfl rfl rfl rfl (fun z => absurd z (by decide +kernel))
theorem tg_184 : t_m1 (⟨"java/lang/StringUTF16", "getChar", "([BI)C"⟩, prog_17_method_5_code, 2, (some .char), 2, 9) 2 2 9 := t_m1_of 652 rfl tcl_14 tde_39 rfl rfl rfl rfl (fun z => absurd z (by decide +kernel))
theorem tg_185 : t_m1 (⟨"java/lang/StringUTF16", "length", "([B)I"⟩, prog_17_method_6_code, 1, (some .int), 1, 9) 1 1 9 := t_m1_of 648 rfl tcl_14 tde_41 rfl rfl rfl rfl (fun z => absurd z (by decide +kernel))
theorem tg_186 : t_m1 (⟨"java/lang/StringUTF16", "charAt", "([BI)C"⟩, prog_17_method_83_code, 2, (some .char), 2, 9) 2 2 9 := t_m1_of 642 rfl tcl_14 tde_39 rfl rfl rfl rfl (fun z => absurd z (by decide +kernel))
theorem tg_187 : t_m1 (⟨"java/lang/StringUTF16", "checkIndex", "(I[B)V"⟩, prog_17_method_91_code, 2, none, 2, 9) 2 2 9 := t_m1_of 645 rfl tcl_14 tde_42 rfl rfl rfl rfl (fun _ => rfl)
theorem tg_188 : t_m1 (⟨"NineTreesModel", "<init>", "()V"⟩, prog_12_method_1_code, 1, none, 0, 8) 1 0 8 := t_m1_of 1099 rfl tcl_15 tde_0 rfl rfl rfl rfl (fun _ => rfl)
theorem tg_189 : t_m1 (⟨"NineTreesModel", "refuse", "(I)I"⟩, prog_12_method_2_code, 2, (some .int), 1, 8) 2 1 8 := t_m1_of 1210 rfl tcl_15 tde_5 rfl rfl rfl rfl (fun z => absurd z (by decide +kernel))
theorem t_mpr_18 : t_mpr t_ms_18 t_mil_18 := ⟨rfl, t_mall_of ⟨tg_180, tg_181, tg_182, tg_183, tg_184, tg_185, tg_186, tg_187, tg_188, tg_189, trivial⟩⟩
theorem tg_190 : t_m1 (⟨"NineTreesModel", "in", "(JJJ)Z"⟩, prog_12_method_3_code, 6, (some .boolean), 3, 8) 6 3 8 := t_m1_of 1204 rfl tcl_15 tde_43 rfl rfl rfl rfl (fun z => absurd z (by decide +kernel))
theorem tg_191 : t_m1 (⟨"NineTreesModel", "isTree", "(I)Z"⟩, prog_12_method_4_code, 2, (some .boolean), 1, 8) 2 1 8 := t_m1_of 1241 rfl tcl_15 tde_14 rfl rfl rfl rfl (fun z => absurd z (by decide +kernel))
theorem tg_192 : t_m1 (⟨"NineTreesModel", "cells", "()I"⟩, prog_12_method_5_code, 1, (some .int), 0, 8) 1 0 8 := t_m1_of 1317 rfl tcl_15 tde_7 rfl rfl rfl rfl (fun z => absurd z (by decide +kernel))
theorem tg_193 : t_m1 (⟨"NineTreesModel", "isCell", "(I)Z"⟩, prog_12_method_6_code, 2, (some .boolean), 1, 8) 2 1 8 := t_m1_of 1313 rfl tcl_15 tde_14 rfl rfl rfl rfl (fun z => absurd z (by decide +kernel))
theorem tg_194 : t_m1 (⟨"NineTreesModel", "inCell", "(I)I"⟩, prog_12_method_7_code, 3, (some .int), 1, 8) 3 1 8 := t_m1_of 1322 rfl tcl_15 tde_5 rfl rfl rfl rfl (fun z => absurd z (by decide +kernel))
theorem tg_195 : t_m1 (⟨"NineTreesModel", "has", "(II)Z"⟩, prog_12_method_8_code, 2, (some .boolean), 2, 8) 2 2 8 := t_m1_of 1276 rfl tcl_15 tde_17 rfl rfl rfl rfl (fun z => absurd z (by decide +kernel))
theorem tg_196 : t_m1 (⟨"NineTreesModel", "bits", "(I)I"⟩, prog_12_method_9_code, 3, (some .int), 1, 8) 3 1 8 := t_m1_of 1279 rfl tcl_15 tde_5 rfl rfl rfl rfl (fun z => absurd z (by decide +kernel))
theorem tg_197 : t_m1 (⟨"NineTreesModel", "isFirm", "(I)Z"⟩, prog_12_method_10_code, 2, (some .boolean), 1, 8) 2 1 8 := t_m1_of 1346 rfl tcl_15 tde_14 rfl rfl rfl rfl (fun z => absurd z (by decide +kernel))
theorem tg_198 : t_m1 (⟨"NineTreesModel", "isLow", "(I)Z"⟩, prog_12_method_11_code, 2, (some .boolean), 1, 8) 2 1 8 := t_m1_of 1291 rfl tcl_15 tde_14 rfl rfl rfl rfl (fun z => absurd z (by decide +kernel))
theorem tg_199 : t_m1 (⟨"NineTreesModel", "row", "(III)I"⟩, prog_12_method_12_code, 5, (some .int), 3, 8) 5 3 8 := t_m1_of 1200 rfl tcl_15 tde_1 rfl rfl rfl rfl (fun z => absurd z (by decide +kernel))
theorem t_mpr_19 : t_mpr t_ms_19 t_mil_19 := ⟨rfl, t_mall_of ⟨tg_190, tg_191, tg_192, tg_193, tg_194, tg_195, tg_196, tg_197, tg_198, tg_199, trivial⟩⟩
theorem tg_200 : t_m1 (⟨"NineTreesModel", "fit", "(IJ)J"⟩, prog_12_method_13_code, 3, (some .long), 2, 8) 3 2 8 := t_m1_of 1221 rfl tcl_15 tde_44 rfl rfl rfl rfl (fun z => absurd z (by decide +kernel))
theorem tg_201 : t_m1 (⟨"NineTreesModel", "noRow", "(I)I"⟩, prog_12_method_14_code, 2, (some .int), 1, 8) 2 1 8 := t_m1_of 1218 rfl tcl_15 tde_5 rfl rfl rfl rfl (fun z => absurd z (by decide +kernel))
theorem tg_202 : t_m1 (⟨"NineTreesModel", "set", "(IIJ)I"⟩, prog_12_method_15_code, 6, (some .int), 3, 8) 6 3 8 := t_m1_of 1214 rfl tcl_15 tde_2 rfl rfl rfl rfl (fun z => absurd z (by decide +kernel))
theorem tg_203 : t_m1 (⟨"NineTreesModel", "copy", "(IIIII)I"⟩, prog_12_method_16_code, 7, (some .int), 5, 8) 7 5 8 := t_m1_of 1225 rfl tcl_15 tde_3 rfl rfl rfl rfl (fun z => absurd z (by decide +kernel))
theorem tg_204 : t_m1 (⟨"NineTreesModel", "element", "(II)J"⟩, prog_12_method_17_code, 3, (some .long), 2, 8) 3 2 8 := t_m1_of 1229 rfl tcl_15 tde_4 rfl rfl rfl rfl (fun z => absurd z (by decide +kernel))
theorem tg_205 : t_m1 (⟨"NineTreesModel", "holds", "(I)I"⟩, prog_12_method_18_code, 2, (some .int), 1, 8) 2 1 8 := t_m1_of 1233 rfl tcl_15 tde_5 rfl rfl rfl rfl (fun z => absurd z (by decide +kernel))
theorem tg_206 : t_m1 (⟨"NineTreesModel", "show", "(II)I"⟩, prog_12_method_19_code, 3, (some .int), 2, 8) 3 2 8 := t_m1_of 1237 rfl tcl_15 tde_6 rfl rfl rfl rfl (fun z => absurd z (by decide +kernel))
theorem tg_207 : t_m1 (⟨"NineTreesModel", "shelvesFollow", "()V"⟩, prog_12_method_20_code, 2, none, 0, 8) 2 0 8 := t_m1_of 1358 rfl tcl_15 tde_0 rfl rfl rfl rfl (fun _ => rfl)
theorem tg_208 : t_m1 (⟨"NineTreesModel", "isUnder", "(II)Z"⟩, prog_12_method_21_code, 2, (some .boolean), 2, 8) 2 2 8 := t_m1_of 1249 rfl tcl_15 tde_17 rfl rfl rfl rfl (fun z => absurd z (by decide +kernel))
theorem tg_209 : t_m1 (⟨"NineTreesModel", "says", "(II)I"⟩, prog_12_method_22_code, 7, (some .int), 2, 8) 7 2 8 := t_m1_of 1245 rfl tcl_15 tde_6 rfl rfl rfl rfl (fun z => absurd z (by decide +kernel))
theorem t_mpr_20 : t_mpr t_ms_20 t_mil_20 := ⟨rfl, t_mall_of ⟨tg_200, tg_201, tg_202, tg_203, tg_204, tg_205, tg_206, tg_207, tg_208, tg_209, trivial⟩⟩
theorem tg_210 : t_m1 (⟨"NineTreesModel", "wishesWith", "(I)I"⟩, prog_12_method_23_code, 4, (some .int), 1, 8) 4 1 8 := t_m1_of 1283 rfl tcl_15 tde_5 rfl rfl rfl rfl (fun z => absurd z (by decide +kernel))
theorem tg_211 : t_m1 (⟨"NineTreesModel", "side", "(I)I"⟩, prog_12_method_24_code, 3, (some .int), 1, 8) 3 1 8 := t_m1_of 1303 rfl tcl_15 tde_5 rfl rfl rfl rfl (fun z => absurd z (by decide +kernel))
theorem tg_212 : t_m1 (⟨"NineTreesModel", "addTree", "(III)V"⟩, prog_12_method_25_code, 4, none, 3, 8) 4 3 8 := t_m1_of 1326 rfl tcl_15 tde_19 rfl rfl rfl rfl (fun _ => rfl)
theorem tg_213 : t_m1 (⟨"NineTreesModel", "tree", "(III)I"⟩, prog_12_method_26_code, 4, (some .int), 3, 8) 4 3 8 := t_m1_of 1309 rfl tcl_15 tde_1 rfl rfl rfl rfl (fun z => absurd z (by decide +kernel))
theorem tg_214 : t_m1 (⟨"NineTreesModel", "wish", "(I)I"⟩, prog_12_method_27_code, 2, (some .int), 1, 8) 2 1 8 := t_m1_of 1330 rfl tcl_15 tde_5 rfl rfl rfl rfl (fun z => absurd z (by decide +kernel))
theorem tg_215 : t_m1 (⟨"NineTreesModel", "content", "()I"⟩, prog_12_method_28_code, 2, (some .int), 0, 8) 2 0 8 := t_m1_of 1334 rfl tcl_15 tde_7 rfl rfl rfl rfl (fun z => absurd z (by decide +kernel))
theorem tg_216 : t_m1 (⟨"NineTreesModel", "noMove", "(II)I"⟩, prog_12_method_29_code, 3, (some .int), 2, 8) 3 2 8 := t_m1_of 1342 rfl tcl_15 tde_6 rfl rfl rfl rfl (fun z => absurd z (by decide +kernel))
theorem tg_217 : t_m1 (⟨"NineTreesModel", "move", "(II)I"⟩, prog_12_method_30_code, 5, (some .int), 2, 8) 5 2 8 := t_m1_of 1338 rfl tcl_15 tde_6 rfl rfl rfl rfl (fun z => absurd z (by decide +kernel))
theorem tg_218 : t_m1 (⟨"NineTreesModel", "canFell", "()Z"⟩, prog_12_method_31_code, 1, (some .boolean), 0, 8) 1 0 8 := t_m1_of 1354 rfl tcl_15 tde_18 rfl rfl rfl rfl (fun z => absurd z (by decide +kernel))
theorem tg_219 : t_m1 (⟨"NineTreesModel", "fell", "()I"⟩, prog_12_method_32_code, 1, (some .int), 0, 8) 1 0 8 := t_m1_of 1350 rfl tcl_15 tde_7 rfl rfl rfl rfl (fun z => absurd z (by decide +kernel))
theorem t_mpr_21 : t_mpr t_ms_21 t_mil_21 := ⟨rfl, t_mall_of ⟨tg_210, tg_211, tg_212, tg_213, tg_214, tg_215, tg_216, tg_217, tg_218, tg_219, trivial⟩⟩
theorem tg_220 : t_m1 (⟨"NineTreesModel", "feed", "(I)I"⟩, prog_12_method_33_code, 2, (some .int), 1, 8) 2 1 8 := t_m1_of 1362 rfl tcl_15 tde_5 rfl rfl rfl rfl (fun z => absurd z (by decide +kernel))
theorem tg_221 : t_m1 (⟨"NineTreesModel", "wipe", "()I"⟩, prog_12_method_34_code, 2, (some .int), 0, 8) 2 0 8 := t_m1_of 1367 rfl tcl_15 tde_7 rfl rfl rfl rfl (fun z => absurd z (by decide +kernel))
theorem tg_222 : t_m1 (⟨"NineTreesModel", "isLetter", "(I)Z"⟩, prog_12_method_35_code, 1, (some .boolean), 1, 8) 1 1 8 := t_m1_of 1395 rfl tcl_15 tde_14 rfl rfl rfl rfl (fun z => absurd z (by decide +kernel))
theorem tg_223 : t_m1 (⟨"NineTreesModel", "isDigit", "(I)Z"⟩, prog_12_method_36_code, 1, (some .boolean), 1, 8) 1 1 8 := t_m1_of 1398 rfl tcl_15 tde_14 rfl rfl rfl rfl (fun z => absurd z (by decide +kernel))
theorem tg_224 : t_m1 (⟨"NineTreesModel", "look", "()V"⟩, prog_12_method_37_code, 1, none, 0, 8) 1 0 8 := t_m1_of 1392 rfl tcl_15 tde_0 rfl rfl rfl rfl (fun _ => rfl)
theorem tg_225 : t_m1 (⟨"NineTreesModel", "wrong", "()Z"⟩, prog_12_method_38_code, 1, (some .boolean), 0, 8) 1 0 8 := t_m1_of 1421 rfl tcl_15 tde_18 rfl rfl rfl rfl (fun z => absurd z (by decide +kernel))
theorem tg_226 : t_m1 (⟨"NineTreesModel", "isWord", "(Ljava/lang/String;)Z"⟩, prog_12_method_39_code, 3, (some .boolean), 1, 8) 3 1 8 := t_m1_of 1407 rfl tcl_15 tde_36 rfl rfl rfl rfl (fun z => absurd z (by decide +kernel))
theorem tg_227 : t_m1 (⟨"NineTreesModel", "number", "(III)Z"⟩, prog_12_method_40_code, 4, (some .boolean), 3, 8) 4 3 8 := t_m1_of 1417 rfl tcl_15 tde_16 rfl rfl rfl rfl (fun z => absurd z (by decide +kernel))
theorem tg_228 : t_m1 (⟨"NineTreesModel", "tells", "(II)Z"⟩, prog_12_method_41_code, 3, (some .boolean), 2, 8) 3 2 8 := t_m1_of 1413 rfl tcl_15 tde_17 rfl rfl rfl rfl (fun z => absurd z (by decide +kernel))
theorem tg_229 : t_m1 (⟨"NineTreesModel", "freeCell", "(I)Z"⟩, prog_12_method_42_code, 2, (some .boolean), 1, 8) 2 1 8 := t_m1_of 1426 rfl tcl_15 tde_14 rfl rfl rfl rfl (fun z => absurd z (by decide +kernel))
theorem t_mpr_22 : t_mpr t_ms_22 t_mil_22 := ⟨rfl, t_mall_of ⟨tg_220, tg_221, tg_222, tg_223, tg_224, tg_225, tg_226, tg_227, tg_228, tg_229, trivial⟩⟩
theorem tg_230 : t_m1 (⟨"NineTreesModel", "wishTold", "()Z"⟩, prog_12_method_43_code, 3, (some .boolean), 0, 8) 3 0 8 := t_m1_of 1431 rfl tcl_15 tde_18 rfl rfl rfl rfl (fun z => absurd z (by decide +kernel))
theorem tg_231 : t_m1 (⟨"NineTreesModel", "moveTold", "()Z"⟩, prog_12_method_44_code, 1, (some .boolean), 0, 8) 1 0 8 := t_m1_of 1436 rfl tcl_15 tde_18 rfl rfl rfl rfl (fun z => absurd z (by decide +kernel))
theorem tg_232 : t_m1 (⟨"NineTreesModel", "statement", "()Z"⟩, prog_12_method_45_code, 2, (some .boolean), 0, 8) 2 0 8 := t_m1_of 1402 rfl tcl_15 tde_18 rfl rfl rfl rfl (fun z => absurd z (by decide +kernel))
theorem tg_233 : t_m1 (⟨"NineTreesModel", "readAll", "()Z"⟩, prog_12_method_46_code, 1, (some .boolean), 0, 8) 1 0 8 := t_m1_of 1388 rfl tcl_15 tde_18 rfl rfl rfl rfl (fun z => absurd z (by decide +kernel))
theorem tg_234 : t_m1 (⟨"NineTreesModel", "garden", "()I"⟩, prog_12_method_47_code, 3, (some .int), 0, 8) 3 0 8 := t_m1_of 1371 rfl tcl_15 tde_7 rfl rfl rfl rfl (fun z => absurd z (by decide +kernel))
theorem tg_235 : t_m1 (⟨"NineTreesModel", "area", "(III)I"⟩, prog_12_method_48_code, 6, (some .int), 3, 8) 6 3 8 := t_m1_of 1269 rfl tcl_15 tde_1 rfl rfl rfl rfl (fun z => absurd z (by decide +kernel))
theorem tg_236 : t_m1 (⟨"NineTreesModel", "areInLine", "(III)Z"⟩, prog_12_method_49_code, 4, (some .boolean), 3, 8) 4 3 8 := t_m1_of 1265 rfl tcl_15 tde_16 rfl rfl rfl rfl (fun z => absurd z (by decide +kernel))
theorem tg_237 : t_m1 (⟨"NineTreesModel", "apart", "(II)I"⟩, prog_12_method_50_code, 5, (some .int), 2, 8) 5 2 8 := t_m1_of 1299 rfl tcl_15 tde_6 rfl rfl rfl rfl (fun z => absurd z (by decide +kernel))
theorem tg_238 : t_m1 (⟨"NineTreesModel", "square", "(II)I"⟩, prog_12_method_51_code, 5, (some .int), 2, 8) 5 2 8 := t_m1_of 1295 rfl tcl_15 tde_6 rfl rfl rfl rfl (fun z => absurd z (by decide +kernel))
theorem tg_239 : t_m1 (⟨"NineTreesModel", "rowThrough", "(II)I"⟩, prog_12_method_52_code, 6, (some .int), 2, 8) 6 2 8 := t_m1_of 1261 rfl tcl_15 tde_6 rfl rfl rfl rfl (fun z => absurd z (by decide +kernel))
theorem t_mpr_23 : t_mpr t_ms_23 t_mil_23 := ⟨rfl, t_mall_of ⟨tg_230, tg_231, tg_232, tg_233, tg_234, tg_235, tg_236, tg_237, tg_238, tg_239, trivial⟩⟩
theorem tg_240 : t_m1 (⟨"NineTreesModel", "findRows", "()V"⟩, prog_12_method_53_code, 4, none, 0, 8) 4 0 8 := t_m1_of 1257 rfl tcl_15 tde_0 rfl rfl rfl rfl (fun _ => rfl)
theorem tg_241 : t_m1 (⟨"NineTreesModel", "putRow", "(I)V"⟩, prog_12_method_54_code, 3, none, 1, 8) 3 1 8 := t_m1_of 1273 rfl tcl_15 tde_12 rfl rfl rfl rfl (fun _ => rfl)
theorem tg_242 : t_m1 (⟨"NineTreesModel", "rowsWith", "(II)I"⟩, prog_12_method_55_code, 5, (some .int), 2, 8) 5 2 8 := t_m1_of 1253 rfl tcl_15 tde_6 rfl rfl rfl rfl (fun z => absurd z (by decide +kernel))
theorem tg_243 : t_m1 (⟨"NineTreesModel", "threesNow", "()I"⟩, prog_12_method_56_code, 3, (some .int), 0, 8) 3 0 8 := t_m1_of 1459 rfl tcl_15 tde_7 rfl rfl rfl rfl (fun z => absurd z (by decide +kernel))
theorem tg_244 : t_m1 (⟨"NineTreesModel", "treeOf", "(II)I"⟩, prog_12_method_57_code, 3, (some .int), 2, 8) 3 2 8 := t_m1_of 1441 rfl tcl_15 tde_6 rfl rfl rfl rfl (fun z => absurd z (by decide +kernel))
theorem tg_245 : t_m1 (⟨"NineTreesModel", "treeAt", "(I)I"⟩, prog_12_method_58_code, 2, (some .int), 1, 8) 2 1 8 := t_m1_of 1445 rfl tcl_15 tde_5 rfl rfl rfl rfl (fun z => absurd z (by decide +kernel))
theorem tg_246 : t_m1 (⟨"NineTreesModel", "many", "(I)I"⟩, prog_12_method_59_code, 4, (some .int), 1, 8) 4 1 8 := t_m1_of 1449 rfl tcl_15 tde_5 rfl rfl rfl rfl (fun z => absurd z (by decide +kernel))
theorem tg_247 : t_m1 (⟨"NineTreesModel", "threes", "()I"⟩, prog_12_method_60_code, 1, (some .int), 0, 8) 1 0 8 := t_m1_of 1455 rfl tcl_15 tde_7 rfl rfl rfl rfl (fun z => absurd z (by decide +kernel))
theorem tg_248 : t_m1 (⟨"NineTreesModel", "rowAt", "(II)I"⟩, prog_12_method_61_code, 5, (some .int), 2, 8) 5 2 8 := t_m1_of 1463 rfl tcl_15 tde_6 rfl rfl rfl rfl (fun z => absurd z (by decide +kernel))
theorem tg_249 : t_m1 (⟨"NineTreesModel", "longest", "()I"⟩, prog_12_method_62_code, 3, (some .int), 0, 8) 3 0 8 := t_m1_of 1467 rfl tcl_15 tde_7 rfl rfl rfl rfl (fun z => absurd z (by decide +kernel))
theorem t_mpr_24 : t_mpr t_ms_24 t_mil_24 := ⟨rfl, t_mall_of ⟨tg_240, tg_241, tg_242, tg_243, tg_244, tg_245, tg_246, tg_247, tg_248, tg_249, trivial⟩⟩
theorem tg_250 : t_m1 (⟨"NineTreesModel", "alone", "()I"⟩, prog_12_method_63_code, 3, (some .int), 0, 8) 3 0 8 := t_m1_of 1471 rfl tcl_15 tde_7 rfl rfl rfl rfl (fun z => absurd z (by decide +kernel))
theorem tg_251 : t_m1 (⟨"NineTreesModel", "through", "(II)I"⟩, prog_12_method_64_code, 3, (some .int), 2, 8) 3 2 8 := t_m1_of 1475 rfl tcl_15 tde_6 rfl rfl rfl rfl (fun z => absurd z (by decide +kernel))
theorem tg_252 : t_m1 (⟨"NineTreesModel", "standInLine", "(I)Z"⟩, prog_12_method_65_code, 3, (some .boolean), 1, 8) 3 1 8 := t_m1_of 1483 rfl tcl_15 tde_14 rfl rfl rfl rfl (fun z => absurd z (by decide +kernel))
theorem tg_253 : t_m1 (⟨"NineTreesModel", "inLine", "(I)I"⟩, prog_12_method_66_code, 2, (some .int), 1, 8) 2 1 8 := t_m1_of 1479 rfl tcl_15 tde_5 rfl rfl rfl rfl (fun z => absurd z (by decide +kernel))
theorem tg_254 : t_m1 (⟨"NineTreesModel", "judge", "(II)I"⟩, prog_12_method_67_code, 8, (some .int), 2, 8) 8 2 8 := t_m1_of 1487 rfl tcl_15 tde_6 rfl rfl rfl rfl (fun z => absurd z (by decide +kernel))
theorem tg_255 : t_m1 (⟨"NineTreesModel", "first", "(II)I"⟩, prog_12_method_68_code, 3, (some .int), 2, 8) 3 2 8 := t_m1_of 1494 rfl tcl_15 tde_6 rfl rfl rfl rfl (fun z => absurd z (by decide +kernel))
theorem tg_256 : t_m1 (⟨"NineTreesModel", "gap", "(I)I"⟩, prog_12_method_69_code, 17, (some .int), 1, 8) 17 1 8 := t_m1_of 1491 rfl tcl_15 tde_5 rfl rfl rfl rfl (fun z => absurd z (by decide +kernel))
theorem tg_257 : t_m1 (⟨"NineTreesModel", "threesWithout", "(I)I"⟩, prog_12_method_70_code, 4, (some .int), 1, 8) 4 1 8 := t_m1_of 1506 rfl tcl_15 tde_5 rfl rfl rfl rfl (fun z => absurd z (by decide +kernel))
theorem tg_258 : t_m1 (⟨"NineTreesModel", "missedOf", "(I)I"⟩, prog_12_method_71_code, 2, (some .int), 1, 8) 2 1 8 := t_m1_of 1502 rfl tcl_15 tde_5 rfl rfl rfl rfl (fun z => absurd z (by decide +kernel))
theorem tg_259 : t_m1 (⟨"NineTreesModel", "missed", "(I)I"⟩, prog_12_method_72_code, 2, (some .int), 1, 8) 2 1 8 := t_m1_of 1498 rfl tcl_15 tde_5 rfl rfl rfl rfl (fun z => absurd z (by decide +kernel))
theorem t_mpr_25 : t_mpr t_ms_25 t_mil_25 := ⟨rfl, t_mall_of ⟨tg_250, tg_251, tg_252, tg_253, tg_254, tg_255, tg_256, tg_257, tg_258, tg_259, trivial⟩⟩
theorem tg_260 : t_m1 (⟨"NineTreesModel", "least", "()I"⟩, prog_12_method_73_code, 3, (some .int), 0, 8) 3 0 8 := t_m1_of 1510 rfl tcl_15 tde_7 rfl rfl rfl rfl (fun z => absurd z (by decide +kernel))
theorem tg_261 : t_m1 (⟨"NineTreesModel", "metMany", "()I"⟩, prog_12_method_74_code, 3, (some .int), 0, 8) 3 0 8 := t_m1_of 1526 rfl tcl_15 tde_7 rfl rfl rfl rfl (fun z => absurd z (by decide +kernel))
theorem tg_262 : t_m1 (⟨"NineTreesModel", "findBest", "(Z)V"⟩, prog_12_method_75_code, 6, none, 1, 8) 6 1 8 := t_m1_of 1522 rfl tcl_15 tde_45 rfl rfl rfl rfl (fun _ => rfl)
theorem tg_263 : t_m1 (⟨"NineTreesModel", "bestBy", "(ZI)I"⟩, prog_12_method_76_code, 3, (some .int), 2, 8) 3 2 8 := t_m1_of 1518 rfl tcl_15 tde_46 rfl rfl rfl rfl (fun z => absurd z (by decide +kernel))
theorem tg_264 : t_m1 (⟨"NineTreesModel", "best", "(I)I"⟩, prog_12_method_77_code, 2, (some .int), 1, 8) 2 1 8 := t_m1_of 1514 rfl tcl_15 tde_5 rfl rfl rfl rfl (fun z => absurd z (by decide +kernel))
theorem tg_265 : t_m1 (⟨"NineTreesModel", "bestFor", "(I)I"⟩, prog_12_method_78_code, 2, (some .int), 1, 8) 2 1 8 := t_m1_of 1530 rfl tcl_15 tde_5 rfl rfl rfl rfl (fun z => absurd z (by decide +kernel))
theorem tg_266 : t_m1 (⟨"NineTreesModel", "moved", "(II)I"⟩, prog_12_method_79_code, 6, (some .int), 2, 8) 6 2 8 := t_m1_of 1534 rfl tcl_15 tde_6 rfl rfl rfl rfl (fun z => absurd z (by decide +kernel))
theorem tg_267 : t_m1 (⟨"NineTreesModel", "improve", "()I"⟩, prog_12_method_80_code, 2, (some .int), 0, 8) 2 0 8 := t_m1_of 1538 rfl tcl_15 tde_7 rfl rfl rfl rfl (fun z => absurd z (by decide +kernel))
theorem tg_268 : t_m1 (⟨"NineTreesModel", "mayStand", "(I)Z"⟩, prog_12_method_81_code, 4, (some .boolean), 1, 8) 4 1 8 := t_m1_of 1546 rfl tcl_15 tde_14 rfl rfl rfl rfl (fun z => absurd z (by decide +kernel))
theorem tg_269 : t_m1 (⟨"NineTreesModel", "may", "()J"⟩, prog_12_method_82_code, 4, (some .long), 0, 8) 4 0 8 := t_m1_of 1542 rfl tcl_15 tde_10 rfl rfl rfl rfl (fun z => absurd z (by decide +kernel))
theorem t_mpr_26 : t_mpr t_ms_26 t_mil_26 := ⟨rfl, t_mall_of ⟨tg_260, tg_261, tg_262, tg_263, tg_264, tg_265, tg_266, tg_267, tg_268, tg_269, trivial⟩⟩
theorem tg_270 : t_m1 (⟨"NineTreesModel", "most", "(I)I"⟩, prog_12_method_83_code, 2, (some .int), 1, 8) 2 1 8 := t_m1_of 1550 rfl tcl_15 tde_5 rfl rfl rfl rfl (fun z => absurd z (by decide +kernel))
theorem tg_271 : t_m1 (⟨"NineTreesModel", "pointed", "(I)I"⟩, prog_12_method_84_code, 6, (some .int), 1, 8) 6 1 8 := t_m1_of 1554 rfl tcl_15 tde_5 rfl rfl rfl rfl (fun z => absurd z (by decide +kernel))
theorem tg_272 : t_m1 (⟨"NineTreesModel", "between", "(II)I"⟩, prog_12_method_85_code, 6, (some .int), 2, 8) 6 2 8 := t_m1_of 1287 rfl tcl_15 tde_6 rfl rfl rfl rfl (fun z => absurd z (by decide +kernel))
theorem tg_273 : t_m1 (⟨"NineTreesModel", "viewFrom", "(I)I"⟩, prog_12_method_86_code, 4, (some .int), 1, 8) 4 1 8 := t_m1_of 1562 rfl tcl_15 tde_5 rfl rfl rfl rfl (fun z => absurd z (by decide +kernel))
theorem tg_274 : t_m1 (⟨"NineTreesModel", "view", "(I)I"⟩, prog_12_method_87_code, 2, (some .int), 1, 8) 2 1 8 := t_m1_of 1558 rfl tcl_15 tde_5 rfl rfl rfl rfl (fun z => absurd z (by decide +kernel))
theorem tg_275 : t_m1 (⟨"NineTreesModel", "overlooks", "()J"⟩, prog_12_method_88_code, 4, (some .long), 0, 8) 4 0 8 := t_m1_of 1566 rfl tcl_15 tde_10 rfl rfl rfl rfl (fun z => absurd z (by decide +kernel))
theorem tg_276 : t_m1 (⟨"NineTreesModel", "behind", "(II)I"⟩, prog_12_method_89_code, 3, (some .int), 2, 8) 3 2 8 := t_m1_of 1570 rfl tcl_15 tde_6 rfl rfl rfl rfl (fun z => absurd z (by decide +kernel))
theorem tg_277 : t_m1 (⟨"NineTreesModel", "pathOf", "(II)I"⟩, prog_12_method_90_code, 5, (some .int), 2, 8) 5 2 8 := t_m1_of 1578 rfl tcl_15 tde_6 rfl rfl rfl rfl (fun z => absurd z (by decide +kernel))
theorem tg_278 : t_m1 (⟨"NineTreesModel", "paths", "(I)I"⟩, prog_12_method_91_code, 7, (some .int), 1, 8) 7 1 8 := t_m1_of 1574 rfl tcl_15 tde_5 rfl rfl rfl rfl (fun z => absurd z (by decide +kernel))
theorem tg_279 : t_m1 (⟨"NineTreesModel", "wishOf", "(I)I"⟩, prog_12_method_92_code, 2, (some .int), 1, 8) 2 1 8 := t_m1_of 1582 rfl tcl_15 tde_5 rfl rfl rfl rfl (fun z => absurd z (by decide +kernel))
theorem t_mpr_27 : t_mpr t_ms_27 t_mil_27 := ⟨rfl, t_mall_of ⟨tg_270, tg_271, tg_272, tg_273, tg_274, tg_275, tg_276, tg_277, tg_278, tg_279, trivial⟩⟩
theorem tg_280 : t_m1 (⟨"NineTreesModel", "met", "(I)I"⟩, prog_12_method_93_code, 2, (some .int), 1, 8) 2 1 8 := t_m1_of 1586 rfl tcl_15 tde_5 rfl rfl rfl rfl (fun z => absurd z (by decide +kernel))
theorem tg_281 : t_m1 (⟨"NineTreesModel", "turned", "(I)I"⟩, prog_12_method_94_code, 2, (some .int), 1, 8) 2 1 8 := t_m1_of 1599 rfl tcl_15 tde_5 rfl rfl rfl rfl (fun z => absurd z (by decide +kernel))
theorem tg_282 : t_m1 (⟨"NineTreesModel", "mirrored", "(I)I"⟩, prog_12_method_95_code, 2, (some .int), 1, 8) 2 1 8 := t_m1_of 1595 rfl tcl_15 tde_5 rfl rfl rfl rfl (fun z => absurd z (by decide +kernel))
theorem tg_283 : t_m1 (⟨"NineTreesModel", "alike", "()I"⟩, prog_12_method_96_code, 7, (some .int), 0, 8) 7 0 8 := t_m1_of 1591 rfl tcl_15 tde_7 rfl rfl rfl rfl (fun z => absurd z (by decide +kernel))
theorem tg_284 : t_m1 (⟨"NineTreesModel", "middle", "()I"⟩, prog_12_method_97_code, 6, (some .int), 0, 8) 6 0 8 := t_m1_of 1603 rfl tcl_15 tde_7 rfl rfl rfl rfl (fun z => absurd z (by decide +kernel))
theorem tg_285 : t_m1 (⟨"NineTreesModel", "nearest", "()I"⟩, prog_12_method_98_code, 4, (some .int), 0, 8) 4 0 8 := t_m1_of 1607 rfl tcl_15 tde_7 rfl rfl rfl rfl (fun z => absurd z (by decide +kernel))
theorem tg_286 : t_m1 (⟨"NineTreesModel", "largest", "()I"⟩, prog_12_method_99_code, 6, (some .int), 0, 8) 6 0 8 := t_m1_of 1611 rfl tcl_15 tde_7 rfl rfl rfl rfl (fun z => absurd z (by decide +kernel))
theorem tg_287 : t_m1 (⟨"NineTreesModel", "at", "(II)I"⟩, prog_12_method_100_code, 3, (some .int), 2, 8) 3 2 8 := t_m1_of 1619 rfl tcl_15 tde_6 rfl rfl rfl rfl (fun z => absurd z (by decide +kernel))
theorem tg_288 : t_m1 (⟨"NineTreesModel", "squares", "()I"⟩, prog_12_method_101_code, 7, (some .int), 0, 8) 7 0 8 := t_m1_of 1615 rfl tcl_15 tde_7 rfl rfl rfl rfl (fun z => absurd z (by decide +kernel))
theorem tg_289 : t_m1 (⟨"NineTreesModel", "isIn", "(IIII)Z"⟩, prog_12_method_102_code, 9, (some .boolean), 4, 8) 9 4 8 := t_m1_of 1631 rfl tcl_15 tde_47 rfl rfl rfl rfl (fun z => absurd z (by decide +kernel))
theorem t_mpr_28 : t_mpr t_ms_28 t_mil_28 := ⟨rfl, t_mall_of ⟨tg_280, tg_281, tg_282, tg_283, tg_284, tg_285, tg_286, tg_287, tg_288, tg_289, trivial⟩⟩
theorem tg_290 : t_m1 (⟨"NineTreesModel", "isCorner", "(I)Z"⟩, prog_12_method_103_code, 8, (some .boolean), 1, 8) 8 1 8 := t_m1_of 1627 rfl tcl_15 tde_14 rfl rfl rfl rfl (fun z => absurd z (by decide +kernel))
theorem tg_291 : t_m1 (⟨"NineTreesModel", "corners", "()I"⟩, prog_12_method_104_code, 3, (some .int), 0, 8) 3 0 8 := t_m1_of 1623 rfl tcl_15 tde_7 rfl rfl rfl rfl (fun z => absurd z (by decide +kernel))
theorem tg_292 : t_m1 (⟨"NineTreesModel", "firmMany", "()I"⟩, prog_12_method_105_code, 3, (some .int), 0, 8) 3 0 8 := t_m1_of 1639 rfl tcl_15 tde_7 rfl rfl rfl rfl (fun z => absurd z (by decide +kernel))
theorem tg_293 : t_m1 (⟨"NineTreesModel", "turn", "()I"⟩, prog_12_method_106_code, 2, (some .int), 0, 8) 2 0 8 := t_m1_of 1635 rfl tcl_15 tde_7 rfl rfl rfl rfl (fun z => absurd z (by decide +kernel))
theorem tg_294 : t_m1 (⟨"NineTreesModel", "mirror", "()I"⟩, prog_12_method_107_code, 2, (some .int), 0, 8) 2 0 8 := t_m1_of 1643 rfl tcl_15 tde_7 rfl rfl rfl rfl (fun z => absurd z (by decide +kernel))
theorem tg_295 : t_m1 (⟨"NineTreesModel", "below", "(I)I"⟩, prog_12_method_108_code, 2, (some .int), 1, 8) 2 1 8 := t_m1_of 1651 rfl tcl_15 tde_5 rfl rfl rfl rfl (fun z => absurd z (by decide +kernel))
theorem tg_296 : t_m1 (⟨"NineTreesModel", "plant", "(I)I"⟩, prog_12_method_109_code, 5, (some .int), 1, 8) 5 1 8 := t_m1_of 1647 rfl tcl_15 tde_5 rfl rfl rfl rfl (fun z => absurd z (by decide +kernel))
theorem tg_297 : t_m1 (⟨"NineTreesModel", "seed", "(I)I"⟩, prog_12_method_110_code, 3, (some .int), 1, 8) 3 1 8 := t_m1_of 1656 rfl tcl_15 tde_5 rfl rfl rfl rfl (fun z => absurd z (by decide +kernel))
theorem tg_298 : t_m1 (⟨"NineTreesModel", "fresh", "()LNineTreesModel;"⟩, prog_12_method_111_code, 1, (some (.object "NineTreesModel")), 0, 8) 1 0 8 := t_m1_of 1375 rfl tcl_15 tde_48 rfl rfl rfl rfl (fun z => absurd z (by decide +kernel))
theorem tg_299 : t_m1 (⟨"NineTreesModel", "copied", "([I[I)V"⟩, prog_12_method_112_code, 3, none, 2, 8) 3 2 8 := t_m1_of 1384 rfl tcl_15 tde_49 rfl rfl rfl rfl (fun _ => rfl)
theorem t_mpr_29 : t_mpr t_ms_29 t_mil_29 := ⟨rfl, t_mall_of ⟨tg_290, tg_291, tg_292, tg_293, tg_294, tg_295, tg_296, tg_297, tg_298, tg_299, trivial⟩⟩
theorem tg_300 : t_m1 (⟨"NineTreesModel", "takeFrom", "(LNineTreesModel;)V"⟩, prog_12_method_113_code, 2, none, 1, 8) 2 1 8 := t_m1_of 1381 rfl tcl_15 tde_50 rfl rfl rfl rfl (fun _ => rfl)
theorem tg_301 : t_m1 (⟨"NineTreesModel", "image", "()I"⟩, prog_12_method_114_code, 1, (some .int), 0, 8) 1 0 8 := t_m1_of 1660 rfl tcl_15 tde_7 rfl rfl rfl rfl (fun z => absurd z (by decide +kernel))
theorem tg_302 : t_m1 (⟨"NineTreesModel", "back", "()I"⟩, prog_12_method_115_code, 1, (some .int), 0, 8) 1 0 8 := t_m1_of 1664 rfl tcl_15 tde_7 rfl rfl rfl rfl (fun z => absurd z (by decide +kernel))
theorem tg_303 : t_m1 (⟨"NineTreesModel", "status", "(I)I"⟩, prog_12_method_116_code, 4, (some .int), 1, 8) 4 1 8 := t_m1_of 1668 rfl tcl_15 tde_5 rfl rfl rfl rfl (fun z => absurd z (by decide +kernel))
theorem t_mpr_30 : t_mpr t_ms_30 t_mil_30 := ⟨rfl, t_mall_of ⟨tg_300, tg_301, tg_302, tg_303, trivial⟩⟩
theorem t_mpr_ok : t_mpr t_ms t_mil := t_mpr_app t_mpr_0 (t_mpr_app t_mpr_1 (t_mpr_app t_mpr_2 (t_mpr_app t_mpr_3 (t_mpr_app t_mpr_4 (t_mpr_app t_mpr_5 (t_mpr_app t_mpr_6 (t_mpr_app t_mpr_7 (t_mpr_app t_mpr_8 (t_mpr_app t_mpr_9 (t_mpr_app t_mpr_10 (t_mpr_app t_mpr_11 (t_mpr_app t_mpr_12 (t_mpr_app t_mpr_13 (t_mpr_app t_mpr_14 (t_mpr_app t_mpr_15 (t_mpr_app t_mpr_16 (t_mpr_app t_mpr_17 (t_mpr_app t_mpr_18 (t_mpr_app t_mpr_19 (t_mpr_app t_mpr_20 (t_mpr_app t_mpr_21 (t_mpr_app t_mpr_22 (t_mpr_app t_mpr_23 (t_mpr_app t_mpr_24 (t_mpr_app t_mpr_25 (t_mpr_app t_mpr_26 (t_mpr_app t_mpr_27 (t_mpr_app t_mpr_28 (t_mpr_app t_mpr_29 (t_mpr_30))))))))))))))))))))))))))))))
theorem t_HM0 : t_HM t_ms t_mi := by
  intro j L na rc h
  unfold t_mi at h
  cases hj : t_mil[j]? with
  | none => rw [hj] at h; cases h
  | some x =>
    rw [hj] at h
    have hx : x = some (L, na, rc) := h
    rw [hx] at hj
    exact t_mpr_ok.2 j L na rc hj
