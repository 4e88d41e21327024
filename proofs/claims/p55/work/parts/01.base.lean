section
-- ===== PART A: goes FIRST, ahead of the names: the tables' words, and 'selects' of the private methods out of them =====
/-- a private method of a class that the tables say can be made, by its rows of tables_1 -/
def lw_okq (q : MethodName × Nat) : Prop := (q.1.cls ≠ "java/lang/invoke/MethodHandle" ∧ q.1.cls ≠ "java/lang/invoke/VarHandle") ∧ Cond.instantiable q.1.cls q.2 ∈ tables_1 ∧ Cond.privateMethod q.1 ∈ tables_1 ∧ Cond.instanceMethod q.1 ∈ tables_1
def tb_at (i : Nat) : Option Jvm.Cond := if Nat.blt i 240 = true then tables_1_1[i - 0]? else if Nat.blt i 480 = true then tables_1_2[i - 240]? else if Nat.blt i 720 = true then tables_1_3[i - 480]? else if Nat.blt i 960 = true then tables_1_4[i - 720]? else if Nat.blt i 1200 = true then tables_1_5[i - 960]? else if Nat.blt i 1440 = true then tables_1_6[i - 1200]? else if Nat.blt i 1596 = true then tables_1_7[i - 1440]? else none
theorem tb_in (i : Nat) {w : Jvm.Cond} (h : tb_at i = some w) : w ∈ tables_1 := by
  unfold tb_at at h
  by_cases c0 : Nat.blt i 240 = true
  · rw [if_pos c0] at h
    exact List.mem_append_left _ (List.mem_of_getElem? h)
  rw [if_neg c0] at h
  by_cases c1 : Nat.blt i 480 = true
  · rw [if_pos c1] at h
    exact List.mem_append_right _ (List.mem_append_left _ (List.mem_of_getElem? h))
  rw [if_neg c1] at h
  by_cases c2 : Nat.blt i 720 = true
  · rw [if_pos c2] at h
    exact List.mem_append_right _ (List.mem_append_right _ (List.mem_append_left _ (List.mem_of_getElem? h)))
  rw [if_neg c2] at h
  by_cases c3 : Nat.blt i 960 = true
  · rw [if_pos c3] at h
    exact List.mem_append_right _ (List.mem_append_right _ (List.mem_append_right _ (List.mem_append_left _ (List.mem_of_getElem? h))))
  rw [if_neg c3] at h
  by_cases c4 : Nat.blt i 1200 = true
  · rw [if_pos c4] at h
    exact List.mem_append_right _ (List.mem_append_right _ (List.mem_append_right _ (List.mem_append_right _ (List.mem_append_left _ (List.mem_of_getElem? h)))))
  rw [if_neg c4] at h
  by_cases c5 : Nat.blt i 1440 = true
  · rw [if_pos c5] at h
    exact List.mem_append_right _ (List.mem_append_right _ (List.mem_append_right _ (List.mem_append_right _ (List.mem_append_right _ (List.mem_append_left _ (List.mem_of_getElem? h))))))
  rw [if_neg c5] at h
  by_cases c6 : Nat.blt i 1596 = true
  · rw [if_pos c6] at h
    exact List.mem_append_right _ (List.mem_append_right _ (List.mem_append_right _ (List.mem_append_right _ (List.mem_append_right _ (List.mem_append_right _ (List.mem_of_getElem? h))))))
  rw [if_neg c6] at h
  cases h
theorem lw_p0 : lw_okq (⟨"NineTrees", "shelfOf", "(I)LNineTrees$Shelf;"⟩, 11) := ⟨⟨by decide +kernel, by decide +kernel⟩, tb_in 20 rfl, tb_in 258 rfl, tb_in 259 rfl⟩
theorem lw_p1 : lw_okq (⟨"NineTrees", "refuse", "(I)I"⟩, 11) := ⟨⟨by decide +kernel, by decide +kernel⟩, tb_in 20 rfl, tb_in 262 rfl, tb_in 263 rfl⟩
theorem lw_p2 : lw_okq (⟨"NineTrees", "allRows", "()LNineTrees$RowList;"⟩, 11) := ⟨⟨by decide +kernel, by decide +kernel⟩, tb_in 20 rfl, tb_in 334 rfl, tb_in 335 rfl⟩
theorem lw_p3 : lw_okq (⟨"NineTrees$RowList", "insert", "(I)V"⟩, 2) := ⟨⟨by decide +kernel, by decide +kernel⟩, tb_in 84 rfl, tb_in 369 rfl, tb_in 370 rfl⟩
theorem lw_p4 : lw_okq (⟨"NineTrees", "whyNoMove", "(II)I"⟩, 11) := ⟨⟨by decide +kernel, by decide +kernel⟩, tb_in 20 rfl, tb_in 468 rfl, tb_in 469 rfl⟩
theorem lw_p5 : lw_okq (⟨"NineTrees", "clearShelvesFrom", "(I)V"⟩, 11) := ⟨⟨by decide +kernel, by decide +kernel⟩, tb_in 20 rfl, tb_in 489 rfl, tb_in 490 rfl⟩
theorem lw_p6 : lw_okq (⟨"NineTrees$Tape", "advance", "()V"⟩, 7) := ⟨⟨by decide +kernel, by decide +kernel⟩, tb_in 164 rfl, tb_in 514 rfl, tb_in 515 rfl⟩
theorem lw_p7 : lw_okq (⟨"NineTrees$Tape", "typeAt", "(I)I"⟩, 7) := ⟨⟨by decide +kernel, by decide +kernel⟩, tb_in 164 rfl, tb_in 518 rfl, tb_in 519 rfl⟩
theorem lw_p8 : lw_okq (⟨"NineTrees$Tape", "valueOfDigits", "()I"⟩, 7) := ⟨⟨by decide +kernel, by decide +kernel⟩, tb_in 164 rfl, tb_in 522 rfl, tb_in 523 rfl⟩
theorem lw_p9 : lw_okq (⟨"NineTrees$Tape", "readStatement", "(LNineTrees$Garden;)Z"⟩, 7) := ⟨⟨by decide +kernel, by decide +kernel⟩, tb_in 164 rfl, tb_in 526 rfl, tb_in 527 rfl⟩
theorem lw_p10 : lw_okq (⟨"NineTrees$Tape", "isWord", "(Ljava/lang/String;)Z"⟩, 7) := ⟨⟨by decide +kernel, by decide +kernel⟩, tb_in 164 rfl, tb_in 531 rfl, tb_in 532 rfl⟩
theorem lw_p11 : lw_okq (⟨"NineTrees$Tape", "readSide", "(LNineTrees$Garden;)Z"⟩, 7) := ⟨⟨by decide +kernel, by decide +kernel⟩, tb_in 164 rfl, tb_in 583 rfl, tb_in 584 rfl⟩
theorem lw_p12 : lw_okq (⟨"NineTrees$Tape", "advanceToNumber", "(II)Z"⟩, 7) := ⟨⟨by decide +kernel, by decide +kernel⟩, tb_in 164 rfl, tb_in 587 rfl, tb_in 588 rfl⟩
theorem lw_p13 : lw_okq (⟨"NineTrees$Tape", "isNumber", "(II)Z"⟩, 7) := ⟨⟨by decide +kernel, by decide +kernel⟩, tb_in 164 rfl, tb_in 591 rfl, tb_in 592 rfl⟩
theorem lw_p14 : lw_okq (⟨"NineTrees$Tape", "readTree", "(LNineTrees$Garden;)Z"⟩, 7) := ⟨⟨by decide +kernel, by decide +kernel⟩, tb_in 164 rfl, tb_in 596 rfl, tb_in 597 rfl⟩
theorem lw_p15 : lw_okq (⟨"NineTrees$Tape", "readWish", "(LNineTrees$Garden;)Z"⟩, 7) := ⟨⟨by decide +kernel, by decide +kernel⟩, tb_in 164 rfl, tb_in 604 rfl, tb_in 605 rfl⟩
def lw_privs_1 : List (MethodName × Nat) := [(⟨"NineTrees", "shelfOf", "(I)LNineTrees$Shelf;"⟩, 11), (⟨"NineTrees", "refuse", "(I)I"⟩, 11), (⟨"NineTrees", "allRows", "()LNineTrees$RowList;"⟩, 11), (⟨"NineTrees$RowList", "insert", "(I)V"⟩, 2), (⟨"NineTrees", "whyNoMove", "(II)I"⟩, 11), (⟨"NineTrees", "clearShelvesFrom", "(I)V"⟩, 11), (⟨"NineTrees$Tape", "advance", "()V"⟩, 7), (⟨"NineTrees$Tape", "typeAt", "(I)I"⟩, 7), (⟨"NineTrees$Tape", "valueOfDigits", "()I"⟩, 7), (⟨"NineTrees$Tape", "readStatement", "(LNineTrees$Garden;)Z"⟩, 7), (⟨"NineTrees$Tape", "isWord", "(Ljava/lang/String;)Z"⟩, 7), (⟨"NineTrees$Tape", "readSide", "(LNineTrees$Garden;)Z"⟩, 7), (⟨"NineTrees$Tape", "advanceToNumber", "(II)Z"⟩, 7), (⟨"NineTrees$Tape", "isNumber", "(II)Z"⟩, 7), (⟨"NineTrees$Tape", "readTree", "(LNineTrees$Garden;)Z"⟩, 7), (⟨"NineTrees$Tape", "readWish", "(LNineTrees$Garden;)Z"⟩, 7)]
theorem lw_r1 : ∀ q ∈ lw_privs_1, lw_okq q := List.forall_mem_cons.mpr ⟨lw_p0, List.forall_mem_cons.mpr ⟨lw_p1, List.forall_mem_cons.mpr ⟨lw_p2, List.forall_mem_cons.mpr ⟨lw_p3, List.forall_mem_cons.mpr ⟨lw_p4, List.forall_mem_cons.mpr ⟨lw_p5, List.forall_mem_cons.mpr ⟨lw_p6, List.forall_mem_cons.mpr ⟨lw_p7, List.forall_mem_cons.mpr ⟨lw_p8, List.forall_mem_cons.mpr ⟨lw_p9, List.forall_mem_cons.mpr ⟨lw_p10, List.forall_mem_cons.mpr ⟨lw_p11, List.forall_mem_cons.mpr ⟨lw_p12, List.forall_mem_cons.mpr ⟨lw_p13, List.forall_mem_cons.mpr ⟨lw_p14, List.forall_mem_cons.mpr ⟨lw_p15, fun _ h => absurd h List.not_mem_nil⟩⟩⟩⟩⟩⟩⟩⟩⟩⟩⟩⟩⟩⟩⟩⟩
theorem lw_p16 : lw_okq (⟨"NineTrees$Tape", "readMove", "(LNineTrees$Garden;)Z"⟩, 7) := ⟨⟨by decide +kernel, by decide +kernel⟩, tb_in 164 rfl, tb_in 610 rfl, tb_in 611 rfl⟩
theorem lw_p17 : lw_okq (⟨"NineTrees$Tape", "readFell", "(LNineTrees$Garden;)Z"⟩, 7) := ⟨⟨by decide +kernel, by decide +kernel⟩, tb_in 164 rfl, tb_in 616 rfl, tb_in 617 rfl⟩
theorem lw_p18 : lw_okq (⟨"NineTrees", "firstMisfit", "(LNineTrees$Shelf;I)I"⟩, 11) := ⟨⟨by decide +kernel, by decide +kernel⟩, tb_in 20 rfl, tb_in 701 rfl, tb_in 702 rfl⟩
theorem lw_p19 : lw_okq (⟨"NineTrees", "isInLineWithFirst", "(LNineTrees$Shelf;I)Z"⟩, 11) := ⟨⟨by decide +kernel, by decide +kernel⟩, tb_in 20 rfl, tb_in 705 rfl, tb_in 706 rfl⟩
theorem lw_p20 : lw_okq (⟨"NineTrees$Gap", "offer", "(LNineTrees$Garden;II)V"⟩, 4) := ⟨⟨by decide +kernel, by decide +kernel⟩, tb_in 143 rfl, tb_in 719 rfl, tb_in 720 rfl⟩
theorem lw_p21 : lw_okq (⟨"NineTrees$Moves", "forget", "()V"⟩, 5) := ⟨⟨by decide +kernel, by decide +kernel⟩, tb_in 116 rfl, tb_in 752 rfl, tb_in 753 rfl⟩
theorem lw_p22 : lw_okq (⟨"NineTrees$Moves", "weighThrees", "(LNineTrees$Garden;LNineTrees$RowList;I)V"⟩, 5) := ⟨⟨by decide +kernel, by decide +kernel⟩, tb_in 116 rfl, tb_in 757 rfl, tb_in 758 rfl⟩
theorem lw_p23 : lw_okq (⟨"NineTrees$Moves", "offerCells", "(LNineTrees$Garden;I)V"⟩, 5) := ⟨⟨by decide +kernel, by decide +kernel⟩, tb_in 116 rfl, tb_in 780 rfl, tb_in 781 rfl⟩
theorem lw_p24 : lw_okq (⟨"NineTrees$Moves", "weighWishes", "(LNineTrees$Garden;I)V"⟩, 5) := ⟨⟨by decide +kernel, by decide +kernel⟩, tb_in 116 rfl, tb_in 871 rfl, tb_in 872 rfl⟩
theorem lw_p25 : lw_okq (⟨"NineTrees", "fullShelves", "()I"⟩, 11) := ⟨⟨by decide +kernel, by decide +kernel⟩, tb_in 20 rfl, tb_in 1015 rfl, tb_in 1016 rfl⟩
theorem lw_p26 : lw_okq (⟨"NineTreesModel", "refuse", "(I)I"⟩, 31) := ⟨⟨by decide +kernel, by decide +kernel⟩, tb_in 1019 rfl, tb_in 1131 rfl, tb_in 1132 rfl⟩
theorem lw_p27 : lw_okq (⟨"NineTreesModel", "noRow", "(I)I"⟩, 31) := ⟨⟨by decide +kernel, by decide +kernel⟩, tb_in 1019 rfl, tb_in 1139 rfl, tb_in 1140 rfl⟩
theorem lw_p28 : lw_okq (⟨"NineTreesModel", "isTree", "(I)Z"⟩, 31) := ⟨⟨by decide +kernel, by decide +kernel⟩, tb_in 1019 rfl, tb_in 1162 rfl, tb_in 1163 rfl⟩
theorem lw_p29 : lw_okq (⟨"NineTreesModel", "rowsWith", "(II)I"⟩, 31) := ⟨⟨by decide +kernel, by decide +kernel⟩, tb_in 1019 rfl, tb_in 1174 rfl, tb_in 1175 rfl⟩
theorem lw_p30 : lw_okq (⟨"NineTreesModel", "findRows", "()V"⟩, 31) := ⟨⟨by decide +kernel, by decide +kernel⟩, tb_in 1019 rfl, tb_in 1178 rfl, tb_in 1179 rfl⟩
theorem lw_p31 : lw_okq (⟨"NineTreesModel", "rowThrough", "(II)I"⟩, 31) := ⟨⟨by decide +kernel, by decide +kernel⟩, tb_in 1019 rfl, tb_in 1182 rfl, tb_in 1183 rfl⟩
def lw_privs_2 : List (MethodName × Nat) := [(⟨"NineTrees$Tape", "readMove", "(LNineTrees$Garden;)Z"⟩, 7), (⟨"NineTrees$Tape", "readFell", "(LNineTrees$Garden;)Z"⟩, 7), (⟨"NineTrees", "firstMisfit", "(LNineTrees$Shelf;I)I"⟩, 11), (⟨"NineTrees", "isInLineWithFirst", "(LNineTrees$Shelf;I)Z"⟩, 11), (⟨"NineTrees$Gap", "offer", "(LNineTrees$Garden;II)V"⟩, 4), (⟨"NineTrees$Moves", "forget", "()V"⟩, 5), (⟨"NineTrees$Moves", "weighThrees", "(LNineTrees$Garden;LNineTrees$RowList;I)V"⟩, 5), (⟨"NineTrees$Moves", "offerCells", "(LNineTrees$Garden;I)V"⟩, 5), (⟨"NineTrees$Moves", "weighWishes", "(LNineTrees$Garden;I)V"⟩, 5), (⟨"NineTrees", "fullShelves", "()I"⟩, 11), (⟨"NineTreesModel", "refuse", "(I)I"⟩, 31), (⟨"NineTreesModel", "noRow", "(I)I"⟩, 31), (⟨"NineTreesModel", "isTree", "(I)Z"⟩, 31), (⟨"NineTreesModel", "rowsWith", "(II)I"⟩, 31), (⟨"NineTreesModel", "findRows", "()V"⟩, 31), (⟨"NineTreesModel", "rowThrough", "(II)I"⟩, 31)]
theorem lw_r2 : ∀ q ∈ lw_privs_2, lw_okq q := List.forall_mem_cons.mpr ⟨lw_p16, List.forall_mem_cons.mpr ⟨lw_p17, List.forall_mem_cons.mpr ⟨lw_p18, List.forall_mem_cons.mpr ⟨lw_p19, List.forall_mem_cons.mpr ⟨lw_p20, List.forall_mem_cons.mpr ⟨lw_p21, List.forall_mem_cons.mpr ⟨lw_p22, List.forall_mem_cons.mpr ⟨lw_p23, List.forall_mem_cons.mpr ⟨lw_p24, List.forall_mem_cons.mpr ⟨lw_p25, List.forall_mem_cons.mpr ⟨lw_p26, List.forall_mem_cons.mpr ⟨lw_p27, List.forall_mem_cons.mpr ⟨lw_p28, List.forall_mem_cons.mpr ⟨lw_p29, List.forall_mem_cons.mpr ⟨lw_p30, List.forall_mem_cons.mpr ⟨lw_p31, fun _ h => absurd h List.not_mem_nil⟩⟩⟩⟩⟩⟩⟩⟩⟩⟩⟩⟩⟩⟩⟩⟩
theorem lw_p32 : lw_okq (⟨"NineTreesModel", "areInLine", "(III)Z"⟩, 31) := ⟨⟨by decide +kernel, by decide +kernel⟩, tb_in 1019 rfl, tb_in 1186 rfl, tb_in 1187 rfl⟩
theorem lw_p33 : lw_okq (⟨"NineTreesModel", "area", "(III)I"⟩, 31) := ⟨⟨by decide +kernel, by decide +kernel⟩, tb_in 1019 rfl, tb_in 1190 rfl, tb_in 1191 rfl⟩
theorem lw_p34 : lw_okq (⟨"NineTreesModel", "putRow", "(I)V"⟩, 31) := ⟨⟨by decide +kernel, by decide +kernel⟩, tb_in 1019 rfl, tb_in 1194 rfl, tb_in 1195 rfl⟩
theorem lw_p35 : lw_okq (⟨"NineTreesModel", "wishesWith", "(I)I"⟩, 31) := ⟨⟨by decide +kernel, by decide +kernel⟩, tb_in 1019 rfl, tb_in 1204 rfl, tb_in 1205 rfl⟩
theorem lw_p36 : lw_okq (⟨"NineTreesModel", "between", "(II)I"⟩, 31) := ⟨⟨by decide +kernel, by decide +kernel⟩, tb_in 1019 rfl, tb_in 1208 rfl, tb_in 1209 rfl⟩
theorem lw_p37 : lw_okq (⟨"NineTreesModel", "isLow", "(I)Z"⟩, 31) := ⟨⟨by decide +kernel, by decide +kernel⟩, tb_in 1019 rfl, tb_in 1212 rfl, tb_in 1213 rfl⟩
theorem lw_p38 : lw_okq (⟨"NineTreesModel", "square", "(II)I"⟩, 31) := ⟨⟨by decide +kernel, by decide +kernel⟩, tb_in 1019 rfl, tb_in 1216 rfl, tb_in 1217 rfl⟩
theorem lw_p39 : lw_okq (⟨"NineTreesModel", "apart", "(II)I"⟩, 31) := ⟨⟨by decide +kernel, by decide +kernel⟩, tb_in 1019 rfl, tb_in 1220 rfl, tb_in 1221 rfl⟩
theorem lw_p40 : lw_okq (⟨"NineTreesModel", "isCell", "(I)Z"⟩, 31) := ⟨⟨by decide +kernel, by decide +kernel⟩, tb_in 1019 rfl, tb_in 1234 rfl, tb_in 1235 rfl⟩
theorem lw_p41 : lw_okq (⟨"NineTreesModel", "cells", "()I"⟩, 31) := ⟨⟨by decide +kernel, by decide +kernel⟩, tb_in 1019 rfl, tb_in 1238 rfl, tb_in 1239 rfl⟩
theorem lw_p42 : lw_okq (⟨"NineTreesModel", "inCell", "(I)I"⟩, 31) := ⟨⟨by decide +kernel, by decide +kernel⟩, tb_in 1019 rfl, tb_in 1243 rfl, tb_in 1244 rfl⟩
theorem lw_p43 : lw_okq (⟨"NineTreesModel", "addTree", "(III)V"⟩, 31) := ⟨⟨by decide +kernel, by decide +kernel⟩, tb_in 1019 rfl, tb_in 1247 rfl, tb_in 1248 rfl⟩
theorem lw_p44 : lw_okq (⟨"NineTreesModel", "noMove", "(II)I"⟩, 31) := ⟨⟨by decide +kernel, by decide +kernel⟩, tb_in 1019 rfl, tb_in 1263 rfl, tb_in 1264 rfl⟩
theorem lw_p45 : lw_okq (⟨"NineTreesModel", "isFirm", "(I)Z"⟩, 31) := ⟨⟨by decide +kernel, by decide +kernel⟩, tb_in 1019 rfl, tb_in 1267 rfl, tb_in 1268 rfl⟩
theorem lw_p46 : lw_okq (⟨"NineTreesModel", "canFell", "()Z"⟩, 31) := ⟨⟨by decide +kernel, by decide +kernel⟩, tb_in 1019 rfl, tb_in 1275 rfl, tb_in 1276 rfl⟩
theorem lw_p47 : lw_okq (⟨"NineTreesModel", "shelvesFollow", "()V"⟩, 31) := ⟨⟨by decide +kernel, by decide +kernel⟩, tb_in 1019 rfl, tb_in 1279 rfl, tb_in 1280 rfl⟩
def lw_privs_3 : List (MethodName × Nat) := [(⟨"NineTreesModel", "areInLine", "(III)Z"⟩, 31), (⟨"NineTreesModel", "area", "(III)I"⟩, 31), (⟨"NineTreesModel", "putRow", "(I)V"⟩, 31), (⟨"NineTreesModel", "wishesWith", "(I)I"⟩, 31), (⟨"NineTreesModel", "between", "(II)I"⟩, 31), (⟨"NineTreesModel", "isLow", "(I)Z"⟩, 31), (⟨"NineTreesModel", "square", "(II)I"⟩, 31), (⟨"NineTreesModel", "apart", "(II)I"⟩, 31), (⟨"NineTreesModel", "isCell", "(I)Z"⟩, 31), (⟨"NineTreesModel", "cells", "()I"⟩, 31), (⟨"NineTreesModel", "inCell", "(I)I"⟩, 31), (⟨"NineTreesModel", "addTree", "(III)V"⟩, 31), (⟨"NineTreesModel", "noMove", "(II)I"⟩, 31), (⟨"NineTreesModel", "isFirm", "(I)Z"⟩, 31), (⟨"NineTreesModel", "canFell", "()Z"⟩, 31), (⟨"NineTreesModel", "shelvesFollow", "()V"⟩, 31)]
theorem lw_r3 : ∀ q ∈ lw_privs_3, lw_okq q := List.forall_mem_cons.mpr ⟨lw_p32, List.forall_mem_cons.mpr ⟨lw_p33, List.forall_mem_cons.mpr ⟨lw_p34, List.forall_mem_cons.mpr ⟨lw_p35, List.forall_mem_cons.mpr ⟨lw_p36, List.forall_mem_cons.mpr ⟨lw_p37, List.forall_mem_cons.mpr ⟨lw_p38, List.forall_mem_cons.mpr ⟨lw_p39, List.forall_mem_cons.mpr ⟨lw_p40, List.forall_mem_cons.mpr ⟨lw_p41, List.forall_mem_cons.mpr ⟨lw_p42, List.forall_mem_cons.mpr ⟨lw_p43, List.forall_mem_cons.mpr ⟨lw_p44, List.forall_mem_cons.mpr ⟨lw_p45, List.forall_mem_cons.mpr ⟨lw_p46, List.forall_mem_cons.mpr ⟨lw_p47, fun _ h => absurd h List.not_mem_nil⟩⟩⟩⟩⟩⟩⟩⟩⟩⟩⟩⟩⟩⟩⟩⟩
theorem lw_p48 : lw_okq (⟨"NineTreesModel", "fresh", "()LNineTreesModel;"⟩, 31) := ⟨⟨by decide +kernel, by decide +kernel⟩, tb_in 1019 rfl, tb_in 1296 rfl, tb_in 1297 rfl⟩
theorem lw_p49 : lw_okq (⟨"NineTreesModel", "takeFrom", "(LNineTreesModel;)V"⟩, 31) := ⟨⟨by decide +kernel, by decide +kernel⟩, tb_in 1019 rfl, tb_in 1302 rfl, tb_in 1303 rfl⟩
theorem lw_p50 : lw_okq (⟨"NineTreesModel", "readAll", "()Z"⟩, 31) := ⟨⟨by decide +kernel, by decide +kernel⟩, tb_in 1019 rfl, tb_in 1309 rfl, tb_in 1310 rfl⟩
theorem lw_p51 : lw_okq (⟨"NineTreesModel", "look", "()V"⟩, 31) := ⟨⟨by decide +kernel, by decide +kernel⟩, tb_in 1019 rfl, tb_in 1313 rfl, tb_in 1314 rfl⟩
theorem lw_p52 : lw_okq (⟨"NineTreesModel", "statement", "()Z"⟩, 31) := ⟨⟨by decide +kernel, by decide +kernel⟩, tb_in 1019 rfl, tb_in 1323 rfl, tb_in 1324 rfl⟩
theorem lw_p53 : lw_okq (⟨"NineTreesModel", "isWord", "(Ljava/lang/String;)Z"⟩, 31) := ⟨⟨by decide +kernel, by decide +kernel⟩, tb_in 1019 rfl, tb_in 1328 rfl, tb_in 1329 rfl⟩
theorem lw_p54 : lw_okq (⟨"NineTreesModel", "tells", "(II)Z"⟩, 31) := ⟨⟨by decide +kernel, by decide +kernel⟩, tb_in 1019 rfl, tb_in 1334 rfl, tb_in 1335 rfl⟩
theorem lw_p55 : lw_okq (⟨"NineTreesModel", "number", "(III)Z"⟩, 31) := ⟨⟨by decide +kernel, by decide +kernel⟩, tb_in 1019 rfl, tb_in 1338 rfl, tb_in 1339 rfl⟩
theorem lw_p56 : lw_okq (⟨"NineTreesModel", "wrong", "()Z"⟩, 31) := ⟨⟨by decide +kernel, by decide +kernel⟩, tb_in 1019 rfl, tb_in 1342 rfl, tb_in 1343 rfl⟩
theorem lw_p57 : lw_okq (⟨"NineTreesModel", "freeCell", "(I)Z"⟩, 31) := ⟨⟨by decide +kernel, by decide +kernel⟩, tb_in 1019 rfl, tb_in 1347 rfl, tb_in 1348 rfl⟩
theorem lw_p58 : lw_okq (⟨"NineTreesModel", "wishTold", "()Z"⟩, 31) := ⟨⟨by decide +kernel, by decide +kernel⟩, tb_in 1019 rfl, tb_in 1352 rfl, tb_in 1353 rfl⟩
theorem lw_p59 : lw_okq (⟨"NineTreesModel", "moveTold", "()Z"⟩, 31) := ⟨⟨by decide +kernel, by decide +kernel⟩, tb_in 1019 rfl, tb_in 1357 rfl, tb_in 1358 rfl⟩
theorem lw_p60 : lw_okq (⟨"NineTreesModel", "threesNow", "()I"⟩, 31) := ⟨⟨by decide +kernel, by decide +kernel⟩, tb_in 1019 rfl, tb_in 1380 rfl, tb_in 1381 rfl⟩
theorem lw_p61 : lw_okq (⟨"NineTreesModel", "standInLine", "(I)Z"⟩, 31) := ⟨⟨by decide +kernel, by decide +kernel⟩, tb_in 1019 rfl, tb_in 1404 rfl, tb_in 1405 rfl⟩
theorem lw_p62 : lw_okq (⟨"NineTreesModel", "missedOf", "(I)I"⟩, 31) := ⟨⟨by decide +kernel, by decide +kernel⟩, tb_in 1019 rfl, tb_in 1423 rfl, tb_in 1424 rfl⟩
theorem lw_p63 : lw_okq (⟨"NineTreesModel", "threesWithout", "(I)I"⟩, 31) := ⟨⟨by decide +kernel, by decide +kernel⟩, tb_in 1019 rfl, tb_in 1427 rfl, tb_in 1428 rfl⟩
def lw_privs_4 : List (MethodName × Nat) := [(⟨"NineTreesModel", "fresh", "()LNineTreesModel;"⟩, 31), (⟨"NineTreesModel", "takeFrom", "(LNineTreesModel;)V"⟩, 31), (⟨"NineTreesModel", "readAll", "()Z"⟩, 31), (⟨"NineTreesModel", "look", "()V"⟩, 31), (⟨"NineTreesModel", "statement", "()Z"⟩, 31), (⟨"NineTreesModel", "isWord", "(Ljava/lang/String;)Z"⟩, 31), (⟨"NineTreesModel", "tells", "(II)Z"⟩, 31), (⟨"NineTreesModel", "number", "(III)Z"⟩, 31), (⟨"NineTreesModel", "wrong", "()Z"⟩, 31), (⟨"NineTreesModel", "freeCell", "(I)Z"⟩, 31), (⟨"NineTreesModel", "wishTold", "()Z"⟩, 31), (⟨"NineTreesModel", "moveTold", "()Z"⟩, 31), (⟨"NineTreesModel", "threesNow", "()I"⟩, 31), (⟨"NineTreesModel", "standInLine", "(I)Z"⟩, 31), (⟨"NineTreesModel", "missedOf", "(I)I"⟩, 31), (⟨"NineTreesModel", "threesWithout", "(I)I"⟩, 31)]
theorem lw_r4 : ∀ q ∈ lw_privs_4, lw_okq q := List.forall_mem_cons.mpr ⟨lw_p48, List.forall_mem_cons.mpr ⟨lw_p49, List.forall_mem_cons.mpr ⟨lw_p50, List.forall_mem_cons.mpr ⟨lw_p51, List.forall_mem_cons.mpr ⟨lw_p52, List.forall_mem_cons.mpr ⟨lw_p53, List.forall_mem_cons.mpr ⟨lw_p54, List.forall_mem_cons.mpr ⟨lw_p55, List.forall_mem_cons.mpr ⟨lw_p56, List.forall_mem_cons.mpr ⟨lw_p57, List.forall_mem_cons.mpr ⟨lw_p58, List.forall_mem_cons.mpr ⟨lw_p59, List.forall_mem_cons.mpr ⟨lw_p60, List.forall_mem_cons.mpr ⟨lw_p61, List.forall_mem_cons.mpr ⟨lw_p62, List.forall_mem_cons.mpr ⟨lw_p63, fun _ h => absurd h List.not_mem_nil⟩⟩⟩⟩⟩⟩⟩⟩⟩⟩⟩⟩⟩⟩⟩⟩
theorem lw_p64 : lw_okq (⟨"NineTreesModel", "bestBy", "(ZI)I"⟩, 31) := ⟨⟨by decide +kernel, by decide +kernel⟩, tb_in 1019 rfl, tb_in 1439 rfl, tb_in 1440 rfl⟩
theorem lw_p65 : lw_okq (⟨"NineTreesModel", "findBest", "(Z)V"⟩, 31) := ⟨⟨by decide +kernel, by decide +kernel⟩, tb_in 1019 rfl, tb_in 1443 rfl, tb_in 1444 rfl⟩
theorem lw_p66 : lw_okq (⟨"NineTreesModel", "metMany", "()I"⟩, 31) := ⟨⟨by decide +kernel, by decide +kernel⟩, tb_in 1019 rfl, tb_in 1447 rfl, tb_in 1448 rfl⟩
theorem lw_p67 : lw_okq (⟨"NineTreesModel", "mayStand", "(I)Z"⟩, 31) := ⟨⟨by decide +kernel, by decide +kernel⟩, tb_in 1019 rfl, tb_in 1467 rfl, tb_in 1468 rfl⟩
theorem lw_p68 : lw_okq (⟨"NineTreesModel", "viewFrom", "(I)I"⟩, 31) := ⟨⟨by decide +kernel, by decide +kernel⟩, tb_in 1019 rfl, tb_in 1483 rfl, tb_in 1484 rfl⟩
theorem lw_p69 : lw_okq (⟨"NineTreesModel", "pathOf", "(II)I"⟩, 31) := ⟨⟨by decide +kernel, by decide +kernel⟩, tb_in 1019 rfl, tb_in 1499 rfl, tb_in 1500 rfl⟩
theorem lw_p70 : lw_okq (⟨"NineTreesModel", "mirrored", "(I)I"⟩, 31) := ⟨⟨by decide +kernel, by decide +kernel⟩, tb_in 1019 rfl, tb_in 1516 rfl, tb_in 1517 rfl⟩
theorem lw_p71 : lw_okq (⟨"NineTreesModel", "turned", "(I)I"⟩, 31) := ⟨⟨by decide +kernel, by decide +kernel⟩, tb_in 1019 rfl, tb_in 1520 rfl, tb_in 1521 rfl⟩
theorem lw_p72 : lw_okq (⟨"NineTreesModel", "at", "(II)I"⟩, 31) := ⟨⟨by decide +kernel, by decide +kernel⟩, tb_in 1019 rfl, tb_in 1540 rfl, tb_in 1541 rfl⟩
theorem lw_p73 : lw_okq (⟨"NineTreesModel", "isCorner", "(I)Z"⟩, 31) := ⟨⟨by decide +kernel, by decide +kernel⟩, tb_in 1019 rfl, tb_in 1548 rfl, tb_in 1549 rfl⟩
theorem lw_p74 : lw_okq (⟨"NineTreesModel", "isIn", "(IIII)Z"⟩, 31) := ⟨⟨by decide +kernel, by decide +kernel⟩, tb_in 1019 rfl, tb_in 1552 rfl, tb_in 1553 rfl⟩
theorem lw_p75 : lw_okq (⟨"NineTreesModel", "firmMany", "()I"⟩, 31) := ⟨⟨by decide +kernel, by decide +kernel⟩, tb_in 1019 rfl, tb_in 1560 rfl, tb_in 1561 rfl⟩
theorem lw_p76 : lw_okq (⟨"NineTreesModel", "below", "(I)I"⟩, 31) := ⟨⟨by decide +kernel, by decide +kernel⟩, tb_in 1019 rfl, tb_in 1572 rfl, tb_in 1573 rfl⟩
def lw_privs_5 : List (MethodName × Nat) := [(⟨"NineTreesModel", "bestBy", "(ZI)I"⟩, 31), (⟨"NineTreesModel", "findBest", "(Z)V"⟩, 31), (⟨"NineTreesModel", "metMany", "()I"⟩, 31), (⟨"NineTreesModel", "mayStand", "(I)Z"⟩, 31), (⟨"NineTreesModel", "viewFrom", "(I)I"⟩, 31), (⟨"NineTreesModel", "pathOf", "(II)I"⟩, 31), (⟨"NineTreesModel", "mirrored", "(I)I"⟩, 31), (⟨"NineTreesModel", "turned", "(I)I"⟩, 31), (⟨"NineTreesModel", "at", "(II)I"⟩, 31), (⟨"NineTreesModel", "isCorner", "(I)Z"⟩, 31), (⟨"NineTreesModel", "isIn", "(IIII)Z"⟩, 31), (⟨"NineTreesModel", "firmMany", "()I"⟩, 31), (⟨"NineTreesModel", "below", "(I)I"⟩, 31)]
theorem lw_r5 : ∀ q ∈ lw_privs_5, lw_okq q := List.forall_mem_cons.mpr ⟨lw_p64, List.forall_mem_cons.mpr ⟨lw_p65, List.forall_mem_cons.mpr ⟨lw_p66, List.forall_mem_cons.mpr ⟨lw_p67, List.forall_mem_cons.mpr ⟨lw_p68, List.forall_mem_cons.mpr ⟨lw_p69, List.forall_mem_cons.mpr ⟨lw_p70, List.forall_mem_cons.mpr ⟨lw_p71, List.forall_mem_cons.mpr ⟨lw_p72, List.forall_mem_cons.mpr ⟨lw_p73, List.forall_mem_cons.mpr ⟨lw_p74, List.forall_mem_cons.mpr ⟨lw_p75, List.forall_mem_cons.mpr ⟨lw_p76, fun _ h => absurd h List.not_mem_nil⟩⟩⟩⟩⟩⟩⟩⟩⟩⟩⟩⟩⟩
def lw_privs : List (MethodName × Nat) := lw_privs_1 ++ (lw_privs_2 ++ (lw_privs_3 ++ (lw_privs_4 ++ (lw_privs_5))))
def lw_tbl : List Cond := k2_sels lw_privs ++ tables_1
theorem lw_privs_ok : ∀ q ∈ lw_privs, lw_okq q := by
  show ∀ q ∈ lw_privs_1 ++ (lw_privs_2 ++ (lw_privs_3 ++ (lw_privs_4 ++ (lw_privs_5)))), lw_okq q
  exact List.forall_mem_append.mpr ⟨lw_r1, List.forall_mem_append.mpr ⟨lw_r2, List.forall_mem_append.mpr ⟨lw_r3, List.forall_mem_append.mpr ⟨lw_r4, lw_r5⟩⟩⟩⟩
end
section
def RX0 : String := "NineTrees$Crossings"
def TX0 : u_T := fun k => match k with
  | _ => ("NineTrees$Crossings", "counts", "[I", true)
def tyX0 : Nat → FieldType := fun k => match k with
  | _ => .array .int
theorem nmX0 : ∀ a, a < 1 → ∀ b, b < 1 → a ≠ b → (TX0 a).2.1 ≠ (TX0 b).2.1 := by decide +kernel
theorem tyX0_ok : ∀ k, k < 1 → parseFieldDescriptor (TX0 k).2.2.1 = some (tyX0 k) := by decide +kernel
def RX1 : String := "NineTrees$Gap"
def TX1 : u_T := fun k => match k with
  | 0 => ("NineTrees$Gap", "row", "I", false)
  | 1 => ("NineTrees$Gap", "tree", "I", false)
  | 2 => ("NineTrees$Gap", "over", "I", false)
  | _ => ("NineTrees$Gap", "under", "I", false)
def tyX1 : Nat → FieldType := fun k => match k with
  | 0 => .int
  | 1 => .int
  | 2 => .int
  | _ => .int
theorem nmX1 : ∀ a, a < 4 → ∀ b, b < 4 → a ≠ b → (TX1 a).2.1 ≠ (TX1 b).2.1 := by decide +kernel
theorem tyX1_ok : ∀ k, k < 4 → parseFieldDescriptor (TX1 k).2.2.1 = some (tyX1 k) := by decide +kernel
def RX2 : String := "NineTrees$Garden"
def TX2 : u_T := fun k => match k with
  | 0 => ("NineTrees$Garden", "kinds", "[I", true)
  | 1 => ("NineTrees$Garden", "cells", "[I", true)
  | 2 => ("NineTrees$Garden", "values", "[I", true)
  | 3 => ("NineTrees$Garden", "wishSets", "[I", true)
  | 4 => ("NineTrees$Garden", "side", "I", false)
  | 5 => ("NineTrees$Garden", "trees", "I", false)
  | 6 => ("NineTrees$Garden", "wishes", "I", false)
  | _ => ("NineTrees$Garden", "seed", "I", false)
def tyX2 : Nat → FieldType := fun k => match k with
  | 0 => .array .int
  | 1 => .array .int
  | 2 => .array .int
  | 3 => .array .int
  | 4 => .int
  | 5 => .int
  | 6 => .int
  | _ => .int
theorem nmX2 : ∀ a, a < 8 → ∀ b, b < 8 → a ≠ b → (TX2 a).2.1 ≠ (TX2 b).2.1 := by decide +kernel
theorem tyX2_ok : ∀ k, k < 8 → parseFieldDescriptor (TX2 k).2.2.1 = some (tyX2 k) := by decide +kernel
def RX3 : String := "NineTrees$Moves"
def TX3 : u_T := fun k => match k with
  | 0 => ("NineTrees$Moves", "added", "LNineTrees$Crossings;", true)
  | 1 => ("NineTrees$Moves", "left", "I", false)
  | 2 => ("NineTrees$Moves", "tree", "I", false)
  | 3 => ("NineTrees$Moves", "cell", "I", false)
  | _ => ("NineTrees$Moves", "reached", "I", false)
def tyX3 : Nat → FieldType := fun k => match k with
  | 0 => .object "NineTrees$Crossings"
  | 1 => .int
  | 2 => .int
  | 3 => .int
  | _ => .int
theorem nmX3 : ∀ a, a < 5 → ∀ b, b < 5 → a ≠ b → (TX3 a).2.1 ≠ (TX3 b).2.1 := by decide +kernel
theorem tyX3_ok : ∀ k, k < 5 → parseFieldDescriptor (TX3 k).2.2.1 = some (tyX3 k) := by decide +kernel
def RX4 : String := "NineTrees$RowList"
def TX4 : u_T := fun k => match k with
  | 0 => ("NineTrees$RowList", "sets", "[I", true)
  | _ => ("NineTrees$RowList", "count", "I", false)
def tyX4 : Nat → FieldType := fun k => match k with
  | 0 => .array .int
  | _ => .int
theorem nmX4 : ∀ a, a < 2 → ∀ b, b < 2 → a ≠ b → (TX4 a).2.1 ≠ (TX4 b).2.1 := by decide +kernel
theorem tyX4_ok : ∀ k, k < 2 → parseFieldDescriptor (TX4 k).2.2.1 = some (tyX4 k) := by decide +kernel
def RX5 : String := "NineTrees$Shapes"
def TX5 : u_T := fun k => match k with
  | _ => ("", "", "", false)
def tyX5 : Nat → FieldType := fun k => match k with
  | _ => .int
theorem nmX5 : ∀ a, a < 0 → ∀ b, b < 0 → a ≠ b → (TX5 a).2.1 ≠ (TX5 b).2.1 := by decide +kernel
theorem tyX5_ok : ∀ k, k < 0 → parseFieldDescriptor (TX5 k).2.2.1 = some (tyX5 k) := by decide +kernel
def RX6 : String := "NineTrees$Shelf"
def TX6 : u_T := fun k => match k with
  | 0 => ("NineTrees$Shelf", "elements", "[J", true)
  | 1 => ("NineTrees$Shelf", "sort", "I", false)
  | 2 => ("NineTrees$Shelf", "size", "I", false)
  | _ => ("NineTrees$Shelf", "tree", "I", false)
def tyX6 : Nat → FieldType := fun k => match k with
  | 0 => .array .long
  | 1 => .int
  | 2 => .int
  | _ => .int
theorem nmX6 : ∀ a, a < 4 → ∀ b, b < 4 → a ≠ b → (TX6 a).2.1 ≠ (TX6 b).2.1 := by decide +kernel
theorem tyX6_ok : ∀ k, k < 4 → parseFieldDescriptor (TX6 k).2.2.1 = some (tyX6 k) := by decide +kernel
def RX7 : String := "NineTrees$Sight"
def TX7 : u_T := fun k => match k with
  | _ => ("", "", "", false)
def tyX7 : Nat → FieldType := fun k => match k with
  | _ => .int
theorem nmX7 : ∀ a, a < 0 → ∀ b, b < 0 → a ≠ b → (TX7 a).2.1 ≠ (TX7 b).2.1 := by decide +kernel
theorem tyX7_ok : ∀ k, k < 0 → parseFieldDescriptor (TX7 k).2.2.1 = some (tyX7 k) := by decide +kernel
def RX8 : String := "NineTrees$Tape"
def TX8 : u_T := fun k => match k with
  | 0 => ("NineTrees$Tape", "bytes", "[I", true)
  | 1 => ("NineTrees$Tape", "size", "I", false)
  | 2 => ("NineTrees$Tape", "fewestTrees", "I", false)
  | 3 => ("NineTrees$Tape", "token", "I", false)
  | 4 => ("NineTrees$Tape", "start", "I", false)
  | 5 => ("NineTrees$Tape", "end", "I", false)
  | _ => ("NineTrees$Tape", "number", "I", false)
def tyX8 : Nat → FieldType := fun k => match k with
  | 0 => .array .int
  | 1 => .int
  | 2 => .int
  | 3 => .int
  | 4 => .int
  | 5 => .int
  | _ => .int
theorem nmX8 : ∀ a, a < 7 → ∀ b, b < 7 → a ≠ b → (TX8 a).2.1 ≠ (TX8 b).2.1 := by decide +kernel
theorem tyX8_ok : ∀ k, k < 7 → parseFieldDescriptor (TX8 k).2.2.1 = some (tyX8 k) := by decide +kernel
def RX9 : String := "NineTrees"
def TX9 : u_T := fun k => match k with
  | 0 => ("NineTrees", "ground", "LNineTrees$Garden;", true)
  | 1 => ("NineTrees", "draft", "LNineTrees$Garden;", true)
  | 2 => ("NineTrees", "kept", "LNineTrees$Garden;", true)
  | 3 => ("NineTrees", "rows", "LNineTrees$RowList;", true)
  | 4 => ("NineTrees", "crossings", "LNineTrees$Crossings;", true)
  | 5 => ("NineTrees", "moves", "LNineTrees$Moves;", true)
  | 6 => ("NineTrees", "smallest", "LNineTrees$Gap;", true)
  | 7 => ("NineTrees", "tape", "LNineTrees$Tape;", true)
  | 8 => ("NineTrees", "shelves", "[LNineTrees$Shelf;", true)
  | 9 => ("NineTrees", "refusals", "[I", true)
  | _ => ("NineTrees", "isKept", "Z", false)
def tyX9 : Nat → FieldType := fun k => match k with
  | 0 => .object "NineTrees$Garden"
  | 1 => .object "NineTrees$Garden"
  | 2 => .object "NineTrees$Garden"
  | 3 => .object "NineTrees$RowList"
  | 4 => .object "NineTrees$Crossings"
  | 5 => .object "NineTrees$Moves"
  | 6 => .object "NineTrees$Gap"
  | 7 => .object "NineTrees$Tape"
  | 8 => .array (.object "NineTrees$Shelf")
  | 9 => .array .int
  | _ => .boolean
theorem nmX9 : ∀ a, a < 11 → ∀ b, b < 11 → a ≠ b → (TX9 a).2.1 ≠ (TX9 b).2.1 := by decide +kernel
theorem tyX9_ok : ∀ k, k < 11 → parseFieldDescriptor (TX9 k).2.2.1 = some (tyX9 k) := by decide +kernel
def RX10 : String := "NineTreesModel"
def TX10 : u_T := fun k => match k with
  | 0 => ("NineTreesModel", "shelf", "[I", true)
  | 1 => ("NineTreesModel", "rowSort", "[I", true)
  | 2 => ("NineTreesModel", "rowSize", "[I", true)
  | 3 => ("NineTreesModel", "rows", "[[J", true)
  | 4 => ("NineTreesModel", "passed", "[J", true)
  | 5 => ("NineTreesModel", "shown", "[I", true)
  | 6 => ("NineTreesModel", "tape", "[I", true)
  | 7 => ("NineTreesModel", "tapeSize", "I", false)
  | 8 => ("NineTreesModel", "refused", "[I", true)
  | 9 => ("NineTreesModel", "side", "I", false)
  | 10 => ("NineTreesModel", "trees", "I", false)
  | 11 => ("NineTreesModel", "kind", "[I", true)
  | 12 => ("NineTreesModel", "cell", "[I", true)
  | 13 => ("NineTreesModel", "by", "[I", true)
  | 14 => ("NineTreesModel", "wishes", "I", false)
  | 15 => ("NineTreesModel", "wished", "[I", true)
  | 16 => ("NineTreesModel", "seed", "I", false)
  | 17 => ("NineTreesModel", "kept", "LNineTreesModel;", false)
  | 18 => ("NineTreesModel", "tried", "LNineTreesModel;", false)
  | 19 => ("NineTreesModel", "at", "I", false)
  | 20 => ("NineTreesModel", "token", "I", false)
  | 21 => ("NineTreesModel", "from", "I", false)
  | 22 => ("NineTreesModel", "figures", "I", false)
  | 23 => ("NineTreesModel", "fault", "I", false)
  | 24 => ("NineTreesModel", "told", "[I", true)
  | 25 => ("NineTreesModel", "statements", "I", false)
  | 26 => ("NineTreesModel", "found", "[I", true)
  | 27 => ("NineTreesModel", "rowMany", "I", false)
  | 28 => ("NineTreesModel", "bestTree", "I", false)
  | 29 => ("NineTreesModel", "bestCell", "I", false)
  | _ => ("NineTreesModel", "bestMany", "I", false)
def tyX10 : Nat → FieldType := fun k => match k with
  | 0 => .array .int
  | 1 => .array .int
  | 2 => .array .int
  | 3 => .array (.array .long)
  | 4 => .array .long
  | 5 => .array .int
  | 6 => .array .int
  | 7 => .int
  | 8 => .array .int
  | 9 => .int
  | 10 => .int
  | 11 => .array .int
  | 12 => .array .int
  | 13 => .array .int
  | 14 => .int
  | 15 => .array .int
  | 16 => .int
  | 17 => .object "NineTreesModel"
  | 18 => .object "NineTreesModel"
  | 19 => .int
  | 20 => .int
  | 21 => .int
  | 22 => .int
  | 23 => .int
  | 24 => .array .int
  | 25 => .int
  | 26 => .array .int
  | 27 => .int
  | 28 => .int
  | 29 => .int
  | _ => .int
theorem nmX10 : ∀ a, a < 31 → ∀ b, b < 31 → a ≠ b → (TX10 a).2.1 ≠ (TX10 b).2.1 := by decide +kernel
theorem tyX10_ok : ∀ k, k < 31 → parseFieldDescriptor (TX10 k).2.2.1 = some (tyX10 k) := by decide +kernel
abbrev vwCl : List vw_C := [(RX0, TX0, 1), (RX1, TX1, 4), (RX2, TX2, 8), (RX3, TX3, 5), (RX4, TX4, 2), (RX6, TX6, 4), (RX8, TX8, 7), (RX9, TX9, 11), (RX10, TX10, 31)]
end
section
/-! ===== THE SMALL MACHINE: the same bytecode over cells that are lists; a reference is a place in the list of cells. From 1000 on a reference names what the machine had before: 1000 the script, 1001.. the words, 1021.. their bytes ===== -/
abbrev tE : Type := (Nat × (List Int32 ⊕ List Int64 ⊕ List (Option Nat))) ⊕ (Nat × List Value)
abbrev tH : Type := List tE
abbrev tL : Type := List (Nat × Value)
abbrev tI : Type := Nat × Instr × Nat × Nat
def t_get : tL → Nat → Option Value
  | [], _ => none
  | q :: t, i => if q.1 = i then some q.2 else t_get t i
def t_set1 (lv : tL) (i : Nat) (v : Value) : tL := (i, v) :: lv.filter (fun q => !(q.1 == i) && !(q.1 + 1 == i && q.2.category == 2))
def t_set2 (lv : tL) (i : Nat) (v : Value) : tL := (i, v) :: lv.filter (fun q => !(q.1 == i) && (!(q.1 == i + 1) && !(q.1 + 1 == i && q.2.category == 2)))
def t_icmp (c : Jvm.ClassFile.Cond) (x y : Int32) : Bool := match c with
  | .eq => decide (x = y)
  | .ne => !decide (x = y)
  | .lt => decide (x < y)
  | .ge => decide (y ≤ x)
  | .gt => decide (y < x)
  | .le => decide (x ≤ y)
-- shapes of the stack
def t_i1 {α : Type} (st : List Value) (f : Int32 → List Value → Option α) : Option α := match st with
  | .int x :: r => f x r
  | _ => none
def t_i2 {α : Type} (st : List Value) (f : Int32 → Int32 → List Value → Option α) : Option α := match st with
  | .int y :: .int x :: r => f x y r
  | _ => none
def t_j1 {α : Type} (st : List Value) (f : Int64 → List Value → Option α) : Option α := match st with
  | .long x :: r => f x r
  | _ => none
def t_j2 {α : Type} (st : List Value) (f : Int64 → Int64 → List Value → Option α) : Option α := match st with
  | .long y :: .long x :: r => f x y r
  | _ => none
def t_ji {α : Type} (st : List Value) (f : Int64 → Int32 → List Value → Option α) : Option α := match st with
  | .int y :: .long x :: r => f x y r
  | _ => none
def t_r1 {α : Type} (st : List Value) (f : Nat → List Value → Option α) : Option α := match st with
  | .ref k :: r => f k r
  | _ => none
def t_a1 {α : Type} (st : List Value) (f : Option Nat → List Value → Option α) : Option α := match st with
  | .ref k :: r => f (some k) r
  | .null :: r => f none r
  | _ => none
def t_ri {α : Type} (st : List Value) (f : Nat → Int32 → List Value → Option α) : Option α := match st with
  | .int i :: .ref k :: r => f k i r
  | _ => none
def t_rii {α : Type} (st : List Value) (f : Nat → Int32 → Int32 → List Value → Option α) : Option α := match st with
  | .int x :: .int i :: .ref k :: r => f k i x r
  | _ => none
def t_rij {α : Type} (st : List Value) (f : Nat → Int32 → Int64 → List Value → Option α) : Option α := match st with
  | .long x :: .int i :: .ref k :: r => f k i x r
  | _ => none
def t_rir {α : Type} (st : List Value) (f : Nat → Int32 → Nat → List Value → Option α) : Option α := match st with
  | .ref x :: .int i :: .ref k :: r => f k i x r
  | _ => none
def t_gI {α : Type} (lv : tL) (i : Nat) (f : Int32 → Option α) : Option α := match t_get lv i with
  | some (.int x) => f x
  | _ => none
def t_gJ {α : Type} (lv : tL) (i : Nat) (f : Int64 → Option α) : Option α := match t_get lv i with
  | some (.long x) => f x
  | _ => none
def t_gA {α : Type} (lv : tL) (i : Nat) (f : Option Nat → Option α) : Option α := match t_get lv i with
  | some (.ref x) => f (some x)
  | some .null => f none
  | _ => none
def t_go (pc : Nat) (off : Int) : Option Nat := if (pc : Int) + off < 0 then none else some ((pc : Int) + off).toNat
/-- instructions that need no cell: what is next, the variables, the stack -/
def t_P (ins : Instr) (pc a1 nL : Nat) (lv : tL) (st : List Value) : Option (Nat × tL × List Value) := match ins with
  | .aload_n k => t_gA lv k.val fun x => some (pc + 1, lv, va_rf x :: st)
  | .aload k => t_gA lv k fun x => some (pc + 2, lv, va_rf x :: st)
  | .iload_n k => t_gI lv k.val fun x => some (pc + 1, lv, .int x :: st)
  | .iload k => t_gI lv k fun x => some (pc + 2, lv, .int x :: st)
  | .lload_n k => t_gJ lv k.val fun x => some (pc + 1, lv, .long x :: st)
  | .lload k => t_gJ lv k fun x => some (pc + 2, lv, .long x :: st)
  | .astore_n k => t_a1 st fun x r => if k.val < nL then some (pc + 1, t_set1 lv k.val (va_rf x), r) else none
  | .astore k => t_a1 st fun x r => if k < nL then some (pc + 2, t_set1 lv k (va_rf x), r) else none
  | .istore_n k => t_i1 st fun x r => if k.val < nL then some (pc + 1, t_set1 lv k.val (.int x), r) else none
  | .istore k => t_i1 st fun x r => if k < nL then some (pc + 2, t_set1 lv k (.int x), r) else none
  | .lstore_n k => t_j1 st fun x r => if k.val + 1 < nL then some (pc + 1, t_set2 lv k.val (.long x), r) else none
  | .lstore k => t_j1 st fun x r => if k + 1 < nL then some (pc + 2, t_set2 lv k (.long x), r) else none
  | .iinc k n => t_gI lv k fun x => if k < nL then some (pc + 3, t_set1 lv k (.int (x + Int32.ofInt n)), st) else none
  | .iconst n => some (pc + 1, lv, .int (Int32.ofInt n) :: st)
  | .bipush n => some (pc + 2, lv, .int (Int8.ofInt n).toInt32 :: st)
  | .sipush n => some (pc + 3, lv, .int (Int16.ofInt n).toInt32 :: st)
  | .lconst n => some (pc + 1, lv, .long (Int64.ofNat n.val) :: st)
  | .ldc _ => some (pc + 2, lv, .int (Int32.ofNat a1) :: st)
  | .ldc_w _ => some (pc + 3, lv, .int (Int32.ofNat a1) :: st)
  | .ldc2_w _ => some (pc + 3, lv, .long (Int64.ofNat a1) :: st)
  | .aconst_null => some (pc + 1, lv, .null :: st)
  | .dup => match st with
    | v :: r => if v.category = 1 then some (pc + 1, lv, v :: v :: r) else none
    | _ => none
  | .dup_x1 => match st with
    | v :: w :: r => if v.category = 1 ∧ w.category = 1 then some (pc + 1, lv, v :: w :: v :: r) else none
    | _ => none
  | .dup2 => match st with
    | v :: w :: r => if v.category = 1 ∧ w.category = 1 then some (pc + 1, lv, v :: w :: v :: w :: r) else none
    | _ => none
  | .pop => match st with
    | v :: r => if v.category = 1 then some (pc + 1, lv, r) else none
    | _ => none
  | .pop2 => t_j1 st fun _ r => some (pc + 1, lv, r)
  | .iadd => t_i2 st fun x y r => some (pc + 1, lv, .int (x + y) :: r)
  | .isub => t_i2 st fun x y r => some (pc + 1, lv, .int (x - y) :: r)
  | .imul => t_i2 st fun x y r => some (pc + 1, lv, .int (x * y) :: r)
  | .idiv => t_i2 st fun x y r => if y = 0 then none else some (pc + 1, lv, .int (x / y) :: r)
  | .irem => t_i2 st fun x y r => if y = 0 then none else some (pc + 1, lv, .int (x - x / y * y) :: r)
  | .ineg => t_i1 st fun x r => some (pc + 1, lv, .int (-x) :: r)
  | .iand => t_i2 st fun x y r => some (pc + 1, lv, .int (x &&& y) :: r)
  | .ior => t_i2 st fun x y r => some (pc + 1, lv, .int (x ||| y) :: r)
  | .ixor => t_i2 st fun x y r => some (pc + 1, lv, .int (x ^^^ y) :: r)
  | .ishl => t_i2 st fun x y r => some (pc + 1, lv, .int (x <<< (y &&& 31)) :: r)
  | .ishr => t_i2 st fun x y r => some (pc + 1, lv, .int (x >>> (y &&& 31)) :: r)
  | .iushr => t_i2 st fun x y r => some (pc + 1, lv, .int (x.toUInt32 >>> (y.toUInt32 &&& Int32.toUInt32 31)).toInt32 :: r)
  | .i2l => t_i1 st fun x r => some (pc + 1, lv, .long x.toInt64 :: r)
  | .l2i => t_j1 st fun x r => some (pc + 1, lv, .int x.toInt32 :: r)
  | .i2b => t_i1 st fun x r => some (pc + 1, lv, .int x.toInt8.toInt32 :: r)
  | .i2s => t_i1 st fun x r => some (pc + 1, lv, .int x.toInt16.toInt32 :: r)
  | .i2c => t_i1 st fun x r => some (pc + 1, lv, .int (x.toUInt32 % 65536).toInt32 :: r)
  | .lmul => t_j2 st fun x y r => some (pc + 1, lv, .long (x * y) :: r)
  | .land => t_j2 st fun x y r => some (pc + 1, lv, .long (x &&& y) :: r)
  | .lor => t_j2 st fun x y r => some (pc + 1, lv, .long (x ||| y) :: r)
  | .lshl => t_ji st fun x y r => some (pc + 1, lv, .long (x <<< (y.toInt64 &&& 63)) :: r)
  | .lcmp => t_j2 st fun x y r => some (pc + 1, lv, .int (lg_cmp x y) :: r)
  | .if_icmp c _ => t_i2 st fun x y r => some (if t_icmp c x y = true then a1 else pc + 3, lv, r)
  | .ifCond c _ => t_i1 st fun x r => some (if t_icmp c x 0 = true then a1 else pc + 3, lv, r)
  | .ifnull _ => t_a1 st fun x r => some (match x with | some _ => pc + 3 | none => a1, lv, r)
  | .ifnonnull _ => t_a1 st fun x r => some (match x with | some _ => a1 | none => pc + 3, lv, r)
  | .goto _ => some (a1, lv, st)
  | .tableswitch d lo hi offs => t_i1 st fun x r =>
      if x.toInt < lo ∨ hi < x.toInt then (t_go pc d).map (fun t => (t, lv, r))
      else match offs[(x.toInt - lo).toNat]? with
        | some off => (t_go pc off).map (fun t => (t, lv, r))
        | none => none
  | _ => none
/-- how long an instruction is; 0: as it says itself -/
def t_len (ins : Instr) : Nat := match ins with
  | .aload _ | .iload _ | .lload _ | .astore _ | .istore _ | .lstore _ | .bipush _ | .ldc _ | .newarray _ => 2
  | .iinc _ _ | .sipush _ | .ldc_w _ | .ldc2_w _ | .if_icmp _ _ | .ifCond _ _ | .ifnull _ | .ifnonnull _ | .goto _ | .getfield _ | .putfield _ | .getstatic _ | .invokevirtual _ | .invokestatic _ | .invokespecial _ | .new _ | .anewarray _ => 3
  | .multianewarray _ _ => 4
  | .tableswitch _ _ _ _ => 0
  | _ => 1
/-- where a branch goes, as the table of the code has it -/
def t_br (ins : Instr) (pc a1 : Nat) : Bool := match ins with
  | .if_icmp _ o | .ifCond _ o | .ifnull o | .ifnonnull o | .goto o => decide ((pc : Int) + o = (a1 : Int))
  | _ => true
/-- a reference by its place; the one static reference that is only carried is written .retAddr: σ 1040 says what it is, 0: null -/
def t_v (σ : Nat → Nat) : Value → Value
  | .ref k => .ref (σ k)
  | .retAddr _ => match σ 1040 with
    | 0 => .null
    | n + 1 => .ref n
  | v => v
def t_l (σ : Nat → Nat) (lv : tL) : tL := lv.map (fun q => (q.1, t_v σ q.2))
theorem t_v_cat (σ : Nat → Nat) (v : Value) : (t_v σ v).category = v.category := by
  cases v <;> try rfl
  show (match σ 1040 with | 0 => Value.null | n + 1 => Value.ref n).category = 1
  split <;> rfl
theorem t_l_set1 (σ : Nat → Nat) (lv : tL) (i : Nat) (v : Value) : (i, t_v σ v) :: (t_l σ lv).filter (fun q => !(q.1 == i) && !(q.1 + 1 == i && q.2.category == 2)) = t_l σ (t_set1 lv i v) := by
  simp [t_l, t_set1, List.filter_map, Function.comp_def, t_v_cat]
theorem t_l_set2 (σ : Nat → Nat) (lv : tL) (i : Nat) (v : Value) : (i, t_v σ v) :: (t_l σ lv).filter (fun q => !(q.1 == i) && (!(q.1 == i + 1) && !(q.1 + 1 == i && q.2.category == 2))) = t_l σ (t_set2 lv i v) := by
  simp [t_l, t_set2, List.filter_map, Function.comp_def, t_v_cat]
theorem t_get_mem {v : Value} {i : Nat} : ∀ {lv : tL}, t_get lv i = some v → (i, v) ∈ lv
  | [], h => by cases h
  | q :: t, h => by
    unfold t_get at h
    split at h
    · rename_i e
      cases h
      subst e
      exact List.mem_cons_self
    · exact List.mem_cons_of_mem _ (t_get_mem h)
theorem t_get_at {σ : Nat → Nat} {ls : Array Slot} {nL i : Nat} {lv : tL} {v : Value} (h : lv_has ls nL (t_l σ lv)) (hg : t_get lv i = some v) : ls[i]? = some (.val (t_v σ v)) :=
  h.2.2 (i, t_v σ v) (List.mem_map.mpr ⟨(i, v), t_get_mem hg, rfl⟩)
-- what a shape says
theorem t_i1_of {α : Type} {st : List Value} {f : Int32 → List Value → Option α} {z : α} (h : t_i1 st f = some z) : ∃ x r, st = .int x :: r ∧ f x r = some z := by
  unfold t_i1 at h
  split at h
  · exact ⟨_, _, rfl, h⟩
  · cases h
theorem t_i2_of {α : Type} {st : List Value} {f : Int32 → Int32 → List Value → Option α} {z : α} (h : t_i2 st f = some z) : ∃ x y r, st = .int y :: .int x :: r ∧ f x y r = some z := by
  unfold t_i2 at h
  split at h
  · exact ⟨_, _, _, rfl, h⟩
  · cases h
theorem t_j1_of {α : Type} {st : List Value} {f : Int64 → List Value → Option α} {z : α} (h : t_j1 st f = some z) : ∃ x r, st = .long x :: r ∧ f x r = some z := by
  unfold t_j1 at h
  split at h
  · exact ⟨_, _, rfl, h⟩
  · cases h
theorem t_j2_of {α : Type} {st : List Value} {f : Int64 → Int64 → List Value → Option α} {z : α} (h : t_j2 st f = some z) : ∃ x y r, st = .long y :: .long x :: r ∧ f x y r = some z := by
  unfold t_j2 at h
  split at h
  · exact ⟨_, _, _, rfl, h⟩
  · cases h
theorem t_ji_of {α : Type} {st : List Value} {f : Int64 → Int32 → List Value → Option α} {z : α} (h : t_ji st f = some z) : ∃ x y r, st = .int y :: .long x :: r ∧ f x y r = some z := by
  unfold t_ji at h
  split at h
  · exact ⟨_, _, _, rfl, h⟩
  · cases h
theorem t_r1_of {α : Type} {st : List Value} {f : Nat → List Value → Option α} {z : α} (h : t_r1 st f = some z) : ∃ (x : Nat) (r : List Value), st = .ref x :: r ∧ f x r = some z := by
  unfold t_r1 at h
  split at h
  · exact ⟨_, _, rfl, h⟩
  · cases h
theorem t_a1_of {α : Type} {st : List Value} {f : Option Nat → List Value → Option α} {z : α} (h : t_a1 st f = some z) : ∃ x r, st = va_rf x :: r ∧ f x r = some z := by
  unfold t_a1 at h
  split at h
  · exact ⟨some _, _, rfl, h⟩
  · exact ⟨none, _, rfl, h⟩
  · cases h
theorem t_ri_of {α : Type} {st : List Value} {f : Nat → Int32 → List Value → Option α} {z : α} (h : t_ri st f = some z) : ∃ (k : Nat) (i : Int32) (r : List Value), st = .int i :: .ref k :: r ∧ f k i r = some z := by
  unfold t_ri at h
  split at h
  · exact ⟨_, _, _, rfl, h⟩
  · cases h
theorem t_rii_of {α : Type} {st : List Value} {f : Nat → Int32 → Int32 → List Value → Option α} {z : α} (h : t_rii st f = some z) : ∃ (k : Nat) (i x : Int32) (r : List Value), st = .int x :: .int i :: .ref k :: r ∧ f k i x r = some z := by
  unfold t_rii at h
  split at h
  · exact ⟨_, _, _, _, rfl, h⟩
  · cases h
theorem t_rij_of {α : Type} {st : List Value} {f : Nat → Int32 → Int64 → List Value → Option α} {z : α} (h : t_rij st f = some z) : ∃ (k : Nat) (i : Int32) (x : Int64) (r : List Value), st = .long x :: .int i :: .ref k :: r ∧ f k i x r = some z := by
  unfold t_rij at h
  split at h
  · exact ⟨_, _, _, _, rfl, h⟩
  · cases h
theorem t_rir_of {α : Type} {st : List Value} {f : Nat → Int32 → Nat → List Value → Option α} {z : α} (h : t_rir st f = some z) : ∃ (k : Nat) (i : Int32) (x : Nat) (r : List Value), st = .ref x :: .int i :: .ref k :: r ∧ f k i x r = some z := by
  unfold t_rir at h
  split at h
  · exact ⟨_, _, _, _, rfl, h⟩
  · cases h
theorem t_gI_of {α : Type} {lv : tL} {i : Nat} {f : Int32 → Option α} {z : α} (h : t_gI lv i f = some z) : ∃ x, t_get lv i = some (.int x) ∧ f x = some z := by
  unfold t_gI at h
  split at h
  · rename_i e; exact ⟨_, e, h⟩
  · cases h
theorem t_gJ_of {α : Type} {lv : tL} {i : Nat} {f : Int64 → Option α} {z : α} (h : t_gJ lv i f = some z) : ∃ x, t_get lv i = some (.long x) ∧ f x = some z := by
  unfold t_gJ at h
  split at h
  · rename_i e; exact ⟨_, e, h⟩
  · cases h
theorem t_gA_of {α : Type} {lv : tL} {i : Nat} {f : Option Nat → Option α} {z : α} (h : t_gA lv i f = some z) : ∃ x, t_get lv i = some (va_rf x) ∧ f x = some z := by
  unfold t_gA at h
  split at h
  · rename_i e; exact ⟨some _, e, h⟩
  · rename_i e; exact ⟨none, e, h⟩
  · cases h
theorem t_if_of {α : Type} {c : Prop} [Decidable c] {a : α} {z : α} (h : (if c then some a else none) = some z) : c ∧ a = z := by
  split at h
  · exact ⟨by assumption, Option.some.inj h⟩
  · cases h
theorem t_ifn_of {α : Type} {c : Prop} [Decidable c] {a : α} {z : α} (h : (if c then none else some a) = some z) : ¬ c ∧ a = z := by
  split at h
  · cases h
  · exact ⟨by assumption, Option.some.inj h⟩
theorem t_go_of {pc t : Nat} {off : Int} (h : t_go pc off = some t) : (pc : Int) + off = (t : Int) := by
  unfold t_go at h
  split at h
  · cases h
  · cases h
    omega
end
section
section TP
variable {p : Program} {l : Launch} {e : Env} {R : Room} {s : State} {m : MethodId} {args : Array Value} {below : List Frame} {meth : Method} {c : Code} {H : Heap} {locs : List Loc} {cells slots : Nat} {Q : State → Prop}
variable {cc : ByteArray} {pc : Nat} {ls : Array Slot} {σ : Nat → Nat} {nL a1 : Nat} {lv lv' : tL} {st st' : List Value} {pc' len : Nat} {own : String} {ins : Instr}
theorem t_rf_v (σ : Nat → Nat) (x : Option Nat) : t_v σ (va_rf x) = va_rf (x.map σ) := by cases x <;> rfl
/-- what the pool says of a constant -/
def t_kst (own : String) (ins : Instr) (a1 : Nat) : List Jvm.Cond := match ins with
  | .ldc k => [.constant own k (Int32.ofNat a1)]
  | .ldc_w k => [.constant own k (Int32.ofNat a1)]
  | .ldc2_w k => [.constantLong own k (Int64.ofNat a1)]
  | _ => []
set_option maxHeartbeats 4000000 in
theorem t_P_ok (hx : p.tables.exec = Jvm.exec) (hb : c.code = cc) (hown : s.vm.findClass own = some m.cls) (hd : decode cc pc = .ok (ins, len)) (hlen : t_len ins = 0 ∨ t_len ins = len) (hbr : t_br ins pc a1 = true) (hk : ∀ w ∈ t_kst own ins a1, w.before args s = true)
    (hh : lv_has ls nL (t_l σ lv)) (hs : t_P ins pc a1 nL lv st = some (pc', lv', st'))
    (k : ∀ ls', lv_has ls' nL (t_l σ lv') → W p l e R s m args below meth c H locs cells slots Q (F0 m pc' ls' (st'.map (t_v σ)))) : W p l e R s m args below meth c H locs cells slots Q (F0 m pc ls (st.map (t_v σ))) := by
  cases ins
  case iadd =>
    cases hlen.resolve_left (by simp [t_len])
    obtain ⟨x, y, r, rfl, hs⟩ := t_i2_of hs
    cases hs
    exact lv_iadd hx hb hd (k ls hh)
  case isub =>
    cases hlen.resolve_left (by simp [t_len])
    obtain ⟨x, y, r, rfl, hs⟩ := t_i2_of hs
    cases hs
    exact lv_isub hx hb hd (k ls hh)
  case imul =>
    cases hlen.resolve_left (by simp [t_len])
    obtain ⟨x, y, r, rfl, hs⟩ := t_i2_of hs
    cases hs
    exact lv_imul hx hb hd (k ls hh)
  case iand =>
    cases hlen.resolve_left (by simp [t_len])
    obtain ⟨x, y, r, rfl, hs⟩ := t_i2_of hs
    cases hs
    exact lv_iand hx hb hd (k ls hh)
  case ior =>
    cases hlen.resolve_left (by simp [t_len])
    obtain ⟨x, y, r, rfl, hs⟩ := t_i2_of hs
    cases hs
    exact lv_ior hx hb hd (k ls hh)
  case ixor =>
    cases hlen.resolve_left (by simp [t_len])
    obtain ⟨x, y, r, rfl, hs⟩ := t_i2_of hs
    cases hs
    exact lv_ixor hx hb hd (k ls hh)
  case ishl =>
    cases hlen.resolve_left (by simp [t_len])
    obtain ⟨x, y, r, rfl, hs⟩ := t_i2_of hs
    cases hs
    exact lv_ishl hx hb hd (k ls hh)
  case ishr =>
    cases hlen.resolve_left (by simp [t_len])
    obtain ⟨x, y, r, rfl, hs⟩ := t_i2_of hs
    cases hs
    exact lv_ishr hx hb hd (k ls hh)
  case idiv =>
    cases hlen.resolve_left (by simp [t_len])
    obtain ⟨x, y, r, rfl, hs⟩ := t_i2_of hs
    obtain ⟨h0, hs⟩ := t_ifn_of hs
    cases hs
    exact lv_idiv hx hb hd h0 (k ls hh)
  case irem =>
    cases hlen.resolve_left (by simp [t_len])
    obtain ⟨x, y, r, rfl, hs⟩ := t_i2_of hs
    obtain ⟨h0, hs⟩ := t_ifn_of hs
    cases hs
    exact lv_irem hx hb hd h0 (k ls hh)
  case iushr =>
    cases hlen.resolve_left (by simp [t_len])
    obtain ⟨x, y, r, rfl, hs⟩ := t_i2_of hs
    cases hs
    exact lv_iushr hx hb hd rfl (k ls hh)
  case ineg =>
    cases hlen.resolve_left (by simp [t_len])
    obtain ⟨x, r, rfl, hs⟩ := t_i1_of hs
    cases hs
    exact lv_ineg hx hb hd (k ls hh)
  case i2l =>
    cases hlen.resolve_left (by simp [t_len])
    obtain ⟨x, r, rfl, hs⟩ := t_i1_of hs
    cases hs
    exact lv_i2l hx hb hd rfl (k ls hh)
  case i2b =>
    cases hlen.resolve_left (by simp [t_len])
    obtain ⟨x, r, rfl, hs⟩ := t_i1_of hs
    cases hs
    exact lv_i2b hx hb hd rfl (k ls hh)
  case i2s =>
    cases hlen.resolve_left (by simp [t_len])
    obtain ⟨x, r, rfl, hs⟩ := t_i1_of hs
    cases hs
    exact lv_i2s hx hb hd rfl (k ls hh)
  case i2c =>
    cases hlen.resolve_left (by simp [t_len])
    obtain ⟨x, r, rfl, hs⟩ := t_i1_of hs
    cases hs
    exact lv_i2c hx hb hd rfl (k ls hh)
  case l2i =>
    cases hlen.resolve_left (by simp [t_len])
    obtain ⟨x, r, rfl, hs⟩ := t_j1_of hs
    cases hs
    exact lv_l2i hx hb hd rfl (k ls hh)
  case lmul =>
    cases hlen.resolve_left (by simp [t_len])
    obtain ⟨x, y, r, rfl, hs⟩ := t_j2_of hs
    cases hs
    exact lv_lmul hx hb hd (k ls hh)
  case land =>
    cases hlen.resolve_left (by simp [t_len])
    obtain ⟨x, y, r, rfl, hs⟩ := t_j2_of hs
    cases hs
    exact lv_land hx hb hd (k ls hh)
  case lor =>
    cases hlen.resolve_left (by simp [t_len])
    obtain ⟨x, y, r, rfl, hs⟩ := t_j2_of hs
    cases hs
    exact lv_lor hx hb hd (k ls hh)
  case lshl =>
    cases hlen.resolve_left (by simp [t_len])
    obtain ⟨x, y, r, rfl, hs⟩ := t_ji_of hs
    cases hs
    exact lv_lshl hx hb hd rfl (k ls hh)
  case lcmp =>
    cases hlen.resolve_left (by simp [t_len])
    obtain ⟨x, y, r, rfl, hs⟩ := t_j2_of hs
    cases hs
    exact W.lcmp hx hb hd (k ls hh)
  case iconst n =>
    cases hlen.resolve_left (by simp [t_len])
    cases hs
    exact lv_iconst hx hb hd rfl (k ls hh)
  case bipush n =>
    cases hlen.resolve_left (by simp [t_len])
    cases hs
    exact lv_bipush hx hb hd rfl (k ls hh)
  case sipush n =>
    cases hlen.resolve_left (by simp [t_len])
    cases hs
    exact lv_sipush hx hb hd rfl (k ls hh)
  case lconst n =>
    cases hlen.resolve_left (by simp [t_len])
    cases hs
    exact lv_lconst hx hb hd rfl (k ls hh)
  case aconst_null =>
    cases hlen.resolve_left (by simp [t_len])
    cases hs
    exact lv_null hx hb hd (k ls hh)
  case ldc n =>
    cases hlen.resolve_left (by simp [t_len])
    cases hs
    exact lv_ldc hx hb hown (hk _ List.mem_cons_self) hd (k ls hh)
  case ldc_w n =>
    cases hlen.resolve_left (by simp [t_len])
    cases hs
    exact lv_ldcw hx hb hown (hk _ List.mem_cons_self) hd (k ls hh)
  case ldc2_w n =>
    cases hlen.resolve_left (by simp [t_len])
    cases hs
    exact lv_ldc2 hx hb hown (hk _ List.mem_cons_self) hd (k ls hh)
  case iload n =>
    cases hlen.resolve_left (by simp [t_len])
    obtain ⟨x, hg, hs⟩ := t_gI_of hs
    cases hs
    exact lv_iload hx hb hd (t_get_at hh hg) (k ls hh)
  case iload_n n =>
    cases hlen.resolve_left (by simp [t_len])
    obtain ⟨x, hg, hs⟩ := t_gI_of hs
    cases hs
    exact lv_iload_n hx hb hd rfl (t_get_at hh hg) (k ls hh)
  case lload n =>
    cases hlen.resolve_left (by simp [t_len])
    obtain ⟨x, hg, hs⟩ := t_gJ_of hs
    cases hs
    exact lv_lload hx hb hd (t_get_at hh hg) (k ls hh)
  case lload_n n =>
    cases hlen.resolve_left (by simp [t_len])
    obtain ⟨x, hg, hs⟩ := t_gJ_of hs
    cases hs
    exact lv_lload_n hx hb hd rfl (t_get_at hh hg) (k ls hh)
  case aload n =>
    simp only [t_P] at hs
    cases hlen.resolve_left (by simp [t_len])
    obtain ⟨x, hg, hs⟩ := t_gA_of hs
    cases hs
    cases x with
    | none => exact lv_aloadN hx hb hd (t_get_at hh hg) (k ls hh)
    | some x => exact lv_aload hx hb hd (t_get_at hh hg) (k ls hh)
  case aload_n n =>
    simp only [t_P] at hs
    cases hlen.resolve_left (by simp [t_len])
    obtain ⟨x, hg, hs⟩ := t_gA_of hs
    cases hs
    cases x with
    | none => exact lv_aload_nN hx hb hd rfl (t_get_at hh hg) (k ls hh)
    | some x => exact lv_aload_n hx hb hd rfl (t_get_at hh hg) (k ls hh)
  case istore n =>
    cases hlen.resolve_left (by simp [t_len])
    obtain ⟨x, r, rfl, hs⟩ := t_i1_of hs
    obtain ⟨h0, hs⟩ := t_if_of hs
    cases hs
    exact lv_istore hx hb hd hh h0 (t_l_set1 σ lv n (.int x)) k
  case istore_n n =>
    cases hlen.resolve_left (by simp [t_len])
    obtain ⟨x, r, rfl, hs⟩ := t_i1_of hs
    obtain ⟨h0, hs⟩ := t_if_of hs
    cases hs
    exact lv_istore_n hx hb hd rfl hh h0 (t_l_set1 σ lv n.val (.int x)) k
  case lstore n =>
    cases hlen.resolve_left (by simp [t_len])
    obtain ⟨x, r, rfl, hs⟩ := t_j1_of hs
    obtain ⟨h0, hs⟩ := t_if_of hs
    cases hs
    exact lv_lstore hx hb hd hh h0 (t_l_set2 σ lv n (.long x)) k
  case lstore_n n =>
    cases hlen.resolve_left (by simp [t_len])
    obtain ⟨x, r, rfl, hs⟩ := t_j1_of hs
    obtain ⟨h0, hs⟩ := t_if_of hs
    cases hs
    exact lv_lstore_n hx hb hd rfl hh h0 (t_l_set2 σ lv n.val (.long x)) k
  case astore n =>
    simp only [t_P] at hs
    cases hlen.resolve_left (by simp [t_len])
    obtain ⟨x, r, e1, hs2⟩ := t_a1_of hs
    subst e1
    clear hs
    have hs := hs2
    obtain ⟨h0, hs⟩ := t_if_of hs
    cases hs
    cases x with
    | none => exact lv_astoreN hx hb hd hh h0 (t_l_set1 σ lv _ .null) k
    | some x => exact lv_astore hx hb hd hh h0 (t_l_set1 σ lv _ (.ref x)) k
  case astore_n n =>
    simp only [t_P] at hs
    cases hlen.resolve_left (by simp [t_len])
    obtain ⟨x, r, e1, hs2⟩ := t_a1_of hs
    subst e1
    clear hs
    have hs := hs2
    obtain ⟨h0, hs⟩ := t_if_of hs
    cases hs
    cases x with
    | none => exact lv_astore_nN hx hb hd rfl hh h0 (t_l_set1 σ lv _ .null) k
    | some x => exact lv_astore_n hx hb hd rfl hh h0 (t_l_set1 σ lv _ (.ref x)) k
  case iinc n z =>
    cases hlen.resolve_left (by simp [t_len])
    obtain ⟨x, hg, hs⟩ := t_gI_of hs
    obtain ⟨h0, hs⟩ := t_if_of hs
    cases hs
    obtain ⟨j, hj⟩ := List.getElem?_of_mem (List.mem_map.mpr ⟨(n, Value.int x), t_get_mem hg, rfl⟩ : (n, t_v σ (.int x)) ∈ t_l σ lv)
    exact lv_iinc hx hb hd hh hj rfl h0 (t_l_set1 σ lv n (.int (x + Int32.ofInt z))) k
  case dup =>
    cases hlen.resolve_left (by simp [t_len])
    rcases st with _ | ⟨v, r⟩
    · cases hs
    obtain ⟨h0, hs⟩ := t_if_of hs
    cases hs
    exact lv_dup hx hb hd ((t_v_cat σ v).trans h0) (k ls hh)
  case pop =>
    cases hlen.resolve_left (by simp [t_len])
    rcases st with _ | ⟨v, r⟩
    · cases hs
    obtain ⟨h0, hs⟩ := t_if_of hs
    cases hs
    exact lv_pop hx hb hd ((t_v_cat σ v).trans h0) (k ls hh)
  case pop2 =>
    cases hlen.resolve_left (by simp [t_len])
    obtain ⟨x, r, rfl, hs⟩ := t_j1_of hs
    cases hs
    exact lv_pop2_2 hx hb hd rfl (k ls hh)
  case dup_x1 =>
    cases hlen.resolve_left (by simp [t_len])
    rcases st with _ | ⟨v, _ | ⟨w, r⟩⟩
    · cases hs
    · cases hs
    obtain ⟨h0, hs⟩ := t_if_of hs
    cases hs
    exact lv_dup_x1 hx hb hd ((t_v_cat σ v).trans h0.1) ((t_v_cat σ w).trans h0.2) (k ls hh)
  case dup2 =>
    cases hlen.resolve_left (by simp [t_len])
    rcases st with _ | ⟨v, _ | ⟨w, r⟩⟩
    · cases hs
    · cases hs
    obtain ⟨h0, hs⟩ := t_if_of hs
    cases hs
    exact lv_dup2_11 hx hb hd ((t_v_cat σ v).trans h0.1) ((t_v_cat σ w).trans h0.2) (k ls hh)
  case goto n =>
    cases hlen.resolve_left (by simp [t_len])
    cases hs
    exact lv_goto hx hb hd (of_decide_eq_true hbr) (k ls hh)
  case if_icmp cd o =>
    cases hlen.resolve_left (by simp [t_len])
    obtain ⟨x, y, r, rfl, hs⟩ := t_i2_of hs
    cases hs
    have ht := of_decide_eq_true hbr
    cases cd with
    | eq => exact lv_icmp_eq hx hb hd ht (fun h => by have k2 := k ls hh; rw [if_pos (by simpa [t_icmp] using h)] at k2; exact k2) (fun h => by have k2 := k ls hh; rw [if_neg (by simpa [t_icmp] using h)] at k2; exact k2)
    | ne => exact lv_icmp_ne hx hb hd ht (fun h => by have k2 := k ls hh; rw [if_pos (by simpa [t_icmp] using h)] at k2; exact k2) (fun h => by have k2 := k ls hh; rw [if_neg (by simpa [t_icmp] using h)] at k2; exact k2)
    | lt => exact lv_icmp_lt hx hb hd ht (fun h => by have k2 := k ls hh; rw [if_pos (by simpa [t_icmp] using h)] at k2; exact k2) (fun h => by have k2 := k ls hh; rw [if_neg (by simpa [t_icmp] using h)] at k2; exact k2)
    | ge => exact lv_icmp_ge hx hb hd ht (fun h => by have k2 := k ls hh; rw [if_pos (by simpa [t_icmp] using h)] at k2; exact k2) (fun h => by have k2 := k ls hh; rw [if_neg (by simpa [t_icmp] using h)] at k2; exact k2)
    | gt => exact lv_icmp_gt hx hb hd ht (fun h => by have k2 := k ls hh; rw [if_pos (by simpa [t_icmp] using h)] at k2; exact k2) (fun h => by have k2 := k ls hh; rw [if_neg (by simpa [t_icmp] using h)] at k2; exact k2)
    | le => exact lv_icmp_le hx hb hd ht (fun h => by have k2 := k ls hh; rw [if_pos (by simpa [t_icmp] using h)] at k2; exact k2) (fun h => by have k2 := k ls hh; rw [if_neg (by simpa [t_icmp] using h)] at k2; exact k2)
  case ifCond cd o =>
    cases hlen.resolve_left (by simp [t_len])
    obtain ⟨x, r, rfl, hs⟩ := t_i1_of hs
    cases hs
    have ht := of_decide_eq_true hbr
    cases cd with
    | eq => exact lv_if_eq hx hb hd ht (fun h => by have k2 := k ls hh; rw [if_pos (by simpa [t_icmp] using h)] at k2; exact k2) (fun h => by have k2 := k ls hh; rw [if_neg (by simpa [t_icmp] using h)] at k2; exact k2)
    | ne => exact lv_if_ne hx hb hd ht (fun h => by have k2 := k ls hh; rw [if_pos (by simpa [t_icmp] using h)] at k2; exact k2) (fun h => by have k2 := k ls hh; rw [if_neg (by simpa [t_icmp] using h)] at k2; exact k2)
    | lt => exact lv_if_lt hx hb hd ht (fun h => by have k2 := k ls hh; rw [if_pos (by simpa [t_icmp] using h)] at k2; exact k2) (fun h => by have k2 := k ls hh; rw [if_neg (by simpa [t_icmp] using h)] at k2; exact k2)
    | ge => exact lv_if_ge hx hb hd ht (fun h => by have k2 := k ls hh; rw [if_pos (by simpa [t_icmp] using h)] at k2; exact k2) (fun h => by have k2 := k ls hh; rw [if_neg (by simpa [t_icmp] using h)] at k2; exact k2)
    | gt => exact lv_if_gt hx hb hd ht (fun h => by have k2 := k ls hh; rw [if_pos (by simpa [t_icmp] using h)] at k2; exact k2) (fun h => by have k2 := k ls hh; rw [if_neg (by simpa [t_icmp] using h)] at k2; exact k2)
    | le => exact lv_if_le hx hb hd ht (fun h => by have k2 := k ls hh; rw [if_pos (by simpa [t_icmp] using h)] at k2; exact k2) (fun h => by have k2 := k ls hh; rw [if_neg (by simpa [t_icmp] using h)] at k2; exact k2)
  case ifnull o =>
    simp only [t_P] at hs
    cases hlen.resolve_left (by simp [t_len])
    obtain ⟨x, r, e1, hs2⟩ := t_a1_of hs
    subst e1
    clear hs
    have hs := hs2
    cases hs
    cases x with
    | none => exact lv_ifnullN hx hb hd (of_decide_eq_true hbr) (k ls hh)
    | some x => exact lv_ifnull hx hb hd (k ls hh)
  case ifnonnull o =>
    simp only [t_P] at hs
    cases hlen.resolve_left (by simp [t_len])
    obtain ⟨x, r, e1, hs2⟩ := t_a1_of hs
    subst e1
    clear hs
    have hs := hs2
    cases hs
    cases x with
    | none => exact lv_ifnonnullN hx hb hd (k ls hh)
    | some x => exact lv_ifnonnull hx hb hd (of_decide_eq_true hbr) (k ls hh)
  case tableswitch d lo hi offs =>
    simp only [t_P] at hs
    obtain ⟨x, r, e1, hs2⟩ := t_i1_of hs
    subst e1
    clear hs
    have hs := hs2
    split at hs
    · rename_i h
      cases hg : t_go pc d with
      | none => rw [hg] at hs; cases hs
      | some t =>
        rw [hg] at hs
        cases hs
        exact lv_tableOut hx hb hd h (t_go_of hg) (k ls hh)
    · rename_i h
      split at hs
      · rename_i off ho
        cases hg : t_go pc off with
        | none => rw [hg] at hs; cases hs
        | some t =>
          rw [hg] at hs
          cases hs
          exact lv_tableIn hx hb hd (fun z => h (Or.inl z)) (fun z => h (Or.inr z)) ho (t_go_of hg) (k ls hh)
      · cases hs
  all_goals cases hs
end TP
end
section
/-! ===== the words that hold in every state that the machine comes to ===== -/
def gt : List Jvm.Cond := lw_tbl.filter goodWord
def t_at (i : Nat) : Option Jvm.Cond := if Nat.blt i 77 = true then lw_tbl[i]? else if Nat.blt i 317 = true then tables_1_1[i - 77]? else if Nat.blt i 557 = true then tables_1_2[i - 317]? else if Nat.blt i 797 = true then tables_1_3[i - 557]? else if Nat.blt i 1037 = true then tables_1_4[i - 797]? else if Nat.blt i 1277 = true then tables_1_5[i - 1037]? else if Nat.blt i 1517 = true then tables_1_6[i - 1277]? else if Nat.blt i 1673 = true then tables_1_7[i - 1517]? else none
theorem t_at_mem {i : Nat} {w : Jvm.Cond} (h : t_at i = some w) : w ∈ lw_tbl := by
  unfold t_at at h
  by_cases c : Nat.blt i 77 = true
  · rw [if_pos c] at h
    exact List.mem_of_getElem? h
  rw [if_neg c] at h
  have k : w ∈ tables_1 := by
    by_cases c0 : Nat.blt i 317 = true
    · rw [if_pos c0] at h
      exact List.mem_append_left _ (List.mem_of_getElem? h)
    rw [if_neg c0] at h
    by_cases c1 : Nat.blt i 557 = true
    · rw [if_pos c1] at h
      exact List.mem_append_right _ (List.mem_append_left _ (List.mem_of_getElem? h))
    rw [if_neg c1] at h
    by_cases c2 : Nat.blt i 797 = true
    · rw [if_pos c2] at h
      exact List.mem_append_right _ (List.mem_append_right _ (List.mem_append_left _ (List.mem_of_getElem? h)))
    rw [if_neg c2] at h
    by_cases c3 : Nat.blt i 1037 = true
    · rw [if_pos c3] at h
      exact List.mem_append_right _ (List.mem_append_right _ (List.mem_append_right _ (List.mem_append_left _ (List.mem_of_getElem? h))))
    rw [if_neg c3] at h
    by_cases c4 : Nat.blt i 1277 = true
    · rw [if_pos c4] at h
      exact List.mem_append_right _ (List.mem_append_right _ (List.mem_append_right _ (List.mem_append_right _ (List.mem_append_left _ (List.mem_of_getElem? h)))))
    rw [if_neg c4] at h
    by_cases c5 : Nat.blt i 1517 = true
    · rw [if_pos c5] at h
      exact List.mem_append_right _ (List.mem_append_right _ (List.mem_append_right _ (List.mem_append_right _ (List.mem_append_right _ (List.mem_append_left _ (List.mem_of_getElem? h))))))
    rw [if_neg c5] at h
    by_cases c6 : Nat.blt i 1673 = true
    · rw [if_pos c6] at h
      exact List.mem_append_right _ (List.mem_append_right _ (List.mem_append_right _ (List.mem_append_right _ (List.mem_append_right _ (List.mem_append_right _ (List.mem_of_getElem? h))))))
    rw [if_neg c6] at h
    cases h
  exact List.mem_append_right _ k
def t_in : List Jvm.Cond → List Nat → Bool
  | [], _ => true
  | w :: ws, i :: ps => decide (t_at i = some w) && (goodWord w && t_in ws ps)
  | _ :: _, [] => false
theorem t_in_of : ∀ {ws : List Jvm.Cond} {ps : List Nat}, t_in ws ps = true → ∀ w ∈ ws, w ∈ gt
  | [], _, _, w, h => by cases h
  | w :: ws, [], h, _, _ => by cases h
  | w :: ws, i :: ps, h, x, hx => by
    simp only [t_in, Bool.and_eq_true, decide_eq_true_eq] at h
    rcases List.mem_cons.mp hx with rfl | hx
    · exact List.mem_filter.mpr ⟨t_at_mem h.1, h.2.1⟩
    · exact t_in_of h.2.2 x hx
theorem gt_good {w : Jvm.Cond} (h : w ∈ gt) : (w.onTables && w.keeps) = true ∨ ∃ ty, w = .arrayClass ty := good_of_word (List.mem_filter.mp h).2
theorem gt_tbl {w : Jvm.Cond} (h : w ∈ gt) : w ∈ lw_tbl := (List.mem_filter.mp h).1
def t_ty (ci : Nat) : Nat → FieldType := match ci with
  | 0 => tyX0
  | 1 => tyX1
  | 2 => tyX2
  | 3 => tyX3
  | 4 => tyX4
  | 5 => tyX6
  | 6 => tyX8
  | 7 => tyX9
  | _ => tyX10
theorem t_cw0 : ∀ w ∈ u_ws RX0 TX0 1, w ∈ gt := t_in_of (ps := [189]) (by decide +kernel)
theorem t_ci0 : ∀ w ∈ ([.instantiable RX0 1, .initialized RX0] : List Jvm.Cond), w ∈ gt := t_in_of (ps := [181, 81]) (by decide +kernel)
theorem t_cw1 : ∀ w ∈ u_ws RX1 TX1 4, w ∈ gt := t_in_of (ps := [231, 233, 235, 237]) (by decide +kernel)
theorem t_ci1 : ∀ w ∈ ([.instantiable RX1 4, .initialized RX1] : List Jvm.Cond), w ∈ gt := t_in_of (ps := [220, 83]) (by decide +kernel)
theorem t_cw2 : ∀ w ∈ u_ws RX2 TX2 8, w ∈ gt := t_in_of (ps := [142, 144, 146, 148, 150, 152, 154, 156]) (by decide +kernel)
theorem t_ci2 : ∀ w ∈ ([.instantiable RX2 8, .initialized RX2] : List Jvm.Cond), w ∈ gt := t_in_of (ps := [105, 79]) (by decide +kernel)
theorem t_cw3 : ∀ w ∈ u_ws RX3 TX3 5, w ∈ gt := t_in_of (ps := [208, 210, 212, 214, 216]) (by decide +kernel)
theorem t_ci3 : ∀ w ∈ ([.instantiable RX3 5, .initialized RX3] : List Jvm.Cond), w ∈ gt := t_in_of (ps := [193, 82]) (by decide +kernel)
theorem t_cw4 : ∀ w ∈ u_ws RX4 TX4 2, w ∈ gt := t_in_of (ps := [175, 177]) (by decide +kernel)
theorem t_ci4 : ∀ w ∈ ([.instantiable RX4 2, .initialized RX4] : List Jvm.Cond), w ∈ gt := t_in_of (ps := [161, 80]) (by decide +kernel)
theorem t_cw5 : ∀ w ∈ u_ws RX6 TX6 4, w ∈ gt := t_in_of (ps := [286, 288, 290, 292]) (by decide +kernel)
theorem t_ci5 : ∀ w ∈ ([.instantiable RX6 4, .initialized RX6] : List Jvm.Cond), w ∈ gt := t_in_of (ps := [273, 85]) (by decide +kernel)
theorem t_cw6 : ∀ w ∈ u_ws RX8 TX8 7, w ∈ gt := t_in_of (ps := [256, 258, 260, 262, 264, 266, 268]) (by decide +kernel)
theorem t_ci6 : ∀ w ∈ ([.instantiable RX8 7, .initialized RX8] : List Jvm.Cond), w ∈ gt := t_in_of (ps := [241, 84]) (by decide +kernel)
theorem t_cw7 : ∀ w ∈ u_ws RX9 TX9 11, w ∈ gt := t_in_of (ps := [307, 309, 311, 313, 315, 317, 319, 321, 323, 325, 327]) (by decide +kernel)
theorem t_ci7 : ∀ w ∈ ([.instantiable RX9 11, .initialized RX9] : List Jvm.Cond), w ∈ gt := t_in_of (ps := [97, 78]) (by decide +kernel)
theorem t_cw8 : ∀ w ∈ u_ws RX10 TX10 31, w ∈ gt := t_in_of (ps := [1134, 1136, 1138, 1140, 1142, 1144, 1146, 1148, 1150, 1152, 1154, 1156, 1158, 1160, 1162, 1164, 1166, 1168, 1170, 1172, 1174, 1176, 1178, 1180, 1182, 1184, 1186, 1188, 1190, 1192, 1194]) (by decide +kernel)
theorem t_ci8 : ∀ w ∈ ([.instantiable RX10 31, .initialized RX10] : List Jvm.Cond), w ∈ gt := t_in_of (ps := [1096, 86]) (by decide +kernel)
theorem t_cw (ci : Nat) (q : vw_C) (h : vwCl[ci]? = some q) : ∀ w ∈ u_ws q.1 q.2.1 q.2.2, w ∈ gt := by
  match ci, h with
  | 0, h => cases h; exact t_cw0
  | 1, h => cases h; exact t_cw1
  | 2, h => cases h; exact t_cw2
  | 3, h => cases h; exact t_cw3
  | 4, h => cases h; exact t_cw4
  | 5, h => cases h; exact t_cw5
  | 6, h => cases h; exact t_cw6
  | 7, h => cases h; exact t_cw7
  | 8, h => cases h; exact t_cw8
  | n + 9, h => simp [vwCl] at h
theorem t_ci (ci : Nat) (q : vw_C) (h : vwCl[ci]? = some q) : ∀ w ∈ ([.instantiable q.1 q.2.2, .initialized q.1] : List Jvm.Cond), w ∈ gt := by
  match ci, h with
  | 0, h => cases h; exact t_ci0
  | 1, h => cases h; exact t_ci1
  | 2, h => cases h; exact t_ci2
  | 3, h => cases h; exact t_ci3
  | 4, h => cases h; exact t_ci4
  | 5, h => cases h; exact t_ci5
  | 6, h => cases h; exact t_ci6
  | 7, h => cases h; exact t_ci7
  | 8, h => cases h; exact t_ci8
  | n + 9, h => simp [vwCl] at h
theorem t_ct (ci : Nat) (q : vw_C) (h : vwCl[ci]? = some q) : ∀ k, k < q.2.2 → parseFieldDescriptor (q.2.1 k).2.2.1 = some (t_ty ci k) := by
  match ci, h with
  | 0, h => cases h; exact tyX0_ok
  | 1, h => cases h; exact tyX1_ok
  | 2, h => cases h; exact tyX2_ok
  | 3, h => cases h; exact tyX3_ok
  | 4, h => cases h; exact tyX4_ok
  | 5, h => cases h; exact tyX6_ok
  | 6, h => cases h; exact tyX8_ok
  | 7, h => cases h; exact tyX9_ok
  | 8, h => cases h; exact tyX10_ok
  | n + 9, h => simp [vwCl] at h
theorem t_cn (ci : Nat) (q : vw_C) (h : vwCl[ci]? = some q) : ∀ a, a < q.2.2 → ∀ b, b < q.2.2 → a ≠ b → (q.2.1 a).2.1 ≠ (q.2.1 b).2.1 := by
  match ci, h with
  | 0, h => cases h; exact nmX0
  | 1, h => cases h; exact nmX1
  | 2, h => cases h; exact nmX2
  | 3, h => cases h; exact nmX3
  | 4, h => cases h; exact nmX4
  | 5, h => cases h; exact nmX6
  | 6, h => cases h; exact nmX8
  | 7, h => cases h; exact nmX9
  | 8, h => cases h; exact nmX10
  | n + 9, h => simp [vwCl] at h
theorem t_cd (ci : Nat) (q : vw_C) (h : vwCl[ci]? = some q) : ∀ k, k < q.2.2 → (q.2.1 k).1 = q.1 := by
  match ci, h with
  | 0, h => cases h; exact (by decide +kernel)
  | 1, h => cases h; exact (by decide +kernel)
  | 2, h => cases h; exact (by decide +kernel)
  | 3, h => cases h; exact (by decide +kernel)
  | 4, h => cases h; exact (by decide +kernel)
  | 5, h => cases h; exact (by decide +kernel)
  | 6, h => cases h; exact (by decide +kernel)
  | 7, h => cases h; exact (by decide +kernel)
  | 8, h => cases h; exact (by decide +kernel)
  | n + 9, h => simp [vwCl] at h
end
section
/-! ===== cells: the small machine's, and the world's ===== -/
def t_e (σ : Nat → Nat) (kd : Nat → ClassId) : tE → va_E
  | .inl (k, .inl a) => .inl (kd k, a.length, .inl (fun i => a.getD i 0))
  | .inl (k, .inr (.inl a)) => .inl (kd k, a.length, .inr (.inl (fun i => a.getD i 0)))
  | .inl (k, .inr (.inr a)) => .inl (kd k, a.length, .inr (.inr (.inr (.inr (fun i => (a.getD i none).map σ)))))
  | .inr (c, fs) => .inr (c, fs.map (t_v σ))
def t_w (σ : Nat → Nat) (kd : Nat → ClassId) (th : tH) : va_W := th.mapIdx (fun i e => (σ i, t_e σ kd e))
theorem t_w_get {σ : Nat → Nat} {kd : Nat → ClassId} {th : tH} {k : Nat} {e : tE} (h : th[k]? = some e) : (t_w σ kd th)[k]? = some (σ k, t_e σ kd e) := by
  unfold t_w
  rw [List.getElem?_mapIdx, h]
  rfl
theorem t_w_len (σ : Nat → Nat) (kd : Nat → ClassId) (th : tH) : (t_w σ kd th).length = th.length := by
  unfold t_w
  exact List.length_mapIdx
theorem t_w_inv {σ : Nat → Nat} {kd : Nat → ClassId} {th : tH} {k : Nat} {q : Nat × va_E} (h : (t_w σ kd th)[k]? = some q) : ∃ e, th[k]? = some e ∧ q = (σ k, t_e σ kd e) := by
  unfold t_w at h
  rw [List.getElem?_mapIdx] at h
  cases he : th[k]? with
  | none => rw [he] at h; cases h
  | some e => rw [he] at h; exact ⟨e, rfl, (Option.some.inj h).symm⟩
theorem t_w_set {σ : Nat → Nat} {kd : Nat → ClassId} (th : tH) (k : Nat) (e : tE) : t_w σ kd (th.set k e) = (t_w σ kd th).set k (σ k, t_e σ kd e) := by
  apply List.ext_getElem?
  intro j
  unfold t_w
  rw [List.getElem?_mapIdx, List.getElem?_set, List.getElem?_set, List.getElem?_mapIdx, List.length_mapIdx]
  by_cases hj : k = j
  · subst hj
    simp only [if_true]
    by_cases hl : k < th.length
    · rw [if_pos hl, if_pos hl]; rfl
    · rw [if_neg hl, if_neg hl]; rfl
  · rw [if_neg hj, if_neg hj]
theorem t_w_app {σ : Nat → Nat} {kd : Nat → ClassId} (th : tH) (e : tE) : t_w σ kd (th ++ [e]) = t_w σ kd th ++ [(σ th.length, t_e σ kd e)] := by
  unfold t_w
  rw [List.mapIdx_append]
  simp
def t_tys (kd : Nat → ClassId) : List (ClassId × FieldType) := [(kd 0, .int), (kd 1, .long), (kd 2, .object "NineTrees$Shelf"), (kd 3, .array .long)]
/-- the ten words as they stand in the pools: whose, where, what, which -/
def t_strs : List (String × Nat × String × Nat) := [("NineTrees$Tape", 40, "side", 0), ("NineTrees$Tape", 49, "tree", 1), ("NineTrees$Tape", 54, "wish", 2), ("NineTrees$Tape", 59, "move", 3), ("NineTrees$Tape", 64, "fell", 4), ("NineTreesModel", 199, "side", 5), ("NineTreesModel", 207, "tree", 6), ("NineTreesModel", 209, "wish", 7), ("NineTreesModel", 214, "move", 8), ("NineTreesModel", 219, "fell", 9)]
def t_byt : List (List Int32) := [[115, 105, 100, 101], [116, 114, 101, 101], [119, 105, 115, 104], [109, 111, 118, 101], [102, 101, 108, 108], [115, 105, 100, 101], [116, 114, 101, 101], [119, 105, 115, 104], [109, 111, 118, 101], [102, 101, 108, 108]]
def t_nst : List (String × Nat × MethodName) := [("NineTrees", 9, ⟨"NineTrees$Garden", "<init>", "()V"⟩), ("NineTrees", 24, ⟨"NineTrees$RowList", "<init>", "()V"⟩), ("NineTrees", 31, ⟨"NineTrees$Crossings", "<init>", "()V"⟩), ("NineTrees", 38, ⟨"NineTrees$Moves", "<init>", "()V"⟩), ("NineTrees$Moves", 11, ⟨"NineTrees$Crossings", "<init>", "()V"⟩), ("NineTrees", 45, ⟨"NineTrees$Gap", "<init>", "()V"⟩), ("NineTrees", 52, ⟨"NineTrees$Tape", "<init>", "()V"⟩), ("NineTrees", 67, ⟨"NineTrees$Shelf", "<init>", "()V"⟩), ("NineTrees$RowList", 28, ⟨"NineTrees", "firstOf", "(I)I"⟩), ("NineTrees$RowList", 32, ⟨"NineTrees", "secondOf", "(I)I"⟩), ("NineTrees$Garden", 85, ⟨"NineTrees", "firstOf", "(I)I"⟩), ("NineTrees$Garden", 88, ⟨"NineTrees", "secondOf", "(I)I"⟩), ("NineTrees$Gap", 37, ⟨"NineTrees", "firstOf", "(I)I"⟩), ("NineTrees$Gap", 41, ⟨"NineTrees", "secondOf", "(I)I"⟩), ("NineTrees$Crossings", 37, ⟨"NineTrees", "firstOf", "(I)I"⟩), ("NineTrees$Crossings", 40, ⟨"NineTrees", "secondOf", "(I)I"⟩)]
/-- what the machine had before, and keeps -/
def t_Ex (σ : Nat → Nat) (A : Nat → Prop) (U : State) (H : Heap) : Prop :=
  (∀ i : Nat, i < 10 → va_O "java/lang/String" (σ (1001 + i)) A U H ∧ va_OF "java/lang/String" "coder" "B" (.int 0) (σ (1001 + i)) A U H ∧ va_OF "java/lang/String" "value" "[B" (.ref (σ (1021 + i))) (σ (1001 + i)) A U H ∧ va_T .byte (σ (1021 + i)) 4 (fun j => .int ((t_byt.getD i []).getD j 0)) A U H)
  ∧ va_Z "java/lang/String" "COMPACT_STRINGS" "Z" (.int 1) A U H ∧ va_Z "jdk/internal/util/Preconditions" "SIOOBE_FORMATTER" "Ljava/util/function/BiFunction;" (t_v σ (.retAddr 0)) A U H
  ∧ (∀ q ∈ t_strs, vk_R q.1 q.2.1 q.2.2.1 (σ (1001 + q.2.2.2)) U) ∧ (∀ q ∈ t_nst, va_Nw (.methodLinkNest q.1 q.2.1 q.2.2 "NineTrees") U) ∧ va_AO "NineTrees$Shelf" U ∧ (Cond.arrayOver (.array .long)).before #[] U = true
theorem t_Ex.kept {σ : Nat → Nat} {A : Nat → Prop} {U : State} {H H1 : Heap} (h : t_Ex σ A U H) (hq : ∀ a : Nat, a < H.size → ¬ A a → H1[a]? = H[a]?) : t_Ex σ A U H1 :=
  ⟨fun i hi => ⟨(h.1 i hi).1.kept hq, (h.1 i hi).2.1.kept hq, (h.1 i hi).2.2.1.kept hq, (h.1 i hi).2.2.2.kept hq⟩, h.2.1.kept hq, h.2.2.1.kept hq, h.2.2.2⟩
theorem t_Ex.narrow {σ : Nat → Nat} {A B : Nat → Prop} {U : State} {H : Heap} (h : t_Ex σ A U H) (hAB : ∀ q, B q → A q) : t_Ex σ B U H :=
  ⟨fun i hi => ⟨(h.1 i hi).1.narrow hAB, (h.1 i hi).2.1.narrow hAB, (h.1 i hi).2.2.1.narrow hAB, (h.1 i hi).2.2.2.narrow hAB⟩, h.2.1.narrow hAB, h.2.2.1.narrow hAB, h.2.2.2⟩
theorem t_Ex.warm {σ : Nat → Nat} {A : Nat → Prop} {s U : State} {H : Heap} (hW : s.WarmedH U.vm) (h : t_Ex σ A s H) : t_Ex σ A U H :=
  ⟨fun i hi => ⟨va_O.moved hW.alike (h.1 i hi).1, va_OF.moved hW.alike (h.1 i hi).2.1, va_OF.moved hW.alike (h.1 i hi).2.2.1, va_T.moved hW.alike (h.1 i hi).2.2.2⟩, va_Z.moved hW.alike h.2.1, va_Z.moved hW.alike h.2.2.1,
    fun q hq => vk_R.warm hW (h.2.2.2.1 q hq), fun q hq => va_Nw.warmM hW (h.2.2.2.2.1 q hq), va_AO.moved hW.alike h.2.2.2.2.2.1, arrayOver_alikeB hW.alike h.2.2.2.2.2.2⟩
theorem t_Ex.same {σ : Nat → Nat} {A : Nat → Prop} {u U : State} {H : Heap} (hv : u.vm = U.vm) (h : t_Ex σ A u H) : t_Ex σ A U H := by
  have ha : u.vm.Alike U.vm := by rw [← hv]; exact Vm.Alike.refl _
  exact ⟨fun i hi => ⟨va_O.moved ha (h.1 i hi).1, va_OF.moved ha (h.1 i hi).2.1, va_OF.moved ha (h.1 i hi).2.2.1, va_T.moved ha (h.1 i hi).2.2.2⟩, va_Z.moved ha h.2.1, va_Z.moved ha h.2.2.1,
    fun q hq => vk_R.same hv.symm (h.2.2.2.1 q hq), fun q hq => va_Nw.same rfl hv (h.2.2.2.2.1 q hq), va_AO.moved ha h.2.2.2.2.2.1, arrayOver_alikeB ha h.2.2.2.2.2.2⟩
theorem t_Ex.to {σ σ' : Nat → Nat} {A : Nat → Prop} {U : State} {H : Heap} (h : t_Ex σ A U H) (e : ∀ k, 1000 ≤ k → σ' k = σ k) : t_Ex σ' A U H := by
  obtain ⟨h1, h2, h3, h4, h5⟩ := h
  refine ⟨fun i hi => ?_, h2, ?_, fun q hq => ?_, h5⟩
  · rw [e (1001 + i) (by omega), e (1021 + i) (by omega)]
    exact h1 i hi
  · have e3 : t_v σ' (.retAddr 0) = t_v σ (.retAddr 0) := by
      show (match σ' 1040 with | 0 => Value.null | n + 1 => Value.ref n) = (match σ 1040 with | 0 => Value.null | n + 1 => Value.ref n)
      rw [e 1040 (by omega)]
    rw [e3]
    exact h3
  · rw [e (1001 + q.2.2.2) (by omega)]
    exact h4 q hq
/-- instructions that read cells -/
def t_R (xo : Option (List Int32)) (cat : Nat) (ins : Instr) (pc a1 a2 : Nat) (st : List Value) (th : tH) : Option (Nat × List Value) := match ins with
  | .getfield _ => t_r1 st fun k r =>
      if cat = 3 then match th[k]? with
        | some (.inr (c, fs)) => if c = a1 then (fs[a2]?).map (fun v => (pc + 3, v :: r)) else none
        | _ => none
      else if 1001 ≤ k ∧ k < 1011 then some (pc + 3, (if a2 = 0 then .int 0 else .ref (k + 20)) :: r) else none
  | .iaload => t_ri st fun k i r =>
      if k = 1000 then match xo with
        | some xs => if i < 0 then none else (xs[i.toNatClampNeg]?).map (fun x => (pc + 1, .int x :: r))
        | none => none
      else match th[k]? with
        | some (.inl (d, .inl a)) => if d = 0 ∧ ¬ i < 0 then (a[i.toNatClampNeg]?).map (fun x => (pc + 1, .int x :: r)) else none
        | _ => none
  | .laload => t_ri st fun k i r => match th[k]? with
      | some (.inl (d, .inr (.inl a))) => if d = 1 ∧ ¬ i < 0 then (a[i.toNatClampNeg]?).map (fun x => (pc + 1, .long x :: r)) else none
      | _ => none
  | .aaload => t_ri st fun k i r => match th[k]? with
      | some (.inl (d, .inr (.inr a))) => if (d = 2 ∨ d = 3) ∧ ¬ i < 0 then (a[i.toNatClampNeg]?).map (fun x => (pc + 1, va_rf x :: r)) else none
      | _ => none
  | .baload => t_ri st fun k i r => if (1021 ≤ k ∧ k < 1031) ∧ ¬ i < 0 then ((t_byt.getD (k - 1021) [])[i.toNatClampNeg]?).map (fun x => (pc + 1, .int x :: r)) else none
  | .arraylength => t_r1 st fun k r =>
      if k = 1000 then xo.map (fun xs => (pc + 1, .int (Int32.ofNat xs.length) :: r))
      else if 1021 ≤ k ∧ k < 1031 then some (pc + 1, .int (Int32.ofNat 4) :: r)
      else match th[k]? with
        | some (.inl (d, .inl a)) => if d = 0 then some (pc + 1, .int (Int32.ofNat a.length) :: r) else none
        | some (.inl (d, .inr (.inl a))) => if d = 1 then some (pc + 1, .int (Int32.ofNat a.length) :: r) else none
        | some (.inl (d, .inr (.inr a))) => if d = 2 then some (pc + 1, .int (Int32.ofNat a.length) :: r) else none
        | _ => none
  | .getstatic _ => some (pc + 3, (if a1 = 0 then .int 1 else .retAddr 0) :: st)
  | .ldc _ => some (pc + 2, .ref (1001 + a1) :: st)
  | _ => none
/-- the pool's words that an instruction leans on -/
def t_fl (own : String) (k a1 a2 : Nat) : List Jvm.Cond := match vwCl[a1]? with
  | some q => [.fieldLink own k (q.2.1 a2).1 (q.2.1 a2).2.1 (q.2.1 a2).2.2.1]
  | none => []
def t_needR (own : String) (cat : Nat) (ins : Instr) (a1 a2 : Nat) : List Jvm.Cond := match ins with
  | .getfield k => if cat = 3 then t_fl own k a1 a2 else if a2 = 0 then [.fieldLink own k "java/lang/String" "coder" "B"] else [.fieldLink own k "java/lang/String" "value" "[B"]
  | .getstatic k => if a1 = 0 then [.fieldLink own k "java/lang/String" "COMPACT_STRINGS" "Z"] else [.fieldLink own k "jdk/internal/util/Preconditions" "SIOOBE_FORMATTER" "Ljava/util/function/BiFunction;"]
  | _ => []
/-- what the table of the code says more of an instruction that reads -/
def t_okR (own : String) (cat : Nat) (ins : Instr) (a1 a2 : Nat) : Bool := match ins with
  | .getfield _ => if cat = 3 then (match vwCl[a1]? with | some q => decide (a2 < q.2.2) | none => false) else true
  | .ldc k => t_strs.any (fun q => q.1 == own && (q.2.1 == k && q.2.2.2 == a1))
  | _ => true
theorem t_getD {α : Type} {a : List α} {i : Nat} {x d : α} (h : a[i]? = some x) : a.getD i d = x := by
  rw [List.getD_eq_getElem?_getD, h]
  rfl
theorem t_inb {i : Int32} {n : Nat} (h : ¬ i < 0) (h2 : i.toNatClampNeg < n) : vp_in i n := fun z => z.elim h (fun q => absurd h2 (Nat.not_lt.mpr q))
section TR
variable {p : Program} {l : Launch} {e : Env} {R : Room} {s : State} {m : MethodId} {args : Array Value} {below : List Frame} {meth : Method} {c : Code} {H : Heap} {locs : List Loc} {cells slots : Nat} {Q : State → Prop}
variable {cc : ByteArray} {pc : Nat} {ls : Array Slot} {σ : Nat → Nat} {kd : Nat → ClassId} {cat a1 a2 : Nat} {st st' : List Value} {th : tH} {pc' len : Nat} {own : String} {ins : Instr} {D : va_G} {A : Nat → Prop} {xo : Option (List Int32)}
/-- the script, where the method has it -/
def t_Sc (σ : Nat → Nat) (A : Nat → Prop) (xo : Option (List Int32)) (s : State) : Prop := ∀ xs, xo = some xs → va_X (σ 1000) xs.length (fun j => xs.getD j 0) s s.heap ∧ σ 1000 < s.heap.size ∧ ¬ A (σ 1000)
set_option maxHeartbeats 4000000 in
theorem t_R_ok (hx : p.tables.exec = Jvm.exec) (hb : c.code = cc) (hown : s.vm.findClass own = some m.cls) (hts : ∀ w ∈ gt, w.before args s = true) (hd : decode cc pc = .ok (ins, len)) (hlen : t_len ins = 0 ∨ t_len ins = len) (hn : ∀ w ∈ t_needR own cat ins a1 a2, w ∈ gt) (ho : t_okR own cat ins a1 a2 = true)
    (hK : va_K D vwCl (t_tys kd) s) (hP : va_P D vwCl (t_w σ kd th) H) (hS : va_S A s.heap H locs) (hE : t_Ex σ A s s.heap) (hX : t_Sc σ A xo s) (hs : t_R xo cat ins pc a1 a2 st th = some (pc', st'))
    (k : W p l e R s m args below meth c H locs cells slots Q (F0 m pc' ls (st'.map (t_v σ)))) : W p l e R s m args below meth c H locs cells slots Q (F0 m pc ls (st.map (t_v σ))) := by
  cases ins
  case getfield n =>
    cases hlen.resolve_left (by simp [t_len])
    simp only [t_R] at hs
    obtain ⟨x, r, e1, hs2⟩ := t_r1_of hs
    subst e1
    clear hs
    split at hs2
    · rename_i hc3
      split at hs2
      · rename_i cx fs hth
        split at hs2
        · rename_i hca
          subst hca
          cases hv : fs[a2]? with
          | none => rw [hv] at hs2; cases hs2
          | some v =>
            rw [hv] at hs2
            cases hs2
            simp only [t_okR, hc3, if_true] at ho
            cases hq : vwCl[cx]? with
            | none => rw [hq] at ho; cases ho
            | some q =>
              rw [hq] at ho
              have hw : Cond.fieldLink own n (q.2.1 a2).1 (q.2.1 a2).2.1 (q.2.1 a2).2.2.1 ∈ gt := hn _ (by simp [t_needR, hc3, t_fl, hq])
              exact va_get (Ts := gt) (cl := vwCl) (C := q.1) (T := q.2.1) (N := q.2.2) hx hb hts (t_cw cx q hq) hown hK hP x (t_w_get hth) hq a2 (of_decide_eq_true ho) (hts _ hw) (fun _ h => h) (v := t_v σ v) (by rw [List.getElem?_map, hv]; rfl) hd k
        · cases hs2
      · cases hs2
    · rename_i hc3
      obtain ⟨⟨g1, g2⟩, hs2⟩ := t_if_of hs2
      cases hs2
      obtain ⟨i, rfl⟩ : ∃ i, x = 1001 + i := ⟨x - 1001, by omega⟩
      obtain ⟨e1, e2, e3, e4⟩ := hE.1 i (by omega)
      by_cases ha : a2 = 0
      · have hw : Cond.fieldLink own n "java/lang/String" "coder" "B" ∈ gt := hn _ (by simp [t_needR, hc3, ha])
        rw [if_pos ha] at k
        exact vk_getf hx hb e2 hS hown (hts _ hw) (fun _ h => h) hd k
      · have hw : Cond.fieldLink own n "java/lang/String" "value" "[B" ∈ gt := hn _ (by simp [t_needR, hc3, ha])
        rw [if_neg ha] at k
        have e5 : 1001 + i + 20 = 1021 + i := by omega
        rw [e5] at k
        exact vk_getf hx hb e3 hS hown (hts _ hw) (fun _ h => h) hd k
  case iaload =>
    cases hlen.resolve_left (by simp [t_len])
    simp only [t_R] at hs
    obtain ⟨x, i, r, e1, hs2⟩ := t_ri_of hs
    subst e1
    clear hs
    split at hs2
    · rename_i hx0
      subst hx0
      cases xo with
      | none => cases hs2
      | some xs =>
        obtain ⟨h1, h2, h3⟩ := hX xs rfl
        simp only at hs2
        split at hs2
        · cases hs2
        · rename_i hi
          cases hv : xs[i.toNatClampNeg]? with
          | none => rw [hv] at hs2; cases hs2
          | some v =>
            rw [hv] at hs2
            cases hs2
            refine va_sld hx hb h1 h2 h3 hS (t_inb hi (List.getElem?_eq_some_iff.mp hv).1) hd ?_
            show W p l e R s m args below meth c H locs cells slots Q (F0 m (pc + 1) ls (.int (xs.getD i.toNatClampNeg 0) :: r.map (t_v σ)))
            rw [t_getD hv]
            exact k
    · split at hs2
      · rename_i d a hth
        split at hs2
        · rename_i hdi
          obtain ⟨rfl, hi⟩ := hdi
          cases hv : a[i.toNatClampNeg]? with
          | none => rw [hv] at hs2; cases hs2
          | some v =>
            rw [hv] at hs2
            cases hs2
            refine va_iald hx hb hK hP x 0 (t_w_get hth) rfl (t_inb hi (List.getElem?_eq_some_iff.mp hv).1) hd ?_
            show W p l e R s m args below meth c H locs cells slots Q (F0 m (pc + 1) ls (.int (a.getD i.toNatClampNeg 0) :: r.map (t_v σ)))
            rw [t_getD hv]
            exact k
        · cases hs2
      · cases hs2
  case laload =>
    cases hlen.resolve_left (by simp [t_len])
    simp only [t_R] at hs
    obtain ⟨x, i, r, e1, hs2⟩ := t_ri_of hs
    subst e1
    clear hs
    split at hs2
    · rename_i d a hth
      split at hs2
      · rename_i hdi
        obtain ⟨rfl, hi⟩ := hdi
        cases hv : a[i.toNatClampNeg]? with
        | none => rw [hv] at hs2; cases hs2
        | some v =>
          rw [hv] at hs2
          cases hs2
          refine va_lald hx hb hK hP x 1 (t_w_get hth) rfl (t_inb hi (List.getElem?_eq_some_iff.mp hv).1) hd ?_
          show W p l e R s m args below meth c H locs cells slots Q (F0 m (pc + 1) ls (.long (a.getD i.toNatClampNeg 0) :: r.map (t_v σ)))
          rw [t_getD hv]
          exact k
      · cases hs2
    · cases hs2
  case aaload =>
    cases hlen.resolve_left (by simp [t_len])
    simp only [t_R] at hs
    obtain ⟨x, i, r, e1, hs2⟩ := t_ri_of hs
    subst e1
    clear hs
    split at hs2
    · rename_i d a hth
      split at hs2
      · rename_i hdi
        obtain ⟨hdd, hi⟩ := hdi
        cases hv : a[i.toNatClampNeg]? with
        | none => rw [hv] at hs2; cases hs2
        | some v =>
          rw [hv] at hs2
          cases hs2
          have hlt := (List.getElem?_eq_some_iff.mp hv).1
          have k2 : W p l e R s m args below meth c H locs cells slots Q (F0 m (pc + 1) ls (va_rf ((a.getD i.toNatClampNeg none).map σ) :: r.map (t_v σ))) := by
            rw [t_getD hv, ← t_rf_v]
            exact k
          rcases hdd with rfl | rfl
          · exact va_aldq hx hb hK hP x 2 (t_w_get hth) rfl (t_inb hi hlt) hd k2
          · refine W.aald (v := va_rf ((a.getD i.toNatClampNeg none).map σ)) (ty := .array .long) hx hb (hP x _ (t_w_get hth)) ((hK.2 3 _ rfl).1 a.length (fun j => va_rf ((a.getD j none).map σ))) rfl (fun q => by cases q) (by show ¬ (i < 0 ∨ (arrV _ _ _).slots.size ≤ _); rw [arrV_size]; exact t_inb hi hlt) (by show (arrV _ _ _).slots[_]? = _; rw [arrV_read _ _ hlt]) rfl rfl hd k2
      · cases hs2
    · cases hs2
  case baload =>
    cases hlen.resolve_left (by simp [t_len])
    simp only [t_R] at hs
    obtain ⟨x, i, r, e1, hs2⟩ := t_ri_of hs
    subst e1
    clear hs
    split at hs2
    · rename_i hdi
      obtain ⟨⟨g1, g2⟩, hi⟩ := hdi
      obtain ⟨j, rfl⟩ : ∃ j, x = 1021 + j := ⟨x - 1021, by omega⟩
      have ej : 1021 + j - 1021 = j := by omega
      rw [ej] at hs2
      have hl4 : (t_byt.getD j []).length = 4 := by
        have : ∀ j, j < 10 → (t_byt.getD j []).length = 4 := by decide +kernel
        exact this j (by omega)
      cases hv : (t_byt.getD j [])[i.toNatClampNeg]? with
      | none => rw [hv] at hs2; cases hs2
      | some v =>
        rw [hv] at hs2
        cases hs2
        have hlt := (List.getElem?_eq_some_iff.mp hv).1
        exact va_tb hx hb (hE.1 j (by omega)).2.2.2 hS (t_inb hi (by omega)) (v := .int v) (by show Value.int ((t_byt.getD j []).getD i.toNatClampNeg 0) = _; rw [t_getD hv]) hd k
    · cases hs2
  case arraylength =>
    cases hlen.resolve_left (by simp [t_len])
    simp only [t_R] at hs
    obtain ⟨x, r, e1, hs2⟩ := t_r1_of hs
    subst e1
    clear hs
    split at hs2
    · rename_i hx0
      subst hx0
      cases xo with
      | none => cases hs2
      | some xs =>
        cases hs2
        obtain ⟨h1, h2, h3⟩ := hX xs rfl
        exact va_slen hx hb h1 h2 h3 hS hd k
    · split at hs2
      · rename_i hg
        cases hs2
        obtain ⟨j, rfl⟩ : ∃ j, x = 1021 + j := ⟨x - 1021, by omega⟩
        exact va_tlen hx hb (hE.1 j (by omega)).2.2.2 hS rfl hd k
      · split at hs2
        · rename_i d a hth
          obtain ⟨rfl, hs2⟩ := t_if_of hs2
          cases hs2
          exact va_alen hx hb hK hP x 0 (t_w_get hth) rfl rfl hd k
        · rename_i d a hth
          obtain ⟨rfl, hs2⟩ := t_if_of hs2
          cases hs2
          exact va_alen hx hb hK hP x 1 (t_w_get hth) rfl rfl hd k
        · rename_i d a hth
          obtain ⟨rfl, hs2⟩ := t_if_of hs2
          cases hs2
          exact va_alen hx hb hK hP x 2 (t_w_get hth) rfl rfl hd k
        · cases hs2
  case getstatic n =>
    cases hlen.resolve_left (by simp [t_len])
    cases hs
    by_cases ha : a1 = 0
    · have hw : Cond.fieldLink own n "java/lang/String" "COMPACT_STRINGS" "Z" ∈ gt := hn _ (by simp [t_needR, ha])
      rw [if_pos ha] at k
      exact va_gets hx hb hE.2.1 hS hown (hts _ hw) (fun _ h => h) hd k
    · have hw : Cond.fieldLink own n "jdk/internal/util/Preconditions" "SIOOBE_FORMATTER" "Ljava/util/function/BiFunction;" ∈ gt := hn _ (by simp [t_needR, ha])
      rw [if_neg ha] at k
      exact va_gets hx hb hE.2.2.1 hS hown (hts _ hw) (fun _ h => h) hd k
  case ldc n =>
    cases hlen.resolve_left (by simp [t_len])
    cases hs
    simp only [t_okR, List.any_eq_true, Bool.and_eq_true, beq_iff_eq] at ho
    obtain ⟨q, hq, q1, q2, q3⟩ := ho
    have hZ := hE.2.2.2.1 q hq
    rw [q1, q2, q3] at hZ
    exact va_ldcS hx hb hown hZ hd k
  all_goals cases hs
end TR
end
section
/-! ===== instructions that write cells ===== -/
def t_fit (cat : Nat) (v : Value) : Bool := match v with
  | .int x => cat == 8 || (cat == 9 && (x == 0 || x == 1))
  | .ref _ | .null => cat == 10 || cat == 11
  | _ => false
def t_fty (cat : Nat) (ty : FieldType) : Bool := match ty with
  | .int => cat == 8
  | .boolean => cat == 9
  | .object _ | .array _ => cat == 10 || cat == 11
  | _ => false
theorem t_fits {cat : Nat} {ty : FieldType} {v : Value} (σ : Nat → Nat) (h1 : t_fty cat ty = true) (h2 : t_fit cat v = true) : narrow ty (t_v σ v) = t_v σ v ∧ fits ty (t_v σ v) = true := by
  cases ty <;> cases v <;> simp [t_fty, t_fit] at h1 h2 <;> (try subst h1) <;> simp_all [narrow, fits, t_v]
  · rcases h2 with rfl | rfl <;> decide
  all_goals omega
def t_cpy {α : Type} (f g : List α) (sp dp n : Nat) : List α := g.take dp ++ ((f.drop sp).take n ++ g.drop (dp + n))
theorem t_cpy_len {α : Type} {f g : List α} {sp dp n : Nat} (h1 : sp + n ≤ f.length) (h2 : dp + n ≤ g.length) : (t_cpy f g sp dp n).length = g.length := by
  simp [t_cpy]
  omega
theorem t_cpy_get {α : Type} {f g : List α} {sp dp n : Nat} (d : α) (h1 : sp + n ≤ f.length) (h2 : dp + n ≤ g.length) (i : Nat) : (t_cpy f g sp dp n).getD i d = va_cpy (fun i => f.getD i d) (fun i => g.getD i d) sp dp n i := by
  show _ = if dp ≤ i ∧ i < dp + n then f.getD (sp + (i - dp)) d else g.getD i d
  unfold t_cpy
  rw [List.getD_eq_getElem?_getD]
  by_cases c1 : i < dp
  · rw [List.getElem?_append_left (by simp; omega), List.getElem?_take, if_pos c1, if_neg (by omega), List.getD_eq_getElem?_getD]
  · rw [List.getElem?_append_right (by simp; omega)]
    by_cases c2 : i < dp + n
    · rw [if_pos ⟨by omega, c2⟩, List.getElem?_append_left (by simp; omega), List.getElem?_take, if_pos (by simp; omega), List.getElem?_drop, List.getD_eq_getElem?_getD]
      congr 2
      simp
      omega
    · rw [if_neg (by omega), List.getElem?_append_right (by simp; omega), List.getElem?_drop, List.getD_eq_getElem?_getD]
      congr 2
      simp
      omega
theorem t_upd {f : List Int32} {k : Nat} {x : Int32} (h : k < f.length) : (fun i => (f.set k x).getD i 0) = upd (fun i => f.getD i 0) k x := by
  funext i
  by_cases hi : i = k
  · subst hi
    rw [pk_us, List.getD_eq_getElem?_getD, List.getElem?_set_self h]
    rfl
  · rw [pk_un hi, List.getD_eq_getElem?_getD, List.getElem?_set_ne (fun e => hi e.symm), List.getD_eq_getElem?_getD]
theorem t_updL {f : List Int64} {k : Nat} {x : Int64} (h : k < f.length) : (fun i => (f.set k x).getD i 0) = vp_updL (fun i => f.getD i 0) k x := by
  funext i
  by_cases hi : i = k
  · subst hi
    rw [pk_uLs, List.getD_eq_getElem?_getD, List.getElem?_set_self h]
    rfl
  · rw [pk_uLn hi, List.getD_eq_getElem?_getD, List.getElem?_set_ne (fun e => hi e.symm), List.getD_eq_getElem?_getD]
theorem t_updR {f : List (Option Nat)} {k x : Nat} {σ : Nat → Nat} (h : k < f.length) : (fun i => ((f.set k (some x)).getD i none).map σ) = va_up (fun i => (f.getD i none).map σ) k (some (σ x)) := by
  funext i
  show _ = if i = k then some (σ x) else (f.getD i none).map σ
  by_cases hi : i = k
  · subst hi
    rw [if_pos rfl, List.getD_eq_getElem?_getD, List.getElem?_set_self h]
    rfl
  · rw [if_neg hi, List.getD_eq_getElem?_getD, List.getElem?_set_ne (fun e => hi e.symm), List.getD_eq_getElem?_getD]
def t_W (cat : Nat) (ins : Instr) (pc a1 a2 : Nat) (st : List Value) (th : tH) : Option (Nat × List Value × tH) := match ins with
  | .putfield _ => match st with
    | v :: .ref k :: r => match th[k]? with
      | some (.inr (c, fs)) => if c = a1 ∧ a2 < fs.length ∧ t_fit cat v = true then some (pc + 3, r, th.set k (.inr (c, fs.set a2 v))) else none
      | _ => none
    | _ => none
  | .iastore => t_rii st fun k i x r => match th[k]? with
    | some (.inl (d, .inl a)) => if d = 0 ∧ ¬ i < 0 ∧ i.toNatClampNeg < a.length then some (pc + 1, r, th.set k (.inl (0, .inl (a.set i.toNatClampNeg x)))) else none
    | _ => none
  | .lastore => t_rij st fun k i x r => match th[k]? with
    | some (.inl (d, .inr (.inl a))) => if d = 1 ∧ ¬ i < 0 ∧ i.toNatClampNeg < a.length then some (pc + 1, r, th.set k (.inl (1, .inr (.inl (a.set i.toNatClampNeg x))))) else none
    | _ => none
  | .aastore => t_rir st fun k i x r => match th[k]? with
    | some (.inl (d, .inr (.inr a))) => match th[x]? with
      | some (.inr (c, _)) => if d = 2 ∧ c = 5 ∧ ¬ i < 0 ∧ i.toNatClampNeg < a.length then some (pc + 1, r, th.set k (.inl (2, .inr (.inr (a.set i.toNatClampNeg (some x)))))) else none
      | _ => none
    | _ => none
  | .invokestatic _ => match st with
    | .int n :: .int dp :: .ref k :: .int sp :: .ref j :: r =>
      if ¬ sp < 0 ∧ ¬ dp < 0 ∧ ¬ n < 0 ∧ (r.map fun v => v.category).sum ≤ 8 then
        if cat = 13 then match th[j]? with
          | some (.inl (d, .inl f)) => match th[k]? with
            | some (.inl (d', .inl g)) => if d = 0 ∧ d' = 0 ∧ sp.toNatClampNeg + n.toNatClampNeg ≤ f.length ∧ dp.toNatClampNeg + n.toNatClampNeg ≤ g.length then some (pc + 3, r, th.set k (.inl (0, .inl (t_cpy f g sp.toNatClampNeg dp.toNatClampNeg n.toNatClampNeg)))) else none
            | _ => none
          | _ => none
        else match th[j]? with
          | some (.inl (d, .inr (.inl f))) => match th[k]? with
            | some (.inl (d', .inr (.inl g))) => if d = 1 ∧ d' = 1 ∧ sp.toNatClampNeg + n.toNatClampNeg ≤ f.length ∧ dp.toNatClampNeg + n.toNatClampNeg ≤ g.length then some (pc + 3, r, th.set k (.inl (1, .inr (.inl (t_cpy f g sp.toNatClampNeg dp.toNatClampNeg n.toNatClampNeg))))) else none
            | _ => none
          | _ => none
      else none
    | _ => none
  | _ => none
def t_needW (own : String) (ins : Instr) (a1 a2 : Nat) : List Jvm.Cond := match ins with
  | .putfield k => t_fl own k a1 a2
  | .invokestatic k => [.methodLink own k arraycopyName, .native arraycopyName, .static arraycopyName, .initialized "java/lang/System"]
  | _ => []
def t_okW (own mn : String) (cat : Nat) (ins : Instr) (a1 a2 : Nat) : Bool := match ins with
  | .putfield _ => match vwCl[a1]? with
    | some q => decide (a2 < q.2.2) && (t_fty cat (t_ty a1 a2) && ((q.2.1 a2).2.2.2 == (cat == 11) && (cat != 11 || (mn == "<init>" && (q.2.1 a2).1 == own))))
    | none => false
  | _ => true
section TW
variable {p : Program} {l : Launch} {e : Env} {R : Room} {s : State} {m : MethodId} {args : Array Value} {below : List Frame} {meth : Method} {c : Code} {H : Heap} {locs : List Loc} {cells slots : Nat} {Q : State → Prop}
variable {cc : ByteArray} {pc : Nat} {ls : Array Slot} {σ : Nat → Nat} {kd : Nat → ClassId} {cat a1 a2 : Nat} {st st' : List Value} {th th' : tH} {pc' len : Nat} {own : String} {ins : Instr} {D : va_G} {A : Nat → Prop}
set_option maxHeartbeats 4000000 in
theorem t_W_ok (hx : p.tables.exec = Jvm.exec) (hb : c.code = cc) (hml : c.maxLocals = ls.size) (hown : s.vm.findClass own = some m.cls) (hts : ∀ w ∈ gt, w.before args s = true) (hd : decode cc pc = .ok (ins, len)) (hlen : t_len ins = 0 ∨ t_len ins = len) (hn : ∀ w ∈ t_needW own ins a1 a2, w ∈ gt) (ho : t_okW own meth.name cat ins a1 a2 = true)
    (hR : 1 ≤ R.frames ∧ 38 ≤ R.locals) (hK : va_K D vwCl (t_tys kd) s) (hP : va_P D vwCl (t_w σ kd th) H) (hD : va_D A (t_w σ kd th)) (hS : va_S A s.heap H locs) (hs : t_W cat ins pc a1 a2 st th = some (pc', st', th'))
    (k : ∀ (H1 : Heap) (locs1 : List Loc), va_P D vwCl (t_w σ kd th') H1 → va_D A (t_w σ kd th') → va_S A s.heap H1 locs1 → W p l e R s m args below meth c H1 locs1 cells slots Q (F0 m pc' ls (st'.map (t_v σ)))) : W p l e R s m args below meth c H locs cells slots Q (F0 m pc ls (st.map (t_v σ))) := by
  cases ins
  case putfield n =>
    cases hlen.resolve_left (by simp [t_len])
    rcases st with _ | ⟨v, _ | ⟨w, r⟩⟩
    · cases hs
    · cases hs
    cases w with
    | ref x =>
      simp only [t_W] at hs
      split at hs
      · rename_i cx fs hth
        obtain ⟨⟨rfl, hl, hf⟩, hs3⟩ := t_if_of hs
        cases hs3
        simp only [t_okW] at ho
        cases hq : vwCl[cx]? with
        | none => rw [hq] at ho; cases ho
        | some q =>
          rw [hq] at ho
          simp only [Bool.and_eq_true, Bool.or_eq_true, decide_eq_true_eq, beq_iff_eq, bne_iff_ne] at ho
          obtain ⟨h1, h2, h3, h4⟩ := ho
          have hw : Cond.fieldLink own n (q.2.1 a2).1 (q.2.1 a2).2.1 (q.2.1 a2).2.2.1 ∈ gt := hn _ (by simp [t_needW, t_fl, hq])
          obtain ⟨g1, g2⟩ := t_fits σ h2 hf
          have ek : ∀ (H1 : Heap) (locs1 : List Loc), va_P D vwCl ((t_w σ kd th).set x (σ x, .inr (cx, (fs.map (t_v σ)).set a2 (t_v σ v)))) H1 → va_D A ((t_w σ kd th).set x (σ x, .inr (cx, (fs.map (t_v σ)).set a2 (t_v σ v)))) → va_S A s.heap H1 locs1 → W p l e R s m args below meth c H1 locs1 cells slots Q (F0 m (pc + 3) ls (st'.map (t_v σ))) := by
            intro H1 locs1 j1 j2 j3
            have ew : (t_w σ kd th).set x (σ x, .inr (cx, (fs.map (t_v σ)).set a2 (t_v σ v))) = t_w σ kd (th.set x (.inr (cx, fs.set a2 v))) := by
              rw [t_w_set]
              show _ = (t_w σ kd th).set x (σ x, .inr (cx, (fs.set a2 v).map (t_v σ)))
              rw [List.map_set]
            rw [ew] at j1 j2
            exact k H1 locs1 j1 j2 j3
          by_cases hc : cat = 11
          · obtain ⟨m1, m2⟩ := h4.resolve_left (fun z => z hc)
            exact va_putF (Ts := gt) (cl := vwCl) (C := q.1) (T := q.2.1) (N := q.2.2) hx hb hts (t_cw cx q hq) (t_ty cx) (t_ct cx q hq) (t_cn cx q hq) hown hK hP hD hS x (t_w_get hth) hq a2 h1 (hts _ hw) (fun _ h => h) (by rw [h3, hc]; rfl) m1 m2 (t_ct cx q hq a2 h1) g1 g2 (by rw [List.length_map]; exact hl) hd ek
          · exact va_put (Ts := gt) (cl := vwCl) (C := q.1) (T := q.2.1) (N := q.2.2) hx hb hts (t_cw cx q hq) (t_ty cx) (t_ct cx q hq) (t_cn cx q hq) hown hK hP hD hS x (t_w_get hth) hq a2 h1 (hts _ hw) (fun _ h => h) (by rw [h3]; simp [hc]) (t_ct cx q hq a2 h1) g1 g2 (by rw [List.length_map]; exact hl) hd ek
      · cases hs
    | _ => cases hs
  case iastore =>
    cases hlen.resolve_left (by simp [t_len])
    simp only [t_W] at hs
    obtain ⟨x, i, y, r, e1, hs2⟩ := t_rii_of hs
    subst e1
    clear hs
    split at hs2
    · rename_i d a hth
      obtain ⟨⟨rfl, hi, hl⟩, hs3⟩ := t_if_of hs2
      cases hs3
      refine va_iast hx hb hK hP hD hS x 0 (t_w_get hth) rfl (t_inb hi hl) hd (fun H1 locs1 j1 j2 j3 => ?_)
      have ew : (t_w σ kd th).set x (σ x, .inl (kd 0, a.length, .inl (upd (fun i => a.getD i 0) i.toNatClampNeg y))) = t_w σ kd (th.set x (.inl (0, .inl (a.set i.toNatClampNeg y)))) := by
        rw [t_w_set]
        show _ = (t_w σ kd th).set x (σ x, .inl (kd 0, (a.set i.toNatClampNeg y).length, .inl (fun j => (a.set i.toNatClampNeg y).getD j 0)))
        rw [t_upd hl, List.length_set]
      rw [ew] at j1 j2
      exact k H1 locs1 j1 j2 j3
    · cases hs2
  case lastore =>
    cases hlen.resolve_left (by simp [t_len])
    simp only [t_W] at hs
    obtain ⟨x, i, y, r, e1, hs2⟩ := t_rij_of hs
    subst e1
    clear hs
    split at hs2
    · rename_i d a hth
      obtain ⟨⟨rfl, hi, hl⟩, hs3⟩ := t_if_of hs2
      cases hs3
      refine va_last hx hb hK hP hD hS x 1 (t_w_get hth) rfl (t_inb hi hl) hd (fun H1 locs1 j1 j2 j3 => ?_)
      have ew : (t_w σ kd th).set x (σ x, .inl (kd 1, a.length, .inr (.inl (vp_updL (fun i => a.getD i 0) i.toNatClampNeg y)))) = t_w σ kd (th.set x (.inl (1, .inr (.inl (a.set i.toNatClampNeg y))))) := by
        rw [t_w_set]
        show _ = (t_w σ kd th).set x (σ x, .inl (kd 1, (a.set i.toNatClampNeg y).length, .inr (.inl (fun j => (a.set i.toNatClampNeg y).getD j 0))))
        rw [t_updL hl, List.length_set]
      rw [ew] at j1 j2
      exact k H1 locs1 j1 j2 j3
    · cases hs2
  case aastore =>
    cases hlen.resolve_left (by simp [t_len])
    simp only [t_W] at hs
    obtain ⟨x, i, y, r, e1, hs2⟩ := t_rir_of hs
    subst e1
    clear hs
    split at hs2
    · rename_i d a hth
      split at hs2
      · rename_i cy fy hty
        obtain ⟨⟨rfl, rfl, hi, hl⟩, hs3⟩ := t_if_of hs2
        cases hs3
        refine va_astq (r := (RX6, TX6, 4)) hx hb hK hP hD hS x 2 y 5 (t_w_get hth) rfl (t_w_get hty) rfl (t_inb hi hl) hd (fun H1 locs1 j1 j2 j3 => ?_)
        have ew : (t_w σ kd th).set x (σ x, .inl (kd 2, a.length, .inr (.inr (.inr (.inr (va_up (fun i => (a.getD i none).map σ) i.toNatClampNeg (some (σ y)))))))) = t_w σ kd (th.set x (.inl (2, .inr (.inr (a.set i.toNatClampNeg (some y)))))) := by
          rw [t_w_set]
          show _ = (t_w σ kd th).set x (σ x, .inl (kd 2, (a.set i.toNatClampNeg (some y)).length, .inr (.inr (.inr (.inr (fun j => ((a.set i.toNatClampNeg (some y)).getD j none).map σ))))))
          rw [t_updR hl, List.length_set]
        rw [ew] at j1 j2
        exact k H1 locs1 j1 j2 j3
      · cases hs2
    · cases hs2
  case invokestatic n =>
    cases hlen.resolve_left (by simp [t_len])
    simp only [t_W] at hs
    split at hs
    · rename_i nn dp x sp y r
      split at hs
      · rename_i hcond
        obtain ⟨c1, c2, c3, c4⟩ := hcond
        have w1 : Cond.methodLink own n arraycopyName ∈ gt := hn _ (by simp [t_needW])
        have w2 : Cond.native arraycopyName ∈ gt := hn _ (by simp [t_needW])
        have w3 : Cond.static arraycopyName ∈ gt := hn _ (by simp [t_needW])
        have w4 : Cond.initialized "java/lang/System" ∈ gt := hn _ (by simp [t_needW])
        have hroom : ((r.map (t_v σ)).map fun v => v.category).sum + (nativeFrameWords "java/lang/System" "arraycopy" 5 + 11) ≤ R.locals := by
          have e9 : (r.map (t_v σ)).map (fun v => v.category) = r.map (fun v => v.category) := by
            rw [List.map_map]
            exact List.map_congr_left (fun v _ => t_v_cat σ v)
          rw [e9]
          have e8 : nativeFrameWords "java/lang/System" "arraycopy" 5 = 7 := by decide +kernel
          rw [e8]
          have := hR.2
          omega
        split at hs
        · split at hs
          · rename_i d f hj
            split at hs
            · rename_i d' g hk
              obtain ⟨⟨rfl, rfl, h4, h5⟩, hs3⟩ := t_if_of hs
              cases hs3
              refine va_copyi (f := fun i => f.getD i 0) (g := fun i => g.getD i 0) hx hb hml hown (hts _ w1) (hts _ w2) (hts _ w3) (hts _ w4) hK hP hD hS y x 0 0 (t_w_get hj) (t_w_get hk) rfl rfl rfl c1 c2 c3 h4 h5 (fun _ _ => rfl) hR.1 hroom hd (fun H1 locs1 j1 j2 j3 => ?_)
              have ew : (t_w σ kd th).set x (σ x, .inl (kd 0, g.length, .inl (va_cpy (fun i => f.getD i 0) (fun i => g.getD i 0) sp.toNatClampNeg dp.toNatClampNeg nn.toNatClampNeg))) = t_w σ kd (th.set x (.inl (0, .inl (t_cpy f g sp.toNatClampNeg dp.toNatClampNeg nn.toNatClampNeg)))) := by
                rw [t_w_set]
                show _ = (t_w σ kd th).set x (σ x, .inl (kd 0, (t_cpy f g sp.toNatClampNeg dp.toNatClampNeg nn.toNatClampNeg).length, .inl (fun j => (t_cpy f g sp.toNatClampNeg dp.toNatClampNeg nn.toNatClampNeg).getD j 0)))
                rw [t_cpy_len h4 h5, funext (t_cpy_get (0 : Int32) h4 h5)]
              rw [ew] at j1 j2
              exact k H1 locs1 j1 j2 j3
            · cases hs
          · cases hs
        · split at hs
          · rename_i d f hj
            split at hs
            · rename_i d' g hk
              obtain ⟨⟨rfl, rfl, h4, h5⟩, hs3⟩ := t_if_of hs
              cases hs3
              refine va_copyl (f := fun i => f.getD i 0) (g := fun i => g.getD i 0) hx hb hml hown (hts _ w1) (hts _ w2) (hts _ w3) (hts _ w4) hK hP hD hS y x 1 1 (t_w_get hj) (t_w_get hk) rfl rfl rfl c1 c2 c3 h4 h5 (fun _ _ => rfl) hR.1 hroom hd (fun H1 locs1 j1 j2 j3 => ?_)
              have ew : (t_w σ kd th).set x (σ x, .inl (kd 1, g.length, .inr (.inl (va_cpy (fun i => f.getD i 0) (fun i => g.getD i 0) sp.toNatClampNeg dp.toNatClampNeg nn.toNatClampNeg)))) = t_w σ kd (th.set x (.inl (1, .inr (.inl (t_cpy f g sp.toNatClampNeg dp.toNatClampNeg nn.toNatClampNeg))))) := by
                rw [t_w_set]
                show _ = (t_w σ kd th).set x (σ x, .inl (kd 1, (t_cpy f g sp.toNatClampNeg dp.toNatClampNeg nn.toNatClampNeg).length, .inr (.inl (fun j => (t_cpy f g sp.toNatClampNeg dp.toNatClampNeg nn.toNatClampNeg).getD j 0))))
                rw [t_cpy_len h4 h5, funext (t_cpy_get (0 : Int64) h4 h5)]
              rw [ew] at j1 j2
              exact k H1 locs1 j1 j2 j3
            · cases hs
          · cases hs
      · cases hs
    · cases hs
  all_goals cases hs
end TW
end
section
/-! new T[n][m] (from here to 'end VGM' the printed row of the claim's names; va_AOA is what it leans on) -/
def va_AOA (ty : FieldType) (U : State) : Prop := (Cond.arrayOver (.array ty)).before #[] U = true
theorem va_AOA.use {ty : FieldType} {A : Array Value} {U : State} (h : va_AOA ty U) : (Cond.arrayOver (.array ty)).before A U = true := h
/-- f, but v at every address of l -/
def vr_up {α : Type} (f : Nat → α) (l : List Nat) (v : α) : Nat → α := fun a => if a ∈ l then v else f a
theorem vr_up_in {α : Type} {f : Nat → α} {l : List Nat} {v : α} {a : Nat} (h : a ∈ l) : vr_up f l v a = v := if_pos h
theorem vr_up_ne {α : Type} {f : Nat → α} {l : List Nat} {v : α} {a : Nat} (h : a ∉ l) : vr_up f l v a = f a := if_neg h
theorem vr_rows {L l : List Nat} {f : Nat → va_E} {e : va_E} (h : ∀ a, a ∈ l → a ∉ L) : va_pl L f ++ l.map (fun a => (a, e)) = va_pl (L ++ l) (vr_up f l e) := by
  unfold va_pl
  rw [List.map_append]
  congr 1
  · apply List.map_congr_left
    intro a ha
    rw [vr_up_ne (fun q => h a q ha)]
  · apply List.map_congr_left
    intro a ha
    rw [vr_up_in ha]
theorem vr_lay {X rows : va_W} {x : Nat × va_E} {pl : va_W} {D : va_G} {cl : List vw_C} {H : Heap} (hP : va_P D cl (((X ++ pl) ++ [x]) ++ rows) H) : va_P D cl ((X ++ [x]) ++ (pl ++ rows)) H := by
  rw [List.append_assoc (X ++ pl)] at hP
  have h := va_P.swap hP
  rw [← List.append_assoc X] at h
  have h2 := va_P.swap h
  rw [List.append_assoc (X ++ [x])] at h2
  exact h2
theorem vr_layD {X rows : va_W} {x : Nat × va_E} {pl : va_W} {A : Nat → Prop} (hD : va_D A (((X ++ pl) ++ [x]) ++ rows)) : va_D A ((X ++ [x]) ++ (pl ++ rows)) := by
  rw [List.append_assoc (X ++ pl)] at hD
  have h := va_D.swap hD
  rw [← List.append_assoc X] at h
  have h2 := va_D.swap h
  rw [List.append_assoc (X ++ [x])] at h2
  exact h2
theorem vr_outer (c : ClassId) (N h0 : Nat) : ∀ i : Nat, Jvm.Free.Multi.outerC c N h0 i = arrV c N (fun j => va_rf (if j < i then some (h0 + 1 + j) else none))
  | 0 => by
    show ({ cls := c, slots := Array.replicate N .null, vm := .none } : Cell) = _
    rw [arrV_new]
    refine congrArg (arrV c N) (funext fun j => ?_)
    simp [va_rf]
  | i + 1 => by
    show (Jvm.Free.Multi.outerC c N h0 i).setSlot i (.ref (h0 + 1 + i)) = _
    rw [vr_outer c N h0 i, arrV_store]
    refine congrArg (arrV c N) (funext fun j => ?_)
    by_cases e : j = i
    · subst e
      simp [updV, va_rf]
    · by_cases h : j < i
      · simp [updV, e, h, Nat.lt_succ_of_lt h]
      · simp [updV, e, h, show ¬ j < i + 1 by omega]
section VGM
variable {p : Program} {l : Launch} {e : Env} {R : Room} {s : State} {m : MethodId} {args : Array Value} {below : List Frame} {meth : Method} {c : Code} {H : Heap} {locs : List Loc} {cells slots : Nat} {Q : State → Prop}
variable {cc : ByteArray} {pc : Nat} {ls : Array Slot} {rest : List Value} {D : va_G} {cl : List vw_C} {A : Nat → Prop} {a : Nat} {tys : List (ClassId × FieldType)} {ws : va_W} {H0 : Heap}
theorem va_mna {X : va_W} {L : List Nat} {f : Nat → va_E} {cc : ByteArray} (hexec : p.tables.exec = Jvm.exec) (hb : c.code = cc) {own : String} {index : Nat} {ty : FieldType} {cy : ClassId} (hown : s.vm.findClass own = some m.cls) (hclink : (Cond.classLink own index ("[" ++ (FieldType.array ty).toString)).before args s = true) (hover : va_AOA ty s) (harr : (Cond.arrayClass ty).before args s = true) (hcy : s.vm.findClass (FieldType.array ty).toString = some cy)
    (hK : va_K D cl tys s) (hP : va_P D cl (X ++ va_pl L f) H) (hD : va_D A (X ++ va_pl L f)) (hS : va_S A H0 H locs) (hA : ∀ q, H0.size ≤ q → A q) {n k : Int32} {N' K' : Nat} {z : vp_A} (hn : ¬ n < 0) (hk : ¬ k < 0) (hN : n.toNatClampNeg = N') (hM : k.toNatClampNeg = K')
    (hb1 : N' * 4 ≤ 536870912) (hb2 : K' * componentBytes ty ≤ 536870912) (hb3 : K' ≤ 536870912) (hdf : fits ty (defaultValue ty) = true) (hdd : (defaultValue ty).isDefault = true) (hcells : cells + (1 + N') ≤ R.cells) (hslots : slots + (N' + N' * K') ≤ R.slots) (hz : ∀ c : ClassId, Jvm.Free.Multi.innerC c K' (defaultValue ty) = vp_cell c z) (hdg : decode cc pc = .ok (.multianewarray index 2, 4))
    (kk : ∀ (q : Nat) (r : Nat → Nat) (cA : ClassId) (H1 : Heap), (∀ i j : Nat, i < N' → j < N' → r i = r j → i = j) → (∀ i : Nat, i < N' → r i ∉ L) → va_K D cl (tys ++ [(cA, .array ty)]) s →
      va_P D cl ((X ++ [(q, .inl (cA, N', .inr (.inr (.inr (.inr (fun i => if i < N' then some (r i) else none))))))]) ++ va_pl (L ++ (List.range N').map r) (vr_up f ((List.range N').map r) (.inl (cy, z)))) H1 → va_D A ((X ++ [(q, .inl (cA, N', .inr (.inr (.inr (.inr (fun i => if i < N' then some (r i) else none))))))]) ++ va_pl (L ++ (List.range N').map r) (vr_up f ((List.range N').map r) (.inl (cy, z)))) → va_S A H0 H1 locs →
      W p l e R s m args below meth c H1 locs (cells + 1 + N') (slots + N' + N' * K') Q (F0 m (pc + 4) ls (.ref q :: rest))) : W p l e R s m args below meth c H locs cells slots Q (F0 m pc ls (.int k :: .int n :: rest)) := by
  subst hN
  subst hM
  intro T hT Xs
  obtain ⟨vm₁, cA, comp, -, fA, fC, hO, -, X', step⟩ := Xs.multianewarray2F hexec hown hclink (va_AOA.use hover) harr (g := F0 m pc ls (.int k :: .int n :: rest)) rfl (by rw [hb]; exact hdg) rfl hn hk hb1 hb2 hb3 hdf hdd hcells hslots
  have ec : some cy = some comp := hcy.symm.trans fC
  cases ec
  generalize hF : Jvm.Free.Multi.fill (T.setVm vm₁) cA cy n.toNatClampNeg k.toNatClampNeg (defaultValue ty) n.toNatClampNeg = F at X' step
  have hTh : (T.setVm vm₁).heap = H := hT
  obtain ⟨f1, f2, -, -⟩ := Jvm.Free.Multi.fill_facts (T.setVm vm₁) cA cy n.toNatClampNeg k.toNatClampNeg (defaultValue ty) n.toNatClampNeg
  rw [hF, hTh] at f1 f2
  have hold : ∀ x : Nat, x < H.size → F.heap[x]? = H[x]? := fun x hx => by
    have := Jvm.Free.Multi.fill_old (T.setVm vm₁) cA cy n.toNatClampNeg k.toNatClampNeg (defaultValue ty) (a := x) (by rw [hTh]; exact hx) n.toNatClampNeg
    rw [hF, hTh] at this
    exact this
  have hrow : ∀ j : Nat, j < n.toNatClampNeg → F.heap[H.size + 1 + j]? = some (vp_cell cy z) := fun j hj => by
    have := Jvm.Free.Multi.fill_inner (T.setVm vm₁) cA cy n.toNatClampNeg k.toNatClampNeg (defaultValue ty) n.toNatClampNeg j hj
    rw [hF, hTh, hz] at this
    exact this
  have hout : Jvm.Free.Multi.outerC cA n.toNatClampNeg H.size n.toNatClampNeg = vp_cell cA (n.toNatClampNeg, .inr (.inr (.inr (.inr (fun i => if i < n.toNatClampNeg then some (H.size + 1 + i) else none))))) := by
    rw [vp_cell_q]
    exact vr_outer cA n.toNatClampNeg H.size n.toNatClampNeg
  rw [hout] at f2
  have hlt : ∀ a, a ∈ L → a < H.size := fun a ha => by
    obtain ⟨k9, hk9⟩ := va_pl_get (X := X) (f := f) ha
    exact (hP k9 _ hk9).lt
  have hnl : ∀ i : Nat, i < n.toNatClampNeg → H.size + 1 + i ∉ L := fun i _ h => by
    have := hlt _ h
    omega
  have hnm : ∀ a, a ∈ (List.range n.toNatClampNeg).map (fun i => H.size + 1 + i) → a ∉ L := fun a ha h => by
    obtain ⟨i, -, rfl⟩ := List.mem_map.mp ha
    have := hlt _ h
    omega
  have hP0 : va_P D cl (X ++ va_pl L f) F.heap := hP.kept (fun k9 x hx => hold x.1 ((hP k9 x hx).lt))
  have hP1 : va_P D cl ((X ++ va_pl L f) ++ [(H.size, .inl (cA, n.toNatClampNeg, .inr (.inr (.inr (.inr (fun i => if i < n.toNatClampNeg then some (H.size + 1 + i) else none))))))]) F.heap := hP0.app (fun k9 x hx => by
    have h0 : k9 < 1 := (List.getElem?_eq_some_iff.mp hx).1
    rw [show k9 = 0 by omega] at hx
    cases hx
    exact f2)
  have hP2 : va_P D cl (((X ++ va_pl L f) ++ [(H.size, .inl (cA, n.toNatClampNeg, .inr (.inr (.inr (.inr (fun i => if i < n.toNatClampNeg then some (H.size + 1 + i) else none))))))]) ++ ((List.range n.toNatClampNeg).map (fun i => H.size + 1 + i)).map (fun a => (a, .inl (cy, z)))) F.heap := hP1.app (fun k9 x hx => by
    obtain ⟨a, ha, rfl⟩ := List.mem_map.mp (List.mem_of_getElem? hx)
    obtain ⟨i, hi, rfl⟩ := List.mem_map.mp ha
    exact hrow i (List.mem_range.mp hi))
  have hD2 : va_D A (((X ++ va_pl L f) ++ [(H.size, .inl (cA, n.toNatClampNeg, .inr (.inr (.inr (.inr (fun i => if i < n.toNatClampNeg then some (H.size + 1 + i) else none))))))]) ++ ((List.range n.toNatClampNeg).map (fun i => H.size + 1 + i)).map (fun a => (a, .inl (cy, z)))) := by
    have hD1 := hD.push (e := .inl (cA, n.toNatClampNeg, .inr (.inr (.inr (.inr (fun i => if i < n.toNatClampNeg then some (H.size + 1 + i) else none)))))) hP rfl (hA _ hS.1)
    generalize hW1 : (X ++ va_pl L f) ++ [(H.size, .inl (cA, n.toNatClampNeg, .inr (.inr (.inr (.inr (fun i => if i < n.toNatClampNeg then some (H.size + 1 + i) else none))))))] = W1 at hD1 hP1 ⊢
    have hle : ∀ (k9 : Nat) (x : Nat × va_E), W1[k9]? = some x → x.1 ≤ H.size := fun k9 x hx => by
      rw [← hW1] at hx
      by_cases hl : k9 < (X ++ va_pl L f).length
      · rw [List.getElem?_append_left hl] at hx
        exact Nat.le_of_lt ((hP k9 x hx).lt)
      · rw [List.getElem?_append_right (by omega)] at hx
        have h0 : k9 - (X ++ va_pl L f).length < 1 := (List.getElem?_eq_some_iff.mp hx).1
        rw [show k9 - (X ++ va_pl L f).length = 0 by omega] at hx
        cases hx
        exact Nat.le_refl _
    have hr : ∀ (k9 : Nat) (x : Nat × va_E), (((List.range n.toNatClampNeg).map (fun i => H.size + 1 + i)).map (fun a => ((a, .inl (cy, z)) : Nat × va_E)))[k9]? = some x → x.1 = H.size + 1 + k9 := fun k9 x hx => by
      rw [List.getElem?_map, List.getElem?_map] at hx
      by_cases h9 : k9 < n.toNatClampNeg
      · rw [List.getElem?_range h9] at hx
        cases hx
        rfl
      · have hn0 : (List.range n.toNatClampNeg)[k9]? = none := List.getElem?_eq_none (by rw [List.length_range]; omega)
        rw [hn0] at hx
        cases hx
    refine ⟨fun i j x y hi hj hxy => ?_, fun k9 x hx => ?_⟩
    · by_cases h1 : i < W1.length <;> by_cases h2 : j < W1.length
      · rw [List.getElem?_append_left h1] at hi
        rw [List.getElem?_append_left h2] at hj
        exact hD1.1 i j x y hi hj hxy
      · rw [List.getElem?_append_left h1] at hi
        rw [List.getElem?_append_right (by omega)] at hj
        have := hle _ _ hi
        have := hr _ _ hj
        omega
      · rw [List.getElem?_append_right (by omega)] at hi
        rw [List.getElem?_append_left h2] at hj
        have := hle _ _ hj
        have := hr _ _ hi
        omega
      · rw [List.getElem?_append_right (by omega)] at hi hj
        have := hr _ _ hi
        have := hr _ _ hj
        omega
    · by_cases h1 : k9 < W1.length
      · rw [List.getElem?_append_left h1] at hx
        exact hD1.2 k9 x hx
      · rw [List.getElem?_append_right (by omega)] at hx
        have := hr _ _ hx
        exact hA _ (by have := hS.1; omega)
  have hAr : ArrOfT s cA (.array ty) := fun N9 z9 => by
    obtain ⟨-, k9, hk9, cm9, hkk9⟩ := (hO 0 0 0).1
    exact ⟨(fun q hq => by cases hq), k9, hk9, cm9, hkk9⟩
  have hK2 : va_K D cl (tys ++ [(cA, .array ty)]) s := ⟨hK.1, fun k9 x hx => by
    by_cases hl : k9 < tys.length
    · rw [List.getElem?_append_left hl] at hx
      exact hK.2 k9 x hx
    · rw [List.getElem?_append_right (by omega)] at hx
      have h0 : k9 - tys.length < 1 := (List.getElem?_eq_some_iff.mp hx).1
      rw [show k9 - tys.length = 0 by omega] at hx
      cases hx
      exact ⟨hAr, fA⟩⟩
  obtain ⟨t, a1, b1⟩ := kk H.size (fun i => H.size + 1 + i) cA F.heap (fun i j _ _ h => by have h9 : H.size + 1 + i = H.size + 1 + j := h; omega) hnl hK2 (by rw [← vr_rows hnm]; exact vr_lay hP2) (by rw [← vr_rows hnm]; exact vr_layD hD2) ⟨by rw [f1]; have := hS.1; omega, fun x h1 h2 => (hold x (Nat.lt_of_lt_of_le h1 hS.1)).trans (hS.2.1 x h1 h2), hS.2.2⟩ F rfl X'
  refine ⟨t, step t ?_, b1⟩
  have e : T.heap.size = H.size := by rw [hT]
  rw [e]
  exact a1
end VGM
end
section
/-! ===== instructions that make cells ===== -/
def t_okv (n : Nat) (v : Value) : Bool := match v with
  | .ref k => decide (k < n) || decide (1000 ≤ k)
  | _ => true
def t_oko (n : Nat) (v : Option Nat) : Bool := match v with
  | some k => decide (k < n) || decide (1000 ≤ k)
  | none => true
def t_oke (n : Nat) : tE → Bool
  | .inl (_, .inr (.inr a)) => a.all (t_oko n)
  | .inl _ => true
  | .inr (_, fs) => fs.all (t_okv n)
/-- the cells' references go to cells -/
def t_okh (n : Nat) (th : tH) : Bool := th.all (t_oke n)
def t_okl (n : Nat) (lv : tL) : Bool := lv.all (fun q => t_okv n q.2)
theorem t_okv_eq {n : Nat} {σ σ' : Nat → Nat} (h : ∀ k, k < n ∨ 1000 ≤ k → σ' k = σ k) {v : Value} (hv : t_okv n v = true) : t_v σ' v = t_v σ v := by
  cases v <;> try rfl
  · simp only [t_okv, Bool.or_eq_true, decide_eq_true_eq] at hv
    show Value.ref _ = Value.ref _
    rw [h _ hv]
  · show (match σ' 1040 with | 0 => Value.null | n + 1 => Value.ref n) = (match σ 1040 with | 0 => Value.null | n + 1 => Value.ref n)
    rw [h 1040 (Or.inr (by omega))]
theorem t_oko_eq {n : Nat} {σ σ' : Nat → Nat} (h : ∀ k, k < n ∨ 1000 ≤ k → σ' k = σ k) {v : Option Nat} (hv : t_oko n v = true) : v.map σ' = v.map σ := by
  cases v with
  | none => rfl
  | some k =>
    simp only [t_oko, Bool.or_eq_true, decide_eq_true_eq] at hv
    show some _ = some _
    rw [h _ hv]
theorem t_oks_eq {n : Nat} {σ σ' : Nat → Nat} (h : ∀ k, k < n ∨ 1000 ≤ k → σ' k = σ k) {st : List Value} (hv : st.all (t_okv n) = true) : st.map (t_v σ') = st.map (t_v σ) :=
  List.map_congr_left (fun v hm => t_okv_eq h (List.all_eq_true.mp hv v hm))
theorem t_okl_eq {n : Nat} {σ σ' : Nat → Nat} (h : ∀ k, k < n ∨ 1000 ≤ k → σ' k = σ k) {lv : tL} (hv : t_okl n lv = true) : t_l σ' lv = t_l σ lv := by
  unfold t_l
  refine List.map_congr_left (fun q hm => ?_)
  rw [t_okv_eq h (List.all_eq_true.mp hv q hm)]
theorem t_oke_eq {n : Nat} {σ σ' : Nat → Nat} (kd : Nat → ClassId) (h : ∀ k, k < n ∨ 1000 ≤ k → σ' k = σ k) {e : tE} (hv : t_oke n e = true) : t_e σ' kd e = t_e σ kd e := by
  rcases e with ⟨k, a | a | a⟩ | ⟨k, fs⟩
  · rfl
  · rfl
  · simp only [t_oke] at hv
    show Sum.inl _ = Sum.inl _
    have e1 : (fun i => (a.getD i none).map σ') = (fun i => (a.getD i none).map σ) := by
      funext i
      refine t_oko_eq h ?_
      rw [List.getD_eq_getElem?_getD]
      cases ha : a[i]? with
      | none => rfl
      | some x => exact List.all_eq_true.mp hv x (List.mem_of_getElem? ha)
    rw [e1]
  · simp only [t_oke] at hv
    show Sum.inr _ = Sum.inr _
    rw [t_oks_eq h hv]
theorem t_okh_eq {n : Nat} {σ σ' : Nat → Nat} (kd : Nat → ClassId) (h : ∀ k, k < n ∨ 1000 ≤ k → σ' k = σ k) {th : tH} (hn : th.length ≤ n) (hv : t_okh n th = true) : t_w σ' kd th = t_w σ kd th := by
  apply List.ext_getElem?
  intro j
  unfold t_w
  rw [List.getElem?_mapIdx, List.getElem?_mapIdx]
  cases hj : th[j]? with
  | none => rfl
  | some e =>
    show some (σ' j, t_e σ' kd e) = some (σ j, t_e σ kd e)
    have hl := (List.getElem?_eq_some_iff.mp hj).1
    rw [t_oke_eq kd h (List.all_eq_true.mp hv e (List.mem_of_getElem? hj)), h j (Or.inl (by omega))]
def t_dfl (a1 : Nat) : Option (List Value) := (vwCl[a1]?).map (fun q => (List.range q.2.2).map (fun k => defaultValue (t_ty a1 k)))
theorem t_dfl_v (σ : Nat → Nat) (ty : FieldType) : t_v σ (defaultValue ty) = defaultValue ty := by cases ty <;> rfl
def t_A (ins : Instr) (pc a1 : Nat) (st : List Value) (n : Nat) : Option (Nat × List Value × tH × Nat) := match ins with
  | .new _ => (t_dfl a1).map (fun fs => (pc + 3, .ref n :: st, [.inr (a1, fs)], fs.length))
  | .newarray ty => t_i1 st fun z r => if ¬ z < 0 ∧ z.toNatClampNeg ≤ 1000 then (match ty with
      | .int => some (pc + 2, .ref n :: r, [.inl (0, .inl (List.replicate z.toNatClampNeg 0))], z.toNatClampNeg)
      | .long => some (pc + 2, .ref n :: r, [.inl (1, .inr (.inl (List.replicate z.toNatClampNeg 0)))], z.toNatClampNeg)
      | _ => none) else none
  | .anewarray _ => t_i1 st fun z r => if ¬ z < 0 ∧ z.toNatClampNeg ≤ 1000 then some (pc + 3, .ref n :: r, [.inl (2, .inr (.inr (List.replicate z.toNatClampNeg none)))], z.toNatClampNeg) else none
  | .multianewarray _ d => t_i2 st fun z y r => if d = 2 ∧ ¬ z < 0 ∧ z.toNatClampNeg ≤ 1000 ∧ ¬ y < 0 ∧ y.toNatClampNeg ≤ 1000 then
      some (pc + 4, .ref n :: r, .inl (3, .inr (.inr ((List.range z.toNatClampNeg).map (fun i => some (n + 1 + i))))) :: List.replicate z.toNatClampNeg (.inl (1, .inr (.inl (List.replicate y.toNatClampNeg 0)))), z.toNatClampNeg + z.toNatClampNeg * y.toNatClampNeg) else none
  | _ => none
def t_needA (own : String) (ins : Instr) (a1 : Nat) : List Jvm.Cond := match ins with
  | .new k => match vwCl[a1]? with
    | some q => [.classLink own k q.1]
    | none => []
  | .newarray .int => [.arrayClass .int]
  | .newarray .long => [.arrayClass .long]
  | .anewarray k => [.classLink own k "NineTrees$Shelf"]
  | .multianewarray k _ => [.classLink own k "[[J", .arrayClass .long]
  | _ => []
section TA
variable {p : Program} {l : Launch} {e : Env} {R : Room} {s : State} {m : MethodId} {args : Array Value} {below : List Frame} {meth : Method} {c : Code} {H : Heap} {locs : List Loc} {cells slots : Nat} {Q : State → Prop}
variable {cc : ByteArray} {pc : Nat} {ls : Array Slot} {σ : Nat → Nat} {kd : Nat → ClassId} {a1 n1 : Nat} {st st' : List Value} {th add : tH} {pc' len : Nat} {own : String} {ins : Instr} {D : va_G} {A : Nat → Prop}
theorem t_one {q : Nat} {σ : Nat → Nat} {th : tH} {ec : tE} {ew : va_E} (kd : Nat → ClassId) (hl : th.length < 1000) (hw : t_okh th.length th = true) (he : ∀ σ', t_e σ' kd ec = ew) :
    (∀ k, k < th.length ∨ (th ++ [ec]).length ≤ k → (fun k => if k = th.length then q else σ k) k = σ k) ∧ t_w σ kd th ++ [(q, ew)] = t_w (fun k => if k = th.length then q else σ k) kd (th ++ [ec]) := by
  refine ⟨fun k hk => ?_, ?_⟩
  · have : k ≠ th.length := by
      rw [List.length_append] at hk
      simp at hk
      omega
    simp [this]
  · rw [t_w_app, he, t_okh_eq kd (σ := σ) (σ' := fun k => if k = th.length then q else σ k) (fun k hk => ?_) (Nat.le_refl _) hw]
    · simp
    · have : k ≠ th.length := by omega
      simp [this]
set_option maxHeartbeats 4000000 in
theorem t_A_ok (hx : p.tables.exec = Jvm.exec) (hb : c.code = cc) (hown : s.vm.findClass own = some m.cls) (hts : ∀ w ∈ gt, w.before args s = true) (hd : decode cc pc = .ok (ins, len)) (hlen : t_len ins = 0 ∨ t_len ins = len) (hn : ∀ w ∈ t_needA own ins a1, w ∈ gt)
    (hK : va_K D vwCl (t_tys kd) s) (hP : va_P D vwCl (t_w σ kd th) H) (hD : va_D A (t_w σ kd th)) (hS : va_S A s.heap H locs) (hA : ∀ q, s.heap.size ≤ q → A q) (hE : t_Ex σ A s s.heap) (hs : t_A ins pc a1 st th.length = some (pc', st', add, n1))
    (hw : t_okh th.length th = true) (hst : st.all (t_okv th.length) = true) (hl : th.length + add.length ≤ 1000) (hc1 : cells + add.length ≤ R.cells) (hc2 : slots + n1 ≤ R.slots)
    (k : ∀ (σ' : Nat → Nat) (H1 : Heap), (∀ k, k < th.length ∨ (th ++ add).length ≤ k → σ' k = σ k) → va_P D vwCl (t_w σ' kd (th ++ add)) H1 → va_D A (t_w σ' kd (th ++ add)) → va_S A s.heap H1 locs → W p l e R s m args below meth c H1 locs (cells + add.length) (slots + n1) Q (F0 m pc' ls (st'.map (t_v σ')))) : W p l e R s m args below meth c H locs cells slots Q (F0 m pc ls (st.map (t_v σ))) := by
  have ags : ∀ (q : Nat) (r : List Value), r.all (t_okv th.length) = true → th.length < 1000 → ((Value.ref th.length) :: r).map (t_v (fun k => if k = th.length then q else σ k)) = .ref q :: r.map (t_v σ) := by
    intro q r hr hl
    show t_v _ (.ref th.length) :: _ = _
    rw [t_oks_eq (σ := σ) (σ' := fun k => if k = th.length then q else σ k) (fun k hk => ?_) hr]
    · simp [t_v]
    · have : k ≠ th.length := by omega
      simp [this]
  cases ins
  case new n =>
    cases hlen.resolve_left (by simp [t_len])
    simp only [t_A, t_dfl] at hs
    cases hq : vwCl[a1]? with
    | none => rw [hq] at hs; cases hs
    | some q0 =>
      rw [hq] at hs
      simp only [Option.map_some, Option.some.injEq, Prod.mk.injEq] at hs
      obtain ⟨rfl, rfl, rfl, rfl⟩ := hs
      have hw1 : Cond.classLink own n q0.1 ∈ gt := hn _ (by simp [t_needA, hq])
      have hi := t_ci a1 q0 hq
      have elen : ((List.range q0.2.2).map (fun k => defaultValue (t_ty a1 k))).length = q0.2.2 := by simp
      simp only [List.length_singleton] at hl hc1 k
      rw [elen] at hc2
      refine va_new (Ts := gt) (cl := vwCl) (ci := a1) (C := q0.1) (T := q0.2.1) (N := q0.2.2) (fs := (List.range q0.2.2).map (fun k => defaultValue (t_ty a1 k))) hx hb hts (t_cw a1 q0 hq) (t_ty a1) (t_ct a1 q0 hq) hown (hts _ hw1) (hts _ (hi _ (by simp))) (hts _ (hi _ (by simp))) hK hP hD hS hA hq (fun j hj => ?_) hc1 hc2 hd (fun q H1 j1 j2 j3 => ?_)
      · show _ = ((List.range q0.2.2).map (fun k => defaultValue (t_ty a1 k))).getD j .null
        rw [List.getD_eq_getElem?_getD, List.getElem?_map, List.getElem?_range hj]
        rfl
      · obtain ⟨g1, g2⟩ := t_one (q := q) (σ := σ) (ec := .inr (a1, (List.range q0.2.2).map (fun k => defaultValue (t_ty a1 k)))) (ew := .inr (a1, (List.range q0.2.2).map (fun k => defaultValue (t_ty a1 k)))) kd (by omega) hw (fun σ' => by
          show Sum.inr _ = Sum.inr _
          rw [List.map_map]
          congr 2
          exact List.map_congr_left (fun x _ => t_dfl_v σ' _))
        rw [g2] at j1 j2
        have k2 := k _ H1 g1 j1 j2 j3
        rw [ags q st hst (by omega), elen] at k2
        exact k2
  case newarray ty =>
    cases hlen.resolve_left (by simp [t_len])
    simp only [t_A] at hs
    obtain ⟨z, r, e1, hs2⟩ := t_i1_of hs
    subst e1
    clear hs
    have hr : r.all (t_okv th.length) = true := by
      rw [List.all_cons, Bool.and_eq_true] at hst
      exact hst.2
    split at hs2
    · rename_i hz
      obtain ⟨hz1, hz2⟩ := hz
      split at hs2
      · simp only [Option.some.injEq, Prod.mk.injEq] at hs2
        obtain ⟨rfl, rfl, rfl, rfl⟩ := hs2
        simp only [List.length_singleton] at hl hc1 k
        have hw1 : Cond.arrayClass .int ∈ gt := hn _ (by simp [t_needA])
        have e0 : ∀ i, (List.replicate z.toNatClampNeg (0 : Int32)).getD i 0 = 0 := fun i => by
          rw [List.getD_eq_getElem?_getD, List.getElem?_replicate]
          split <;> rfl
        refine va_newa (atype := .int) (a0 := ((List.replicate z.toNatClampNeg (0 : Int32)).length, .inl (fun i => (List.replicate z.toNatClampNeg (0 : Int32)).getD i 0))) hx hb (hts _ hw1) rfl hK hP hD hS hA (fun cA => ?_) hz1 rfl (by show _ * 4 ≤ _; omega) hc1 hc2 hd (fun q cA H1 j0 j1 j2 j3 => ?_)
        · show arrV cA (List.replicate z.toNatClampNeg (0 : Int32)).length (fun j => .int ((List.replicate z.toNatClampNeg (0 : Int32)).getD j 0)) = _
          rw [List.length_replicate]
          congr 1
          funext j
          rw [e0]
          rfl
        · have ec : cA = kd 0 := by
            have h1 := (j0.2 4 (cA, .int) rfl).2
            have h2 := (hK.2 0 (kd 0, .int) rfl).2
            exact Option.some.inj (h1.symm.trans h2)
          subst ec
          obtain ⟨g1, g2⟩ := t_one (q := q) (σ := σ) (ec := .inl (0, .inl (List.replicate z.toNatClampNeg 0))) kd (by omega) hw (fun σ' => rfl)
          rw [g2] at j1 j2
          have k2 := k _ H1 g1 j1 j2 j3
          rw [ags q r hr (by omega)] at k2
          exact k2
      · simp only [Option.some.injEq, Prod.mk.injEq] at hs2
        obtain ⟨rfl, rfl, rfl, rfl⟩ := hs2
        simp only [List.length_singleton] at hl hc1 k
        have hw1 : Cond.arrayClass .long ∈ gt := hn _ (by simp [t_needA])
        have e0 : ∀ i, (List.replicate z.toNatClampNeg (0 : Int64)).getD i 0 = 0 := fun i => by
          rw [List.getD_eq_getElem?_getD, List.getElem?_replicate]
          split <;> rfl
        refine va_newa (atype := .long) (a0 := ((List.replicate z.toNatClampNeg (0 : Int64)).length, .inr (.inl (fun i => (List.replicate z.toNatClampNeg (0 : Int64)).getD i 0)))) hx hb (hts _ hw1) rfl hK hP hD hS hA (fun cA => ?_) hz1 rfl (by show _ * 8 ≤ _; omega) hc1 hc2 hd (fun q cA H1 j0 j1 j2 j3 => ?_)
        · show arrV cA (List.replicate z.toNatClampNeg (0 : Int64)).length (fun j => .long ((List.replicate z.toNatClampNeg (0 : Int64)).getD j 0)) = _
          rw [List.length_replicate]
          congr 1
          funext j
          rw [e0]
          rfl
        · have ec : cA = kd 1 := by
            have h1 := (j0.2 4 (cA, .long) rfl).2
            have h2 := (hK.2 1 (kd 1, .long) rfl).2
            exact Option.some.inj (h1.symm.trans h2)
          subst ec
          obtain ⟨g1, g2⟩ := t_one (q := q) (σ := σ) (ec := .inl (1, .inr (.inl (List.replicate z.toNatClampNeg 0)))) kd (by omega) hw (fun σ' => rfl)
          rw [g2] at j1 j2
          have k2 := k _ H1 g1 j1 j2 j3
          rw [ags q r hr (by omega)] at k2
          exact k2
      · cases hs2
    · cases hs2
  case anewarray n =>
    cases hlen.resolve_left (by simp [t_len])
    simp only [t_A] at hs
    obtain ⟨z, r, e1, hs2⟩ := t_i1_of hs
    subst e1
    clear hs
    have hr : r.all (t_okv th.length) = true := by
      rw [List.all_cons, Bool.and_eq_true] at hst
      exact hst.2
    split at hs2
    · rename_i hz
      obtain ⟨hz1, hz2⟩ := hz
      simp only [Option.some.injEq, Prod.mk.injEq] at hs2
      obtain ⟨rfl, rfl, rfl, rfl⟩ := hs2
      simp only [List.length_singleton] at hl hc1 k
      have hw1 : Cond.classLink own n "NineTrees$Shelf" ∈ gt := hn _ (by simp [t_needA])
      refine va_newq hx hb hown (hts _ hw1) hE.2.2.2.2.2.1 hK hP hD hS hA hz1 rfl (by omega) hc1 hc2 hd (fun q cA H1 j0 j1 j2 j3 => ?_)
      have ec : cA = kd 2 := by
        obtain ⟨kA, comp, -, -, -, h1⟩ := (j0.2 4 (cA, .object "NineTrees$Shelf") rfl).2
        obtain ⟨kB, comp2, -, -, -, h2⟩ := (hK.2 2 (kd 2, .object "NineTrees$Shelf") rfl).2
        exact Option.some.inj (h1.symm.trans h2)
      subst ec
      obtain ⟨g1, g2⟩ := t_one (q := q) (σ := σ) (ec := .inl (2, .inr (.inr (List.replicate z.toNatClampNeg none)))) (ew := .inl (kd 2, z.toNatClampNeg, .inr (.inr (.inr (.inr (fun _ => none)))))) kd (by omega) hw (fun σ' => by
        show Sum.inl (kd 2, (List.replicate z.toNatClampNeg (none : Option Nat)).length, Sum.inr (Sum.inr (Sum.inr (Sum.inr (fun i => ((List.replicate z.toNatClampNeg (none : Option Nat)).getD i none).map σ'))))) = _
        have ef : (fun i => ((List.replicate z.toNatClampNeg (none : Option Nat)).getD i none).map σ') = (fun _ => none) := by
          funext i
          rw [List.getD_eq_getElem?_getD, List.getElem?_replicate]
          split <;> rfl
        rw [List.length_replicate, ef])
      rw [g2] at j1 j2
      have k2 := k _ H1 g1 j1 j2 j3
      rw [ags q r hr (by omega)] at k2
      exact k2
    · cases hs2
  case multianewarray n d =>
    cases hlen.resolve_left (by simp [t_len])
    simp only [t_A] at hs
    obtain ⟨z, y, r, e1, hs2⟩ := t_i2_of hs
    subst e1
    clear hs
    have hr : r.all (t_okv th.length) = true := by
      rw [List.all_cons, Bool.and_eq_true, List.all_cons, Bool.and_eq_true] at hst
      exact hst.2.2
    split at hs2
    · rename_i hz
      obtain ⟨rfl, hz1, hz2, hy1, hy2⟩ := hz
      simp only [Option.some.injEq, Prod.mk.injEq] at hs2
      obtain ⟨rfl, rfl, rfl, rfl⟩ := hs2
      have hw1 : Cond.classLink own n "[[J" ∈ gt := hn _ (by simp [t_needA])
      have hw2 : Cond.arrayClass .long ∈ gt := hn _ (by simp [t_needA])
      have hcy : s.vm.findClass (FieldType.array .long).toString = some (kd 1) := (hK.2 1 (kd 1, .long) rfl).2
      simp only [List.length_cons, List.length_replicate] at hl hc1 k
      have hPX : va_P D vwCl (t_w σ kd th ++ va_pl [] (fun _ => .inr (0, []))) H := by
        show va_P D vwCl (t_w σ kd th ++ []) H
        rw [List.append_nil]
        exact hP
      have hDX : va_D A (t_w σ kd th ++ va_pl [] (fun _ => .inr (0, []))) := by
        show va_D A (t_w σ kd th ++ [])
        rw [List.append_nil]
        exact hD
      have hmul : z.toNatClampNeg * y.toNatClampNeg ≤ 1000 * 1000 := Nat.mul_le_mul hz2 hy2
      refine va_mna (ty := .long) (cy := kd 1) (z := (y.toNatClampNeg, .inr (.inl (fun _ => 0)))) hx hb hown (hts _ hw1) hE.2.2.2.2.2.2 (hts _ hw2) hcy hK hPX hDX hS hA hz1 hy1 rfl rfl (by omega) (by show _ * 8 ≤ _; omega) (by omega) rfl rfl (by omega) (by omega) (fun cA => ?_) hd (fun q rr cA H1 _ _ j0 j1 j2 j3 => ?_)
      · show _ = arrV cA y.toNatClampNeg (fun _ => .long 0)
        rw [← arrV_new]
        rfl
      · have ec : cA = kd 3 := by
          have h1 := (j0.2 4 (cA, .array .long) rfl).2
          have h2 := (hK.2 3 (kd 3, .array .long) rfl).2
          exact Option.some.inj (h1.symm.trans h2)
        subst ec
        have ein : va_pl ([] ++ (List.range z.toNatClampNeg).map rr) (vr_up (fun _ => .inr (0, [])) ((List.range z.toNatClampNeg).map rr) (.inl (kd 1, (y.toNatClampNeg, .inr (.inl (fun _ => 0)))))) = (List.range z.toNatClampNeg).map (fun i => ((rr i, .inl (kd 1, (y.toNatClampNeg, .inr (.inl (fun _ => 0))))) : Nat × va_E)) := by
          unfold va_pl
          rw [List.nil_append, List.map_map]
          refine List.map_congr_left (fun i hi => ?_)
          show (rr i, vr_up _ _ _ (rr i)) = _
          rw [vr_up_in (List.mem_map.mpr ⟨i, hi, rfl⟩)]
        rw [ein] at j1 j2
        have hsig : ∀ k, k < th.length ∨ th.length + (z.toNatClampNeg + 1) ≤ k → (fun k => if k = th.length then q else if th.length < k ∧ k < th.length + (z.toNatClampNeg + 1) then rr (k - th.length - 1) else σ k) k = σ k := by
          intro k hk
          have h1 : k ≠ th.length := by omega
          have h2 : ¬ (th.length < k ∧ k < th.length + (z.toNatClampNeg + 1)) := by omega
          simp [h1, h2]
        have hsig2 : ∀ k, k < th.length ∨ 1000 ≤ k → (fun k => if k = th.length then q else if th.length < k ∧ k < th.length + (z.toNatClampNeg + 1) then rr (k - th.length - 1) else σ k) k = σ k := fun k hk => hsig k (by omega)
        generalize hσ : (fun k => if k = th.length then q else if th.length < k ∧ k < th.length + (z.toNatClampNeg + 1) then rr (k - th.length - 1) else σ k) = σ' at hsig hsig2
        have eσ0 : σ' th.length = q := by rw [← hσ]; simp
        have eσ1 : ∀ i, i < z.toNatClampNeg → σ' (th.length + 1 + i) = rr i := fun i hi => by
          rw [← hσ]
          have h1 : th.length + 1 + i ≠ th.length := by omega
          have h2 : th.length < th.length + 1 + i ∧ th.length + 1 + i < th.length + (z.toNatClampNeg + 1) := by omega
          have h3 : th.length + 1 + i - th.length - 1 = i := by omega
          simp only [h1, if_false, h2, and_self, if_true, h3]
        have ew : (t_w σ kd th ++ [(q, .inl (kd 3, z.toNatClampNeg, .inr (.inr (.inr (.inr (fun i => if i < z.toNatClampNeg then some (rr i) else none))))))]) ++ (List.range z.toNatClampNeg).map (fun i => ((rr i, .inl (kd 1, (y.toNatClampNeg, .inr (.inl (fun _ => 0))))) : Nat × va_E)) = t_w σ' kd (th ++ (.inl (3, .inr (.inr ((List.range z.toNatClampNeg).map (fun i => some (th.length + 1 + i))))) :: List.replicate z.toNatClampNeg (.inl (1, .inr (.inl (List.replicate y.toNatClampNeg 0)))))) := by
          unfold t_w
          rw [List.mapIdx_append]
          have e1 : List.mapIdx (fun i e => (σ' i, t_e σ' kd e)) th = t_w σ kd th := t_okh_eq kd hsig2 (Nat.le_refl _) hw
          rw [e1]
          rw [List.append_assoc]
          show _ = t_w σ kd th ++ _
          congr 1
          rw [List.mapIdx_cons]
          show _ :: _ = _ :: _
          congr 1
          · rw [Nat.zero_add, eσ0]
            show (q, Sum.inl _) = (q, Sum.inl (kd 3, ((List.range z.toNatClampNeg).map (fun i => some (th.length + 1 + i))).length, Sum.inr (Sum.inr (Sum.inr (Sum.inr (fun i => (((List.range z.toNatClampNeg).map (fun i => some (th.length + 1 + i))).getD i none).map σ'))))))
            have ef : (fun i => (((List.range z.toNatClampNeg).map (fun i => some (th.length + 1 + i))).getD i none).map σ') = (fun i => if i < z.toNatClampNeg then some (rr i) else none) := by
              funext i
              rw [List.getD_eq_getElem?_getD, List.getElem?_map]
              by_cases hi : i < z.toNatClampNeg
              · rw [if_pos hi, List.getElem?_range hi]
                show some (σ' (th.length + 1 + i)) = _
                rw [eσ1 i hi]
              · rw [if_neg hi, List.getElem?_eq_none (by rw [List.length_range]; omega)]
                rfl
            rw [List.length_map, List.length_range, ef]
          · show List.map _ _ = _
            apply List.ext_getElem?
            intro j
            rw [List.getElem?_map, List.getElem?_mapIdx]
            by_cases hj : j < z.toNatClampNeg
            · rw [List.getElem?_range hj, List.getElem?_replicate, if_pos hj]
              show some (rr j, Sum.inl (kd 1, (y.toNatClampNeg, Sum.inr (Sum.inl (fun _ => 0))))) = some (σ' (j + 1 + th.length), Sum.inl (kd 1, (List.replicate y.toNatClampNeg (0 : Int64)).length, Sum.inr (Sum.inl (fun i => (List.replicate y.toNatClampNeg (0 : Int64)).getD i 0))))
              have ef : (fun i => (List.replicate y.toNatClampNeg (0 : Int64)).getD i 0) = (fun _ => 0) := by
                funext i
                rw [List.getD_eq_getElem?_getD, List.getElem?_replicate]
                split <;> rfl
              rw [show j + 1 + th.length = th.length + 1 + j by omega, eσ1 j hj, List.length_replicate, ef]
            · rw [List.getElem?_eq_none (by rw [List.length_range]; omega), List.getElem?_eq_none (by rw [List.length_replicate]; omega)]
              rfl
        rw [ew] at j1 j2
        have k2 := k σ' H1 (fun k hk => hsig k (by rw [List.length_append, List.length_cons, List.length_replicate] at hk; omega)) j1 j2 j3
        have est : ((Value.ref th.length) :: r).map (t_v σ') = .ref q :: r.map (t_v σ) := by
          show Value.ref (σ' th.length) :: _ = _
          rw [eσ0, t_oks_eq hsig2 hr]
        rw [est, show cells + (z.toNatClampNeg + 1) = cells + 1 + z.toNatClampNeg by omega, show slots + (z.toNatClampNeg + z.toNatClampNeg * y.toNatClampNeg) = slots + z.toNatClampNeg + z.toNatClampNeg * y.toNatClampNeg by omega] at k2
        exact k2
    · cases hs2
  all_goals cases hs
end TA
end
section
/-! ===== the small machine runs ===== -/
abbrev t_M : Type := MethodName × ByteArray × Nat × Option FieldType × Nat × Nat
abbrev t_Res : Type := Option Value × tH × Nat
abbrev t_Ty : Type := Option (List Int32) → Nat → Nat → Nat → Nat → tL → List Value → tH → Nat → Option t_Res
def t_sum (st : List Value) : Nat := (st.map fun v => v.category).sum
/-- the arguments of a call off the stack -/
def t_cut (cat na rc : Nat) (st : List Value) (th : tH) : Option (List Value × List Value) :=
  if st.length < na then none
  else if cat = 21 ∨ cat = 24 then some ((st.take na).reverse, st.drop na)
  else match st.drop na with
    | .ref b :: rest =>
      if cat = 22 ∨ cat = 25 then some (.ref b :: (st.take na).reverse, rest)
      else if cat = 20 then match th[b]? with
        | some (.inr (ci, _)) => if ci = rc then some (.ref b :: (st.take na).reverse, rest) else none
        | _ => none
      else if 1001 ≤ b ∧ b < 1011 then some (.ref b :: (st.take na).reverse, rest) else none
    | _ => none
def t_ret (cat : Nat) (st : List Value) : Option (Option Value) := match st with
  | [] => if cat = 34 then some none else none
  | [v] => match v with
    | .int x => if cat = 30 ∨ (cat = 31 ∧ (x = 0 ∨ x = 1)) ∨ (cat = 35 ∧ 0 ≤ x ∧ x ≤ 65535) ∨ (cat = 36 ∧ x = 0) then some (some (.int x)) else none
    | .long x => if cat = 32 then some (some (.long x)) else none
    | .ref x => if cat = 33 then some (some (.ref x)) else none
    | .null => if cat = 33 then some (some .null) else none
    | _ => none
  | _ => none
/-- Math.max, Math.min, Math.abs -/
def t_math (a2 : Nat) (st : List Value) : Option (List Value) :=
  if a2 = 0 then t_i2 st fun x y r => if t_sum r ≤ 8 then some (.int (if x < y then y else x) :: r) else none
  else if a2 = 1 then t_i2 st fun x y r => if t_sum r ≤ 8 then some (.int (if y < x then y else x) :: r) else none
  else t_i1 st fun x r => if t_sum r ≤ 8 then some (.int (if 0 ≤ x then x else 0 - x) :: r) else none
def t_step (ct : Nat → Nat → Option tI) (mi : Nat → Option (Nat × Nat × Nat)) (ih : t_Ty) : t_Ty := fun xo d i nL pc lv st th ns =>
  match ct i pc with
  | none => none
  | some (cat, ins, a1, a2) =>
    if cat < 3 then match t_P ins pc a1 nL lv st with
      | some (pc', lv', st') => ih xo d i nL pc' lv' st' th ns
      | none => none
    else if cat < 8 then match t_R xo cat ins pc a1 a2 st th with
      | some (pc', st') => ih xo d i nL pc' lv st' th ns
      | none => none
    else if cat < 15 then match d with
      | 0 => none
      | _ + 1 => match t_W cat ins pc a1 a2 st th with
        | some (pc', st', th') => ih xo d i nL pc' lv st' th' ns
        | none => none
    else if cat < 20 then match t_A ins pc a1 st th.length with
      | some (pc', st', add, n1) => if (t_okh th.length th && (st.all (t_okv th.length) && (t_okl th.length lv && decide (th.length + add.length ≤ 1000)))) = true then ih xo d i nL pc' lv st' (th ++ add) (ns + n1) else none
      | none => none
    else if cat < 30 then match d with
      | 0 => none
      | d' + 1 =>
        if cat = 26 then match st with
          | .ref _ :: r => if t_sum r ≤ 8 then ih xo d i nL (pc + 3) lv r th ns else none
          | _ => none
        else if cat = 28 then match t_math a2 st with
          | some st' => ih xo d i nL (pc + 3) lv st' th ns
          | none => none
        else match mi a1 with
          | none => none
          | some (nL', na, rc) => match t_cut cat na rc st th with
            | none => none
            | some (vs, rest) => if t_sum rest ≤ 8 ∧ (lg_sl vs).length ≤ nL' then
                match ih none d' a1 nL' 0 (lv_args 0 vs) [] th 0 with
                | none => none
                | some (r, th', n1) => if th'.length = th.length ∨ (t_okl th.length lv && rest.all (t_okv th.length)) = true then ih xo d i nL (pc + 3) lv (r.toList ++ rest) th' (ns + n1) else none
              else none
    else match t_ret cat st with
      | some r => some (r, th, ns)
      | none => none
noncomputable def t_exec (ct : Nat → Nat → Option tI) (mi : Nat → Option (Nat × Nat × Nat)) (n : Nat) : t_Ty := Nat.rec (fun _ _ _ _ _ _ _ _ _ => none) (fun _ ih => t_step ct mi ih) n
theorem t_exec_s (ct : Nat → Nat → Option tI) (mi : Nat → Option (Nat × Nat × Nat)) (n : Nat) : t_exec ct mi (n + 1) = t_step ct mi (t_exec ct mi n) := rfl
/-- the pool's words of a call -/
def t_needC (own : String) (cat : Nat) (ins : Instr) (y : MethodName) : List Jvm.Cond := match ins with
  | .invokevirtual k => [.methodLink own k y, .instanceMethod y, .selects y.cls y y]
  | .invokestatic k => if cat = 24 then [.static y] else [.methodLink own k y, .static y]
  | .invokespecial k => if cat = 26 then [.methodLink own k objectInit, .instanceMethod objectInit, .code objectInit ⟨#[0xb1]⟩ 1 none] else if cat = 25 then [.instanceMethod y] else [.methodLink own k y, .instanceMethod y]
  | _ => []
def t_okC (own : String) (cat : Nat) (ins : Instr) (y : MethodName) : Bool := match ins with
  | .invokevirtual _ => cat == 20 || (cat == 27 && y.cls == "java/lang/String")
  | .invokestatic k => cat == 21 || (cat == 24 && t_nst.any (fun q => q.1 == own && (q.2.1 == k && decide (q.2.2 = y))))
  | .invokespecial k => cat == 26 || ((cat == 22 || (cat == 25 && t_nst.any (fun q => q.1 == own && (q.2.1 == k && decide (q.2.2 = y))))) && y.name == "<init>")
  | _ => false
def t_needM (own : String) (ins : Instr) (a2 : Nat) : List Jvm.Cond := match ins with
  | .invokestatic k => if a2 = 0 then [.methodLink own k Lib.Math.max.name, .static Lib.Math.max.name, .initialized "java/lang/Math", .code Lib.Math.max.name Lib.Math.max.code 2 (some .int)] else if a2 = 1 then [.methodLink own k Lib.Math.min.name, .static Lib.Math.min.name, .initialized "java/lang/Math", .code Lib.Math.min.name Lib.Math.min.code 2 (some .int)]
    else [.methodLink own k Lib.Math.abs.name, .static Lib.Math.abs.name, .initialized "java/lang/Math", .code Lib.Math.abs.name Lib.Math.abs.code 1 (some .int)]
  | _ => []
def t_okM (ins : Instr) : Bool := match ins with
  | .invokestatic _ => true
  | _ => false
def t_okT (cat : Nat) (ins : Instr) (ret : Option FieldType) : Bool := match ret with
  | none => cat == 34 && decide (ins = .return_)
  | some .int => cat == 30 && decide (ins = .ireturn)
  | some .boolean => cat == 31 && decide (ins = .ireturn)
  | some .char => cat == 35 && decide (ins = .ireturn)
  | some .byte => cat == 36 && decide (ins = .ireturn)
  | some .long => cat == 32 && decide (ins = .lreturn)
  | some (.object _) => cat == 33 && decide (ins = .areturn)
  | some (.array _) => cat == 33 && decide (ins = .areturn)
  | _ => false
def t_nd (own : String) (ys : Nat → Option MethodName) (en : tI) : List Jvm.Cond :=
  if en.1 < 3 then t_kst own en.2.1 en.2.2.1 else if en.1 < 8 then t_needR own en.1 en.2.1 en.2.2.1 en.2.2.2 else if en.1 < 15 then t_needW own en.2.1 en.2.2.1 en.2.2.2 else if en.1 < 20 then t_needA own en.2.1 en.2.2.1
  else if en.1 < 30 then if en.1 = 28 then t_needM own en.2.1 en.2.2.2 else match ys en.2.2.1 with
    | some y => t_needC own en.1 en.2.1 y
    | none => []
  else []
def t_okI (own mn : String) (ret : Option FieldType) (ys : Nat → Option MethodName) (pc : Nat) (en : tI) : Bool :=
  if en.1 < 3 then t_br en.2.1 pc en.2.2.1 else if en.1 < 8 then t_okR own en.1 en.2.1 en.2.2.1 en.2.2.2 else if en.1 < 15 then t_okW own mn en.1 en.2.1 en.2.2.1 en.2.2.2 else if en.1 < 20 then true
  else if en.1 < 30 then if en.1 = 28 then t_okM en.2.1 else match ys en.2.2.1 with
    | some y => t_okC own en.1 en.2.1 y
    | none => false
  else t_okT en.1 en.2.1 ret
/-- the table of the code says what the bytes say, and the pool -/
def t_HC (ms : List t_M) (ct : Nat → Nat → Option tI) : Prop := ∀ (i pc : Nat) (en : tI), ct i pc = some en → ∃ q : t_M, ms[i]? = some q ∧ (∃ len, decode q.2.1 pc = .ok (en.2.1, len) ∧ (t_len en.2.1 = 0 ∨ t_len en.2.1 = len)) ∧ t_okI q.1.cls q.1.name q.2.2.2.1 (fun j => (ms[j]?).map (fun q => q.1)) pc en = true ∧ ∀ w ∈ t_nd q.1.cls (fun j => (ms[j]?).map (fun q => q.1)) en, w ∈ gt
/-- what a method that is called has -/
def t_mok (q : t_M) : Prop := Cond.code q.1 q.2.1 q.2.2.1 q.2.2.2.1 ∈ gt ∧ Cond.initialized q.1.cls ∈ gt ∧ plainName q.1.cls = true ∧ (q.1.cls ≠ "java/lang/invoke/MethodHandle" ∧ q.1.cls ≠ "java/lang/invoke/VarHandle") ∧ (parseMethodDescriptor q.1.desc).map (fun d => d.parameters.length) = some q.2.2.2.2.1 ∧ q.2.2.1 ≤ 19 ∧ (q.1.name = "<init>" → q.2.2.2.1 = none) ∧ ∀ z, vwCl[q.2.2.2.2.2]? = some z → z.1 = q.1.cls
def t_HM (ms : List t_M) (mi : Nat → Option (Nat × Nat × Nat)) : Prop := ∀ (j L na rc : Nat), mi j = some (L, na, rc) → ∃ q : t_M, ms[j]? = some q ∧ q.2.2.1 = L ∧ q.2.2.2.2.1 = na ∧ q.2.2.2.2.2 = rc ∧ rc ≤ 8 + 2 ∧ t_mok q
theorem t_W_len {cat pc a1 a2 pc' : Nat} {ins : Instr} {st st' : List Value} {th th' : tH} (h : t_W cat ins pc a1 a2 st th = some (pc', st', th')) : th'.length = th.length := by
  cases ins <;> simp only [t_W, t_rii, t_rij, t_rir] at h <;> (try cases h) <;> (repeat' split at h) <;> (first | (cases h; done) | (cases h; simp))
theorem t_lv_args (σ : Nat → Nat) : ∀ (vs : List Value) (i : Nat), lv_args i (vs.map (t_v σ)) = t_l σ (lv_args i vs)
  | [], _ => rfl
  | v :: vs, i => by
    show (i, t_v σ v) :: lv_args (if (t_v σ v).category = 2 then i + 2 else i + 1) (vs.map (t_v σ)) = (i, t_v σ v) :: t_l σ (lv_args (if v.category = 2 then i + 2 else i + 1) vs)
    rw [t_lv_args σ vs, t_v_cat]
theorem t_lg_sl (σ : Nat → Nat) : ∀ (vs : List Value), (lg_sl (vs.map (t_v σ))).length = (lg_sl vs).length
  | [] => rfl
  | v :: vs => by
    have ih := t_lg_sl σ vs
    unfold lg_sl at ih ⊢
    rw [List.map_cons, List.flatMap_cons, List.flatMap_cons, List.length_append, List.length_append, ih, t_v_cat]
    split <;> rfl
theorem t_sum_v (σ : Nat → Nat) (st : List Value) : ((st.map (t_v σ)).map fun v => v.category).sum = t_sum st := by
  unfold t_sum
  rw [List.map_map]
  exact congrArg List.sum (List.map_congr_left (fun v _ => t_v_cat σ v))
/-- a run of the small machine is a run of the machine: what this says of a frame, the frame's method being the i-th -/
def t_Good (ms : List t_M) (xo : Option (List Int32)) (d i nL pc : Nat) (lv : tL) (st : List Value) (th : tH) (ns : Nat) (r : Option Value) (th' : tH) (ns' : Nat) : Prop :=
  ∀ {p : Program} {l : Launch} {e : Env} {R : Room} {s : State} {m : MethodId} {args : Array Value} {below : List Frame} {meth : Method} {c : Code} {H : Heap} {locs : List Loc} {Q : State → Prop} {ls : Array Slot} {σ : Nat → Nat} {kd : Nat → ClassId} {D : va_G} {A : Nat → Prop} (n0 : Nat) (q : t_M), ms[i]? = some q →
    CallFix p m c q.2.1 nL s args gt q.1.cls → meth.name = q.1.name → d ≤ R.frames → 38 * d ≤ R.locals → n0 ≤ th.length → th'.length - n0 ≤ R.cells → ns' ≤ R.slots →
    va_K D vwCl (t_tys kd) s → (∀ q, s.heap.size ≤ q → A q) → t_Ex σ A s s.heap → t_Sc σ A xo s → va_P D vwCl (t_w σ kd th) H → va_D A (t_w σ kd th) → va_S A s.heap H locs → lv_has ls nL (t_l σ lv) →
    (∀ (σ' : Nat → Nat) (H' : Heap) (locs' : List Loc) (pc' : Nat) (ls' : Array Slot) (cat' : Nat) (ins' : Instr), (∀ k, k < th.length ∨ th'.length ≤ k → σ' k = σ k) → va_P D vwCl (t_w σ' kd th') H' → va_D A (t_w σ' kd th') → va_S A s.heap H' locs' → decode q.2.1 pc' = .ok (ins', 1) → t_okT cat' ins' q.2.2.2.1 = true → t_ret cat' r.toList = some r → W p l e R s m args below meth c H' locs' (th'.length - n0) ns' Q (F0 m pc' ls' (r.toList.map (t_v σ')))) →
    W p l e R s m args below meth c H locs (th.length - n0) ns Q (F0 m pc ls (st.map (t_v σ)))
def t_Pre (D : va_G) (kd : Nat → ClassId) (σ : Nat → Nat) (th : tH) (sz : Nat) : State → Prop := fun U => U.heap.size = sz ∧ va_P D vwCl (t_w σ kd th) U.heap ∧ va_K D vwCl (t_tys kd) U ∧ va_D (fun _ => True) (t_w σ kd th) ∧ t_Ex σ (va_A (t_w σ kd th) sz) U U.heap
def t_Q (D : va_G) (kd : Nat → ClassId) (σ : Nat → Nat) (th th' : tH) (r : Option Value) (sz : Nat) : Array Value → State → Outcome → State → Prop := fun _ st oc t =>
  (∃ σ' : Nat → Nat, oc = .returned (r.map (t_v σ')) ∧ (∀ k, k < th.length ∨ th'.length ≤ k → σ' k = σ k) ∧ va_P D vwCl (t_w σ' kd th') t.heap ∧ va_D (va_A (t_w σ kd th) sz) (t_w σ' kd th')) ∧ va_F (va_A (t_w σ kd th) sz) st t
abbrev t_mw (q : t_M) : List Jvm.Cond := Cond.code q.1 q.2.1 q.2.2.1 q.2.2.2.1 :: gt
abbrev t_rm (d mc ms : Nat) : Room := { frames := d, cells := mc, slots := ms, locals := 38 * d }
theorem t_char {x : Int32} (h1 : 0 ≤ x) (h2 : x ≤ 65535) : narrow .char (.int x) = .int x := by
  have h0 : ¬ x < 0 := Int32.not_lt.mpr h1
  obtain ⟨j, hj, rfl⟩ := nI_of2 (M := 65535) (n := 65535) rfl h0 h2
  exact (pk_charN (by omega)).1
set_option maxHeartbeats 4000000 in
theorem t_met {ms : List t_M} {d i : Nat} {q : t_M} {vs : List Value} {th th' : tH} {r : Option Value} {ns' : Nat} (hq : ms[i]? = some q) (hm : t_mok q) (hg : t_Good ms none d i q.2.2.1 0 (lv_args 0 vs) [] th 0 r th' ns') (hle : th.length ≤ th'.length) (hv : (lg_sl vs).length ≤ q.2.2.1) (l : Launch) (D : va_G) (kd : Nat → ClassId) (σ : Nat → Nat) (sz : Nat) :
    Met l q.1 (t_mw q) (t_rm d (th'.length - th.length) ns') (va_Pc (vs.map (t_v σ)) (t_Pre D kd σ th sz)) (t_Q D kd σ th th' r sz) (th'.length - th.length) ns' (va_A (t_w σ kd th) sz) := by
  refine Met.ofW (cc := q.2.1) (maxL := q.2.2.1) (ret := q.2.2.2.1) hm.2.2.1 rfl ?_
  intro p e s m args below meth c s₁ B hml hv0
  obtain ⟨rfl, hsz, hP, hK, hD0, hE⟩ := hv0
  have hts := atoms_spec (ws := t_mw q) B.pre
  have hown : s.vm.findClass q.1.cls = some m.cls := findClass_of_methodNamed B.named
  have hlocks := B.notSynchronized
  have hr := B.returns
  have hl := lv_entry (vs.map (t_v σ)) (n := q.2.2.1) (by rw [t_lg_sl]; exact hv)
  rw [t_lv_args] at hl
  rw [lg_entry_eq]
  generalize (lg_sl (vs.map (t_v σ)) ++ List.replicate (q.2.2.1 - (lg_sl (vs.map (t_v σ))).length) Slot.unset).toArray = ls at hl ⊢
  subst hsz
  have hD := hD0.self (sz := s.heap.size)
  have hA : ∀ q0 : Nat, s.heap.size ≤ q0 → va_A (t_w σ kd th) s.heap.size q0 := fun q0 h => Or.inr h
  have key := hg (p := p) (l := l) (e := e) (R := (headSpec (t_mw q) (t_rm d (th'.length - th.length) ns')).room) (s := s) (m := m) (args := (vs.map (t_v σ)).toArray) (below := below) (meth := meth) (c := c) (H := s.heap) (locs := []) (Q := MQ below (t_Q D kd σ th th' r s.heap.size) (vs.map (t_v σ)).toArray s (th'.length - th.length) ns' (va_A (t_w σ kd th) s.heap.size)) (ls := ls) (σ := σ) (kd := kd) (D := D) (A := va_A (t_w σ kd th) s.heap.size) th.length q hq
    ⟨B.exec, B.bytes, hml, hown, fun w hw => hts w (List.mem_cons_of_mem _ hw)⟩ (name_of_methodNamed B.named B.method).1 (Nat.le_refl _) (Nat.le_refl _) (Nat.le_refl _) (Nat.le_refl _) (Nat.le_refl _) hK hA hE (fun xs h => by cases h) hP hD va_S.rf hl ?_
  · rw [Nat.sub_self] at key
    exact key
  · intro σ' H' locs' pc' ls' cat' ins' e1 e2 e3 e4 e5 e6 e7
    have hqq : ∀ t : State, t.heap = H' → s.WarmedH t.vm → t_Q D kd σ th th' r s.heap.size (vs.map (t_v σ)).toArray s (.returned (r.map (t_v σ'))) t := fun t ht _ => ⟨⟨σ', rfl, e1, by rw [ht]; exact e2, e3⟩, e4.F ht⟩
    cases r with
    | none =>
      simp only [Option.toList_none, t_ret] at e7
      split at e7
      · rename_i hc
        subst hc
        have hret : q.2.2.2.1 = none ∧ ins' = .return_ := by
          revert e6
          cases q.2.2.2.1 with
          | none => intro e6; simp [t_okT] at e6; exact ⟨rfl, e6⟩
          | some ty => intro e6; cases ty <;> simp [t_okT] at e6
        rw [hret.2] at e5
        exact W.vret B.exec B.bytes (by rw [hr]; exact hret.1) hqq e4.2.2 e5
      · cases e7
    | some v =>
      simp only [Option.toList_some, t_ret] at e7
      cases v with
      | int x =>
        simp only at e7
        split at e7
        · rename_i hc
          have hret : (∃ ty, q.2.2.2.1 = some ty ∧ narrow ty (.int x) = .int x) ∧ ins' = .ireturn := by
            revert e6
            cases q.2.2.2.1 with
            | none => intro e6; simp [t_okT] at e6; omega
            | some ty =>
              intro e6
              cases ty <;> simp [t_okT] at e6
              case int => exact ⟨⟨_, rfl, rfl⟩, e6.2⟩
              case boolean =>
                refine ⟨⟨_, rfl, ?_⟩, e6.2⟩
                have h1 : x = 0 ∨ x = 1 := by
                  rcases hc with h | h | h | h
                  · omega
                  · exact h.2
                  · omega
                  · omega
                rcases h1 with rfl | rfl <;> decide
              case byte =>
                refine ⟨⟨_, rfl, ?_⟩, e6.2⟩
                have h1 : x = 0 := by
                  rcases hc with h | h | h | h
                  · omega
                  · omega
                  · omega
                  · exact h.2
                rw [h1]
                decide
              case char =>
                refine ⟨⟨_, rfl, ?_⟩, e6.2⟩
                have h1 : 0 ≤ x ∧ x ≤ 65535 := by
                  rcases hc with h | h | h | h
                  · omega
                  · omega
                  · exact h.2
                  · omega
                exact t_char h1.1 h1.2
              all_goals omega
          obtain ⟨⟨ty, h1, h2⟩, h3⟩ := hret
          rw [h3] at e5
          exact W.zret B.exec B.bytes (hr.trans h1) h2 hqq e4.2.2 e5
        · cases e7
      | long x =>
        simp only at e7
        split at e7
        · rename_i hc
          subst hc
          have hret : q.2.2.2.1 = some .long ∧ ins' = .lreturn := by
            revert e6
            cases q.2.2.2.1 with
            | none => intro e6; simp [t_okT] at e6
            | some ty => intro e6; cases ty <;> simp [t_okT] at e6; exact ⟨rfl, e6⟩
          rw [hret.2] at e5
          exact W.lret B.exec B.bytes (hr.trans hret.1) hqq e4.2.2 e5
        · cases e7
      | ref x =>
        simp only at e7
        split at e7
        · rename_i hc
          subst hc
          have hret : (∃ ty, q.2.2.2.1 = some ty ∧ ((∃ n, ty = .object n) ∨ ∃ t, ty = .array t)) ∧ ins' = .areturn := by
            revert e6
            cases q.2.2.2.1 with
            | none => intro e6; simp [t_okT] at e6
            | some ty =>
              intro e6
              cases ty <;> simp [t_okT] at e6
              case object n => exact ⟨⟨_, rfl, Or.inl ⟨_, rfl⟩⟩, e6⟩
              case array n => exact ⟨⟨_, rfl, Or.inr ⟨_, rfl⟩⟩, e6⟩
          obtain ⟨⟨ty, h1, h2⟩, h3⟩ := hret
          rw [h3] at e5
          exact W.aret B.exec B.bytes (hr.trans h1) h2 (Or.inr ⟨_, rfl⟩) hqq e4.2.2 e5
        · cases e7
      | null =>
        simp only at e7
        split at e7
        · rename_i hc
          subst hc
          have hret : (∃ ty, q.2.2.2.1 = some ty ∧ ((∃ n, ty = .object n) ∨ ∃ t, ty = .array t)) ∧ ins' = .areturn := by
            revert e6
            cases q.2.2.2.1 with
            | none => intro e6; simp [t_okT] at e6
            | some ty =>
              intro e6
              cases ty <;> simp [t_okT] at e6
              case object n => exact ⟨⟨_, rfl, Or.inl ⟨_, rfl⟩⟩, e6⟩
              case array n => exact ⟨⟨_, rfl, Or.inr ⟨_, rfl⟩⟩, e6⟩
          obtain ⟨⟨ty, h1, h2⟩, h3⟩ := hret
          rw [h3] at e5
          exact W.aret B.exec B.bytes (hr.trans h1) h2 (Or.inl rfl) hqq e4.2.2 e5
        · cases e7
      | _ => cases e7
end
section
section TS
variable {p : Program} {l : Launch} {e : Env} {R : Room} {s : State} {m : MethodId} {args : Array Value} {below : List Frame} {meth : Method} {c : Code} {H : Heap} {locs : List Loc} {cells slots : Nat} {Q : State → Prop}
variable {pc : Nat} {ls : Array Slot} {σ : Nat → Nat} {kd : Nat → ClassId} {D : va_G} {A : Nat → Prop} {th th1 : tH} {r1 : Option Value}
theorem t_free (hD : va_D A (t_w σ kd th)) (hS : va_S A s.heap H locs) (hA : ∀ q, s.heap.size ≤ q → A q) : ∀ q, va_A (t_w σ kd th) H.size q → A q := by
  intro q h
  rcases h with ⟨k, e, h⟩ | h
  · exact hD.2 k _ h
  · exact hA q (Nat.le_trans hS.1 h)
theorem t_after {mc ms1 : Nat} {st0 rest : List Value} {a : Array Value} (hr : va_Run p l e R s m args below meth c H locs cells slots mc ms1 (F0 m pc ls st0) rest (t_Q D kd σ th th1 r1 H.size a) (va_A (t_w σ kd th) H.size)) (hD : va_D A (t_w σ kd th)) (hS : va_S A s.heap H locs) (hA : ∀ q, s.heap.size ≤ q → A q)
    (kk : ∀ (σ1 : Nat → Nat) (H1 : Heap) (locs1 : List Loc), (∀ k, k < th.length ∨ th1.length ≤ k → σ1 k = σ k) → va_P D vwCl (t_w σ1 kd th1) H1 → va_D A (t_w σ1 kd th1) → va_S A s.heap H1 locs1 → W p l e R s m args below meth c H1 locs1 (cells + mc) (slots + ms1) Q (F0 m (pc + 3) ls ((r1.map (t_v σ1)).toList ++ rest))) : W p l e R s m args below meth c H locs cells slots Q (F0 m pc ls st0) := by
  intro T hT X
  obtain ⟨v, st₀, t, T', L, h0, X', hL, e1, e2, ⟨⟨σ1, hv, g1, g2, g3⟩, hz, hk⟩, st⟩ := hr T hT X
  cases hv
  rw [h0] at hz hk
  have hf := t_free hD hS hA
  obtain ⟨t2, a1, b1⟩ := kk σ1 T'.heap (locs ++ L) g1 (by rw [e1]; exact g2) (g3.weaken (fun _ q _ h => hf q.1 h))
    ⟨Nat.le_trans hS.1 (by rw [e1]; exact hz), fun q h1 h2 => by rw [e1, hk q (Nat.lt_of_lt_of_le h1 hS.1) (fun z => h2 (hf q z))]; exact hS.2.1 q h1 h2, fun q hq => by
      rcases List.mem_append.mp hq with h | h
      · exact hS.2.2 q h
      · exact hf _ (hL q h)⟩ T' rfl X'
  exact ⟨t2, st t2 a1, b1⟩
theorem t_blind (D : va_G) (kd : Nat → ClassId) (σ : Nat → Nat) (th : tH) (sz : Nat) (vs : List Value) : FrameBlind (va_Pc vs (t_Pre D kd σ th sz)) := by
  intro a U g mk h
  obtain ⟨h1, h2, h3, h4, h5, h6⟩ := h
  exact ⟨h1, h2, h3, va_K.moved (u := U) (U := U.calling g mk a) (Vm.Alike.refl U.vm) h4, h5, t_Ex.same (u := U) (U := U.calling g mk a) rfl h6⟩
theorem t_pre (hK : va_K D vwCl (t_tys kd) s) (hP : va_P D vwCl (t_w σ kd th) H) (hD : va_D A (t_w σ kd th)) (hS : va_S A s.heap H locs) (hA : ∀ q, s.heap.size ≤ q → A q) (hE : t_Ex σ A s s.heap) (vs : List Value) : ∀ U : State, U.heap = H → s.WarmedH U.vm → va_Pc vs (t_Pre D kd σ th H.size) vs.toArray U := by
  intro U hU hW
  refine ⟨rfl, by rw [hU], by rw [hU]; exact hP, va_K.moved hW.alike hK, hD.weaken (fun _ _ _ _ => trivial), ?_⟩
  rw [hU]
  exact t_Ex.warm hW ((hE.kept hS.2.1).narrow (t_free hD hS hA))
theorem t_gin {q : t_M} (hm : t_mok q) : GoodIn gt (t_mw q) := by
  intro w hw
  rcases List.mem_cons.mp hw with rfl | h
  · exact ⟨hm.1, gt_good hm.1⟩
  · exact ⟨h, gt_good h⟩
theorem t_nst_of {own : String} {k : Nat} {y : MethodName} (hE : t_Ex σ A s s.heap) (h : t_nst.any (fun q => q.1 == own && (q.2.1 == k && decide (q.2.2 = y))) = true) : va_Nw (.methodLinkNest own k y "NineTrees") s := by
  simp only [List.any_eq_true, Bool.and_eq_true, beq_iff_eq, decide_eq_true_eq] at h
  obtain ⟨q, hq, q1, q2, q3⟩ := h
  have := hE.2.2.2.2.1 q hq
  rw [q1, q2, q3] at this
  exact this
set_option maxHeartbeats 4000000 in
theorem t_run {cat na rc d' ns1 len nL : Nat} {ins : Instr} {st vs rest : List Value} {q q' : t_M} (S : CallFix p m c q.2.1 nL s args gt q.1.cls) (hd : decode q.2.1 pc = .ok (ins, len)) (hlen : t_len ins = 0 ∨ t_len ins = len) (hn : ∀ w ∈ t_needC q.1.cls cat ins q'.1, w ∈ gt) (ho : t_okC q.1.cls cat ins q'.1 = true) (h26 : cat ≠ 26) (hm : t_mok q') (hna : q'.2.2.2.2.1 = na) (hrc : q'.2.2.2.2.2 = rc) (hrc9 : rc ≤ 8 + 2) (hcut : t_cut cat na rc st th = some (vs, rest)) (h8 : t_sum rest ≤ 8)
    (hR1 : d' + 1 ≤ R.frames) (hR2 : 38 * (d' + 1) ≤ R.locals) (hc1 : cells + (th1.length - th.length) ≤ R.cells) (hc2 : slots + ns1 ≤ R.slots) (hls : ls.size = nL)
    (hK : va_K D vwCl (t_tys kd) s) (hP : va_P D vwCl (t_w σ kd th) H) (hD : va_D A (t_w σ kd th)) (hS : va_S A s.heap H locs) (hA : ∀ q, s.heap.size ≤ q → A q) (hE : t_Ex σ A s s.heap)
    (hM : Met l q'.1 (t_mw q') (t_rm d' (th1.length - th.length) ns1) (va_Pc (vs.map (t_v σ)) (t_Pre D kd σ th H.size)) (t_Q D kd σ th th1 r1 H.size) (th1.length - th.length) ns1 (va_A (t_w σ kd th) H.size)) :
    ∃ a : Array Value, va_Run p l e R s m args below meth c H locs cells slots (th1.length - th.length) ns1 (F0 m pc ls (st.map (t_v σ))) (rest.map (t_v σ)) (t_Q D kd σ th th1 r1 H.size a) (va_A (t_w σ kd th) H.size) := by
  have hts := S.2.2.2.2
  have hd' : q'.1.cls ≠ "java/lang/invoke/MethodHandle" ∧ q'.1.cls ≠ "java/lang/invoke/VarHandle" ∧ (parseMethodDescriptor q'.1.desc).map (fun d => d.parameters.length) = some na := ⟨hm.2.2.2.1.1, hm.2.2.2.1.2, by rw [← hna]; exact hm.2.2.2.2.1⟩
  have hR' : (t_rm d' (th1.length - th.length) ns1).frames + 1 ≤ R.frames ∧ 8 + (q'.2.2.1 + 11) + (t_rm d' (th1.length - th.length) ns1).locals ≤ R.locals := ⟨hR1, by
    have h19 := hm.2.2.2.2.2.1
    show 8 + (q'.2.2.1 + 11) + 38 * d' ≤ R.locals
    omega⟩
  have hroom : ∀ rr : List Value, 2 * (F0 m pc ls rr).monitorRoom + ((rest.map (t_v σ)).map fun v => v.category).sum ≤ 8 := fun rr => lv_room (by rw [t_sum_v]; exact h8)
  unfold t_cut at hcut
  split at hcut
  · cases hcut
  rename_i hlt
  have hlt' : na ≤ st.length := by omega
  have hAl : (((st.take na).reverse).map (t_v σ)).length = na := by
    rw [List.length_map, List.length_reverse, List.length_take]
    omega
  have hArev : (((st.take na).reverse).map (t_v σ)).reverse = (st.take na).map (t_v σ) := by
    rw [List.map_reverse, List.reverse_reverse]
  cases ins
  case invokestatic k =>
    cases hlen.resolve_left (by simp [t_len])
    have hst : cat = 21 ∨ cat = 24 := by
      simp only [t_okC, Bool.or_eq_true, Bool.and_eq_true, beq_iff_eq] at ho
      omega
    rw [if_pos hst] at hcut
    simp only [Option.some.injEq, Prod.mk.injEq] at hcut
    obtain ⟨rfl, rfl⟩ := hcut
    have hstk : (F0 m pc ls (st.map (t_v σ))).stack = (((st.take na).reverse).map (t_v σ)).reverse ++ (st.drop na).map (t_v σ) := by
      show st.map (t_v σ) = _
      rw [hArev, ← List.map_append, List.take_append_drop]
    by_cases h24 : cat = 24
    · have w1 : Cond.static q'.1 ∈ gt := hn _ (by simp [t_needC, h24])
      have hnw : va_Nw (.methodLinkNest q.1.cls k q'.1 "NineTrees") s := by
        refine t_nst_of hE ?_
        simp only [t_okC, h24] at ho
        simpa using ho
      exact ⟨_, va_runSN (As := ((st.take na).reverse).map (t_v σ)) (rest := (st.drop na).map (t_v σ)) S hM ⟨va_cnB na hts (t_gin hm) rfl rfl rfl hnw (hts _ hm.2.1) hd' hR', hts _ w1, trivial⟩ ⟨t_blind D kd σ th H.size _, t_pre hK hP hD hS hA hE _⟩ rfl hAl hls hstk (hroom _) hd ⟨hc1, hc2⟩⟩
    · have w1 : Cond.static q'.1 ∈ gt := hn _ (by simp [t_needC, h24])
      have w2 : Cond.methodLink q.1.cls k q'.1 ∈ gt := hn _ (by simp [t_needC, h24])
      exact ⟨_, va_runS (As := ((st.take na).reverse).map (t_v σ)) (rest := (st.drop na).map (t_v σ)) S hM ⟨callB_of na hts (t_gin hm) rfl rfl rfl (hts _ hm.2.1) (hts _ w2) hd' hR', hts _ w1⟩ ⟨t_blind D kd σ th H.size _, t_pre hK hP hD hS hA hE _⟩ rfl hAl hls hstk (hroom _) hd ⟨hc1, hc2⟩⟩
  case invokespecial k =>
    cases hlen.resolve_left (by simp [t_len])
    simp only [t_okC, Bool.or_eq_true, Bool.and_eq_true, beq_iff_eq] at ho
    obtain ⟨hcc, hini⟩ := ho.resolve_left h26
    have hst : ¬ (cat = 21 ∨ cat = 24) := by omega
    rw [if_neg hst] at hcut
    split at hcut
    · rename_i b rest0 hdr
      rw [if_pos (by omega)] at hcut
      simp only [Option.some.injEq, Prod.mk.injEq] at hcut
      obtain ⟨rfl, rfl⟩ := hcut
      have hstk : (F0 m pc ls (st.map (t_v σ))).stack = (((st.take na).reverse).map (t_v σ)).reverse ++ .ref (σ b) :: rest0.map (t_v σ) := by
        show st.map (t_v σ) = _
        rw [hArev]
        conv => lhs; rw [← List.take_append_drop na st, hdr]
        rw [List.map_append]
        rfl
      have hret := hm.2.2.2.2.2.2.1 hini
      by_cases h25 : cat = 25
      · have w1 : Cond.instanceMethod q'.1 ∈ gt := hn _ (by simp [t_needC, h25])
        have hnw : va_Nw (.methodLinkNest q.1.cls k q'.1 "NineTrees") s := t_nst_of hE (hcc.resolve_left (by omega)).2
        exact ⟨_, va_runIN (As := ((st.take na).reverse).map (t_v σ)) (rest := rest0.map (t_v σ)) S hM ⟨va_cnB na hts (t_gin hm) (by show t_mw q' = _; unfold t_mw; rw [hret]) rfl rfl hnw (hts _ hm.2.1) hd' hR', hini, hts _ w1⟩ ⟨t_blind D kd σ th H.size _, t_pre hK hP hD hS hA hE (.ref (σ b) :: ((st.take na).reverse).map (t_v σ))⟩ rfl hAl hls hstk (hroom _) hd ⟨hc1, hc2⟩⟩
      · have w1 : Cond.instanceMethod q'.1 ∈ gt := hn _ (by simp [t_needC, h25, h26])
        have w2 : Cond.methodLink q.1.cls k q'.1 ∈ gt := hn _ (by simp [t_needC, h25, h26])
        exact ⟨_, va_runI (As := ((st.take na).reverse).map (t_v σ)) (rest := rest0.map (t_v σ)) S hM ⟨callB_of na hts (t_gin hm) (by show t_mw q' = _; unfold t_mw; rw [hret]) rfl rfl (hts _ hm.2.1) (hts _ w2) hd' hR', hini, hts _ w1⟩ ⟨t_blind D kd σ th H.size _, t_pre hK hP hD hS hA hE (.ref (σ b) :: ((st.take na).reverse).map (t_v σ))⟩ rfl hAl hls hstk (hroom _) hd ⟨hc1, hc2⟩⟩
    · cases hcut
  case invokevirtual k =>
    cases hlen.resolve_left (by simp [t_len])
    simp only [t_okC, Bool.or_eq_true, Bool.and_eq_true, beq_iff_eq] at ho
    have hst : ¬ (cat = 21 ∨ cat = 24) := by omega
    rw [if_neg hst] at hcut
    have w1 : Cond.methodLink q.1.cls k q'.1 ∈ gt := hn _ (by simp [t_needC])
    have w2 : Cond.instanceMethod q'.1 ∈ gt := hn _ (by simp [t_needC])
    have w3 : Cond.selects q'.1.cls q'.1 q'.1 ∈ gt := hn _ (by simp [t_needC])
    split at hcut
    · rename_i b rest0 hdr
      rw [if_neg (by omega)] at hcut
      have hstk : (F0 m pc ls (st.map (t_v σ))).stack = (((st.take na).reverse).map (t_v σ)).reverse ++ .ref (σ b) :: rest0.map (t_v σ) := by
        show st.map (t_v σ) = _
        rw [hArev]
        conv => lhs; rw [← List.take_append_drop na st, hdr]
        rw [List.map_append]
        rfl
      have fin : ∀ (vs0 : List Value), vs0 = .ref b :: (st.take na).reverse → vs = vs0 → rest = rest0 → (∃ cellB : Cell, H[σ b]? = some cellB ∧ cellB.vm.isStatics = false ∧ s.vm.findClass q'.1.cls = some cellB.cls) → ∃ a : Array Value, va_Run p l e R s m args below meth c H locs cells slots (th1.length - th.length) ns1 (F0 m pc ls (st.map (t_v σ))) (rest.map (t_v σ)) (t_Q D kd σ th th1 r1 H.size a) (va_A (t_w σ kd th) H.size) := by
        intro vs0 e1 e2 e3 hrec
        subst e1 e2 e3
        exact ⟨_, va_runV (As := ((st.take na).reverse).map (t_v σ)) (rest := rest.map (t_v σ)) S hM ⟨callB_of na hts (t_gin hm) rfl rfl rfl (hts _ hm.2.1) (hts _ w1) hd' hR', hts _ w2, hts _ w3⟩ ⟨t_blind D kd σ th H.size _, hrec, t_pre hK hP hD hS hA hE (.ref (σ b) :: ((st.take na).reverse).map (t_v σ))⟩ rfl hAl hls hstk (hroom _) hd ⟨hc1, hc2⟩⟩
      split at hcut
      · split at hcut
        · rename_i ci fs hb
          split at hcut
          · rename_i hci
            simp only [Option.some.injEq, Prod.mk.injEq] at hcut
            have hci9 : ∃ z, vwCl[ci]? = some z := by
              obtain ⟨z, hz, -⟩ := hP b _ (t_w_get hb)
              exact ⟨z, hz⟩
            obtain ⟨z, hz⟩ := hci9
            have hzc : z.1 = q'.1.cls := hm.2.2.2.2.2.2.2 z (by rw [hrc, ← hci]; exact hz)
            refine fin _ rfl hcut.1.symm hcut.2.symm ?_
            rw [← hzc]
            exact va_recv hK hP hz (t_w_get hb)
          · cases hcut
        · cases hcut
      · split at hcut
        · rename_i hb
          simp only [Option.some.injEq, Prod.mk.injEq] at hcut
          refine fin _ rfl hcut.1.symm hcut.2.symm ?_
          have hcl : q'.1.cls = "java/lang/String" := by
            rcases ho with h | h
            · omega
            · exact h.2
          rw [hcl]
          have hlift : ∀ x : Nat, 1001 ≤ x ∧ x < 1011 → ∃ i, i < 10 ∧ x = 1001 + i := fun x hx => ⟨x - 1001, by omega, by omega⟩
          obtain ⟨i, hi, rfl⟩ := hlift b hb
          obtain ⟨cell, h1, h2, h3, -⟩ := (hE.1 i hi).1.kept hS.2.1
          exact ⟨cell, h1, h2, h3⟩
        · cases hcut
    · cases hcut
  all_goals cases ho
end TS
end
section
set_option maxHeartbeats 8000000 in
/-- every run of the small machine is a run of the machine -/
theorem t_sound {ms : List t_M} {ct : Nat → Nat → Option tI} {mi : Nat → Option (Nat × Nat × Nat)} (HC : t_HC ms ct) (HM : t_HM ms mi) : ∀ (n : Nat) (xo : Option (List Int32)) (d i nL pc : Nat) (lv : tL) (st : List Value) (th : tH) (ns : Nat) (r : Option Value) (th' : tH) (ns' : Nat), t_exec ct mi n xo d i nL pc lv st th ns = some (r, th', ns') →
    (th.length ≤ th'.length ∧ (th'.length = th.length ∨ th'.length ≤ 1000) ∧ ns ≤ ns') ∧ t_Good ms xo d i nL pc lv st th ns r th' ns' := by
  intro n
  induction n with
  | zero => intro xo d i nL pc lv st th ns r th' ns' h; cases h
  | succ n ih =>
    intro xo d i nL pc lv st th ns r th' ns' h
    rw [t_exec_s] at h
    unfold t_step at h
    split at h
    · cases h
    rename_i cat ins a1 a2 hct
    obtain ⟨q0, hq0, ⟨len, hd, hlen⟩, hok, hnd⟩ := HC i pc _ hct
    unfold t_okI at hok
    unfold t_nd at hnd
    dsimp only at hd hlen hok hnd
    by_cases c1 : cat < 3
    · rw [if_pos c1] at h hok hnd
      split at h
      · rename_i pc' lv' st' hp
        obtain ⟨hm, hg⟩ := ih _ _ _ _ _ _ _ _ _ _ _ _ h
        refine ⟨hm, ?_⟩
        intro p l e R s m args below meth c H locs Q ls σ kd D A n0 q hq S hmn hR1 hR2 hn0 hc hsl hK hA hE hX hP hD hS hh hret
        cases hq0.symm.trans hq
        exact t_P_ok S.1 S.2.1 S.2.2.2.1 hd hlen hok (fun w hw => S.2.2.2.2 w (hnd w hw)) hh hp (fun ls' hh' => hg n0 q0 hq S hmn hR1 hR2 hn0 hc hsl hK hA hE hX hP hD hS hh' hret)
      · cases h
    rw [if_neg c1] at h hok hnd
    by_cases c2 : cat < 8
    · rw [if_pos c2] at h hok hnd
      split at h
      · rename_i pc' st' hp
        obtain ⟨hm, hg⟩ := ih _ _ _ _ _ _ _ _ _ _ _ _ h
        refine ⟨hm, ?_⟩
        intro p l e R s m args below meth c H locs Q ls σ kd D A n0 q hq S hmn hR1 hR2 hn0 hc hsl hK hA hE hX hP hD hS hh hret
        cases hq0.symm.trans hq
        exact t_R_ok S.1 S.2.1 S.2.2.2.1 S.2.2.2.2 hd hlen hnd hok hK hP hS hE hX hp (hg n0 q0 hq S hmn hR1 hR2 hn0 hc hsl hK hA hE hX hP hD hS hh hret)
      · cases h
    rw [if_neg c2] at h hok hnd
    by_cases c3 : cat < 15
    · rw [if_pos c3] at h hok hnd
      cases d with
      | zero => cases h
      | succ d =>
        dsimp only at h
        split at h
        · rename_i pc' st' th2 hp
          have hl2 := t_W_len hp
          obtain ⟨hm, hg⟩ := ih _ _ _ _ _ _ _ _ _ _ _ _ h
          rw [hl2] at hm
          refine ⟨hm, ?_⟩
          intro p l e R s m args below meth c H locs Q ls σ kd D A n0 q hq S hmn hR1 hR2 hn0 hc hsl hK hA hE hX hP hD hS hh hret
          cases hq0.symm.trans hq
          have hml : c.maxLocals = ls.size := S.2.2.1.trans hh.1.symm
          refine t_W_ok S.1 S.2.1 hml S.2.2.2.1 S.2.2.2.2 hd hlen hnd (by rw [hmn]; exact hok) ⟨by omega, by omega⟩ hK hP hD hS hp (fun H1 locs1 j1 j2 j3 => ?_)
          have := hg n0 q0 hq S hmn hR1 hR2 (by rw [hl2]; exact hn0) hc hsl hK hA hE hX j1 j2 j3 hh (by rw [hl2]; exact hret)
          rw [hl2] at this
          exact this
        · cases h
    rw [if_neg c3] at h hok hnd
    by_cases c4 : cat < 20
    · rw [if_pos c4] at h hok hnd
      split at h
      · rename_i pc' st' add n1 hp
        split at h
        · rename_i hck
          simp only [Bool.and_eq_true, decide_eq_true_eq] at hck
          obtain ⟨k1, k2, k3, k4⟩ := hck
          obtain ⟨⟨hm1, hm2, hm3⟩, hg⟩ := ih _ _ _ _ _ _ _ _ _ _ _ _ h
          rw [List.length_append] at hm1 hm2
          refine ⟨⟨by omega, by omega, by omega⟩, ?_⟩
          intro p l e R s m args below meth c H locs Q ls σ kd D A n0 q hq S hmn hR1 hR2 hn0 hc hsl hK hA hE hX hP hD hS hh hret
          cases hq0.symm.trans hq
          refine t_A_ok S.1 S.2.1 S.2.2.2.1 S.2.2.2.2 hd hlen hnd hK hP hD hS hA hE hp k1 k2 k4 (by omega) (by omega) (fun σ1 H1 g1 g2 g3 g4 => ?_)
          have hag : ∀ k, k < th.length ∨ 1000 ≤ k → σ1 k = σ k := fun k hk => g1 k (by rw [List.length_append]; omega)
          have hE1 : t_Ex σ1 A s s.heap := hE.to (fun k hk => hag k (Or.inr hk))
          have hX1 : t_Sc σ1 A xo s := by
            intro xs hxs
            rw [hag 1000 (Or.inr (Nat.le_refl _))]
            exact hX xs hxs
          have hh1 : lv_has ls nL (t_l σ1 lv) := by
            rw [t_okl_eq hag k3]
            exact hh
          have := hg n0 q0 hq S hmn hR1 hR2 (by rw [List.length_append]; omega) hc hsl hK hA hE1 hX1 g2 g3 g4 hh1 (fun σ' H' locs' pc2 ls2 cat2 ins2 f1 => hret σ' H' locs' pc2 ls2 cat2 ins2 (fun k hk => by
            rw [List.length_append] at f1 g1
            rw [f1 k (by omega), g1 k (by omega)]))
          rw [List.length_append, show th.length + add.length - n0 = th.length - n0 + add.length by omega] at this
          exact this
        · cases h
      · cases h
    rw [if_neg c4] at h hok hnd
    by_cases c5 : cat < 30
    · rw [if_pos c5] at h hok hnd
      cases d with
      | zero => cases h
      | succ d =>
        dsimp only at h
        by_cases c28 : cat = 28
        · rw [if_neg (by omega), if_pos c28] at h
          rw [if_pos c28] at hok hnd
          split at h
          · rename_i st' hmth
            obtain ⟨hm, hg⟩ := ih _ _ _ _ _ _ _ _ _ _ _ _ h
            refine ⟨hm, ?_⟩
            intro p l e R s m args below meth c H locs Q ls σ kd D A n0 q hq S hmn hR1 hR2 hn0 hc hsl hK hA hE hX hP hD hS hh hret
            cases hq0.symm.trans hq
            have hml : c.maxLocals = ls.size := S.2.2.1.trans hh.1.symm
            have hk := hg n0 q0 hq S hmn hR1 hR2 hn0 hc hsl hK hA hE hX hP hD hS hh hret
            cases ins
            case invokestatic k =>
              cases hlen.resolve_left (by simp [t_len])
              unfold t_math at hmth
              by_cases z0 : a2 = 0
              · rw [if_pos z0] at hmth
                obtain ⟨x, y, r0, e1, e2⟩ := t_i2_of hmth
                subst e1
                obtain ⟨e3, e4⟩ := t_if_of e2
                subst e4
                have w1 : Cond.methodLink q0.1.cls k Lib.Math.max.name ∈ gt := hnd _ (by simp [t_needM, z0])
                have w2 : Cond.static Lib.Math.max.name ∈ gt := hnd _ (by simp [t_needM, z0])
                have w3 : Cond.initialized "java/lang/Math" ∈ gt := hnd _ (by simp [t_needM, z0])
                have w4 : Cond.code Lib.Math.max.name Lib.Math.max.code 2 (some .int) ∈ gt := hnd _ (by simp [t_needM, z0])
                exact va_mmax S.1 S.2.1 hml S.2.2.2.1 (S.2.2.2.2 _ w1) (S.2.2.2.2 _ w2) (S.2.2.2.2 _ w3) (S.2.2.2.2 _ w4) (by omega) (by rw [t_sum_v]; omega) (by omega) (by omega) hd hk
              · rw [if_neg z0] at hmth
                by_cases z1 : a2 = 1
                · rw [if_pos z1] at hmth
                  obtain ⟨x, y, r0, e1, e2⟩ := t_i2_of hmth
                  subst e1
                  obtain ⟨e3, e4⟩ := t_if_of e2
                  subst e4
                  have w1 : Cond.methodLink q0.1.cls k Lib.Math.min.name ∈ gt := hnd _ (by simp [t_needM, z0, z1])
                  have w2 : Cond.static Lib.Math.min.name ∈ gt := hnd _ (by simp [t_needM, z0, z1])
                  have w3 : Cond.initialized "java/lang/Math" ∈ gt := hnd _ (by simp [t_needM, z0, z1])
                  have w4 : Cond.code Lib.Math.min.name Lib.Math.min.code 2 (some .int) ∈ gt := hnd _ (by simp [t_needM, z0, z1])
                  exact va_mmin S.1 S.2.1 hml S.2.2.2.1 (S.2.2.2.2 _ w1) (S.2.2.2.2 _ w2) (S.2.2.2.2 _ w3) (S.2.2.2.2 _ w4) (by omega) (by rw [t_sum_v]; omega) (by omega) (by omega) hd hk
                · rw [if_neg z1] at hmth
                  obtain ⟨x, r0, e1, e2⟩ := t_i1_of hmth
                  subst e1
                  obtain ⟨e3, e4⟩ := t_if_of e2
                  subst e4
                  have w1 : Cond.methodLink q0.1.cls k Lib.Math.abs.name ∈ gt := hnd _ (by simp [t_needM, z0, z1])
                  have w2 : Cond.static Lib.Math.abs.name ∈ gt := hnd _ (by simp [t_needM, z0, z1])
                  have w3 : Cond.initialized "java/lang/Math" ∈ gt := hnd _ (by simp [t_needM, z0, z1])
                  have w4 : Cond.code Lib.Math.abs.name Lib.Math.abs.code 1 (some .int) ∈ gt := hnd _ (by simp [t_needM, z0, z1])
                  exact va_mabs S.1 S.2.1 hml S.2.2.2.1 (S.2.2.2.2 _ w1) (S.2.2.2.2 _ w2) (S.2.2.2.2 _ w3) (S.2.2.2.2 _ w4) (by omega) (by rw [t_sum_v]; omega) (by omega) (by omega) hd hk
            all_goals cases hok
          · cases h
        rw [if_neg c28] at hok hnd
        split at hok
        · rename_i y hy
          rw [hy] at hnd
          dsimp only at hnd
          by_cases c26 : cat = 26
          · rw [if_pos c26] at h
            split at h
            · rename_i b r0
              split at h
              · rename_i h8
                obtain ⟨hm, hg⟩ := ih _ _ _ _ _ _ _ _ _ _ _ _ h
                refine ⟨hm, ?_⟩
                intro p l e R s m args below meth c H locs Q ls σ kd D A n0 q hq S hmn hR1 hR2 hn0 hc hsl hK hA hE hX hP hD hS hh hret
                cases hq0.symm.trans hq
                cases ins
                case invokespecial k =>
                  cases hlen.resolve_left (by simp [t_len])
                  have w1 : Cond.methodLink q0.1.cls k objectInit ∈ gt := hnd _ (by simp [t_needC, c26])
                  have w2 : Cond.instanceMethod objectInit ∈ gt := hnd _ (by simp [t_needC, c26])
                  have w3 : Cond.code objectInit ⟨#[0xb1]⟩ 1 none ∈ gt := hnd _ (by simp [t_needC, c26])
                  refine W.objInit (g := F0 m pc ls ((Value.ref b :: r0).map (t_v σ))) (a := σ b) (rest := r0.map (t_v σ)) S.1 S.2.1 S.2.2.2.1 (S.2.2.2.2 _ w1) (S.2.2.2.2 _ w2) (S.2.2.2.2 _ w3) rfl (hh.1.trans S.2.2.1.symm) rfl hd (by omega) ?_ (hg n0 q0 hq S hmn hR1 hR2 hn0 hc hsl hK hA hE hX hP hD hS hh hret)
                  rw [t_sum_v]
                  show 2 * 0 + _ + 12 ≤ _
                  omega
                case invokevirtual k => rw [c26] at hok; cases hok
                case invokestatic k => rw [c26] at hok; cases hok
                all_goals cases hok
              · cases h
            · cases h
          · rw [if_neg c26, if_neg c28] at h
            split at h
            · cases h
            rename_i nL' na rc hmi
            obtain ⟨q', hq', e1, e2, e3, e4, hmk⟩ := HM _ _ _ _ hmi
            subst e1
            have ey : y = q'.1 := by
              rw [hq'] at hy
              exact (Option.some.inj hy).symm
            subst ey
            split at h
            · cases h
            rename_i vs rest hcut
            split at h
            · rename_i hcond
              obtain ⟨h8, hlg⟩ := hcond
              split at h
              · cases h
              rename_i r1 th1 n1 hcall
              split at h
              · rename_i hfr
                obtain ⟨⟨a1m, a2m, a3m⟩, hg1⟩ := ih _ _ _ _ _ _ _ _ _ _ _ _ hcall
                obtain ⟨⟨b1m, b2m, b3m⟩, hg2⟩ := ih _ _ _ _ _ _ _ _ _ _ _ _ h
                refine ⟨⟨by omega, by omega, by omega⟩, ?_⟩
                intro p l e R s m args below meth c H locs Q ls σ kd D A n0 q hq S hmn hR1 hR2 hn0 hc hsl hK hA hE hX hP hD hS hh hret
                cases hq0.symm.trans hq
                have hM := t_met hq' hmk hg1 a1m hlg l D kd σ H.size
                obtain ⟨a0, hrun⟩ := t_run (e := e) (below := below) (meth := meth) (locs := locs) (cells := th.length - n0) (slots := ns) (ls := ls) S hd hlen hnd hok c26 hmk e2 e3 e4 hcut h8 hR1 hR2 (by omega) (by omega) hh.1 hK hP hD hS hA hE hM
                refine t_after hrun hD hS hA (fun σ1 H1 locs1 g1 g2 g3 g4 => ?_)
                have hag : (∀ k, σ1 k = σ k) ∨ ((t_okl th.length lv && rest.all (t_okv th.length)) = true ∧ th1.length ≤ 1000) := by
                  rcases a2m with z | z
                  · exact Or.inl (fun k => g1 k (by omega))
                  · rcases hfr with y2 | y2
                    · exact Or.inl (fun k => g1 k (by omega))
                    · exact Or.inr ⟨y2, z⟩
                have hagX : ∀ k, 1000 ≤ k → σ1 k = σ k := by
                  rcases hag with z | z
                  · exact fun k _ => z k
                  · exact fun k hk => g1 k (by omega)
                have hE1 : t_Ex σ1 A s s.heap := hE.to hagX
                have hX1 : t_Sc σ1 A xo s := by
                  intro xs hxs
                  rw [hagX 1000 (Nat.le_refl _)]
                  exact hX xs hxs
                have hlv : t_l σ1 lv = t_l σ lv := by
                  rcases hag with z | z
                  · rw [funext z]
                  · rw [Bool.and_eq_true] at z
                    exact t_okl_eq (fun k hk => g1 k (by omega)) z.1.1
                have hrs : rest.map (t_v σ1) = rest.map (t_v σ) := by
                  rcases hag with z | z
                  · rw [funext z]
                  · rw [Bool.and_eq_true] at z
                    exact t_oks_eq (fun k hk => g1 k (by omega)) z.1.2
                have hh1 : lv_has ls nL (t_l σ1 lv) := by
                  rw [hlv]
                  exact hh
                have k2 := hg2 n0 q0 hq S hmn hR1 hR2 (by omega) hc hsl hK hA hE1 hX1 g2 g3 g4 hh1 (fun σ' H' locs' pc2 ls2 cat2 ins2 f1 => hret σ' H' locs' pc2 ls2 cat2 ins2 (fun k hk => by
                  rw [f1 k (by omega), g1 k (by omega)]))
                rw [List.map_append, hrs, show th1.length - n0 = th.length - n0 + (th1.length - th.length) by omega] at k2
                have er : r1.toList.map (t_v σ1) = (r1.map (t_v σ1)).toList := by cases r1 <;> rfl
                rw [er] at k2
                exact k2
              · cases h
            · cases h
        · cases hok
    rw [if_neg c5] at h hok hnd
    split at h
    · rename_i r0 hr
      cases h
      refine ⟨⟨Nat.le_refl _, Or.inl rfl, Nat.le_refl _⟩, ?_⟩
      intro p l e R s m args below meth c H locs Q ls σ kd D A n0 q hq S hmn hR1 hR2 hn0 hc hsl hK hA hE hX hP hD hS hh hret
      cases hq0.symm.trans hq
      have hst : st = r.toList := by
        revert hr
        unfold t_ret
        rcases st with _ | ⟨v, _ | ⟨w, t⟩⟩
        · intro hr
          obtain ⟨-, hr⟩ := t_if_of hr
          rw [← hr]
          rfl
        · cases v <;> intro hr <;> first | (obtain ⟨-, hr⟩ := t_if_of hr; rw [← hr]; rfl) | cases hr
        · intro hr
          cases hr
      have hl1 : len = 1 := by
        revert hok hlen
        cases q0.2.2.2.1 with
        | none => intro hlen hok; simp [t_okT] at hok; rw [hok.2] at hlen; simp [t_len] at hlen; exact hlen.symm
        | some ty => intro hlen hok; cases ty <;> simp [t_okT] at hok <;> (rw [hok.2] at hlen; simp [t_len] at hlen; exact hlen.symm)
      rw [hl1] at hd
      rw [hst]
      exact hret σ H locs pc ls cat ins (fun _ _ => rfl) hP hD hS hd hok (by rw [← hst]; exact hr)
    · cases h
end
section
/-! ===== the methods, and their code as the small machine has it (written by a program out of the decode rows of the claim) ===== -/
def t_ms_0 : List t_M := [(⟨"NineTreesLaw", "law", "([I)Z"⟩, code, 4, (some .boolean), 1, 9), (⟨"NineTrees", "<init>", "()V"⟩, prog_1_method_1_code, 2, none, 0, 7), (⟨"NineTrees", "row", "(III)I"⟩, prog_1_method_2_code, 5, (some .int), 3, 7), (⟨"NineTrees", "set", "(IIJ)I"⟩, prog_1_method_3_code, 6, (some .int), 3, 7), (⟨"NineTrees", "copy", "(IIIII)I"⟩, prog_1_method_4_code, 8, (some .int), 5, 7), (⟨"NineTrees", "element", "(II)J"⟩, prog_1_method_5_code, 4, (some .long), 2, 7), (⟨"NineTrees", "holds", "(I)I"⟩, prog_1_method_6_code, 3, (some .int), 1, 7), (⟨"NineTrees", "show", "(II)I"⟩, prog_1_method_7_code, 4, (some .int), 2, 7), (⟨"NineTrees", "says", "(II)I"⟩, prog_1_method_8_code, 4, (some .int), 2, 7), (⟨"NineTrees", "side", "(I)I"⟩, prog_1_method_9_code, 3, (some .int), 1, 7)]
def t_ms_1 : List t_M := [(⟨"NineTrees", "tree", "(III)I"⟩, prog_1_method_10_code, 4, (some .int), 3, 7), (⟨"NineTrees", "wish", "(I)I"⟩, prog_1_method_11_code, 2, (some .int), 1, 7), (⟨"NineTrees", "content", "()I"⟩, prog_1_method_12_code, 2, (some .int), 0, 7), (⟨"NineTrees", "move", "(II)I"⟩, prog_1_method_13_code, 5, (some .int), 2, 7), (⟨"NineTrees", "fell", "()I"⟩, prog_1_method_14_code, 1, (some .int), 0, 7), (⟨"NineTrees", "feed", "(I)I"⟩, prog_1_method_15_code, 2, (some .int), 1, 7), (⟨"NineTrees", "wipe", "()I"⟩, prog_1_method_16_code, 2, (some .int), 0, 7), (⟨"NineTrees", "garden", "()I"⟩, prog_1_method_17_code, 2, (some .int), 0, 7), (⟨"NineTrees", "treeOf", "(II)I"⟩, prog_1_method_18_code, 3, (some .int), 2, 7), (⟨"NineTrees", "treeAt", "(I)I"⟩, prog_1_method_19_code, 2, (some .int), 1, 7)]
def t_ms_2 : List t_M := [(⟨"NineTrees", "many", "(I)I"⟩, prog_1_method_20_code, 2, (some .int), 1, 7), (⟨"NineTrees", "threes", "()I"⟩, prog_1_method_21_code, 1, (some .int), 0, 7), (⟨"NineTrees", "rowAt", "(II)I"⟩, prog_1_method_22_code, 4, (some .int), 2, 7), (⟨"NineTrees", "longest", "()I"⟩, prog_1_method_23_code, 2, (some .int), 0, 7), (⟨"NineTrees", "alone", "()I"⟩, prog_1_method_24_code, 1, (some .int), 0, 7), (⟨"NineTrees", "through", "(II)I"⟩, prog_1_method_25_code, 3, (some .int), 2, 7), (⟨"NineTrees", "inLine", "(I)I"⟩, prog_1_method_26_code, 2, (some .int), 1, 7), (⟨"NineTrees", "judge", "(II)I"⟩, prog_1_method_27_code, 4, (some .int), 2, 7), (⟨"NineTrees", "firstMisfit", "(LNineTrees$Shelf;I)I"⟩, prog_1_method_28_code, 9, (some .int), 2, 7), (⟨"NineTrees", "isInLineWithFirst", "(LNineTrees$Shelf;I)Z"⟩, prog_1_method_29_code, 5, (some .boolean), 2, 7)]
def t_ms_3 : List t_M := [(⟨"NineTrees", "gap", "(I)I"⟩, prog_1_method_30_code, 2, (some .int), 1, 7), (⟨"NineTrees", "missed", "(I)I"⟩, prog_1_method_31_code, 2, (some .int), 1, 7), (⟨"NineTrees", "least", "()I"⟩, prog_1_method_32_code, 3, (some .int), 0, 7), (⟨"NineTrees", "best", "(I)I"⟩, prog_1_method_33_code, 2, (some .int), 1, 7), (⟨"NineTrees", "moved", "(II)I"⟩, prog_1_method_34_code, 4, (some .int), 2, 7), (⟨"NineTrees", "may", "()J"⟩, prog_1_method_35_code, 4, (some .long), 0, 7), (⟨"NineTrees", "most", "(I)I"⟩, prog_1_method_36_code, 2, (some .int), 1, 7), (⟨"NineTrees", "view", "(I)I"⟩, prog_1_method_37_code, 2, (some .int), 1, 7), (⟨"NineTrees", "overlooks", "()J"⟩, prog_1_method_38_code, 4, (some .long), 0, 7), (⟨"NineTrees", "behind", "(II)I"⟩, prog_1_method_39_code, 3, (some .int), 2, 7)]
def t_ms_4 : List t_M := [(⟨"NineTrees", "paths", "(I)I"⟩, prog_1_method_40_code, 2, (some .int), 1, 7), (⟨"NineTrees", "wishOf", "(I)I"⟩, prog_1_method_41_code, 2, (some .int), 1, 7), (⟨"NineTrees", "met", "(I)I"⟩, prog_1_method_42_code, 2, (some .int), 1, 7), (⟨"NineTrees", "bestFor", "(I)I"⟩, prog_1_method_43_code, 2, (some .int), 1, 7), (⟨"NineTrees", "alike", "()I"⟩, prog_1_method_44_code, 1, (some .int), 0, 7), (⟨"NineTrees", "middle", "()I"⟩, prog_1_method_45_code, 1, (some .int), 0, 7), (⟨"NineTrees", "nearest", "()I"⟩, prog_1_method_46_code, 1, (some .int), 0, 7), (⟨"NineTrees", "largest", "()I"⟩, prog_1_method_47_code, 1, (some .int), 0, 7), (⟨"NineTrees", "squares", "()I"⟩, prog_1_method_48_code, 1, (some .int), 0, 7), (⟨"NineTrees", "corners", "()I"⟩, prog_1_method_49_code, 3, (some .int), 0, 7)]
def t_ms_5 : List t_M := [(⟨"NineTrees", "pointed", "(I)I"⟩, prog_1_method_50_code, 2, (some .int), 1, 7), (⟨"NineTrees", "turn", "()I"⟩, prog_1_method_51_code, 2, (some .int), 0, 7), (⟨"NineTrees", "mirror", "()I"⟩, prog_1_method_52_code, 2, (some .int), 0, 7), (⟨"NineTrees", "improve", "()I"⟩, prog_1_method_53_code, 2, (some .int), 0, 7), (⟨"NineTrees", "plant", "(I)I"⟩, prog_1_method_54_code, 3, (some .int), 1, 7), (⟨"NineTrees", "seed", "(I)I"⟩, prog_1_method_55_code, 3, (some .int), 1, 7), (⟨"NineTrees", "image", "()I"⟩, prog_1_method_56_code, 1, (some .int), 0, 7), (⟨"NineTrees", "back", "()I"⟩, prog_1_method_57_code, 1, (some .int), 0, 7), (⟨"NineTrees", "status", "(I)I"⟩, prog_1_method_58_code, 2, (some .int), 1, 7), (⟨"NineTrees", "refuse", "(I)I"⟩, prog_1_method_59_code, 3, (some .int), 1, 7)]
def t_ms_6 : List t_M := [(⟨"NineTrees", "shelfOf", "(I)LNineTrees$Shelf;"⟩, prog_1_method_60_code, 2, (some (.object "NineTrees$Shelf")), 1, 7), (⟨"NineTrees", "fullShelves", "()I"⟩, prog_1_method_61_code, 4, (some .int), 0, 7), (⟨"NineTrees", "clearShelvesFrom", "(I)V"⟩, prog_1_method_62_code, 4, none, 1, 7), (⟨"NineTrees", "allRows", "()LNineTrees$RowList;"⟩, prog_1_method_63_code, 1, (some (.object "NineTrees$RowList")), 0, 7), (⟨"NineTrees", "isRowSize", "(I)Z"⟩, prog_1_method_64_code, 1, (some .boolean), 1, 7), (⟨"NineTrees", "firstOf", "(I)I"⟩, prog_1_method_65_code, 1, (some .int), 1, 7), (⟨"NineTrees", "secondOf", "(I)I"⟩, prog_1_method_66_code, 1, (some .int), 1, 7), (⟨"NineTrees", "whyNoMove", "(II)I"⟩, prog_1_method_67_code, 3, (some .int), 2, 7), (⟨"NineTrees$Garden", "<init>", "()V"⟩, prog_4_method_1_code, 1, none, 0, 2), (⟨"NineTrees$Garden", "copyFrom", "(LNineTrees$Garden;)V"⟩, prog_4_method_2_code, 2, none, 1, 2)]
def t_ms_7 : List t_M := [(⟨"NineTrees$Garden", "cellCount", "()I"⟩, prog_4_method_3_code, 1, (some .int), 0, 2), (⟨"NineTrees$Garden", "isCell", "(I)Z"⟩, prog_4_method_4_code, 2, (some .boolean), 1, 2), (⟨"NineTrees$Garden", "rowOf", "(I)I"⟩, prog_4_method_5_code, 2, (some .int), 1, 2), (⟨"NineTrees$Garden", "columnOf", "(I)I"⟩, prog_4_method_6_code, 2, (some .int), 1, 2), (⟨"NineTrees$Garden", "cellOf", "(II)I"⟩, prog_4_method_7_code, 4, (some .int), 2, 2), (⟨"NineTrees$Garden", "turned", "(I)I"⟩, prog_4_method_8_code, 2, (some .int), 1, 2), (⟨"NineTrees$Garden", "mirrored", "(I)I"⟩, prog_4_method_9_code, 2, (some .int), 1, 2), (⟨"NineTrees$Garden", "distance", "(II)I"⟩, prog_4_method_10_code, 3, (some .int), 2, 2), (⟨"NineTrees$Garden", "squaredLength", "(II)I"⟩, prog_4_method_11_code, 5, (some .int), 2, 2), (⟨"NineTrees$Garden", "doubleArea", "(III)I"⟩, prog_4_method_12_code, 6, (some .int), 3, 2)]
def t_ms_8 : List t_M := [(⟨"NineTrees$Garden", "isBetween", "(III)Z"⟩, prog_4_method_13_code, 6, (some .boolean), 3, 2), (⟨"NineTrees$Garden", "isTree", "(I)Z"⟩, prog_4_method_14_code, 2, (some .boolean), 1, 2), (⟨"NineTrees$Garden", "allTrees", "()I"⟩, prog_4_method_15_code, 1, (some .int), 0, 2), (⟨"NineTrees$Garden", "treeIn", "(I)I"⟩, prog_4_method_16_code, 3, (some .int), 1, 2), (⟨"NineTrees$Garden", "isFree", "(I)Z"⟩, prog_4_method_17_code, 2, (some .boolean), 1, 2), (⟨"NineTrees$Garden", "isOf", "(II)Z"⟩, prog_4_method_18_code, 4, (some .boolean), 2, 2), (⟨"NineTrees$Garden", "countOf", "(I)I"⟩, prog_4_method_19_code, 4, (some .int), 1, 2), (⟨"NineTrees$Garden", "isMovable", "(I)Z"⟩, prog_4_method_20_code, 2, (some .boolean), 1, 2), (⟨"NineTrees$Garden", "hasRoom", "()Z"⟩, prog_4_method_21_code, 1, (some .boolean), 0, 2), (⟨"NineTrees$Garden", "addTree", "(III)V"⟩, prog_4_method_22_code, 4, none, 3, 2)]
def t_ms_9 : List t_M := [(⟨"NineTrees$Garden", "isLastFellable", "()Z"⟩, prog_4_method_23_code, 1, (some .boolean), 0, 2), (⟨"NineTrees$Garden", "dropLast", "()V"⟩, prog_4_method_24_code, 1, none, 0, 2), (⟨"NineTrees$Garden", "rowOfTwo", "(II)I"⟩, prog_4_method_25_code, 5, (some .int), 2, 2), (⟨"NineTrees$Garden", "isSetOfThree", "(I)Z"⟩, prog_4_method_26_code, 2, (some .boolean), 1, 2), (⟨"NineTrees$Garden", "isInOneRow", "(I)Z"⟩, prog_4_method_27_code, 4, (some .boolean), 1, 2), (⟨"NineTrees$Garden", "isWish", "(I)Z"⟩, prog_4_method_28_code, 2, (some .boolean), 1, 2), (⟨"NineTrees$Garden", "addWish", "(I)V"⟩, prog_4_method_29_code, 2, none, 1, 2), (⟨"NineTrees$Garden", "wishesWith", "(I)I"⟩, prog_4_method_30_code, 4, (some .int), 1, 2), (⟨"NineTrees$Garden", "wishesMet", "()I"⟩, prog_4_method_31_code, 3, (some .int), 0, 2), (⟨"NineTrees$Garden", "drawBelow", "(I)I"⟩, prog_4_method_32_code, 2, (some .int), 1, 2)]
def t_ms_10 : List t_M := [(⟨"NineTrees$Garden", "nextFree", "(I)I"⟩, prog_4_method_33_code, 4, (some .int), 1, 2), (⟨"NineTrees$Garden", "addByDraws", "()V"⟩, prog_4_method_34_code, 3, none, 0, 2), (⟨"NineTrees$RowList", "<init>", "()V"⟩, prog_6_method_1_code, 1, none, 0, 4), (⟨"NineTrees$RowList", "gather", "(LNineTrees$Garden;)V"⟩, prog_6_method_2_code, 5, none, 1, 4), (⟨"NineTrees$RowList", "insert", "(I)V"⟩, prog_6_method_3_code, 3, none, 1, 4), (⟨"NineTrees$RowList", "countOf", "(I)I"⟩, prog_6_method_4_code, 4, (some .int), 1, 4), (⟨"NineTrees$RowList", "countThrees", "()I"⟩, prog_6_method_5_code, 1, (some .int), 0, 4), (⟨"NineTrees$RowList", "countWith", "(II)I"⟩, prog_6_method_6_code, 5, (some .int), 2, 4), (⟨"NineTrees$RowList", "countOnlyBy", "(I)I"⟩, prog_6_method_7_code, 2, (some .int), 1, 4), (⟨"NineTrees$RowList", "treesInThrees", "()I"⟩, prog_6_method_8_code, 3, (some .int), 0, 4)]
def t_ms_11 : List t_M := [(⟨"NineTrees$RowList", "pick", "(II)I"⟩, prog_6_method_9_code, 5, (some .int), 2, 4), (⟨"NineTrees$RowList", "fullest", "()I"⟩, prog_6_method_10_code, 3, (some .int), 0, 4), (⟨"NineTrees$Crossings", "<init>", "()V"⟩, prog_2_method_1_code, 1, none, 0, 0), (⟨"NineTrees$Crossings", "clear", "()V"⟩, prog_2_method_2_code, 2, none, 0, 0), (⟨"NineTrees$Crossings", "countRows", "(LNineTrees$Garden;LNineTrees$RowList;I)V"⟩, prog_2_method_3_code, 5, none, 3, 0), (⟨"NineTrees$Crossings", "addLine", "(LNineTrees$Garden;I)V"⟩, prog_2_method_4_code, 11, none, 2, 0), (⟨"NineTrees$Moves", "<init>", "()V"⟩, prog_5_method_1_code, 1, none, 0, 3), (⟨"NineTrees$Moves", "findMostThrees", "(LNineTrees$Garden;LNineTrees$RowList;)V"⟩, prog_5_method_2_code, 4, none, 2, 3), (⟨"NineTrees$Moves", "findMostWishes", "(LNineTrees$Garden;)V"⟩, prog_5_method_3_code, 3, none, 1, 3), (⟨"NineTrees$Moves", "threesBy", "(LNineTrees$Garden;LNineTrees$RowList;II)I"⟩, prog_5_method_4_code, 5, (some .int), 4, 3)]
def t_ms_12 : List t_M := [(⟨"NineTrees$Moves", "weighThrees", "(LNineTrees$Garden;LNineTrees$RowList;I)V"⟩, prog_5_method_5_code, 7, none, 3, 3), (⟨"NineTrees$Moves", "weighWishes", "(LNineTrees$Garden;I)V"⟩, prog_5_method_6_code, 5, none, 2, 3), (⟨"NineTrees$Moves", "forget", "()V"⟩, prog_5_method_7_code, 1, none, 0, 3), (⟨"NineTrees$Moves", "offerCells", "(LNineTrees$Garden;I)V"⟩, prog_5_method_8_code, 4, none, 2, 3), (⟨"NineTrees$Moves", "tell", "(I)I"⟩, prog_5_method_9_code, 2, (some .int), 1, 3), (⟨"NineTrees$Gap", "<init>", "()V"⟩, prog_3_method_1_code, 1, none, 0, 1), (⟨"NineTrees$Gap", "find", "(LNineTrees$Garden;LNineTrees$RowList;)V"⟩, prog_3_method_2_code, 5, none, 2, 1), (⟨"NineTrees$Gap", "offer", "(LNineTrees$Garden;II)V"⟩, prog_3_method_3_code, 8, none, 3, 1), (⟨"NineTrees$Shapes", "nearestTo", "(LNineTrees$Garden;I)I"⟩, prog_7_method_2_code, 5, (some .int), 2, 9), (⟨"NineTrees$Shapes", "nearestPair", "(LNineTrees$Garden;)I"⟩, prog_7_method_3_code, 6, (some .int), 1, 9)]
def t_ms_13 : List t_M := [(⟨"NineTrees$Shapes", "cellNearestToAll", "(LNineTrees$Garden;)I"⟩, prog_7_method_4_code, 3, (some .int), 1, 9), (⟨"NineTrees$Shapes", "sumOfDistances", "(LNineTrees$Garden;I)I"⟩, prog_7_method_5_code, 4, (some .int), 2, 9), (⟨"NineTrees$Shapes", "freeLines", "(LNineTrees$Garden;I)I"⟩, prog_7_method_6_code, 4, (some .int), 2, 9), (⟨"NineTrees$Shapes", "lineOf", "(LNineTrees$Garden;II)I"⟩, prog_7_method_7_code, 5, (some .int), 3, 9), (⟨"NineTrees$Shapes", "ownImages", "(LNineTrees$Garden;)I"⟩, prog_7_method_8_code, 3, (some .int), 1, 9), (⟨"NineTrees$Shapes", "isOwnImage", "(LNineTrees$Garden;IZ)Z"⟩, prog_7_method_9_code, 6, (some .boolean), 3, 9), (⟨"NineTrees$Shapes", "greatestArea", "(LNineTrees$Garden;)I"⟩, prog_7_method_10_code, 6, (some .int), 1, 9), (⟨"NineTrees$Shapes", "countSquares", "(LNineTrees$Garden;)I"⟩, prog_7_method_11_code, 4, (some .int), 1, 9), (⟨"NineTrees$Shapes", "isEdgeOfSquare", "(LNineTrees$Garden;II)Z"⟩, prog_7_method_12_code, 5, (some .boolean), 3, 9), (⟨"NineTrees$Shapes", "isTaken", "(LNineTrees$Garden;II)Z"⟩, prog_7_method_13_code, 4, (some .boolean), 3, 9)]
def t_ms_14 : List t_M := [(⟨"NineTrees$Shapes", "isCorner", "(LNineTrees$Garden;I)Z"⟩, prog_7_method_14_code, 5, (some .boolean), 2, 9), (⟨"NineTrees$Shapes", "isInTriangleOnto", "(LNineTrees$Garden;III)Z"⟩, prog_7_method_15_code, 6, (some .boolean), 4, 9), (⟨"NineTrees$Shapes", "isOnOneHand", "(LNineTrees$Garden;IIII)Z"⟩, prog_7_method_16_code, 10, (some .boolean), 5, 9), (⟨"NineTrees$Sight", "hider", "(LNineTrees$Garden;II)I"⟩, prog_9_method_2_code, 5, (some .int), 3, 9), (⟨"NineTrees$Sight", "isNearer", "(LNineTrees$Garden;III)Z"⟩, prog_9_method_3_code, 4, (some .boolean), 4, 9), (⟨"NineTrees$Sight", "isSeen", "(LNineTrees$Garden;II)Z"⟩, prog_9_method_4_code, 3, (some .boolean), 3, 9), (⟨"NineTrees$Sight", "seenFrom", "(LNineTrees$Garden;I)I"⟩, prog_9_method_5_code, 4, (some .int), 2, 9), (⟨"NineTrees$Sight", "areAllSeen", "(LNineTrees$Garden;I)Z"⟩, prog_9_method_6_code, 3, (some .boolean), 2, 9), (⟨"NineTrees$Sight", "seers", "(LNineTrees$Garden;I)I"⟩, prog_9_method_7_code, 4, (some .int), 2, 9), (⟨"NineTrees$Shelf", "<init>", "()V"⟩, prog_8_method_1_code, 1, none, 0, 5)]
def t_ms_15 : List t_M := [(⟨"NineTrees$Shelf", "hasRow", "()Z"⟩, prog_8_method_2_code, 1, (some .boolean), 0, 5), (⟨"NineTrees$Shelf", "hasTree", "()Z"⟩, prog_8_method_3_code, 1, (some .boolean), 0, 5), (⟨"NineTrees$Shelf", "whyNoRow", "()I"⟩, prog_8_method_4_code, 1, (some .int), 0, 5), (⟨"NineTrees$Shelf", "hasElement", "(I)Z"⟩, prog_8_method_5_code, 2, (some .boolean), 1, 5), (⟨"NineTrees$Shelf", "hasStretch", "(II)Z"⟩, prog_8_method_6_code, 3, (some .boolean), 2, 5), (⟨"NineTrees$Shelf", "takeRow", "(II)V"⟩, prog_8_method_7_code, 4, none, 2, 5), (⟨"NineTrees$Shelf", "takeTree", "(I)V"⟩, prog_8_method_8_code, 2, none, 1, 5), (⟨"NineTrees$Shelf", "fitted", "(J)J"⟩, prog_8_method_9_code, 3, (some .long), 1, 5), (⟨"NineTrees$Tape", "<init>", "()V"⟩, prog_10_method_1_code, 1, none, 0, 6), (⟨"NineTrees$Tape", "readInto", "(LNineTrees$Garden;)I"⟩, prog_10_method_2_code, 3, (some .int), 1, 6)]
def t_ms_16 : List t_M := [(⟨"NineTrees$Tape", "readStatement", "(LNineTrees$Garden;)Z"⟩, prog_10_method_3_code, 2, (some .boolean), 1, 6), (⟨"NineTrees$Tape", "readSide", "(LNineTrees$Garden;)Z"⟩, prog_10_method_4_code, 2, (some .boolean), 1, 6), (⟨"NineTrees$Tape", "readTree", "(LNineTrees$Garden;)Z"⟩, prog_10_method_5_code, 4, (some .boolean), 1, 6), (⟨"NineTrees$Tape", "readWish", "(LNineTrees$Garden;)Z"⟩, prog_10_method_6_code, 4, (some .boolean), 1, 6), (⟨"NineTrees$Tape", "readMove", "(LNineTrees$Garden;)Z"⟩, prog_10_method_7_code, 3, (some .boolean), 1, 6), (⟨"NineTrees$Tape", "readFell", "(LNineTrees$Garden;)Z"⟩, prog_10_method_8_code, 2, (some .boolean), 1, 6), (⟨"NineTrees$Tape", "advanceToNumber", "(II)Z"⟩, prog_10_method_9_code, 3, (some .boolean), 2, 6), (⟨"NineTrees$Tape", "isNumber", "(II)Z"⟩, prog_10_method_10_code, 3, (some .boolean), 2, 6), (⟨"NineTrees$Tape", "isWord", "(Ljava/lang/String;)Z"⟩, prog_10_method_11_code, 3, (some .boolean), 1, 6), (⟨"NineTrees$Tape", "advance", "()V"⟩, prog_10_method_12_code, 1, none, 0, 6)]
def t_ms_17 : List t_M := [(⟨"NineTrees$Tape", "typeAt", "(I)I"⟩, prog_10_method_13_code, 3, (some .int), 1, 6), (⟨"NineTrees$Tape", "valueOfDigits", "()I"⟩, prog_10_method_14_code, 3, (some .int), 0, 6), (⟨"java/lang/Integer", "numberOfTrailingZeros", "(I)I"⟩, prog_13_method_48_code, 2, (some .int), 1, 9), (⟨"java/lang/Integer", "bitCount", "(I)I"⟩, prog_13_method_49_code, 1, (some .int), 1, 9), (⟨"java/lang/Math", "abs", "(I)I"⟩, prog_14_method_59_code, 1, (some .int), 1, 9), (⟨"java/lang/Math", "max", "(II)I"⟩, prog_14_method_65_code, 2, (some .int), 2, 9), (⟨"java/lang/Math", "min", "(II)I"⟩, prog_14_method_69_code, 2, (some .int), 2, 9), (⟨"java/lang/String", "length", "()I"⟩, prog_15_method_54_code, 1, (some .int), 0, 9), (⟨"java/lang/String", "charAt", "(I)C"⟩, prog_15_method_56_code, 2, (some .char), 1, 9), (⟨"java/lang/String", "coder", "()B"⟩, prog_15_method_152_code, 1, (some .byte), 0, 9)]
def t_ms_18 : List t_M := [(⟨"java/lang/String", "isLatin1", "()Z"⟩, prog_15_method_154_code, 1, (some .boolean), 0, 9), (⟨"java/lang/String", "checkIndex", "(II)V"⟩, prog_15_method_155_code, 2, none, 2, 9), (⟨"java/lang/StringLatin1", "charAt", "([BI)C"⟩, prog_16_method_2_code, 2, (some .char), 2, 9), (⟨"jdk/internal/util/Preconditions", "checkIndex", "(IILjava/util/function/BiFunction;)I"⟩, prog_19_method_11_code, 3, (some .int), 3, 9), (⟨"java/lang/StringUTF16", "getChar", "([BI)C"⟩, prog_17_method_5_code, 2, (some .char), 2, 9), (⟨"java/lang/StringUTF16", "length", "([B)I"⟩, prog_17_method_6_code, 1, (some .int), 1, 9), (⟨"java/lang/StringUTF16", "charAt", "([BI)C"⟩, prog_17_method_83_code, 2, (some .char), 2, 9), (⟨"java/lang/StringUTF16", "checkIndex", "(I[B)V"⟩, prog_17_method_91_code, 2, none, 2, 9), (⟨"NineTreesModel", "<init>", "()V"⟩, prog_12_method_1_code, 1, none, 0, 8), (⟨"NineTreesModel", "refuse", "(I)I"⟩, prog_12_method_2_code, 2, (some .int), 1, 8)]
def t_ms_19 : List t_M := [(⟨"NineTreesModel", "in", "(JJJ)Z"⟩, prog_12_method_3_code, 6, (some .boolean), 3, 8), (⟨"NineTreesModel", "isTree", "(I)Z"⟩, prog_12_method_4_code, 2, (some .boolean), 1, 8), (⟨"NineTreesModel", "cells", "()I"⟩, prog_12_method_5_code, 1, (some .int), 0, 8), (⟨"NineTreesModel", "isCell", "(I)Z"⟩, prog_12_method_6_code, 2, (some .boolean), 1, 8), (⟨"NineTreesModel", "inCell", "(I)I"⟩, prog_12_method_7_code, 3, (some .int), 1, 8), (⟨"NineTreesModel", "has", "(II)Z"⟩, prog_12_method_8_code, 2, (some .boolean), 2, 8), (⟨"NineTreesModel", "bits", "(I)I"⟩, prog_12_method_9_code, 3, (some .int), 1, 8), (⟨"NineTreesModel", "isFirm", "(I)Z"⟩, prog_12_method_10_code, 2, (some .boolean), 1, 8), (⟨"NineTreesModel", "isLow", "(I)Z"⟩, prog_12_method_11_code, 2, (some .boolean), 1, 8), (⟨"NineTreesModel", "row", "(III)I"⟩, prog_12_method_12_code, 5, (some .int), 3, 8)]
def t_ms_20 : List t_M := [(⟨"NineTreesModel", "fit", "(IJ)J"⟩, prog_12_method_13_code, 3, (some .long), 2, 8), (⟨"NineTreesModel", "noRow", "(I)I"⟩, prog_12_method_14_code, 2, (some .int), 1, 8), (⟨"NineTreesModel", "set", "(IIJ)I"⟩, prog_12_method_15_code, 6, (some .int), 3, 8), (⟨"NineTreesModel", "copy", "(IIIII)I"⟩, prog_12_method_16_code, 7, (some .int), 5, 8), (⟨"NineTreesModel", "element", "(II)J"⟩, prog_12_method_17_code, 3, (some .long), 2, 8), (⟨"NineTreesModel", "holds", "(I)I"⟩, prog_12_method_18_code, 2, (some .int), 1, 8), (⟨"NineTreesModel", "show", "(II)I"⟩, prog_12_method_19_code, 3, (some .int), 2, 8), (⟨"NineTreesModel", "shelvesFollow", "()V"⟩, prog_12_method_20_code, 2, none, 0, 8), (⟨"NineTreesModel", "isUnder", "(II)Z"⟩, prog_12_method_21_code, 2, (some .boolean), 2, 8), (⟨"NineTreesModel", "says", "(II)I"⟩, prog_12_method_22_code, 7, (some .int), 2, 8)]
def t_ms_21 : List t_M := [(⟨"NineTreesModel", "wishesWith", "(I)I"⟩, prog_12_method_23_code, 4, (some .int), 1, 8), (⟨"NineTreesModel", "side", "(I)I"⟩, prog_12_method_24_code, 3, (some .int), 1, 8), (⟨"NineTreesModel", "addTree", "(III)V"⟩, prog_12_method_25_code, 4, none, 3, 8), (⟨"NineTreesModel", "tree", "(III)I"⟩, prog_12_method_26_code, 4, (some .int), 3, 8), (⟨"NineTreesModel", "wish", "(I)I"⟩, prog_12_method_27_code, 2, (some .int), 1, 8), (⟨"NineTreesModel", "content", "()I"⟩, prog_12_method_28_code, 2, (some .int), 0, 8), (⟨"NineTreesModel", "noMove", "(II)I"⟩, prog_12_method_29_code, 3, (some .int), 2, 8), (⟨"NineTreesModel", "move", "(II)I"⟩, prog_12_method_30_code, 5, (some .int), 2, 8), (⟨"NineTreesModel", "canFell", "()Z"⟩, prog_12_method_31_code, 1, (some .boolean), 0, 8), (⟨"NineTreesModel", "fell", "()I"⟩, prog_12_method_32_code, 1, (some .int), 0, 8)]
def t_ms_22 : List t_M := [(⟨"NineTreesModel", "feed", "(I)I"⟩, prog_12_method_33_code, 2, (some .int), 1, 8), (⟨"NineTreesModel", "wipe", "()I"⟩, prog_12_method_34_code, 2, (some .int), 0, 8), (⟨"NineTreesModel", "isLetter", "(I)Z"⟩, prog_12_method_35_code, 1, (some .boolean), 1, 8), (⟨"NineTreesModel", "isDigit", "(I)Z"⟩, prog_12_method_36_code, 1, (some .boolean), 1, 8), (⟨"NineTreesModel", "look", "()V"⟩, prog_12_method_37_code, 1, none, 0, 8), (⟨"NineTreesModel", "wrong", "()Z"⟩, prog_12_method_38_code, 1, (some .boolean), 0, 8), (⟨"NineTreesModel", "isWord", "(Ljava/lang/String;)Z"⟩, prog_12_method_39_code, 3, (some .boolean), 1, 8), (⟨"NineTreesModel", "number", "(III)Z"⟩, prog_12_method_40_code, 4, (some .boolean), 3, 8), (⟨"NineTreesModel", "tells", "(II)Z"⟩, prog_12_method_41_code, 3, (some .boolean), 2, 8), (⟨"NineTreesModel", "freeCell", "(I)Z"⟩, prog_12_method_42_code, 2, (some .boolean), 1, 8)]
def t_ms_23 : List t_M := [(⟨"NineTreesModel", "wishTold", "()Z"⟩, prog_12_method_43_code, 3, (some .boolean), 0, 8), (⟨"NineTreesModel", "moveTold", "()Z"⟩, prog_12_method_44_code, 1, (some .boolean), 0, 8), (⟨"NineTreesModel", "statement", "()Z"⟩, prog_12_method_45_code, 2, (some .boolean), 0, 8), (⟨"NineTreesModel", "readAll", "()Z"⟩, prog_12_method_46_code, 1, (some .boolean), 0, 8), (⟨"NineTreesModel", "garden", "()I"⟩, prog_12_method_47_code, 3, (some .int), 0, 8), (⟨"NineTreesModel", "area", "(III)I"⟩, prog_12_method_48_code, 6, (some .int), 3, 8), (⟨"NineTreesModel", "areInLine", "(III)Z"⟩, prog_12_method_49_code, 4, (some .boolean), 3, 8), (⟨"NineTreesModel", "apart", "(II)I"⟩, prog_12_method_50_code, 5, (some .int), 2, 8), (⟨"NineTreesModel", "square", "(II)I"⟩, prog_12_method_51_code, 5, (some .int), 2, 8), (⟨"NineTreesModel", "rowThrough", "(II)I"⟩, prog_12_method_52_code, 6, (some .int), 2, 8)]
def t_ms_24 : List t_M := [(⟨"NineTreesModel", "findRows", "()V"⟩, prog_12_method_53_code, 4, none, 0, 8), (⟨"NineTreesModel", "putRow", "(I)V"⟩, prog_12_method_54_code, 3, none, 1, 8), (⟨"NineTreesModel", "rowsWith", "(II)I"⟩, prog_12_method_55_code, 5, (some .int), 2, 8), (⟨"NineTreesModel", "threesNow", "()I"⟩, prog_12_method_56_code, 3, (some .int), 0, 8), (⟨"NineTreesModel", "treeOf", "(II)I"⟩, prog_12_method_57_code, 3, (some .int), 2, 8), (⟨"NineTreesModel", "treeAt", "(I)I"⟩, prog_12_method_58_code, 2, (some .int), 1, 8), (⟨"NineTreesModel", "many", "(I)I"⟩, prog_12_method_59_code, 4, (some .int), 1, 8), (⟨"NineTreesModel", "threes", "()I"⟩, prog_12_method_60_code, 1, (some .int), 0, 8), (⟨"NineTreesModel", "rowAt", "(II)I"⟩, prog_12_method_61_code, 5, (some .int), 2, 8), (⟨"NineTreesModel", "longest", "()I"⟩, prog_12_method_62_code, 3, (some .int), 0, 8)]
def t_ms_25 : List t_M := [(⟨"NineTreesModel", "alone", "()I"⟩, prog_12_method_63_code, 3, (some .int), 0, 8), (⟨"NineTreesModel", "through", "(II)I"⟩, prog_12_method_64_code, 3, (some .int), 2, 8), (⟨"NineTreesModel", "standInLine", "(I)Z"⟩, prog_12_method_65_code, 3, (some .boolean), 1, 8), (⟨"NineTreesModel", "inLine", "(I)I"⟩, prog_12_method_66_code, 2, (some .int), 1, 8), (⟨"NineTreesModel", "judge", "(II)I"⟩, prog_12_method_67_code, 8, (some .int), 2, 8), (⟨"NineTreesModel", "first", "(II)I"⟩, prog_12_method_68_code, 3, (some .int), 2, 8), (⟨"NineTreesModel", "gap", "(I)I"⟩, prog_12_method_69_code, 17, (some .int), 1, 8), (⟨"NineTreesModel", "threesWithout", "(I)I"⟩, prog_12_method_70_code, 4, (some .int), 1, 8), (⟨"NineTreesModel", "missedOf", "(I)I"⟩, prog_12_method_71_code, 2, (some .int), 1, 8), (⟨"NineTreesModel", "missed", "(I)I"⟩, prog_12_method_72_code, 2, (some .int), 1, 8)]
def t_ms_26 : List t_M := [(⟨"NineTreesModel", "least", "()I"⟩, prog_12_method_73_code, 3, (some .int), 0, 8), (⟨"NineTreesModel", "metMany", "()I"⟩, prog_12_method_74_code, 3, (some .int), 0, 8), (⟨"NineTreesModel", "findBest", "(Z)V"⟩, prog_12_method_75_code, 6, none, 1, 8), (⟨"NineTreesModel", "bestBy", "(ZI)I"⟩, prog_12_method_76_code, 3, (some .int), 2, 8), (⟨"NineTreesModel", "best", "(I)I"⟩, prog_12_method_77_code, 2, (some .int), 1, 8), (⟨"NineTreesModel", "bestFor", "(I)I"⟩, prog_12_method_78_code, 2, (some .int), 1, 8), (⟨"NineTreesModel", "moved", "(II)I"⟩, prog_12_method_79_code, 6, (some .int), 2, 8), (⟨"NineTreesModel", "improve", "()I"⟩, prog_12_method_80_code, 2, (some .int), 0, 8), (⟨"NineTreesModel", "mayStand", "(I)Z"⟩, prog_12_method_81_code, 4, (some .boolean), 1, 8), (⟨"NineTreesModel", "may", "()J"⟩, prog_12_method_82_code, 4, (some .long), 0, 8)]
def t_ms_27 : List t_M := [(⟨"NineTreesModel", "most", "(I)I"⟩, prog_12_method_83_code, 2, (some .int), 1, 8), (⟨"NineTreesModel", "pointed", "(I)I"⟩, prog_12_method_84_code, 6, (some .int), 1, 8), (⟨"NineTreesModel", "between", "(II)I"⟩, prog_12_method_85_code, 6, (some .int), 2, 8), (⟨"NineTreesModel", "viewFrom", "(I)I"⟩, prog_12_method_86_code, 4, (some .int), 1, 8), (⟨"NineTreesModel", "view", "(I)I"⟩, prog_12_method_87_code, 2, (some .int), 1, 8), (⟨"NineTreesModel", "overlooks", "()J"⟩, prog_12_method_88_code, 4, (some .long), 0, 8), (⟨"NineTreesModel", "behind", "(II)I"⟩, prog_12_method_89_code, 3, (some .int), 2, 8), (⟨"NineTreesModel", "pathOf", "(II)I"⟩, prog_12_method_90_code, 5, (some .int), 2, 8), (⟨"NineTreesModel", "paths", "(I)I"⟩, prog_12_method_91_code, 7, (some .int), 1, 8), (⟨"NineTreesModel", "wishOf", "(I)I"⟩, prog_12_method_92_code, 2, (some .int), 1, 8)]
def t_ms_28 : List t_M := [(⟨"NineTreesModel", "met", "(I)I"⟩, prog_12_method_93_code, 2, (some .int), 1, 8), (⟨"NineTreesModel", "turned", "(I)I"⟩, prog_12_method_94_code, 2, (some .int), 1, 8), (⟨"NineTreesModel", "mirrored", "(I)I"⟩, prog_12_method_95_code, 2, (some .int), 1, 8), (⟨"NineTreesModel", "alike", "()I"⟩, prog_12_method_96_code, 7, (some .int), 0, 8), (⟨"NineTreesModel", "middle", "()I"⟩, prog_12_method_97_code, 6, (some .int), 0, 8), (⟨"NineTreesModel", "nearest", "()I"⟩, prog_12_method_98_code, 4, (some .int), 0, 8), (⟨"NineTreesModel", "largest", "()I"⟩, prog_12_method_99_code, 6, (some .int), 0, 8), (⟨"NineTreesModel", "at", "(II)I"⟩, prog_12_method_100_code, 3, (some .int), 2, 8), (⟨"NineTreesModel", "squares", "()I"⟩, prog_12_method_101_code, 7, (some .int), 0, 8), (⟨"NineTreesModel", "isIn", "(IIII)Z"⟩, prog_12_method_102_code, 9, (some .boolean), 4, 8)]
def t_ms_29 : List t_M := [(⟨"NineTreesModel", "isCorner", "(I)Z"⟩, prog_12_method_103_code, 8, (some .boolean), 1, 8), (⟨"NineTreesModel", "corners", "()I"⟩, prog_12_method_104_code, 3, (some .int), 0, 8), (⟨"NineTreesModel", "firmMany", "()I"⟩, prog_12_method_105_code, 3, (some .int), 0, 8), (⟨"NineTreesModel", "turn", "()I"⟩, prog_12_method_106_code, 2, (some .int), 0, 8), (⟨"NineTreesModel", "mirror", "()I"⟩, prog_12_method_107_code, 2, (some .int), 0, 8), (⟨"NineTreesModel", "below", "(I)I"⟩, prog_12_method_108_code, 2, (some .int), 1, 8), (⟨"NineTreesModel", "plant", "(I)I"⟩, prog_12_method_109_code, 5, (some .int), 1, 8), (⟨"NineTreesModel", "seed", "(I)I"⟩, prog_12_method_110_code, 3, (some .int), 1, 8), (⟨"NineTreesModel", "fresh", "()LNineTreesModel;"⟩, prog_12_method_111_code, 1, (some (.object "NineTreesModel")), 0, 8), (⟨"NineTreesModel", "copied", "([I[I)V"⟩, prog_12_method_112_code, 3, none, 2, 8)]
def t_ms_30 : List t_M := [(⟨"NineTreesModel", "takeFrom", "(LNineTreesModel;)V"⟩, prog_12_method_113_code, 2, none, 1, 8), (⟨"NineTreesModel", "image", "()I"⟩, prog_12_method_114_code, 1, (some .int), 0, 8), (⟨"NineTreesModel", "back", "()I"⟩, prog_12_method_115_code, 1, (some .int), 0, 8), (⟨"NineTreesModel", "status", "(I)I"⟩, prog_12_method_116_code, 4, (some .int), 1, 8)]
def t_ms : List t_M := t_ms_0 ++ (t_ms_1 ++ (t_ms_2 ++ (t_ms_3 ++ (t_ms_4 ++ (t_ms_5 ++ (t_ms_6 ++ (t_ms_7 ++ (t_ms_8 ++ (t_ms_9 ++ (t_ms_10 ++ (t_ms_11 ++ (t_ms_12 ++ (t_ms_13 ++ (t_ms_14 ++ (t_ms_15 ++ (t_ms_16 ++ (t_ms_17 ++ (t_ms_18 ++ (t_ms_19 ++ (t_ms_20 ++ (t_ms_21 ++ (t_ms_22 ++ (t_ms_23 ++ (t_ms_24 ++ (t_ms_25 ++ (t_ms_26 ++ (t_ms_27 ++ (t_ms_28 ++ (t_ms_29 ++ (t_ms_30))))))))))))))))))))))))))))))
def t_mil_0 : List (Option (Nat × Nat × Nat)) := [none, some (2, 0, 7), some (5, 3, 7), some (6, 3, 7), some (8, 5, 7), some (4, 2, 7), some (3, 1, 7), some (4, 2, 7), some (4, 2, 7), some (3, 1, 7)]
def t_mil_1 : List (Option (Nat × Nat × Nat)) := [some (4, 3, 7), some (2, 1, 7), some (2, 0, 7), some (5, 2, 7), some (1, 0, 7), some (2, 1, 7), some (2, 0, 7), some (2, 0, 7), some (3, 2, 7), some (2, 1, 7)]
def t_mil_2 : List (Option (Nat × Nat × Nat)) := [some (2, 1, 7), some (1, 0, 7), some (4, 2, 7), some (2, 0, 7), some (1, 0, 7), some (3, 2, 7), some (2, 1, 7), some (4, 2, 7), some (9, 2, 7), some (5, 2, 7)]
def t_mil_3 : List (Option (Nat × Nat × Nat)) := [some (2, 1, 7), some (2, 1, 7), some (3, 0, 7), some (2, 1, 7), some (4, 2, 7), some (4, 0, 7), some (2, 1, 7), some (2, 1, 7), some (4, 0, 7), some (3, 2, 7)]
def t_mil_4 : List (Option (Nat × Nat × Nat)) := [some (2, 1, 7), some (2, 1, 7), some (2, 1, 7), some (2, 1, 7), some (1, 0, 7), some (1, 0, 7), some (1, 0, 7), some (1, 0, 7), some (1, 0, 7), some (3, 0, 7)]
def t_mil_5 : List (Option (Nat × Nat × Nat)) := [some (2, 1, 7), some (2, 0, 7), some (2, 0, 7), some (2, 0, 7), some (3, 1, 7), some (3, 1, 7), some (1, 0, 7), some (1, 0, 7), some (2, 1, 7), some (3, 1, 7)]
def t_mil_6 : List (Option (Nat × Nat × Nat)) := [some (2, 1, 7), some (4, 0, 7), some (4, 1, 7), some (1, 0, 7), some (1, 1, 7), some (1, 1, 7), some (1, 1, 7), some (3, 2, 7), some (1, 0, 2), some (2, 1, 2)]
def t_mil_7 : List (Option (Nat × Nat × Nat)) := [some (1, 0, 2), some (2, 1, 2), some (2, 1, 2), some (2, 1, 2), some (4, 2, 2), some (2, 1, 2), some (2, 1, 2), some (3, 2, 2), some (5, 2, 2), some (6, 3, 2)]
def t_mil_8 : List (Option (Nat × Nat × Nat)) := [some (6, 3, 2), some (2, 1, 2), some (1, 0, 2), some (3, 1, 2), some (2, 1, 2), some (4, 2, 2), some (4, 1, 2), some (2, 1, 2), some (1, 0, 2), some (4, 3, 2)]
def t_mil_9 : List (Option (Nat × Nat × Nat)) := [some (1, 0, 2), some (1, 0, 2), some (5, 2, 2), some (2, 1, 2), some (4, 1, 2), some (2, 1, 2), some (2, 1, 2), some (4, 1, 2), some (3, 0, 2), some (2, 1, 2)]
def t_mil_10 : List (Option (Nat × Nat × Nat)) := [some (4, 1, 2), some (3, 0, 2), some (1, 0, 4), some (5, 1, 4), some (3, 1, 4), some (4, 1, 4), some (1, 0, 4), some (5, 2, 4), some (2, 1, 4), some (3, 0, 4)]
def t_mil_11 : List (Option (Nat × Nat × Nat)) := [some (5, 2, 4), some (3, 0, 4), some (1, 0, 0), some (2, 0, 0), some (5, 3, 0), some (11, 2, 0), some (1, 0, 3), some (4, 2, 3), some (3, 1, 3), some (5, 4, 3)]
def t_mil_12 : List (Option (Nat × Nat × Nat)) := [some (7, 3, 3), some (5, 2, 3), some (1, 0, 3), some (4, 2, 3), some (2, 1, 3), some (1, 0, 1), some (5, 2, 1), some (8, 3, 1), some (5, 2, 9), some (6, 1, 9)]
def t_mil_13 : List (Option (Nat × Nat × Nat)) := [some (3, 1, 9), some (4, 2, 9), some (4, 2, 9), some (5, 3, 9), some (3, 1, 9), some (6, 3, 9), some (6, 1, 9), some (4, 1, 9), some (5, 3, 9), some (4, 3, 9)]
def t_mil_14 : List (Option (Nat × Nat × Nat)) := [some (5, 2, 9), some (6, 4, 9), some (10, 5, 9), some (5, 3, 9), some (4, 4, 9), some (3, 3, 9), some (4, 2, 9), some (3, 2, 9), some (4, 2, 9), some (1, 0, 5)]
def t_mil_15 : List (Option (Nat × Nat × Nat)) := [some (1, 0, 5), some (1, 0, 5), some (1, 0, 5), some (2, 1, 5), some (3, 2, 5), some (4, 2, 5), some (2, 1, 5), some (3, 1, 5), some (1, 0, 6), some (3, 1, 6)]
def t_mil_16 : List (Option (Nat × Nat × Nat)) := [some (2, 1, 6), some (2, 1, 6), some (4, 1, 6), some (4, 1, 6), some (3, 1, 6), some (2, 1, 6), some (3, 2, 6), some (3, 2, 6), some (3, 1, 6), some (1, 0, 6)]
def t_mil_17 : List (Option (Nat × Nat × Nat)) := [some (3, 1, 6), some (3, 0, 6), some (2, 1, 9), some (1, 1, 9), none, none, none, some (1, 0, 9), some (2, 1, 9), some (1, 0, 9)]
def t_mil_18 : List (Option (Nat × Nat × Nat)) := [some (1, 0, 9), some (2, 2, 9), some (2, 2, 9), some (3, 3, 9), some (2, 2, 9), some (1, 1, 9), some (2, 2, 9), some (2, 2, 9), some (1, 0, 8), some (2, 1, 8)]
def t_mil_19 : List (Option (Nat × Nat × Nat)) := [some (6, 3, 8), some (2, 1, 8), some (1, 0, 8), some (2, 1, 8), some (3, 1, 8), some (2, 2, 8), some (3, 1, 8), some (2, 1, 8), some (2, 1, 8), some (5, 3, 8)]
def t_mil_20 : List (Option (Nat × Nat × Nat)) := [some (3, 2, 8), some (2, 1, 8), some (6, 3, 8), some (7, 5, 8), some (3, 2, 8), some (2, 1, 8), some (3, 2, 8), some (2, 0, 8), some (2, 2, 8), some (7, 2, 8)]
def t_mil_21 : List (Option (Nat × Nat × Nat)) := [some (4, 1, 8), some (3, 1, 8), some (4, 3, 8), some (4, 3, 8), some (2, 1, 8), some (2, 0, 8), some (3, 2, 8), some (5, 2, 8), some (1, 0, 8), some (1, 0, 8)]
def t_mil_22 : List (Option (Nat × Nat × Nat)) := [some (2, 1, 8), some (2, 0, 8), some (1, 1, 8), some (1, 1, 8), some (1, 0, 8), some (1, 0, 8), some (3, 1, 8), some (4, 3, 8), some (3, 2, 8), some (2, 1, 8)]
def t_mil_23 : List (Option (Nat × Nat × Nat)) := [some (3, 0, 8), some (1, 0, 8), some (2, 0, 8), some (1, 0, 8), some (3, 0, 8), some (6, 3, 8), some (4, 3, 8), some (5, 2, 8), some (5, 2, 8), some (6, 2, 8)]
def t_mil_24 : List (Option (Nat × Nat × Nat)) := [some (4, 0, 8), some (3, 1, 8), some (5, 2, 8), some (3, 0, 8), some (3, 2, 8), some (2, 1, 8), some (4, 1, 8), some (1, 0, 8), some (5, 2, 8), some (3, 0, 8)]
def t_mil_25 : List (Option (Nat × Nat × Nat)) := [some (3, 0, 8), some (3, 2, 8), some (3, 1, 8), some (2, 1, 8), some (8, 2, 8), some (3, 2, 8), some (17, 1, 8), some (4, 1, 8), some (2, 1, 8), some (2, 1, 8)]
def t_mil_26 : List (Option (Nat × Nat × Nat)) := [some (3, 0, 8), some (3, 0, 8), some (6, 1, 8), some (3, 2, 8), some (2, 1, 8), some (2, 1, 8), some (6, 2, 8), some (2, 0, 8), some (4, 1, 8), some (4, 0, 8)]
def t_mil_27 : List (Option (Nat × Nat × Nat)) := [some (2, 1, 8), some (6, 1, 8), some (6, 2, 8), some (4, 1, 8), some (2, 1, 8), some (4, 0, 8), some (3, 2, 8), some (5, 2, 8), some (7, 1, 8), some (2, 1, 8)]
def t_mil_28 : List (Option (Nat × Nat × Nat)) := [some (2, 1, 8), some (2, 1, 8), some (2, 1, 8), some (7, 0, 8), some (6, 0, 8), some (4, 0, 8), some (6, 0, 8), some (3, 2, 8), some (7, 0, 8), some (9, 4, 8)]
def t_mil_29 : List (Option (Nat × Nat × Nat)) := [some (8, 1, 8), some (3, 0, 8), some (3, 0, 8), some (2, 0, 8), some (2, 0, 8), some (2, 1, 8), some (5, 1, 8), some (3, 1, 8), some (1, 0, 8), some (3, 2, 8)]
def t_mil_30 : List (Option (Nat × Nat × Nat)) := [some (2, 1, 8), some (1, 0, 8), some (1, 0, 8), some (4, 1, 8)]
def t_mil : List (Option (Nat × Nat × Nat)) := t_mil_0 ++ (t_mil_1 ++ (t_mil_2 ++ (t_mil_3 ++ (t_mil_4 ++ (t_mil_5 ++ (t_mil_6 ++ (t_mil_7 ++ (t_mil_8 ++ (t_mil_9 ++ (t_mil_10 ++ (t_mil_11 ++ (t_mil_12 ++ (t_mil_13 ++ (t_mil_14 ++ (t_mil_15 ++ (t_mil_16 ++ (t_mil_17 ++ (t_mil_18 ++ (t_mil_19 ++ (t_mil_20 ++ (t_mil_21 ++ (t_mil_22 ++ (t_mil_23 ++ (t_mil_24 ++ (t_mil_25 ++ (t_mil_26 ++ (t_mil_27 ++ (t_mil_28 ++ (t_mil_29 ++ (t_mil_30))))))))))))))))))))))))))))))
def t_mi (j : Nat) : Option (Nat × Nat × Nat) := (t_mil[j]?).getD none
def t_ys (j : Nat) : Option MethodName := (t_ms[j]?).map (fun q => q.1)
end
