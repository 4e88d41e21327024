/-! ===== the words that hold in every state that the machine comes to ===== -/
def gt : List Jvm.Cond := lw_tbl.filter goodWord
def t_in : List Jvm.Cond → List Nat → Bool
  | [], _ => true
  | w :: ws, i :: ps => decide (lw_tbl[i]? = some w) && (goodWord w && t_in ws ps)
  | _ :: _, [] => false
theorem t_in_of : ∀ {ws : List Jvm.Cond} {ps : List Nat}, t_in ws ps = true → ∀ w ∈ ws, w ∈ gt
  | [], _, _, w, h => by cases h
  | w :: ws, [], h, _, _ => by cases h
  | w :: ws, i :: ps, h, x, hx => by
    simp only [t_in, Bool.and_eq_true, decide_eq_true_eq] at h
    rcases List.mem_cons.mp hx with rfl | hx
    · exact List.mem_filter.mpr ⟨List.mem_of_getElem? h.1, h.2.1⟩
    · exact t_in_of h.2.2 x hx
theorem gt_good {w : Jvm.Cond} (h : w ∈ gt) : (w.onTables && w.keeps) = true ∨ ∃ ty, w = .arrayClass ty := good_of_word (List.mem_filter.mp h).2
theorem gt_tbl {w : Jvm.Cond} (h : w ∈ gt) : w ∈ lw_tbl := (List.mem_filter.mp h).1
def t_ty (ci : Nat) : Nat → FieldType := match ci with
  | 0 => tyX0
  | 1 => tyX1
  | 2 => tyX2
  | 3 => tyX3
  | 4 => tyX4
  | 5 => tyX6
  | 6 => tyX8
  | 7 => tyX9
  | _ => tyX10
theorem t_cw0 : ∀ w ∈ u_ws RX0 TX0 1, w ∈ gt := t_in_of (ps := [189]) (by decide +kernel)
theorem t_ci0 : ∀ w ∈ ([.instantiable RX0 1, .initialized RX0] : List Jvm.Cond), w ∈ gt := t_in_of (ps := [181, 81]) (by decide +kernel)
theorem t_cw1 : ∀ w ∈ u_ws RX1 TX1 4, w ∈ gt := t_in_of (ps := [231, 233, 235, 237]) (by decide +kernel)
theorem t_ci1 : ∀ w ∈ ([.instantiable RX1 4, .initialized RX1] : List Jvm.Cond), w ∈ gt := t_in_of (ps := [220, 83]) (by decide +kernel)
theorem t_cw2 : ∀ w ∈ u_ws RX2 TX2 8, w ∈ gt := t_in_of (ps := [142, 144, 146, 148, 150, 152, 154, 156]) (by decide +kernel)
theorem t_ci2 : ∀ w ∈ ([.instantiable RX2 8, .initialized RX2] : List Jvm.Cond), w ∈ gt := t_in_of (ps := [105, 79]) (by decide +kernel)
theorem t_cw3 : ∀ w ∈ u_ws RX3 TX3 5, w ∈ gt := t_in_of (ps := [208, 210, 212, 214, 216]) (by decide +kernel)
theorem t_ci3 : ∀ w ∈ ([.instantiable RX3 5, .initialized RX3] : List Jvm.Cond), w ∈ gt := t_in_of (ps := [193, 82]) (by decide +kernel)
theorem t_cw4 : ∀ w ∈ u_ws RX4 TX4 2, w ∈ gt := t_in_of (ps := [175, 177]) (by decide +kernel)
theorem t_ci4 : ∀ w ∈ ([.instantiable RX4 2, .initialized RX4] : List Jvm.Cond), w ∈ gt := t_in_of (ps := [161, 80]) (by decide +kernel)
theorem t_cw5 : ∀ w ∈ u_ws RX6 TX6 4, w ∈ gt := t_in_of (ps := [286, 288, 290, 292]) (by decide +kernel)
theorem t_ci5 : ∀ w ∈ ([.instantiable RX6 4, .initialized RX6] : List Jvm.Cond), w ∈ gt := t_in_of (ps := [273, 85]) (by decide +kernel)
theorem t_cw6 : ∀ w ∈ u_ws RX8 TX8 7, w ∈ gt := t_in_of (ps := [256, 258, 260, 262, 264, 266, 268]) (by decide +kernel)
theorem t_ci6 : ∀ w ∈ ([.instantiable RX8 7, .initialized RX8] : List Jvm.Cond), w ∈ gt := t_in_of (ps := [241, 84]) (by decide +kernel)
theorem t_cw7 : ∀ w ∈ u_ws RX9 TX9 11, w ∈ gt := t_in_of (ps := [307, 309, 311, 313, 315, 317, 319, 321, 323, 325, 327]) (by decide +kernel)
theorem t_ci7 : ∀ w ∈ ([.instantiable RX9 11, .initialized RX9] : List Jvm.Cond), w ∈ gt := t_in_of (ps := [97, 78]) (by decide +kernel)
theorem t_cw8 : ∀ w ∈ u_ws RX10 TX10 31, w ∈ gt := t_in_of (ps := [1134, 1136, 1138, 1140, 1142, 1144, 1146, 1148, 1150, 1152, 1154, 1156, 1158, 1160, 1162, 1164, 1166, 1168, 1170, 1172, 1174, 1176, 1178, 1180, 1182, 1184, 1186, 1188, 1190, 1192, 1194]) (by decide +kernel)
theorem t_ci8 : ∀ w ∈ ([.instantiable RX10 31, .initialized RX10] : List Jvm.Cond), w ∈ gt := t_in_of (ps := [1096, 86]) (by decide +kernel)
theorem t_cw (ci : Nat) (q : vw_C) (h : vwCl[ci]? = some q) : ∀ w ∈ u_ws q.1 q.2.1 q.2.2, w ∈ gt := by
  match ci, h with
  | 0, h => cases h; exact t_cw0
  | 1, h => cases h; exact t_cw1
  | 2, h => cases h; exact t_cw2
  | 3, h => cases h; exact t_cw3
  | 4, h => cases h; exact t_cw4
  | 5, h => cases h; exact t_cw5
  | 6, h => cases h; exact t_cw6
  | 7, h => cases h; exact t_cw7
  | 8, h => cases h; exact t_cw8
  | n + 9, h => simp [vwCl] at h
theorem t_ci (ci : Nat) (q : vw_C) (h : vwCl[ci]? = some q) : ∀ w ∈ ([.instantiable q.1 q.2.2, .initialized q.1] : List Jvm.Cond), w ∈ gt := by
  match ci, h with
  | 0, h => cases h; exact t_ci0
  | 1, h => cases h; exact t_ci1
  | 2, h => cases h; exact t_ci2
  | 3, h => cases h; exact t_ci3
  | 4, h => cases h; exact t_ci4
  | 5, h => cases h; exact t_ci5
  | 6, h => cases h; exact t_ci6
  | 7, h => cases h; exact t_ci7
  | 8, h => cases h; exact t_ci8
  | n + 9, h => simp [vwCl] at h
theorem t_ct (ci : Nat) (q : vw_C) (h : vwCl[ci]? = some q) : ∀ k, k < q.2.2 → parseFieldDescriptor (q.2.1 k).2.2.1 = some (t_ty ci k) := by
  match ci, h with
  | 0, h => cases h; exact tyX0_ok
  | 1, h => cases h; exact tyX1_ok
  | 2, h => cases h; exact tyX2_ok
  | 3, h => cases h; exact tyX3_ok
  | 4, h => cases h; exact tyX4_ok
  | 5, h => cases h; exact tyX6_ok
  | 6, h => cases h; exact tyX8_ok
  | 7, h => cases h; exact tyX9_ok
  | 8, h => cases h; exact tyX10_ok
  | n + 9, h => simp [vwCl] at h
theorem t_cn (ci : Nat) (q : vw_C) (h : vwCl[ci]? = some q) : ∀ a, a < q.2.2 → ∀ b, b < q.2.2 → a ≠ b → (q.2.1 a).2.1 ≠ (q.2.1 b).2.1 := by
  match ci, h with
  | 0, h => cases h; exact nmX0
  | 1, h => cases h; exact nmX1
  | 2, h => cases h; exact nmX2
  | 3, h => cases h; exact nmX3
  | 4, h => cases h; exact nmX4
  | 5, h => cases h; exact nmX6
  | 6, h => cases h; exact nmX8
  | 7, h => cases h; exact nmX9
  | 8, h => cases h; exact nmX10
  | n + 9, h => simp [vwCl] at h
theorem t_cd (ci : Nat) (q : vw_C) (h : vwCl[ci]? = some q) : ∀ k, k < q.2.2 → (q.2.1 k).1 = q.1 := by
  match ci, h with
  | 0, h => cases h; exact (by decide +kernel)
  | 1, h => cases h; exact (by decide +kernel)
  | 2, h => cases h; exact (by decide +kernel)
  | 3, h => cases h; exact (by decide +kernel)
  | 4, h => cases h; exact (by decide +kernel)
  | 5, h => cases h; exact (by decide +kernel)
  | 6, h => cases h; exact (by decide +kernel)
  | 7, h => cases h; exact (by decide +kernel)
  | 8, h => cases h; exact (by decide +kernel)
  | n + 9, h => simp [vwCl] at h
