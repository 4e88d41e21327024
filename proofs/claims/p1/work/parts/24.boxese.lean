theorem p_box50_0 : (fun q1 : Int32 × Int32 => p_pair [(0, 0), q1] 0 54 3 296 5 [p_a 1 q1]) ((-2147483648), 0) = true := by decide +kernel
theorem p_box50_1 : (fun q1 : Int32 × Int32 => p_pair [(0, 0), q1] 0 54 3 296 5 [p_a 1 q1]) (1, 1) = true := by decide +kernel
theorem p_box50_2 : (fun q1 : Int32 × Int32 => p_pair [(0, 0), q1] 0 54 3 296 5 [p_a 1 q1]) (2, 2) = true := by decide +kernel
theorem p_box50_3 : (fun q1 : Int32 × Int32 => p_pair [(0, 0), q1] 0 54 3 296 5 [p_a 1 q1]) (3, 3) = true := by decide +kernel
theorem p_box50_4 : (fun q1 : Int32 × Int32 => p_pair [(0, 0), q1] 0 54 3 296 5 [p_a 1 q1]) (4, 4) = true := by decide +kernel
theorem p_box50_5 : (fun q1 : Int32 × Int32 => p_pair [(0, 0), q1] 0 54 3 296 5 [p_a 1 q1]) (5, 5) = true := by decide +kernel
theorem p_box50_6 : (fun q1 : Int32 × Int32 => p_pair [(0, 0), q1] 0 54 3 296 5 [p_a 1 q1]) (6, 6) = true := by decide +kernel
theorem p_box50_7 : (fun q1 : Int32 × Int32 => p_pair [(0, 0), q1] 0 54 3 296 5 [p_a 1 q1]) (7, 7) = true := by decide +kernel
theorem p_box50_8 : (fun q1 : Int32 × Int32 => p_pair [(0, 0), q1] 0 54 3 296 5 [p_a 1 q1]) (8, 8) = true := by decide +kernel
theorem p_box50_9 : (fun q1 : Int32 × Int32 => p_pair [(0, 0), q1] 0 54 3 296 5 [p_a 1 q1]) (9, 9) = true := by decide +kernel
theorem p_box50_10 : (fun q1 : Int32 × Int32 => p_pair [(0, 0), q1] 0 54 3 296 5 [p_a 1 q1]) (10, 10) = true := by decide +kernel
theorem p_box50_11 : (fun q1 : Int32 × Int32 => p_pair [(0, 0), q1] 0 54 3 296 5 [p_a 1 q1]) (11, 11) = true := by decide +kernel
theorem p_box50_12 : (fun q1 : Int32 × Int32 => p_pair [(0, 0), q1] 0 54 3 296 5 [p_a 1 q1]) (12, 12) = true := by decide +kernel
theorem p_box50_13 : (fun q1 : Int32 × Int32 => p_pair [(0, 0), q1] 0 54 3 296 5 [p_a 1 q1]) (13, 2147483647) = true := by decide +kernel
theorem p_box50 : ∀ q1 ∈ ([((-2147483648), 0), (1, 1), (2, 2), (3, 3), (4, 4), (5, 5), (6, 6), (7, 7), (8, 8), (9, 9), (10, 10), (11, 11), (12, 12), (13, 2147483647)] : List (Int32 × Int32)), (fun q1 : Int32 × Int32 => p_pair [(0, 0), q1] 0 54 3 296 5 [p_a 1 q1]) q1 = true := List.forall_mem_cons.mpr ⟨p_box50_0, List.forall_mem_cons.mpr ⟨p_box50_1, List.forall_mem_cons.mpr ⟨p_box50_2, List.forall_mem_cons.mpr ⟨p_box50_3, List.forall_mem_cons.mpr ⟨p_box50_4, List.forall_mem_cons.mpr ⟨p_box50_5, List.forall_mem_cons.mpr ⟨p_box50_6, List.forall_mem_cons.mpr ⟨p_box50_7, List.forall_mem_cons.mpr ⟨p_box50_8, List.forall_mem_cons.mpr ⟨p_box50_9, List.forall_mem_cons.mpr ⟨p_box50_10, List.forall_mem_cons.mpr ⟨p_box50_11, List.forall_mem_cons.mpr ⟨p_box50_12, List.forall_mem_cons.mpr ⟨p_box50_13, fun _ h => absurd h List.not_mem_nil⟩⟩⟩⟩⟩⟩⟩⟩⟩⟩⟩⟩⟩⟩
theorem p_op50 (x1 : Int32) : p_two 0 54 3 296 5 [.int x1] := by
  obtain ⟨q1, m1, l1, u1⟩ := p_in (L := [((-2147483648), 0), (1, 1), (2, 2), (3, 3), (4, 4), (5, 5), (6, 6), (7, 7), (8, 8), (9, 9), (10, 10), (11, 11), (12, 12), (13, 2147483647)]) (by decide +kernel) x1
  have h := p_box50 q1 m1
  have k := p_pair_of h (fun k => match k with | 1 => x1 | _ => 0) 0 (fun k q hq => by
    match k, hq with
    | 0, hq => cases hq; exact ⟨Int32.le_refl _, Int32.le_refl _⟩
    | 1, hq => cases hq; exact ⟨l1, u1⟩
    | n + 2, hq => simp at hq)
  simp only [List.map_cons, List.map_nil] at k
  rw [p_a_of (k := 1) (by decide) l1 u1] at k
  exact k
theorem p_box51 : ([((-2147483648), 2147483647)] : List (Int32 × Int32)).all (fun q1 => p_pair [(0, 0), q1] 0 55 3 297 3 [p_a 1 q1]) = true := by decide +kernel
theorem p_op51 (x1 : Int32) : p_two 0 55 3 297 3 [.int x1] := by
  obtain ⟨q1, m1, l1, u1⟩ := p_in (L := [((-2147483648), 2147483647)]) (by decide +kernel) x1
  have h := p_box51
  replace h := List.all_eq_true.mp h q1 m1
  have k := p_pair_of h (fun k => match k with | 1 => x1 | _ => 0) 0 (fun k q hq => by
    match k, hq with
    | 0, hq => cases hq; exact ⟨Int32.le_refl _, Int32.le_refl _⟩
    | 1, hq => cases hq; exact ⟨l1, u1⟩
    | n + 2, hq => simp at hq)
  simp only [List.map_cons, List.map_nil] at k
  rw [p_a_of (k := 1) (by decide) l1 u1] at k
  exact k
theorem p_box52 : p_pair [(0, 0)] 0 56 1 301 1 [] = true := by decide +kernel
theorem p_op52 : p_two 0 56 1 301 1 [] := by
  exact p_pair_of p_box52 (fun _ => 0) 0 (fun k q hq => by
    match k, hq with
    | 0, hq => cases hq; exact ⟨Int32.le_refl _, Int32.le_refl _⟩
    | n + 1, hq => simp at hq)
theorem p_box53 : p_pair [(0, 0)] 0 57 1 302 1 [] = true := by decide +kernel
theorem p_op53 : p_two 0 57 1 302 1 [] := by
  exact p_pair_of p_box53 (fun _ => 0) 0 (fun k q hq => by
    match k, hq with
    | 0, hq => cases hq; exact ⟨Int32.le_refl _, Int32.le_refl _⟩
    | n + 1, hq => simp at hq)
theorem p_box54 : ([((-2147483648), (-1)), (0, 0), (1, 1), (2, 2), (3, 3), (4, 4), (5, 5), (6, 6), (7, 7), (8, 8), (9, 9), (10, 10), (11, 11), (12, 12), (13, 13), (14, 14), (15, 15), (16, 16), (17, 2147483647)] : List (Int32 × Int32)).all (fun q1 => p_pair [(0, 0), q1] 0 58 2 303 4 [p_a 1 q1]) = true := by decide +kernel
theorem p_op54 (x1 : Int32) : p_two 0 58 2 303 4 [.int x1] := by
  obtain ⟨q1, m1, l1, u1⟩ := p_in (L := [((-2147483648), (-1)), (0, 0), (1, 1), (2, 2), (3, 3), (4, 4), (5, 5), (6, 6), (7, 7), (8, 8), (9, 9), (10, 10), (11, 11), (12, 12), (13, 13), (14, 14), (15, 15), (16, 16), (17, 2147483647)]) (by decide +kernel) x1
  have h := p_box54
  replace h := List.all_eq_true.mp h q1 m1
  have k := p_pair_of h (fun k => match k with | 1 => x1 | _ => 0) 0 (fun k q hq => by
    match k, hq with
    | 0, hq => cases hq; exact ⟨Int32.le_refl _, Int32.le_refl _⟩
    | 1, hq => cases hq; exact ⟨l1, u1⟩
    | n + 2, hq => simp at hq)
  simp only [List.map_cons, List.map_nil] at k
  rw [p_a_of (k := 1) (by decide) l1 u1] at k
  exact k
