theorem p_box1 : ([((-2147483648), (-1)), (0, 0), (1, 1), (2, 2), (3, 3), (4, 4), (5, 5), (6, 6), (7, 7), (8, 2147483647)] : List (Int32 × Int32)).all (fun q1 => ([((-2147483648), 2147483647)] : List (Int32 × Int32)).all (fun q2 => p_pair [(0, 0), q1, q2] 0 3 6 202 6 [p_a 1 q1, p_a 2 q2, .double 100])) = true := by decide +kernel
theorem p_op1 (x1 x2 : Int32) (w : Int64) : p_two 0 3 6 202 6 [.int x1, .int x2, .long w] := by
  obtain ⟨q1, m1, l1, u1⟩ := p_in (L := [((-2147483648), (-1)), (0, 0), (1, 1), (2, 2), (3, 3), (4, 4), (5, 5), (6, 6), (7, 7), (8, 2147483647)]) (by decide +kernel) x1
  obtain ⟨q2, m2, l2, u2⟩ := p_in (L := [((-2147483648), 2147483647)]) (by decide +kernel) x2
  have h := p_box1
  replace h := List.all_eq_true.mp h q1 m1
  replace h := List.all_eq_true.mp h q2 m2
  have k := p_pair_of h (fun k => match k with | 1 => x1 | 2 => x2 | _ => 0) w (fun k q hq => by
    match k, hq with
    | 0, hq => cases hq; exact ⟨Int32.le_refl _, Int32.le_refl _⟩
    | 1, hq => cases hq; exact ⟨l1, u1⟩
    | 2, hq => cases hq; exact ⟨l2, u2⟩
    | n + 3, hq => simp at hq)
  simp only [List.map_cons, List.map_nil] at k
  rw [p_a_of (k := 1) (by decide) l1 u1, p_a_of (k := 2) (by decide) l2 u2] at k
  exact k
theorem p_box2_0 : (fun q1 : Int32 × Int32 => ([((-2147483648), (-1)), (0, 0), (1, 1), (2, 2), (3, 3), (4, 4), (5, 5), (6, 6), (7, 7), (8, 2147483647)] : List (Int32 × Int32)).all (fun q2 => ([((-2147483648), 2147483647)] : List (Int32 × Int32)).all (fun q3 => ([((-2147483648), 2147483647)] : List (Int32 × Int32)).all (fun q4 => ([((-2147483648), 2147483647)] : List (Int32 × Int32)).all (fun q5 => p_pair [(0, 0), q1, q2, q3, q4, q5] 0 4 8 203 7 [p_a 1 q1, p_a 2 q2, p_a 3 q3, p_a 4 q4, p_a 5 q5]))))) ((-2147483648), (-1)) = true := by decide +kernel
theorem p_box2_1 : (fun q1 : Int32 × Int32 => ([((-2147483648), (-1)), (0, 0), (1, 1), (2, 2), (3, 3), (4, 4), (5, 5), (6, 6), (7, 7), (8, 2147483647)] : List (Int32 × Int32)).all (fun q2 => ([((-2147483648), 2147483647)] : List (Int32 × Int32)).all (fun q3 => ([((-2147483648), 2147483647)] : List (Int32 × Int32)).all (fun q4 => ([((-2147483648), 2147483647)] : List (Int32 × Int32)).all (fun q5 => p_pair [(0, 0), q1, q2, q3, q4, q5] 0 4 8 203 7 [p_a 1 q1, p_a 2 q2, p_a 3 q3, p_a 4 q4, p_a 5 q5]))))) (0, 0) = true := by decide +kernel
theorem p_box2_2 : (fun q1 : Int32 × Int32 => ([((-2147483648), (-1)), (0, 0), (1, 1), (2, 2), (3, 3), (4, 4), (5, 5), (6, 6), (7, 7), (8, 2147483647)] : List (Int32 × Int32)).all (fun q2 => ([((-2147483648), 2147483647)] : List (Int32 × Int32)).all (fun q3 => ([((-2147483648), 2147483647)] : List (Int32 × Int32)).all (fun q4 => ([((-2147483648), 2147483647)] : List (Int32 × Int32)).all (fun q5 => p_pair [(0, 0), q1, q2, q3, q4, q5] 0 4 8 203 7 [p_a 1 q1, p_a 2 q2, p_a 3 q3, p_a 4 q4, p_a 5 q5]))))) (1, 1) = true := by decide +kernel
theorem p_box2_3 : (fun q1 : Int32 × Int32 => ([((-2147483648), (-1)), (0, 0), (1, 1), (2, 2), (3, 3), (4, 4), (5, 5), (6, 6), (7, 7), (8, 2147483647)] : List (Int32 × Int32)).all (fun q2 => ([((-2147483648), 2147483647)] : List (Int32 × Int32)).all (fun q3 => ([((-2147483648), 2147483647)] : List (Int32 × Int32)).all (fun q4 => ([((-2147483648), 2147483647)] : List (Int32 × Int32)).all (fun q5 => p_pair [(0, 0), q1, q2, q3, q4, q5] 0 4 8 203 7 [p_a 1 q1, p_a 2 q2, p_a 3 q3, p_a 4 q4, p_a 5 q5]))))) (2, 2) = true := by decide +kernel
theorem p_box2_4 : (fun q1 : Int32 × Int32 => ([((-2147483648), (-1)), (0, 0), (1, 1), (2, 2), (3, 3), (4, 4), (5, 5), (6, 6), (7, 7), (8, 2147483647)] : List (Int32 × Int32)).all (fun q2 => ([((-2147483648), 2147483647)] : List (Int32 × Int32)).all (fun q3 => ([((-2147483648), 2147483647)] : List (Int32 × Int32)).all (fun q4 => ([((-2147483648), 2147483647)] : List (Int32 × Int32)).all (fun q5 => p_pair [(0, 0), q1, q2, q3, q4, q5] 0 4 8 203 7 [p_a 1 q1, p_a 2 q2, p_a 3 q3, p_a 4 q4, p_a 5 q5]))))) (3, 3) = true := by decide +kernel
theorem p_box2_5 : (fun q1 : Int32 × Int32 => ([((-2147483648), (-1)), (0, 0), (1, 1), (2, 2), (3, 3), (4, 4), (5, 5), (6, 6), (7, 7), (8, 2147483647)] : List (Int32 × Int32)).all (fun q2 => ([((-2147483648), 2147483647)] : List (Int32 × Int32)).all (fun q3 => ([((-2147483648), 2147483647)] : List (Int32 × Int32)).all (fun q4 => ([((-2147483648), 2147483647)] : List (Int32 × Int32)).all (fun q5 => p_pair [(0, 0), q1, q2, q3, q4, q5] 0 4 8 203 7 [p_a 1 q1, p_a 2 q2, p_a 3 q3, p_a 4 q4, p_a 5 q5]))))) (4, 4) = true := by decide +kernel
theorem p_box2_6 : (fun q1 : Int32 × Int32 => ([((-2147483648), (-1)), (0, 0), (1, 1), (2, 2), (3, 3), (4, 4), (5, 5), (6, 6), (7, 7), (8, 2147483647)] : List (Int32 × Int32)).all (fun q2 => ([((-2147483648), 2147483647)] : List (Int32 × Int32)).all (fun q3 => ([((-2147483648), 2147483647)] : List (Int32 × Int32)).all (fun q4 => ([((-2147483648), 2147483647)] : List (Int32 × Int32)).all (fun q5 => p_pair [(0, 0), q1, q2, q3, q4, q5] 0 4 8 203 7 [p_a 1 q1, p_a 2 q2, p_a 3 q3, p_a 4 q4, p_a 5 q5]))))) (5, 5) = true := by decide +kernel
theorem p_box2_7 : (fun q1 : Int32 × Int32 => ([((-2147483648), (-1)), (0, 0), (1, 1), (2, 2), (3, 3), (4, 4), (5, 5), (6, 6), (7, 7), (8, 2147483647)] : List (Int32 × Int32)).all (fun q2 => ([((-2147483648), 2147483647)] : List (Int32 × Int32)).all (fun q3 => ([((-2147483648), 2147483647)] : List (Int32 × Int32)).all (fun q4 => ([((-2147483648), 2147483647)] : List (Int32 × Int32)).all (fun q5 => p_pair [(0, 0), q1, q2, q3, q4, q5] 0 4 8 203 7 [p_a 1 q1, p_a 2 q2, p_a 3 q3, p_a 4 q4, p_a 5 q5]))))) (6, 6) = true := by decide +kernel
theorem p_box2_8 : (fun q1 : Int32 × Int32 => ([((-2147483648), (-1)), (0, 0), (1, 1), (2, 2), (3, 3), (4, 4), (5, 5), (6, 6), (7, 7), (8, 2147483647)] : List (Int32 × Int32)).all (fun q2 => ([((-2147483648), 2147483647)] : List (Int32 × Int32)).all (fun q3 => ([((-2147483648), 2147483647)] : List (Int32 × Int32)).all (fun q4 => ([((-2147483648), 2147483647)] : List (Int32 × Int32)).all (fun q5 => p_pair [(0, 0), q1, q2, q3, q4, q5] 0 4 8 203 7 [p_a 1 q1, p_a 2 q2, p_a 3 q3, p_a 4 q4, p_a 5 q5]))))) (7, 7) = true := by decide +kernel
theorem p_box2_9 : (fun q1 : Int32 × Int32 => ([((-2147483648), (-1)), (0, 0), (1, 1), (2, 2), (3, 3), (4, 4), (5, 5), (6, 6), (7, 7), (8, 2147483647)] : List (Int32 × Int32)).all (fun q2 => ([((-2147483648), 2147483647)] : List (Int32 × Int32)).all (fun q3 => ([((-2147483648), 2147483647)] : List (Int32 × Int32)).all (fun q4 => ([((-2147483648), 2147483647)] : List (Int32 × Int32)).all (fun q5 => p_pair [(0, 0), q1, q2, q3, q4, q5] 0 4 8 203 7 [p_a 1 q1, p_a 2 q2, p_a 3 q3, p_a 4 q4, p_a 5 q5]))))) (8, 2147483647) = true := by decide +kernel
theorem p_box2 : ∀ q1 ∈ ([((-2147483648), (-1)), (0, 0), (1, 1), (2, 2), (3, 3), (4, 4), (5, 5), (6, 6), (7, 7), (8, 2147483647)] : List (Int32 × Int32)), (fun q1 : Int32 × Int32 => ([((-2147483648), (-1)), (0, 0), (1, 1), (2, 2), (3, 3), (4, 4), (5, 5), (6, 6), (7, 7), (8, 2147483647)] : List (Int32 × Int32)).all (fun q2 => ([((-2147483648), 2147483647)] : List (Int32 × Int32)).all (fun q3 => ([((-2147483648), 2147483647)] : List (Int32 × Int32)).all (fun q4 => ([((-2147483648), 2147483647)] : List (Int32 × Int32)).all (fun q5 => p_pair [(0, 0), q1, q2, q3, q4, q5] 0 4 8 203 7 [p_a 1 q1, p_a 2 q2, p_a 3 q3, p_a 4 q4, p_a 5 q5]))))) q1 = true := List.forall_mem_cons.mpr ⟨p_box2_0, List.forall_mem_cons.mpr ⟨p_box2_1, List.forall_mem_cons.mpr ⟨p_box2_2, List.forall_mem_cons.mpr ⟨p_box2_3, List.forall_mem_cons.mpr ⟨p_box2_4, List.forall_mem_cons.mpr ⟨p_box2_5, List.forall_mem_cons.mpr ⟨p_box2_6, List.forall_mem_cons.mpr ⟨p_box2_7, List.forall_mem_cons.mpr ⟨p_box2_8, List.forall_mem_cons.mpr ⟨p_box2_9, fun _ h => absurd h List.not_mem_nil⟩⟩⟩⟩⟩⟩⟩⟩⟩⟩
theorem p_op2 (x1 x2 x3 x4 x5 : Int32) : p_two 0 4 8 203 7 [.int x1, .int x2, .int x3, .int x4, .int x5] := by
  obtain ⟨q1, m1, l1, u1⟩ := p_in (L := [((-2147483648), (-1)), (0, 0), (1, 1), (2, 2), (3, 3), (4, 4), (5, 5), (6, 6), (7, 7), (8, 2147483647)]) (by decide +kernel) x1
  obtain ⟨q2, m2, l2, u2⟩ := p_in (L := [((-2147483648), (-1)), (0, 0), (1, 1), (2, 2), (3, 3), (4, 4), (5, 5), (6, 6), (7, 7), (8, 2147483647)]) (by decide +kernel) x2
  obtain ⟨q3, m3, l3, u3⟩ := p_in (L := [((-2147483648), 2147483647)]) (by decide +kernel) x3
  obtain ⟨q4, m4, l4, u4⟩ := p_in (L := [((-2147483648), 2147483647)]) (by decide +kernel) x4
  obtain ⟨q5, m5, l5, u5⟩ := p_in (L := [((-2147483648), 2147483647)]) (by decide +kernel) x5
  have h := p_box2 q1 m1
  replace h := List.all_eq_true.mp h q2 m2
  replace h := List.all_eq_true.mp h q3 m3
  replace h := List.all_eq_true.mp h q4 m4
  replace h := List.all_eq_true.mp h q5 m5
  have k := p_pair_of h (fun k => match k with | 1 => x1 | 2 => x2 | 3 => x3 | 4 => x4 | 5 => x5 | _ => 0) 0 (fun k q hq => by
    match k, hq with
    | 0, hq => cases hq; exact ⟨Int32.le_refl _, Int32.le_refl _⟩
    | 1, hq => cases hq; exact ⟨l1, u1⟩
    | 2, hq => cases hq; exact ⟨l2, u2⟩
    | 3, hq => cases hq; exact ⟨l3, u3⟩
    | 4, hq => cases hq; exact ⟨l4, u4⟩
    | 5, hq => cases hq; exact ⟨l5, u5⟩
    | n + 6, hq => simp at hq)
  simp only [List.map_cons, List.map_nil] at k
  rw [p_a_of (k := 1) (by decide) l1 u1, p_a_of (k := 2) (by decide) l2 u2, p_a_of (k := 3) (by decide) l3 u3, p_a_of (k := 4) (by decide) l4 u4, p_a_of (k := 5) (by decide) l5 u5] at k
  exact k
theorem p_box3 : ([((-2147483648), (-1)), (0, 0), (1, 1), (2, 2), (3, 3), (4, 4), (5, 5), (6, 6), (7, 7), (8, 2147483647)] : List (Int32 × Int32)).all (fun q1 => ([((-2147483648), (-1)), (0, 0), (1, 2147483647)] : List (Int32 × Int32)).all (fun q2 => p_pair [(0, 0), q1, q2] 1 5 4 204 3 [p_a 1 q1, p_a 2 q2])) = true := by decide +kernel
theorem p_op3 (x1 x2 : Int32) : p_two 1 5 4 204 3 [.int x1, .int x2] := by
  obtain ⟨q1, m1, l1, u1⟩ := p_in (L := [((-2147483648), (-1)), (0, 0), (1, 1), (2, 2), (3, 3), (4, 4), (5, 5), (6, 6), (7, 7), (8, 2147483647)]) (by decide +kernel) x1
  obtain ⟨q2, m2, l2, u2⟩ := p_in (L := [((-2147483648), (-1)), (0, 0), (1, 2147483647)]) (by decide +kernel) x2
  have h := p_box3
  replace h := List.all_eq_true.mp h q1 m1
  replace h := List.all_eq_true.mp h q2 m2
  have k := p_pair_of h (fun k => match k with | 1 => x1 | 2 => x2 | _ => 0) 0 (fun k q hq => by
    match k, hq with
    | 0, hq => cases hq; exact ⟨Int32.le_refl _, Int32.le_refl _⟩
    | 1, hq => cases hq; exact ⟨l1, u1⟩
    | 2, hq => cases hq; exact ⟨l2, u2⟩
    | n + 3, hq => simp at hq)
  simp only [List.map_cons, List.map_nil] at k
  rw [p_a_of (k := 1) (by decide) l1 u1, p_a_of (k := 2) (by decide) l2 u2] at k
  exact k
theorem p_box4 : ([((-2147483648), (-1)), (0, 0), (1, 1), (2, 2), (3, 3), (4, 4), (5, 5), (6, 6), (7, 7), (8, 2147483647)] : List (Int32 × Int32)).all (fun q1 => p_pair [(0, 0), q1] 0 6 3 205 2 [p_a 1 q1]) = true := by decide +kernel
theorem p_op4 (x1 : Int32) : p_two 0 6 3 205 2 [.int x1] := by
  obtain ⟨q1, m1, l1, u1⟩ := p_in (L := [((-2147483648), (-1)), (0, 0), (1, 1), (2, 2), (3, 3), (4, 4), (5, 5), (6, 6), (7, 7), (8, 2147483647)]) (by decide +kernel) x1
  have h := p_box4
  replace h := List.all_eq_true.mp h q1 m1
  have k := p_pair_of h (fun k => match k with | 1 => x1 | _ => 0) 0 (fun k q hq => by
    match k, hq with
    | 0, hq => cases hq; exact ⟨Int32.le_refl _, Int32.le_refl _⟩
    | 1, hq => cases hq; exact ⟨l1, u1⟩
    | n + 2, hq => simp at hq)
  simp only [List.map_cons, List.map_nil] at k
  rw [p_a_of (k := 1) (by decide) l1 u1] at k
  exact k
theorem p_box5 : ([((-2147483648), (-1)), (0, 0), (1, 1), (2, 2), (3, 3), (4, 4), (5, 5), (6, 6), (7, 7), (8, 2147483647)] : List (Int32 × Int32)).all (fun q1 => ([((-2147483648), (-2)), ((-1), (-1)), (0, 0), (1, 2147483647)] : List (Int32 × Int32)).all (fun q2 => p_pair [(0, 0), q1, q2] 0 7 4 206 3 [p_a 1 q1, p_a 2 q2])) = true := by decide +kernel
theorem p_op5 (x1 x2 : Int32) : p_two 0 7 4 206 3 [.int x1, .int x2] := by
  obtain ⟨q1, m1, l1, u1⟩ := p_in (L := [((-2147483648), (-1)), (0, 0), (1, 1), (2, 2), (3, 3), (4, 4), (5, 5), (6, 6), (7, 7), (8, 2147483647)]) (by decide +kernel) x1
  obtain ⟨q2, m2, l2, u2⟩ := p_in (L := [((-2147483648), (-2)), ((-1), (-1)), (0, 0), (1, 2147483647)]) (by decide +kernel) x2
  have h := p_box5
  replace h := List.all_eq_true.mp h q1 m1
  replace h := List.all_eq_true.mp h q2 m2
  have k := p_pair_of h (fun k => match k with | 1 => x1 | 2 => x2 | _ => 0) 0 (fun k q hq => by
    match k, hq with
    | 0, hq => cases hq; exact ⟨Int32.le_refl _, Int32.le_refl _⟩
    | 1, hq => cases hq; exact ⟨l1, u1⟩
    | 2, hq => cases hq; exact ⟨l2, u2⟩
    | n + 3, hq => simp at hq)
  simp only [List.map_cons, List.map_nil] at k
  rw [p_a_of (k := 1) (by decide) l1 u1, p_a_of (k := 2) (by decide) l2 u2] at k
  exact k
theorem p_box6 : ([((-2147483648), (-1)), (0, 0), (1, 1), (2, 2), (3, 3), (4, 4), (5, 5), (6, 6), (7, 7), (8, 2147483647)] : List (Int32 × Int32)).all (fun q1 => ([((-2147483648), (-1)), (0, 0), (1, 4), (5, 5), (6, 2147483647)] : List (Int32 × Int32)).all (fun q2 => p_pair [(0, 0), q1, q2] 0 8 4 209 7 [p_a 1 q1, p_a 2 q2])) = true := by decide +kernel
theorem p_op6 (x1 x2 : Int32) : p_two 0 8 4 209 7 [.int x1, .int x2] := by
  obtain ⟨q1, m1, l1, u1⟩ := p_in (L := [((-2147483648), (-1)), (0, 0), (1, 1), (2, 2), (3, 3), (4, 4), (5, 5), (6, 6), (7, 7), (8, 2147483647)]) (by decide +kernel) x1
  obtain ⟨q2, m2, l2, u2⟩ := p_in (L := [((-2147483648), (-1)), (0, 0), (1, 4), (5, 5), (6, 2147483647)]) (by decide +kernel) x2
  have h := p_box6
  replace h := List.all_eq_true.mp h q1 m1
  replace h := List.all_eq_true.mp h q2 m2
  have k := p_pair_of h (fun k => match k with | 1 => x1 | 2 => x2 | _ => 0) 0 (fun k q hq => by
    match k, hq with
    | 0, hq => cases hq; exact ⟨Int32.le_refl _, Int32.le_refl _⟩
    | 1, hq => cases hq; exact ⟨l1, u1⟩
    | 2, hq => cases hq; exact ⟨l2, u2⟩
    | n + 3, hq => simp at hq)
  simp only [List.map_cons, List.map_nil] at k
  rw [p_a_of (k := 1) (by decide) l1 u1, p_a_of (k := 2) (by decide) l2 u2] at k
  exact k
theorem p_box7 : ([((-2147483648), 2), (3, 3), (4, 7), (8, 8), (9, 2147483647)] : List (Int32 × Int32)).all (fun q1 => p_pair [(0, 0), q1] 0 9 3 211 3 [p_a 1 q1]) = true := by decide +kernel
theorem p_op7 (x1 : Int32) : p_two 0 9 3 211 3 [.int x1] := by
  obtain ⟨q1, m1, l1, u1⟩ := p_in (L := [((-2147483648), 2), (3, 3), (4, 7), (8, 8), (9, 2147483647)]) (by decide +kernel) x1
  have h := p_box7
  replace h := List.all_eq_true.mp h q1 m1
  have k := p_pair_of h (fun k => match k with | 1 => x1 | _ => 0) 0 (fun k q hq => by
    match k, hq with
    | 0, hq => cases hq; exact ⟨Int32.le_refl _, Int32.le_refl _⟩
    | 1, hq => cases hq; exact ⟨l1, u1⟩
    | n + 2, hq => simp at hq)
  simp only [List.map_cons, List.map_nil] at k
  rw [p_a_of (k := 1) (by decide) l1 u1] at k
  exact k
theorem p_box8_0 : (fun q1 : Int32 × Int32 => ([((-2147483648), (-1)), (0, 0), (1, 23), (24, 24), (25, 2147483647)] : List (Int32 × Int32)).all (fun q2 => ([((-2147483648), (-1)), (0, 0), (1, 8), (9, 9), (10, 2147483647)] : List (Int32 × Int32)).all (fun q3 => p_pair [(0, 0), q1, q2, q3] 0 10 4 213 4 [p_a 1 q1, p_a 2 q2, p_a 3 q3]))) ((-2147483648), (-1)) = true := by decide +kernel
theorem p_box8_1 : (fun q1 : Int32 × Int32 => ([((-2147483648), (-1)), (0, 0), (1, 23), (24, 24), (25, 2147483647)] : List (Int32 × Int32)).all (fun q2 => ([((-2147483648), (-1)), (0, 0), (1, 8), (9, 9), (10, 2147483647)] : List (Int32 × Int32)).all (fun q3 => p_pair [(0, 0), q1, q2, q3] 0 10 4 213 4 [p_a 1 q1, p_a 2 q2, p_a 3 q3]))) (0, 0) = true := by decide +kernel
theorem p_box8_2 : (fun q1 : Int32 × Int32 => ([((-2147483648), (-1)), (0, 0), (1, 23), (24, 24), (25, 2147483647)] : List (Int32 × Int32)).all (fun q2 => ([((-2147483648), (-1)), (0, 0), (1, 8), (9, 9), (10, 2147483647)] : List (Int32 × Int32)).all (fun q3 => p_pair [(0, 0), q1, q2, q3] 0 10 4 213 4 [p_a 1 q1, p_a 2 q2, p_a 3 q3]))) (1, 4) = true := by decide +kernel
theorem p_box8_3 : (fun q1 : Int32 × Int32 => ([((-2147483648), (-1)), (0, 0), (1, 23), (24, 24), (25, 2147483647)] : List (Int32 × Int32)).all (fun q2 => ([((-2147483648), (-1)), (0, 0), (1, 8), (9, 9), (10, 2147483647)] : List (Int32 × Int32)).all (fun q3 => p_pair [(0, 0), q1, q2, q3] 0 10 4 213 4 [p_a 1 q1, p_a 2 q2, p_a 3 q3]))) (5, 5) = true := by decide +kernel
theorem p_box8_4 : (fun q1 : Int32 × Int32 => ([((-2147483648), (-1)), (0, 0), (1, 23), (24, 24), (25, 2147483647)] : List (Int32 × Int32)).all (fun q2 => ([((-2147483648), (-1)), (0, 0), (1, 8), (9, 9), (10, 2147483647)] : List (Int32 × Int32)).all (fun q3 => p_pair [(0, 0), q1, q2, q3] 0 10 4 213 4 [p_a 1 q1, p_a 2 q2, p_a 3 q3]))) (6, 2147483647) = true := by decide +kernel
theorem p_box8 : ∀ q1 ∈ ([((-2147483648), (-1)), (0, 0), (1, 4), (5, 5), (6, 2147483647)] : List (Int32 × Int32)), (fun q1 : Int32 × Int32 => ([((-2147483648), (-1)), (0, 0), (1, 23), (24, 24), (25, 2147483647)] : List (Int32 × Int32)).all (fun q2 => ([((-2147483648), (-1)), (0, 0), (1, 8), (9, 9), (10, 2147483647)] : List (Int32 × Int32)).all (fun q3 => p_pair [(0, 0), q1, q2, q3] 0 10 4 213 4 [p_a 1 q1, p_a 2 q2, p_a 3 q3]))) q1 = true := List.forall_mem_cons.mpr ⟨p_box8_0, List.forall_mem_cons.mpr ⟨p_box8_1, List.forall_mem_cons.mpr ⟨p_box8_2, List.forall_mem_cons.mpr ⟨p_box8_3, List.forall_mem_cons.mpr ⟨p_box8_4, fun _ h => absurd h List.not_mem_nil⟩⟩⟩⟩⟩
theorem p_op8 (x1 x2 x3 : Int32) : p_two 0 10 4 213 4 [.int x1, .int x2, .int x3] := by
  obtain ⟨q1, m1, l1, u1⟩ := p_in (L := [((-2147483648), (-1)), (0, 0), (1, 4), (5, 5), (6, 2147483647)]) (by decide +kernel) x1
  obtain ⟨q2, m2, l2, u2⟩ := p_in (L := [((-2147483648), (-1)), (0, 0), (1, 23), (24, 24), (25, 2147483647)]) (by decide +kernel) x2
  obtain ⟨q3, m3, l3, u3⟩ := p_in (L := [((-2147483648), (-1)), (0, 0), (1, 8), (9, 9), (10, 2147483647)]) (by decide +kernel) x3
  have h := p_box8 q1 m1
  replace h := List.all_eq_true.mp h q2 m2
  replace h := List.all_eq_true.mp h q3 m3
  have k := p_pair_of h (fun k => match k with | 1 => x1 | 2 => x2 | 3 => x3 | _ => 0) 0 (fun k q hq => by
    match k, hq with
    | 0, hq => cases hq; exact ⟨Int32.le_refl _, Int32.le_refl _⟩
    | 1, hq => cases hq; exact ⟨l1, u1⟩
    | 2, hq => cases hq; exact ⟨l2, u2⟩
    | 3, hq => cases hq; exact ⟨l3, u3⟩
    | n + 4, hq => simp at hq)
  simp only [List.map_cons, List.map_nil] at k
  rw [p_a_of (k := 1) (by decide) l1 u1, p_a_of (k := 2) (by decide) l2 u2, p_a_of (k := 3) (by decide) l3 u3] at k
  exact k
