theorem p_box30 : ([((-2147483648), (-1)), (0, 0), (1, 2147483647)] : List (Int32 × Int32)).all (fun q1 => ([((-2147483648), 2147483647)] : List (Int32 × Int32)).all (fun q2 => p_pair [(0, 0), q1, q2] 0 34 4 266 6 [p_a 1 q1, p_a 2 q2])) = true := by decide +kernel
theorem p_op30 (x1 x2 : Int32) : p_two 0 34 4 266 6 [.int x1, .int x2] := by
  obtain ⟨q1, m1, l1, u1⟩ := p_in (L := [((-2147483648), (-1)), (0, 0), (1, 2147483647)]) (by decide +kernel) x1
  obtain ⟨q2, m2, l2, u2⟩ := p_in (L := [((-2147483648), 2147483647)]) (by decide +kernel) x2
  have h := p_box30
  replace h := List.all_eq_true.mp h q1 m1
  replace h := List.all_eq_true.mp h q2 m2
  have k := p_pair_of h (fun k => match k with | 1 => x1 | 2 => x2 | _ => 0) 0 (fun k q hq => by
    match k, hq with
    | 0, hq => cases hq; exact ⟨Int32.le_refl _, Int32.le_refl _⟩
    | 1, hq => cases hq; exact ⟨l1, u1⟩
    | 2, hq => cases hq; exact ⟨l2, u2⟩
    | n + 3, hq => simp at hq)
  simp only [List.map_cons, List.map_nil] at k
  rw [p_a_of (k := 1) (by decide) l1 u1, p_a_of (k := 2) (by decide) l2 u2] at k
  exact k
theorem p_box31 : p_pair [(0, 0)] 1 35 4 269 4 [] = true := by decide +kernel
theorem p_op31 : p_two 1 35 4 269 4 [] := by
  exact p_pair_of p_box31 (fun _ => 0) 0 (fun k q hq => by
    match k, hq with
    | 0, hq => cases hq; exact ⟨Int32.le_refl _, Int32.le_refl _⟩
    | n + 1, hq => simp at hq)
theorem p_box32 : ([((-2147483648), 0), (1, 1), (2, 2), (3, 3), (4, 4), (5, 5), (6, 2147483647)] : List (Int32 × Int32)).all (fun q1 => p_pair [(0, 0), q1] 0 36 2 270 2 [p_a 1 q1]) = true := by decide +kernel
theorem p_op32 (x1 : Int32) : p_two 0 36 2 270 2 [.int x1] := by
  obtain ⟨q1, m1, l1, u1⟩ := p_in (L := [((-2147483648), 0), (1, 1), (2, 2), (3, 3), (4, 4), (5, 5), (6, 2147483647)]) (by decide +kernel) x1
  have h := p_box32
  replace h := List.all_eq_true.mp h q1 m1
  have k := p_pair_of h (fun k => match k with | 1 => x1 | _ => 0) 0 (fun k q hq => by
    match k, hq with
    | 0, hq => cases hq; exact ⟨Int32.le_refl _, Int32.le_refl _⟩
    | 1, hq => cases hq; exact ⟨l1, u1⟩
    | n + 2, hq => simp at hq)
  simp only [List.map_cons, List.map_nil] at k
  rw [p_a_of (k := 1) (by decide) l1 u1] at k
  exact k
theorem p_box33 : ([((-2147483648), (-1)), (0, 0), (1, 23), (24, 24), (25, 2147483647)] : List (Int32 × Int32)).all (fun q1 => p_pair [(0, 0), q1] 0 37 2 274 2 [p_a 1 q1]) = true := by decide +kernel
theorem p_op33 (x1 : Int32) : p_two 0 37 2 274 2 [.int x1] := by
  obtain ⟨q1, m1, l1, u1⟩ := p_in (L := [((-2147483648), (-1)), (0, 0), (1, 23), (24, 24), (25, 2147483647)]) (by decide +kernel) x1
  have h := p_box33
  replace h := List.all_eq_true.mp h q1 m1
  have k := p_pair_of h (fun k => match k with | 1 => x1 | _ => 0) 0 (fun k q hq => by
    match k, hq with
    | 0, hq => cases hq; exact ⟨Int32.le_refl _, Int32.le_refl _⟩
    | 1, hq => cases hq; exact ⟨l1, u1⟩
    | n + 2, hq => simp at hq)
  simp only [List.map_cons, List.map_nil] at k
  rw [p_a_of (k := 1) (by decide) l1 u1] at k
  exact k
theorem p_box34 : p_pair [(0, 0)] 1 38 4 275 4 [] = true := by decide +kernel
theorem p_op34 : p_two 1 38 4 275 4 [] := by
  exact p_pair_of p_box34 (fun _ => 0) 0 (fun k q hq => by
    match k, hq with
    | 0, hq => cases hq; exact ⟨Int32.le_refl _, Int32.le_refl _⟩
    | n + 1, hq => simp at hq)
theorem p_box35 : ([((-2147483648), (-1)), (0, 0), (1, 2147483647)] : List (Int32 × Int32)).all (fun q1 => ([((-2147483648), 2147483647)] : List (Int32 × Int32)).all (fun q2 => p_pair [(0, 0), q1, q2] 0 39 3 276 3 [p_a 1 q1, p_a 2 q2])) = true := by decide +kernel
theorem p_op35 (x1 x2 : Int32) : p_two 0 39 3 276 3 [.int x1, .int x2] := by
  obtain ⟨q1, m1, l1, u1⟩ := p_in (L := [((-2147483648), (-1)), (0, 0), (1, 2147483647)]) (by decide +kernel) x1
  obtain ⟨q2, m2, l2, u2⟩ := p_in (L := [((-2147483648), 2147483647)]) (by decide +kernel) x2
  have h := p_box35
  replace h := List.all_eq_true.mp h q1 m1
  replace h := List.all_eq_true.mp h q2 m2
  have k := p_pair_of h (fun k => match k with | 1 => x1 | 2 => x2 | _ => 0) 0 (fun k q hq => by
    match k, hq with
    | 0, hq => cases hq; exact ⟨Int32.le_refl _, Int32.le_refl _⟩
    | 1, hq => cases hq; exact ⟨l1, u1⟩
    | 2, hq => cases hq; exact ⟨l2, u2⟩
    | n + 3, hq => simp at hq)
  simp only [List.map_cons, List.map_nil] at k
  rw [p_a_of (k := 1) (by decide) l1 u1, p_a_of (k := 2) (by decide) l2 u2] at k
  exact k
theorem p_box36 : ([((-2147483648), (-1)), (0, 0), (1, 1), (2, 2), (3, 3), (4, 2147483647)] : List (Int32 × Int32)).all (fun q1 => p_pair [(0, 0), q1] 0 40 2 278 7 [p_a 1 q1]) = true := by decide +kernel
theorem p_op36 (x1 : Int32) : p_two 0 40 2 278 7 [.int x1] := by
  obtain ⟨q1, m1, l1, u1⟩ := p_in (L := [((-2147483648), (-1)), (0, 0), (1, 1), (2, 2), (3, 3), (4, 2147483647)]) (by decide +kernel) x1
  have h := p_box36
  replace h := List.all_eq_true.mp h q1 m1
  have k := p_pair_of h (fun k => match k with | 1 => x1 | _ => 0) 0 (fun k q hq => by
    match k, hq with
    | 0, hq => cases hq; exact ⟨Int32.le_refl _, Int32.le_refl _⟩
    | 1, hq => cases hq; exact ⟨l1, u1⟩
    | n + 2, hq => simp at hq)
  simp only [List.map_cons, List.map_nil] at k
  rw [p_a_of (k := 1) (by decide) l1 u1] at k
  exact k
theorem p_box37 : ([((-2147483648), (-1)), (0, 0), (1, 2147483647)] : List (Int32 × Int32)).all (fun q1 => p_pair [(0, 0), q1] 0 41 2 279 2 [p_a 1 q1]) = true := by decide +kernel
theorem p_op37 (x1 : Int32) : p_two 0 41 2 279 2 [.int x1] := by
  obtain ⟨q1, m1, l1, u1⟩ := p_in (L := [((-2147483648), (-1)), (0, 0), (1, 2147483647)]) (by decide +kernel) x1
  have h := p_box37
  replace h := List.all_eq_true.mp h q1 m1
  have k := p_pair_of h (fun k => match k with | 1 => x1 | _ => 0) 0 (fun k q hq => by
    match k, hq with
    | 0, hq => cases hq; exact ⟨Int32.le_refl _, Int32.le_refl _⟩
    | 1, hq => cases hq; exact ⟨l1, u1⟩
    | n + 2, hq => simp at hq)
  simp only [List.map_cons, List.map_nil] at k
  rw [p_a_of (k := 1) (by decide) l1 u1] at k
  exact k
theorem p_box38 : ([((-2147483648), (-2)), ((-1), (-1)), (0, 0), (1, 2147483647)] : List (Int32 × Int32)).all (fun q1 => p_pair [(0, 0), q1] 0 42 2 280 2 [p_a 1 q1]) = true := by decide +kernel
theorem p_op38 (x1 : Int32) : p_two 0 42 2 280 2 [.int x1] := by
  obtain ⟨q1, m1, l1, u1⟩ := p_in (L := [((-2147483648), (-2)), ((-1), (-1)), (0, 0), (1, 2147483647)]) (by decide +kernel) x1
  have h := p_box38
  replace h := List.all_eq_true.mp h q1 m1
  have k := p_pair_of h (fun k => match k with | 1 => x1 | _ => 0) 0 (fun k q hq => by
    match k, hq with
    | 0, hq => cases hq; exact ⟨Int32.le_refl _, Int32.le_refl _⟩
    | 1, hq => cases hq; exact ⟨l1, u1⟩
    | n + 2, hq => simp at hq)
  simp only [List.map_cons, List.map_nil] at k
  rw [p_a_of (k := 1) (by decide) l1 u1] at k
  exact k
theorem p_box39 : ([((-2147483648), (-1)), (0, 0), (1, 1), (2, 2), (3, 2147483647)] : List (Int32 × Int32)).all (fun q1 => p_pair [(0, 0), q1] 0 43 2 265 2 [p_a 1 q1]) = true := by decide +kernel
theorem p_op39 (x1 : Int32) : p_two 0 43 2 265 2 [.int x1] := by
  obtain ⟨q1, m1, l1, u1⟩ := p_in (L := [((-2147483648), (-1)), (0, 0), (1, 1), (2, 2), (3, 2147483647)]) (by decide +kernel) x1
  have h := p_box39
  replace h := List.all_eq_true.mp h q1 m1
  have k := p_pair_of h (fun k => match k with | 1 => x1 | _ => 0) 0 (fun k q hq => by
    match k, hq with
    | 0, hq => cases hq; exact ⟨Int32.le_refl _, Int32.le_refl _⟩
    | 1, hq => cases hq; exact ⟨l1, u1⟩
    | n + 2, hq => simp at hq)
  simp only [List.map_cons, List.map_nil] at k
  rw [p_a_of (k := 1) (by decide) l1 u1] at k
  exact k
theorem p_box40 : p_pair [(0, 0)] 0 44 1 283 7 [] = true := by decide +kernel
theorem p_op40 : p_two 0 44 1 283 7 [] := by
  exact p_pair_of p_box40 (fun _ => 0) 0 (fun k q hq => by
    match k, hq with
    | 0, hq => cases hq; exact ⟨Int32.le_refl _, Int32.le_refl _⟩
    | n + 1, hq => simp at hq)
theorem p_box41 : p_pair [(0, 0)] 0 45 1 284 6 [] = true := by decide +kernel
theorem p_op41 : p_two 0 45 1 284 6 [] := by
  exact p_pair_of p_box41 (fun _ => 0) 0 (fun k q hq => by
    match k, hq with
    | 0, hq => cases hq; exact ⟨Int32.le_refl _, Int32.le_refl _⟩
    | n + 1, hq => simp at hq)
theorem p_box42 : p_pair [(0, 0)] 0 46 1 285 4 [] = true := by decide +kernel
theorem p_op42 : p_two 0 46 1 285 4 [] := by
  exact p_pair_of p_box42 (fun _ => 0) 0 (fun k q hq => by
    match k, hq with
    | 0, hq => cases hq; exact ⟨Int32.le_refl _, Int32.le_refl _⟩
    | n + 1, hq => simp at hq)
theorem p_box43 : p_pair [(0, 0)] 0 47 1 286 6 [] = true := by decide +kernel
theorem p_op43 : p_two 0 47 1 286 6 [] := by
  exact p_pair_of p_box43 (fun _ => 0) 0 (fun k q hq => by
    match k, hq with
    | 0, hq => cases hq; exact ⟨Int32.le_refl _, Int32.le_refl _⟩
    | n + 1, hq => simp at hq)
theorem p_box44 : p_pair [(0, 0)] 0 48 1 288 7 [] = true := by decide +kernel
theorem p_op44 : p_two 0 48 1 288 7 [] := by
  exact p_pair_of p_box44 (fun _ => 0) 0 (fun k q hq => by
    match k, hq with
    | 0, hq => cases hq; exact ⟨Int32.le_refl _, Int32.le_refl _⟩
    | n + 1, hq => simp at hq)
theorem p_box45 : p_pair [(0, 0)] 0 49 3 291 3 [] = true := by decide +kernel
theorem p_op45 : p_two 0 49 3 291 3 [] := by
  exact p_pair_of p_box45 (fun _ => 0) 0 (fun k q hq => by
    match k, hq with
    | 0, hq => cases hq; exact ⟨Int32.le_refl _, Int32.le_refl _⟩
    | n + 1, hq => simp at hq)
theorem p_box46 : ([((-2147483648), (-1)), (0, 0), (1, 1), (2, 2), (3, 3), (4, 4), (5, 5), (6, 6), (7, 7), (8, 8), (9, 9), (10, 10), (11, 11), (12, 12), (13, 13), (14, 14), (15, 15), (16, 16), (17, 17), (18, 18), (19, 19), (20, 20), (21, 21), (22, 22), (23, 23), (24, 24), (25, 2147483647)] : List (Int32 × Int32)).all (fun q1 => p_pair [(0, 0), q1] 0 50 2 271 6 [p_a 1 q1]) = true := by decide +kernel
theorem p_op46 (x1 : Int32) : p_two 0 50 2 271 6 [.int x1] := by
  obtain ⟨q1, m1, l1, u1⟩ := p_in (L := [((-2147483648), (-1)), (0, 0), (1, 1), (2, 2), (3, 3), (4, 4), (5, 5), (6, 6), (7, 7), (8, 8), (9, 9), (10, 10), (11, 11), (12, 12), (13, 13), (14, 14), (15, 15), (16, 16), (17, 17), (18, 18), (19, 19), (20, 20), (21, 21), (22, 22), (23, 23), (24, 24), (25, 2147483647)]) (by decide +kernel) x1
  have h := p_box46
  replace h := List.all_eq_true.mp h q1 m1
  have k := p_pair_of h (fun k => match k with | 1 => x1 | _ => 0) 0 (fun k q hq => by
    match k, hq with
    | 0, hq => cases hq; exact ⟨Int32.le_refl _, Int32.le_refl _⟩
    | 1, hq => cases hq; exact ⟨l1, u1⟩
    | n + 2, hq => simp at hq)
  simp only [List.map_cons, List.map_nil] at k
  rw [p_a_of (k := 1) (by decide) l1 u1] at k
  exact k
theorem p_box47 : p_pair [(0, 0)] 0 51 2 293 2 [] = true := by decide +kernel
theorem p_op47 : p_two 0 51 2 293 2 [] := by
  exact p_pair_of p_box47 (fun _ => 0) 0 (fun k q hq => by
    match k, hq with
    | 0, hq => cases hq; exact ⟨Int32.le_refl _, Int32.le_refl _⟩
    | n + 1, hq => simp at hq)
theorem p_box48 : p_pair [(0, 0)] 0 52 2 294 2 [] = true := by decide +kernel
theorem p_op48 : p_two 0 52 2 294 2 [] := by
  exact p_pair_of p_box48 (fun _ => 0) 0 (fun k q hq => by
    match k, hq with
    | 0, hq => cases hq; exact ⟨Int32.le_refl _, Int32.le_refl _⟩
    | n + 1, hq => simp at hq)
theorem p_box49 : p_pair [(0, 0)] 0 53 2 267 2 [] = true := by decide +kernel
theorem p_op49 : p_two 0 53 2 267 2 [] := by
  exact p_pair_of p_box49 (fun _ => 0) 0 (fun k q hq => by
    match k, hq with
    | 0, hq => cases hq; exact ⟨Int32.le_refl _, Int32.le_refl _⟩
    | n + 1, hq => simp at hq)
